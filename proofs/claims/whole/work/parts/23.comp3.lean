/-! ===== LevelTables.span(IIIJ)I ===== -/
abbrev y_LT_span : MethodName := ⟨R_LT, "span", "(IIIJ)I"⟩
theorem pd_LT_span : y_LT_span.cls ≠ "java/lang/invoke/MethodHandle" ∧ y_LT_span.cls ≠ "java/lang/invoke/VarHandle" ∧ (parseMethodDescriptor y_LT_span.desc).map (fun d => d.parameters.length) = some 4 := ⟨by decide +kernel, by decide +kernel, by decide +kernel⟩
abbrev rm_LT_span : Room := { frames := 3, cells := 0, slots := 0, locals := 63 }
def f_LT_span_80 (N : Nat) (x0 : Nat) (x1 : Int32) (x2 : Int32) (x3 : Int32) (x4 : Int64) (h : zH) : Option (Int32 × zH) :=
  Option.bind (zgR h x0 1 1) fun (v1 : Nat) =>
  Option.bind (zgI h v1 3 0) fun (v2 : Int32) =>
  (if (6 : Int32) ≤ v2 then
    some ((-1 : Int32), h)
  else
    Option.bind (zgR h x0 1 1) fun (v3 : Nat) =>
    Option.bind (zck (zis h v3 3) (f_Spans_sharesStep N v3 x1 x2 h)) fun (p4 : Int32 × zH) =>
    (if p4.1 = 0 then
      Option.bind (zck (zis p4.2 x0 1) (f_LT_forget N x0  p4.2)) fun (p5 : Unit × zH) =>
      Option.bind (zgR p5.2 x0 1 1) fun (v6 : Nat) =>
      Option.bind (zck (zis p5.2 v6 3) (f_Spans_append N v6 x1 x2 x3 x4 p5.2)) fun (p7 : Int32 × zH) =>
      some (p7.1, p7.2)
    else
      some ((-1 : Int32), p4.2)))
def f_LT_span_57 (N : Nat) (x0 : Nat) (x1 : Int32) (x2 : Int32) (x3 : Int32) (x4 : Int64) (x6 : Int32) (s0 : Int32) (h : zH) : Option (Int32 × zH) :=
  (if x6 = 0 then
    some ((-1 : Int32), h)
  else
    (if s0 = 0 then
      some ((-1 : Int32), h)
    else
      (if x3 = 0 then
        f_LT_span_80 N x0 x1 x2 x3 x4 h
      else
        (if x3 = (1 : Int32) then
          f_LT_span_80 N x0 x1 x2 x3 x4 h
        else
          some ((-1 : Int32), h)))))
def f_LT_span_56 (N : Nat) (x0 : Nat) (x1 : Int32) (x2 : Int32) (x3 : Int32) (x4 : Int64) (x6 : Int32) (h : zH) : Option (Int32 × zH) :=
  f_LT_span_57 N x0 x1 x2 x3 x4 x6 (0 : Int32) h
def f_LT_span_34 (N : Nat) (x0 : Nat) (x1 : Int32) (x2 : Int32) (x3 : Int32) (x4 : Int64) (s0 : Int32) (h : zH) : Option (Int32 × zH) :=
  (if (lg_cmp x4 (0 : Int64)) < 0 then
    f_LT_span_56 N x0 x1 x2 x3 x4 s0 h
  else
    (if 0 < (lg_cmp x4 (1000000000 : Int64)) then
      f_LT_span_56 N x0 x1 x2 x3 x4 s0 h
    else
      f_LT_span_57 N x0 x1 x2 x3 x4 s0 (1 : Int32) h))
def f_LT_span_33 (N : Nat) (x0 : Nat) (x1 : Int32) (x2 : Int32) (x3 : Int32) (x4 : Int64) (h : zH) : Option (Int32 × zH) :=
  f_LT_span_34 N x0 x1 x2 x3 x4 (0 : Int32) h
def f_LT_span (N : Nat) (x0 : Nat) (x1 : Int32) (x2 : Int32) (x3 : Int32) (x4 : Int64) (h : zH) : Option (Int32 × zH) :=
  Option.bind (zgR h x0 1 0) fun (v8 : Nat) =>
  Option.bind (zck (zis h v8 2) (f_Site_isPlace N v8 x1 h)) fun (p9 : Int32 × zH) =>
  (if p9.1 = 0 then
    f_LT_span_33 N x0 x1 x2 x3 x4 p9.2
  else
    Option.bind (zgR p9.2 x0 1 0) fun (v10 : Nat) =>
    Option.bind (zck (zis p9.2 v10 2) (f_Site_isPlace N v10 x2 p9.2)) fun (p11 : Int32 × zH) =>
    (if p11.1 = 0 then
      f_LT_span_33 N x0 x1 x2 x3 x4 p11.2
    else
      (if (x2 - x1) < (2 : Int32) then
        f_LT_span_33 N x0 x1 x2 x3 x4 p11.2
      else
        f_LT_span_34 N x0 x1 x2 x3 x4 (1 : Int32) p11.2)))
theorem d_LT_span_0 : decode prog_1_method_4_code 0 = .ok (.aload_n (0), 1) := by decide +kernel
theorem d_LT_span_1 : decode prog_1_method_4_code 1 = .ok (.getfield (23), 3) := by decide +kernel
theorem d_LT_span_4 : decode prog_1_method_4_code 4 = .ok (.iload_n (1), 1) := by decide +kernel
theorem d_LT_span_5 : decode prog_1_method_4_code 5 = .ok (.invokevirtual (68), 3) := by decide +kernel
theorem d_LT_span_8 : decode prog_1_method_4_code 8 = .ok (.ifCond .eq (25), 3) := by decide +kernel
theorem d_LT_span_11 : decode prog_1_method_4_code 11 = .ok (.aload_n (0), 1) := by decide +kernel
theorem d_LT_span_12 : decode prog_1_method_4_code 12 = .ok (.getfield (23), 3) := by decide +kernel
theorem d_LT_span_15 : decode prog_1_method_4_code 15 = .ok (.iload_n (2), 1) := by decide +kernel
theorem d_LT_span_16 : decode prog_1_method_4_code 16 = .ok (.invokevirtual (68), 3) := by decide +kernel
theorem d_LT_span_19 : decode prog_1_method_4_code 19 = .ok (.ifCond .eq (14), 3) := by decide +kernel
theorem d_LT_span_22 : decode prog_1_method_4_code 22 = .ok (.iload_n (2), 1) := by decide +kernel
theorem d_LT_span_23 : decode prog_1_method_4_code 23 = .ok (.iload_n (1), 1) := by decide +kernel
theorem d_LT_span_24 : decode prog_1_method_4_code 24 = .ok (.isub, 1) := by decide +kernel
theorem d_LT_span_25 : decode prog_1_method_4_code 25 = .ok (.iconst (2), 1) := by decide +kernel
theorem d_LT_span_26 : decode prog_1_method_4_code 26 = .ok (.if_icmp .lt (7), 3) := by decide +kernel
theorem d_LT_span_29 : decode prog_1_method_4_code 29 = .ok (.iconst (1), 1) := by decide +kernel
theorem d_LT_span_30 : decode prog_1_method_4_code 30 = .ok (.goto (4), 3) := by decide +kernel
theorem d_LT_span_33 : decode prog_1_method_4_code 33 = .ok (.iconst (0), 1) := by decide +kernel
theorem d_LT_span_34 : decode prog_1_method_4_code 34 = .ok (.istore (6), 2) := by decide +kernel
theorem d_LT_span_36 : decode prog_1_method_4_code 36 = .ok (.lload (4), 2) := by decide +kernel
theorem d_LT_span_38 : decode prog_1_method_4_code 38 = .ok (.lconst (0), 1) := by decide +kernel
theorem d_LT_span_39 : decode prog_1_method_4_code 39 = .ok (.lcmp, 1) := by decide +kernel
theorem d_LT_span_40 : decode prog_1_method_4_code 40 = .ok (.ifCond .lt (16), 3) := by decide +kernel
theorem d_LT_span_43 : decode prog_1_method_4_code 43 = .ok (.lload (4), 2) := by decide +kernel
theorem d_LT_span_45 : decode prog_1_method_4_code 45 = .ok (.ldc2_w (93), 3) := by decide +kernel
theorem d_LT_span_48 : decode prog_1_method_4_code 48 = .ok (.lcmp, 1) := by decide +kernel
theorem d_LT_span_49 : decode prog_1_method_4_code 49 = .ok (.ifCond .gt (7), 3) := by decide +kernel
theorem d_LT_span_52 : decode prog_1_method_4_code 52 = .ok (.iconst (1), 1) := by decide +kernel
theorem d_LT_span_53 : decode prog_1_method_4_code 53 = .ok (.goto (4), 3) := by decide +kernel
theorem d_LT_span_56 : decode prog_1_method_4_code 56 = .ok (.iconst (0), 1) := by decide +kernel
theorem d_LT_span_57 : decode prog_1_method_4_code 57 = .ok (.istore (7), 2) := by decide +kernel
theorem d_LT_span_59 : decode prog_1_method_4_code 59 = .ok (.iload (6), 2) := by decide +kernel
theorem d_LT_span_61 : decode prog_1_method_4_code 61 = .ok (.ifCond .eq (17), 3) := by decide +kernel
theorem d_LT_span_64 : decode prog_1_method_4_code 64 = .ok (.iload (7), 2) := by decide +kernel
theorem d_LT_span_66 : decode prog_1_method_4_code 66 = .ok (.ifCond .eq (12), 3) := by decide +kernel
theorem d_LT_span_69 : decode prog_1_method_4_code 69 = .ok (.iload_n (3), 1) := by decide +kernel
theorem d_LT_span_70 : decode prog_1_method_4_code 70 = .ok (.ifCond .eq (10), 3) := by decide +kernel
theorem d_LT_span_73 : decode prog_1_method_4_code 73 = .ok (.iload_n (3), 1) := by decide +kernel
theorem d_LT_span_74 : decode prog_1_method_4_code 74 = .ok (.iconst (1), 1) := by decide +kernel
theorem d_LT_span_75 : decode prog_1_method_4_code 75 = .ok (.if_icmp .eq (5), 3) := by decide +kernel
theorem d_LT_span_78 : decode prog_1_method_4_code 78 = .ok (.iconst (-1), 1) := by decide +kernel
theorem d_LT_span_79 : decode prog_1_method_4_code 79 = .ok (.ireturn, 1) := by decide +kernel
theorem d_LT_span_80 : decode prog_1_method_4_code 80 = .ok (.aload_n (0), 1) := by decide +kernel
theorem d_LT_span_81 : decode prog_1_method_4_code 81 = .ok (.getfield (30), 3) := by decide +kernel
theorem d_LT_span_84 : decode prog_1_method_4_code 84 = .ok (.getfield (95), 3) := by decide +kernel
theorem d_LT_span_87 : decode prog_1_method_4_code 87 = .ok (.bipush (6), 2) := by decide +kernel
theorem d_LT_span_89 : decode prog_1_method_4_code 89 = .ok (.if_icmp .ge (15), 3) := by decide +kernel
theorem d_LT_span_92 : decode prog_1_method_4_code 92 = .ok (.aload_n (0), 1) := by decide +kernel
theorem d_LT_span_93 : decode prog_1_method_4_code 93 = .ok (.getfield (30), 3) := by decide +kernel
theorem d_LT_span_96 : decode prog_1_method_4_code 96 = .ok (.iload_n (1), 1) := by decide +kernel
theorem d_LT_span_97 : decode prog_1_method_4_code 97 = .ok (.iload_n (2), 1) := by decide +kernel
theorem d_LT_span_98 : decode prog_1_method_4_code 98 = .ok (.invokevirtual (99), 3) := by decide +kernel
theorem d_LT_span_101 : decode prog_1_method_4_code 101 = .ok (.ifCond .eq (5), 3) := by decide +kernel
theorem d_LT_span_104 : decode prog_1_method_4_code 104 = .ok (.iconst (-1), 1) := by decide +kernel
theorem d_LT_span_105 : decode prog_1_method_4_code 105 = .ok (.ireturn, 1) := by decide +kernel
theorem d_LT_span_106 : decode prog_1_method_4_code 106 = .ok (.aload_n (0), 1) := by decide +kernel
theorem d_LT_span_107 : decode prog_1_method_4_code 107 = .ok (.invokevirtual (79), 3) := by decide +kernel
theorem d_LT_span_110 : decode prog_1_method_4_code 110 = .ok (.aload_n (0), 1) := by decide +kernel
theorem d_LT_span_111 : decode prog_1_method_4_code 111 = .ok (.getfield (30), 3) := by decide +kernel
theorem d_LT_span_114 : decode prog_1_method_4_code 114 = .ok (.iload_n (1), 1) := by decide +kernel
theorem d_LT_span_115 : decode prog_1_method_4_code 115 = .ok (.iload_n (2), 1) := by decide +kernel
theorem d_LT_span_116 : decode prog_1_method_4_code 116 = .ok (.iload_n (3), 1) := by decide +kernel
theorem d_LT_span_117 : decode prog_1_method_4_code 117 = .ok (.lload (4), 2) := by decide +kernel
theorem d_LT_span_119 : decode prog_1_method_4_code 119 = .ok (.invokevirtual (102), 3) := by decide +kernel
theorem d_LT_span_122 : decode prog_1_method_4_code 122 = .ok (.ireturn, 1) := by decide +kernel
set_option maxHeartbeats 4000000 in
set_option maxRecDepth 100000 in
theorem k_LT_span_80 (N : Nat) {X : zX} (C : zB X prog_1_method_4_code 8 R_LT rm_LT_span) {h0 : zH} {p : Int32 × zH} (E : zR X (some .int) rm_LT_span h0 (some (.int p.1)) p.2) : ∀ (x0 : Nat) (x1 : Int32) (x2 : Int32) (x3 : Int32) (x4 : Int64) (h : zH), f_LT_span_80 N x0 x1 x2 x3 x4 h = some p → Zt X 8 0 0 80 [(0, .ref x0), (1, .int x1), (2, .int x2), (3, .int x3), (4, .long x4)] [] h := by
  intro x0 x1 x2 x3 x4 h hf
  unfold f_LT_span_80 at hf
  refine z_aload_n C 0 d_LT_span_80 rfl rfl ?_
  refine z_getR C 1 1 rfl in_LT (by decide) w_267 rfl d_LT_span_81 hf (fun v1 hf => ?_)
  refine z_getI C 3 0 rfl in_Spans (by decide) w_150 rfl d_LT_span_84 hf (fun v2 hf => ?_)
  refine z_bipush C (v := (6 : Int32)) d_LT_span_87 (by decide) ?_
  refine z_ic_ge (tgt := 104) C d_LT_span_89 (by decide) hf (fun hf => ?_) (fun hf => ?_)
  · refine z_iconst C (v := (-1 : Int32)) d_LT_span_104 (by decide) ?_
    exact z_iret C E (Nat.le_of_ble_eq_true rfl) (Nat.le_of_ble_eq_true rfl) d_LT_span_105 hf
  · refine z_aload_n C 0 d_LT_span_92 rfl rfl ?_
    refine z_getR C 1 1 rfl in_LT (by decide) w_267 rfl d_LT_span_93 hf (fun v3 hf => ?_)
    refine z_iload_n C 1 d_LT_span_96 rfl rfl ?_
    refine z_iload_n C 2 d_LT_span_97 rfl rfl ?_
    obtain ⟨p4, hc, hf⟩ := Option.bind_eq_some_iff.mp hf
    obtain ⟨hz, hc⟩ := zck_some hc
    refine z_callV C (ci := 3) (c_Spans_sharesStep N C.2.2.1 hc) rfl hz w_334 w_61 w_331 w_332 w_333 pd_Spans_sharesStep rfl ⟨(Nat.le_of_ble_eq_true rfl), (Nat.le_of_ble_eq_true rfl)⟩ ⟨(Nat.le_of_ble_eq_true rfl), (Nat.le_of_ble_eq_true rfl)⟩ rfl (Nat.le_of_ble_eq_true rfl) d_LT_span_98 (k' := 0) (n' := 0) (stk' := [.int p4.1]) rfl rfl rfl ?_
    refine z_if_eq (tgt := 106) C d_LT_span_101 (by decide) hf (fun hf => ?_) (fun hf => ?_)
    · refine z_aload_n C 0 d_LT_span_106 rfl rfl ?_
      obtain ⟨p5, hc, hf⟩ := Option.bind_eq_some_iff.mp hf
      obtain ⟨hz, hc⟩ := zck_some hc
      refine z_callV C (ci := 1) (c_LT_forget N C.2.2.1 hc) rfl hz w_312 w_57 w_309 w_311 w_0 pd_LT_forget rfl ⟨(Nat.le_of_ble_eq_true rfl), (Nat.le_of_ble_eq_true rfl)⟩ ⟨(Nat.le_of_ble_eq_true rfl), (Nat.le_of_ble_eq_true rfl)⟩ rfl (Nat.le_of_ble_eq_true rfl) d_LT_span_107 (k' := 0) (n' := 0) (stk' := []) rfl rfl rfl ?_
      refine z_aload_n C 0 d_LT_span_110 rfl rfl ?_
      refine z_getR C 1 1 rfl in_LT (by decide) w_267 rfl d_LT_span_111 hf (fun v6 hf => ?_)
      refine z_iload_n C 1 d_LT_span_114 rfl rfl ?_
      refine z_iload_n C 2 d_LT_span_115 rfl rfl ?_
      refine z_iload_n C 3 d_LT_span_116 rfl rfl ?_
      refine z_lload C 4 d_LT_span_117 rfl ?_
      obtain ⟨p7, hc, hf⟩ := Option.bind_eq_some_iff.mp hf
      obtain ⟨hz, hc⟩ := zck_some hc
      refine z_callV C (ci := 3) (c_Spans_append N C.2.2.1 hc) rfl hz w_338 w_61 w_335 w_336 w_337 pd_Spans_append rfl ⟨(Nat.le_of_ble_eq_true rfl), (Nat.le_of_ble_eq_true rfl)⟩ ⟨(Nat.le_of_ble_eq_true rfl), (Nat.le_of_ble_eq_true rfl)⟩ rfl (Nat.le_of_ble_eq_true rfl) d_LT_span_119 (k' := 0) (n' := 0) (stk' := [.int p7.1]) rfl rfl rfl ?_
      exact z_iret C E (Nat.le_of_ble_eq_true rfl) (Nat.le_of_ble_eq_true rfl) d_LT_span_122 hf
    · refine z_iconst C (v := (-1 : Int32)) d_LT_span_104 (by decide) ?_
      exact z_iret C E (Nat.le_of_ble_eq_true rfl) (Nat.le_of_ble_eq_true rfl) d_LT_span_105 hf

set_option maxHeartbeats 4000000 in
set_option maxRecDepth 100000 in
theorem k_LT_span_57 (N : Nat) {X : zX} (C : zB X prog_1_method_4_code 8 R_LT rm_LT_span) {h0 : zH} {p : Int32 × zH} (E : zR X (some .int) rm_LT_span h0 (some (.int p.1)) p.2) : ∀ (x0 : Nat) (x1 : Int32) (x2 : Int32) (x3 : Int32) (x4 : Int64) (x6 : Int32) (s0 : Int32) (h : zH), f_LT_span_57 N x0 x1 x2 x3 x4 x6 s0 h = some p → Zt X 8 0 0 57 [(0, .ref x0), (1, .int x1), (2, .int x2), (3, .int x3), (4, .long x4), (6, .int x6)] [.int s0] h := by
  intro x0 x1 x2 x3 x4 x6 s0 h hf
  unfold f_LT_span_57 at hf
  refine z_istore C (lv' := [(7, .int s0), (0, .ref x0), (1, .int x1), (2, .int x2), (3, .int x3), (4, .long x4), (6, .int x6)]) d_LT_span_57 (by decide) rfl ?_
  refine z_iload C 6 d_LT_span_59 rfl ?_
  refine z_if_eq (tgt := 78) C d_LT_span_61 (by decide) hf (fun hf => ?_) (fun hf => ?_)
  · refine z_iconst C (v := (-1 : Int32)) d_LT_span_78 (by decide) ?_
    exact z_iret C E (Nat.le_of_ble_eq_true rfl) (Nat.le_of_ble_eq_true rfl) d_LT_span_79 hf
  · refine z_iload C 0 d_LT_span_64 rfl ?_
    refine z_if_eq (tgt := 78) C d_LT_span_66 (by decide) hf (fun hf => ?_) (fun hf => ?_)
    · refine z_iconst C (v := (-1 : Int32)) d_LT_span_78 (by decide) ?_
      exact z_iret C E (Nat.le_of_ble_eq_true rfl) (Nat.le_of_ble_eq_true rfl) d_LT_span_79 hf
    · refine z_iload_n C 4 d_LT_span_69 rfl rfl ?_
      refine z_if_eq (tgt := 80) C d_LT_span_70 (by decide) hf (fun hf => ?_) (fun hf => ?_)
      · refine z_sub [1, 2, 3, 4, 5] rfl ?_
        exact k_LT_span_80 N C E _ _ _ _ _ _ hf
      · refine z_iload_n C 4 d_LT_span_73 rfl rfl ?_
        refine z_iconst C (v := (1 : Int32)) d_LT_span_74 (by decide) ?_
        refine z_ic_eq (tgt := 80) C d_LT_span_75 (by decide) hf (fun hf => ?_) (fun hf => ?_)
        · refine z_sub [1, 2, 3, 4, 5] rfl ?_
          exact k_LT_span_80 N C E _ _ _ _ _ _ hf
        · refine z_iconst C (v := (-1 : Int32)) d_LT_span_78 (by decide) ?_
          exact z_iret C E (Nat.le_of_ble_eq_true rfl) (Nat.le_of_ble_eq_true rfl) d_LT_span_79 hf

set_option maxHeartbeats 4000000 in
set_option maxRecDepth 100000 in
theorem k_LT_span_56 (N : Nat) {X : zX} (C : zB X prog_1_method_4_code 8 R_LT rm_LT_span) {h0 : zH} {p : Int32 × zH} (E : zR X (some .int) rm_LT_span h0 (some (.int p.1)) p.2) : ∀ (x0 : Nat) (x1 : Int32) (x2 : Int32) (x3 : Int32) (x4 : Int64) (x6 : Int32) (h : zH), f_LT_span_56 N x0 x1 x2 x3 x4 x6 h = some p → Zt X 8 0 0 56 [(0, .ref x0), (1, .int x1), (2, .int x2), (3, .int x3), (4, .long x4), (6, .int x6)] [] h := by
  intro x0 x1 x2 x3 x4 x6 h hf
  unfold f_LT_span_56 at hf
  refine z_iconst C (v := (0 : Int32)) d_LT_span_56 (by decide) ?_
  refine z_sub [0, 1, 2, 3, 4, 5] rfl ?_
  exact k_LT_span_57 N C E _ _ _ _ _ _ _ _ hf

set_option maxHeartbeats 4000000 in
set_option maxRecDepth 100000 in
theorem k_LT_span_34 (N : Nat) {X : zX} (C : zB X prog_1_method_4_code 8 R_LT rm_LT_span) {h0 : zH} {p : Int32 × zH} (E : zR X (some .int) rm_LT_span h0 (some (.int p.1)) p.2) : ∀ (x0 : Nat) (x1 : Int32) (x2 : Int32) (x3 : Int32) (x4 : Int64) (s0 : Int32) (h : zH), f_LT_span_34 N x0 x1 x2 x3 x4 s0 h = some p → Zt X 8 0 0 34 [(0, .ref x0), (1, .int x1), (2, .int x2), (3, .int x3), (4, .long x4)] [.int s0] h := by
  intro x0 x1 x2 x3 x4 s0 h hf
  unfold f_LT_span_34 at hf
  refine z_istore C (lv' := [(6, .int s0), (0, .ref x0), (1, .int x1), (2, .int x2), (3, .int x3), (4, .long x4)]) d_LT_span_34 (by decide) rfl ?_
  refine z_lload C 5 d_LT_span_36 rfl ?_
  refine z_lconst C (v := (0 : Int64)) d_LT_span_38 (by decide) ?_
  refine z_lcmp C d_LT_span_39 ?_
  refine z_if_lt (tgt := 56) C d_LT_span_40 (by decide) hf (fun hf => ?_) (fun hf => ?_)
  · refine z_sub [1, 2, 3, 4, 5, 0] rfl ?_
    exact k_LT_span_56 N C E _ _ _ _ _ _ _ hf
  · refine z_lload C 5 d_LT_span_43 rfl ?_
    refine z_ldc2 C d_LT_span_45 w_330 ?_
    refine z_lcmp C d_LT_span_48 ?_
    refine z_if_gt (tgt := 56) C d_LT_span_49 (by decide) hf (fun hf => ?_) (fun hf => ?_)
    · refine z_sub [1, 2, 3, 4, 5, 0] rfl ?_
      exact k_LT_span_56 N C E _ _ _ _ _ _ _ hf
    · refine z_iconst C (v := (1 : Int32)) d_LT_span_52 (by decide) ?_
      refine z_goto (tgt := 57) C d_LT_span_53 (by decide) ?_
      refine z_sub [1, 2, 3, 4, 5, 0] rfl ?_
      exact k_LT_span_57 N C E _ _ _ _ _ _ _ _ hf

set_option maxHeartbeats 4000000 in
set_option maxRecDepth 100000 in
theorem k_LT_span_33 (N : Nat) {X : zX} (C : zB X prog_1_method_4_code 8 R_LT rm_LT_span) {h0 : zH} {p : Int32 × zH} (E : zR X (some .int) rm_LT_span h0 (some (.int p.1)) p.2) : ∀ (x0 : Nat) (x1 : Int32) (x2 : Int32) (x3 : Int32) (x4 : Int64) (h : zH), f_LT_span_33 N x0 x1 x2 x3 x4 h = some p → Zt X 8 0 0 33 [(0, .ref x0), (1, .int x1), (2, .int x2), (3, .int x3), (4, .long x4)] [] h := by
  intro x0 x1 x2 x3 x4 h hf
  unfold f_LT_span_33 at hf
  refine z_iconst C (v := (0 : Int32)) d_LT_span_33 (by decide) ?_
  refine z_sub [0, 1, 2, 3, 4] rfl ?_
  exact k_LT_span_34 N C E _ _ _ _ _ _ _ hf

set_option maxHeartbeats 4000000 in
set_option maxRecDepth 100000 in
theorem k_LT_span (N : Nat) {X : zX} (C : zB X prog_1_method_4_code 8 R_LT rm_LT_span) {h0 : zH} {p : Int32 × zH} (E : zR X (some .int) rm_LT_span h0 (some (.int p.1)) p.2) : ∀ (x0 : Nat) (x1 : Int32) (x2 : Int32) (x3 : Int32) (x4 : Int64) (h : zH), f_LT_span N x0 x1 x2 x3 x4 h = some p → Zt X 8 0 0 0 [(0, .ref x0), (1, .int x1), (2, .int x2), (3, .int x3), (4, .long x4)] [] h := by
  intro x0 x1 x2 x3 x4 h hf
  unfold f_LT_span at hf
  refine z_aload_n C 0 d_LT_span_0 rfl rfl ?_
  refine z_getR C 1 0 rfl in_LT (by decide) w_266 rfl d_LT_span_1 hf (fun v8 hf => ?_)
  refine z_iload_n C 1 d_LT_span_4 rfl rfl ?_
  obtain ⟨p9, hc, hf⟩ := Option.bind_eq_some_iff.mp hf
  obtain ⟨hz, hc⟩ := zck_some hc
  refine z_callV C (ci := 2) (c_Site_isPlace N C.2.2.1 hc) rfl hz w_304 w_59 w_301 w_302 w_303 pd_Site_isPlace rfl ⟨(Nat.le_of_ble_eq_true rfl), (Nat.le_of_ble_eq_true rfl)⟩ ⟨(Nat.le_of_ble_eq_true rfl), (Nat.le_of_ble_eq_true rfl)⟩ rfl (Nat.le_of_ble_eq_true rfl) d_LT_span_5 (k' := 0) (n' := 0) (stk' := [.int p9.1]) rfl rfl rfl ?_
  refine z_if_eq (tgt := 33) C d_LT_span_8 (by decide) hf (fun hf => ?_) (fun hf => ?_)
  · refine z_sub [0, 1, 2, 3, 4] rfl ?_
    exact k_LT_span_33 N C E _ _ _ _ _ _ hf
  · refine z_aload_n C 0 d_LT_span_11 rfl rfl ?_
    refine z_getR C 1 0 rfl in_LT (by decide) w_266 rfl d_LT_span_12 hf (fun v10 hf => ?_)
    refine z_iload_n C 2 d_LT_span_15 rfl rfl ?_
    obtain ⟨p11, hc, hf⟩ := Option.bind_eq_some_iff.mp hf
    obtain ⟨hz, hc⟩ := zck_some hc
    refine z_callV C (ci := 2) (c_Site_isPlace N C.2.2.1 hc) rfl hz w_304 w_59 w_301 w_302 w_303 pd_Site_isPlace rfl ⟨(Nat.le_of_ble_eq_true rfl), (Nat.le_of_ble_eq_true rfl)⟩ ⟨(Nat.le_of_ble_eq_true rfl), (Nat.le_of_ble_eq_true rfl)⟩ rfl (Nat.le_of_ble_eq_true rfl) d_LT_span_16 (k' := 0) (n' := 0) (stk' := [.int p11.1]) rfl rfl rfl ?_
    refine z_if_eq (tgt := 33) C d_LT_span_19 (by decide) hf (fun hf => ?_) (fun hf => ?_)
    · refine z_sub [0, 1, 2, 3, 4] rfl ?_
      exact k_LT_span_33 N C E _ _ _ _ _ _ hf
    · refine z_iload_n C 2 d_LT_span_22 rfl rfl ?_
      refine z_iload_n C 1 d_LT_span_23 rfl rfl ?_
      refine z_isub C d_LT_span_24 ?_
      refine z_iconst C (v := (2 : Int32)) d_LT_span_25 (by decide) ?_
      refine z_ic_lt (tgt := 33) C d_LT_span_26 (by decide) hf (fun hf => ?_) (fun hf => ?_)
      · refine z_sub [0, 1, 2, 3, 4] rfl ?_
        exact k_LT_span_33 N C E _ _ _ _ _ _ hf
      · refine z_iconst C (v := (1 : Int32)) d_LT_span_29 (by decide) ?_
        refine z_goto (tgt := 34) C d_LT_span_30 (by decide) ?_
        refine z_sub [0, 1, 2, 3, 4] rfl ?_
        exact k_LT_span_34 N C E _ _ _ _ _ _ _ hf

theorem c_LT_span (N : Nat) {l : Launch} {D : va_G} {T : List (ClassId × FieldType)} (hT : T.map (fun q => q.2) = ztl) {x0 : Nat} {x1 : Int32} {x2 : Int32} {x3 : Int32} {x4 : Int64} {h : zH} {p : Int32 × zH} (hf : f_LT_span N x0 x1 x2 x3 x4 h = some p) : zM l y_LT_span prog_1_method_4_code 8 (some .int) rm_LT_span D T [.ref x0, .int x1, .int x2, .int x3, .long x4] h (some (.int p.1)) p.2 :=
  z_enter (by decide) hT (Nat.le_of_ble_eq_true rfl) (fun X el eD eT hin C E => k_LT_span N C E x0 x1 x2 x3 x4 h hf)
/-! ===== LevelTables.drop(I)Z ===== -/
abbrev y_LT_drop : MethodName := ⟨R_LT, "drop", "(I)Z"⟩
theorem pd_LT_drop : y_LT_drop.cls ≠ "java/lang/invoke/MethodHandle" ∧ y_LT_drop.cls ≠ "java/lang/invoke/VarHandle" ∧ (parseMethodDescriptor y_LT_drop.desc).map (fun d => d.parameters.length) = some 1 := ⟨by decide +kernel, by decide +kernel, by decide +kernel⟩
abbrev rm_LT_drop : Room := { frames := 3, cells := 0, slots := 0, locals := 63 }
def f_LT_drop (N : Nat) (x0 : Nat) (x1 : Int32) (h : zH) : Option (Int32 × zH) :=
  (if x1 < 0 then
    zrb (0 : Int32) h
  else
    Option.bind (zgR h x0 1 1) fun (v1 : Nat) =>
    Option.bind (zgI h v1 3 0) fun (v2 : Int32) =>
    (if x1 < v2 then
      Option.bind (zgR h x0 1 1) fun (v3 : Nat) =>
      Option.bind (zck (zis h v3 3) (f_Spans_takeOut N v3 x1 h)) fun (p4 : Unit × zH) =>
      Option.bind (zck (zis p4.2 x0 1) (f_LT_forget N x0  p4.2)) fun (p5 : Unit × zH) =>
      zrb (1 : Int32) p5.2
    else
      zrb (0 : Int32) h))
theorem d_LT_drop_0 : decode prog_1_method_5_code 0 = .ok (.iload_n (1), 1) := by decide +kernel
theorem d_LT_drop_1 : decode prog_1_method_5_code 1 = .ok (.ifCond .lt (14), 3) := by decide +kernel
theorem d_LT_drop_4 : decode prog_1_method_5_code 4 = .ok (.iload_n (1), 1) := by decide +kernel
theorem d_LT_drop_5 : decode prog_1_method_5_code 5 = .ok (.aload_n (0), 1) := by decide +kernel
theorem d_LT_drop_6 : decode prog_1_method_5_code 6 = .ok (.getfield (30), 3) := by decide +kernel
theorem d_LT_drop_9 : decode prog_1_method_5_code 9 = .ok (.getfield (95), 3) := by decide +kernel
theorem d_LT_drop_12 : decode prog_1_method_5_code 12 = .ok (.if_icmp .lt (5), 3) := by decide +kernel
theorem d_LT_drop_15 : decode prog_1_method_5_code 15 = .ok (.iconst (0), 1) := by decide +kernel
theorem d_LT_drop_16 : decode prog_1_method_5_code 16 = .ok (.ireturn, 1) := by decide +kernel
theorem d_LT_drop_17 : decode prog_1_method_5_code 17 = .ok (.aload_n (0), 1) := by decide +kernel
theorem d_LT_drop_18 : decode prog_1_method_5_code 18 = .ok (.getfield (30), 3) := by decide +kernel
theorem d_LT_drop_21 : decode prog_1_method_5_code 21 = .ok (.iload_n (1), 1) := by decide +kernel
theorem d_LT_drop_22 : decode prog_1_method_5_code 22 = .ok (.invokevirtual (106), 3) := by decide +kernel
theorem d_LT_drop_25 : decode prog_1_method_5_code 25 = .ok (.aload_n (0), 1) := by decide +kernel
theorem d_LT_drop_26 : decode prog_1_method_5_code 26 = .ok (.invokevirtual (79), 3) := by decide +kernel
theorem d_LT_drop_29 : decode prog_1_method_5_code 29 = .ok (.iconst (1), 1) := by decide +kernel
theorem d_LT_drop_30 : decode prog_1_method_5_code 30 = .ok (.ireturn, 1) := by decide +kernel
set_option maxHeartbeats 4000000 in
set_option maxRecDepth 100000 in
theorem k_LT_drop (N : Nat) {X : zX} (C : zB X prog_1_method_5_code 2 R_LT rm_LT_drop) {h0 : zH} {p : Int32 × zH} (E : zR X (some .boolean) rm_LT_drop h0 (some (.int p.1)) p.2) : ∀ (x0 : Nat) (x1 : Int32) (h : zH), f_LT_drop N x0 x1 h = some p → Zt X 2 0 0 0 [(0, .ref x0), (1, .int x1)] [] h := by
  intro x0 x1 h hf
  unfold f_LT_drop at hf
  refine z_iload_n C 1 d_LT_drop_0 rfl rfl ?_
  refine z_if_lt (tgt := 15) C d_LT_drop_1 (by decide) hf (fun hf => ?_) (fun hf => ?_)
  · refine z_iconst C (v := (0 : Int32)) d_LT_drop_15 (by decide) ?_
    exact z_zret C E (Nat.le_of_ble_eq_true rfl) (Nat.le_of_ble_eq_true rfl) d_LT_drop_16 hf
  · refine z_iload_n C 1 d_LT_drop_4 rfl rfl ?_
    refine z_aload_n C 0 d_LT_drop_5 rfl rfl ?_
    refine z_getR C 1 1 rfl in_LT (by decide) w_267 rfl d_LT_drop_6 hf (fun v1 hf => ?_)
    refine z_getI C 3 0 rfl in_Spans (by decide) w_150 rfl d_LT_drop_9 hf (fun v2 hf => ?_)
    refine z_ic_lt (tgt := 17) C d_LT_drop_12 (by decide) hf (fun hf => ?_) (fun hf => ?_)
    · refine z_aload_n C 0 d_LT_drop_17 rfl rfl ?_
      refine z_getR C 1 1 rfl in_LT (by decide) w_267 rfl d_LT_drop_18 hf (fun v3 hf => ?_)
      refine z_iload_n C 1 d_LT_drop_21 rfl rfl ?_
      obtain ⟨p4, hc, hf⟩ := Option.bind_eq_some_iff.mp hf
      obtain ⟨hz, hc⟩ := zck_some hc
      refine z_callV C (ci := 3) (c_Spans_takeOut N C.2.2.1 hc) rfl hz w_346 w_61 w_343 w_344 w_345 pd_Spans_takeOut rfl ⟨(Nat.le_of_ble_eq_true rfl), (Nat.le_of_ble_eq_true rfl)⟩ ⟨(Nat.le_of_ble_eq_true rfl), (Nat.le_of_ble_eq_true rfl)⟩ rfl (Nat.le_of_ble_eq_true rfl) d_LT_drop_22 (k' := 0) (n' := 0) (stk' := []) rfl rfl rfl ?_
      refine z_aload_n C 0 d_LT_drop_25 rfl rfl ?_
      obtain ⟨p5, hc, hf⟩ := Option.bind_eq_some_iff.mp hf
      obtain ⟨hz, hc⟩ := zck_some hc
      refine z_callV C (ci := 1) (c_LT_forget N C.2.2.1 hc) rfl hz w_312 w_57 w_309 w_311 w_0 pd_LT_forget rfl ⟨(Nat.le_of_ble_eq_true rfl), (Nat.le_of_ble_eq_true rfl)⟩ ⟨(Nat.le_of_ble_eq_true rfl), (Nat.le_of_ble_eq_true rfl)⟩ rfl (Nat.le_of_ble_eq_true rfl) d_LT_drop_26 (k' := 0) (n' := 0) (stk' := []) rfl rfl rfl ?_
      refine z_iconst C (v := (1 : Int32)) d_LT_drop_29 (by decide) ?_
      exact z_zret C E (Nat.le_of_ble_eq_true rfl) (Nat.le_of_ble_eq_true rfl) d_LT_drop_30 hf
    · refine z_iconst C (v := (0 : Int32)) d_LT_drop_15 (by decide) ?_
      exact z_zret C E (Nat.le_of_ble_eq_true rfl) (Nat.le_of_ble_eq_true rfl) d_LT_drop_16 hf

theorem c_LT_drop (N : Nat) {l : Launch} {D : va_G} {T : List (ClassId × FieldType)} (hT : T.map (fun q => q.2) = ztl) {x0 : Nat} {x1 : Int32} {h : zH} {p : Int32 × zH} (hf : f_LT_drop N x0 x1 h = some p) : zM l y_LT_drop prog_1_method_5_code 2 (some .boolean) rm_LT_drop D T [.ref x0, .int x1] h (some (.int p.1)) p.2 :=
  z_enter (by decide) hT (Nat.le_of_ble_eq_true rfl) (fun X el eD eT hin C E => k_LT_drop N C E x0 x1 h hf)
/-! ===== LevelTables.fixed(II)Z ===== -/
abbrev y_LT_fixed : MethodName := ⟨R_LT, "fixed", "(II)Z"⟩
theorem pd_LT_fixed : y_LT_fixed.cls ≠ "java/lang/invoke/MethodHandle" ∧ y_LT_fixed.cls ≠ "java/lang/invoke/VarHandle" ∧ (parseMethodDescriptor y_LT_fixed.desc).map (fun d => d.parameters.length) = some 2 := ⟨by decide +kernel, by decide +kernel, by decide +kernel⟩
abbrev rm_LT_fixed : Room := { frames := 3, cells := 0, slots := 0, locals := 63 }
def f_LT_fixed (N : Nat) (x0 : Nat) (x1 : Int32) (x2 : Int32) (h : zH) : Option (Int32 × zH) :=
  Option.bind (zgR h x0 1 0) fun (v1 : Nat) =>
  Option.bind (zck (zis h v1 2) (f_Site_isPlace N v1 x1 h)) fun (p2 : Int32 × zH) =>
  (if p2.1 = 0 then
    zrb (0 : Int32) p2.2
  else
    Option.bind (zgR p2.2 x0 1 0) fun (v3 : Nat) =>
    Option.bind (zck (zis p2.2 v3 2) (f_Site_isLevelOrNone N v3 x2 p2.2)) fun (p4 : Int32 × zH) =>
    (if p4.1 = 0 then
      zrb (0 : Int32) p4.2
    else
      Option.bind (zgR p4.2 x0 1 0) fun (v5 : Nat) =>
      Option.bind (zgR p4.2 v5 2 5) fun (v6 : Nat) =>
      Option.bind (zsI p4.2 0 v6 x1 x2) fun (h7 : zH) =>
      Option.bind (zck (zis h7 x0 1) (f_LT_forget N x0  h7)) fun (p8 : Unit × zH) =>
      zrb (1 : Int32) p8.2))
theorem d_LT_fixed_0 : decode prog_1_method_6_code 0 = .ok (.aload_n (0), 1) := by decide +kernel
theorem d_LT_fixed_1 : decode prog_1_method_6_code 1 = .ok (.getfield (23), 3) := by decide +kernel
theorem d_LT_fixed_4 : decode prog_1_method_6_code 4 = .ok (.iload_n (1), 1) := by decide +kernel
theorem d_LT_fixed_5 : decode prog_1_method_6_code 5 = .ok (.invokevirtual (68), 3) := by decide +kernel
theorem d_LT_fixed_8 : decode prog_1_method_6_code 8 = .ok (.ifCond .eq (14), 3) := by decide +kernel
theorem d_LT_fixed_11 : decode prog_1_method_6_code 11 = .ok (.aload_n (0), 1) := by decide +kernel
theorem d_LT_fixed_12 : decode prog_1_method_6_code 12 = .ok (.getfield (23), 3) := by decide +kernel
theorem d_LT_fixed_15 : decode prog_1_method_6_code 15 = .ok (.iload_n (2), 1) := by decide +kernel
theorem d_LT_fixed_16 : decode prog_1_method_6_code 16 = .ok (.invokevirtual (109), 3) := by decide +kernel
theorem d_LT_fixed_19 : decode prog_1_method_6_code 19 = .ok (.ifCond .ne (5), 3) := by decide +kernel
theorem d_LT_fixed_22 : decode prog_1_method_6_code 22 = .ok (.iconst (0), 1) := by decide +kernel
theorem d_LT_fixed_23 : decode prog_1_method_6_code 23 = .ok (.ireturn, 1) := by decide +kernel
theorem d_LT_fixed_24 : decode prog_1_method_6_code 24 = .ok (.aload_n (0), 1) := by decide +kernel
theorem d_LT_fixed_25 : decode prog_1_method_6_code 25 = .ok (.getfield (23), 3) := by decide +kernel
theorem d_LT_fixed_28 : decode prog_1_method_6_code 28 = .ok (.getfield (112), 3) := by decide +kernel
theorem d_LT_fixed_31 : decode prog_1_method_6_code 31 = .ok (.iload_n (1), 1) := by decide +kernel
theorem d_LT_fixed_32 : decode prog_1_method_6_code 32 = .ok (.iload_n (2), 1) := by decide +kernel
theorem d_LT_fixed_33 : decode prog_1_method_6_code 33 = .ok (.iastore, 1) := by decide +kernel
theorem d_LT_fixed_34 : decode prog_1_method_6_code 34 = .ok (.aload_n (0), 1) := by decide +kernel
theorem d_LT_fixed_35 : decode prog_1_method_6_code 35 = .ok (.invokevirtual (79), 3) := by decide +kernel
theorem d_LT_fixed_38 : decode prog_1_method_6_code 38 = .ok (.iconst (1), 1) := by decide +kernel
theorem d_LT_fixed_39 : decode prog_1_method_6_code 39 = .ok (.ireturn, 1) := by decide +kernel
set_option maxHeartbeats 4000000 in
set_option maxRecDepth 100000 in
theorem k_LT_fixed (N : Nat) {X : zX} (C : zB X prog_1_method_6_code 3 R_LT rm_LT_fixed) {h0 : zH} {p : Int32 × zH} (E : zR X (some .boolean) rm_LT_fixed h0 (some (.int p.1)) p.2) : ∀ (x0 : Nat) (x1 : Int32) (x2 : Int32) (h : zH), f_LT_fixed N x0 x1 x2 h = some p → Zt X 3 0 0 0 [(0, .ref x0), (1, .int x1), (2, .int x2)] [] h := by
  intro x0 x1 x2 h hf
  unfold f_LT_fixed at hf
  refine z_aload_n C 0 d_LT_fixed_0 rfl rfl ?_
  refine z_getR C 1 0 rfl in_LT (by decide) w_266 rfl d_LT_fixed_1 hf (fun v1 hf => ?_)
  refine z_iload_n C 1 d_LT_fixed_4 rfl rfl ?_
  obtain ⟨p2, hc, hf⟩ := Option.bind_eq_some_iff.mp hf
  obtain ⟨hz, hc⟩ := zck_some hc
  refine z_callV C (ci := 2) (c_Site_isPlace N C.2.2.1 hc) rfl hz w_304 w_59 w_301 w_302 w_303 pd_Site_isPlace rfl ⟨(Nat.le_of_ble_eq_true rfl), (Nat.le_of_ble_eq_true rfl)⟩ ⟨(Nat.le_of_ble_eq_true rfl), (Nat.le_of_ble_eq_true rfl)⟩ rfl (Nat.le_of_ble_eq_true rfl) d_LT_fixed_5 (k' := 0) (n' := 0) (stk' := [.int p2.1]) rfl rfl rfl ?_
  refine z_if_eq (tgt := 22) C d_LT_fixed_8 (by decide) hf (fun hf => ?_) (fun hf => ?_)
  · refine z_iconst C (v := (0 : Int32)) d_LT_fixed_22 (by decide) ?_
    exact z_zret C E (Nat.le_of_ble_eq_true rfl) (Nat.le_of_ble_eq_true rfl) d_LT_fixed_23 hf
  · refine z_aload_n C 0 d_LT_fixed_11 rfl rfl ?_
    refine z_getR C 1 0 rfl in_LT (by decide) w_266 rfl d_LT_fixed_12 hf (fun v3 hf => ?_)
    refine z_iload_n C 2 d_LT_fixed_15 rfl rfl ?_
    obtain ⟨p4, hc, hf⟩ := Option.bind_eq_some_iff.mp hf
    obtain ⟨hz, hc⟩ := zck_some hc
    refine z_callV C (ci := 2) (c_Site_isLevelOrNone N C.2.2.1 hc) rfl hz w_354 w_59 w_351 w_352 w_353 pd_Site_isLevelOrNone rfl ⟨(Nat.le_of_ble_eq_true rfl), (Nat.le_of_ble_eq_true rfl)⟩ ⟨(Nat.le_of_ble_eq_true rfl), (Nat.le_of_ble_eq_true rfl)⟩ rfl (Nat.le_of_ble_eq_true rfl) d_LT_fixed_16 (k' := 0) (n' := 0) (stk' := [.int p4.1]) rfl rfl rfl ?_
    refine z_if_ne (tgt := 24) C d_LT_fixed_19 (by decide) hf (fun hf => ?_) (fun hf => ?_)
    · refine z_aload_n C 0 d_LT_fixed_24 rfl rfl ?_
      refine z_getR C 1 0 rfl in_LT (by decide) w_266 rfl d_LT_fixed_25 hf (fun v5 hf => ?_)
      refine z_getR C 2 5 rfl in_Site (by decide) w_110 rfl d_LT_fixed_28 hf (fun v6 hf => ?_)
      refine z_iload_n C 1 d_LT_fixed_31 rfl rfl ?_
      refine z_iload_n C 2 d_LT_fixed_32 rfl rfl ?_
      refine z_iast C d_LT_fixed_33 hf (fun h7 hf => ?_)
      refine z_aload_n C 0 d_LT_fixed_34 rfl rfl ?_
      obtain ⟨p8, hc, hf⟩ := Option.bind_eq_some_iff.mp hf
      obtain ⟨hz, hc⟩ := zck_some hc
      refine z_callV C (ci := 1) (c_LT_forget N C.2.2.1 hc) rfl hz w_312 w_57 w_309 w_311 w_0 pd_LT_forget rfl ⟨(Nat.le_of_ble_eq_true rfl), (Nat.le_of_ble_eq_true rfl)⟩ ⟨(Nat.le_of_ble_eq_true rfl), (Nat.le_of_ble_eq_true rfl)⟩ rfl (Nat.le_of_ble_eq_true rfl) d_LT_fixed_35 (k' := 0) (n' := 0) (stk' := []) rfl rfl rfl ?_
      refine z_iconst C (v := (1 : Int32)) d_LT_fixed_38 (by decide) ?_
      exact z_zret C E (Nat.le_of_ble_eq_true rfl) (Nat.le_of_ble_eq_true rfl) d_LT_fixed_39 hf
    · refine z_iconst C (v := (0 : Int32)) d_LT_fixed_22 (by decide) ?_
      exact z_zret C E (Nat.le_of_ble_eq_true rfl) (Nat.le_of_ble_eq_true rfl) d_LT_fixed_23 hf

theorem c_LT_fixed (N : Nat) {l : Launch} {D : va_G} {T : List (ClassId × FieldType)} (hT : T.map (fun q => q.2) = ztl) {x0 : Nat} {x1 : Int32} {x2 : Int32} {h : zH} {p : Int32 × zH} (hf : f_LT_fixed N x0 x1 x2 h = some p) : zM l y_LT_fixed prog_1_method_6_code 3 (some .boolean) rm_LT_fixed D T [.ref x0, .int x1, .int x2] h (some (.int p.1)) p.2 :=
  z_enter (by decide) hT (Nat.le_of_ble_eq_true rfl) (fun X el eD eT hin C E => k_LT_fixed N C E x0 x1 x2 h hf)
/-! ===== LevelTables.slopes(III)Z ===== -/
abbrev y_LT_slopes : MethodName := ⟨R_LT, "slopes", "(III)Z"⟩
theorem pd_LT_slopes : y_LT_slopes.cls ≠ "java/lang/invoke/MethodHandle" ∧ y_LT_slopes.cls ≠ "java/lang/invoke/VarHandle" ∧ (parseMethodDescriptor y_LT_slopes.desc).map (fun d => d.parameters.length) = some 3 := ⟨by decide +kernel, by decide +kernel, by decide +kernel⟩
abbrev rm_LT_slopes : Room := { frames := 3, cells := 0, slots := 0, locals := 63 }
def f_LT_slopes (N : Nat) (x0 : Nat) (x1 : Int32) (x2 : Int32) (x3 : Int32) (h : zH) : Option (Int32 × zH) :=
  (if x1 < (1 : Int32) then
    zrb (0 : Int32) h
  else
    (if (24 : Int32) < x1 then
      zrb (0 : Int32) h
    else
      Option.bind (f_LT_within N x2 (48 : Int32) h) fun (p1 : Int32 × zH) =>
      (if p1.1 = 0 then
        zrb (0 : Int32) p1.2
      else
        Option.bind (f_LT_within N x3 x1 p1.2) fun (p2 : Int32 × zH) =>
        (if p2.1 = 0 then
          zrb (0 : Int32) p2.2
        else
          Option.bind (zgR p2.2 x0 1 0) fun (v3 : Nat) =>
          Option.bind (zp p2.2 v3 2 7 (.int x1)) fun (h4 : zH) =>
          Option.bind (zgR h4 x0 1 0) fun (v5 : Nat) =>
          Option.bind (zp h4 v5 2 8 (.int x2)) fun (h6 : zH) =>
          Option.bind (zgR h6 x0 1 0) fun (v7 : Nat) =>
          Option.bind (zp h6 v7 2 9 (.int x3)) fun (h8 : zH) =>
          Option.bind (zck (zis h8 x0 1) (f_LT_forget N x0  h8)) fun (p9 : Unit × zH) =>
          zrb (1 : Int32) p9.2))))
theorem d_LT_slopes_0 : decode prog_1_method_7_code 0 = .ok (.iload_n (1), 1) := by decide +kernel
theorem d_LT_slopes_1 : decode prog_1_method_7_code 1 = .ok (.iconst (1), 1) := by decide +kernel
theorem d_LT_slopes_2 : decode prog_1_method_7_code 2 = .ok (.if_icmp .lt (26), 3) := by decide +kernel
theorem d_LT_slopes_5 : decode prog_1_method_7_code 5 = .ok (.iload_n (1), 1) := by decide +kernel
theorem d_LT_slopes_6 : decode prog_1_method_7_code 6 = .ok (.bipush (24), 2) := by decide +kernel
theorem d_LT_slopes_8 : decode prog_1_method_7_code 8 = .ok (.if_icmp .gt (20), 3) := by decide +kernel
theorem d_LT_slopes_11 : decode prog_1_method_7_code 11 = .ok (.iload_n (2), 1) := by decide +kernel
theorem d_LT_slopes_12 : decode prog_1_method_7_code 12 = .ok (.bipush (48), 2) := by decide +kernel
theorem d_LT_slopes_14 : decode prog_1_method_7_code 14 = .ok (.invokestatic (83), 3) := by decide +kernel
theorem d_LT_slopes_17 : decode prog_1_method_7_code 17 = .ok (.ifCond .eq (11), 3) := by decide +kernel
theorem d_LT_slopes_20 : decode prog_1_method_7_code 20 = .ok (.iload_n (3), 1) := by decide +kernel
theorem d_LT_slopes_21 : decode prog_1_method_7_code 21 = .ok (.iload_n (1), 1) := by decide +kernel
theorem d_LT_slopes_22 : decode prog_1_method_7_code 22 = .ok (.invokestatic (83), 3) := by decide +kernel
theorem d_LT_slopes_25 : decode prog_1_method_7_code 25 = .ok (.ifCond .ne (5), 3) := by decide +kernel
theorem d_LT_slopes_28 : decode prog_1_method_7_code 28 = .ok (.iconst (0), 1) := by decide +kernel
theorem d_LT_slopes_29 : decode prog_1_method_7_code 29 = .ok (.ireturn, 1) := by decide +kernel
theorem d_LT_slopes_30 : decode prog_1_method_7_code 30 = .ok (.aload_n (0), 1) := by decide +kernel
theorem d_LT_slopes_31 : decode prog_1_method_7_code 31 = .ok (.getfield (23), 3) := by decide +kernel
theorem d_LT_slopes_34 : decode prog_1_method_7_code 34 = .ok (.iload_n (1), 1) := by decide +kernel
theorem d_LT_slopes_35 : decode prog_1_method_7_code 35 = .ok (.putfield (115), 3) := by decide +kernel
theorem d_LT_slopes_38 : decode prog_1_method_7_code 38 = .ok (.aload_n (0), 1) := by decide +kernel
theorem d_LT_slopes_39 : decode prog_1_method_7_code 39 = .ok (.getfield (23), 3) := by decide +kernel
theorem d_LT_slopes_42 : decode prog_1_method_7_code 42 = .ok (.iload_n (2), 1) := by decide +kernel
theorem d_LT_slopes_43 : decode prog_1_method_7_code 43 = .ok (.putfield (118), 3) := by decide +kernel
theorem d_LT_slopes_46 : decode prog_1_method_7_code 46 = .ok (.aload_n (0), 1) := by decide +kernel
theorem d_LT_slopes_47 : decode prog_1_method_7_code 47 = .ok (.getfield (23), 3) := by decide +kernel
theorem d_LT_slopes_50 : decode prog_1_method_7_code 50 = .ok (.iload_n (3), 1) := by decide +kernel
theorem d_LT_slopes_51 : decode prog_1_method_7_code 51 = .ok (.putfield (121), 3) := by decide +kernel
theorem d_LT_slopes_54 : decode prog_1_method_7_code 54 = .ok (.aload_n (0), 1) := by decide +kernel
theorem d_LT_slopes_55 : decode prog_1_method_7_code 55 = .ok (.invokevirtual (79), 3) := by decide +kernel
theorem d_LT_slopes_58 : decode prog_1_method_7_code 58 = .ok (.iconst (1), 1) := by decide +kernel
theorem d_LT_slopes_59 : decode prog_1_method_7_code 59 = .ok (.ireturn, 1) := by decide +kernel
set_option maxHeartbeats 4000000 in
set_option maxRecDepth 100000 in
theorem k_LT_slopes (N : Nat) {X : zX} (C : zB X prog_1_method_7_code 4 R_LT rm_LT_slopes) {h0 : zH} {p : Int32 × zH} (E : zR X (some .boolean) rm_LT_slopes h0 (some (.int p.1)) p.2) : ∀ (x0 : Nat) (x1 : Int32) (x2 : Int32) (x3 : Int32) (h : zH), f_LT_slopes N x0 x1 x2 x3 h = some p → Zt X 4 0 0 0 [(0, .ref x0), (1, .int x1), (2, .int x2), (3, .int x3)] [] h := by
  intro x0 x1 x2 x3 h hf
  unfold f_LT_slopes at hf
  refine z_iload_n C 1 d_LT_slopes_0 rfl rfl ?_
  refine z_iconst C (v := (1 : Int32)) d_LT_slopes_1 (by decide) ?_
  refine z_ic_lt (tgt := 28) C d_LT_slopes_2 (by decide) hf (fun hf => ?_) (fun hf => ?_)
  · refine z_iconst C (v := (0 : Int32)) d_LT_slopes_28 (by decide) ?_
    exact z_zret C E (Nat.le_of_ble_eq_true rfl) (Nat.le_of_ble_eq_true rfl) d_LT_slopes_29 hf
  · refine z_iload_n C 1 d_LT_slopes_5 rfl rfl ?_
    refine z_bipush C (v := (24 : Int32)) d_LT_slopes_6 (by decide) ?_
    refine z_ic_gt (tgt := 28) C d_LT_slopes_8 (by decide) hf (fun hf => ?_) (fun hf => ?_)
    · refine z_iconst C (v := (0 : Int32)) d_LT_slopes_28 (by decide) ?_
      exact z_zret C E (Nat.le_of_ble_eq_true rfl) (Nat.le_of_ble_eq_true rfl) d_LT_slopes_29 hf
    · refine z_iload_n C 2 d_LT_slopes_11 rfl rfl ?_
      refine z_bipush C (v := (48 : Int32)) d_LT_slopes_12 (by decide) ?_
      obtain ⟨p1, hc, hf⟩ := Option.bind_eq_some_iff.mp hf
      refine z_callS C (c_LT_within N C.2.2.1 hc) w_325 w_57 w_323 w_324 pd_LT_within rfl ⟨(Nat.le_of_ble_eq_true rfl), (Nat.le_of_ble_eq_true rfl)⟩ ⟨(Nat.le_of_ble_eq_true rfl), (Nat.le_of_ble_eq_true rfl)⟩ rfl (Nat.le_of_ble_eq_true rfl) d_LT_slopes_14 (k' := 0) (n' := 0) (stk' := [.int p1.1]) rfl rfl rfl ?_
      refine z_if_eq (tgt := 28) C d_LT_slopes_17 (by decide) hf (fun hf => ?_) (fun hf => ?_)
      · refine z_iconst C (v := (0 : Int32)) d_LT_slopes_28 (by decide) ?_
        exact z_zret C E (Nat.le_of_ble_eq_true rfl) (Nat.le_of_ble_eq_true rfl) d_LT_slopes_29 hf
      · refine z_iload_n C 3 d_LT_slopes_20 rfl rfl ?_
        refine z_iload_n C 1 d_LT_slopes_21 rfl rfl ?_
        obtain ⟨p2, hc, hf⟩ := Option.bind_eq_some_iff.mp hf
        refine z_callS C (c_LT_within N C.2.2.1 hc) w_325 w_57 w_323 w_324 pd_LT_within rfl ⟨(Nat.le_of_ble_eq_true rfl), (Nat.le_of_ble_eq_true rfl)⟩ ⟨(Nat.le_of_ble_eq_true rfl), (Nat.le_of_ble_eq_true rfl)⟩ rfl (Nat.le_of_ble_eq_true rfl) d_LT_slopes_22 (k' := 0) (n' := 0) (stk' := [.int p2.1]) rfl rfl rfl ?_
        refine z_if_ne (tgt := 30) C d_LT_slopes_25 (by decide) hf (fun hf => ?_) (fun hf => ?_)
        · refine z_aload_n C 0 d_LT_slopes_30 rfl rfl ?_
          refine z_getR C 1 0 rfl in_LT (by decide) w_266 rfl d_LT_slopes_31 hf (fun v3 hf => ?_)
          refine z_iload_n C 1 d_LT_slopes_34 rfl rfl ?_
          refine z_put C 2 7 ty_Site rfl in_Site tyok_Site nm_Site (by decide) w_114 rfl (Or.inl rfl) rfl rfl rfl d_LT_slopes_35 hf (fun h4 hf => ?_)
          refine z_aload_n C 0 d_LT_slopes_38 rfl rfl ?_
          refine z_getR C 1 0 rfl in_LT (by decide) w_266 rfl d_LT_slopes_39 hf (fun v5 hf => ?_)
          refine z_iload_n C 2 d_LT_slopes_42 rfl rfl ?_
          refine z_put C 2 8 ty_Site rfl in_Site tyok_Site nm_Site (by decide) w_117 rfl (Or.inl rfl) rfl rfl rfl d_LT_slopes_43 hf (fun h6 hf => ?_)
          refine z_aload_n C 0 d_LT_slopes_46 rfl rfl ?_
          refine z_getR C 1 0 rfl in_LT (by decide) w_266 rfl d_LT_slopes_47 hf (fun v7 hf => ?_)
          refine z_iload_n C 3 d_LT_slopes_50 rfl rfl ?_
          refine z_put C 2 9 ty_Site rfl in_Site tyok_Site nm_Site (by decide) w_120 rfl (Or.inl rfl) rfl rfl rfl d_LT_slopes_51 hf (fun h8 hf => ?_)
          refine z_aload_n C 0 d_LT_slopes_54 rfl rfl ?_
          obtain ⟨p9, hc, hf⟩ := Option.bind_eq_some_iff.mp hf
          obtain ⟨hz, hc⟩ := zck_some hc
          refine z_callV C (ci := 1) (c_LT_forget N C.2.2.1 hc) rfl hz w_312 w_57 w_309 w_311 w_0 pd_LT_forget rfl ⟨(Nat.le_of_ble_eq_true rfl), (Nat.le_of_ble_eq_true rfl)⟩ ⟨(Nat.le_of_ble_eq_true rfl), (Nat.le_of_ble_eq_true rfl)⟩ rfl (Nat.le_of_ble_eq_true rfl) d_LT_slopes_55 (k' := 0) (n' := 0) (stk' := []) rfl rfl rfl ?_
          refine z_iconst C (v := (1 : Int32)) d_LT_slopes_58 (by decide) ?_
          exact z_zret C E (Nat.le_of_ble_eq_true rfl) (Nat.le_of_ble_eq_true rfl) d_LT_slopes_59 hf
        · refine z_iconst C (v := (0 : Int32)) d_LT_slopes_28 (by decide) ?_
          exact z_zret C E (Nat.le_of_ble_eq_true rfl) (Nat.le_of_ble_eq_true rfl) d_LT_slopes_29 hf

theorem c_LT_slopes (N : Nat) {l : Launch} {D : va_G} {T : List (ClassId × FieldType)} (hT : T.map (fun q => q.2) = ztl) {x0 : Nat} {x1 : Int32} {x2 : Int32} {x3 : Int32} {h : zH} {p : Int32 × zH} (hf : f_LT_slopes N x0 x1 x2 x3 h = some p) : zM l y_LT_slopes prog_1_method_7_code 4 (some .boolean) rm_LT_slopes D T [.ref x0, .int x1, .int x2, .int x3] h (some (.int p.1)) p.2 :=
  z_enter (by decide) hT (Nat.le_of_ble_eq_true rfl) (fun X el eD eT hin C E => k_LT_slopes N C E x0 x1 x2 x3 h hf)
/-! ===== LevelTables$Reach.start()Z ===== -/
abbrev y_Reach_start : MethodName := ⟨R_Reach, "start", "()Z"⟩
theorem pd_Reach_start : y_Reach_start.cls ≠ "java/lang/invoke/MethodHandle" ∧ y_Reach_start.cls ≠ "java/lang/invoke/VarHandle" ∧ (parseMethodDescriptor y_Reach_start.desc).map (fun d => d.parameters.length) = some 0 := ⟨by decide +kernel, by decide +kernel, by decide +kernel⟩
abbrev rm_Reach_start : Room := { frames := 1, cells := 0, slots := 0, locals := 23 }
def f_Reach_start_41 (N : Nat) (rc4 : Nat → Int32 → Int32 → zH → Option (Int32 × zH)) (x0 : Nat) (x1 : Int32) (x2 : Int32) (x3 : Int32) (s0 : Nat) (s1 : Int32) (s2 : Int64) (h : zH) : Option (Int32 × zH) :=
  Option.bind (zsJ h 1 s0 s1 s2) fun (h1 : zH) =>
  rc4 x0 (x1 ||| x3) (x2 + (1 : Int32)) h1
def b_Reach_start_4 (N : Nat) (rc4 : Nat → Int32 → Int32 → zH → Option (Int32 × zH)) (x0 : Nat) (x1 : Int32) (x2 : Int32) (h : zH) : Option (Int32 × zH) :=
  Option.bind (zgR h x0 4 0) fun (v2 : Nat) =>
  Option.bind (zgI h v2 2 1) fun (v3 : Int32) =>
  (if v3 < x2 then
    zrb x1 h
  else
    Option.bind (zgR h x0 4 0) fun (v4 : Nat) =>
    Option.bind (zck (zis h v4 2) (f_Site_allows N v4 (0 : Int32) x2 h)) fun (p5 : Int32 × zH) =>
    Option.bind (zgR p5.2 x0 4 1) fun (v6 : Nat) =>
    (if p5.1 = 0 then
      f_Reach_start_41 N rc4 x0 x1 x2 p5.1 v6 x2 (0 : Int64) p5.2
    else
      f_Reach_start_41 N rc4 x0 x1 x2 p5.1 v6 x2 (-1 : Int64) p5.2))
def f_Reach_start_4 (N : Nat) : Nat → Nat → Int32 → Int32 → zH → Option (Int32 × zH)
  | 0 => fun _ _ _ _ => none
  | n + 1 => fun x0 x1 x2 h => b_Reach_start_4 N (f_Reach_start_4 N n) x0 x1 x2 h
def f_Reach_start (N : Nat) (x0 : Nat) (h : zH) : Option (Int32 × zH) :=
  f_Reach_start_4 N N x0 (0 : Int32) (0 : Int32) h
theorem d_Reach_start_0 : decode prog_4_method_3_code 0 = .ok (.iconst (0), 1) := by decide +kernel
theorem d_Reach_start_1 : decode prog_4_method_3_code 1 = .ok (.istore_n (1), 1) := by decide +kernel
theorem d_Reach_start_2 : decode prog_4_method_3_code 2 = .ok (.iconst (0), 1) := by decide +kernel
theorem d_Reach_start_3 : decode prog_4_method_3_code 3 = .ok (.istore_n (2), 1) := by decide +kernel
theorem d_Reach_start_4 : decode prog_4_method_3_code 4 = .ok (.iload_n (2), 1) := by decide +kernel
theorem d_Reach_start_5 : decode prog_4_method_3_code 5 = .ok (.aload_n (0), 1) := by decide +kernel
theorem d_Reach_start_6 : decode prog_4_method_3_code 6 = .ok (.getfield (9), 3) := by decide +kernel
theorem d_Reach_start_9 : decode prog_4_method_3_code 9 = .ok (.getfield (15), 3) := by decide +kernel
theorem d_Reach_start_12 : decode prog_4_method_3_code 12 = .ok (.if_icmp .gt (40), 3) := by decide +kernel
theorem d_Reach_start_15 : decode prog_4_method_3_code 15 = .ok (.aload_n (0), 1) := by decide +kernel
theorem d_Reach_start_16 : decode prog_4_method_3_code 16 = .ok (.getfield (9), 3) := by decide +kernel
theorem d_Reach_start_19 : decode prog_4_method_3_code 19 = .ok (.iconst (0), 1) := by decide +kernel
theorem d_Reach_start_20 : decode prog_4_method_3_code 20 = .ok (.iload_n (2), 1) := by decide +kernel
theorem d_Reach_start_21 : decode prog_4_method_3_code 21 = .ok (.invokevirtual (39), 3) := by decide +kernel
theorem d_Reach_start_24 : decode prog_4_method_3_code 24 = .ok (.istore_n (3), 1) := by decide +kernel
theorem d_Reach_start_25 : decode prog_4_method_3_code 25 = .ok (.aload_n (0), 1) := by decide +kernel
theorem d_Reach_start_26 : decode prog_4_method_3_code 26 = .ok (.getfield (21), 3) := by decide +kernel
theorem d_Reach_start_29 : decode prog_4_method_3_code 29 = .ok (.iload_n (2), 1) := by decide +kernel
theorem d_Reach_start_30 : decode prog_4_method_3_code 30 = .ok (.iload_n (3), 1) := by decide +kernel
theorem d_Reach_start_31 : decode prog_4_method_3_code 31 = .ok (.ifCond .eq (9), 3) := by decide +kernel
theorem d_Reach_start_34 : decode prog_4_method_3_code 34 = .ok (.ldc2_w (43), 3) := by decide +kernel
theorem d_Reach_start_37 : decode prog_4_method_3_code 37 = .ok (.goto (4), 3) := by decide +kernel
theorem d_Reach_start_40 : decode prog_4_method_3_code 40 = .ok (.lconst (0), 1) := by decide +kernel
theorem d_Reach_start_41 : decode prog_4_method_3_code 41 = .ok (.lastore, 1) := by decide +kernel
theorem d_Reach_start_42 : decode prog_4_method_3_code 42 = .ok (.iload_n (1), 1) := by decide +kernel
theorem d_Reach_start_43 : decode prog_4_method_3_code 43 = .ok (.iload_n (3), 1) := by decide +kernel
theorem d_Reach_start_44 : decode prog_4_method_3_code 44 = .ok (.ior, 1) := by decide +kernel
theorem d_Reach_start_45 : decode prog_4_method_3_code 45 = .ok (.istore_n (1), 1) := by decide +kernel
theorem d_Reach_start_46 : decode prog_4_method_3_code 46 = .ok (.iinc (2) (1), 3) := by decide +kernel
theorem d_Reach_start_49 : decode prog_4_method_3_code 49 = .ok (.goto (-45), 3) := by decide +kernel
theorem d_Reach_start_52 : decode prog_4_method_3_code 52 = .ok (.iload_n (1), 1) := by decide +kernel
theorem d_Reach_start_53 : decode prog_4_method_3_code 53 = .ok (.ireturn, 1) := by decide +kernel
set_option maxHeartbeats 4000000 in
set_option maxRecDepth 100000 in
theorem k_Reach_start_41 (N : Nat) {X : zX} (C : zB X prog_4_method_3_code 4 R_Reach rm_Reach_start) {h0 : zH} {p : Int32 × zH} (E : zR X (some .boolean) rm_Reach_start h0 (some (.int p.1)) p.2) {rc4 : Nat → Int32 → Int32 → zH → Option (Int32 × zH)} (H4 : ∀ (x0 : Nat) (x1 : Int32) (x2 : Int32) (h : zH), rc4 x0 x1 x2 h = some p → Zt X 4 0 0 4 [(0, .ref x0), (1, .int x1), (2, .int x2)] [] h) : ∀ (x0 : Nat) (x1 : Int32) (x2 : Int32) (x3 : Int32) (s0 : Nat) (s1 : Int32) (s2 : Int64) (h : zH), f_Reach_start_41 N rc4 x0 x1 x2 x3 s0 s1 s2 h = some p → Zt X 4 0 0 41 [(0, .ref x0), (1, .int x1), (2, .int x2), (3, .int x3)] [.long s2, .int s1, .ref s0] h := by
  intro x0 x1 x2 x3 s0 s1 s2 h hf
  unfold f_Reach_start_41 at hf
  refine z_last C d_Reach_start_41 hf (fun h1 hf => ?_)
  refine z_iload_n C 1 d_Reach_start_42 rfl rfl ?_
  refine z_iload_n C 3 d_Reach_start_43 rfl rfl ?_
  refine z_ior C d_Reach_start_44 ?_
  refine z_istore_n C (lv' := [(1, .int (x1 ||| x3)), (0, .ref x0), (2, .int x2), (3, .int x3)]) d_Reach_start_45 rfl (by decide) rfl ?_
  refine z_iinc C (v := (x2 + (1 : Int32))) (lv' := [(2, .int (x2 + (1 : Int32))), (1, .int (x1 ||| x3)), (0, .ref x0), (3, .int x3)]) 2 d_Reach_start_46 rfl (by rfl) (by decide) rfl ?_
  refine z_goto (tgt := 4) C d_Reach_start_49 (by decide) ?_
  refine z_sub [2, 1, 0] rfl ?_
  exact H4 _ _ _ _ hf

set_option maxHeartbeats 4000000 in
set_option maxRecDepth 100000 in
theorem k_Reach_start_4 (N : Nat) {X : zX} (C : zB X prog_4_method_3_code 4 R_Reach rm_Reach_start) {h0 : zH} {p : Int32 × zH} (E : zR X (some .boolean) rm_Reach_start h0 (some (.int p.1)) p.2) : ∀ n : Nat, ∀ (x0 : Nat) (x1 : Int32) (x2 : Int32) (h : zH), f_Reach_start_4 N n x0 x1 x2 h = some p → Zt X 4 0 0 4 [(0, .ref x0), (1, .int x1), (2, .int x2)] [] h := by
  intro n
  induction n with
  | zero => intro x0 x1 x2 h hf; cases hf
  | succ n ih =>
  intro x0 x1 x2 h hf
  have H4 := ih
  replace hf : b_Reach_start_4 N (f_Reach_start_4 N n) x0 x1 x2 h = some p := hf
  unfold b_Reach_start_4 at hf
  refine z_iload_n C 2 d_Reach_start_4 rfl rfl ?_
  refine z_aload_n C 0 d_Reach_start_5 rfl rfl ?_
  refine z_getR C 4 0 rfl in_Reach (by decide) w_179 rfl d_Reach_start_6 hf (fun v2 hf => ?_)
  refine z_getI C 2 1 rfl in_Site (by decide) w_98 rfl d_Reach_start_9 hf (fun v3 hf => ?_)
  refine z_ic_gt (tgt := 52) C d_Reach_start_12 (by decide) hf (fun hf => ?_) (fun hf => ?_)
  · refine z_iload_n C 1 d_Reach_start_52 rfl rfl ?_
    exact z_zret C E (Nat.le_of_ble_eq_true rfl) (Nat.le_of_ble_eq_true rfl) d_Reach_start_53 hf
  · refine z_aload_n C 0 d_Reach_start_15 rfl rfl ?_
    refine z_getR C 4 0 rfl in_Reach (by decide) w_179 rfl d_Reach_start_16 hf (fun v4 hf => ?_)
    refine z_iconst C (v := (0 : Int32)) d_Reach_start_19 (by decide) ?_
    refine z_iload_n C 2 d_Reach_start_20 rfl rfl ?_
    obtain ⟨p5, hc, hf⟩ := Option.bind_eq_some_iff.mp hf
    obtain ⟨hz, hc⟩ := zck_some hc
    refine z_callV C (ci := 2) (c_Site_allows N C.2.2.1 hc) rfl hz w_375 w_59 w_372 w_373 w_374 pd_Site_allows rfl ⟨(Nat.le_of_ble_eq_true rfl), (Nat.le_of_ble_eq_true rfl)⟩ ⟨(Nat.le_of_ble_eq_true rfl), (Nat.le_of_ble_eq_true rfl)⟩ rfl (Nat.le_of_ble_eq_true rfl) d_Reach_start_21 (k' := 0) (n' := 0) (stk' := [.int p5.1]) rfl rfl rfl ?_
    refine z_istore_n C (lv' := [(3, .int p5.1), (0, .ref x0), (1, .int x1), (2, .int x2)]) d_Reach_start_24 rfl (by decide) rfl ?_
    refine z_aload_n C 1 d_Reach_start_25 rfl rfl ?_
    refine z_getR C 4 1 rfl in_Reach (by decide) w_180 rfl d_Reach_start_26 hf (fun v6 hf => ?_)
    refine z_iload_n C 3 d_Reach_start_29 rfl rfl ?_
    refine z_iload_n C 0 d_Reach_start_30 rfl rfl ?_
    refine z_if_eq (tgt := 40) C d_Reach_start_31 (by decide) hf (fun hf => ?_) (fun hf => ?_)
    · refine z_lconst C (v := (0 : Int64)) d_Reach_start_40 (by decide) ?_
      refine z_sub [1, 2, 3, 0] rfl ?_
      exact k_Reach_start_41 N C E H4 _ _ _ _ _ _ _ _ hf
    · refine z_ldc2 C d_Reach_start_34 w_376 ?_
      refine z_goto (tgt := 41) C d_Reach_start_37 (by decide) ?_
      refine z_sub [1, 2, 3, 0] rfl ?_
      exact k_Reach_start_41 N C E H4 _ _ _ _ _ _ _ _ hf

set_option maxHeartbeats 4000000 in
set_option maxRecDepth 100000 in
theorem k_Reach_start (N : Nat) {X : zX} (C : zB X prog_4_method_3_code 4 R_Reach rm_Reach_start) {h0 : zH} {p : Int32 × zH} (E : zR X (some .boolean) rm_Reach_start h0 (some (.int p.1)) p.2) : ∀ (x0 : Nat) (h : zH), f_Reach_start N x0 h = some p → Zt X 4 0 0 0 [(0, .ref x0)] [] h := by
  intro x0 h hf
  unfold f_Reach_start at hf
  refine z_iconst C (v := (0 : Int32)) d_Reach_start_0 (by decide) ?_
  refine z_istore_n C (lv' := [(1, .int (0 : Int32)), (0, .ref x0)]) d_Reach_start_1 rfl (by decide) rfl ?_
  refine z_iconst C (v := (0 : Int32)) d_Reach_start_2 (by decide) ?_
  refine z_istore_n C (lv' := [(2, .int (0 : Int32)), (1, .int (0 : Int32)), (0, .ref x0)]) d_Reach_start_3 rfl (by decide) rfl ?_
  refine z_sub [2, 1, 0] rfl ?_
  exact k_Reach_start_4 N C E N _ _ _ _ hf

theorem c_Reach_start (N : Nat) {l : Launch} {D : va_G} {T : List (ClassId × FieldType)} (hT : T.map (fun q => q.2) = ztl) {x0 : Nat} {h : zH} {p : Int32 × zH} (hf : f_Reach_start N x0 h = some p) : zM l y_Reach_start prog_4_method_3_code 4 (some .boolean) rm_Reach_start D T [.ref x0] h (some (.int p.1)) p.2 :=
  z_enter (by decide) hT (Nat.le_of_ble_eq_true rfl) (fun X el eD eT hin C E => k_Reach_start N C E x0 h hf)
/-! ===== LevelTables$Reach.canStep(III)Z ===== -/
abbrev y_Reach_canStep : MethodName := ⟨R_Reach, "canStep", "(III)Z"⟩
theorem pd_Reach_canStep : y_Reach_canStep.cls ≠ "java/lang/invoke/MethodHandle" ∧ y_Reach_canStep.cls ≠ "java/lang/invoke/VarHandle" ∧ (parseMethodDescriptor y_Reach_canStep.desc).map (fun d => d.parameters.length) = some 3 := ⟨by decide +kernel, by decide +kernel, by decide +kernel⟩
abbrev rm_Reach_canStep : Room := { frames := 2, cells := 0, slots := 0, locals := 43 }
def f_Reach_canStep (N : Nat) (x0 : Nat) (x1 : Int32) (x2 : Int32) (x3 : Int32) (h : zH) : Option (Int32 × zH) :=
  Option.bind (zgR h x0 4 0) fun (v1 : Nat) =>
  Option.bind (zck (zis h v1 2) (f_Site_slopeFits N v1 (x3 - x2) h)) fun (p2 : Int32 × zH) =>
  (if p2.1 = 0 then
    zrb (0 : Int32) p2.2
  else
    Option.bind (zgR p2.2 x0 4 0) fun (v3 : Nat) =>
    Option.bind (zck (zis p2.2 v3 2) (f_Site_allows N v3 (x1 + (1 : Int32)) x3 p2.2)) fun (p4 : Int32 × zH) =>
    (if p4.1 = 0 then
      zrb (0 : Int32) p4.2
    else
      zrb (1 : Int32) p4.2))
theorem d_Reach_canStep_0 : decode prog_4_method_5_code 0 = .ok (.aload_n (0), 1) := by decide +kernel
theorem d_Reach_canStep_1 : decode prog_4_method_5_code 1 = .ok (.getfield (9), 3) := by decide +kernel
theorem d_Reach_canStep_4 : decode prog_4_method_5_code 4 = .ok (.iload_n (3), 1) := by decide +kernel
theorem d_Reach_canStep_5 : decode prog_4_method_5_code 5 = .ok (.iload_n (2), 1) := by decide +kernel
theorem d_Reach_canStep_6 : decode prog_4_method_5_code 6 = .ok (.isub, 1) := by decide +kernel
theorem d_Reach_canStep_7 : decode prog_4_method_5_code 7 = .ok (.invokevirtual (66), 3) := by decide +kernel
theorem d_Reach_canStep_10 : decode prog_4_method_5_code 10 = .ok (.ifCond .eq (21), 3) := by decide +kernel
theorem d_Reach_canStep_13 : decode prog_4_method_5_code 13 = .ok (.aload_n (0), 1) := by decide +kernel
theorem d_Reach_canStep_14 : decode prog_4_method_5_code 14 = .ok (.getfield (9), 3) := by decide +kernel
theorem d_Reach_canStep_17 : decode prog_4_method_5_code 17 = .ok (.iload_n (1), 1) := by decide +kernel
theorem d_Reach_canStep_18 : decode prog_4_method_5_code 18 = .ok (.iconst (1), 1) := by decide +kernel
theorem d_Reach_canStep_19 : decode prog_4_method_5_code 19 = .ok (.iadd, 1) := by decide +kernel
theorem d_Reach_canStep_20 : decode prog_4_method_5_code 20 = .ok (.iload_n (3), 1) := by decide +kernel
theorem d_Reach_canStep_21 : decode prog_4_method_5_code 21 = .ok (.invokevirtual (39), 3) := by decide +kernel
theorem d_Reach_canStep_24 : decode prog_4_method_5_code 24 = .ok (.ifCond .eq (7), 3) := by decide +kernel
theorem d_Reach_canStep_27 : decode prog_4_method_5_code 27 = .ok (.iconst (1), 1) := by decide +kernel
theorem d_Reach_canStep_28 : decode prog_4_method_5_code 28 = .ok (.goto (4), 3) := by decide +kernel
theorem d_Reach_canStep_31 : decode prog_4_method_5_code 31 = .ok (.iconst (0), 1) := by decide +kernel
theorem d_Reach_canStep_32 : decode prog_4_method_5_code 32 = .ok (.ireturn, 1) := by decide +kernel
set_option maxHeartbeats 4000000 in
set_option maxRecDepth 100000 in
theorem k_Reach_canStep (N : Nat) {X : zX} (C : zB X prog_4_method_5_code 4 R_Reach rm_Reach_canStep) {h0 : zH} {p : Int32 × zH} (E : zR X (some .boolean) rm_Reach_canStep h0 (some (.int p.1)) p.2) : ∀ (x0 : Nat) (x1 : Int32) (x2 : Int32) (x3 : Int32) (h : zH), f_Reach_canStep N x0 x1 x2 x3 h = some p → Zt X 4 0 0 0 [(0, .ref x0), (1, .int x1), (2, .int x2), (3, .int x3)] [] h := by
  intro x0 x1 x2 x3 h hf
  unfold f_Reach_canStep at hf
  refine z_aload_n C 0 d_Reach_canStep_0 rfl rfl ?_
  refine z_getR C 4 0 rfl in_Reach (by decide) w_179 rfl d_Reach_canStep_1 hf (fun v1 hf => ?_)
  refine z_iload_n C 3 d_Reach_canStep_4 rfl rfl ?_
  refine z_iload_n C 2 d_Reach_canStep_5 rfl rfl ?_
  refine z_isub C d_Reach_canStep_6 ?_
  obtain ⟨p2, hc, hf⟩ := Option.bind_eq_some_iff.mp hf
  obtain ⟨hz, hc⟩ := zck_some hc
  refine z_callV C (ci := 2) (c_Site_slopeFits N C.2.2.1 hc) rfl hz w_405 w_59 w_402 w_403 w_404 pd_Site_slopeFits rfl ⟨(Nat.le_of_ble_eq_true rfl), (Nat.le_of_ble_eq_true rfl)⟩ ⟨(Nat.le_of_ble_eq_true rfl), (Nat.le_of_ble_eq_true rfl)⟩ rfl (Nat.le_of_ble_eq_true rfl) d_Reach_canStep_7 (k' := 0) (n' := 0) (stk' := [.int p2.1]) rfl rfl rfl ?_
  refine z_if_eq (tgt := 31) C d_Reach_canStep_10 (by decide) hf (fun hf => ?_) (fun hf => ?_)
  · refine z_iconst C (v := (0 : Int32)) d_Reach_canStep_31 (by decide) ?_
    exact z_zret C E (Nat.le_of_ble_eq_true rfl) (Nat.le_of_ble_eq_true rfl) d_Reach_canStep_32 hf
  · refine z_aload_n C 0 d_Reach_canStep_13 rfl rfl ?_
    refine z_getR C 4 0 rfl in_Reach (by decide) w_179 rfl d_Reach_canStep_14 hf (fun v3 hf => ?_)
    refine z_iload_n C 1 d_Reach_canStep_17 rfl rfl ?_
    refine z_iconst C (v := (1 : Int32)) d_Reach_canStep_18 (by decide) ?_
    refine z_iadd C d_Reach_canStep_19 ?_
    refine z_iload_n C 3 d_Reach_canStep_20 rfl rfl ?_
    obtain ⟨p4, hc, hf⟩ := Option.bind_eq_some_iff.mp hf
    obtain ⟨hz, hc⟩ := zck_some hc
    refine z_callV C (ci := 2) (c_Site_allows N C.2.2.1 hc) rfl hz w_375 w_59 w_372 w_373 w_374 pd_Site_allows rfl ⟨(Nat.le_of_ble_eq_true rfl), (Nat.le_of_ble_eq_true rfl)⟩ ⟨(Nat.le_of_ble_eq_true rfl), (Nat.le_of_ble_eq_true rfl)⟩ rfl (Nat.le_of_ble_eq_true rfl) d_Reach_canStep_21 (k' := 0) (n' := 0) (stk' := [.int p4.1]) rfl rfl rfl ?_
    refine z_if_eq (tgt := 31) C d_Reach_canStep_24 (by decide) hf (fun hf => ?_) (fun hf => ?_)
    · refine z_iconst C (v := (0 : Int32)) d_Reach_canStep_31 (by decide) ?_
      exact z_zret C E (Nat.le_of_ble_eq_true rfl) (Nat.le_of_ble_eq_true rfl) d_Reach_canStep_32 hf
    · refine z_iconst C (v := (1 : Int32)) d_Reach_canStep_27 (by decide) ?_
      refine z_goto (tgt := 32) C d_Reach_canStep_28 (by decide) ?_
      exact z_zret C E (Nat.le_of_ble_eq_true rfl) (Nat.le_of_ble_eq_true rfl) d_Reach_canStep_32 hf

theorem c_Reach_canStep (N : Nat) {l : Launch} {D : va_G} {T : List (ClassId × FieldType)} (hT : T.map (fun q => q.2) = ztl) {x0 : Nat} {x1 : Int32} {x2 : Int32} {x3 : Int32} {h : zH} {p : Int32 × zH} (hf : f_Reach_canStep N x0 x1 x2 x3 h = some p) : zM l y_Reach_canStep prog_4_method_5_code 4 (some .boolean) rm_Reach_canStep D T [.ref x0, .int x1, .int x2, .int x3] h (some (.int p.1)) p.2 :=
  z_enter (by decide) hT (Nat.le_of_ble_eq_true rfl) (fun X el eD eT hin C E => k_Reach_canStep N C E x0 x1 x2 x3 h hf)
/-! ===== LevelTables.bestSearch()LLevelTables$Search; ===== -/
abbrev y_LT_bestSearch : MethodName := ⟨R_LT, "bestSearch", "()LLevelTables$Search;"⟩
theorem pd_LT_bestSearch : y_LT_bestSearch.cls ≠ "java/lang/invoke/MethodHandle" ∧ y_LT_bestSearch.cls ≠ "java/lang/invoke/VarHandle" ∧ (parseMethodDescriptor y_LT_bestSearch.desc).map (fun d => d.parameters.length) = some 0 := ⟨by decide +kernel, by decide +kernel, by decide +kernel⟩
abbrev rm_LT_bestSearch : Room := { frames := 2, cells := 29, slots := 94086, locals := 43 }
def f_LT_bestSearch_27 (N : Nat) (x0 : Nat) (h : zH) : Option (Nat × zH) :=
  Option.bind (zgR h x0 1 6) fun (v1 : Nat) =>
  some (v1, h)
def f_LT_bestSearch (N : Nat) (x0 : Nat) (h : zH) : Option (Nat × zH) :=
  Option.bind (zgQ h x0 1 6) fun q => (if q.isSome = true then
    f_LT_bestSearch_27 N x0 h
  else
    Option.bind (znO h 8 df_Search) fun (q2 : Nat × zH) =>
    Option.bind (zgR q2.2 x0 1 0) fun (v3 : Nat) =>
    Option.bind (zgR q2.2 x0 1 1) fun (v4 : Nat) =>
    Option.bind (f_Search_init N q2.1 v3 v4 (1 : Int32) q2.2) fun (p5 : Unit × zH) =>
    Option.bind (zp p5.2 x0 1 6 (.ref q2.1)) fun (h6 : zH) =>
    f_LT_bestSearch_27 N x0 h6)
theorem d_LT_bestSearch_0 : decode prog_1_method_23_code 0 = .ok (.aload_n (0), 1) := by decide +kernel
theorem d_LT_bestSearch_1 : decode prog_1_method_23_code 1 = .ok (.getfield (238), 3) := by decide +kernel
theorem d_LT_bestSearch_4 : decode prog_1_method_23_code 4 = .ok (.ifnonnull (23), 3) := by decide +kernel
theorem d_LT_bestSearch_7 : decode prog_1_method_23_code 7 = .ok (.aload_n (0), 1) := by decide +kernel
theorem d_LT_bestSearch_8 : decode prog_1_method_23_code 8 = .ok (.new (133), 3) := by decide +kernel
theorem d_LT_bestSearch_11 : decode prog_1_method_23_code 11 = .ok (.dup, 1) := by decide +kernel
theorem d_LT_bestSearch_12 : decode prog_1_method_23_code 12 = .ok (.aload_n (0), 1) := by decide +kernel
theorem d_LT_bestSearch_13 : decode prog_1_method_23_code 13 = .ok (.getfield (23), 3) := by decide +kernel
theorem d_LT_bestSearch_16 : decode prog_1_method_23_code 16 = .ok (.aload_n (0), 1) := by decide +kernel
theorem d_LT_bestSearch_17 : decode prog_1_method_23_code 17 = .ok (.getfield (30), 3) := by decide +kernel
theorem d_LT_bestSearch_20 : decode prog_1_method_23_code 20 = .ok (.iconst (1), 1) := by decide +kernel
theorem d_LT_bestSearch_21 : decode prog_1_method_23_code 21 = .ok (.invokespecial (167), 3) := by decide +kernel
theorem d_LT_bestSearch_24 : decode prog_1_method_23_code 24 = .ok (.putfield (238), 3) := by decide +kernel
theorem d_LT_bestSearch_27 : decode prog_1_method_23_code 27 = .ok (.aload_n (0), 1) := by decide +kernel
theorem d_LT_bestSearch_28 : decode prog_1_method_23_code 28 = .ok (.getfield (238), 3) := by decide +kernel
theorem d_LT_bestSearch_31 : decode prog_1_method_23_code 31 = .ok (.areturn, 1) := by decide +kernel
set_option maxHeartbeats 4000000 in
set_option maxRecDepth 100000 in
theorem k_LT_bestSearch_27 (N : Nat) {X : zX} (C : zB X prog_1_method_23_code 1 R_LT rm_LT_bestSearch) {h0 : zH} {p : Nat × zH} (E : zR X (some (.object "LevelTables$Search")) rm_LT_bestSearch h0 (some (.ref p.1)) p.2) : ∀ (x0 : Nat) (h : zH), f_LT_bestSearch_27 N x0 h = some p → Zt X 1 29 94086 27 [(0, .ref x0)] [] h := by
  intro x0 h hf
  unfold f_LT_bestSearch_27 at hf
  refine z_aload_n C 0 d_LT_bestSearch_27 rfl rfl ?_
  refine z_getR C 1 6 rfl in_LT (by decide) w_272 rfl d_LT_bestSearch_28 hf (fun v1 hf => ?_)
  exact z_aret C E (Nat.le_of_ble_eq_true rfl) (Nat.le_of_ble_eq_true rfl) d_LT_bestSearch_31 hf

set_option maxHeartbeats 4000000 in
set_option maxRecDepth 100000 in
theorem k_LT_bestSearch (N : Nat) {X : zX} (C : zB X prog_1_method_23_code 1 R_LT rm_LT_bestSearch) {h0 : zH} {p : Nat × zH} (E : zR X (some (.object "LevelTables$Search")) rm_LT_bestSearch h0 (some (.ref p.1)) p.2) : ∀ (x0 : Nat) (h : zH), f_LT_bestSearch N x0 h = some p → Zt X 1 0 0 0 [(0, .ref x0)] [] h := by
  intro x0 h hf
  unfold f_LT_bestSearch at hf
  refine z_aload_n C 0 d_LT_bestSearch_0 rfl rfl ?_
  refine z_getQ (tgt := 27) C 1 6 rfl in_LT (by decide) w_272 rfl d_LT_bestSearch_1 d_LT_bestSearch_4 (by decide) hf (fun hf => ?_) (fun hf => ?_)
  · refine z_sub [0] rfl ?_
    refine z_widen (k' := 29) (n' := 94086) (Nat.le_of_ble_eq_true rfl) (Nat.le_of_ble_eq_true rfl) ?_
    exact k_LT_bestSearch_27 N C E _ _ hf
  · refine z_aload_n C 0 d_LT_bestSearch_7 rfl rfl ?_
    refine z_newO C 8 ty_Search rfl in_Search tyok_Search w_413 w_414 w_67 df_Search_ok (Nat.le_of_ble_eq_true rfl) (Nat.le_of_ble_eq_true rfl) d_LT_bestSearch_8 hf (fun q2 hf => ?_)
    refine z_dup C d_LT_bestSearch_11 rfl ?_
    refine z_aload_n C 0 d_LT_bestSearch_12 rfl rfl ?_
    refine z_getR C 1 0 rfl in_LT (by decide) w_266 rfl d_LT_bestSearch_13 hf (fun v3 hf => ?_)
    refine z_aload_n C 0 d_LT_bestSearch_16 rfl rfl ?_
    refine z_getR C 1 1 rfl in_LT (by decide) w_267 rfl d_LT_bestSearch_17 hf (fun v4 hf => ?_)
    refine z_iconst C (v := (1 : Int32)) d_LT_bestSearch_20 (by decide) ?_
    obtain ⟨p5, hc, hf⟩ := Option.bind_eq_some_iff.mp hf
    refine z_callI C (c_Search_init N C.2.2.1 hc) w_417 w_67 w_415 w_416 rfl pd_Search_init rfl ⟨(Nat.le_of_ble_eq_true rfl), (Nat.le_of_ble_eq_true rfl)⟩ ⟨(Nat.le_of_ble_eq_true rfl), (Nat.le_of_ble_eq_true rfl)⟩ rfl (Nat.le_of_ble_eq_true rfl) d_LT_bestSearch_21 (k' := 29) (n' := 94086) rfl rfl ?_
    refine z_put C 1 6 ty_LT rfl in_LT tyok_LT nm_LT (by decide) w_272 rfl (Or.inl rfl) rfl rfl rfl d_LT_bestSearch_24 hf (fun h6 hf => ?_)
    refine z_sub [0] rfl ?_
    exact k_LT_bestSearch_27 N C E _ _ hf

theorem c_LT_bestSearch (N : Nat) {l : Launch} {D : va_G} {T : List (ClassId × FieldType)} (hT : T.map (fun q => q.2) = ztl) {x0 : Nat} {h : zH} {p : Nat × zH} (hf : f_LT_bestSearch N x0 h = some p) : zM l y_LT_bestSearch prog_1_method_23_code 1 (some (.object "LevelTables$Search")) rm_LT_bestSearch D T [.ref x0] h (some (.ref p.1)) p.2 :=
  z_enter (by decide) hT (Nat.le_of_ble_eq_true rfl) (fun X el eD eT hin C E => k_LT_bestSearch N C E x0 h hf)
/-! ===== LevelTables$Search.earthValue(II)J ===== -/
abbrev y_Search_earthValue : MethodName := ⟨R_Search, "earthValue", "(II)J"⟩
theorem pd_Search_earthValue : y_Search_earthValue.cls ≠ "java/lang/invoke/MethodHandle" ∧ y_Search_earthValue.cls ≠ "java/lang/invoke/VarHandle" ∧ (parseMethodDescriptor y_Search_earthValue.desc).map (fun d => d.parameters.length) = some 2 := ⟨by decide +kernel, by decide +kernel, by decide +kernel⟩
abbrev rm_Search_earthValue : Room := { frames := 1, cells := 0, slots := 0, locals := 23 }
def f_Search_earthValue (N : Nat) (x0 : Nat) (x1 : Int32) (x2 : Int32) (h : zH) : Option (Int64 × zH) :=
  Option.bind (zgJ h x0 8 5) fun (v1 : Int64) =>
  Option.bind (zgR h x0 8 0) fun (v2 : Nat) =>
  Option.bind (zck (zis h v2 2) (f_Site_earthCents N v2 x1 x2 h)) fun (p3 : Int64 × zH) =>
  some ((v1 * p3.1), p3.2)
theorem d_Search_earthValue_0 : decode prog_5_method_14_code 0 = .ok (.aload_n (0), 1) := by decide +kernel
theorem d_Search_earthValue_1 : decode prog_5_method_14_code 1 = .ok (.getfield (40), 3) := by decide +kernel
theorem d_Search_earthValue_4 : decode prog_5_method_14_code 4 = .ok (.aload_n (0), 1) := by decide +kernel
theorem d_Search_earthValue_5 : decode prog_5_method_14_code 5 = .ok (.getfield (15), 3) := by decide +kernel
theorem d_Search_earthValue_8 : decode prog_5_method_14_code 8 = .ok (.iload_n (1), 1) := by decide +kernel
theorem d_Search_earthValue_9 : decode prog_5_method_14_code 9 = .ok (.iload_n (2), 1) := by decide +kernel
theorem d_Search_earthValue_10 : decode prog_5_method_14_code 10 = .ok (.invokevirtual (159), 3) := by decide +kernel
theorem d_Search_earthValue_13 : decode prog_5_method_14_code 13 = .ok (.lmul, 1) := by decide +kernel
theorem d_Search_earthValue_14 : decode prog_5_method_14_code 14 = .ok (.lreturn, 1) := by decide +kernel
set_option maxHeartbeats 4000000 in
set_option maxRecDepth 100000 in
theorem k_Search_earthValue (N : Nat) {X : zX} (C : zB X prog_5_method_14_code 3 R_Search rm_Search_earthValue) {h0 : zH} {p : Int64 × zH} (E : zR X (some .long) rm_Search_earthValue h0 (some (.long p.1)) p.2) : ∀ (x0 : Nat) (x1 : Int32) (x2 : Int32) (h : zH), f_Search_earthValue N x0 x1 x2 h = some p → Zt X 3 0 0 0 [(0, .ref x0), (1, .int x1), (2, .int x2)] [] h := by
  intro x0 x1 x2 h hf
  unfold f_Search_earthValue at hf
  refine z_aload_n C 0 d_Search_earthValue_0 rfl rfl ?_
  refine z_getJ C 8 5 rfl in_Search (by decide) w_427 rfl d_Search_earthValue_1 hf (fun v1 hf => ?_)
  refine z_aload_n C 0 d_Search_earthValue_4 rfl rfl ?_
  refine z_getR C 8 0 rfl in_Search (by decide) w_422 rfl d_Search_earthValue_5 hf (fun v2 hf => ?_)
  refine z_iload_n C 1 d_Search_earthValue_8 rfl rfl ?_
  refine z_iload_n C 2 d_Search_earthValue_9 rfl rfl ?_
  obtain ⟨p3, hc, hf⟩ := Option.bind_eq_some_iff.mp hf
  obtain ⟨hz, hc⟩ := zck_some hc
  refine z_callV C (ci := 2) (c_Site_earthCents N C.2.2.1 hc) rfl hz w_482 w_59 w_479 w_480 w_481 pd_Site_earthCents rfl ⟨(Nat.le_of_ble_eq_true rfl), (Nat.le_of_ble_eq_true rfl)⟩ ⟨(Nat.le_of_ble_eq_true rfl), (Nat.le_of_ble_eq_true rfl)⟩ rfl (Nat.le_of_ble_eq_true rfl) d_Search_earthValue_10 (k' := 0) (n' := 0) (stk' := [.long p3.1, .long v1]) rfl rfl rfl ?_
  refine z_lmul C d_Search_earthValue_13 ?_
  exact z_lret C E (Nat.le_of_ble_eq_true rfl) (Nat.le_of_ble_eq_true rfl) d_Search_earthValue_14 hf

theorem c_Search_earthValue (N : Nat) {l : Launch} {D : va_G} {T : List (ClassId × FieldType)} (hT : T.map (fun q => q.2) = ztl) {x0 : Nat} {x1 : Int32} {x2 : Int32} {h : zH} {p : Int64 × zH} (hf : f_Search_earthValue N x0 x1 x2 h = some p) : zM l y_Search_earthValue prog_5_method_14_code 3 (some .long) rm_Search_earthValue D T [.ref x0, .int x1, .int x2] h (some (.long p.1)) p.2 :=
  z_enter (by decide) hT (Nat.le_of_ble_eq_true rfl) (fun X el eD eT hin C E => k_Search_earthValue N C E x0 x1 x2 h hf)
/-! ===== LevelTables$Search.merge([JI[JIJ)V ===== -/
abbrev y_Search_merge : MethodName := ⟨R_Search, "merge", "([JI[JIJ)V"⟩
theorem pd_Search_merge : y_Search_merge.cls ≠ "java/lang/invoke/MethodHandle" ∧ y_Search_merge.cls ≠ "java/lang/invoke/VarHandle" ∧ (parseMethodDescriptor y_Search_merge.desc).map (fun d => d.parameters.length) = some 5 := ⟨by decide +kernel, by decide +kernel, by decide +kernel⟩
abbrev rm_Search_merge : Room := { frames := 1, cells := 0, slots := 0, locals := 27 }
def b_Search_merge_3 (N : Nat) (rc3 : Nat → Nat → Int32 → Nat → Int32 → Int64 → Int32 → zH → Option (Unit × zH)) (x0 : Nat) (x1 : Nat) (x2 : Int32) (x3 : Nat) (x4 : Int32) (x5 : Int64) (x7 : Int32) (h : zH) : Option (Unit × zH) :=
  Option.bind (zgI h x0 8 3) fun (v1 : Int32) =>
  (if v1 ≤ x7 then
    some ((), h)
  else
    Option.bind (zaJ h 1 x3 (x4 + x7)) fun (v2 : Int64) =>
    (if 0 ≤ (lg_cmp v2 (1152921504606846976 : Int64)) then
      some ((), h)
    else
      Option.bind (zgI h x0 8 3) fun (v3 : Int32) =>
      Option.bind (zaJ h 1 x1 ((x2 + v3) - (1 : Int32))) fun (v4 : Int64) =>
      (if (lg_cmp (v2 + x5) v4) ≤ 0 then
        Option.bind (zck (zis h x0 8) (f_Search_insert N x0 x1 x2 (v2 + x5) h)) fun (p5 : Unit × zH) =>
        rc3 x0 x1 x2 x3 x4 x5 (x7 + (1 : Int32)) p5.2
      else
        some ((), h))))
def f_Search_merge_3 (N : Nat) : Nat → Nat → Nat → Int32 → Nat → Int32 → Int64 → Int32 → zH → Option (Unit × zH)
  | 0 => fun _ _ _ _ _ _ _ _ => none
  | n + 1 => fun x0 x1 x2 x3 x4 x5 x7 h => b_Search_merge_3 N (f_Search_merge_3 N n) x0 x1 x2 x3 x4 x5 x7 h
def f_Search_merge (N : Nat) (x0 : Nat) (x1 : Nat) (x2 : Int32) (x3 : Nat) (x4 : Int32) (x5 : Int64) (h : zH) : Option (Unit × zH) :=
  f_Search_merge_3 N N x0 x1 x2 x3 x4 x5 (0 : Int32) h
theorem d_Search_merge_0 : decode prog_5_method_17_code 0 = .ok (.iconst (0), 1) := by decide +kernel
theorem d_Search_merge_1 : decode prog_5_method_17_code 1 = .ok (.istore (7), 2) := by decide +kernel
theorem d_Search_merge_3 : decode prog_5_method_17_code 3 = .ok (.iload (7), 2) := by decide +kernel
theorem d_Search_merge_5 : decode prog_5_method_17_code 5 = .ok (.aload_n (0), 1) := by decide +kernel
theorem d_Search_merge_6 : decode prog_5_method_17_code 6 = .ok (.getfield (23), 3) := by decide +kernel
theorem d_Search_merge_9 : decode prog_5_method_17_code 9 = .ok (.if_icmp .ge (58), 3) := by decide +kernel
theorem d_Search_merge_12 : decode prog_5_method_17_code 12 = .ok (.aload_n (3), 1) := by decide +kernel
theorem d_Search_merge_13 : decode prog_5_method_17_code 13 = .ok (.iload (4), 2) := by decide +kernel
theorem d_Search_merge_15 : decode prog_5_method_17_code 15 = .ok (.iload (7), 2) := by decide +kernel
theorem d_Search_merge_17 : decode prog_5_method_17_code 17 = .ok (.iadd, 1) := by decide +kernel
theorem d_Search_merge_18 : decode prog_5_method_17_code 18 = .ok (.laload, 1) := by decide +kernel
theorem d_Search_merge_19 : decode prog_5_method_17_code 19 = .ok (.lstore (8), 2) := by decide +kernel
theorem d_Search_merge_21 : decode prog_5_method_17_code 21 = .ok (.lload (8), 2) := by decide +kernel
theorem d_Search_merge_23 : decode prog_5_method_17_code 23 = .ok (.ldc2_w (78), 3) := by decide +kernel
theorem d_Search_merge_26 : decode prog_5_method_17_code 26 = .ok (.lcmp, 1) := by decide +kernel
theorem d_Search_merge_27 : decode prog_5_method_17_code 27 = .ok (.ifCond .ge (22), 3) := by decide +kernel
theorem d_Search_merge_30 : decode prog_5_method_17_code 30 = .ok (.lload (8), 2) := by decide +kernel
theorem d_Search_merge_32 : decode prog_5_method_17_code 32 = .ok (.lload (5), 2) := by decide +kernel
theorem d_Search_merge_34 : decode prog_5_method_17_code 34 = .ok (.ladd, 1) := by decide +kernel
theorem d_Search_merge_35 : decode prog_5_method_17_code 35 = .ok (.aload_n (1), 1) := by decide +kernel
theorem d_Search_merge_36 : decode prog_5_method_17_code 36 = .ok (.iload_n (2), 1) := by decide +kernel
theorem d_Search_merge_37 : decode prog_5_method_17_code 37 = .ok (.aload_n (0), 1) := by decide +kernel
theorem d_Search_merge_38 : decode prog_5_method_17_code 38 = .ok (.getfield (23), 3) := by decide +kernel
theorem d_Search_merge_41 : decode prog_5_method_17_code 41 = .ok (.iadd, 1) := by decide +kernel
theorem d_Search_merge_42 : decode prog_5_method_17_code 42 = .ok (.iconst (1), 1) := by decide +kernel
theorem d_Search_merge_43 : decode prog_5_method_17_code 43 = .ok (.isub, 1) := by decide +kernel
theorem d_Search_merge_44 : decode prog_5_method_17_code 44 = .ok (.laload, 1) := by decide +kernel
theorem d_Search_merge_45 : decode prog_5_method_17_code 45 = .ok (.lcmp, 1) := by decide +kernel
theorem d_Search_merge_46 : decode prog_5_method_17_code 46 = .ok (.ifCond .le (4), 3) := by decide +kernel
theorem d_Search_merge_49 : decode prog_5_method_17_code 49 = .ok (.return_, 1) := by decide +kernel
theorem d_Search_merge_50 : decode prog_5_method_17_code 50 = .ok (.aload_n (0), 1) := by decide +kernel
theorem d_Search_merge_51 : decode prog_5_method_17_code 51 = .ok (.aload_n (1), 1) := by decide +kernel
theorem d_Search_merge_52 : decode prog_5_method_17_code 52 = .ok (.iload_n (2), 1) := by decide +kernel
theorem d_Search_merge_53 : decode prog_5_method_17_code 53 = .ok (.lload (8), 2) := by decide +kernel
theorem d_Search_merge_55 : decode prog_5_method_17_code 55 = .ok (.lload (5), 2) := by decide +kernel
theorem d_Search_merge_57 : decode prog_5_method_17_code 57 = .ok (.ladd, 1) := by decide +kernel
theorem d_Search_merge_58 : decode prog_5_method_17_code 58 = .ok (.invokevirtual (185), 3) := by decide +kernel
theorem d_Search_merge_61 : decode prog_5_method_17_code 61 = .ok (.iinc (7) (1), 3) := by decide +kernel
theorem d_Search_merge_64 : decode prog_5_method_17_code 64 = .ok (.goto (-61), 3) := by decide +kernel
theorem d_Search_merge_67 : decode prog_5_method_17_code 67 = .ok (.return_, 1) := by decide +kernel
set_option maxHeartbeats 4000000 in
set_option maxRecDepth 100000 in
theorem k_Search_merge_3 (N : Nat) {X : zX} (C : zB X prog_5_method_17_code 10 R_Search rm_Search_merge) {h0 : zH} {p : Unit × zH} (E : zR X none rm_Search_merge h0 none p.2) : ∀ n : Nat, ∀ (x0 : Nat) (x1 : Nat) (x2 : Int32) (x3 : Nat) (x4 : Int32) (x5 : Int64) (x7 : Int32) (h : zH), f_Search_merge_3 N n x0 x1 x2 x3 x4 x5 x7 h = some p → Zt X 10 0 0 3 [(0, .ref x0), (1, .ref x1), (2, .int x2), (3, .ref x3), (4, .int x4), (5, .long x5), (7, .int x7)] [] h := by
  intro n
  induction n with
  | zero => intro x0 x1 x2 x3 x4 x5 x7 h hf; cases hf
  | succ n ih =>
  intro x0 x1 x2 x3 x4 x5 x7 h hf
  have H3 := ih
  replace hf : b_Search_merge_3 N (f_Search_merge_3 N n) x0 x1 x2 x3 x4 x5 x7 h = some p := hf
  unfold b_Search_merge_3 at hf
  refine z_iload C 6 d_Search_merge_3 rfl ?_
  refine z_aload_n C 0 d_Search_merge_5 rfl rfl ?_
  refine z_getI C 8 3 rfl in_Search (by decide) w_425 rfl d_Search_merge_6 hf (fun v1 hf => ?_)
  refine z_ic_ge (tgt := 67) C d_Search_merge_9 (by decide) hf (fun hf => ?_) (fun hf => ?_)
  · exact z_vret C E (Nat.le_of_ble_eq_true rfl) (Nat.le_of_ble_eq_true rfl) d_Search_merge_67 hf
  · refine z_aload_n C 3 d_Search_merge_12 rfl rfl ?_
    refine z_iload C 4 d_Search_merge_13 rfl ?_
    refine z_iload C 6 d_Search_merge_15 rfl ?_
    refine z_iadd C d_Search_merge_17 ?_
    refine z_lald C d_Search_merge_18 hf (fun v2 hf => ?_)
    refine z_lstore C (lv' := [(8, .long v2), (0, .ref x0), (1, .ref x1), (2, .int x2), (3, .ref x3), (4, .int x4), (5, .long x5), (7, .int x7)]) d_Search_merge_19 (by decide) rfl ?_
    refine z_lload C 0 d_Search_merge_21 rfl ?_
    refine z_ldc2 C d_Search_merge_23 w_468 ?_
    refine z_lcmp C d_Search_merge_26 ?_
    refine z_if_ge (tgt := 49) C d_Search_merge_27 (by decide) hf (fun hf => ?_) (fun hf => ?_)
    · exact z_vret C E (Nat.le_of_ble_eq_true rfl) (Nat.le_of_ble_eq_true rfl) d_Search_merge_49 hf
    · refine z_lload C 0 d_Search_merge_30 rfl ?_
      refine z_lload C 6 d_Search_merge_32 rfl ?_
      refine z_ladd C d_Search_merge_34 ?_
      refine z_aload_n C 2 d_Search_merge_35 rfl rfl ?_
      refine z_iload_n C 3 d_Search_merge_36 rfl rfl ?_
      refine z_aload_n C 1 d_Search_merge_37 rfl rfl ?_
      refine z_getI C 8 3 rfl in_Search (by decide) w_425 rfl d_Search_merge_38 hf (fun v3 hf => ?_)
      refine z_iadd C d_Search_merge_41 ?_
      refine z_iconst C (v := (1 : Int32)) d_Search_merge_42 (by decide) ?_
      refine z_isub C d_Search_merge_43 ?_
      refine z_lald C d_Search_merge_44 hf (fun v4 hf => ?_)
      refine z_lcmp C d_Search_merge_45 ?_
      refine z_if_le (tgt := 50) C d_Search_merge_46 (by decide) hf (fun hf => ?_) (fun hf => ?_)
      · refine z_aload_n C 1 d_Search_merge_50 rfl rfl ?_
        refine z_aload_n C 2 d_Search_merge_51 rfl rfl ?_
        refine z_iload_n C 3 d_Search_merge_52 rfl rfl ?_
        refine z_lload C 0 d_Search_merge_53 rfl ?_
        refine z_lload C 6 d_Search_merge_55 rfl ?_
        refine z_ladd C d_Search_merge_57 ?_
        obtain ⟨p5, hc, hf⟩ := Option.bind_eq_some_iff.mp hf
        obtain ⟨hz, hc⟩ := zck_some hc
        refine z_callV C (ci := 8) (c_Search_insert N C.2.2.1 hc) rfl hz w_510 w_67 w_507 w_509 w_14 pd_Search_insert rfl ⟨(Nat.le_of_ble_eq_true rfl), (Nat.le_of_ble_eq_true rfl)⟩ ⟨(Nat.le_of_ble_eq_true rfl), (Nat.le_of_ble_eq_true rfl)⟩ rfl (Nat.le_of_ble_eq_true rfl) d_Search_merge_58 (k' := 0) (n' := 0) (stk' := []) rfl rfl rfl ?_
        refine z_iinc C (v := (x7 + (1 : Int32))) (lv' := [(7, .int (x7 + (1 : Int32))), (8, .long v2), (0, .ref x0), (1, .ref x1), (2, .int x2), (3, .ref x3), (4, .int x4), (5, .long x5)]) 7 d_Search_merge_61 rfl (by rfl) (by decide) rfl ?_
        refine z_goto (tgt := 3) C d_Search_merge_64 (by decide) ?_
        refine z_sub [2, 3, 4, 5, 6, 7, 0] rfl ?_
        exact H3 _ _ _ _ _ _ _ _ hf
      · exact z_vret C E (Nat.le_of_ble_eq_true rfl) (Nat.le_of_ble_eq_true rfl) d_Search_merge_49 hf

set_option maxHeartbeats 4000000 in
set_option maxRecDepth 100000 in
theorem k_Search_merge (N : Nat) {X : zX} (C : zB X prog_5_method_17_code 10 R_Search rm_Search_merge) {h0 : zH} {p : Unit × zH} (E : zR X none rm_Search_merge h0 none p.2) : ∀ (x0 : Nat) (x1 : Nat) (x2 : Int32) (x3 : Nat) (x4 : Int32) (x5 : Int64) (h : zH), f_Search_merge N x0 x1 x2 x3 x4 x5 h = some p → Zt X 10 0 0 0 [(0, .ref x0), (1, .ref x1), (2, .int x2), (3, .ref x3), (4, .int x4), (5, .long x5)] [] h := by
  intro x0 x1 x2 x3 x4 x5 h hf
  unfold f_Search_merge at hf
  refine z_iconst C (v := (0 : Int32)) d_Search_merge_0 (by decide) ?_
  refine z_istore C (lv' := [(7, .int (0 : Int32)), (0, .ref x0), (1, .ref x1), (2, .int x2), (3, .ref x3), (4, .int x4), (5, .long x5)]) d_Search_merge_1 (by decide) rfl ?_
  refine z_sub [1, 2, 3, 4, 5, 6, 0] rfl ?_
  exact k_Search_merge_3 N C E N _ _ _ _ _ _ _ _ hf

theorem c_Search_merge (N : Nat) {l : Launch} {D : va_G} {T : List (ClassId × FieldType)} (hT : T.map (fun q => q.2) = ztl) {x0 : Nat} {x1 : Nat} {x2 : Int32} {x3 : Nat} {x4 : Int32} {x5 : Int64} {h : zH} {p : Unit × zH} (hf : f_Search_merge N x0 x1 x2 x3 x4 x5 h = some p) : zM l y_Search_merge prog_5_method_17_code 10 none rm_Search_merge D T [.ref x0, .ref x1, .int x2, .ref x3, .int x4, .long x5] h none p.2 :=
  z_enter (by decide) hT (Nat.le_of_ble_eq_true rfl) (fun X el eD eT hin C E => k_Search_merge N C E x0 x1 x2 x3 x4 x5 h hf)
/-! ===== LevelTables$Search.addSpan(III)V ===== -/
abbrev y_Search_addSpan : MethodName := ⟨R_Search, "addSpan", "(III)V"⟩
theorem pd_Search_addSpan : y_Search_addSpan.cls ≠ "java/lang/invoke/MethodHandle" ∧ y_Search_addSpan.cls ≠ "java/lang/invoke/VarHandle" ∧ (parseMethodDescriptor y_Search_addSpan.desc).map (fun d => d.parameters.length) = some 3 := ⟨by decide +kernel, by decide +kernel, by decide +kernel⟩
abbrev rm_Search_addSpan : Room := { frames := 2, cells := 0, slots := 0, locals := 56 }
def f_Search_addSpan (N : Nat) (x0 : Nat) (x1 : Int32) (x2 : Int32) (x3 : Int32) (h : zH) : Option (Unit × zH) :=
  (if x1 = (-1 : Int32) then
    some ((), h)
  else
    Option.bind (zgR h x0 8 1) fun (v1 : Nat) =>
    Option.bind (zgR h v1 3 2) fun (v2 : Nat) =>
    Option.bind (zaI h 0 v2 x1) fun (v3 : Int32) =>
    Option.bind (zgR h x0 8 1) fun (v4 : Nat) =>
    Option.bind (zgR h v4 3 1) fun (v5 : Nat) =>
    Option.bind (zaI h 0 v5 x1) fun (v6 : Int32) =>
    Option.bind (zgR h x0 8 0) fun (v7 : Nat) =>
    Option.bind (zck (zis h v7 2) (f_Site_isLevel N v7 (x2 + ((x3 - x2) * (v3 - v6))) h)) fun (p8 : Int32 × zH) =>
    (if p8.1 = 0 then
      some ((), p8.2)
    else
      Option.bind (zgR p8.2 x0 8 1) fun (v9 : Nat) =>
      Option.bind (zgR p8.2 x0 8 0) fun (v10 : Nat) =>
      Option.bind (zck (zis p8.2 v9 3) (f_Spans_suits N v9 v10 x1 x2 (x3 - x2) p8.2)) fun (p11 : Int32 × zH) =>
      (if p11.1 = 0 then
        some ((), p11.2)
      else
        Option.bind (zgR p11.2 x0 8 1) fun (v12 : Nat) =>
        Option.bind (zgR p11.2 v12 3 1) fun (v13 : Nat) =>
        Option.bind (zaI p11.2 0 v13 x1) fun (v14 : Int32) =>
        Option.bind (zck (zis p11.2 x0 8) (f_Search_earthValue N x0 v14 x2 p11.2)) fun (p15 : Int64 × zH) =>
        Option.bind (zgJ p15.2 x0 8 5) fun (v16 : Int64) =>
        Option.bind (zgR p15.2 x0 8 1) fun (v17 : Nat) =>
        Option.bind (zgR p15.2 v17 3 4) fun (v18 : Nat) =>
        Option.bind (zaJ p15.2 1 v18 x1) fun (v19 : Int64) =>
        Option.bind (zgJ p15.2 x0 8 6) fun (v20 : Int64) =>
        Option.bind (zgR p15.2 x0 8 7) fun (v21 : Nat) =>
        Option.bind (zgR p15.2 x0 8 1) fun (v22 : Nat) =>
        Option.bind (zgR p15.2 v22 3 2) fun (v23 : Nat) =>
        Option.bind (zaI p15.2 0 v23 x1) fun (v24 : Int32) =>
        Option.bind (zck (zis p15.2 x0 8) (f_Search_slotOfEnd N x0 v24 p15.2)) fun (p25 : Int32 × zH) =>
        Option.bind (zaR p25.2 3 v21 p25.1) fun (v26 : Nat) =>
        Option.bind (zgR p25.2 x0 8 8) fun (v27 : Nat) =>
        Option.bind (zgI p25.2 x0 8 3) fun (v28 : Int32) =>
        Option.bind (zck (zis p25.2 x0 8) (f_Search_indexOf N x0 (x2 + ((x3 - x2) * (v3 - v6))) ((x2 + ((x3 - x2) * (v3 - v6))) - (x3 - x2)) p25.2)) fun (p29 : Int32 × zH) =>
        Option.bind (zck (zis p29.2 x0 8) (f_Search_merge N x0 v27 (x3 * v28) v26 p29.1 ((p15.1 + (v16 * v19)) + ((v20 * (Int32.toInt64 (v3 - v6))) * (Int32.toInt64 (zabs (x3 - x2))))) p29.2)) fun (p30 : Unit × zH) =>
        some ((), p30.2))))
theorem d_Search_addSpan_0 : decode prog_5_method_16_code 0 = .ok (.iload_n (1), 1) := by decide +kernel
theorem d_Search_addSpan_1 : decode prog_5_method_16_code 1 = .ok (.iconst (-1), 1) := by decide +kernel
theorem d_Search_addSpan_2 : decode prog_5_method_16_code 2 = .ok (.if_icmp .ne (4), 3) := by decide +kernel
theorem d_Search_addSpan_5 : decode prog_5_method_16_code 5 = .ok (.return_, 1) := by decide +kernel
theorem d_Search_addSpan_6 : decode prog_5_method_16_code 6 = .ok (.iload_n (3), 1) := by decide +kernel
theorem d_Search_addSpan_7 : decode prog_5_method_16_code 7 = .ok (.iload_n (2), 1) := by decide +kernel
theorem d_Search_addSpan_8 : decode prog_5_method_16_code 8 = .ok (.isub, 1) := by decide +kernel
theorem d_Search_addSpan_9 : decode prog_5_method_16_code 9 = .ok (.istore (4), 2) := by decide +kernel
theorem d_Search_addSpan_11 : decode prog_5_method_16_code 11 = .ok (.aload_n (0), 1) := by decide +kernel
theorem d_Search_addSpan_12 : decode prog_5_method_16_code 12 = .ok (.getfield (19), 3) := by decide +kernel
theorem d_Search_addSpan_15 : decode prog_5_method_16_code 15 = .ok (.getfield (165), 3) := by decide +kernel
theorem d_Search_addSpan_18 : decode prog_5_method_16_code 18 = .ok (.iload_n (1), 1) := by decide +kernel
theorem d_Search_addSpan_19 : decode prog_5_method_16_code 19 = .ok (.iaload, 1) := by decide +kernel
theorem d_Search_addSpan_20 : decode prog_5_method_16_code 20 = .ok (.aload_n (0), 1) := by decide +kernel
theorem d_Search_addSpan_21 : decode prog_5_method_16_code 21 = .ok (.getfield (19), 3) := by decide +kernel
theorem d_Search_addSpan_24 : decode prog_5_method_16_code 24 = .ok (.getfield (169), 3) := by decide +kernel
theorem d_Search_addSpan_27 : decode prog_5_method_16_code 27 = .ok (.iload_n (1), 1) := by decide +kernel
theorem d_Search_addSpan_28 : decode prog_5_method_16_code 28 = .ok (.iaload, 1) := by decide +kernel
theorem d_Search_addSpan_29 : decode prog_5_method_16_code 29 = .ok (.isub, 1) := by decide +kernel
theorem d_Search_addSpan_30 : decode prog_5_method_16_code 30 = .ok (.istore (5), 2) := by decide +kernel
theorem d_Search_addSpan_32 : decode prog_5_method_16_code 32 = .ok (.iload_n (2), 1) := by decide +kernel
theorem d_Search_addSpan_33 : decode prog_5_method_16_code 33 = .ok (.iload (4), 2) := by decide +kernel
theorem d_Search_addSpan_35 : decode prog_5_method_16_code 35 = .ok (.iload (5), 2) := by decide +kernel
theorem d_Search_addSpan_37 : decode prog_5_method_16_code 37 = .ok (.imul, 1) := by decide +kernel
theorem d_Search_addSpan_38 : decode prog_5_method_16_code 38 = .ok (.iadd, 1) := by decide +kernel
theorem d_Search_addSpan_39 : decode prog_5_method_16_code 39 = .ok (.istore (6), 2) := by decide +kernel
theorem d_Search_addSpan_41 : decode prog_5_method_16_code 41 = .ok (.aload_n (0), 1) := by decide +kernel
theorem d_Search_addSpan_42 : decode prog_5_method_16_code 42 = .ok (.getfield (15), 3) := by decide +kernel
theorem d_Search_addSpan_45 : decode prog_5_method_16_code 45 = .ok (.iload (6), 2) := by decide +kernel
theorem d_Search_addSpan_47 : decode prog_5_method_16_code 47 = .ok (.invokevirtual (172), 3) := by decide +kernel
theorem d_Search_addSpan_50 : decode prog_5_method_16_code 50 = .ok (.ifCond .eq (21), 3) := by decide +kernel
theorem d_Search_addSpan_53 : decode prog_5_method_16_code 53 = .ok (.aload_n (0), 1) := by decide +kernel
theorem d_Search_addSpan_54 : decode prog_5_method_16_code 54 = .ok (.getfield (19), 3) := by decide +kernel
theorem d_Search_addSpan_57 : decode prog_5_method_16_code 57 = .ok (.aload_n (0), 1) := by decide +kernel
theorem d_Search_addSpan_58 : decode prog_5_method_16_code 58 = .ok (.getfield (15), 3) := by decide +kernel
theorem d_Search_addSpan_61 : decode prog_5_method_16_code 61 = .ok (.iload_n (1), 1) := by decide +kernel
theorem d_Search_addSpan_62 : decode prog_5_method_16_code 62 = .ok (.iload_n (2), 1) := by decide +kernel
theorem d_Search_addSpan_63 : decode prog_5_method_16_code 63 = .ok (.iload (4), 2) := by decide +kernel
theorem d_Search_addSpan_65 : decode prog_5_method_16_code 65 = .ok (.invokevirtual (175), 3) := by decide +kernel
theorem d_Search_addSpan_68 : decode prog_5_method_16_code 68 = .ok (.ifCond .ne (4), 3) := by decide +kernel
theorem d_Search_addSpan_71 : decode prog_5_method_16_code 71 = .ok (.return_, 1) := by decide +kernel
theorem d_Search_addSpan_72 : decode prog_5_method_16_code 72 = .ok (.aload_n (0), 1) := by decide +kernel
theorem d_Search_addSpan_73 : decode prog_5_method_16_code 73 = .ok (.aload_n (0), 1) := by decide +kernel
theorem d_Search_addSpan_74 : decode prog_5_method_16_code 74 = .ok (.getfield (19), 3) := by decide +kernel
theorem d_Search_addSpan_77 : decode prog_5_method_16_code 77 = .ok (.getfield (169), 3) := by decide +kernel
theorem d_Search_addSpan_80 : decode prog_5_method_16_code 80 = .ok (.iload_n (1), 1) := by decide +kernel
theorem d_Search_addSpan_81 : decode prog_5_method_16_code 81 = .ok (.iaload, 1) := by decide +kernel
theorem d_Search_addSpan_82 : decode prog_5_method_16_code 82 = .ok (.iload_n (2), 1) := by decide +kernel
theorem d_Search_addSpan_83 : decode prog_5_method_16_code 83 = .ok (.invokevirtual (113), 3) := by decide +kernel
theorem d_Search_addSpan_86 : decode prog_5_method_16_code 86 = .ok (.aload_n (0), 1) := by decide +kernel
theorem d_Search_addSpan_87 : decode prog_5_method_16_code 87 = .ok (.getfield (40), 3) := by decide +kernel
theorem d_Search_addSpan_90 : decode prog_5_method_16_code 90 = .ok (.aload_n (0), 1) := by decide +kernel
theorem d_Search_addSpan_91 : decode prog_5_method_16_code 91 = .ok (.getfield (19), 3) := by decide +kernel
theorem d_Search_addSpan_94 : decode prog_5_method_16_code 94 = .ok (.getfield (179), 3) := by decide +kernel
theorem d_Search_addSpan_97 : decode prog_5_method_16_code 97 = .ok (.iload_n (1), 1) := by decide +kernel
theorem d_Search_addSpan_98 : decode prog_5_method_16_code 98 = .ok (.laload, 1) := by decide +kernel
theorem d_Search_addSpan_99 : decode prog_5_method_16_code 99 = .ok (.lmul, 1) := by decide +kernel
theorem d_Search_addSpan_100 : decode prog_5_method_16_code 100 = .ok (.ladd, 1) := by decide +kernel
theorem d_Search_addSpan_101 : decode prog_5_method_16_code 101 = .ok (.aload_n (0), 1) := by decide +kernel
theorem d_Search_addSpan_102 : decode prog_5_method_16_code 102 = .ok (.getfield (44), 3) := by decide +kernel
theorem d_Search_addSpan_105 : decode prog_5_method_16_code 105 = .ok (.iload (5), 2) := by decide +kernel
theorem d_Search_addSpan_107 : decode prog_5_method_16_code 107 = .ok (.i2l, 1) := by decide +kernel
theorem d_Search_addSpan_108 : decode prog_5_method_16_code 108 = .ok (.lmul, 1) := by decide +kernel
theorem d_Search_addSpan_109 : decode prog_5_method_16_code 109 = .ok (.iload (4), 2) := by decide +kernel
theorem d_Search_addSpan_111 : decode prog_5_method_16_code 111 = .ok (.invokestatic (162), 3) := by decide +kernel
theorem d_Search_addSpan_114 : decode prog_5_method_16_code 114 = .ok (.i2l, 1) := by decide +kernel
theorem d_Search_addSpan_115 : decode prog_5_method_16_code 115 = .ok (.lmul, 1) := by decide +kernel
theorem d_Search_addSpan_116 : decode prog_5_method_16_code 116 = .ok (.ladd, 1) := by decide +kernel
theorem d_Search_addSpan_117 : decode prog_5_method_16_code 117 = .ok (.lstore (7), 2) := by decide +kernel
theorem d_Search_addSpan_119 : decode prog_5_method_16_code 119 = .ok (.aload_n (0), 1) := by decide +kernel
theorem d_Search_addSpan_120 : decode prog_5_method_16_code 120 = .ok (.getfield (52), 3) := by decide +kernel
theorem d_Search_addSpan_123 : decode prog_5_method_16_code 123 = .ok (.aload_n (0), 1) := by decide +kernel
theorem d_Search_addSpan_124 : decode prog_5_method_16_code 124 = .ok (.aload_n (0), 1) := by decide +kernel
theorem d_Search_addSpan_125 : decode prog_5_method_16_code 125 = .ok (.getfield (19), 3) := by decide +kernel
theorem d_Search_addSpan_128 : decode prog_5_method_16_code 128 = .ok (.getfield (165), 3) := by decide +kernel
theorem d_Search_addSpan_131 : decode prog_5_method_16_code 131 = .ok (.iload_n (1), 1) := by decide +kernel
theorem d_Search_addSpan_132 : decode prog_5_method_16_code 132 = .ok (.iaload, 1) := by decide +kernel
theorem d_Search_addSpan_133 : decode prog_5_method_16_code 133 = .ok (.invokevirtual (182), 3) := by decide +kernel
theorem d_Search_addSpan_136 : decode prog_5_method_16_code 136 = .ok (.aaload, 1) := by decide +kernel
theorem d_Search_addSpan_137 : decode prog_5_method_16_code 137 = .ok (.astore (9), 2) := by decide +kernel
theorem d_Search_addSpan_139 : decode prog_5_method_16_code 139 = .ok (.aload_n (0), 1) := by decide +kernel
theorem d_Search_addSpan_140 : decode prog_5_method_16_code 140 = .ok (.aload_n (0), 1) := by decide +kernel
theorem d_Search_addSpan_141 : decode prog_5_method_16_code 141 = .ok (.getfield (55), 3) := by decide +kernel
theorem d_Search_addSpan_144 : decode prog_5_method_16_code 144 = .ok (.iload_n (3), 1) := by decide +kernel
theorem d_Search_addSpan_145 : decode prog_5_method_16_code 145 = .ok (.aload_n (0), 1) := by decide +kernel
theorem d_Search_addSpan_146 : decode prog_5_method_16_code 146 = .ok (.getfield (23), 3) := by decide +kernel
theorem d_Search_addSpan_149 : decode prog_5_method_16_code 149 = .ok (.imul, 1) := by decide +kernel
theorem d_Search_addSpan_150 : decode prog_5_method_16_code 150 = .ok (.aload (9), 2) := by decide +kernel
theorem d_Search_addSpan_152 : decode prog_5_method_16_code 152 = .ok (.aload_n (0), 1) := by decide +kernel
theorem d_Search_addSpan_153 : decode prog_5_method_16_code 153 = .ok (.iload (6), 2) := by decide +kernel
theorem d_Search_addSpan_155 : decode prog_5_method_16_code 155 = .ok (.iload (6), 2) := by decide +kernel
theorem d_Search_addSpan_157 : decode prog_5_method_16_code 157 = .ok (.iload (4), 2) := by decide +kernel
theorem d_Search_addSpan_159 : decode prog_5_method_16_code 159 = .ok (.isub, 1) := by decide +kernel
theorem d_Search_addSpan_160 : decode prog_5_method_16_code 160 = .ok (.invokevirtual (126), 3) := by decide +kernel
theorem d_Search_addSpan_163 : decode prog_5_method_16_code 163 = .ok (.lload (7), 2) := by decide +kernel
theorem d_Search_addSpan_165 : decode prog_5_method_16_code 165 = .ok (.invokevirtual (145), 3) := by decide +kernel
theorem d_Search_addSpan_168 : decode prog_5_method_16_code 168 = .ok (.return_, 1) := by decide +kernel
set_option maxHeartbeats 4000000 in
set_option maxRecDepth 100000 in
theorem k_Search_addSpan (N : Nat) {X : zX} (C : zB X prog_5_method_16_code 10 R_Search rm_Search_addSpan) {h0 : zH} {p : Unit × zH} (E : zR X none rm_Search_addSpan h0 none p.2) : ∀ (x0 : Nat) (x1 : Int32) (x2 : Int32) (x3 : Int32) (h : zH), f_Search_addSpan N x0 x1 x2 x3 h = some p → Zt X 10 0 0 0 [(0, .ref x0), (1, .int x1), (2, .int x2), (3, .int x3)] [] h := by
  intro x0 x1 x2 x3 h hf
  unfold f_Search_addSpan at hf
  refine z_iload_n C 1 d_Search_addSpan_0 rfl rfl ?_
  refine z_iconst C (v := (-1 : Int32)) d_Search_addSpan_1 (by decide) ?_
  refine z_ic_ne (tgt := 6) C d_Search_addSpan_2 (by decide) hf (fun hf => ?_) (fun hf => ?_)
  · refine z_iload_n C 3 d_Search_addSpan_6 rfl rfl ?_
    refine z_iload_n C 2 d_Search_addSpan_7 rfl rfl ?_
    refine z_isub C d_Search_addSpan_8 ?_
    refine z_istore C (lv' := [(4, .int (x3 - x2)), (0, .ref x0), (1, .int x1), (2, .int x2), (3, .int x3)]) d_Search_addSpan_9 (by decide) rfl ?_
    refine z_aload_n C 1 d_Search_addSpan_11 rfl rfl ?_
    refine z_getR C 8 1 rfl in_Search (by decide) w_423 rfl d_Search_addSpan_12 hf (fun v1 hf => ?_)
    refine z_getR C 3 2 rfl in_Spans (by decide) w_157 rfl d_Search_addSpan_15 hf (fun v2 hf => ?_)
    refine z_iload_n C 2 d_Search_addSpan_18 rfl rfl ?_
    refine z_iald C d_Search_addSpan_19 hf (fun v3 hf => ?_)
    refine z_aload_n C 1 d_Search_addSpan_20 rfl rfl ?_
    refine z_getR C 8 1 rfl in_Search (by decide) w_423 rfl d_Search_addSpan_21 hf (fun v4 hf => ?_)
    refine z_getR C 3 1 rfl in_Spans (by decide) w_154 rfl d_Search_addSpan_24 hf (fun v5 hf => ?_)
    refine z_iload_n C 2 d_Search_addSpan_27 rfl rfl ?_
    refine z_iald C d_Search_addSpan_28 hf (fun v6 hf => ?_)
    refine z_isub C d_Search_addSpan_29 ?_
    refine z_istore C (lv' := [(5, .int (v3 - v6)), (4, .int (x3 - x2)), (0, .ref x0), (1, .int x1), (2, .int x2), (3, .int x3)]) d_Search_addSpan_30 (by decide) rfl ?_
    refine z_iload_n C 4 d_Search_addSpan_32 rfl rfl ?_
    refine z_iload C 1 d_Search_addSpan_33 rfl ?_
    refine z_iload C 0 d_Search_addSpan_35 rfl ?_
    refine z_imul C d_Search_addSpan_37 ?_
    refine z_iadd C d_Search_addSpan_38 ?_
    refine z_istore C (lv' := [(6, .int (x2 + ((x3 - x2) * (v3 - v6)))), (5, .int (v3 - v6)), (4, .int (x3 - x2)), (0, .ref x0), (1, .int x1), (2, .int x2), (3, .int x3)]) d_Search_addSpan_39 (by decide) rfl ?_
    refine z_aload_n C 3 d_Search_addSpan_41 rfl rfl ?_
    refine z_getR C 8 0 rfl in_Search (by decide) w_422 rfl d_Search_addSpan_42 hf (fun v7 hf => ?_)
    refine z_iload C 0 d_Search_addSpan_45 rfl ?_
    obtain ⟨p8, hc, hf⟩ := Option.bind_eq_some_iff.mp hf
    obtain ⟨hz, hc⟩ := zck_some hc
    refine z_callV C (ci := 2) (c_Site_isLevel N C.2.2.1 hc) rfl hz w_308 w_59 w_515 w_306 w_307 pd_Site_isLevel rfl ⟨(Nat.le_of_ble_eq_true rfl), (Nat.le_of_ble_eq_true rfl)⟩ ⟨(Nat.le_of_ble_eq_true rfl), (Nat.le_of_ble_eq_true rfl)⟩ rfl (Nat.le_of_ble_eq_true rfl) d_Search_addSpan_47 (k' := 0) (n' := 0) (stk' := [.int p8.1]) rfl rfl rfl ?_
    refine z_if_eq (tgt := 71) C d_Search_addSpan_50 (by decide) hf (fun hf => ?_) (fun hf => ?_)
    · exact z_vret C E (Nat.le_of_ble_eq_true rfl) (Nat.le_of_ble_eq_true rfl) d_Search_addSpan_71 hf
    · refine z_aload_n C 3 d_Search_addSpan_53 rfl rfl ?_
      refine z_getR C 8 1 rfl in_Search (by decide) w_423 rfl d_Search_addSpan_54 hf (fun v9 hf => ?_)
      refine z_aload_n C 3 d_Search_addSpan_57 rfl rfl ?_
      refine z_getR C 8 0 rfl in_Search (by decide) w_422 rfl d_Search_addSpan_58 hf (fun v10 hf => ?_)
      refine z_iload_n C 4 d_Search_addSpan_61 rfl rfl ?_
      refine z_iload_n C 5 d_Search_addSpan_62 rfl rfl ?_
      refine z_iload C 2 d_Search_addSpan_63 rfl ?_
      obtain ⟨p11, hc, hf⟩ := Option.bind_eq_some_iff.mp hf
      obtain ⟨hz, hc⟩ := zck_some hc
      refine z_callV C (ci := 3) (c_Spans_suits N C.2.2.1 hc) rfl hz w_519 w_61 w_516 w_517 w_518 pd_Spans_suits rfl ⟨(Nat.le_of_ble_eq_true rfl), (Nat.le_of_ble_eq_true rfl)⟩ ⟨(Nat.le_of_ble_eq_true rfl), (Nat.le_of_ble_eq_true rfl)⟩ rfl (Nat.le_of_ble_eq_true rfl) d_Search_addSpan_65 (k' := 0) (n' := 0) (stk' := [.int p11.1]) rfl rfl rfl ?_
      refine z_if_ne (tgt := 72) C d_Search_addSpan_68 (by decide) hf (fun hf => ?_) (fun hf => ?_)
      · refine z_aload_n C 3 d_Search_addSpan_72 rfl rfl ?_
        refine z_aload_n C 3 d_Search_addSpan_73 rfl rfl ?_
        refine z_getR C 8 1 rfl in_Search (by decide) w_423 rfl d_Search_addSpan_74 hf (fun v12 hf => ?_)
        refine z_getR C 3 1 rfl in_Spans (by decide) w_154 rfl d_Search_addSpan_77 hf (fun v13 hf => ?_)
        refine z_iload_n C 4 d_Search_addSpan_80 rfl rfl ?_
        refine z_iald C d_Search_addSpan_81 hf (fun v14 hf => ?_)
        refine z_iload_n C 5 d_Search_addSpan_82 rfl rfl ?_
        obtain ⟨p15, hc, hf⟩ := Option.bind_eq_some_iff.mp hf
        obtain ⟨hz, hc⟩ := zck_some hc
        refine z_callV C (ci := 8) (c_Search_earthValue N C.2.2.1 hc) rfl hz w_478 w_67 w_475 w_477 w_9 pd_Search_earthValue rfl ⟨(Nat.le_of_ble_eq_true rfl), (Nat.le_of_ble_eq_true rfl)⟩ ⟨(Nat.le_of_ble_eq_true rfl), (Nat.le_of_ble_eq_true rfl)⟩ rfl (Nat.le_of_ble_eq_true rfl) d_Search_addSpan_83 (k' := 0) (n' := 0) (stk' := [.long p15.1]) rfl rfl rfl ?_
        refine z_aload_n C 3 d_Search_addSpan_86 rfl rfl ?_
        refine z_getJ C 8 5 rfl in_Search (by decide) w_427 rfl d_Search_addSpan_87 hf (fun v16 hf => ?_)
        refine z_aload_n C 3 d_Search_addSpan_90 rfl rfl ?_
        refine z_getR C 8 1 rfl in_Search (by decide) w_423 rfl d_Search_addSpan_91 hf (fun v17 hf => ?_)
        refine z_getR C 3 4 rfl in_Spans (by decide) w_160 rfl d_Search_addSpan_94 hf (fun v18 hf => ?_)
        refine z_iload_n C 4 d_Search_addSpan_97 rfl rfl ?_
        refine z_lald C d_Search_addSpan_98 hf (fun v19 hf => ?_)
        refine z_lmul C d_Search_addSpan_99 ?_
        refine z_ladd C d_Search_addSpan_100 ?_
        refine z_aload_n C 3 d_Search_addSpan_101 rfl rfl ?_
        refine z_getJ C 8 6 rfl in_Search (by decide) w_428 rfl d_Search_addSpan_102 hf (fun v20 hf => ?_)
        refine z_iload C 1 d_Search_addSpan_105 rfl ?_
        refine z_i2l C d_Search_addSpan_107 ?_
        refine z_lmul C d_Search_addSpan_108 ?_
        refine z_iload C 2 d_Search_addSpan_109 rfl ?_
        refine z_mabs C w_502 w_407 w_58 w_408 (Nat.le_of_ble_eq_true rfl) (Nat.le_of_ble_eq_true rfl) (Nat.le_of_ble_eq_true rfl) (Nat.le_of_ble_eq_true rfl) d_Search_addSpan_111 ?_
        refine z_i2l C d_Search_addSpan_114 ?_
        refine z_lmul C d_Search_addSpan_115 ?_
        refine z_ladd C d_Search_addSpan_116 ?_
        refine z_lstore C (lv' := [(7, .long ((p15.1 + (v16 * v19)) + ((v20 * (Int32.toInt64 (v3 - v6))) * (Int32.toInt64 (zabs (x3 - x2)))))), (6, .int (x2 + ((x3 - x2) * (v3 - v6)))), (5, .int (v3 - v6)), (4, .int (x3 - x2)), (0, .ref x0), (1, .int x1), (2, .int x2), (3, .int x3)]) d_Search_addSpan_117 (by decide) rfl ?_
        refine z_aload_n C 4 d_Search_addSpan_119 rfl rfl ?_
        refine z_getR C 8 7 rfl in_Search (by decide) w_429 rfl d_Search_addSpan_120 hf (fun v21 hf => ?_)
        refine z_aload_n C 4 d_Search_addSpan_123 rfl rfl ?_
        refine z_aload_n C 4 d_Search_addSpan_124 rfl rfl ?_
        refine z_getR C 8 1 rfl in_Search (by decide) w_423 rfl d_Search_addSpan_125 hf (fun v22 hf => ?_)
        refine z_getR C 3 2 rfl in_Spans (by decide) w_157 rfl d_Search_addSpan_128 hf (fun v23 hf => ?_)
        refine z_iload_n C 5 d_Search_addSpan_131 rfl rfl ?_
        refine z_iald C d_Search_addSpan_132 hf (fun v24 hf => ?_)
        obtain ⟨p25, hc, hf⟩ := Option.bind_eq_some_iff.mp hf
        obtain ⟨hz, hc⟩ := zck_some hc
        refine z_callV C (ci := 8) (c_Search_slotOfEnd N C.2.2.1 hc) rfl hz w_524 w_67 w_521 w_523 w_16 pd_Search_slotOfEnd rfl ⟨(Nat.le_of_ble_eq_true rfl), (Nat.le_of_ble_eq_true rfl)⟩ ⟨(Nat.le_of_ble_eq_true rfl), (Nat.le_of_ble_eq_true rfl)⟩ rfl (Nat.le_of_ble_eq_true rfl) d_Search_addSpan_133 (k' := 0) (n' := 0) (stk' := [.int p25.1, .ref v21]) rfl rfl rfl ?_
        refine z_aald C d_Search_addSpan_136 hf (fun v26 hf => ?_)
        refine z_astore C (lv' := [(9, .ref v26), (7, .long ((p15.1 + (v16 * v19)) + ((v20 * (Int32.toInt64 (v3 - v6))) * (Int32.toInt64 (zabs (x3 - x2)))))), (6, .int (x2 + ((x3 - x2) * (v3 - v6)))), (5, .int (v3 - v6)), (4, .int (x3 - x2)), (0, .ref x0), (1, .int x1), (2, .int x2), (3, .int x3)]) d_Search_addSpan_137 (by decide) rfl ?_
        refine z_aload_n C 5 d_Search_addSpan_139 rfl rfl ?_
        refine z_aload_n C 5 d_Search_addSpan_140 rfl rfl ?_
        refine z_getR C 8 8 rfl in_Search (by decide) w_430 rfl d_Search_addSpan_141 hf (fun v27 hf => ?_)
        refine z_iload_n C 8 d_Search_addSpan_144 rfl rfl ?_
        refine z_aload_n C 5 d_Search_addSpan_145 rfl rfl ?_
        refine z_getI C 8 3 rfl in_Search (by decide) w_425 rfl d_Search_addSpan_146 hf (fun v28 hf => ?_)
        refine z_imul C d_Search_addSpan_149 ?_
        refine z_aload C 0 d_Search_addSpan_150 rfl ?_
        refine z_aload_n C 5 d_Search_addSpan_152 rfl rfl ?_
        refine z_iload C 2 d_Search_addSpan_153 rfl ?_
        refine z_iload C 2 d_Search_addSpan_155 rfl ?_
        refine z_iload C 4 d_Search_addSpan_157 rfl ?_
        refine z_isub C d_Search_addSpan_159 ?_
        obtain ⟨p29, hc, hf⟩ := Option.bind_eq_some_iff.mp hf
        obtain ⟨hz, hc⟩ := zck_some hc
        refine z_callV C (ci := 8) (c_Search_indexOf N C.2.2.1 hc) rfl hz w_489 w_67 w_486 w_488 w_10 pd_Search_indexOf rfl ⟨(Nat.le_of_ble_eq_true rfl), (Nat.le_of_ble_eq_true rfl)⟩ ⟨(Nat.le_of_ble_eq_true rfl), (Nat.le_of_ble_eq_true rfl)⟩ rfl (Nat.le_of_ble_eq_true rfl) d_Search_addSpan_160 (k' := 0) (n' := 0) (stk' := [.int p29.1, .ref v26, .int (x3 * v28), .ref v27, .ref x0]) rfl rfl rfl ?_
        refine z_lload C 1 d_Search_addSpan_163 rfl ?_
        obtain ⟨p30, hc, hf⟩ := Option.bind_eq_some_iff.mp hf
        obtain ⟨hz, hc⟩ := zck_some hc
        refine z_callV C (ci := 8) (c_Search_merge N C.2.2.1 hc) rfl hz w_506 w_67 w_503 w_505 w_13 pd_Search_merge rfl ⟨(Nat.le_of_ble_eq_true rfl), (Nat.le_of_ble_eq_true rfl)⟩ ⟨(Nat.le_of_ble_eq_true rfl), (Nat.le_of_ble_eq_true rfl)⟩ rfl (Nat.le_of_ble_eq_true rfl) d_Search_addSpan_165 (k' := 0) (n' := 0) (stk' := []) rfl rfl rfl ?_
        exact z_vret C E (Nat.le_of_ble_eq_true rfl) (Nat.le_of_ble_eq_true rfl) d_Search_addSpan_168 hf
      · exact z_vret C E (Nat.le_of_ble_eq_true rfl) (Nat.le_of_ble_eq_true rfl) d_Search_addSpan_71 hf
  · exact z_vret C E (Nat.le_of_ble_eq_true rfl) (Nat.le_of_ble_eq_true rfl) d_Search_addSpan_5 hf

theorem c_Search_addSpan (N : Nat) {l : Launch} {D : va_G} {T : List (ClassId × FieldType)} (hT : T.map (fun q => q.2) = ztl) {x0 : Nat} {x1 : Int32} {x2 : Int32} {x3 : Int32} {h : zH} {p : Unit × zH} (hf : f_Search_addSpan N x0 x1 x2 x3 h = some p) : zM l y_Search_addSpan prog_5_method_16_code 10 none rm_Search_addSpan D T [.ref x0, .int x1, .int x2, .int x3] h none p.2 :=
  z_enter (by decide) hT (Nat.le_of_ble_eq_true rfl) (fun X el eD eT hin C E => k_Search_addSpan N C E x0 x1 x2 x3 h hf)
/-! ===== LevelTables$Search.gather([JIII)V ===== -/
abbrev y_Search_gather : MethodName := ⟨R_Search, "gather", "([JIII)V"⟩
theorem pd_Search_gather : y_Search_gather.cls ≠ "java/lang/invoke/MethodHandle" ∧ y_Search_gather.cls ≠ "java/lang/invoke/VarHandle" ∧ (parseMethodDescriptor y_Search_gather.desc).map (fun d => d.parameters.length) = some 4 := ⟨by decide +kernel, by decide +kernel, by decide +kernel⟩
abbrev rm_Search_gather : Room := { frames := 2, cells := 0, slots := 0, locals := 56 }
def b_Search_gather_3 (N : Nat) (rc3 : Nat → Nat → Int32 → Int32 → Int32 → zH → Option (Unit × zH)) (x0 : Nat) (x1 : Nat) (x2 : Int32) (x4 : Int32) (x5 : Int32) (h : zH) : Option (Unit × zH) :=
  (if x4 < x5 then
    some ((), h)
  else
    Option.bind (zgR h x0 8 8) fun (v1 : Nat) =>
    Option.bind (zgI h x0 8 3) fun (v2 : Int32) =>
    Option.bind (zck (zis h x0 8) (f_Search_merge N x0 x1 x2 v1 (x5 * v2) (0 : Int64) h)) fun (p3 : Unit × zH) =>
    rc3 x0 x1 x2 x4 (x5 + (1 : Int32)) p3.2)
def f_Search_gather_3 (N : Nat) : Nat → Nat → Nat → Int32 → Int32 → Int32 → zH → Option (Unit × zH)
  | 0 => fun _ _ _ _ _ _ => none
  | n + 1 => fun x0 x1 x2 x4 x5 h => b_Search_gather_3 N (f_Search_gather_3 N n) x0 x1 x2 x4 x5 h
def f_Search_gather (N : Nat) (x0 : Nat) (x1 : Nat) (x2 : Int32) (x3 : Int32) (x4 : Int32) (h : zH) : Option (Unit × zH) :=
  f_Search_gather_3 N N x0 x1 x2 x4 x3 h
theorem d_Search_gather_0 : decode prog_5_method_11_code 0 = .ok (.iload_n (3), 1) := by decide +kernel
theorem d_Search_gather_1 : decode prog_5_method_11_code 1 = .ok (.istore (5), 2) := by decide +kernel
theorem d_Search_gather_3 : decode prog_5_method_11_code 3 = .ok (.iload (5), 2) := by decide +kernel
theorem d_Search_gather_5 : decode prog_5_method_11_code 5 = .ok (.iload (4), 2) := by decide +kernel
theorem d_Search_gather_7 : decode prog_5_method_11_code 7 = .ok (.if_icmp .gt (27), 3) := by decide +kernel
theorem d_Search_gather_10 : decode prog_5_method_11_code 10 = .ok (.aload_n (0), 1) := by decide +kernel
theorem d_Search_gather_11 : decode prog_5_method_11_code 11 = .ok (.aload_n (1), 1) := by decide +kernel
theorem d_Search_gather_12 : decode prog_5_method_11_code 12 = .ok (.iload_n (2), 1) := by decide +kernel
theorem d_Search_gather_13 : decode prog_5_method_11_code 13 = .ok (.aload_n (0), 1) := by decide +kernel
theorem d_Search_gather_14 : decode prog_5_method_11_code 14 = .ok (.getfield (55), 3) := by decide +kernel
theorem d_Search_gather_17 : decode prog_5_method_11_code 17 = .ok (.iload (5), 2) := by decide +kernel
theorem d_Search_gather_19 : decode prog_5_method_11_code 19 = .ok (.aload_n (0), 1) := by decide +kernel
theorem d_Search_gather_20 : decode prog_5_method_11_code 20 = .ok (.getfield (23), 3) := by decide +kernel
theorem d_Search_gather_23 : decode prog_5_method_11_code 23 = .ok (.imul, 1) := by decide +kernel
theorem d_Search_gather_24 : decode prog_5_method_11_code 24 = .ok (.lconst (0), 1) := by decide +kernel
theorem d_Search_gather_25 : decode prog_5_method_11_code 25 = .ok (.invokevirtual (145), 3) := by decide +kernel
theorem d_Search_gather_28 : decode prog_5_method_11_code 28 = .ok (.iinc (5) (1), 3) := by decide +kernel
theorem d_Search_gather_31 : decode prog_5_method_11_code 31 = .ok (.goto (-28), 3) := by decide +kernel
theorem d_Search_gather_34 : decode prog_5_method_11_code 34 = .ok (.return_, 1) := by decide +kernel
set_option maxHeartbeats 4000000 in
set_option maxRecDepth 100000 in
theorem k_Search_gather_3 (N : Nat) {X : zX} (C : zB X prog_5_method_11_code 6 R_Search rm_Search_gather) {h0 : zH} {p : Unit × zH} (E : zR X none rm_Search_gather h0 none p.2) : ∀ n : Nat, ∀ (x0 : Nat) (x1 : Nat) (x2 : Int32) (x4 : Int32) (x5 : Int32) (h : zH), f_Search_gather_3 N n x0 x1 x2 x4 x5 h = some p → Zt X 6 0 0 3 [(0, .ref x0), (1, .ref x1), (2, .int x2), (4, .int x4), (5, .int x5)] [] h := by
  intro n
  induction n with
  | zero => intro x0 x1 x2 x4 x5 h hf; cases hf
  | succ n ih =>
  intro x0 x1 x2 x4 x5 h hf
  have H3 := ih
  replace hf : b_Search_gather_3 N (f_Search_gather_3 N n) x0 x1 x2 x4 x5 h = some p := hf
  unfold b_Search_gather_3 at hf
  refine z_iload C 4 d_Search_gather_3 rfl ?_
  refine z_iload C 3 d_Search_gather_5 rfl ?_
  refine z_ic_gt (tgt := 34) C d_Search_gather_7 (by decide) hf (fun hf => ?_) (fun hf => ?_)
  · exact z_vret C E (Nat.le_of_ble_eq_true rfl) (Nat.le_of_ble_eq_true rfl) d_Search_gather_34 hf
  · refine z_aload_n C 0 d_Search_gather_10 rfl rfl ?_
    refine z_aload_n C 1 d_Search_gather_11 rfl rfl ?_
    refine z_iload_n C 2 d_Search_gather_12 rfl rfl ?_
    refine z_aload_n C 0 d_Search_gather_13 rfl rfl ?_
    refine z_getR C 8 8 rfl in_Search (by decide) w_430 rfl d_Search_gather_14 hf (fun v1 hf => ?_)
    refine z_iload C 4 d_Search_gather_17 rfl ?_
    refine z_aload_n C 0 d_Search_gather_19 rfl rfl ?_
    refine z_getI C 8 3 rfl in_Search (by decide) w_425 rfl d_Search_gather_20 hf (fun v2 hf => ?_)
    refine z_imul C d_Search_gather_23 ?_
    refine z_lconst C (v := (0 : Int64)) d_Search_gather_24 (by decide) ?_
    obtain ⟨p3, hc, hf⟩ := Option.bind_eq_some_iff.mp hf
    obtain ⟨hz, hc⟩ := zck_some hc
    refine z_callV C (ci := 8) (c_Search_merge N C.2.2.1 hc) rfl hz w_506 w_67 w_503 w_505 w_13 pd_Search_merge rfl ⟨(Nat.le_of_ble_eq_true rfl), (Nat.le_of_ble_eq_true rfl)⟩ ⟨(Nat.le_of_ble_eq_true rfl), (Nat.le_of_ble_eq_true rfl)⟩ rfl (Nat.le_of_ble_eq_true rfl) d_Search_gather_25 (k' := 0) (n' := 0) (stk' := []) rfl rfl rfl ?_
    refine z_iinc C (v := (x5 + (1 : Int32))) (lv' := [(5, .int (x5 + (1 : Int32))), (0, .ref x0), (1, .ref x1), (2, .int x2), (4, .int x4)]) 4 d_Search_gather_28 rfl (by rfl) (by decide) rfl ?_
    refine z_goto (tgt := 3) C d_Search_gather_31 (by decide) ?_
    refine z_sub [1, 2, 3, 4, 0] rfl ?_
    exact H3 _ _ _ _ _ _ hf

set_option maxHeartbeats 4000000 in
set_option maxRecDepth 100000 in
theorem k_Search_gather (N : Nat) {X : zX} (C : zB X prog_5_method_11_code 6 R_Search rm_Search_gather) {h0 : zH} {p : Unit × zH} (E : zR X none rm_Search_gather h0 none p.2) : ∀ (x0 : Nat) (x1 : Nat) (x2 : Int32) (x3 : Int32) (x4 : Int32) (h : zH), f_Search_gather N x0 x1 x2 x3 x4 h = some p → Zt X 6 0 0 0 [(0, .ref x0), (1, .ref x1), (2, .int x2), (3, .int x3), (4, .int x4)] [] h := by
  intro x0 x1 x2 x3 x4 h hf
  unfold f_Search_gather at hf
  refine z_iload_n C 3 d_Search_gather_0 rfl rfl ?_
  refine z_istore C (lv' := [(5, .int x3), (0, .ref x0), (1, .ref x1), (2, .int x2), (3, .int x3), (4, .int x4)]) d_Search_gather_1 (by decide) rfl ?_
  refine z_sub [1, 2, 3, 5, 0] rfl ?_
  exact k_Search_gather_3 N C E N _ _ _ _ _ _ hf

theorem c_Search_gather (N : Nat) {l : Launch} {D : va_G} {T : List (ClassId × FieldType)} (hT : T.map (fun q => q.2) = ztl) {x0 : Nat} {x1 : Nat} {x2 : Int32} {x3 : Int32} {x4 : Int32} {h : zH} {p : Unit × zH} (hf : f_Search_gather N x0 x1 x2 x3 x4 h = some p) : zM l y_Search_gather prog_5_method_11_code 6 none rm_Search_gather D T [.ref x0, .ref x1, .int x2, .int x3, .int x4] h none p.2 :=
  z_enter (by decide) hT (Nat.le_of_ble_eq_true rfl) (fun X el eD eT hin C E => k_Search_gather N C E x0 x1 x2 x3 x4 h hf)
/-! ===== LevelTables$Search.mayFollow(LLevelTables$Table;II)Z ===== -/
abbrev y_Search_mayFollow : MethodName := ⟨R_Search, "mayFollow", "(LLevelTables$Table;II)Z"⟩
theorem pd_Search_mayFollow : y_Search_mayFollow.cls ≠ "java/lang/invoke/MethodHandle" ∧ y_Search_mayFollow.cls ≠ "java/lang/invoke/VarHandle" ∧ (parseMethodDescriptor y_Search_mayFollow.desc).map (fun d => d.parameters.length) = some 3 := ⟨by decide +kernel, by decide +kernel, by decide +kernel⟩
abbrev rm_Search_mayFollow : Room := { frames := 2, cells := 0, slots := 0, locals := 43 }
def f_Search_mayFollow_47 (N : Nat)  (h : zH) : Option (Int32 × zH) :=
  zrb (1 : Int32) h
def f_Search_mayFollow (N : Nat) (x0 : Nat) (x1 : Nat) (x2 : Int32) (x3 : Int32) (h : zH) : Option (Int32 × zH) :=
  Option.bind (zgR h x1 5 2) fun (v1 : Nat) =>
  Option.bind (zaI h 0 v1 x2) fun (v2 : Int32) =>
  Option.bind (zgR h x0 8 0) fun (v3 : Nat) =>
  Option.bind (zck (zis h v3 2) (f_Site_slopeFits N v3 (x3 - v2) h)) fun (p4 : Int32 × zH) =>
  (if p4.1 = 0 then
    zrb (0 : Int32) p4.2
  else
    (if x2 = 0 then
      f_Search_mayFollow_47 N  p4.2
    else
      Option.bind (zgR p4.2 x0 8 0) fun (v5 : Nat) =>
      Option.bind (zck (zis p4.2 x1 5) (f_Table_slopeOf N x1 (x2 - (1 : Int32)) p4.2)) fun (p6 : Int32 × zH) =>
      Option.bind (zck (zis p6.2 v5 2) (f_Site_changeFits N v5 p6.1 (x3 - v2) p6.2)) fun (p7 : Int32 × zH) =>
      (if p7.1 = 0 then
        zrb (0 : Int32) p7.2
      else
        f_Search_mayFollow_47 N  p7.2)))
theorem d_Search_mayFollow_0 : decode prog_5_method_22_code 0 = .ok (.iload_n (3), 1) := by decide +kernel
theorem d_Search_mayFollow_1 : decode prog_5_method_22_code 1 = .ok (.aload_n (1), 1) := by decide +kernel
theorem d_Search_mayFollow_2 : decode prog_5_method_22_code 2 = .ok (.getfield (189), 3) := by decide +kernel
theorem d_Search_mayFollow_5 : decode prog_5_method_22_code 5 = .ok (.iload_n (2), 1) := by decide +kernel
theorem d_Search_mayFollow_6 : decode prog_5_method_22_code 6 = .ok (.iaload, 1) := by decide +kernel
theorem d_Search_mayFollow_7 : decode prog_5_method_22_code 7 = .ok (.isub, 1) := by decide +kernel
theorem d_Search_mayFollow_8 : decode prog_5_method_22_code 8 = .ok (.istore (4), 2) := by decide +kernel
theorem d_Search_mayFollow_10 : decode prog_5_method_22_code 10 = .ok (.aload_n (0), 1) := by decide +kernel
theorem d_Search_mayFollow_11 : decode prog_5_method_22_code 11 = .ok (.getfield (15), 3) := by decide +kernel
theorem d_Search_mayFollow_14 : decode prog_5_method_22_code 14 = .ok (.iload (4), 2) := by decide +kernel
theorem d_Search_mayFollow_16 : decode prog_5_method_22_code 16 = .ok (.invokevirtual (123), 3) := by decide +kernel
theorem d_Search_mayFollow_19 : decode prog_5_method_22_code 19 = .ok (.ifCond .ne (5), 3) := by decide +kernel
theorem d_Search_mayFollow_22 : decode prog_5_method_22_code 22 = .ok (.iconst (0), 1) := by decide +kernel
theorem d_Search_mayFollow_23 : decode prog_5_method_22_code 23 = .ok (.ireturn, 1) := by decide +kernel
theorem d_Search_mayFollow_24 : decode prog_5_method_22_code 24 = .ok (.iload_n (2), 1) := by decide +kernel
theorem d_Search_mayFollow_25 : decode prog_5_method_22_code 25 = .ok (.ifCond .eq (22), 3) := by decide +kernel
theorem d_Search_mayFollow_28 : decode prog_5_method_22_code 28 = .ok (.aload_n (0), 1) := by decide +kernel
theorem d_Search_mayFollow_29 : decode prog_5_method_22_code 29 = .ok (.getfield (15), 3) := by decide +kernel
theorem d_Search_mayFollow_32 : decode prog_5_method_22_code 32 = .ok (.aload_n (1), 1) := by decide +kernel
theorem d_Search_mayFollow_33 : decode prog_5_method_22_code 33 = .ok (.iload_n (2), 1) := by decide +kernel
theorem d_Search_mayFollow_34 : decode prog_5_method_22_code 34 = .ok (.iconst (1), 1) := by decide +kernel
theorem d_Search_mayFollow_35 : decode prog_5_method_22_code 35 = .ok (.isub, 1) := by decide +kernel
theorem d_Search_mayFollow_36 : decode prog_5_method_22_code 36 = .ok (.invokevirtual (218), 3) := by decide +kernel
theorem d_Search_mayFollow_39 : decode prog_5_method_22_code 39 = .ok (.iload (4), 2) := by decide +kernel
theorem d_Search_mayFollow_41 : decode prog_5_method_22_code 41 = .ok (.invokevirtual (221), 3) := by decide +kernel
theorem d_Search_mayFollow_44 : decode prog_5_method_22_code 44 = .ok (.ifCond .eq (7), 3) := by decide +kernel
theorem d_Search_mayFollow_47 : decode prog_5_method_22_code 47 = .ok (.iconst (1), 1) := by decide +kernel
theorem d_Search_mayFollow_48 : decode prog_5_method_22_code 48 = .ok (.goto (4), 3) := by decide +kernel
theorem d_Search_mayFollow_51 : decode prog_5_method_22_code 51 = .ok (.iconst (0), 1) := by decide +kernel
theorem d_Search_mayFollow_52 : decode prog_5_method_22_code 52 = .ok (.ireturn, 1) := by decide +kernel
set_option maxHeartbeats 4000000 in
set_option maxRecDepth 100000 in
theorem k_Search_mayFollow_47 (N : Nat) {X : zX} (C : zB X prog_5_method_22_code 5 R_Search rm_Search_mayFollow) {h0 : zH} {p : Int32 × zH} (E : zR X (some .boolean) rm_Search_mayFollow h0 (some (.int p.1)) p.2) : ∀  (h : zH), f_Search_mayFollow_47 N  h = some p → Zt X 5 0 0 47 [] [] h := by
  intro  h hf
  unfold f_Search_mayFollow_47 at hf
  refine z_iconst C (v := (1 : Int32)) d_Search_mayFollow_47 (by decide) ?_
  refine z_goto (tgt := 52) C d_Search_mayFollow_48 (by decide) ?_
  exact z_zret C E (Nat.le_of_ble_eq_true rfl) (Nat.le_of_ble_eq_true rfl) d_Search_mayFollow_52 hf

set_option maxHeartbeats 4000000 in
set_option maxRecDepth 100000 in
theorem k_Search_mayFollow (N : Nat) {X : zX} (C : zB X prog_5_method_22_code 5 R_Search rm_Search_mayFollow) {h0 : zH} {p : Int32 × zH} (E : zR X (some .boolean) rm_Search_mayFollow h0 (some (.int p.1)) p.2) : ∀ (x0 : Nat) (x1 : Nat) (x2 : Int32) (x3 : Int32) (h : zH), f_Search_mayFollow N x0 x1 x2 x3 h = some p → Zt X 5 0 0 0 [(0, .ref x0), (1, .ref x1), (2, .int x2), (3, .int x3)] [] h := by
  intro x0 x1 x2 x3 h hf
  unfold f_Search_mayFollow at hf
  refine z_iload_n C 3 d_Search_mayFollow_0 rfl rfl ?_
  refine z_aload_n C 1 d_Search_mayFollow_1 rfl rfl ?_
  refine z_getR C 5 2 rfl in_Table (by decide) w_200 rfl d_Search_mayFollow_2 hf (fun v1 hf => ?_)
  refine z_iload_n C 2 d_Search_mayFollow_5 rfl rfl ?_
  refine z_iald C d_Search_mayFollow_6 hf (fun v2 hf => ?_)
  refine z_isub C d_Search_mayFollow_7 ?_
  refine z_istore C (lv' := [(4, .int (x3 - v2)), (0, .ref x0), (1, .ref x1), (2, .int x2), (3, .int x3)]) d_Search_mayFollow_8 (by decide) rfl ?_
  refine z_aload_n C 1 d_Search_mayFollow_10 rfl rfl ?_
  refine z_getR C 8 0 rfl in_Search (by decide) w_422 rfl d_Search_mayFollow_11 hf (fun v3 hf => ?_)
  refine z_iload C 0 d_Search_mayFollow_14 rfl ?_
  obtain ⟨p4, hc, hf⟩ := Option.bind_eq_some_iff.mp hf
  obtain ⟨hz, hc⟩ := zck_some hc
  refine z_callV C (ci := 2) (c_Site_slopeFits N C.2.2.1 hc) rfl hz w_405 w_59 w_485 w_403 w_404 pd_Site_slopeFits rfl ⟨(Nat.le_of_ble_eq_true rfl), (Nat.le_of_ble_eq_true rfl)⟩ ⟨(Nat.le_of_ble_eq_true rfl), (Nat.le_of_ble_eq_true rfl)⟩ rfl (Nat.le_of_ble_eq_true rfl) d_Search_mayFollow_16 (k' := 0) (n' := 0) (stk' := [.int p4.1]) rfl rfl rfl ?_
  refine z_if_ne (tgt := 24) C d_Search_mayFollow_19 (by decide) hf (fun hf => ?_) (fun hf => ?_)
  · refine z_iload_n C 3 d_Search_mayFollow_24 rfl rfl ?_
    refine z_if_eq (tgt := 47) C d_Search_mayFollow_25 (by decide) hf (fun hf => ?_) (fun hf => ?_)
    · refine z_sub [] rfl ?_
      exact k_Search_mayFollow_47 N C E  _ hf
    · refine z_aload_n C 1 d_Search_mayFollow_28 rfl rfl ?_
      refine z_getR C 8 0 rfl in_Search (by decide) w_422 rfl d_Search_mayFollow_29 hf (fun v5 hf => ?_)
      refine z_aload_n C 2 d_Search_mayFollow_32 rfl rfl ?_
      refine z_iload_n C 3 d_Search_mayFollow_33 rfl rfl ?_
      refine z_iconst C (v := (1 : Int32)) d_Search_mayFollow_34 (by decide) ?_
      refine z_isub C d_Search_mayFollow_35 ?_
      obtain ⟨p6, hc, hf⟩ := Option.bind_eq_some_iff.mp hf
      obtain ⟨hz, hc⟩ := zck_some hc
      refine z_callV C (ci := 5) (c_Table_slopeOf N C.2.2.1 hc) rfl hz w_569 w_63 w_566 w_567 w_568 pd_Table_slopeOf rfl ⟨(Nat.le_of_ble_eq_true rfl), (Nat.le_of_ble_eq_true rfl)⟩ ⟨(Nat.le_of_ble_eq_true rfl), (Nat.le_of_ble_eq_true rfl)⟩ rfl (Nat.le_of_ble_eq_true rfl) d_Search_mayFollow_36 (k' := 0) (n' := 0) (stk' := [.int p6.1, .ref v5]) rfl rfl rfl ?_
      refine z_iload C 0 d_Search_mayFollow_39 rfl ?_
      obtain ⟨p7, hc, hf⟩ := Option.bind_eq_some_iff.mp hf
      obtain ⟨hz, hc⟩ := zck_some hc
      refine z_callV C (ci := 2) (c_Site_changeFits N C.2.2.1 hc) rfl hz w_573 w_59 w_570 w_571 w_572 pd_Site_changeFits rfl ⟨(Nat.le_of_ble_eq_true rfl), (Nat.le_of_ble_eq_true rfl)⟩ ⟨(Nat.le_of_ble_eq_true rfl), (Nat.le_of_ble_eq_true rfl)⟩ rfl (Nat.le_of_ble_eq_true rfl) d_Search_mayFollow_41 (k' := 0) (n' := 0) (stk' := [.int p7.1]) rfl rfl rfl ?_
      refine z_if_eq (tgt := 51) C d_Search_mayFollow_44 (by decide) hf (fun hf => ?_) (fun hf => ?_)
      · refine z_iconst C (v := (0 : Int32)) d_Search_mayFollow_51 (by decide) ?_
        exact z_zret C E (Nat.le_of_ble_eq_true rfl) (Nat.le_of_ble_eq_true rfl) d_Search_mayFollow_52 hf
      · refine z_sub [] rfl ?_
        exact k_Search_mayFollow_47 N C E  _ hf
  · refine z_iconst C (v := (0 : Int32)) d_Search_mayFollow_22 (by decide) ?_
    exact z_zret C E (Nat.le_of_ble_eq_true rfl) (Nat.le_of_ble_eq_true rfl) d_Search_mayFollow_23 hf

theorem c_Search_mayFollow (N : Nat) {l : Launch} {D : va_G} {T : List (ClassId × FieldType)} (hT : T.map (fun q => q.2) = ztl) {x0 : Nat} {x1 : Nat} {x2 : Int32} {x3 : Int32} {h : zH} {p : Int32 × zH} (hf : f_Search_mayFollow N x0 x1 x2 x3 h = some p) : zM l y_Search_mayFollow prog_5_method_22_code 5 (some .boolean) rm_Search_mayFollow D T [.ref x0, .ref x1, .int x2, .int x3] h (some (.int p.1)) p.2 :=
  z_enter (by decide) hT (Nat.le_of_ble_eq_true rfl) (fun X el eD eT hin C E => k_Search_mayFollow N C E x0 x1 x2 x3 h hf)
