/-! ===== LevelTablesLaw.cell([II)I ===== -/
abbrev y_Law_cell : MethodName := ⟨R_Law, "cell", "([II)I"⟩
theorem pd_Law_cell : y_Law_cell.cls ≠ "java/lang/invoke/MethodHandle" ∧ y_Law_cell.cls ≠ "java/lang/invoke/VarHandle" ∧ (parseMethodDescriptor y_Law_cell.desc).map (fun d => d.parameters.length) = some 2 := ⟨by decide +kernel, by decide +kernel, by decide +kernel⟩
abbrev rm_Law_cell : Room := { frames := 0, cells := 0, slots := 0, locals := 0 }
def f_Law_cell (N : Nat) (x0 : Nat) (x1 : Int32) (h : zH) : Option (Int32 × zH) :=
  Option.bind (zlen h 0 x0) fun (v1 : Int32) =>
  (if v1 ≤ x1 then
    some ((0 : Int32), h)
  else
    Option.bind (zaI h 0 x0 x1) fun (v2 : Int32) =>
    some (v2, h))
theorem d_Law_cell_0 : decode method_2_code 0 = .ok (.iload_n (1), 1) := by decide +kernel
theorem d_Law_cell_1 : decode method_2_code 1 = .ok (.aload_n (0), 1) := by decide +kernel
theorem d_Law_cell_2 : decode method_2_code 2 = .ok (.arraylength, 1) := by decide +kernel
theorem d_Law_cell_3 : decode method_2_code 3 = .ok (.if_icmp .ge (9), 3) := by decide +kernel
theorem d_Law_cell_6 : decode method_2_code 6 = .ok (.aload_n (0), 1) := by decide +kernel
theorem d_Law_cell_7 : decode method_2_code 7 = .ok (.iload_n (1), 1) := by decide +kernel
theorem d_Law_cell_8 : decode method_2_code 8 = .ok (.iaload, 1) := by decide +kernel
theorem d_Law_cell_9 : decode method_2_code 9 = .ok (.goto (4), 3) := by decide +kernel
theorem d_Law_cell_12 : decode method_2_code 12 = .ok (.iconst (0), 1) := by decide +kernel
theorem d_Law_cell_13 : decode method_2_code 13 = .ok (.ireturn, 1) := by decide +kernel
set_option maxHeartbeats 4000000 in
set_option maxRecDepth 100000 in
theorem k_Law_cell (N : Nat) {X : zX} (C : zB X method_2_code 2 R_Law rm_Law_cell) {h0 : zH} {p : Int32 × zH} (E : zR X (some .int) rm_Law_cell h0 (some (.int p.1)) p.2) : ∀ (x0 : Nat) (x1 : Int32) (h : zH), f_Law_cell N x0 x1 h = some p → Zt X 2 0 0 0 [(0, .ref x0), (1, .int x1)] [] h := by
  intro x0 x1 h hf
  unfold f_Law_cell at hf
  refine z_iload_n C 1 d_Law_cell_0 rfl rfl ?_
  refine z_aload_n C 0 d_Law_cell_1 rfl rfl ?_
  refine z_alen C 0 d_Law_cell_2 hf (fun v1 hf => ?_)
  refine z_ic_ge (tgt := 12) C d_Law_cell_3 (by decide) hf (fun hf => ?_) (fun hf => ?_)
  · refine z_iconst C (v := (0 : Int32)) d_Law_cell_12 (by decide) ?_
    exact z_iret C E (Nat.le_of_ble_eq_true rfl) (Nat.le_of_ble_eq_true rfl) d_Law_cell_13 hf
  · refine z_aload_n C 0 d_Law_cell_6 rfl rfl ?_
    refine z_iload_n C 1 d_Law_cell_7 rfl rfl ?_
    refine z_iald C d_Law_cell_8 hf (fun v2 hf => ?_)
    refine z_goto (tgt := 13) C d_Law_cell_9 (by decide) ?_
    exact z_iret C E (Nat.le_of_ble_eq_true rfl) (Nat.le_of_ble_eq_true rfl) d_Law_cell_13 hf

theorem c_Law_cell (N : Nat) {l : Launch} {D : va_G} {T : List (ClassId × FieldType)} (hT : T.map (fun q => q.2) = ztl) {x0 : Nat} {x1 : Int32} {h : zH} {p : Int32 × zH} (hf : f_Law_cell N x0 x1 h = some p) : zM l y_Law_cell method_2_code 2 (some .int) rm_Law_cell D T [.ref x0, .int x1] h (some (.int p.1)) p.2 :=
  z_enter (by decide) hT (Nat.le_of_ble_eq_true rfl) (fun X el eD eT hin C E => k_Law_cell N C E x0 x1 h hf)
