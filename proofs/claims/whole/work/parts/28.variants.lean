/-! ===== LevelTables.bestSearch()LLevelTables$Search; variant A ===== -/
abbrev rm_LT_bestSearchA : Room := { frames := 0, cells := 0, slots := 0, locals := 0 }
def f_LT_bestSearchA (N : Nat) (x0 : Nat) (h : zH) : Option (Nat × zH) :=
  Option.bind (zgQ h x0 1 6) fun q => (if q.isSome = true then
    Option.bind (zgR h x0 1 6) fun (v1 : Nat) =>
    some (v1, h)
  else
    none)
set_option maxHeartbeats 4000000 in
set_option maxRecDepth 100000 in
theorem k_LT_bestSearchA (N : Nat) {X : zX} (C : zB X prog_1_method_23_code 1 R_LT rm_LT_bestSearchA) {h0 : zH} {p : Nat × zH} (E : zR X (some (.object "LevelTables$Search")) rm_LT_bestSearchA h0 (some (.ref p.1)) p.2) : ∀ (x0 : Nat) (h : zH), f_LT_bestSearchA N x0 h = some p → Zt X 1 0 0 0 [(0, .ref x0)] [] h := by
  intro x0 h hf
  unfold f_LT_bestSearchA at hf
  refine z_aload_n C 0 d_LT_bestSearch_0 rfl rfl ?_
  refine z_getQ (tgt := 27) C 1 6 rfl in_LT (by decide) w_272 rfl d_LT_bestSearch_1 d_LT_bestSearch_4 (by decide) hf (fun hf => ?_) (fun hf => ?_)
  · refine z_aload_n C 0 d_LT_bestSearch_27 rfl rfl ?_
    refine z_getR C 1 6 rfl in_LT (by decide) w_272 rfl d_LT_bestSearch_28 hf (fun v1 hf => ?_)
    exact z_aret C E (Nat.le_of_ble_eq_true rfl) (Nat.le_of_ble_eq_true rfl) d_LT_bestSearch_31 hf
  · cases hf

theorem c_LT_bestSearchA (N : Nat) {l : Launch} {D : va_G} {T : List (ClassId × FieldType)} (hT : T.map (fun q => q.2) = ztl) {x0 : Nat} {h : zH} {p : Nat × zH} (hf : f_LT_bestSearchA N x0 h = some p) : zM l y_LT_bestSearch prog_1_method_23_code 1 (some (.object "LevelTables$Search")) rm_LT_bestSearchA D T [.ref x0] h (some (.ref p.1)) p.2 :=
  z_enter (by decide) hT (Nat.le_of_ble_eq_true rfl) (fun X el eD eT hin C E => k_LT_bestSearchA N C E x0 h hf)
/-! ===== LevelTables.run()I variant A ===== -/
abbrev rm_LT_runA : Room := { frames := 6, cells := 0, slots := 0, locals := 157 }
def f_LT_runA (N : Nat) (x0 : Nat) (h : zH) : Option (Int32 × zH) :=
  Option.bind (zck (zis h x0 1) (f_LT_forget N x0  h)) fun (p1 : Unit × zH) =>
  Option.bind (zgR p1.2 x0 1 2) fun (v2 : Nat) =>
  Option.bind (zck (zis p1.2 v2 4) (f_Reach_firstBarred N v2  p1.2)) fun (p3 : Int32 × zH) =>
  (if p3.1 = (-1 : Int32) then
    Option.bind (zck (zis p3.2 x0 1) (f_LT_bestSearchA N x0  p3.2)) fun (p4 : Nat × zH) =>
    Option.bind (zck (zis p4.2 p4.1 8) (f_Search_fillLayers N p4.1  p4.2)) fun (p5 : Unit × zH) =>
    Option.bind (zgR p5.2 x0 1 3) fun (v6 : Nat) =>
    Option.bind (zck (zis p5.2 p4.1 8) (f_Search_trace N p4.1 v6 p5.2)) fun (p7 : Unit × zH) =>
    Option.bind (zgR p7.2 x0 1 3) fun (v8 : Nat) =>
    Option.bind (zgI p7.2 v8 5 5) fun (v9 : Int32) =>
    Option.bind (f_Integer_bitCount N v9 p7.2) fun (p10 : Int32 × zH) =>
    some (p10.1, p10.2)
  else
    some (((-1 : Int32) - p3.1), p3.2))
set_option maxHeartbeats 4000000 in
set_option maxRecDepth 100000 in
theorem k_LT_runA (N : Nat) {X : zX} (C : zB X prog_1_method_8_code 3 R_LT rm_LT_runA) {h0 : zH} {p : Int32 × zH} (E : zR X (some .int) rm_LT_runA h0 (some (.int p.1)) p.2) : ∀ (x0 : Nat) (h : zH), f_LT_runA N x0 h = some p → Zt X 3 0 0 0 [(0, .ref x0)] [] h := by
  intro x0 h hf
  unfold f_LT_runA at hf
  refine z_aload_n C 0 d_LT_run_0 rfl rfl ?_
  obtain ⟨p1, hc, hf⟩ := Option.bind_eq_some_iff.mp hf
  obtain ⟨hz, hc⟩ := zck_some hc
  refine z_callV C (ci := 1) (c_LT_forget N C.2.2.1 hc) rfl hz w_312 w_57 w_309 w_311 w_0 pd_LT_forget rfl ⟨(Nat.le_of_ble_eq_true rfl), (Nat.le_of_ble_eq_true rfl)⟩ ⟨(Nat.le_of_ble_eq_true rfl), (Nat.le_of_ble_eq_true rfl)⟩ rfl (Nat.le_of_ble_eq_true rfl) d_LT_run_1 (k' := 0) (n' := 0) (stk' := []) rfl rfl rfl ?_
  refine z_aload_n C 0 d_LT_run_4 rfl rfl ?_
  refine z_getR C 1 2 rfl in_LT (by decide) w_268 rfl d_LT_run_5 hf (fun v2 hf => ?_)
  obtain ⟨p3, hc, hf⟩ := Option.bind_eq_some_iff.mp hf
  obtain ⟨hz, hc⟩ := zck_some hc
  refine z_callV C (ci := 4) (c_Reach_firstBarred N C.2.2.1 hc) rfl hz w_367 w_62 w_364 w_365 w_366 pd_Reach_firstBarred rfl ⟨(Nat.le_of_ble_eq_true rfl), (Nat.le_of_ble_eq_true rfl)⟩ ⟨(Nat.le_of_ble_eq_true rfl), (Nat.le_of_ble_eq_true rfl)⟩ rfl (Nat.le_of_ble_eq_true rfl) d_LT_run_8 (k' := 0) (n' := 0) (stk' := [.int p3.1]) rfl rfl rfl ?_
  refine z_istore_n C (lv' := [(1, .int p3.1), (0, .ref x0)]) d_LT_run_11 rfl (by decide) rfl ?_
  refine z_iload_n C 0 d_LT_run_12 rfl rfl ?_
  refine z_iconst C (v := (-1 : Int32)) d_LT_run_13 (by decide) ?_
  refine z_ic_eq (tgt := 21) C d_LT_run_14 (by decide) hf (fun hf => ?_) (fun hf => ?_)
  · refine z_aload_n C 1 d_LT_run_21 rfl rfl ?_
    obtain ⟨p4, hc, hf⟩ := Option.bind_eq_some_iff.mp hf
    obtain ⟨hz, hc⟩ := zck_some hc
    refine z_callV C (ci := 1) (c_LT_bestSearchA N C.2.2.1 hc) rfl hz w_412 w_57 w_409 w_411 w_5 pd_LT_bestSearch rfl ⟨(Nat.le_of_ble_eq_true rfl), (Nat.le_of_ble_eq_true rfl)⟩ ⟨(Nat.le_of_ble_eq_true rfl), (Nat.le_of_ble_eq_true rfl)⟩ rfl (Nat.le_of_ble_eq_true rfl) d_LT_run_22 (k' := 0) (n' := 0) (stk' := [.ref p4.1]) rfl rfl rfl ?_
    refine z_astore_n C (lv' := [(2, .ref p4.1), (1, .int p3.1), (0, .ref x0)]) d_LT_run_25 rfl (by decide) rfl ?_
    refine z_aload_n C 0 d_LT_run_26 rfl rfl ?_
    obtain ⟨p5, hc, hf⟩ := Option.bind_eq_some_iff.mp hf
    obtain ⟨hz, hc⟩ := zck_some hc
    refine z_callV C (ci := 8) (c_Search_fillLayers N C.2.2.1 hc) rfl hz w_459 w_67 w_456 w_457 w_458 pd_Search_fillLayers rfl ⟨(Nat.le_of_ble_eq_true rfl), (Nat.le_of_ble_eq_true rfl)⟩ ⟨(Nat.le_of_ble_eq_true rfl), (Nat.le_of_ble_eq_true rfl)⟩ rfl (Nat.le_of_ble_eq_true rfl) d_LT_run_27 (k' := 0) (n' := 0) (stk' := []) rfl rfl rfl ?_
    refine z_aload_n C 0 d_LT_run_30 rfl rfl ?_
    refine z_aload_n C 2 d_LT_run_31 rfl rfl ?_
    refine z_getR C 1 3 rfl in_LT (by decide) w_269 rfl d_LT_run_32 hf (fun v6 hf => ?_)
    obtain ⟨p7, hc, hf⟩ := Option.bind_eq_some_iff.mp hf
    obtain ⟨hz, hc⟩ := zck_some hc
    refine z_callV C (ci := 8) (c_Search_trace N C.2.2.1 hc) rfl hz w_553 w_67 w_550 w_551 w_552 pd_Search_trace rfl ⟨(Nat.le_of_ble_eq_true rfl), (Nat.le_of_ble_eq_true rfl)⟩ ⟨(Nat.le_of_ble_eq_true rfl), (Nat.le_of_ble_eq_true rfl)⟩ rfl (Nat.le_of_ble_eq_true rfl) d_LT_run_35 (k' := 0) (n' := 0) (stk' := []) rfl rfl rfl ?_
    refine z_aload_n C 2 d_LT_run_38 rfl rfl ?_
    refine z_getR C 1 3 rfl in_LT (by decide) w_269 rfl d_LT_run_39 hf (fun v8 hf => ?_)
    refine z_getI C 5 5 rfl in_Table (by decide) w_208 rfl d_LT_run_42 hf (fun v9 hf => ?_)
    obtain ⟨p10, hc, hf⟩ := Option.bind_eq_some_iff.mp hf
    refine z_callS C (c_Integer_bitCount N C.2.2.1 hc) w_580 w_69 w_578 w_579 pd_Integer_bitCount rfl ⟨(Nat.le_of_ble_eq_true rfl), (Nat.le_of_ble_eq_true rfl)⟩ ⟨(Nat.le_of_ble_eq_true rfl), (Nat.le_of_ble_eq_true rfl)⟩ rfl (Nat.le_of_ble_eq_true rfl) d_LT_run_45 (k' := 0) (n' := 0) (stk' := [.int p10.1]) rfl rfl rfl ?_
    exact z_iret C E (Nat.le_of_ble_eq_true rfl) (Nat.le_of_ble_eq_true rfl) d_LT_run_48 hf
  · refine z_iconst C (v := (-1 : Int32)) d_LT_run_17 (by decide) ?_
    refine z_iload_n C 0 d_LT_run_18 rfl rfl ?_
    refine z_isub C d_LT_run_19 ?_
    exact z_iret C E (Nat.le_of_ble_eq_true rfl) (Nat.le_of_ble_eq_true rfl) d_LT_run_20 hf

theorem c_LT_runA (N : Nat) {l : Launch} {D : va_G} {T : List (ClassId × FieldType)} (hT : T.map (fun q => q.2) = ztl) {x0 : Nat} {h : zH} {p : Int32 × zH} (hf : f_LT_runA N x0 h = some p) : zM l y_LT_run prog_1_method_8_code 3 (some .int) rm_LT_runA D T [.ref x0] h (some (.int p.1)) p.2 :=
  z_enter (by decide) hT (Nat.le_of_ble_eq_true rfl) (fun X el eD eT hin C E => k_LT_runA N C E x0 h hf)
/-! ===== LevelTables.move(II)Z variant A ===== -/
abbrev rm_LT_moveA : Room := { frames := 6, cells := 0, slots := 0, locals := 157 }
def f_LT_moveA (N : Nat) (x0 : Nat) (x1 : Int32) (x2 : Int32) (h : zH) : Option (Int32 × zH) :=
  Option.bind (zgR h x0 1 3) fun (v1 : Nat) =>
  Option.bind (zgI h v1 5 4) fun (v2 : Int32) =>
  (if v2 = 0 then
    zrb (0 : Int32) h
  else
    Option.bind (zgR h x0 1 0) fun (v3 : Nat) =>
    Option.bind (zck (zis h v3 2) (f_Site_isPlace N v3 x1 h)) fun (p4 : Int32 × zH) =>
    (if p4.1 = 0 then
      zrb (0 : Int32) p4.2
    else
      Option.bind (zgR p4.2 x0 1 0) fun (v5 : Nat) =>
      Option.bind (zck (zis p4.2 v5 2) (f_Site_isLevelOrNone N v5 x2 p4.2)) fun (p6 : Int32 × zH) =>
      (if p6.1 = 0 then
        zrb (0 : Int32) p6.2
      else
        Option.bind (zgR p6.2 x0 1 0) fun (v7 : Nat) =>
        Option.bind (zgR p6.2 v7 2 6) fun (v8 : Nat) =>
        Option.bind (zaI p6.2 0 v8 x1) fun (v9 : Int32) =>
        Option.bind (zgR p6.2 x0 1 0) fun (v10 : Nat) =>
        Option.bind (zgR p6.2 v10 2 6) fun (v11 : Nat) =>
        Option.bind (zsI p6.2 0 v11 x1 x2) fun (h12 : zH) =>
        Option.bind (zgR h12 x0 1 2) fun (v13 : Nat) =>
        Option.bind (zck (zis h12 v13 4) (f_Reach_firstBarred N v13  h12)) fun (p14 : Int32 × zH) =>
        (if p14.1 = (-1 : Int32) then
          Option.bind (zck (zis p14.2 x0 1) (f_LT_forget N x0  p14.2)) fun (p15 : Unit × zH) =>
          Option.bind (zck (zis p15.2 x0 1) (f_LT_bestSearchA N x0  p15.2)) fun (p16 : Nat × zH) =>
          Option.bind (zck (zis p16.2 p16.1 8) (f_Search_fillLayers N p16.1  p16.2)) fun (p17 : Unit × zH) =>
          Option.bind (zgR p17.2 x0 1 3) fun (v18 : Nat) =>
          Option.bind (zck (zis p17.2 p16.1 8) (f_Search_trace N p16.1 v18 p17.2)) fun (p19 : Unit × zH) =>
          zrb (1 : Int32) p19.2
        else
          Option.bind (zgR p14.2 x0 1 0) fun (v20 : Nat) =>
          Option.bind (zgR p14.2 v20 2 6) fun (v21 : Nat) =>
          Option.bind (zsI p14.2 0 v21 x1 v9) fun (h22 : zH) =>
          zrb (0 : Int32) h22))))
set_option maxHeartbeats 4000000 in
set_option maxRecDepth 100000 in
theorem k_LT_moveA (N : Nat) {X : zX} (C : zB X prog_1_method_12_code 5 R_LT rm_LT_moveA) {h0 : zH} {p : Int32 × zH} (E : zR X (some .boolean) rm_LT_moveA h0 (some (.int p.1)) p.2) : ∀ (x0 : Nat) (x1 : Int32) (x2 : Int32) (h : zH), f_LT_moveA N x0 x1 x2 h = some p → Zt X 5 0 0 0 [(0, .ref x0), (1, .int x1), (2, .int x2)] [] h := by
  intro x0 x1 x2 h hf
  unfold f_LT_moveA at hf
  refine z_aload_n C 0 d_LT_move_0 rfl rfl ?_
  refine z_getR C 1 3 rfl in_LT (by decide) w_269 rfl d_LT_move_1 hf (fun v1 hf => ?_)
  refine z_getI C 5 4 rfl in_Table (by decide) w_205 rfl d_LT_move_4 hf (fun v2 hf => ?_)
  refine z_if_eq (tgt := 32) C d_LT_move_7 (by decide) hf (fun hf => ?_) (fun hf => ?_)
  · refine z_iconst C (v := (0 : Int32)) d_LT_move_32 (by decide) ?_
    exact z_zret C E (Nat.le_of_ble_eq_true rfl) (Nat.le_of_ble_eq_true rfl) d_LT_move_33 hf
  · refine z_aload_n C 0 d_LT_move_10 rfl rfl ?_
    refine z_getR C 1 0 rfl in_LT (by decide) w_266 rfl d_LT_move_11 hf (fun v3 hf => ?_)
    refine z_iload_n C 1 d_LT_move_14 rfl rfl ?_
    obtain ⟨p4, hc, hf⟩ := Option.bind_eq_some_iff.mp hf
    obtain ⟨hz, hc⟩ := zck_some hc
    refine z_callV C (ci := 2) (c_Site_isPlace N C.2.2.1 hc) rfl hz w_304 w_59 w_301 w_302 w_303 pd_Site_isPlace rfl ⟨(Nat.le_of_ble_eq_true rfl), (Nat.le_of_ble_eq_true rfl)⟩ ⟨(Nat.le_of_ble_eq_true rfl), (Nat.le_of_ble_eq_true rfl)⟩ rfl (Nat.le_of_ble_eq_true rfl) d_LT_move_15 (k' := 0) (n' := 0) (stk' := [.int p4.1]) rfl rfl rfl ?_
    refine z_if_eq (tgt := 32) C d_LT_move_18 (by decide) hf (fun hf => ?_) (fun hf => ?_)
    · refine z_iconst C (v := (0 : Int32)) d_LT_move_32 (by decide) ?_
      exact z_zret C E (Nat.le_of_ble_eq_true rfl) (Nat.le_of_ble_eq_true rfl) d_LT_move_33 hf
    · refine z_aload_n C 0 d_LT_move_21 rfl rfl ?_
      refine z_getR C 1 0 rfl in_LT (by decide) w_266 rfl d_LT_move_22 hf (fun v5 hf => ?_)
      refine z_iload_n C 2 d_LT_move_25 rfl rfl ?_
      obtain ⟨p6, hc, hf⟩ := Option.bind_eq_some_iff.mp hf
      obtain ⟨hz, hc⟩ := zck_some hc
      refine z_callV C (ci := 2) (c_Site_isLevelOrNone N C.2.2.1 hc) rfl hz w_354 w_59 w_351 w_352 w_353 pd_Site_isLevelOrNone rfl ⟨(Nat.le_of_ble_eq_true rfl), (Nat.le_of_ble_eq_true rfl)⟩ ⟨(Nat.le_of_ble_eq_true rfl), (Nat.le_of_ble_eq_true rfl)⟩ rfl (Nat.le_of_ble_eq_true rfl) d_LT_move_26 (k' := 0) (n' := 0) (stk' := [.int p6.1]) rfl rfl rfl ?_
      refine z_if_ne (tgt := 34) C d_LT_move_29 (by decide) hf (fun hf => ?_) (fun hf => ?_)
      · refine z_aload_n C 0 d_LT_move_34 rfl rfl ?_
        refine z_getR C 1 0 rfl in_LT (by decide) w_266 rfl d_LT_move_35 hf (fun v7 hf => ?_)
        refine z_getR C 2 6 rfl in_Site (by decide) w_112 rfl d_LT_move_38 hf (fun v8 hf => ?_)
        refine z_iload_n C 1 d_LT_move_41 rfl rfl ?_
        refine z_iald C d_LT_move_42 hf (fun v9 hf => ?_)
        refine z_istore_n C (lv' := [(3, .int v9), (0, .ref x0), (1, .int x1), (2, .int x2)]) d_LT_move_43 rfl (by decide) rfl ?_
        refine z_aload_n C 1 d_LT_move_44 rfl rfl ?_
        refine z_getR C 1 0 rfl in_LT (by decide) w_266 rfl d_LT_move_45 hf (fun v10 hf => ?_)
        refine z_getR C 2 6 rfl in_Site (by decide) w_112 rfl d_LT_move_48 hf (fun v11 hf => ?_)
        refine z_iload_n C 2 d_LT_move_51 rfl rfl ?_
        refine z_iload_n C 3 d_LT_move_52 rfl rfl ?_
        refine z_iast C d_LT_move_53 hf (fun h12 hf => ?_)
        refine z_aload_n C 1 d_LT_move_54 rfl rfl ?_
        refine z_getR C 1 2 rfl in_LT (by decide) w_268 rfl d_LT_move_55 hf (fun v13 hf => ?_)
        obtain ⟨p14, hc, hf⟩ := Option.bind_eq_some_iff.mp hf
        obtain ⟨hz, hc⟩ := zck_some hc
        refine z_callV C (ci := 4) (c_Reach_firstBarred N C.2.2.1 hc) rfl hz w_367 w_62 w_364 w_365 w_366 pd_Reach_firstBarred rfl ⟨(Nat.le_of_ble_eq_true rfl), (Nat.le_of_ble_eq_true rfl)⟩ ⟨(Nat.le_of_ble_eq_true rfl), (Nat.le_of_ble_eq_true rfl)⟩ rfl (Nat.le_of_ble_eq_true rfl) d_LT_move_58 (k' := 0) (n' := 0) (stk' := [.int p14.1]) rfl rfl rfl ?_
        refine z_iconst C (v := (-1 : Int32)) d_LT_move_61 (by decide) ?_
        refine z_ic_eq (tgt := 77) C d_LT_move_62 (by decide) hf (fun hf => ?_) (fun hf => ?_)
        · refine z_aload_n C 1 d_LT_move_77 rfl rfl ?_
          obtain ⟨p15, hc, hf⟩ := Option.bind_eq_some_iff.mp hf
          obtain ⟨hz, hc⟩ := zck_some hc
          refine z_callV C (ci := 1) (c_LT_forget N C.2.2.1 hc) rfl hz w_312 w_57 w_309 w_311 w_0 pd_LT_forget rfl ⟨(Nat.le_of_ble_eq_true rfl), (Nat.le_of_ble_eq_true rfl)⟩ ⟨(Nat.le_of_ble_eq_true rfl), (Nat.le_of_ble_eq_true rfl)⟩ rfl (Nat.le_of_ble_eq_true rfl) d_LT_move_78 (k' := 0) (n' := 0) (stk' := []) rfl rfl rfl ?_
          refine z_aload_n C 1 d_LT_move_81 rfl rfl ?_
          obtain ⟨p16, hc, hf⟩ := Option.bind_eq_some_iff.mp hf
          obtain ⟨hz, hc⟩ := zck_some hc
          refine z_callV C (ci := 1) (c_LT_bestSearchA N C.2.2.1 hc) rfl hz w_412 w_57 w_409 w_411 w_5 pd_LT_bestSearch rfl ⟨(Nat.le_of_ble_eq_true rfl), (Nat.le_of_ble_eq_true rfl)⟩ ⟨(Nat.le_of_ble_eq_true rfl), (Nat.le_of_ble_eq_true rfl)⟩ rfl (Nat.le_of_ble_eq_true rfl) d_LT_move_82 (k' := 0) (n' := 0) (stk' := [.ref p16.1]) rfl rfl rfl ?_
          refine z_astore C (lv' := [(4, .ref p16.1), (3, .int v9), (0, .ref x0), (1, .int x1), (2, .int x2)]) d_LT_move_85 (by decide) rfl ?_
          refine z_aload C 0 d_LT_move_87 rfl ?_
          obtain ⟨p17, hc, hf⟩ := Option.bind_eq_some_iff.mp hf
          obtain ⟨hz, hc⟩ := zck_some hc
          refine z_callV C (ci := 8) (c_Search_fillLayers N C.2.2.1 hc) rfl hz w_459 w_67 w_456 w_457 w_458 pd_Search_fillLayers rfl ⟨(Nat.le_of_ble_eq_true rfl), (Nat.le_of_ble_eq_true rfl)⟩ ⟨(Nat.le_of_ble_eq_true rfl), (Nat.le_of_ble_eq_true rfl)⟩ rfl (Nat.le_of_ble_eq_true rfl) d_LT_move_89 (k' := 0) (n' := 0) (stk' := []) rfl rfl rfl ?_
          refine z_aload C 0 d_LT_move_92 rfl ?_
          refine z_aload_n C 2 d_LT_move_94 rfl rfl ?_
          refine z_getR C 1 3 rfl in_LT (by decide) w_269 rfl d_LT_move_95 hf (fun v18 hf => ?_)
          obtain ⟨p19, hc, hf⟩ := Option.bind_eq_some_iff.mp hf
          obtain ⟨hz, hc⟩ := zck_some hc
          refine z_callV C (ci := 8) (c_Search_trace N C.2.2.1 hc) rfl hz w_553 w_67 w_550 w_551 w_552 pd_Search_trace rfl ⟨(Nat.le_of_ble_eq_true rfl), (Nat.le_of_ble_eq_true rfl)⟩ ⟨(Nat.le_of_ble_eq_true rfl), (Nat.le_of_ble_eq_true rfl)⟩ rfl (Nat.le_of_ble_eq_true rfl) d_LT_move_98 (k' := 0) (n' := 0) (stk' := []) rfl rfl rfl ?_
          refine z_iconst C (v := (1 : Int32)) d_LT_move_101 (by decide) ?_
          exact z_zret C E (Nat.le_of_ble_eq_true rfl) (Nat.le_of_ble_eq_true rfl) d_LT_move_102 hf
        · refine z_aload_n C 1 d_LT_move_65 rfl rfl ?_
          refine z_getR C 1 0 rfl in_LT (by decide) w_266 rfl d_LT_move_66 hf (fun v20 hf => ?_)
          refine z_getR C 2 6 rfl in_Site (by decide) w_112 rfl d_LT_move_69 hf (fun v21 hf => ?_)
          refine z_iload_n C 2 d_LT_move_72 rfl rfl ?_
          refine z_iload_n C 0 d_LT_move_73 rfl rfl ?_
          refine z_iast C d_LT_move_74 hf (fun h22 hf => ?_)
          refine z_iconst C (v := (0 : Int32)) d_LT_move_75 (by decide) ?_
          exact z_zret C E (Nat.le_of_ble_eq_true rfl) (Nat.le_of_ble_eq_true rfl) d_LT_move_76 hf
      · refine z_iconst C (v := (0 : Int32)) d_LT_move_32 (by decide) ?_
        exact z_zret C E (Nat.le_of_ble_eq_true rfl) (Nat.le_of_ble_eq_true rfl) d_LT_move_33 hf

theorem c_LT_moveA (N : Nat) {l : Launch} {D : va_G} {T : List (ClassId × FieldType)} (hT : T.map (fun q => q.2) = ztl) {x0 : Nat} {x1 : Int32} {x2 : Int32} {h : zH} {p : Int32 × zH} (hf : f_LT_moveA N x0 x1 x2 h = some p) : zM l y_LT_move prog_1_method_12_code 5 (some .boolean) rm_LT_moveA D T [.ref x0, .int x1, .int x2] h (some (.int p.1)) p.2 :=
  z_enter (by decide) hT (Nat.le_of_ble_eq_true rfl) (fun X el eD eT hin C E => k_LT_moveA N C E x0 x1 x2 h hf)
/-! ===== LevelTables.other(I)J variant A ===== -/
abbrev rm_LT_otherA : Room := { frames := 6, cells := 0, slots := 0, locals := 157 }
def f_LT_otherA_71 (N : Nat) (x0 : Nat) (x1 : Int32) (h : zH) : Option (Int64 × zH) :=
  Option.bind (zgR h x0 1 7) fun (v1 : Nat) =>
  Option.bind (zck (zis h v1 8) (f_Search_leastOrNone N v1 x1 h)) fun (p2 : Int64 × zH) =>
  some (p2.1, p2.2)
def f_LT_otherA (N : Nat) (x0 : Nat) (x1 : Int32) (h : zH) : Option (Int64 × zH) :=
  Option.bind (zgR h x0 1 3) fun (v3 : Nat) =>
  Option.bind (zgI h v3 5 4) fun (v4 : Int32) =>
  (if v4 = 0 then
    some ((-1 : Int64), h)
  else
    (if x1 < 0 then
      some ((-1 : Int64), h)
    else
      (if x1 < (6 : Int32) then
        Option.bind (zgQ h x0 1 7) fun q => (if q.isSome = true then
          Option.bind (zgI h x0 1 8) fun (v5 : Int32) =>
          (if v5 = 0 then
            Option.bind (zgR h x0 1 7) fun (v6 : Nat) =>
            Option.bind (zck (zis h v6 8) (f_Search_fillLayers N v6  h)) fun (p7 : Unit × zH) =>
            Option.bind (zpZ p7.2 x0 1 8 (1 : Int32)) fun (h8 : zH) =>
            f_LT_otherA_71 N x0 x1 h8
          else
            f_LT_otherA_71 N x0 x1 h)
        else
          none)
      else
        some ((-1 : Int64), h))))
set_option maxHeartbeats 4000000 in
set_option maxRecDepth 100000 in
theorem k_LT_otherA_71 (N : Nat) {X : zX} (C : zB X prog_1_method_11_code 2 R_LT rm_LT_otherA) {h0 : zH} {p : Int64 × zH} (E : zR X (some .long) rm_LT_otherA h0 (some (.long p.1)) p.2) : ∀ (x0 : Nat) (x1 : Int32) (h : zH), f_LT_otherA_71 N x0 x1 h = some p → Zt X 2 0 0 71 [(0, .ref x0), (1, .int x1)] [] h := by
  intro x0 x1 h hf
  unfold f_LT_otherA_71 at hf
  refine z_aload_n C 0 d_LT_other_71 rfl rfl ?_
  refine z_getR C 1 7 rfl in_LT (by decide) w_273 rfl d_LT_other_72 hf (fun v1 hf => ?_)
  refine z_iload_n C 1 d_LT_other_75 rfl rfl ?_
  obtain ⟨p2, hc, hf⟩ := Option.bind_eq_some_iff.mp hf
  obtain ⟨hz, hc⟩ := zck_some hc
  refine z_callV C (ci := 8) (c_Search_leastOrNone N C.2.2.1 hc) rfl hz w_600 w_67 w_597 w_598 w_599 pd_Search_leastOrNone rfl ⟨(Nat.le_of_ble_eq_true rfl), (Nat.le_of_ble_eq_true rfl)⟩ ⟨(Nat.le_of_ble_eq_true rfl), (Nat.le_of_ble_eq_true rfl)⟩ rfl (Nat.le_of_ble_eq_true rfl) d_LT_other_76 (k' := 0) (n' := 0) (stk' := [.long p2.1]) rfl rfl rfl ?_
  exact z_lret C E (Nat.le_of_ble_eq_true rfl) (Nat.le_of_ble_eq_true rfl) d_LT_other_79 hf

set_option maxHeartbeats 4000000 in
set_option maxRecDepth 100000 in
theorem k_LT_otherA (N : Nat) {X : zX} (C : zB X prog_1_method_11_code 2 R_LT rm_LT_otherA) {h0 : zH} {p : Int64 × zH} (E : zR X (some .long) rm_LT_otherA h0 (some (.long p.1)) p.2) : ∀ (x0 : Nat) (x1 : Int32) (h : zH), f_LT_otherA N x0 x1 h = some p → Zt X 2 0 0 0 [(0, .ref x0), (1, .int x1)] [] h := by
  intro x0 x1 h hf
  unfold f_LT_otherA at hf
  refine z_aload_n C 0 d_LT_other_0 rfl rfl ?_
  refine z_getR C 1 3 rfl in_LT (by decide) w_269 rfl d_LT_other_1 hf (fun v3 hf => ?_)
  refine z_getI C 5 4 rfl in_Table (by decide) w_205 rfl d_LT_other_4 hf (fun v4 hf => ?_)
  refine z_if_eq (tgt := 20) C d_LT_other_7 (by decide) hf (fun hf => ?_) (fun hf => ?_)
  · refine z_ldc2 C d_LT_other_20 w_592 ?_
    exact z_lret C E (Nat.le_of_ble_eq_true rfl) (Nat.le_of_ble_eq_true rfl) d_LT_other_23 hf
  · refine z_iload_n C 1 d_LT_other_10 rfl rfl ?_
    refine z_if_lt (tgt := 20) C d_LT_other_11 (by decide) hf (fun hf => ?_) (fun hf => ?_)
    · refine z_ldc2 C d_LT_other_20 w_592 ?_
      exact z_lret C E (Nat.le_of_ble_eq_true rfl) (Nat.le_of_ble_eq_true rfl) d_LT_other_23 hf
    · refine z_iload_n C 1 d_LT_other_14 rfl rfl ?_
      refine z_bipush C (v := (6 : Int32)) d_LT_other_15 (by decide) ?_
      refine z_ic_lt (tgt := 24) C d_LT_other_17 (by decide) hf (fun hf => ?_) (fun hf => ?_)
      · refine z_aload_n C 0 d_LT_other_24 rfl rfl ?_
        refine z_getQ (tgt := 52) C 1 7 rfl in_LT (by decide) w_273 rfl d_LT_other_25 d_LT_other_28 (by decide) hf (fun hf => ?_) (fun hf => ?_)
        · refine z_aload_n C 0 d_LT_other_52 rfl rfl ?_
          refine z_getI C 1 8 rfl in_LT (by decide) w_274 rfl d_LT_other_53 hf (fun v5 hf => ?_)
          refine z_if_ne (tgt := 71) C d_LT_other_56 (by decide) hf (fun hf => ?_) (fun hf => ?_)
          · refine z_sub [0, 1] rfl ?_
            exact k_LT_otherA_71 N C E _ _ _ hf
          · refine z_aload_n C 0 d_LT_other_59 rfl rfl ?_
            refine z_getR C 1 7 rfl in_LT (by decide) w_273 rfl d_LT_other_60 hf (fun v6 hf => ?_)
            obtain ⟨p7, hc, hf⟩ := Option.bind_eq_some_iff.mp hf
            obtain ⟨hz, hc⟩ := zck_some hc
            refine z_callV C (ci := 8) (c_Search_fillLayers N C.2.2.1 hc) rfl hz w_459 w_67 w_456 w_457 w_458 pd_Search_fillLayers rfl ⟨(Nat.le_of_ble_eq_true rfl), (Nat.le_of_ble_eq_true rfl)⟩ ⟨(Nat.le_of_ble_eq_true rfl), (Nat.le_of_ble_eq_true rfl)⟩ rfl (Nat.le_of_ble_eq_true rfl) d_LT_other_63 (k' := 0) (n' := 0) (stk' := []) rfl rfl rfl ?_
            refine z_aload_n C 0 d_LT_other_66 rfl rfl ?_
            refine z_iconst C (v := (1 : Int32)) d_LT_other_67 (by decide) ?_
            refine z_putZ C 1 8 ty_LT rfl in_LT tyok_LT nm_LT (by decide) w_274 rfl (Or.inl rfl) rfl d_LT_other_68 hf (fun h8 hf => ?_)
            refine z_sub [0, 1] rfl ?_
            exact k_LT_otherA_71 N C E _ _ _ hf
        · cases hf
      · refine z_ldc2 C d_LT_other_20 w_592 ?_
        exact z_lret C E (Nat.le_of_ble_eq_true rfl) (Nat.le_of_ble_eq_true rfl) d_LT_other_23 hf

theorem c_LT_otherA (N : Nat) {l : Launch} {D : va_G} {T : List (ClassId × FieldType)} (hT : T.map (fun q => q.2) = ztl) {x0 : Nat} {x1 : Int32} {h : zH} {p : Int64 × zH} (hf : f_LT_otherA N x0 x1 h = some p) : zM l y_LT_other prog_1_method_11_code 2 (some .long) rm_LT_otherA D T [.ref x0, .int x1] h (some (.long p.1)) p.2 :=
  z_enter (by decide) hT (Nat.le_of_ble_eq_true rfl) (fun X el eD eT hin C E => k_LT_otherA N C E x0 x1 h hf)
