/-! ===== LevelTablesModel.goAlong()V ===== -/
abbrev y_Model_goAlong : MethodName := ⟨R_Model, "goAlong", "()V"⟩
theorem pd_Model_goAlong : y_Model_goAlong.cls ≠ "java/lang/invoke/MethodHandle" ∧ y_Model_goAlong.cls ≠ "java/lang/invoke/VarHandle" ∧ (parseMethodDescriptor y_Model_goAlong.desc).map (fun d => d.parameters.length) = some 0 := ⟨by decide +kernel, by decide +kernel, by decide +kernel⟩
abbrev rm_Model_goAlong : Room := { frames := 3, cells := 0, slots := 0, locals := 70 }
def f_Model_goAlong_441 (N : Nat) (rc45 : Nat → Int32 → Int32 → Int32 → zH → Option (Unit × zH)) (x0 : Nat) (x1 : Int32) (x2 : Int32) (x3 : Int32) (h : zH) : Option (Unit × zH) :=
  rc45 x0 x1 x2 x3 h
def f_Model_goAlong_435 (N : Nat) (rc45 : Nat → Int32 → Int32 → Int32 → zH → Option (Unit × zH)) (rc78 : Nat → Int32 → Int32 → Int32 → Int32 → Int32 → Int32 → Int32 → zH → Option (Unit × zH)) (x0 : Nat) (x1 : Int32) (x2 : Int32) (x3 : Int32) (x4 : Int32) (x5 : Int32) (x6 : Int32) (x7 : Int32) (h : zH) : Option (Unit × zH) :=
  rc78 x0 x1 x2 x3 x4 x5 x6 (x7 + (1 : Int32)) h
def f_Model_goAlong_434 (N : Nat) (rc45 : Nat → Int32 → Int32 → Int32 → zH → Option (Unit × zH)) (rc78 : Nat → Int32 → Int32 → Int32 → Int32 → Int32 → Int32 → Int32 → zH → Option (Unit × zH)) (x0 : Nat) (x1 : Int32) (x2 : Int32) (x4 : Int32) (x5 : Int32) (x6 : Int32) (x7 : Int32) (s0 : Int32) (h : zH) : Option (Unit × zH) :=
  f_Model_goAlong_435 N rc45 rc78 x0 x1 x2 s0 x4 x5 x6 x7 h
def f_Model_goAlong_420 (N : Nat) (rc45 : Nat → Int32 → Int32 → Int32 → zH → Option (Unit × zH)) (rc78 : Nat → Int32 → Int32 → Int32 → Int32 → Int32 → Int32 → Int32 → zH → Option (Unit × zH)) (x0 : Nat) (x1 : Int32) (x2 : Int32) (x3 : Int32) (x4 : Int32) (x5 : Int32) (x6 : Int32) (x7 : Int32) (h : zH) : Option (Unit × zH) :=
  (if x6 = 0 then
    f_Model_goAlong_434 N rc45 rc78 x0 x1 x2 x4 x5 x6 x7 x3 h
  else
    f_Model_goAlong_434 N rc45 rc78 x0 x1 x2 x4 x5 x6 x7 (x7 + (24 : Int32)) h)
def b_Model_goAlong_386 (N : Nat) (rc45 : Nat → Int32 → Int32 → Int32 → zH → Option (Unit × zH)) (rc78 : Nat → Int32 → Int32 → Int32 → Int32 → Int32 → Int32 → Int32 → zH → Option (Unit × zH)) (rc386 : Nat → Int32 → Int32 → Int32 → Int32 → Int32 → Int32 → Int32 → Int32 → Int32 → zH → Option (Unit × zH)) (x0 : Nat) (x1 : Int32) (x2 : Int32) (x3 : Int32) (x4 : Int32) (x5 : Int32) (x6 : Int32) (x7 : Int32) (x8 : Int32) (x9 : Int32) (h : zH) : Option (Unit × zH) :=
  (if x8 ≤ x9 then
    f_Model_goAlong_420 N rc45 rc78 x0 x1 x2 x3 x4 x5 x6 x7 h
  else
    (if x6 = 0 then
      f_Model_goAlong_420 N rc45 rc78 x0 x1 x2 x3 x4 x5 x6 x7 h
    else
      Option.bind (zgR h x0 0 25) fun (v1 : Nat) =>
      Option.bind (zsI h 0 v1 (x2 + (1 : Int32)) (x1 + x7)) fun (h2 : zH) =>
      rc386 x0 (x1 + x7) (x2 + (1 : Int32)) x3 x4 x5 x6 x7 x8 (x9 + (1 : Int32)) h2))
def f_Model_goAlong_386 (N : Nat) (rc45 : Nat → Int32 → Int32 → Int32 → zH → Option (Unit × zH)) (rc78 : Nat → Int32 → Int32 → Int32 → Int32 → Int32 → Int32 → Int32 → zH → Option (Unit × zH)) : Nat → Nat → Int32 → Int32 → Int32 → Int32 → Int32 → Int32 → Int32 → Int32 → Int32 → zH → Option (Unit × zH)
  | 0 => fun _ _ _ _ _ _ _ _ _ _ _ => none
  | n + 1 => fun x0 x1 x2 x3 x4 x5 x6 x7 x8 x9 h => b_Model_goAlong_386 N rc45 rc78 (f_Model_goAlong_386 N rc45 rc78 n) x0 x1 x2 x3 x4 x5 x6 x7 x8 x9 h
def f_Model_goAlong_383 (N : Nat) (rc45 : Nat → Int32 → Int32 → Int32 → zH → Option (Unit × zH)) (rc78 : Nat → Int32 → Int32 → Int32 → Int32 → Int32 → Int32 → Int32 → zH → Option (Unit × zH)) (x0 : Nat) (x1 : Int32) (x2 : Int32) (x3 : Int32) (x4 : Int32) (x5 : Int32) (x6 : Int32) (x7 : Int32) (x8 : Int32) (h : zH) : Option (Unit × zH) :=
  f_Model_goAlong_386 N rc45 rc78 N x0 x1 x2 x3 x4 x5 x6 x7 x8 (0 : Int32) h
def f_Model_goAlong_380 (N : Nat) (rc45 : Nat → Int32 → Int32 → Int32 → zH → Option (Unit × zH)) (rc78 : Nat → Int32 → Int32 → Int32 → Int32 → Int32 → Int32 → Int32 → zH → Option (Unit × zH)) (x0 : Nat) (x1 : Int32) (x2 : Int32) (x3 : Int32) (x4 : Int32) (x5 : Int32) (x6 : Int32) (x7 : Int32) (x8 : Int32) (s0 : Nat) (s1 : Int32) (h : zH) : Option (Unit × zH) :=
  Option.bind (zp h s0 0 26 (.int s1)) fun (h3 : zH) =>
  f_Model_goAlong_383 N rc45 rc78 x0 x1 x2 x3 x4 x5 x6 x7 x8 h3
def f_Model_goAlong_356 (N : Nat) (rc45 : Nat → Int32 → Int32 → Int32 → zH → Option (Unit × zH)) (rc78 : Nat → Int32 → Int32 → Int32 → Int32 → Int32 → Int32 → Int32 → zH → Option (Unit × zH)) (x0 : Nat) (x1 : Int32) (x2 : Int32) (x3 : Int32) (x4 : Int32) (x5 : Int32) (x7 : Int32) (x8 : Int32) (s0 : Int32) (h : zH) : Option (Unit × zH) :=
  (if s0 = 0 then
    Option.bind (zgI h x0 0 26) fun (v4 : Int32) =>
    f_Model_goAlong_380 N rc45 rc78 x0 x1 x2 x3 x4 x5 s0 x7 x8 x0 v4 h
  else
    Option.bind (zgI h x0 0 26) fun (v5 : Int32) =>
    f_Model_goAlong_380 N rc45 rc78 x0 x1 x2 x3 x4 x5 s0 x7 x8 x0 (v5 ||| ((1 : Int32) <<< (x5 &&& 31))) h)
def f_Model_goAlong_355 (N : Nat) (rc45 : Nat → Int32 → Int32 → Int32 → zH → Option (Unit × zH)) (rc78 : Nat → Int32 → Int32 → Int32 → Int32 → Int32 → Int32 → Int32 → zH → Option (Unit × zH)) (x0 : Nat) (x1 : Int32) (x2 : Int32) (x3 : Int32) (x4 : Int32) (x5 : Int32) (x7 : Int32) (x8 : Int32) (h : zH) : Option (Unit × zH) :=
  f_Model_goAlong_356 N rc45 rc78 x0 x1 x2 x3 x4 x5 x7 x8 (0 : Int32) h
def f_Model_goAlong_211 (N : Nat) (rc45 : Nat → Int32 → Int32 → Int32 → zH → Option (Unit × zH)) (rc78 : Nat → Int32 → Int32 → Int32 → Int32 → Int32 → Int32 → Int32 → zH → Option (Unit × zH)) (x0 : Nat) (x1 : Int32) (x2 : Int32) (x3 : Int32) (x4 : Int32) (x5 : Int32) (x6 : Int32) (x7 : Int32) (x8 : Int32) (h : zH) : Option (Unit × zH) :=
  (if x6 = 0 then
    (if x5 < 0 then
      f_Model_goAlong_383 N rc45 rc78 x0 x1 x2 x3 x4 x5 x6 x7 x8 h
    else
      Option.bind (zck (zis h x0 0) (f_Model_mayUse N x0 x5 x1 x7 h)) fun (p6 : Int32 × zH) =>
      (if p6.1 = 0 then
        f_Model_goAlong_383 N rc45 rc78 x0 x1 x2 x3 x4 x5 x6 x7 x8 p6.2
      else
        Option.bind (zgR p6.2 x0 0 12) fun (v7 : Nat) =>
        Option.bind (zaI p6.2 0 v7 x5) fun (v8 : Int32) =>
        Option.bind (zgR p6.2 x0 0 12) fun (v9 : Nat) =>
        Option.bind (zaI p6.2 0 v9 x5) fun (v10 : Int32) =>
        Option.bind (f_Model_at N v10 (x1 + ((v8 - x2) * x7)) (x7 + (24 : Int32)) p6.2) fun (p11 : Int32 × zH) =>
        Option.bind (zgR p11.2 x0 0 15) fun (v12 : Nat) =>
        Option.bind (zaJ p11.2 1 v12 p11.1) fun (v13 : Int64) =>
        (if (lg_cmp v13 (0 : Int64)) < 0 then
          f_Model_goAlong_355 N rc45 rc78 x0 x1 x2 x3 x4 x5 x7 (v8 - x2) p11.2
        else
          Option.bind (zgR p11.2 x0 0 15) fun (v14 : Nat) =>
          Option.bind (zaJ p11.2 1 v14 p11.1) fun (v15 : Int64) =>
          Option.bind (zgR p11.2 x0 0 12) fun (v16 : Nat) =>
          Option.bind (zaI p11.2 0 v16 x5) fun (v17 : Int32) =>
          Option.bind (zck (zis p11.2 x0 0) (f_Model_placeCost N x0 v17 (x1 + ((v8 - x2) * x7)) p11.2)) fun (p18 : Int64 × zH) =>
          Option.bind (zgR p18.2 x0 0 14) fun (v19 : Nat) =>
          Option.bind (zaJ p18.2 1 v19 x5) fun (v20 : Int64) =>
          Option.bind (zgR p18.2 x0 0 15) fun (v21 : Nat) =>
          Option.bind (zaJ p18.2 1 v21 x4) fun (v22 : Int64) =>
          (if (lg_cmp ((v15 + p18.1) + v20) v22) = 0 then
            Option.bind (zgR p18.2 x0 0 16) fun (v23 : Nat) =>
            Option.bind (zaI p18.2 0 v23 p11.1) fun (v24 : Int32) =>
            Option.bind (f_Model_size N x7 p18.2) fun (p25 : Int32 × zH) =>
            Option.bind (zgR p25.2 x0 0 16) fun (v26 : Nat) =>
            Option.bind (zaI p25.2 0 v26 x4) fun (v27 : Int32) =>
            (if (v24 + ((v8 - x2) * p25.1)) = v27 then
              f_Model_goAlong_356 N rc45 rc78 x0 x1 x2 x3 x4 x5 x7 (v8 - x2) (1 : Int32) p25.2
            else
              f_Model_goAlong_355 N rc45 rc78 x0 x1 x2 x3 x4 x5 x7 (v8 - x2) p25.2)
          else
            f_Model_goAlong_355 N rc45 rc78 x0 x1 x2 x3 x4 x5 x7 (v8 - x2) p18.2))))
  else
    f_Model_goAlong_383 N rc45 rc78 x0 x1 x2 x3 x4 x5 x6 x7 x8 h)
def f_Model_goAlong_209 (N : Nat) (rc45 : Nat → Int32 → Int32 → Int32 → zH → Option (Unit × zH)) (rc78 : Nat → Int32 → Int32 → Int32 → Int32 → Int32 → Int32 → Int32 → zH → Option (Unit × zH)) (x0 : Nat) (x1 : Int32) (x2 : Int32) (x3 : Int32) (x4 : Int32) (x5 : Int32) (x7 : Int32) (x8 : Int32) (s0 : Int32) (h : zH) : Option (Unit × zH) :=
  f_Model_goAlong_211 N rc45 rc78 x0 x1 x2 x3 x4 x5 s0 x7 x8 h
def f_Model_goAlong_208 (N : Nat) (rc45 : Nat → Int32 → Int32 → Int32 → zH → Option (Unit × zH)) (rc78 : Nat → Int32 → Int32 → Int32 → Int32 → Int32 → Int32 → Int32 → zH → Option (Unit × zH)) (x0 : Nat) (x1 : Int32) (x2 : Int32) (x3 : Int32) (x4 : Int32) (x5 : Int32) (x7 : Int32) (x8 : Int32) (h : zH) : Option (Unit × zH) :=
  f_Model_goAlong_209 N rc45 rc78 x0 x1 x2 x3 x4 x5 x7 x8 (0 : Int32) h
def b_Model_goAlong_78 (N : Nat) (rc45 : Nat → Int32 → Int32 → Int32 → zH → Option (Unit × zH)) (rc78 : Nat → Int32 → Int32 → Int32 → Int32 → Int32 → Int32 → Int32 → zH → Option (Unit × zH)) (x0 : Nat) (x1 : Int32) (x2 : Int32) (x3 : Int32) (x4 : Int32) (x5 : Int32) (x6 : Int32) (x7 : Int32) (h : zH) : Option (Unit × zH) :=
  Option.bind (zgI h x0 0 7) fun (v28 : Int32) =>
  (if v28 < x7 then
    f_Model_goAlong_441 N rc45 x0 x1 x2 x3 h
  else
    (if x6 = 0 then
      Option.bind (zck (zis h x0 0) (f_Model_follows N x0 x7 x3 h)) fun (p29 : Int32 × zH) =>
      (if p29.1 = 0 then
        f_Model_goAlong_435 N rc45 rc78 x0 x1 x2 x3 x4 x5 x6 x7 p29.2
      else
        Option.bind (zck (zis p29.2 x0 0) (f_Model_may N x0 (x2 + (1 : Int32)) (x1 + x7) p29.2)) fun (p30 : Int32 × zH) =>
        (if p30.1 = 0 then
          f_Model_goAlong_211 N rc45 rc78 x0 x1 x2 x3 x4 x5 x6 x7 (1 : Int32) p30.2
        else
          Option.bind (f_Model_at N (x2 + (1 : Int32)) (x1 + x7) (x7 + (24 : Int32)) p30.2) fun (p31 : Int32 × zH) =>
          Option.bind (zgR p31.2 x0 0 15) fun (v32 : Nat) =>
          Option.bind (zaJ p31.2 1 v32 p31.1) fun (v33 : Int64) =>
          (if (lg_cmp v33 (0 : Int64)) < 0 then
            f_Model_goAlong_208 N rc45 rc78 x0 x1 x2 x3 x4 x5 x7 (1 : Int32) p31.2
          else
            Option.bind (zgR p31.2 x0 0 15) fun (v34 : Nat) =>
            Option.bind (zaJ p31.2 1 v34 p31.1) fun (v35 : Int64) =>
            Option.bind (zck (zis p31.2 x0 0) (f_Model_placeCost N x0 (x2 + (1 : Int32)) (x1 + x7) p31.2)) fun (p36 : Int64 × zH) =>
            Option.bind (zgR p36.2 x0 0 15) fun (v37 : Nat) =>
            Option.bind (zaJ p36.2 1 v37 x4) fun (v38 : Int64) =>
            (if (lg_cmp (v35 + p36.1) v38) = 0 then
              Option.bind (zgR p36.2 x0 0 16) fun (v39 : Nat) =>
              Option.bind (zaI p36.2 0 v39 p31.1) fun (v40 : Int32) =>
              Option.bind (f_Model_size N x7 p36.2) fun (p41 : Int32 × zH) =>
              Option.bind (zgR p41.2 x0 0 16) fun (v42 : Nat) =>
              Option.bind (zaI p41.2 0 v42 x4) fun (v43 : Int32) =>
              (if (v40 + p41.1) = v43 then
                f_Model_goAlong_209 N rc45 rc78 x0 x1 x2 x3 x4 x5 x7 (1 : Int32) (1 : Int32) p41.2
              else
                f_Model_goAlong_208 N rc45 rc78 x0 x1 x2 x3 x4 x5 x7 (1 : Int32) p41.2)
            else
              f_Model_goAlong_208 N rc45 rc78 x0 x1 x2 x3 x4 x5 x7 (1 : Int32) p36.2))))
    else
      f_Model_goAlong_441 N rc45 x0 x1 x2 x3 h))
def f_Model_goAlong_78 (N : Nat) (rc45 : Nat → Int32 → Int32 → Int32 → zH → Option (Unit × zH)) : Nat → Nat → Int32 → Int32 → Int32 → Int32 → Int32 → Int32 → Int32 → zH → Option (Unit × zH)
  | 0 => fun _ _ _ _ _ _ _ _ _ => none
  | n + 1 => fun x0 x1 x2 x3 x4 x5 x6 x7 h => b_Model_goAlong_78 N rc45 (f_Model_goAlong_78 N rc45 n) x0 x1 x2 x3 x4 x5 x6 x7 h
def b_Model_goAlong_45 (N : Nat) (rc45 : Nat → Int32 → Int32 → Int32 → zH → Option (Unit × zH)) (x0 : Nat) (x1 : Int32) (x2 : Int32) (x3 : Int32) (h : zH) : Option (Unit × zH) :=
  Option.bind (zgI h x0 0 0) fun (v44 : Int32) =>
  (if v44 ≤ x2 then
    some ((), h)
  else
    Option.bind (f_Model_at N x2 x1 x3 h) fun (p45 : Int32 × zH) =>
    Option.bind (zck (zis p45.2 x0 0) (f_Model_spanAt N x0 x2 p45.2)) fun (p46 : Int32 × zH) =>
    Option.bind (zgI p46.2 x0 0 7) fun (v47 : Int32) =>
    f_Model_goAlong_78 N rc45 N x0 x1 x2 x3 p45.1 p46.1 (0 : Int32) (-v47) p46.2)
def f_Model_goAlong_45 (N : Nat) : Nat → Nat → Int32 → Int32 → Int32 → zH → Option (Unit × zH)
  | 0 => fun _ _ _ _ _ => none
  | n + 1 => fun x0 x1 x2 x3 h => b_Model_goAlong_45 N (f_Model_goAlong_45 N n) x0 x1 x2 x3 h
def f_Model_goAlong (N : Nat) (x0 : Nat) (h : zH) : Option (Unit × zH) :=
  Option.bind (zck (zis h x0 0) (f_Model_firstLevel N x0  h)) fun (p48 : Int32 × zH) =>
  Option.bind (zgR p48.2 x0 0 25) fun (v49 : Nat) =>
  Option.bind (zsI p48.2 0 v49 (0 : Int32) p48.1) fun (h50 : zH) =>
  Option.bind (zp h50 x0 0 26 (.int (0 : Int32))) fun (h51 : zH) =>
  Option.bind (zgR h51 x0 0 15) fun (v52 : Nat) =>
  Option.bind (f_Model_at N (0 : Int32) p48.1 (49 : Int32) h51) fun (p53 : Int32 × zH) =>
  Option.bind (zaJ p53.2 1 v52 p53.1) fun (v54 : Int64) =>
  Option.bind (zck (zis p53.2 x0 0) (f_Model_placeCost N x0 (0 : Int32) p48.1 p53.2)) fun (p55 : Int64 × zH) =>
  Option.bind (zp p55.2 x0 0 27 (.long (v54 + p55.1))) fun (h56 : zH) =>
  f_Model_goAlong_45 N N x0 p48.1 (0 : Int32) (49 : Int32) h56
theorem d_Model_goAlong_0 : decode prog_10_method_24_code 0 = .ok (.aload_n (0), 1) := by decide +kernel
theorem d_Model_goAlong_1 : decode prog_10_method_24_code 1 = .ok (.invokevirtual (165), 3) := by decide +kernel
theorem d_Model_goAlong_4 : decode prog_10_method_24_code 4 = .ok (.istore_n (1), 1) := by decide +kernel
theorem d_Model_goAlong_5 : decode prog_10_method_24_code 5 = .ok (.iconst (0), 1) := by decide +kernel
theorem d_Model_goAlong_6 : decode prog_10_method_24_code 6 = .ok (.istore_n (2), 1) := by decide +kernel
theorem d_Model_goAlong_7 : decode prog_10_method_24_code 7 = .ok (.bipush (49), 2) := by decide +kernel
theorem d_Model_goAlong_9 : decode prog_10_method_24_code 9 = .ok (.istore_n (3), 1) := by decide +kernel
theorem d_Model_goAlong_10 : decode prog_10_method_24_code 10 = .ok (.aload_n (0), 1) := by decide +kernel
theorem d_Model_goAlong_11 : decode prog_10_method_24_code 11 = .ok (.getfield (68), 3) := by decide +kernel
theorem d_Model_goAlong_14 : decode prog_10_method_24_code 14 = .ok (.iconst (0), 1) := by decide +kernel
theorem d_Model_goAlong_15 : decode prog_10_method_24_code 15 = .ok (.iload_n (1), 1) := by decide +kernel
theorem d_Model_goAlong_16 : decode prog_10_method_24_code 16 = .ok (.iastore, 1) := by decide +kernel
theorem d_Model_goAlong_17 : decode prog_10_method_24_code 17 = .ok (.aload_n (0), 1) := by decide +kernel
theorem d_Model_goAlong_18 : decode prog_10_method_24_code 18 = .ok (.iconst (0), 1) := by decide +kernel
theorem d_Model_goAlong_19 : decode prog_10_method_24_code 19 = .ok (.putfield (169), 3) := by decide +kernel
theorem d_Model_goAlong_22 : decode prog_10_method_24_code 22 = .ok (.aload_n (0), 1) := by decide +kernel
theorem d_Model_goAlong_23 : decode prog_10_method_24_code 23 = .ok (.aload_n (0), 1) := by decide +kernel
theorem d_Model_goAlong_24 : decode prog_10_method_24_code 24 = .ok (.getfield (45), 3) := by decide +kernel
theorem d_Model_goAlong_27 : decode prog_10_method_24_code 27 = .ok (.iconst (0), 1) := by decide +kernel
theorem d_Model_goAlong_28 : decode prog_10_method_24_code 28 = .ok (.iload_n (1), 1) := by decide +kernel
theorem d_Model_goAlong_29 : decode prog_10_method_24_code 29 = .ok (.bipush (49), 2) := by decide +kernel
theorem d_Model_goAlong_31 : decode prog_10_method_24_code 31 = .ok (.invokestatic (145), 3) := by decide +kernel
theorem d_Model_goAlong_34 : decode prog_10_method_24_code 34 = .ok (.laload, 1) := by decide +kernel
theorem d_Model_goAlong_35 : decode prog_10_method_24_code 35 = .ok (.aload_n (0), 1) := by decide +kernel
theorem d_Model_goAlong_36 : decode prog_10_method_24_code 36 = .ok (.iconst (0), 1) := by decide +kernel
theorem d_Model_goAlong_37 : decode prog_10_method_24_code 37 = .ok (.iload_n (1), 1) := by decide +kernel
theorem d_Model_goAlong_38 : decode prog_10_method_24_code 38 = .ok (.invokevirtual (149), 3) := by decide +kernel
theorem d_Model_goAlong_41 : decode prog_10_method_24_code 41 = .ok (.ladd, 1) := by decide +kernel
theorem d_Model_goAlong_42 : decode prog_10_method_24_code 42 = .ok (.putfield (172), 3) := by decide +kernel
theorem d_Model_goAlong_45 : decode prog_10_method_24_code 45 = .ok (.iload_n (2), 1) := by decide +kernel
theorem d_Model_goAlong_46 : decode prog_10_method_24_code 46 = .ok (.aload_n (0), 1) := by decide +kernel
theorem d_Model_goAlong_47 : decode prog_10_method_24_code 47 = .ok (.getfield (89), 3) := by decide +kernel
theorem d_Model_goAlong_50 : decode prog_10_method_24_code 50 = .ok (.if_icmp .ge (394), 3) := by decide +kernel
theorem d_Model_goAlong_53 : decode prog_10_method_24_code 53 = .ok (.iload_n (2), 1) := by decide +kernel
theorem d_Model_goAlong_54 : decode prog_10_method_24_code 54 = .ok (.iload_n (1), 1) := by decide +kernel
theorem d_Model_goAlong_55 : decode prog_10_method_24_code 55 = .ok (.iload_n (3), 1) := by decide +kernel
theorem d_Model_goAlong_56 : decode prog_10_method_24_code 56 = .ok (.invokestatic (145), 3) := by decide +kernel
theorem d_Model_goAlong_59 : decode prog_10_method_24_code 59 = .ok (.istore (4), 2) := by decide +kernel
theorem d_Model_goAlong_61 : decode prog_10_method_24_code 61 = .ok (.aload_n (0), 1) := by decide +kernel
theorem d_Model_goAlong_62 : decode prog_10_method_24_code 62 = .ok (.iload_n (2), 1) := by decide +kernel
theorem d_Model_goAlong_63 : decode prog_10_method_24_code 63 = .ok (.invokevirtual (139), 3) := by decide +kernel
theorem d_Model_goAlong_66 : decode prog_10_method_24_code 66 = .ok (.istore (5), 2) := by decide +kernel
theorem d_Model_goAlong_68 : decode prog_10_method_24_code 68 = .ok (.iconst (0), 1) := by decide +kernel
theorem d_Model_goAlong_69 : decode prog_10_method_24_code 69 = .ok (.istore (6), 2) := by decide +kernel
theorem d_Model_goAlong_71 : decode prog_10_method_24_code 71 = .ok (.aload_n (0), 1) := by decide +kernel
theorem d_Model_goAlong_72 : decode prog_10_method_24_code 72 = .ok (.getfield (25), 3) := by decide +kernel
theorem d_Model_goAlong_75 : decode prog_10_method_24_code 75 = .ok (.ineg, 1) := by decide +kernel
theorem d_Model_goAlong_76 : decode prog_10_method_24_code 76 = .ok (.istore (7), 2) := by decide +kernel
theorem d_Model_goAlong_78 : decode prog_10_method_24_code 78 = .ok (.iload (7), 2) := by decide +kernel
theorem d_Model_goAlong_80 : decode prog_10_method_24_code 80 = .ok (.aload_n (0), 1) := by decide +kernel
theorem d_Model_goAlong_81 : decode prog_10_method_24_code 81 = .ok (.getfield (25), 3) := by decide +kernel
theorem d_Model_goAlong_84 : decode prog_10_method_24_code 84 = .ok (.if_icmp .gt (357), 3) := by decide +kernel
theorem d_Model_goAlong_87 : decode prog_10_method_24_code 87 = .ok (.iload (6), 2) := by decide +kernel
theorem d_Model_goAlong_89 : decode prog_10_method_24_code 89 = .ok (.ifCond .ne (352), 3) := by decide +kernel
theorem d_Model_goAlong_92 : decode prog_10_method_24_code 92 = .ok (.aload_n (0), 1) := by decide +kernel
theorem d_Model_goAlong_93 : decode prog_10_method_24_code 93 = .ok (.iload (7), 2) := by decide +kernel
theorem d_Model_goAlong_95 : decode prog_10_method_24_code 95 = .ok (.iload_n (3), 1) := by decide +kernel
theorem d_Model_goAlong_96 : decode prog_10_method_24_code 96 = .ok (.invokevirtual (142), 3) := by decide +kernel
theorem d_Model_goAlong_99 : decode prog_10_method_24_code 99 = .ok (.ifCond .ne (6), 3) := by decide +kernel
theorem d_Model_goAlong_102 : decode prog_10_method_24_code 102 = .ok (.goto (333), 3) := by decide +kernel
theorem d_Model_goAlong_105 : decode prog_10_method_24_code 105 = .ok (.iconst (1), 1) := by decide +kernel
theorem d_Model_goAlong_106 : decode prog_10_method_24_code 106 = .ok (.istore (8), 2) := by decide +kernel
theorem d_Model_goAlong_108 : decode prog_10_method_24_code 108 = .ok (.aload_n (0), 1) := by decide +kernel
theorem d_Model_goAlong_109 : decode prog_10_method_24_code 109 = .ok (.iload_n (2), 1) := by decide +kernel
theorem d_Model_goAlong_110 : decode prog_10_method_24_code 110 = .ok (.iconst (1), 1) := by decide +kernel
theorem d_Model_goAlong_111 : decode prog_10_method_24_code 111 = .ok (.iadd, 1) := by decide +kernel
theorem d_Model_goAlong_112 : decode prog_10_method_24_code 112 = .ok (.iload_n (1), 1) := by decide +kernel
theorem d_Model_goAlong_113 : decode prog_10_method_24_code 113 = .ok (.iload (7), 2) := by decide +kernel
theorem d_Model_goAlong_115 : decode prog_10_method_24_code 115 = .ok (.iadd, 1) := by decide +kernel
theorem d_Model_goAlong_116 : decode prog_10_method_24_code 116 = .ok (.invokevirtual (133), 3) := by decide +kernel
theorem d_Model_goAlong_119 : decode prog_10_method_24_code 119 = .ok (.ifCond .eq (92), 3) := by decide +kernel
theorem d_Model_goAlong_122 : decode prog_10_method_24_code 122 = .ok (.iload_n (2), 1) := by decide +kernel
theorem d_Model_goAlong_123 : decode prog_10_method_24_code 123 = .ok (.iconst (1), 1) := by decide +kernel
theorem d_Model_goAlong_124 : decode prog_10_method_24_code 124 = .ok (.iadd, 1) := by decide +kernel
theorem d_Model_goAlong_125 : decode prog_10_method_24_code 125 = .ok (.iload_n (1), 1) := by decide +kernel
theorem d_Model_goAlong_126 : decode prog_10_method_24_code 126 = .ok (.iload (7), 2) := by decide +kernel
theorem d_Model_goAlong_128 : decode prog_10_method_24_code 128 = .ok (.iadd, 1) := by decide +kernel
theorem d_Model_goAlong_129 : decode prog_10_method_24_code 129 = .ok (.iload (7), 2) := by decide +kernel
theorem d_Model_goAlong_131 : decode prog_10_method_24_code 131 = .ok (.bipush (24), 2) := by decide +kernel
theorem d_Model_goAlong_133 : decode prog_10_method_24_code 133 = .ok (.iadd, 1) := by decide +kernel
theorem d_Model_goAlong_134 : decode prog_10_method_24_code 134 = .ok (.invokestatic (145), 3) := by decide +kernel
theorem d_Model_goAlong_137 : decode prog_10_method_24_code 137 = .ok (.istore (9), 2) := by decide +kernel
theorem d_Model_goAlong_139 : decode prog_10_method_24_code 139 = .ok (.aload_n (0), 1) := by decide +kernel
theorem d_Model_goAlong_140 : decode prog_10_method_24_code 140 = .ok (.getfield (45), 3) := by decide +kernel
theorem d_Model_goAlong_143 : decode prog_10_method_24_code 143 = .ok (.iload (9), 2) := by decide +kernel
theorem d_Model_goAlong_145 : decode prog_10_method_24_code 145 = .ok (.laload, 1) := by decide +kernel
theorem d_Model_goAlong_146 : decode prog_10_method_24_code 146 = .ok (.lconst (0), 1) := by decide +kernel
theorem d_Model_goAlong_147 : decode prog_10_method_24_code 147 = .ok (.lcmp, 1) := by decide +kernel
theorem d_Model_goAlong_148 : decode prog_10_method_24_code 148 = .ok (.ifCond .lt (60), 3) := by decide +kernel
theorem d_Model_goAlong_151 : decode prog_10_method_24_code 151 = .ok (.aload_n (0), 1) := by decide +kernel
theorem d_Model_goAlong_152 : decode prog_10_method_24_code 152 = .ok (.getfield (45), 3) := by decide +kernel
theorem d_Model_goAlong_155 : decode prog_10_method_24_code 155 = .ok (.iload (9), 2) := by decide +kernel
theorem d_Model_goAlong_157 : decode prog_10_method_24_code 157 = .ok (.laload, 1) := by decide +kernel
theorem d_Model_goAlong_158 : decode prog_10_method_24_code 158 = .ok (.aload_n (0), 1) := by decide +kernel
theorem d_Model_goAlong_159 : decode prog_10_method_24_code 159 = .ok (.iload_n (2), 1) := by decide +kernel
theorem d_Model_goAlong_160 : decode prog_10_method_24_code 160 = .ok (.iconst (1), 1) := by decide +kernel
theorem d_Model_goAlong_161 : decode prog_10_method_24_code 161 = .ok (.iadd, 1) := by decide +kernel
theorem d_Model_goAlong_162 : decode prog_10_method_24_code 162 = .ok (.iload_n (1), 1) := by decide +kernel
theorem d_Model_goAlong_163 : decode prog_10_method_24_code 163 = .ok (.iload (7), 2) := by decide +kernel
theorem d_Model_goAlong_165 : decode prog_10_method_24_code 165 = .ok (.iadd, 1) := by decide +kernel
theorem d_Model_goAlong_166 : decode prog_10_method_24_code 166 = .ok (.invokevirtual (149), 3) := by decide +kernel
theorem d_Model_goAlong_169 : decode prog_10_method_24_code 169 = .ok (.ladd, 1) := by decide +kernel
theorem d_Model_goAlong_170 : decode prog_10_method_24_code 170 = .ok (.aload_n (0), 1) := by decide +kernel
theorem d_Model_goAlong_171 : decode prog_10_method_24_code 171 = .ok (.getfield (45), 3) := by decide +kernel
theorem d_Model_goAlong_174 : decode prog_10_method_24_code 174 = .ok (.iload (4), 2) := by decide +kernel
theorem d_Model_goAlong_176 : decode prog_10_method_24_code 176 = .ok (.laload, 1) := by decide +kernel
theorem d_Model_goAlong_177 : decode prog_10_method_24_code 177 = .ok (.lcmp, 1) := by decide +kernel
theorem d_Model_goAlong_178 : decode prog_10_method_24_code 178 = .ok (.ifCond .ne (30), 3) := by decide +kernel
theorem d_Model_goAlong_181 : decode prog_10_method_24_code 181 = .ok (.aload_n (0), 1) := by decide +kernel
theorem d_Model_goAlong_182 : decode prog_10_method_24_code 182 = .ok (.getfield (48), 3) := by decide +kernel
theorem d_Model_goAlong_185 : decode prog_10_method_24_code 185 = .ok (.iload (9), 2) := by decide +kernel
theorem d_Model_goAlong_187 : decode prog_10_method_24_code 187 = .ok (.iaload, 1) := by decide +kernel
theorem d_Model_goAlong_188 : decode prog_10_method_24_code 188 = .ok (.iload (7), 2) := by decide +kernel
theorem d_Model_goAlong_190 : decode prog_10_method_24_code 190 = .ok (.invokestatic (129), 3) := by decide +kernel
theorem d_Model_goAlong_193 : decode prog_10_method_24_code 193 = .ok (.iadd, 1) := by decide +kernel
theorem d_Model_goAlong_194 : decode prog_10_method_24_code 194 = .ok (.aload_n (0), 1) := by decide +kernel
theorem d_Model_goAlong_195 : decode prog_10_method_24_code 195 = .ok (.getfield (48), 3) := by decide +kernel
theorem d_Model_goAlong_198 : decode prog_10_method_24_code 198 = .ok (.iload (4), 2) := by decide +kernel
theorem d_Model_goAlong_200 : decode prog_10_method_24_code 200 = .ok (.iaload, 1) := by decide +kernel
theorem d_Model_goAlong_201 : decode prog_10_method_24_code 201 = .ok (.if_icmp .ne (7), 3) := by decide +kernel
theorem d_Model_goAlong_204 : decode prog_10_method_24_code 204 = .ok (.iconst (1), 1) := by decide +kernel
theorem d_Model_goAlong_205 : decode prog_10_method_24_code 205 = .ok (.goto (4), 3) := by decide +kernel
theorem d_Model_goAlong_208 : decode prog_10_method_24_code 208 = .ok (.iconst (0), 1) := by decide +kernel
theorem d_Model_goAlong_209 : decode prog_10_method_24_code 209 = .ok (.istore (6), 2) := by decide +kernel
theorem d_Model_goAlong_211 : decode prog_10_method_24_code 211 = .ok (.iload (6), 2) := by decide +kernel
theorem d_Model_goAlong_213 : decode prog_10_method_24_code 213 = .ok (.ifCond .ne (170), 3) := by decide +kernel
theorem d_Model_goAlong_216 : decode prog_10_method_24_code 216 = .ok (.iload (5), 2) := by decide +kernel
theorem d_Model_goAlong_218 : decode prog_10_method_24_code 218 = .ok (.ifCond .lt (165), 3) := by decide +kernel
theorem d_Model_goAlong_221 : decode prog_10_method_24_code 221 = .ok (.aload_n (0), 1) := by decide +kernel
theorem d_Model_goAlong_222 : decode prog_10_method_24_code 222 = .ok (.iload (5), 2) := by decide +kernel
theorem d_Model_goAlong_224 : decode prog_10_method_24_code 224 = .ok (.iload_n (1), 1) := by decide +kernel
theorem d_Model_goAlong_225 : decode prog_10_method_24_code 225 = .ok (.iload (7), 2) := by decide +kernel
theorem d_Model_goAlong_227 : decode prog_10_method_24_code 227 = .ok (.invokevirtual (157), 3) := by decide +kernel
theorem d_Model_goAlong_230 : decode prog_10_method_24_code 230 = .ok (.ifCond .eq (153), 3) := by decide +kernel
theorem d_Model_goAlong_233 : decode prog_10_method_24_code 233 = .ok (.aload_n (0), 1) := by decide +kernel
theorem d_Model_goAlong_234 : decode prog_10_method_24_code 234 = .ok (.getfield (35), 3) := by decide +kernel
theorem d_Model_goAlong_237 : decode prog_10_method_24_code 237 = .ok (.iload (5), 2) := by decide +kernel
theorem d_Model_goAlong_239 : decode prog_10_method_24_code 239 = .ok (.iaload, 1) := by decide +kernel
theorem d_Model_goAlong_240 : decode prog_10_method_24_code 240 = .ok (.iload_n (2), 1) := by decide +kernel
theorem d_Model_goAlong_241 : decode prog_10_method_24_code 241 = .ok (.isub, 1) := by decide +kernel
theorem d_Model_goAlong_242 : decode prog_10_method_24_code 242 = .ok (.istore (8), 2) := by decide +kernel
theorem d_Model_goAlong_244 : decode prog_10_method_24_code 244 = .ok (.aload_n (0), 1) := by decide +kernel
theorem d_Model_goAlong_245 : decode prog_10_method_24_code 245 = .ok (.getfield (35), 3) := by decide +kernel
theorem d_Model_goAlong_248 : decode prog_10_method_24_code 248 = .ok (.iload (5), 2) := by decide +kernel
theorem d_Model_goAlong_250 : decode prog_10_method_24_code 250 = .ok (.iaload, 1) := by decide +kernel
theorem d_Model_goAlong_251 : decode prog_10_method_24_code 251 = .ok (.iload_n (1), 1) := by decide +kernel
theorem d_Model_goAlong_252 : decode prog_10_method_24_code 252 = .ok (.iload (8), 2) := by decide +kernel
theorem d_Model_goAlong_254 : decode prog_10_method_24_code 254 = .ok (.iload (7), 2) := by decide +kernel
theorem d_Model_goAlong_256 : decode prog_10_method_24_code 256 = .ok (.imul, 1) := by decide +kernel
theorem d_Model_goAlong_257 : decode prog_10_method_24_code 257 = .ok (.iadd, 1) := by decide +kernel
theorem d_Model_goAlong_258 : decode prog_10_method_24_code 258 = .ok (.iload (7), 2) := by decide +kernel
theorem d_Model_goAlong_260 : decode prog_10_method_24_code 260 = .ok (.bipush (24), 2) := by decide +kernel
theorem d_Model_goAlong_262 : decode prog_10_method_24_code 262 = .ok (.iadd, 1) := by decide +kernel
theorem d_Model_goAlong_263 : decode prog_10_method_24_code 263 = .ok (.invokestatic (145), 3) := by decide +kernel
theorem d_Model_goAlong_266 : decode prog_10_method_24_code 266 = .ok (.istore (9), 2) := by decide +kernel
theorem d_Model_goAlong_268 : decode prog_10_method_24_code 268 = .ok (.aload_n (0), 1) := by decide +kernel
theorem d_Model_goAlong_269 : decode prog_10_method_24_code 269 = .ok (.getfield (45), 3) := by decide +kernel
theorem d_Model_goAlong_272 : decode prog_10_method_24_code 272 = .ok (.iload (9), 2) := by decide +kernel
theorem d_Model_goAlong_274 : decode prog_10_method_24_code 274 = .ok (.laload, 1) := by decide +kernel
theorem d_Model_goAlong_275 : decode prog_10_method_24_code 275 = .ok (.lconst (0), 1) := by decide +kernel
theorem d_Model_goAlong_276 : decode prog_10_method_24_code 276 = .ok (.lcmp, 1) := by decide +kernel
theorem d_Model_goAlong_277 : decode prog_10_method_24_code 277 = .ok (.ifCond .lt (78), 3) := by decide +kernel
theorem d_Model_goAlong_280 : decode prog_10_method_24_code 280 = .ok (.aload_n (0), 1) := by decide +kernel
theorem d_Model_goAlong_281 : decode prog_10_method_24_code 281 = .ok (.getfield (45), 3) := by decide +kernel
theorem d_Model_goAlong_284 : decode prog_10_method_24_code 284 = .ok (.iload (9), 2) := by decide +kernel
theorem d_Model_goAlong_286 : decode prog_10_method_24_code 286 = .ok (.laload, 1) := by decide +kernel
theorem d_Model_goAlong_287 : decode prog_10_method_24_code 287 = .ok (.aload_n (0), 1) := by decide +kernel
theorem d_Model_goAlong_288 : decode prog_10_method_24_code 288 = .ok (.aload_n (0), 1) := by decide +kernel
theorem d_Model_goAlong_289 : decode prog_10_method_24_code 289 = .ok (.getfield (35), 3) := by decide +kernel
theorem d_Model_goAlong_292 : decode prog_10_method_24_code 292 = .ok (.iload (5), 2) := by decide +kernel
theorem d_Model_goAlong_294 : decode prog_10_method_24_code 294 = .ok (.iaload, 1) := by decide +kernel
theorem d_Model_goAlong_295 : decode prog_10_method_24_code 295 = .ok (.iload_n (1), 1) := by decide +kernel
theorem d_Model_goAlong_296 : decode prog_10_method_24_code 296 = .ok (.iload (8), 2) := by decide +kernel
theorem d_Model_goAlong_298 : decode prog_10_method_24_code 298 = .ok (.iload (7), 2) := by decide +kernel
theorem d_Model_goAlong_300 : decode prog_10_method_24_code 300 = .ok (.imul, 1) := by decide +kernel
theorem d_Model_goAlong_301 : decode prog_10_method_24_code 301 = .ok (.iadd, 1) := by decide +kernel
theorem d_Model_goAlong_302 : decode prog_10_method_24_code 302 = .ok (.invokevirtual (149), 3) := by decide +kernel
theorem d_Model_goAlong_305 : decode prog_10_method_24_code 305 = .ok (.ladd, 1) := by decide +kernel
theorem d_Model_goAlong_306 : decode prog_10_method_24_code 306 = .ok (.aload_n (0), 1) := by decide +kernel
theorem d_Model_goAlong_307 : decode prog_10_method_24_code 307 = .ok (.getfield (41), 3) := by decide +kernel
theorem d_Model_goAlong_310 : decode prog_10_method_24_code 310 = .ok (.iload (5), 2) := by decide +kernel
theorem d_Model_goAlong_312 : decode prog_10_method_24_code 312 = .ok (.laload, 1) := by decide +kernel
theorem d_Model_goAlong_313 : decode prog_10_method_24_code 313 = .ok (.ladd, 1) := by decide +kernel
theorem d_Model_goAlong_314 : decode prog_10_method_24_code 314 = .ok (.aload_n (0), 1) := by decide +kernel
theorem d_Model_goAlong_315 : decode prog_10_method_24_code 315 = .ok (.getfield (45), 3) := by decide +kernel
theorem d_Model_goAlong_318 : decode prog_10_method_24_code 318 = .ok (.iload (4), 2) := by decide +kernel
theorem d_Model_goAlong_320 : decode prog_10_method_24_code 320 = .ok (.laload, 1) := by decide +kernel
theorem d_Model_goAlong_321 : decode prog_10_method_24_code 321 = .ok (.lcmp, 1) := by decide +kernel
theorem d_Model_goAlong_322 : decode prog_10_method_24_code 322 = .ok (.ifCond .ne (33), 3) := by decide +kernel
theorem d_Model_goAlong_325 : decode prog_10_method_24_code 325 = .ok (.aload_n (0), 1) := by decide +kernel
theorem d_Model_goAlong_326 : decode prog_10_method_24_code 326 = .ok (.getfield (48), 3) := by decide +kernel
theorem d_Model_goAlong_329 : decode prog_10_method_24_code 329 = .ok (.iload (9), 2) := by decide +kernel
theorem d_Model_goAlong_331 : decode prog_10_method_24_code 331 = .ok (.iaload, 1) := by decide +kernel
theorem d_Model_goAlong_332 : decode prog_10_method_24_code 332 = .ok (.iload (8), 2) := by decide +kernel
theorem d_Model_goAlong_334 : decode prog_10_method_24_code 334 = .ok (.iload (7), 2) := by decide +kernel
theorem d_Model_goAlong_336 : decode prog_10_method_24_code 336 = .ok (.invokestatic (129), 3) := by decide +kernel
theorem d_Model_goAlong_339 : decode prog_10_method_24_code 339 = .ok (.imul, 1) := by decide +kernel
theorem d_Model_goAlong_340 : decode prog_10_method_24_code 340 = .ok (.iadd, 1) := by decide +kernel
theorem d_Model_goAlong_341 : decode prog_10_method_24_code 341 = .ok (.aload_n (0), 1) := by decide +kernel
theorem d_Model_goAlong_342 : decode prog_10_method_24_code 342 = .ok (.getfield (48), 3) := by decide +kernel
theorem d_Model_goAlong_345 : decode prog_10_method_24_code 345 = .ok (.iload (4), 2) := by decide +kernel
theorem d_Model_goAlong_347 : decode prog_10_method_24_code 347 = .ok (.iaload, 1) := by decide +kernel
theorem d_Model_goAlong_348 : decode prog_10_method_24_code 348 = .ok (.if_icmp .ne (7), 3) := by decide +kernel
theorem d_Model_goAlong_351 : decode prog_10_method_24_code 351 = .ok (.iconst (1), 1) := by decide +kernel
theorem d_Model_goAlong_352 : decode prog_10_method_24_code 352 = .ok (.goto (4), 3) := by decide +kernel
theorem d_Model_goAlong_355 : decode prog_10_method_24_code 355 = .ok (.iconst (0), 1) := by decide +kernel
theorem d_Model_goAlong_356 : decode prog_10_method_24_code 356 = .ok (.istore (6), 2) := by decide +kernel
theorem d_Model_goAlong_358 : decode prog_10_method_24_code 358 = .ok (.aload_n (0), 1) := by decide +kernel
theorem d_Model_goAlong_359 : decode prog_10_method_24_code 359 = .ok (.iload (6), 2) := by decide +kernel
theorem d_Model_goAlong_361 : decode prog_10_method_24_code 361 = .ok (.ifCond .eq (15), 3) := by decide +kernel
theorem d_Model_goAlong_364 : decode prog_10_method_24_code 364 = .ok (.aload_n (0), 1) := by decide +kernel
theorem d_Model_goAlong_365 : decode prog_10_method_24_code 365 = .ok (.getfield (169), 3) := by decide +kernel
theorem d_Model_goAlong_368 : decode prog_10_method_24_code 368 = .ok (.iconst (1), 1) := by decide +kernel
theorem d_Model_goAlong_369 : decode prog_10_method_24_code 369 = .ok (.iload (5), 2) := by decide +kernel
theorem d_Model_goAlong_371 : decode prog_10_method_24_code 371 = .ok (.ishl, 1) := by decide +kernel
theorem d_Model_goAlong_372 : decode prog_10_method_24_code 372 = .ok (.ior, 1) := by decide +kernel
theorem d_Model_goAlong_373 : decode prog_10_method_24_code 373 = .ok (.goto (7), 3) := by decide +kernel
theorem d_Model_goAlong_376 : decode prog_10_method_24_code 376 = .ok (.aload_n (0), 1) := by decide +kernel
theorem d_Model_goAlong_377 : decode prog_10_method_24_code 377 = .ok (.getfield (169), 3) := by decide +kernel
theorem d_Model_goAlong_380 : decode prog_10_method_24_code 380 = .ok (.putfield (169), 3) := by decide +kernel
theorem d_Model_goAlong_383 : decode prog_10_method_24_code 383 = .ok (.iconst (0), 1) := by decide +kernel
theorem d_Model_goAlong_384 : decode prog_10_method_24_code 384 = .ok (.istore (9), 2) := by decide +kernel
theorem d_Model_goAlong_386 : decode prog_10_method_24_code 386 = .ok (.iload (9), 2) := by decide +kernel
theorem d_Model_goAlong_388 : decode prog_10_method_24_code 388 = .ok (.iload (8), 2) := by decide +kernel
theorem d_Model_goAlong_390 : decode prog_10_method_24_code 390 = .ok (.if_icmp .ge (30), 3) := by decide +kernel
theorem d_Model_goAlong_393 : decode prog_10_method_24_code 393 = .ok (.iload (6), 2) := by decide +kernel
theorem d_Model_goAlong_395 : decode prog_10_method_24_code 395 = .ok (.ifCond .eq (25), 3) := by decide +kernel
theorem d_Model_goAlong_398 : decode prog_10_method_24_code 398 = .ok (.iload_n (1), 1) := by decide +kernel
theorem d_Model_goAlong_399 : decode prog_10_method_24_code 399 = .ok (.iload (7), 2) := by decide +kernel
theorem d_Model_goAlong_401 : decode prog_10_method_24_code 401 = .ok (.iadd, 1) := by decide +kernel
theorem d_Model_goAlong_402 : decode prog_10_method_24_code 402 = .ok (.istore_n (1), 1) := by decide +kernel
theorem d_Model_goAlong_403 : decode prog_10_method_24_code 403 = .ok (.iload_n (2), 1) := by decide +kernel
theorem d_Model_goAlong_404 : decode prog_10_method_24_code 404 = .ok (.iconst (1), 1) := by decide +kernel
theorem d_Model_goAlong_405 : decode prog_10_method_24_code 405 = .ok (.iadd, 1) := by decide +kernel
theorem d_Model_goAlong_406 : decode prog_10_method_24_code 406 = .ok (.istore_n (2), 1) := by decide +kernel
theorem d_Model_goAlong_407 : decode prog_10_method_24_code 407 = .ok (.aload_n (0), 1) := by decide +kernel
theorem d_Model_goAlong_408 : decode prog_10_method_24_code 408 = .ok (.getfield (68), 3) := by decide +kernel
theorem d_Model_goAlong_411 : decode prog_10_method_24_code 411 = .ok (.iload_n (2), 1) := by decide +kernel
theorem d_Model_goAlong_412 : decode prog_10_method_24_code 412 = .ok (.iload_n (1), 1) := by decide +kernel
theorem d_Model_goAlong_413 : decode prog_10_method_24_code 413 = .ok (.iastore, 1) := by decide +kernel
theorem d_Model_goAlong_414 : decode prog_10_method_24_code 414 = .ok (.iinc (9) (1), 3) := by decide +kernel
theorem d_Model_goAlong_417 : decode prog_10_method_24_code 417 = .ok (.goto (-31), 3) := by decide +kernel
theorem d_Model_goAlong_420 : decode prog_10_method_24_code 420 = .ok (.iload (6), 2) := by decide +kernel
theorem d_Model_goAlong_422 : decode prog_10_method_24_code 422 = .ok (.ifCond .eq (11), 3) := by decide +kernel
theorem d_Model_goAlong_425 : decode prog_10_method_24_code 425 = .ok (.iload (7), 2) := by decide +kernel
theorem d_Model_goAlong_427 : decode prog_10_method_24_code 427 = .ok (.bipush (24), 2) := by decide +kernel
theorem d_Model_goAlong_429 : decode prog_10_method_24_code 429 = .ok (.iadd, 1) := by decide +kernel
theorem d_Model_goAlong_430 : decode prog_10_method_24_code 430 = .ok (.goto (4), 3) := by decide +kernel
theorem d_Model_goAlong_433 : decode prog_10_method_24_code 433 = .ok (.iload_n (3), 1) := by decide +kernel
theorem d_Model_goAlong_434 : decode prog_10_method_24_code 434 = .ok (.istore_n (3), 1) := by decide +kernel
theorem d_Model_goAlong_435 : decode prog_10_method_24_code 435 = .ok (.iinc (7) (1), 3) := by decide +kernel
theorem d_Model_goAlong_438 : decode prog_10_method_24_code 438 = .ok (.goto (-360), 3) := by decide +kernel
theorem d_Model_goAlong_441 : decode prog_10_method_24_code 441 = .ok (.goto (-396), 3) := by decide +kernel
theorem d_Model_goAlong_444 : decode prog_10_method_24_code 444 = .ok (.return_, 1) := by decide +kernel
set_option maxHeartbeats 4000000 in
set_option maxRecDepth 100000 in
theorem k_Model_goAlong_441 (N : Nat) {X : zX} (C : zB X prog_10_method_24_code 10 R_Model rm_Model_goAlong) {h0 : zH} {p : Unit × zH} (E : zR X none rm_Model_goAlong h0 none p.2) {rc45 : Nat → Int32 → Int32 → Int32 → zH → Option (Unit × zH)} (H45 : ∀ (x0 : Nat) (x1 : Int32) (x2 : Int32) (x3 : Int32) (h : zH), rc45 x0 x1 x2 x3 h = some p → Zt X 10 0 0 45 [(0, .ref x0), (1, .int x1), (2, .int x2), (3, .int x3)] [] h) : ∀ (x0 : Nat) (x1 : Int32) (x2 : Int32) (x3 : Int32) (h : zH), f_Model_goAlong_441 N rc45 x0 x1 x2 x3 h = some p → Zt X 10 0 0 441 [(0, .ref x0), (1, .int x1), (2, .int x2), (3, .int x3)] [] h := by
  intro x0 x1 x2 x3 h hf
  unfold f_Model_goAlong_441 at hf
  refine z_goto (tgt := 45) C d_Model_goAlong_441 (by decide) ?_
  refine z_sub [0, 1, 2, 3] rfl ?_
  exact H45 _ _ _ _ _ hf

set_option maxHeartbeats 4000000 in
set_option maxRecDepth 100000 in
theorem k_Model_goAlong_435 (N : Nat) {X : zX} (C : zB X prog_10_method_24_code 10 R_Model rm_Model_goAlong) {h0 : zH} {p : Unit × zH} (E : zR X none rm_Model_goAlong h0 none p.2) {rc45 : Nat → Int32 → Int32 → Int32 → zH → Option (Unit × zH)} (H45 : ∀ (x0 : Nat) (x1 : Int32) (x2 : Int32) (x3 : Int32) (h : zH), rc45 x0 x1 x2 x3 h = some p → Zt X 10 0 0 45 [(0, .ref x0), (1, .int x1), (2, .int x2), (3, .int x3)] [] h) {rc78 : Nat → Int32 → Int32 → Int32 → Int32 → Int32 → Int32 → Int32 → zH → Option (Unit × zH)} (H78 : ∀ (x0 : Nat) (x1 : Int32) (x2 : Int32) (x3 : Int32) (x4 : Int32) (x5 : Int32) (x6 : Int32) (x7 : Int32) (h : zH), rc78 x0 x1 x2 x3 x4 x5 x6 x7 h = some p → Zt X 10 0 0 78 [(0, .ref x0), (1, .int x1), (2, .int x2), (3, .int x3), (4, .int x4), (5, .int x5), (6, .int x6), (7, .int x7)] [] h) : ∀ (x0 : Nat) (x1 : Int32) (x2 : Int32) (x3 : Int32) (x4 : Int32) (x5 : Int32) (x6 : Int32) (x7 : Int32) (h : zH), f_Model_goAlong_435 N rc45 rc78 x0 x1 x2 x3 x4 x5 x6 x7 h = some p → Zt X 10 0 0 435 [(0, .ref x0), (1, .int x1), (2, .int x2), (3, .int x3), (4, .int x4), (5, .int x5), (6, .int x6), (7, .int x7)] [] h := by
  intro x0 x1 x2 x3 x4 x5 x6 x7 h hf
  unfold f_Model_goAlong_435 at hf
  refine z_iinc C (v := (x7 + (1 : Int32))) (lv' := [(7, .int (x7 + (1 : Int32))), (0, .ref x0), (1, .int x1), (2, .int x2), (3, .int x3), (4, .int x4), (5, .int x5), (6, .int x6)]) 7 d_Model_goAlong_435 rfl (by rfl) (by decide) rfl ?_
  refine z_goto (tgt := 78) C d_Model_goAlong_438 (by decide) ?_
  refine z_sub [1, 2, 3, 4, 5, 6, 7, 0] rfl ?_
  exact H78 _ _ _ _ _ _ _ _ _ hf

set_option maxHeartbeats 4000000 in
set_option maxRecDepth 100000 in
theorem k_Model_goAlong_434 (N : Nat) {X : zX} (C : zB X prog_10_method_24_code 10 R_Model rm_Model_goAlong) {h0 : zH} {p : Unit × zH} (E : zR X none rm_Model_goAlong h0 none p.2) {rc45 : Nat → Int32 → Int32 → Int32 → zH → Option (Unit × zH)} (H45 : ∀ (x0 : Nat) (x1 : Int32) (x2 : Int32) (x3 : Int32) (h : zH), rc45 x0 x1 x2 x3 h = some p → Zt X 10 0 0 45 [(0, .ref x0), (1, .int x1), (2, .int x2), (3, .int x3)] [] h) {rc78 : Nat → Int32 → Int32 → Int32 → Int32 → Int32 → Int32 → Int32 → zH → Option (Unit × zH)} (H78 : ∀ (x0 : Nat) (x1 : Int32) (x2 : Int32) (x3 : Int32) (x4 : Int32) (x5 : Int32) (x6 : Int32) (x7 : Int32) (h : zH), rc78 x0 x1 x2 x3 x4 x5 x6 x7 h = some p → Zt X 10 0 0 78 [(0, .ref x0), (1, .int x1), (2, .int x2), (3, .int x3), (4, .int x4), (5, .int x5), (6, .int x6), (7, .int x7)] [] h) : ∀ (x0 : Nat) (x1 : Int32) (x2 : Int32) (x4 : Int32) (x5 : Int32) (x6 : Int32) (x7 : Int32) (s0 : Int32) (h : zH), f_Model_goAlong_434 N rc45 rc78 x0 x1 x2 x4 x5 x6 x7 s0 h = some p → Zt X 10 0 0 434 [(0, .ref x0), (1, .int x1), (2, .int x2), (4, .int x4), (5, .int x5), (6, .int x6), (7, .int x7)] [.int s0] h := by
  intro x0 x1 x2 x4 x5 x6 x7 s0 h hf
  unfold f_Model_goAlong_434 at hf
  refine z_istore_n C (lv' := [(3, .int s0), (0, .ref x0), (1, .int x1), (2, .int x2), (4, .int x4), (5, .int x5), (6, .int x6), (7, .int x7)]) d_Model_goAlong_434 rfl (by decide) rfl ?_
  refine z_sub [1, 2, 3, 0, 4, 5, 6, 7] rfl ?_
  exact k_Model_goAlong_435 N C E H45 H78 _ _ _ _ _ _ _ _ _ hf

set_option maxHeartbeats 4000000 in
set_option maxRecDepth 100000 in
theorem k_Model_goAlong_420 (N : Nat) {X : zX} (C : zB X prog_10_method_24_code 10 R_Model rm_Model_goAlong) {h0 : zH} {p : Unit × zH} (E : zR X none rm_Model_goAlong h0 none p.2) {rc45 : Nat → Int32 → Int32 → Int32 → zH → Option (Unit × zH)} (H45 : ∀ (x0 : Nat) (x1 : Int32) (x2 : Int32) (x3 : Int32) (h : zH), rc45 x0 x1 x2 x3 h = some p → Zt X 10 0 0 45 [(0, .ref x0), (1, .int x1), (2, .int x2), (3, .int x3)] [] h) {rc78 : Nat → Int32 → Int32 → Int32 → Int32 → Int32 → Int32 → Int32 → zH → Option (Unit × zH)} (H78 : ∀ (x0 : Nat) (x1 : Int32) (x2 : Int32) (x3 : Int32) (x4 : Int32) (x5 : Int32) (x6 : Int32) (x7 : Int32) (h : zH), rc78 x0 x1 x2 x3 x4 x5 x6 x7 h = some p → Zt X 10 0 0 78 [(0, .ref x0), (1, .int x1), (2, .int x2), (3, .int x3), (4, .int x4), (5, .int x5), (6, .int x6), (7, .int x7)] [] h) : ∀ (x0 : Nat) (x1 : Int32) (x2 : Int32) (x3 : Int32) (x4 : Int32) (x5 : Int32) (x6 : Int32) (x7 : Int32) (h : zH), f_Model_goAlong_420 N rc45 rc78 x0 x1 x2 x3 x4 x5 x6 x7 h = some p → Zt X 10 0 0 420 [(0, .ref x0), (1, .int x1), (2, .int x2), (3, .int x3), (4, .int x4), (5, .int x5), (6, .int x6), (7, .int x7)] [] h := by
  intro x0 x1 x2 x3 x4 x5 x6 x7 h hf
  unfold f_Model_goAlong_420 at hf
  refine z_iload C 6 d_Model_goAlong_420 rfl ?_
  refine z_if_eq (tgt := 433) C d_Model_goAlong_422 (by decide) hf (fun hf => ?_) (fun hf => ?_)
  · refine z_iload_n C 3 d_Model_goAlong_433 rfl rfl ?_
    refine z_sub [0, 1, 2, 4, 5, 6, 7] rfl ?_
    exact k_Model_goAlong_434 N C E H45 H78 _ _ _ _ _ _ _ _ _ hf
  · refine z_iload C 7 d_Model_goAlong_425 rfl ?_
    refine z_bipush C (v := (24 : Int32)) d_Model_goAlong_427 (by decide) ?_
    refine z_iadd C d_Model_goAlong_429 ?_
    refine z_goto (tgt := 434) C d_Model_goAlong_430 (by decide) ?_
    refine z_sub [0, 1, 2, 4, 5, 6, 7] rfl ?_
    exact k_Model_goAlong_434 N C E H45 H78 _ _ _ _ _ _ _ _ _ hf

set_option maxHeartbeats 4000000 in
set_option maxRecDepth 100000 in
theorem k_Model_goAlong_386 (N : Nat) {X : zX} (C : zB X prog_10_method_24_code 10 R_Model rm_Model_goAlong) {h0 : zH} {p : Unit × zH} (E : zR X none rm_Model_goAlong h0 none p.2) {rc45 : Nat → Int32 → Int32 → Int32 → zH → Option (Unit × zH)} (H45 : ∀ (x0 : Nat) (x1 : Int32) (x2 : Int32) (x3 : Int32) (h : zH), rc45 x0 x1 x2 x3 h = some p → Zt X 10 0 0 45 [(0, .ref x0), (1, .int x1), (2, .int x2), (3, .int x3)] [] h) {rc78 : Nat → Int32 → Int32 → Int32 → Int32 → Int32 → Int32 → Int32 → zH → Option (Unit × zH)} (H78 : ∀ (x0 : Nat) (x1 : Int32) (x2 : Int32) (x3 : Int32) (x4 : Int32) (x5 : Int32) (x6 : Int32) (x7 : Int32) (h : zH), rc78 x0 x1 x2 x3 x4 x5 x6 x7 h = some p → Zt X 10 0 0 78 [(0, .ref x0), (1, .int x1), (2, .int x2), (3, .int x3), (4, .int x4), (5, .int x5), (6, .int x6), (7, .int x7)] [] h) : ∀ n : Nat, ∀ (x0 : Nat) (x1 : Int32) (x2 : Int32) (x3 : Int32) (x4 : Int32) (x5 : Int32) (x6 : Int32) (x7 : Int32) (x8 : Int32) (x9 : Int32) (h : zH), f_Model_goAlong_386 N rc45 rc78 n x0 x1 x2 x3 x4 x5 x6 x7 x8 x9 h = some p → Zt X 10 0 0 386 [(0, .ref x0), (1, .int x1), (2, .int x2), (3, .int x3), (4, .int x4), (5, .int x5), (6, .int x6), (7, .int x7), (8, .int x8), (9, .int x9)] [] h := by
  intro n
  induction n with
  | zero => intro x0 x1 x2 x3 x4 x5 x6 x7 x8 x9 h hf; cases hf
  | succ n ih =>
  intro x0 x1 x2 x3 x4 x5 x6 x7 x8 x9 h hf
  have H386 := ih
  replace hf : b_Model_goAlong_386 N rc45 rc78 (f_Model_goAlong_386 N rc45 rc78 n) x0 x1 x2 x3 x4 x5 x6 x7 x8 x9 h = some p := hf
  unfold b_Model_goAlong_386 at hf
  refine z_iload C 9 d_Model_goAlong_386 rfl ?_
  refine z_iload C 8 d_Model_goAlong_388 rfl ?_
  refine z_ic_ge (tgt := 420) C d_Model_goAlong_390 (by decide) hf (fun hf => ?_) (fun hf => ?_)
  · refine z_sub [0, 1, 2, 3, 4, 5, 6, 7] rfl ?_
    exact k_Model_goAlong_420 N C E H45 H78 _ _ _ _ _ _ _ _ _ hf
  · refine z_iload C 6 d_Model_goAlong_393 rfl ?_
    refine z_if_eq (tgt := 420) C d_Model_goAlong_395 (by decide) hf (fun hf => ?_) (fun hf => ?_)
    · refine z_sub [0, 1, 2, 3, 4, 5, 6, 7] rfl ?_
      exact k_Model_goAlong_420 N C E H45 H78 _ _ _ _ _ _ _ _ _ hf
    · refine z_iload_n C 1 d_Model_goAlong_398 rfl rfl ?_
      refine z_iload C 7 d_Model_goAlong_399 rfl ?_
      refine z_iadd C d_Model_goAlong_401 ?_
      refine z_istore_n C (lv' := [(1, .int (x1 + x7)), (0, .ref x0), (2, .int x2), (3, .int x3), (4, .int x4), (5, .int x5), (6, .int x6), (7, .int x7), (8, .int x8), (9, .int x9)]) d_Model_goAlong_402 rfl (by decide) rfl ?_
      refine z_iload_n C 2 d_Model_goAlong_403 rfl rfl ?_
      refine z_iconst C (v := (1 : Int32)) d_Model_goAlong_404 (by decide) ?_
      refine z_iadd C d_Model_goAlong_405 ?_
      refine z_istore_n C (lv' := [(2, .int (x2 + (1 : Int32))), (1, .int (x1 + x7)), (0, .ref x0), (3, .int x3), (4, .int x4), (5, .int x5), (6, .int x6), (7, .int x7), (8, .int x8), (9, .int x9)]) d_Model_goAlong_406 rfl (by decide) rfl ?_
      refine z_aload_n C 2 d_Model_goAlong_407 rfl rfl ?_
      refine z_getR C 0 25 rfl in_Model (by decide) w_766 rfl d_Model_goAlong_408 hf (fun v1 hf => ?_)
      refine z_iload_n C 0 d_Model_goAlong_411 rfl rfl ?_
      refine z_iload_n C 1 d_Model_goAlong_412 rfl rfl ?_
      refine z_iast C d_Model_goAlong_413 hf (fun h2 hf => ?_)
      refine z_iinc C (v := (x9 + (1 : Int32))) (lv' := [(9, .int (x9 + (1 : Int32))), (2, .int (x2 + (1 : Int32))), (1, .int (x1 + x7)), (0, .ref x0), (3, .int x3), (4, .int x4), (5, .int x5), (6, .int x6), (7, .int x7), (8, .int x8)]) 9 d_Model_goAlong_414 rfl (by rfl) (by decide) rfl ?_
      refine z_goto (tgt := 386) C d_Model_goAlong_417 (by decide) ?_
      refine z_sub [3, 2, 1, 4, 5, 6, 7, 8, 9, 0] rfl ?_
      exact H386 _ _ _ _ _ _ _ _ _ _ _ hf

set_option maxHeartbeats 4000000 in
set_option maxRecDepth 100000 in
theorem k_Model_goAlong_383 (N : Nat) {X : zX} (C : zB X prog_10_method_24_code 10 R_Model rm_Model_goAlong) {h0 : zH} {p : Unit × zH} (E : zR X none rm_Model_goAlong h0 none p.2) {rc45 : Nat → Int32 → Int32 → Int32 → zH → Option (Unit × zH)} (H45 : ∀ (x0 : Nat) (x1 : Int32) (x2 : Int32) (x3 : Int32) (h : zH), rc45 x0 x1 x2 x3 h = some p → Zt X 10 0 0 45 [(0, .ref x0), (1, .int x1), (2, .int x2), (3, .int x3)] [] h) {rc78 : Nat → Int32 → Int32 → Int32 → Int32 → Int32 → Int32 → Int32 → zH → Option (Unit × zH)} (H78 : ∀ (x0 : Nat) (x1 : Int32) (x2 : Int32) (x3 : Int32) (x4 : Int32) (x5 : Int32) (x6 : Int32) (x7 : Int32) (h : zH), rc78 x0 x1 x2 x3 x4 x5 x6 x7 h = some p → Zt X 10 0 0 78 [(0, .ref x0), (1, .int x1), (2, .int x2), (3, .int x3), (4, .int x4), (5, .int x5), (6, .int x6), (7, .int x7)] [] h) : ∀ (x0 : Nat) (x1 : Int32) (x2 : Int32) (x3 : Int32) (x4 : Int32) (x5 : Int32) (x6 : Int32) (x7 : Int32) (x8 : Int32) (h : zH), f_Model_goAlong_383 N rc45 rc78 x0 x1 x2 x3 x4 x5 x6 x7 x8 h = some p → Zt X 10 0 0 383 [(0, .ref x0), (1, .int x1), (2, .int x2), (3, .int x3), (4, .int x4), (5, .int x5), (6, .int x6), (7, .int x7), (8, .int x8)] [] h := by
  intro x0 x1 x2 x3 x4 x5 x6 x7 x8 h hf
  unfold f_Model_goAlong_383 at hf
  refine z_iconst C (v := (0 : Int32)) d_Model_goAlong_383 (by decide) ?_
  refine z_istore C (lv' := [(9, .int (0 : Int32)), (0, .ref x0), (1, .int x1), (2, .int x2), (3, .int x3), (4, .int x4), (5, .int x5), (6, .int x6), (7, .int x7), (8, .int x8)]) d_Model_goAlong_384 (by decide) rfl ?_
  refine z_sub [1, 2, 3, 4, 5, 6, 7, 8, 9, 0] rfl ?_
  exact k_Model_goAlong_386 N C E H45 H78 N _ _ _ _ _ _ _ _ _ _ _ hf

set_option maxHeartbeats 4000000 in
set_option maxRecDepth 100000 in
theorem k_Model_goAlong_380 (N : Nat) {X : zX} (C : zB X prog_10_method_24_code 10 R_Model rm_Model_goAlong) {h0 : zH} {p : Unit × zH} (E : zR X none rm_Model_goAlong h0 none p.2) {rc45 : Nat → Int32 → Int32 → Int32 → zH → Option (Unit × zH)} (H45 : ∀ (x0 : Nat) (x1 : Int32) (x2 : Int32) (x3 : Int32) (h : zH), rc45 x0 x1 x2 x3 h = some p → Zt X 10 0 0 45 [(0, .ref x0), (1, .int x1), (2, .int x2), (3, .int x3)] [] h) {rc78 : Nat → Int32 → Int32 → Int32 → Int32 → Int32 → Int32 → Int32 → zH → Option (Unit × zH)} (H78 : ∀ (x0 : Nat) (x1 : Int32) (x2 : Int32) (x3 : Int32) (x4 : Int32) (x5 : Int32) (x6 : Int32) (x7 : Int32) (h : zH), rc78 x0 x1 x2 x3 x4 x5 x6 x7 h = some p → Zt X 10 0 0 78 [(0, .ref x0), (1, .int x1), (2, .int x2), (3, .int x3), (4, .int x4), (5, .int x5), (6, .int x6), (7, .int x7)] [] h) : ∀ (x0 : Nat) (x1 : Int32) (x2 : Int32) (x3 : Int32) (x4 : Int32) (x5 : Int32) (x6 : Int32) (x7 : Int32) (x8 : Int32) (s0 : Nat) (s1 : Int32) (h : zH), f_Model_goAlong_380 N rc45 rc78 x0 x1 x2 x3 x4 x5 x6 x7 x8 s0 s1 h = some p → Zt X 10 0 0 380 [(0, .ref x0), (1, .int x1), (2, .int x2), (3, .int x3), (4, .int x4), (5, .int x5), (6, .int x6), (7, .int x7), (8, .int x8)] [.int s1, .ref s0] h := by
  intro x0 x1 x2 x3 x4 x5 x6 x7 x8 s0 s1 h hf
  unfold f_Model_goAlong_380 at hf
  refine z_put C 0 26 ty_Model rfl in_Model tyok_Model nm_Model (by decide) w_767 rfl (Or.inl rfl) rfl rfl rfl d_Model_goAlong_380 hf (fun h3 hf => ?_)
  refine z_sub [0, 1, 2, 3, 4, 5, 6, 7, 8] rfl ?_
  exact k_Model_goAlong_383 N C E H45 H78 _ _ _ _ _ _ _ _ _ _ hf

set_option maxHeartbeats 4000000 in
set_option maxRecDepth 100000 in
theorem k_Model_goAlong_356 (N : Nat) {X : zX} (C : zB X prog_10_method_24_code 10 R_Model rm_Model_goAlong) {h0 : zH} {p : Unit × zH} (E : zR X none rm_Model_goAlong h0 none p.2) {rc45 : Nat → Int32 → Int32 → Int32 → zH → Option (Unit × zH)} (H45 : ∀ (x0 : Nat) (x1 : Int32) (x2 : Int32) (x3 : Int32) (h : zH), rc45 x0 x1 x2 x3 h = some p → Zt X 10 0 0 45 [(0, .ref x0), (1, .int x1), (2, .int x2), (3, .int x3)] [] h) {rc78 : Nat → Int32 → Int32 → Int32 → Int32 → Int32 → Int32 → Int32 → zH → Option (Unit × zH)} (H78 : ∀ (x0 : Nat) (x1 : Int32) (x2 : Int32) (x3 : Int32) (x4 : Int32) (x5 : Int32) (x6 : Int32) (x7 : Int32) (h : zH), rc78 x0 x1 x2 x3 x4 x5 x6 x7 h = some p → Zt X 10 0 0 78 [(0, .ref x0), (1, .int x1), (2, .int x2), (3, .int x3), (4, .int x4), (5, .int x5), (6, .int x6), (7, .int x7)] [] h) : ∀ (x0 : Nat) (x1 : Int32) (x2 : Int32) (x3 : Int32) (x4 : Int32) (x5 : Int32) (x7 : Int32) (x8 : Int32) (s0 : Int32) (h : zH), f_Model_goAlong_356 N rc45 rc78 x0 x1 x2 x3 x4 x5 x7 x8 s0 h = some p → Zt X 10 0 0 356 [(0, .ref x0), (1, .int x1), (2, .int x2), (3, .int x3), (4, .int x4), (5, .int x5), (7, .int x7), (8, .int x8)] [.int s0] h := by
  intro x0 x1 x2 x3 x4 x5 x7 x8 s0 h hf
  unfold f_Model_goAlong_356 at hf
  refine z_istore C (lv' := [(6, .int s0), (0, .ref x0), (1, .int x1), (2, .int x2), (3, .int x3), (4, .int x4), (5, .int x5), (7, .int x7), (8, .int x8)]) d_Model_goAlong_356 (by decide) rfl ?_
  refine z_aload_n C 1 d_Model_goAlong_358 rfl rfl ?_
  refine z_iload C 0 d_Model_goAlong_359 rfl ?_
  refine z_if_eq (tgt := 376) C d_Model_goAlong_361 (by decide) hf (fun hf => ?_) (fun hf => ?_)
  · refine z_aload_n C 1 d_Model_goAlong_376 rfl rfl ?_
    refine z_getI C 0 26 rfl in_Model (by decide) w_767 rfl d_Model_goAlong_377 hf (fun v4 hf => ?_)
    refine z_sub [1, 2, 3, 4, 5, 6, 0, 7, 8] rfl ?_
    exact k_Model_goAlong_380 N C E H45 H78 _ _ _ _ _ _ _ _ _ _ _ _ hf
  · refine z_aload_n C 1 d_Model_goAlong_364 rfl rfl ?_
    refine z_getI C 0 26 rfl in_Model (by decide) w_767 rfl d_Model_goAlong_365 hf (fun v5 hf => ?_)
    refine z_iconst C (v := (1 : Int32)) d_Model_goAlong_368 (by decide) ?_
    refine z_iload C 6 d_Model_goAlong_369 rfl ?_
    refine z_ishl C d_Model_goAlong_371 ?_
    refine z_ior C d_Model_goAlong_372 ?_
    refine z_goto (tgt := 380) C d_Model_goAlong_373 (by decide) ?_
    refine z_sub [1, 2, 3, 4, 5, 6, 0, 7, 8] rfl ?_
    exact k_Model_goAlong_380 N C E H45 H78 _ _ _ _ _ _ _ _ _ _ _ _ hf

set_option maxHeartbeats 4000000 in
set_option maxRecDepth 100000 in
theorem k_Model_goAlong_355 (N : Nat) {X : zX} (C : zB X prog_10_method_24_code 10 R_Model rm_Model_goAlong) {h0 : zH} {p : Unit × zH} (E : zR X none rm_Model_goAlong h0 none p.2) {rc45 : Nat → Int32 → Int32 → Int32 → zH → Option (Unit × zH)} (H45 : ∀ (x0 : Nat) (x1 : Int32) (x2 : Int32) (x3 : Int32) (h : zH), rc45 x0 x1 x2 x3 h = some p → Zt X 10 0 0 45 [(0, .ref x0), (1, .int x1), (2, .int x2), (3, .int x3)] [] h) {rc78 : Nat → Int32 → Int32 → Int32 → Int32 → Int32 → Int32 → Int32 → zH → Option (Unit × zH)} (H78 : ∀ (x0 : Nat) (x1 : Int32) (x2 : Int32) (x3 : Int32) (x4 : Int32) (x5 : Int32) (x6 : Int32) (x7 : Int32) (h : zH), rc78 x0 x1 x2 x3 x4 x5 x6 x7 h = some p → Zt X 10 0 0 78 [(0, .ref x0), (1, .int x1), (2, .int x2), (3, .int x3), (4, .int x4), (5, .int x5), (6, .int x6), (7, .int x7)] [] h) : ∀ (x0 : Nat) (x1 : Int32) (x2 : Int32) (x3 : Int32) (x4 : Int32) (x5 : Int32) (x7 : Int32) (x8 : Int32) (h : zH), f_Model_goAlong_355 N rc45 rc78 x0 x1 x2 x3 x4 x5 x7 x8 h = some p → Zt X 10 0 0 355 [(0, .ref x0), (1, .int x1), (2, .int x2), (3, .int x3), (4, .int x4), (5, .int x5), (7, .int x7), (8, .int x8)] [] h := by
  intro x0 x1 x2 x3 x4 x5 x7 x8 h hf
  unfold f_Model_goAlong_355 at hf
  refine z_iconst C (v := (0 : Int32)) d_Model_goAlong_355 (by decide) ?_
  refine z_sub [0, 1, 2, 3, 4, 5, 6, 7] rfl ?_
  exact k_Model_goAlong_356 N C E H45 H78 _ _ _ _ _ _ _ _ _ _ hf

set_option maxHeartbeats 4000000 in
set_option maxRecDepth 100000 in
theorem k_Model_goAlong_211 (N : Nat) {X : zX} (C : zB X prog_10_method_24_code 10 R_Model rm_Model_goAlong) {h0 : zH} {p : Unit × zH} (E : zR X none rm_Model_goAlong h0 none p.2) {rc45 : Nat → Int32 → Int32 → Int32 → zH → Option (Unit × zH)} (H45 : ∀ (x0 : Nat) (x1 : Int32) (x2 : Int32) (x3 : Int32) (h : zH), rc45 x0 x1 x2 x3 h = some p → Zt X 10 0 0 45 [(0, .ref x0), (1, .int x1), (2, .int x2), (3, .int x3)] [] h) {rc78 : Nat → Int32 → Int32 → Int32 → Int32 → Int32 → Int32 → Int32 → zH → Option (Unit × zH)} (H78 : ∀ (x0 : Nat) (x1 : Int32) (x2 : Int32) (x3 : Int32) (x4 : Int32) (x5 : Int32) (x6 : Int32) (x7 : Int32) (h : zH), rc78 x0 x1 x2 x3 x4 x5 x6 x7 h = some p → Zt X 10 0 0 78 [(0, .ref x0), (1, .int x1), (2, .int x2), (3, .int x3), (4, .int x4), (5, .int x5), (6, .int x6), (7, .int x7)] [] h) : ∀ (x0 : Nat) (x1 : Int32) (x2 : Int32) (x3 : Int32) (x4 : Int32) (x5 : Int32) (x6 : Int32) (x7 : Int32) (x8 : Int32) (h : zH), f_Model_goAlong_211 N rc45 rc78 x0 x1 x2 x3 x4 x5 x6 x7 x8 h = some p → Zt X 10 0 0 211 [(0, .ref x0), (1, .int x1), (2, .int x2), (3, .int x3), (4, .int x4), (5, .int x5), (6, .int x6), (7, .int x7), (8, .int x8)] [] h := by
  intro x0 x1 x2 x3 x4 x5 x6 x7 x8 h hf
  unfold f_Model_goAlong_211 at hf
  refine z_iload C 6 d_Model_goAlong_211 rfl ?_
  refine z_if_ne (tgt := 383) C d_Model_goAlong_213 (by decide) hf (fun hf => ?_) (fun hf => ?_)
  · refine z_sub [0, 1, 2, 3, 4, 5, 6, 7, 8] rfl ?_
    exact k_Model_goAlong_383 N C E H45 H78 _ _ _ _ _ _ _ _ _ _ hf
  · refine z_iload C 5 d_Model_goAlong_216 rfl ?_
    refine z_if_lt (tgt := 383) C d_Model_goAlong_218 (by decide) hf (fun hf => ?_) (fun hf => ?_)
    · refine z_sub [0, 1, 2, 3, 4, 5, 6, 7, 8] rfl ?_
      exact k_Model_goAlong_383 N C E H45 H78 _ _ _ _ _ _ _ _ _ _ hf
    · refine z_aload_n C 0 d_Model_goAlong_221 rfl rfl ?_
      refine z_iload C 5 d_Model_goAlong_222 rfl ?_
      refine z_iload_n C 1 d_Model_goAlong_224 rfl rfl ?_
      refine z_iload C 7 d_Model_goAlong_225 rfl ?_
      obtain ⟨p6, hc, hf⟩ := Option.bind_eq_some_iff.mp hf
      obtain ⟨hz, hc⟩ := zck_some hc
      refine z_callV C (ci := 0) (c_Model_mayUse N C.2.2.1 hc) rfl hz w_940 w_66 w_937 w_939 w_44 pd_Model_mayUse rfl ⟨(Nat.le_of_ble_eq_true rfl), (Nat.le_of_ble_eq_true rfl)⟩ ⟨(Nat.le_of_ble_eq_true rfl), (Nat.le_of_ble_eq_true rfl)⟩ rfl (Nat.le_of_ble_eq_true rfl) d_Model_goAlong_227 (k' := 0) (n' := 0) (stk' := [.int p6.1]) rfl rfl rfl ?_
      refine z_if_eq (tgt := 383) C d_Model_goAlong_230 (by decide) hf (fun hf => ?_) (fun hf => ?_)
      · refine z_sub [0, 1, 2, 3, 4, 5, 6, 7, 8] rfl ?_
        exact k_Model_goAlong_383 N C E H45 H78 _ _ _ _ _ _ _ _ _ _ hf
      · refine z_aload_n C 0 d_Model_goAlong_233 rfl rfl ?_
        refine z_getR C 0 12 rfl in_Model (by decide) w_753 rfl d_Model_goAlong_234 hf (fun v7 hf => ?_)
        refine z_iload C 5 d_Model_goAlong_237 rfl ?_
        refine z_iald C d_Model_goAlong_239 hf (fun v8 hf => ?_)
        refine z_iload_n C 2 d_Model_goAlong_240 rfl rfl ?_
        refine z_isub C d_Model_goAlong_241 ?_
        refine z_istore C (lv' := [(8, .int (v8 - x2)), (0, .ref x0), (1, .int x1), (2, .int x2), (3, .int x3), (4, .int x4), (5, .int x5), (6, .int x6), (7, .int x7)]) d_Model_goAlong_242 (by decide) rfl ?_
        refine z_aload_n C 1 d_Model_goAlong_244 rfl rfl ?_
        refine z_getR C 0 12 rfl in_Model (by decide) w_753 rfl d_Model_goAlong_245 hf (fun v9 hf => ?_)
        refine z_iload C 6 d_Model_goAlong_248 rfl ?_
        refine z_iald C d_Model_goAlong_250 hf (fun v10 hf => ?_)
        refine z_iload_n C 2 d_Model_goAlong_251 rfl rfl ?_
        refine z_iload C 0 d_Model_goAlong_252 rfl ?_
        refine z_iload C 8 d_Model_goAlong_254 rfl ?_
        refine z_imul C d_Model_goAlong_256 ?_
        refine z_iadd C d_Model_goAlong_257 ?_
        refine z_iload C 8 d_Model_goAlong_258 rfl ?_
        refine z_bipush C (v := (24 : Int32)) d_Model_goAlong_260 (by decide) ?_
        refine z_iadd C d_Model_goAlong_262 ?_
        obtain ⟨p11, hc, hf⟩ := Option.bind_eq_some_iff.mp hf
        refine z_callS C (c_Model_at N C.2.2.1 hc) w_919 w_66 w_917 w_918 pd_Model_at rfl ⟨(Nat.le_of_ble_eq_true rfl), (Nat.le_of_ble_eq_true rfl)⟩ ⟨(Nat.le_of_ble_eq_true rfl), (Nat.le_of_ble_eq_true rfl)⟩ rfl (Nat.le_of_ble_eq_true rfl) d_Model_goAlong_263 (k' := 0) (n' := 0) (stk' := [.int p11.1]) rfl rfl rfl ?_
        refine z_istore C (lv' := [(9, .int p11.1), (8, .int (v8 - x2)), (0, .ref x0), (1, .int x1), (2, .int x2), (3, .int x3), (4, .int x4), (5, .int x5), (6, .int x6), (7, .int x7)]) d_Model_goAlong_266 (by decide) rfl ?_
        refine z_aload_n C 2 d_Model_goAlong_268 rfl rfl ?_
        refine z_getR C 0 15 rfl in_Model (by decide) w_756 rfl d_Model_goAlong_269 hf (fun v12 hf => ?_)
        refine z_iload C 0 d_Model_goAlong_272 rfl ?_
        refine z_lald C d_Model_goAlong_274 hf (fun v13 hf => ?_)
        refine z_lconst C (v := (0 : Int64)) d_Model_goAlong_275 (by decide) ?_
        refine z_lcmp C d_Model_goAlong_276 ?_
        refine z_if_lt (tgt := 355) C d_Model_goAlong_277 (by decide) hf (fun hf => ?_) (fun hf => ?_)
        · refine z_sub [2, 3, 4, 5, 6, 7, 9, 1] rfl ?_
          exact k_Model_goAlong_355 N C E H45 H78 _ _ _ _ _ _ _ _ _ hf
        · refine z_aload_n C 2 d_Model_goAlong_280 rfl rfl ?_
          refine z_getR C 0 15 rfl in_Model (by decide) w_756 rfl d_Model_goAlong_281 hf (fun v14 hf => ?_)
          refine z_iload C 0 d_Model_goAlong_284 rfl ?_
          refine z_lald C d_Model_goAlong_286 hf (fun v15 hf => ?_)
          refine z_aload_n C 2 d_Model_goAlong_287 rfl rfl ?_
          refine z_aload_n C 2 d_Model_goAlong_288 rfl rfl ?_
          refine z_getR C 0 12 rfl in_Model (by decide) w_753 rfl d_Model_goAlong_289 hf (fun v16 hf => ?_)
          refine z_iload C 7 d_Model_goAlong_292 rfl ?_
          refine z_iald C d_Model_goAlong_294 hf (fun v17 hf => ?_)
          refine z_iload_n C 3 d_Model_goAlong_295 rfl rfl ?_
          refine z_iload C 1 d_Model_goAlong_296 rfl ?_
          refine z_iload C 9 d_Model_goAlong_298 rfl ?_
          refine z_imul C d_Model_goAlong_300 ?_
          refine z_iadd C d_Model_goAlong_301 ?_
          obtain ⟨p18, hc, hf⟩ := Option.bind_eq_some_iff.mp hf
          obtain ⟨hz, hc⟩ := zck_some hc
          refine z_callV C (ci := 0) (c_Model_placeCost N C.2.2.1 hc) rfl hz w_932 w_66 w_929 w_931 w_42 pd_Model_placeCost rfl ⟨(Nat.le_of_ble_eq_true rfl), (Nat.le_of_ble_eq_true rfl)⟩ ⟨(Nat.le_of_ble_eq_true rfl), (Nat.le_of_ble_eq_true rfl)⟩ rfl (Nat.le_of_ble_eq_true rfl) d_Model_goAlong_302 (k' := 0) (n' := 0) (stk' := [.long p18.1, .long v15]) rfl rfl rfl ?_
          refine z_ladd C d_Model_goAlong_305 ?_
          refine z_aload_n C 2 d_Model_goAlong_306 rfl rfl ?_
          refine z_getR C 0 14 rfl in_Model (by decide) w_755 rfl d_Model_goAlong_307 hf (fun v19 hf => ?_)
          refine z_iload C 7 d_Model_goAlong_310 rfl ?_
          refine z_lald C d_Model_goAlong_312 hf (fun v20 hf => ?_)
          refine z_ladd C d_Model_goAlong_313 ?_
          refine z_aload_n C 2 d_Model_goAlong_314 rfl rfl ?_
          refine z_getR C 0 15 rfl in_Model (by decide) w_756 rfl d_Model_goAlong_315 hf (fun v21 hf => ?_)
          refine z_iload C 6 d_Model_goAlong_318 rfl ?_
          refine z_lald C d_Model_goAlong_320 hf (fun v22 hf => ?_)
          refine z_lcmp C d_Model_goAlong_321 ?_
          refine z_if_ne (tgt := 355) C d_Model_goAlong_322 (by decide) hf (fun hf => ?_) (fun hf => ?_)
          · refine z_sub [2, 3, 4, 5, 6, 7, 9, 1] rfl ?_
            exact k_Model_goAlong_355 N C E H45 H78 _ _ _ _ _ _ _ _ _ hf
          · refine z_aload_n C 2 d_Model_goAlong_325 rfl rfl ?_
            refine z_getR C 0 16 rfl in_Model (by decide) w_757 rfl d_Model_goAlong_326 hf (fun v23 hf => ?_)
            refine z_iload C 0 d_Model_goAlong_329 rfl ?_
            refine z_iald C d_Model_goAlong_331 hf (fun v24 hf => ?_)
            refine z_iload C 1 d_Model_goAlong_332 rfl ?_
            refine z_iload C 9 d_Model_goAlong_334 rfl ?_
            obtain ⟨p25, hc, hf⟩ := Option.bind_eq_some_iff.mp hf
            refine z_callS C (c_Model_size N C.2.2.1 hc) w_912 w_66 w_910 w_911 pd_Model_size rfl ⟨(Nat.le_of_ble_eq_true rfl), (Nat.le_of_ble_eq_true rfl)⟩ ⟨(Nat.le_of_ble_eq_true rfl), (Nat.le_of_ble_eq_true rfl)⟩ rfl (Nat.le_of_ble_eq_true rfl) d_Model_goAlong_336 (k' := 0) (n' := 0) (stk' := [.int p25.1, .int (v8 - x2), .int v24]) rfl rfl rfl ?_
            refine z_imul C d_Model_goAlong_339 ?_
            refine z_iadd C d_Model_goAlong_340 ?_
            refine z_aload_n C 2 d_Model_goAlong_341 rfl rfl ?_
            refine z_getR C 0 16 rfl in_Model (by decide) w_757 rfl d_Model_goAlong_342 hf (fun v26 hf => ?_)
            refine z_iload C 6 d_Model_goAlong_345 rfl ?_
            refine z_iald C d_Model_goAlong_347 hf (fun v27 hf => ?_)
            refine z_ic_ne (tgt := 355) C d_Model_goAlong_348 (by decide) hf (fun hf => ?_) (fun hf => ?_)
            · refine z_sub [2, 3, 4, 5, 6, 7, 9, 1] rfl ?_
              exact k_Model_goAlong_355 N C E H45 H78 _ _ _ _ _ _ _ _ _ hf
            · refine z_iconst C (v := (1 : Int32)) d_Model_goAlong_351 (by decide) ?_
              refine z_goto (tgt := 356) C d_Model_goAlong_352 (by decide) ?_
              refine z_sub [2, 3, 4, 5, 6, 7, 9, 1] rfl ?_
              exact k_Model_goAlong_356 N C E H45 H78 _ _ _ _ _ _ _ _ _ _ hf

set_option maxHeartbeats 4000000 in
set_option maxRecDepth 100000 in
theorem k_Model_goAlong_209 (N : Nat) {X : zX} (C : zB X prog_10_method_24_code 10 R_Model rm_Model_goAlong) {h0 : zH} {p : Unit × zH} (E : zR X none rm_Model_goAlong h0 none p.2) {rc45 : Nat → Int32 → Int32 → Int32 → zH → Option (Unit × zH)} (H45 : ∀ (x0 : Nat) (x1 : Int32) (x2 : Int32) (x3 : Int32) (h : zH), rc45 x0 x1 x2 x3 h = some p → Zt X 10 0 0 45 [(0, .ref x0), (1, .int x1), (2, .int x2), (3, .int x3)] [] h) {rc78 : Nat → Int32 → Int32 → Int32 → Int32 → Int32 → Int32 → Int32 → zH → Option (Unit × zH)} (H78 : ∀ (x0 : Nat) (x1 : Int32) (x2 : Int32) (x3 : Int32) (x4 : Int32) (x5 : Int32) (x6 : Int32) (x7 : Int32) (h : zH), rc78 x0 x1 x2 x3 x4 x5 x6 x7 h = some p → Zt X 10 0 0 78 [(0, .ref x0), (1, .int x1), (2, .int x2), (3, .int x3), (4, .int x4), (5, .int x5), (6, .int x6), (7, .int x7)] [] h) : ∀ (x0 : Nat) (x1 : Int32) (x2 : Int32) (x3 : Int32) (x4 : Int32) (x5 : Int32) (x7 : Int32) (x8 : Int32) (s0 : Int32) (h : zH), f_Model_goAlong_209 N rc45 rc78 x0 x1 x2 x3 x4 x5 x7 x8 s0 h = some p → Zt X 10 0 0 209 [(0, .ref x0), (1, .int x1), (2, .int x2), (3, .int x3), (4, .int x4), (5, .int x5), (7, .int x7), (8, .int x8)] [.int s0] h := by
  intro x0 x1 x2 x3 x4 x5 x7 x8 s0 h hf
  unfold f_Model_goAlong_209 at hf
  refine z_istore C (lv' := [(6, .int s0), (0, .ref x0), (1, .int x1), (2, .int x2), (3, .int x3), (4, .int x4), (5, .int x5), (7, .int x7), (8, .int x8)]) d_Model_goAlong_209 (by decide) rfl ?_
  refine z_sub [1, 2, 3, 4, 5, 6, 0, 7, 8] rfl ?_
  exact k_Model_goAlong_211 N C E H45 H78 _ _ _ _ _ _ _ _ _ _ hf

set_option maxHeartbeats 4000000 in
set_option maxRecDepth 100000 in
theorem k_Model_goAlong_208 (N : Nat) {X : zX} (C : zB X prog_10_method_24_code 10 R_Model rm_Model_goAlong) {h0 : zH} {p : Unit × zH} (E : zR X none rm_Model_goAlong h0 none p.2) {rc45 : Nat → Int32 → Int32 → Int32 → zH → Option (Unit × zH)} (H45 : ∀ (x0 : Nat) (x1 : Int32) (x2 : Int32) (x3 : Int32) (h : zH), rc45 x0 x1 x2 x3 h = some p → Zt X 10 0 0 45 [(0, .ref x0), (1, .int x1), (2, .int x2), (3, .int x3)] [] h) {rc78 : Nat → Int32 → Int32 → Int32 → Int32 → Int32 → Int32 → Int32 → zH → Option (Unit × zH)} (H78 : ∀ (x0 : Nat) (x1 : Int32) (x2 : Int32) (x3 : Int32) (x4 : Int32) (x5 : Int32) (x6 : Int32) (x7 : Int32) (h : zH), rc78 x0 x1 x2 x3 x4 x5 x6 x7 h = some p → Zt X 10 0 0 78 [(0, .ref x0), (1, .int x1), (2, .int x2), (3, .int x3), (4, .int x4), (5, .int x5), (6, .int x6), (7, .int x7)] [] h) : ∀ (x0 : Nat) (x1 : Int32) (x2 : Int32) (x3 : Int32) (x4 : Int32) (x5 : Int32) (x7 : Int32) (x8 : Int32) (h : zH), f_Model_goAlong_208 N rc45 rc78 x0 x1 x2 x3 x4 x5 x7 x8 h = some p → Zt X 10 0 0 208 [(0, .ref x0), (1, .int x1), (2, .int x2), (3, .int x3), (4, .int x4), (5, .int x5), (7, .int x7), (8, .int x8)] [] h := by
  intro x0 x1 x2 x3 x4 x5 x7 x8 h hf
  unfold f_Model_goAlong_208 at hf
  refine z_iconst C (v := (0 : Int32)) d_Model_goAlong_208 (by decide) ?_
  refine z_sub [0, 1, 2, 3, 4, 5, 6, 7] rfl ?_
  exact k_Model_goAlong_209 N C E H45 H78 _ _ _ _ _ _ _ _ _ _ hf

set_option maxHeartbeats 4000000 in
set_option maxRecDepth 100000 in
theorem k_Model_goAlong_78 (N : Nat) {X : zX} (C : zB X prog_10_method_24_code 10 R_Model rm_Model_goAlong) {h0 : zH} {p : Unit × zH} (E : zR X none rm_Model_goAlong h0 none p.2) {rc45 : Nat → Int32 → Int32 → Int32 → zH → Option (Unit × zH)} (H45 : ∀ (x0 : Nat) (x1 : Int32) (x2 : Int32) (x3 : Int32) (h : zH), rc45 x0 x1 x2 x3 h = some p → Zt X 10 0 0 45 [(0, .ref x0), (1, .int x1), (2, .int x2), (3, .int x3)] [] h) : ∀ n : Nat, ∀ (x0 : Nat) (x1 : Int32) (x2 : Int32) (x3 : Int32) (x4 : Int32) (x5 : Int32) (x6 : Int32) (x7 : Int32) (h : zH), f_Model_goAlong_78 N rc45 n x0 x1 x2 x3 x4 x5 x6 x7 h = some p → Zt X 10 0 0 78 [(0, .ref x0), (1, .int x1), (2, .int x2), (3, .int x3), (4, .int x4), (5, .int x5), (6, .int x6), (7, .int x7)] [] h := by
  intro n
  induction n with
  | zero => intro x0 x1 x2 x3 x4 x5 x6 x7 h hf; cases hf
  | succ n ih =>
  intro x0 x1 x2 x3 x4 x5 x6 x7 h hf
  have H78 := ih
  replace hf : b_Model_goAlong_78 N rc45 (f_Model_goAlong_78 N rc45 n) x0 x1 x2 x3 x4 x5 x6 x7 h = some p := hf
  unfold b_Model_goAlong_78 at hf
  refine z_iload C 7 d_Model_goAlong_78 rfl ?_
  refine z_aload_n C 0 d_Model_goAlong_80 rfl rfl ?_
  refine z_getI C 0 7 rfl in_Model (by decide) w_748 rfl d_Model_goAlong_81 hf (fun v28 hf => ?_)
  refine z_ic_gt (tgt := 441) C d_Model_goAlong_84 (by decide) hf (fun hf => ?_) (fun hf => ?_)
  · refine z_sub [0, 1, 2, 3] rfl ?_
    exact k_Model_goAlong_441 N C E H45 _ _ _ _ _ hf
  · refine z_iload C 6 d_Model_goAlong_87 rfl ?_
    refine z_if_ne (tgt := 441) C d_Model_goAlong_89 (by decide) hf (fun hf => ?_) (fun hf => ?_)
    · refine z_sub [0, 1, 2, 3] rfl ?_
      exact k_Model_goAlong_441 N C E H45 _ _ _ _ _ hf
    · refine z_aload_n C 0 d_Model_goAlong_92 rfl rfl ?_
      refine z_iload C 7 d_Model_goAlong_93 rfl ?_
      refine z_iload_n C 3 d_Model_goAlong_95 rfl rfl ?_
      obtain ⟨p29, hc, hf⟩ := Option.bind_eq_some_iff.mp hf
      obtain ⟨hz, hc⟩ := zck_some hc
      refine z_callV C (ci := 0) (c_Model_follows N C.2.2.1 hc) rfl hz w_909 w_66 w_906 w_908 w_38 pd_Model_follows rfl ⟨(Nat.le_of_ble_eq_true rfl), (Nat.le_of_ble_eq_true rfl)⟩ ⟨(Nat.le_of_ble_eq_true rfl), (Nat.le_of_ble_eq_true rfl)⟩ rfl (Nat.le_of_ble_eq_true rfl) d_Model_goAlong_96 (k' := 0) (n' := 0) (stk' := [.int p29.1]) rfl rfl rfl ?_
      refine z_if_ne (tgt := 105) C d_Model_goAlong_99 (by decide) hf (fun hf => ?_) (fun hf => ?_)
      · refine z_iconst C (v := (1 : Int32)) d_Model_goAlong_105 (by decide) ?_
        refine z_istore C (lv' := [(8, .int (1 : Int32)), (0, .ref x0), (1, .int x1), (2, .int x2), (3, .int x3), (4, .int x4), (5, .int x5), (6, .int x6), (7, .int x7)]) d_Model_goAlong_106 (by decide) rfl ?_
        refine z_aload_n C 1 d_Model_goAlong_108 rfl rfl ?_
        refine z_iload_n C 3 d_Model_goAlong_109 rfl rfl ?_
        refine z_iconst C (v := (1 : Int32)) d_Model_goAlong_110 (by decide) ?_
        refine z_iadd C d_Model_goAlong_111 ?_
        refine z_iload_n C 2 d_Model_goAlong_112 rfl rfl ?_
        refine z_iload C 8 d_Model_goAlong_113 rfl ?_
        refine z_iadd C d_Model_goAlong_115 ?_
        obtain ⟨p30, hc, hf⟩ := Option.bind_eq_some_iff.mp hf
        obtain ⟨hz, hc⟩ := zck_some hc
        refine z_callV C (ci := 0) (c_Model_may N C.2.2.1 hc) rfl hz w_905 w_66 w_902 w_904 w_37 pd_Model_may rfl ⟨(Nat.le_of_ble_eq_true rfl), (Nat.le_of_ble_eq_true rfl)⟩ ⟨(Nat.le_of_ble_eq_true rfl), (Nat.le_of_ble_eq_true rfl)⟩ rfl (Nat.le_of_ble_eq_true rfl) d_Model_goAlong_116 (k' := 0) (n' := 0) (stk' := [.int p30.1]) rfl rfl rfl ?_
        refine z_if_eq (tgt := 211) C d_Model_goAlong_119 (by decide) hf (fun hf => ?_) (fun hf => ?_)
        · refine z_sub [1, 2, 3, 4, 5, 6, 7, 8, 0] rfl ?_
          exact k_Model_goAlong_211 N C E H45 H78 _ _ _ _ _ _ _ _ _ _ hf
        · refine z_iload_n C 3 d_Model_goAlong_122 rfl rfl ?_
          refine z_iconst C (v := (1 : Int32)) d_Model_goAlong_123 (by decide) ?_
          refine z_iadd C d_Model_goAlong_124 ?_
          refine z_iload_n C 2 d_Model_goAlong_125 rfl rfl ?_
          refine z_iload C 8 d_Model_goAlong_126 rfl ?_
          refine z_iadd C d_Model_goAlong_128 ?_
          refine z_iload C 8 d_Model_goAlong_129 rfl ?_
          refine z_bipush C (v := (24 : Int32)) d_Model_goAlong_131 (by decide) ?_
          refine z_iadd C d_Model_goAlong_133 ?_
          obtain ⟨p31, hc, hf⟩ := Option.bind_eq_some_iff.mp hf
          refine z_callS C (c_Model_at N C.2.2.1 hc) w_919 w_66 w_917 w_918 pd_Model_at rfl ⟨(Nat.le_of_ble_eq_true rfl), (Nat.le_of_ble_eq_true rfl)⟩ ⟨(Nat.le_of_ble_eq_true rfl), (Nat.le_of_ble_eq_true rfl)⟩ rfl (Nat.le_of_ble_eq_true rfl) d_Model_goAlong_134 (k' := 0) (n' := 0) (stk' := [.int p31.1]) rfl rfl rfl ?_
          refine z_istore C (lv' := [(9, .int p31.1), (8, .int (1 : Int32)), (0, .ref x0), (1, .int x1), (2, .int x2), (3, .int x3), (4, .int x4), (5, .int x5), (6, .int x6), (7, .int x7)]) d_Model_goAlong_137 (by decide) rfl ?_
          refine z_aload_n C 2 d_Model_goAlong_139 rfl rfl ?_
          refine z_getR C 0 15 rfl in_Model (by decide) w_756 rfl d_Model_goAlong_140 hf (fun v32 hf => ?_)
          refine z_iload C 0 d_Model_goAlong_143 rfl ?_
          refine z_lald C d_Model_goAlong_145 hf (fun v33 hf => ?_)
          refine z_lconst C (v := (0 : Int64)) d_Model_goAlong_146 (by decide) ?_
          refine z_lcmp C d_Model_goAlong_147 ?_
          refine z_if_lt (tgt := 208) C d_Model_goAlong_148 (by decide) hf (fun hf => ?_) (fun hf => ?_)
          · refine z_sub [2, 3, 4, 5, 6, 7, 9, 1] rfl ?_
            exact k_Model_goAlong_208 N C E H45 H78 _ _ _ _ _ _ _ _ _ hf
          · refine z_aload_n C 2 d_Model_goAlong_151 rfl rfl ?_
            refine z_getR C 0 15 rfl in_Model (by decide) w_756 rfl d_Model_goAlong_152 hf (fun v34 hf => ?_)
            refine z_iload C 0 d_Model_goAlong_155 rfl ?_
            refine z_lald C d_Model_goAlong_157 hf (fun v35 hf => ?_)
            refine z_aload_n C 2 d_Model_goAlong_158 rfl rfl ?_
            refine z_iload_n C 4 d_Model_goAlong_159 rfl rfl ?_
            refine z_iconst C (v := (1 : Int32)) d_Model_goAlong_160 (by decide) ?_
            refine z_iadd C d_Model_goAlong_161 ?_
            refine z_iload_n C 3 d_Model_goAlong_162 rfl rfl ?_
            refine z_iload C 9 d_Model_goAlong_163 rfl ?_
            refine z_iadd C d_Model_goAlong_165 ?_
            obtain ⟨p36, hc, hf⟩ := Option.bind_eq_some_iff.mp hf
            obtain ⟨hz, hc⟩ := zck_some hc
            refine z_callV C (ci := 0) (c_Model_placeCost N C.2.2.1 hc) rfl hz w_932 w_66 w_929 w_931 w_42 pd_Model_placeCost rfl ⟨(Nat.le_of_ble_eq_true rfl), (Nat.le_of_ble_eq_true rfl)⟩ ⟨(Nat.le_of_ble_eq_true rfl), (Nat.le_of_ble_eq_true rfl)⟩ rfl (Nat.le_of_ble_eq_true rfl) d_Model_goAlong_166 (k' := 0) (n' := 0) (stk' := [.long p36.1, .long v35]) rfl rfl rfl ?_
            refine z_ladd C d_Model_goAlong_169 ?_
            refine z_aload_n C 2 d_Model_goAlong_170 rfl rfl ?_
            refine z_getR C 0 15 rfl in_Model (by decide) w_756 rfl d_Model_goAlong_171 hf (fun v37 hf => ?_)
            refine z_iload C 6 d_Model_goAlong_174 rfl ?_
            refine z_lald C d_Model_goAlong_176 hf (fun v38 hf => ?_)
            refine z_lcmp C d_Model_goAlong_177 ?_
            refine z_if_ne (tgt := 208) C d_Model_goAlong_178 (by decide) hf (fun hf => ?_) (fun hf => ?_)
            · refine z_sub [2, 3, 4, 5, 6, 7, 9, 1] rfl ?_
              exact k_Model_goAlong_208 N C E H45 H78 _ _ _ _ _ _ _ _ _ hf
            · refine z_aload_n C 2 d_Model_goAlong_181 rfl rfl ?_
              refine z_getR C 0 16 rfl in_Model (by decide) w_757 rfl d_Model_goAlong_182 hf (fun v39 hf => ?_)
              refine z_iload C 0 d_Model_goAlong_185 rfl ?_
              refine z_iald C d_Model_goAlong_187 hf (fun v40 hf => ?_)
              refine z_iload C 9 d_Model_goAlong_188 rfl ?_
              obtain ⟨p41, hc, hf⟩ := Option.bind_eq_some_iff.mp hf
              refine z_callS C (c_Model_size N C.2.2.1 hc) w_912 w_66 w_910 w_911 pd_Model_size rfl ⟨(Nat.le_of_ble_eq_true rfl), (Nat.le_of_ble_eq_true rfl)⟩ ⟨(Nat.le_of_ble_eq_true rfl), (Nat.le_of_ble_eq_true rfl)⟩ rfl (Nat.le_of_ble_eq_true rfl) d_Model_goAlong_190 (k' := 0) (n' := 0) (stk' := [.int p41.1, .int v40]) rfl rfl rfl ?_
              refine z_iadd C d_Model_goAlong_193 ?_
              refine z_aload_n C 2 d_Model_goAlong_194 rfl rfl ?_
              refine z_getR C 0 16 rfl in_Model (by decide) w_757 rfl d_Model_goAlong_195 hf (fun v42 hf => ?_)
              refine z_iload C 6 d_Model_goAlong_198 rfl ?_
              refine z_iald C d_Model_goAlong_200 hf (fun v43 hf => ?_)
              refine z_ic_ne (tgt := 208) C d_Model_goAlong_201 (by decide) hf (fun hf => ?_) (fun hf => ?_)
              · refine z_sub [2, 3, 4, 5, 6, 7, 9, 1] rfl ?_
                exact k_Model_goAlong_208 N C E H45 H78 _ _ _ _ _ _ _ _ _ hf
              · refine z_iconst C (v := (1 : Int32)) d_Model_goAlong_204 (by decide) ?_
                refine z_goto (tgt := 209) C d_Model_goAlong_205 (by decide) ?_
                refine z_sub [2, 3, 4, 5, 6, 7, 9, 1] rfl ?_
                exact k_Model_goAlong_209 N C E H45 H78 _ _ _ _ _ _ _ _ _ _ hf
      · refine z_goto (tgt := 435) C d_Model_goAlong_102 (by decide) ?_
        refine z_sub [0, 1, 2, 3, 4, 5, 6, 7] rfl ?_
        exact k_Model_goAlong_435 N C E H45 H78 _ _ _ _ _ _ _ _ _ hf

set_option maxHeartbeats 4000000 in
set_option maxRecDepth 100000 in
theorem k_Model_goAlong_45 (N : Nat) {X : zX} (C : zB X prog_10_method_24_code 10 R_Model rm_Model_goAlong) {h0 : zH} {p : Unit × zH} (E : zR X none rm_Model_goAlong h0 none p.2) : ∀ n : Nat, ∀ (x0 : Nat) (x1 : Int32) (x2 : Int32) (x3 : Int32) (h : zH), f_Model_goAlong_45 N n x0 x1 x2 x3 h = some p → Zt X 10 0 0 45 [(0, .ref x0), (1, .int x1), (2, .int x2), (3, .int x3)] [] h := by
  intro n
  induction n with
  | zero => intro x0 x1 x2 x3 h hf; cases hf
  | succ n ih =>
  intro x0 x1 x2 x3 h hf
  have H45 := ih
  replace hf : b_Model_goAlong_45 N (f_Model_goAlong_45 N n) x0 x1 x2 x3 h = some p := hf
  unfold b_Model_goAlong_45 at hf
  refine z_iload_n C 2 d_Model_goAlong_45 rfl rfl ?_
  refine z_aload_n C 0 d_Model_goAlong_46 rfl rfl ?_
  refine z_getI C 0 0 rfl in_Model (by decide) w_741 rfl d_Model_goAlong_47 hf (fun v44 hf => ?_)
  refine z_ic_ge (tgt := 444) C d_Model_goAlong_50 (by decide) hf (fun hf => ?_) (fun hf => ?_)
  · exact z_vret C E (Nat.le_of_ble_eq_true rfl) (Nat.le_of_ble_eq_true rfl) d_Model_goAlong_444 hf
  · refine z_iload_n C 2 d_Model_goAlong_53 rfl rfl ?_
    refine z_iload_n C 1 d_Model_goAlong_54 rfl rfl ?_
    refine z_iload_n C 3 d_Model_goAlong_55 rfl rfl ?_
    obtain ⟨p45, hc, hf⟩ := Option.bind_eq_some_iff.mp hf
    refine z_callS C (c_Model_at N C.2.2.1 hc) w_919 w_66 w_917 w_918 pd_Model_at rfl ⟨(Nat.le_of_ble_eq_true rfl), (Nat.le_of_ble_eq_true rfl)⟩ ⟨(Nat.le_of_ble_eq_true rfl), (Nat.le_of_ble_eq_true rfl)⟩ rfl (Nat.le_of_ble_eq_true rfl) d_Model_goAlong_56 (k' := 0) (n' := 0) (stk' := [.int p45.1]) rfl rfl rfl ?_
    refine z_istore C (lv' := [(4, .int p45.1), (0, .ref x0), (1, .int x1), (2, .int x2), (3, .int x3)]) d_Model_goAlong_59 (by decide) rfl ?_
    refine z_aload_n C 1 d_Model_goAlong_61 rfl rfl ?_
    refine z_iload_n C 3 d_Model_goAlong_62 rfl rfl ?_
    obtain ⟨p46, hc, hf⟩ := Option.bind_eq_some_iff.mp hf
    obtain ⟨hz, hc⟩ := zck_some hc
    refine z_callV C (ci := 0) (c_Model_spanAt N C.2.2.1 hc) rfl hz w_928 w_66 w_925 w_927 w_41 pd_Model_spanAt rfl ⟨(Nat.le_of_ble_eq_true rfl), (Nat.le_of_ble_eq_true rfl)⟩ ⟨(Nat.le_of_ble_eq_true rfl), (Nat.le_of_ble_eq_true rfl)⟩ rfl (Nat.le_of_ble_eq_true rfl) d_Model_goAlong_63 (k' := 0) (n' := 0) (stk' := [.int p46.1]) rfl rfl rfl ?_
    refine z_istore C (lv' := [(5, .int p46.1), (4, .int p45.1), (0, .ref x0), (1, .int x1), (2, .int x2), (3, .int x3)]) d_Model_goAlong_66 (by decide) rfl ?_
    refine z_iconst C (v := (0 : Int32)) d_Model_goAlong_68 (by decide) ?_
    refine z_istore C (lv' := [(6, .int (0 : Int32)), (5, .int p46.1), (4, .int p45.1), (0, .ref x0), (1, .int x1), (2, .int x2), (3, .int x3)]) d_Model_goAlong_69 (by decide) rfl ?_
    refine z_aload_n C 3 d_Model_goAlong_71 rfl rfl ?_
    refine z_getI C 0 7 rfl in_Model (by decide) w_748 rfl d_Model_goAlong_72 hf (fun v47 hf => ?_)
    refine z_ineg C d_Model_goAlong_75 ?_
    refine z_istore C (lv' := [(7, .int (-v47)), (6, .int (0 : Int32)), (5, .int p46.1), (4, .int p45.1), (0, .ref x0), (1, .int x1), (2, .int x2), (3, .int x3)]) d_Model_goAlong_76 (by decide) rfl ?_
    refine z_sub [4, 5, 6, 7, 3, 2, 1, 0] rfl ?_
    exact k_Model_goAlong_78 N C E H45 N _ _ _ _ _ _ _ _ _ hf

set_option maxHeartbeats 4000000 in
set_option maxRecDepth 100000 in
theorem k_Model_goAlong (N : Nat) {X : zX} (C : zB X prog_10_method_24_code 10 R_Model rm_Model_goAlong) {h0 : zH} {p : Unit × zH} (E : zR X none rm_Model_goAlong h0 none p.2) : ∀ (x0 : Nat) (h : zH), f_Model_goAlong N x0 h = some p → Zt X 10 0 0 0 [(0, .ref x0)] [] h := by
  intro x0 h hf
  unfold f_Model_goAlong at hf
  refine z_aload_n C 0 d_Model_goAlong_0 rfl rfl ?_
  obtain ⟨p48, hc, hf⟩ := Option.bind_eq_some_iff.mp hf
  obtain ⟨hz, hc⟩ := zck_some hc
  refine z_callV C (ci := 0) (c_Model_firstLevel N C.2.2.1 hc) rfl hz w_944 w_66 w_941 w_943 w_45 pd_Model_firstLevel rfl ⟨(Nat.le_of_ble_eq_true rfl), (Nat.le_of_ble_eq_true rfl)⟩ ⟨(Nat.le_of_ble_eq_true rfl), (Nat.le_of_ble_eq_true rfl)⟩ rfl (Nat.le_of_ble_eq_true rfl) d_Model_goAlong_1 (k' := 0) (n' := 0) (stk' := [.int p48.1]) rfl rfl rfl ?_
  refine z_istore_n C (lv' := [(1, .int p48.1), (0, .ref x0)]) d_Model_goAlong_4 rfl (by decide) rfl ?_
  refine z_iconst C (v := (0 : Int32)) d_Model_goAlong_5 (by decide) ?_
  refine z_istore_n C (lv' := [(2, .int (0 : Int32)), (1, .int p48.1), (0, .ref x0)]) d_Model_goAlong_6 rfl (by decide) rfl ?_
  refine z_bipush C (v := (49 : Int32)) d_Model_goAlong_7 (by decide) ?_
  refine z_istore_n C (lv' := [(3, .int (49 : Int32)), (2, .int (0 : Int32)), (1, .int p48.1), (0, .ref x0)]) d_Model_goAlong_9 rfl (by decide) rfl ?_
  refine z_aload_n C 3 d_Model_goAlong_10 rfl rfl ?_
  refine z_getR C 0 25 rfl in_Model (by decide) w_766 rfl d_Model_goAlong_11 hf (fun v49 hf => ?_)
  refine z_iconst C (v := (0 : Int32)) d_Model_goAlong_14 (by decide) ?_
  refine z_iload_n C 2 d_Model_goAlong_15 rfl rfl ?_
  refine z_iast C d_Model_goAlong_16 hf (fun h50 hf => ?_)
  refine z_aload_n C 3 d_Model_goAlong_17 rfl rfl ?_
  refine z_iconst C (v := (0 : Int32)) d_Model_goAlong_18 (by decide) ?_
  refine z_put C 0 26 ty_Model rfl in_Model tyok_Model nm_Model (by decide) w_767 rfl (Or.inl rfl) rfl rfl rfl d_Model_goAlong_19 hf (fun h51 hf => ?_)
  refine z_aload_n C 3 d_Model_goAlong_22 rfl rfl ?_
  refine z_aload_n C 3 d_Model_goAlong_23 rfl rfl ?_
  refine z_getR C 0 15 rfl in_Model (by decide) w_756 rfl d_Model_goAlong_24 hf (fun v52 hf => ?_)
  refine z_iconst C (v := (0 : Int32)) d_Model_goAlong_27 (by decide) ?_
  refine z_iload_n C 2 d_Model_goAlong_28 rfl rfl ?_
  refine z_bipush C (v := (49 : Int32)) d_Model_goAlong_29 (by decide) ?_
  obtain ⟨p53, hc, hf⟩ := Option.bind_eq_some_iff.mp hf
  refine z_callS C (c_Model_at N C.2.2.1 hc) w_919 w_66 w_917 w_918 pd_Model_at rfl ⟨(Nat.le_of_ble_eq_true rfl), (Nat.le_of_ble_eq_true rfl)⟩ ⟨(Nat.le_of_ble_eq_true rfl), (Nat.le_of_ble_eq_true rfl)⟩ rfl (Nat.le_of_ble_eq_true rfl) d_Model_goAlong_31 (k' := 0) (n' := 0) (stk' := [.int p53.1, .ref v52, .ref x0]) rfl rfl rfl ?_
  refine z_lald C d_Model_goAlong_34 hf (fun v54 hf => ?_)
  refine z_aload_n C 3 d_Model_goAlong_35 rfl rfl ?_
  refine z_iconst C (v := (0 : Int32)) d_Model_goAlong_36 (by decide) ?_
  refine z_iload_n C 2 d_Model_goAlong_37 rfl rfl ?_
  obtain ⟨p55, hc, hf⟩ := Option.bind_eq_some_iff.mp hf
  obtain ⟨hz, hc⟩ := zck_some hc
  refine z_callV C (ci := 0) (c_Model_placeCost N C.2.2.1 hc) rfl hz w_932 w_66 w_929 w_931 w_42 pd_Model_placeCost rfl ⟨(Nat.le_of_ble_eq_true rfl), (Nat.le_of_ble_eq_true rfl)⟩ ⟨(Nat.le_of_ble_eq_true rfl), (Nat.le_of_ble_eq_true rfl)⟩ rfl (Nat.le_of_ble_eq_true rfl) d_Model_goAlong_38 (k' := 0) (n' := 0) (stk' := [.long p55.1, .long v54, .ref x0]) rfl rfl rfl ?_
  refine z_ladd C d_Model_goAlong_41 ?_
  refine z_put C 0 27 ty_Model rfl in_Model tyok_Model nm_Model (by decide) w_768 rfl (Or.inl rfl) rfl rfl rfl d_Model_goAlong_42 hf (fun h56 hf => ?_)
  refine z_sub [3, 2, 1, 0] rfl ?_
  exact k_Model_goAlong_45 N C E N _ _ _ _ _ hf

theorem c_Model_goAlong (N : Nat) {l : Launch} {D : va_G} {T : List (ClassId × FieldType)} (hT : T.map (fun q => q.2) = ztl) {x0 : Nat} {h : zH} {p : Unit × zH} (hf : f_Model_goAlong N x0 h = some p) : zM l y_Model_goAlong prog_10_method_24_code 10 none rm_Model_goAlong D T [.ref x0] h none p.2 :=
  z_enter (by decide) hT (Nat.le_of_ble_eq_true rfl) (fun X el eD eT hin C E => k_Model_goAlong N C E x0 h hf)
/-! ===== LevelTablesModel.listFrom(IIJ)V ===== -/
abbrev y_Model_listFrom : MethodName := ⟨R_Model, "listFrom", "(IIJ)V"⟩
theorem pd_Model_listFrom : y_Model_listFrom.cls ≠ "java/lang/invoke/MethodHandle" ∧ y_Model_listFrom.cls ≠ "java/lang/invoke/VarHandle" ∧ (parseMethodDescriptor y_Model_listFrom.desc).map (fun d => d.parameters.length) = some 3 := ⟨by decide +kernel, by decide +kernel, by decide +kernel⟩
abbrev rm_Model_listFrom : Room := { frames := 1, cells := 0, slots := 0, locals := 27 }
def b_Model_listFrom_3 (N : Nat) (rc3 : Nat → Int32 → Int32 → Int64 → Int32 → zH → Option (Unit × zH)) (x0 : Nat) (x1 : Int32) (x2 : Int32) (x3 : Int64) (x5 : Int32) (h : zH) : Option (Unit × zH) :=
  Option.bind (zgR h x0 0 18) fun (v1 : Nat) =>
  Option.bind (zaI h 0 v1 x2) fun (v2 : Int32) =>
  (if v2 ≤ x5 then
    some ((), h)
  else
    Option.bind (zgR h x0 0 18) fun (v3 : Nat) =>
    Option.bind (zgR h x0 0 17) fun (v4 : Nat) =>
    Option.bind (zgR h x0 0 18) fun (v5 : Nat) =>
    Option.bind (zaI h 0 v5 x1) fun (v6 : Int32) =>
    Option.bind (zgR h x0 0 17) fun (v7 : Nat) =>
    Option.bind (zaJ h 1 v7 (((6 : Int32) * x2) + x5)) fun (v8 : Int64) =>
    Option.bind (f_Model_insert N v4 ((6 : Int32) * x1) v6 (v8 + x3) h) fun (p9 : Int32 × zH) =>
    Option.bind (zsI p9.2 0 v3 x1 p9.1) fun (h10 : zH) =>
    rc3 x0 x1 x2 x3 (x5 + (1 : Int32)) h10)
def f_Model_listFrom_3 (N : Nat) : Nat → Nat → Int32 → Int32 → Int64 → Int32 → zH → Option (Unit × zH)
  | 0 => fun _ _ _ _ _ _ => none
  | n + 1 => fun x0 x1 x2 x3 x5 h => b_Model_listFrom_3 N (f_Model_listFrom_3 N n) x0 x1 x2 x3 x5 h
def f_Model_listFrom (N : Nat) (x0 : Nat) (x1 : Int32) (x2 : Int32) (x3 : Int64) (h : zH) : Option (Unit × zH) :=
  f_Model_listFrom_3 N N x0 x1 x2 x3 (0 : Int32) h
theorem d_Model_listFrom_0 : decode prog_10_method_32_code 0 = .ok (.iconst (0), 1) := by decide +kernel
theorem d_Model_listFrom_1 : decode prog_10_method_32_code 1 = .ok (.istore (5), 2) := by decide +kernel
theorem d_Model_listFrom_3 : decode prog_10_method_32_code 3 = .ok (.iload (5), 2) := by decide +kernel
theorem d_Model_listFrom_5 : decode prog_10_method_32_code 5 = .ok (.aload_n (0), 1) := by decide +kernel
theorem d_Model_listFrom_6 : decode prog_10_method_32_code 6 = .ok (.getfield (55), 3) := by decide +kernel
theorem d_Model_listFrom_9 : decode prog_10_method_32_code 9 = .ok (.iload_n (2), 1) := by decide +kernel
theorem d_Model_listFrom_10 : decode prog_10_method_32_code 10 = .ok (.iaload, 1) := by decide +kernel
theorem d_Model_listFrom_11 : decode prog_10_method_32_code 11 = .ok (.if_icmp .ge (46), 3) := by decide +kernel
theorem d_Model_listFrom_14 : decode prog_10_method_32_code 14 = .ok (.aload_n (0), 1) := by decide +kernel
theorem d_Model_listFrom_15 : decode prog_10_method_32_code 15 = .ok (.getfield (55), 3) := by decide +kernel
theorem d_Model_listFrom_18 : decode prog_10_method_32_code 18 = .ok (.iload_n (1), 1) := by decide +kernel
theorem d_Model_listFrom_19 : decode prog_10_method_32_code 19 = .ok (.aload_n (0), 1) := by decide +kernel
theorem d_Model_listFrom_20 : decode prog_10_method_32_code 20 = .ok (.getfield (52), 3) := by decide +kernel
theorem d_Model_listFrom_23 : decode prog_10_method_32_code 23 = .ok (.bipush (6), 2) := by decide +kernel
theorem d_Model_listFrom_25 : decode prog_10_method_32_code 25 = .ok (.iload_n (1), 1) := by decide +kernel
theorem d_Model_listFrom_26 : decode prog_10_method_32_code 26 = .ok (.imul, 1) := by decide +kernel
theorem d_Model_listFrom_27 : decode prog_10_method_32_code 27 = .ok (.aload_n (0), 1) := by decide +kernel
theorem d_Model_listFrom_28 : decode prog_10_method_32_code 28 = .ok (.getfield (55), 3) := by decide +kernel
theorem d_Model_listFrom_31 : decode prog_10_method_32_code 31 = .ok (.iload_n (1), 1) := by decide +kernel
theorem d_Model_listFrom_32 : decode prog_10_method_32_code 32 = .ok (.iaload, 1) := by decide +kernel
theorem d_Model_listFrom_33 : decode prog_10_method_32_code 33 = .ok (.aload_n (0), 1) := by decide +kernel
theorem d_Model_listFrom_34 : decode prog_10_method_32_code 34 = .ok (.getfield (52), 3) := by decide +kernel
theorem d_Model_listFrom_37 : decode prog_10_method_32_code 37 = .ok (.bipush (6), 2) := by decide +kernel
theorem d_Model_listFrom_39 : decode prog_10_method_32_code 39 = .ok (.iload_n (2), 1) := by decide +kernel
theorem d_Model_listFrom_40 : decode prog_10_method_32_code 40 = .ok (.imul, 1) := by decide +kernel
theorem d_Model_listFrom_41 : decode prog_10_method_32_code 41 = .ok (.iload (5), 2) := by decide +kernel
theorem d_Model_listFrom_43 : decode prog_10_method_32_code 43 = .ok (.iadd, 1) := by decide +kernel
theorem d_Model_listFrom_44 : decode prog_10_method_32_code 44 = .ok (.laload, 1) := by decide +kernel
theorem d_Model_listFrom_45 : decode prog_10_method_32_code 45 = .ok (.lload_n (3), 1) := by decide +kernel
theorem d_Model_listFrom_46 : decode prog_10_method_32_code 46 = .ok (.ladd, 1) := by decide +kernel
theorem d_Model_listFrom_47 : decode prog_10_method_32_code 47 = .ok (.invokestatic (189), 3) := by decide +kernel
theorem d_Model_listFrom_50 : decode prog_10_method_32_code 50 = .ok (.iastore, 1) := by decide +kernel
theorem d_Model_listFrom_51 : decode prog_10_method_32_code 51 = .ok (.iinc (5) (1), 3) := by decide +kernel
theorem d_Model_listFrom_54 : decode prog_10_method_32_code 54 = .ok (.goto (-51), 3) := by decide +kernel
theorem d_Model_listFrom_57 : decode prog_10_method_32_code 57 = .ok (.return_, 1) := by decide +kernel
set_option maxHeartbeats 4000000 in
set_option maxRecDepth 100000 in
theorem k_Model_listFrom_3 (N : Nat) {X : zX} (C : zB X prog_10_method_32_code 6 R_Model rm_Model_listFrom) {h0 : zH} {p : Unit × zH} (E : zR X none rm_Model_listFrom h0 none p.2) : ∀ n : Nat, ∀ (x0 : Nat) (x1 : Int32) (x2 : Int32) (x3 : Int64) (x5 : Int32) (h : zH), f_Model_listFrom_3 N n x0 x1 x2 x3 x5 h = some p → Zt X 6 0 0 3 [(0, .ref x0), (1, .int x1), (2, .int x2), (3, .long x3), (5, .int x5)] [] h := by
  intro n
  induction n with
  | zero => intro x0 x1 x2 x3 x5 h hf; cases hf
  | succ n ih =>
  intro x0 x1 x2 x3 x5 h hf
  have H3 := ih
  replace hf : b_Model_listFrom_3 N (f_Model_listFrom_3 N n) x0 x1 x2 x3 x5 h = some p := hf
  unfold b_Model_listFrom_3 at hf
  refine z_iload C 4 d_Model_listFrom_3 rfl ?_
  refine z_aload_n C 0 d_Model_listFrom_5 rfl rfl ?_
  refine z_getR C 0 18 rfl in_Model (by decide) w_759 rfl d_Model_listFrom_6 hf (fun v1 hf => ?_)
  refine z_iload_n C 2 d_Model_listFrom_9 rfl rfl ?_
  refine z_iald C d_Model_listFrom_10 hf (fun v2 hf => ?_)
  refine z_ic_ge (tgt := 57) C d_Model_listFrom_11 (by decide) hf (fun hf => ?_) (fun hf => ?_)
  · exact z_vret C E (Nat.le_of_ble_eq_true rfl) (Nat.le_of_ble_eq_true rfl) d_Model_listFrom_57 hf
  · refine z_aload_n C 0 d_Model_listFrom_14 rfl rfl ?_
    refine z_getR C 0 18 rfl in_Model (by decide) w_759 rfl d_Model_listFrom_15 hf (fun v3 hf => ?_)
    refine z_iload_n C 1 d_Model_listFrom_18 rfl rfl ?_
    refine z_aload_n C 0 d_Model_listFrom_19 rfl rfl ?_
    refine z_getR C 0 17 rfl in_Model (by decide) w_758 rfl d_Model_listFrom_20 hf (fun v4 hf => ?_)
    refine z_bipush C (v := (6 : Int32)) d_Model_listFrom_23 (by decide) ?_
    refine z_iload_n C 1 d_Model_listFrom_25 rfl rfl ?_
    refine z_imul C d_Model_listFrom_26 ?_
    refine z_aload_n C 0 d_Model_listFrom_27 rfl rfl ?_
    refine z_getR C 0 18 rfl in_Model (by decide) w_759 rfl d_Model_listFrom_28 hf (fun v5 hf => ?_)
    refine z_iload_n C 1 d_Model_listFrom_31 rfl rfl ?_
    refine z_iald C d_Model_listFrom_32 hf (fun v6 hf => ?_)
    refine z_aload_n C 0 d_Model_listFrom_33 rfl rfl ?_
    refine z_getR C 0 17 rfl in_Model (by decide) w_758 rfl d_Model_listFrom_34 hf (fun v7 hf => ?_)
    refine z_bipush C (v := (6 : Int32)) d_Model_listFrom_37 (by decide) ?_
    refine z_iload_n C 2 d_Model_listFrom_39 rfl rfl ?_
    refine z_imul C d_Model_listFrom_40 ?_
    refine z_iload C 4 d_Model_listFrom_41 rfl ?_
    refine z_iadd C d_Model_listFrom_43 ?_
    refine z_lald C d_Model_listFrom_44 hf (fun v8 hf => ?_)
    refine z_lload_n C 3 d_Model_listFrom_45 rfl rfl ?_
    refine z_ladd C d_Model_listFrom_46 ?_
    obtain ⟨p9, hc, hf⟩ := Option.bind_eq_some_iff.mp hf
    refine z_callS C (c_Model_insert N C.2.2.1 hc) w_983 w_66 w_981 w_982 pd_Model_insert rfl ⟨(Nat.le_of_ble_eq_true rfl), (Nat.le_of_ble_eq_true rfl)⟩ ⟨(Nat.le_of_ble_eq_true rfl), (Nat.le_of_ble_eq_true rfl)⟩ rfl (Nat.le_of_ble_eq_true rfl) d_Model_listFrom_47 (k' := 0) (n' := 0) (stk' := [.int p9.1, .int x1, .ref v3]) rfl rfl rfl ?_
    refine z_iast C d_Model_listFrom_50 hf (fun h10 hf => ?_)
    refine z_iinc C (v := (x5 + (1 : Int32))) (lv' := [(5, .int (x5 + (1 : Int32))), (0, .ref x0), (1, .int x1), (2, .int x2), (3, .long x3)]) 4 d_Model_listFrom_51 rfl (by rfl) (by decide) rfl ?_
    refine z_goto (tgt := 3) C d_Model_listFrom_54 (by decide) ?_
    refine z_sub [1, 2, 3, 4, 0] rfl ?_
    exact H3 _ _ _ _ _ _ hf

set_option maxHeartbeats 4000000 in
set_option maxRecDepth 100000 in
theorem k_Model_listFrom (N : Nat) {X : zX} (C : zB X prog_10_method_32_code 6 R_Model rm_Model_listFrom) {h0 : zH} {p : Unit × zH} (E : zR X none rm_Model_listFrom h0 none p.2) : ∀ (x0 : Nat) (x1 : Int32) (x2 : Int32) (x3 : Int64) (h : zH), f_Model_listFrom N x0 x1 x2 x3 h = some p → Zt X 6 0 0 0 [(0, .ref x0), (1, .int x1), (2, .int x2), (3, .long x3)] [] h := by
  intro x0 x1 x2 x3 h hf
  unfold f_Model_listFrom at hf
  refine z_iconst C (v := (0 : Int32)) d_Model_listFrom_0 (by decide) ?_
  refine z_istore C (lv' := [(5, .int (0 : Int32)), (0, .ref x0), (1, .int x1), (2, .int x2), (3, .long x3)]) d_Model_listFrom_1 (by decide) rfl ?_
  refine z_sub [1, 2, 3, 4, 0] rfl ?_
  exact k_Model_listFrom_3 N C E N _ _ _ _ _ _ hf

theorem c_Model_listFrom (N : Nat) {l : Launch} {D : va_G} {T : List (ClassId × FieldType)} (hT : T.map (fun q => q.2) = ztl) {x0 : Nat} {x1 : Int32} {x2 : Int32} {x3 : Int64} {h : zH} {p : Unit × zH} (hf : f_Model_listFrom N x0 x1 x2 x3 h = some p) : zM l y_Model_listFrom prog_10_method_32_code 6 none rm_Model_listFrom D T [.ref x0, .int x1, .int x2, .long x3] h none p.2 :=
  z_enter (by decide) hT (Nat.le_of_ble_eq_true rfl) (fun X el eD eT hin C E => k_Model_listFrom N C E x0 x1 x2 x3 h hf)
/-! ===== LevelTablesModel.curve(II)I ===== -/
abbrev y_Model_curve : MethodName := ⟨R_Model, "curve", "(II)I"⟩
theorem pd_Model_curve : y_Model_curve.cls ≠ "java/lang/invoke/MethodHandle" ∧ y_Model_curve.cls ≠ "java/lang/invoke/VarHandle" ∧ (parseMethodDescriptor y_Model_curve.desc).map (fun d => d.parameters.length) = some 2 := ⟨by decide +kernel, by decide +kernel, by decide +kernel⟩
abbrev rm_Model_curve : Room := { frames := 1, cells := 0, slots := 0, locals := 23 }
def f_Model_curve_198 (N : Nat) (x0 : Nat) (x1 : Int32) (x2 : Int32) (h : zH) : Option (Int32 × zH) :=
  Option.bind (zgR h x0 0 28) fun (v1 : Nat) =>
  Option.bind (zsI h 0 v1 x1 x2) fun (h2 : zH) =>
  Option.bind (zck (zis h2 x0 0) (f_Model_curves N x0  h2)) fun (p3 : Int32 × zH) =>
  some (p3.1, p3.2)
def f_Model_curve_90 (N : Nat)  (h : zH) : Option (Int32 × zH) :=
  some ((-5 : Int32), h)
def f_Model_curve_195 (N : Nat)  (h : zH) : Option (Int32 × zH) :=
  some ((-3 : Int32), h)
def f_Model_curve_168 (N : Nat) (x0 : Nat) (x1 : Int32) (x2 : Int32) (h : zH) : Option (Int32 × zH) :=
  Option.bind (zgR h x0 0 28) fun (v4 : Nat) =>
  Option.bind (zaI h 0 v4 (x1 + (1 : Int32))) fun (v5 : Int32) =>
  (if v5 ≤ 0 then
    f_Model_curve_198 N x0 x1 x2 h
  else
    Option.bind (zgR h x0 0 28) fun (v6 : Nat) =>
    Option.bind (zaI h 0 v6 (x1 + (1 : Int32))) fun (v7 : Int32) =>
    (if (x2 + v7) ≤ (1000 : Int32) then
      f_Model_curve_198 N x0 x1 x2 h
    else
      f_Model_curve_195 N  h))
def f_Model_curve_122 (N : Nat) (x0 : Nat) (x1 : Int32) (x2 : Int32) (x3 : Int32) (x4 : Int32) (h : zH) : Option (Int32 × zH) :=
  Option.bind (f_Model_size N (x4 - x3) h) fun (p8 : Int32 × zH) =>
  Option.bind (zgI p8.2 x0 0 29) fun (v9 : Int32) =>
  (if (p8.1 * v9) ≤ x2 then
    Option.bind (zgR p8.2 x0 0 28) fun (v10 : Nat) =>
    Option.bind (zaI p8.2 0 v10 (x1 - (1 : Int32))) fun (v11 : Int32) =>
    (if v11 ≤ 0 then
      f_Model_curve_168 N x0 x1 x2 p8.2
    else
      Option.bind (zgR p8.2 x0 0 28) fun (v12 : Nat) =>
      Option.bind (zaI p8.2 0 v12 (x1 - (1 : Int32))) fun (v13 : Int32) =>
      (if (1000 : Int32) < (x2 + v13) then
        f_Model_curve_195 N  p8.2
      else
        f_Model_curve_168 N x0 x1 x2 p8.2))
  else
    some ((-2 : Int32), p8.2))
def f_Model_curve_113 (N : Nat) (x0 : Nat) (x1 : Int32) (x2 : Int32) (x3 : Int32) (x4 : Int32) (h : zH) : Option (Int32 × zH) :=
  (if x3 = x4 then
    f_Model_curve_122 N x0 x1 x2 x3 x4 h
  else
    some ((-4 : Int32), h))
def f_Model_curve (N : Nat) (x0 : Nat) (x1 : Int32) (x2 : Int32) (h : zH) : Option (Int32 × zH) :=
  Option.bind (zgI h x0 0 24) fun (v14 : Int32) =>
  (if v14 = 0 then
    some ((-1 : Int32), h)
  else
    (if x1 < (1 : Int32) then
      some ((-1 : Int32), h)
    else
      Option.bind (zgI h x0 0 0) fun (v15 : Int32) =>
      (if (v15 - (1 : Int32)) < x1 then
        some ((-1 : Int32), h)
      else
        (if x2 < 0 then
          some ((-1 : Int32), h)
        else
          (if x2 ≤ (1000 : Int32) then
            (if x2 ≤ 0 then
              f_Model_curve_198 N x0 x1 x2 h
            else
              Option.bind (zgR h x0 0 25) fun (v16 : Nat) =>
              Option.bind (zaI h 0 v16 x1) fun (v17 : Int32) =>
              Option.bind (zgR h x0 0 25) fun (v18 : Nat) =>
              Option.bind (zaI h 0 v18 (x1 - (1 : Int32))) fun (v19 : Int32) =>
              Option.bind (zgR h x0 0 25) fun (v20 : Nat) =>
              Option.bind (zaI h 0 v20 (x1 + (1 : Int32))) fun (v21 : Int32) =>
              Option.bind (zgR h x0 0 25) fun (v22 : Nat) =>
              Option.bind (zaI h 0 v22 x1) fun (v23 : Int32) =>
              Option.bind (zck (zis h x0 0) (f_Model_isSpanned N x0 (x1 - (1 : Int32)) h)) fun (p24 : Int32 × zH) =>
              (if p24.1 = 0 then
                Option.bind (zck (zis p24.2 x0 0) (f_Model_isSpanned N x0 x1 p24.2)) fun (p25 : Int32 × zH) =>
                (if p25.1 = 0 then
                  Option.bind (zgR p25.2 x0 0 5) fun (v26 : Nat) =>
                  Option.bind (zaI p25.2 0 v26 x1) fun (v27 : Int32) =>
                  (if v27 = (-1 : Int32) then
                    Option.bind (zgR p25.2 x0 0 6) fun (v28 : Nat) =>
                    Option.bind (zaI p25.2 0 v28 x1) fun (v29 : Int32) =>
                    (if v29 = (-1 : Int32) then
                      f_Model_curve_122 N x0 x1 x2 (v17 - v19) (v21 - v23) p25.2
                    else
                      f_Model_curve_113 N x0 x1 x2 (v17 - v19) (v21 - v23) p25.2)
                  else
                    f_Model_curve_113 N x0 x1 x2 (v17 - v19) (v21 - v23) p25.2)
                else
                  f_Model_curve_90 N  p25.2)
              else
                f_Model_curve_90 N  p24.2))
          else
            some ((-1 : Int32), h))))))
theorem d_Model_curve_0 : decode prog_10_method_39_code 0 = .ok (.aload_n (0), 1) := by decide +kernel
theorem d_Model_curve_1 : decode prog_10_method_39_code 1 = .ok (.getfield (95), 3) := by decide +kernel
theorem d_Model_curve_4 : decode prog_10_method_39_code 4 = .ok (.ifCond .eq (29), 3) := by decide +kernel
theorem d_Model_curve_7 : decode prog_10_method_39_code 7 = .ok (.iload_n (1), 1) := by decide +kernel
theorem d_Model_curve_8 : decode prog_10_method_39_code 8 = .ok (.iconst (1), 1) := by decide +kernel
theorem d_Model_curve_9 : decode prog_10_method_39_code 9 = .ok (.if_icmp .lt (24), 3) := by decide +kernel
theorem d_Model_curve_12 : decode prog_10_method_39_code 12 = .ok (.iload_n (1), 1) := by decide +kernel
theorem d_Model_curve_13 : decode prog_10_method_39_code 13 = .ok (.aload_n (0), 1) := by decide +kernel
theorem d_Model_curve_14 : decode prog_10_method_39_code 14 = .ok (.getfield (89), 3) := by decide +kernel
theorem d_Model_curve_17 : decode prog_10_method_39_code 17 = .ok (.iconst (1), 1) := by decide +kernel
theorem d_Model_curve_18 : decode prog_10_method_39_code 18 = .ok (.isub, 1) := by decide +kernel
theorem d_Model_curve_19 : decode prog_10_method_39_code 19 = .ok (.if_icmp .gt (14), 3) := by decide +kernel
theorem d_Model_curve_22 : decode prog_10_method_39_code 22 = .ok (.iload_n (2), 1) := by decide +kernel
theorem d_Model_curve_23 : decode prog_10_method_39_code 23 = .ok (.ifCond .lt (10), 3) := by decide +kernel
theorem d_Model_curve_26 : decode prog_10_method_39_code 26 = .ok (.iload_n (2), 1) := by decide +kernel
theorem d_Model_curve_27 : decode prog_10_method_39_code 27 = .ok (.sipush (1000), 3) := by decide +kernel
theorem d_Model_curve_30 : decode prog_10_method_39_code 30 = .ok (.if_icmp .le (5), 3) := by decide +kernel
theorem d_Model_curve_33 : decode prog_10_method_39_code 33 = .ok (.iconst (-1), 1) := by decide +kernel
theorem d_Model_curve_34 : decode prog_10_method_39_code 34 = .ok (.ireturn, 1) := by decide +kernel
theorem d_Model_curve_35 : decode prog_10_method_39_code 35 = .ok (.iload_n (2), 1) := by decide +kernel
theorem d_Model_curve_36 : decode prog_10_method_39_code 36 = .ok (.ifCond .le (162), 3) := by decide +kernel
theorem d_Model_curve_39 : decode prog_10_method_39_code 39 = .ok (.aload_n (0), 1) := by decide +kernel
theorem d_Model_curve_40 : decode prog_10_method_39_code 40 = .ok (.getfield (68), 3) := by decide +kernel
theorem d_Model_curve_43 : decode prog_10_method_39_code 43 = .ok (.iload_n (1), 1) := by decide +kernel
theorem d_Model_curve_44 : decode prog_10_method_39_code 44 = .ok (.iaload, 1) := by decide +kernel
theorem d_Model_curve_45 : decode prog_10_method_39_code 45 = .ok (.aload_n (0), 1) := by decide +kernel
theorem d_Model_curve_46 : decode prog_10_method_39_code 46 = .ok (.getfield (68), 3) := by decide +kernel
theorem d_Model_curve_49 : decode prog_10_method_39_code 49 = .ok (.iload_n (1), 1) := by decide +kernel
theorem d_Model_curve_50 : decode prog_10_method_39_code 50 = .ok (.iconst (1), 1) := by decide +kernel
theorem d_Model_curve_51 : decode prog_10_method_39_code 51 = .ok (.isub, 1) := by decide +kernel
theorem d_Model_curve_52 : decode prog_10_method_39_code 52 = .ok (.iaload, 1) := by decide +kernel
theorem d_Model_curve_53 : decode prog_10_method_39_code 53 = .ok (.isub, 1) := by decide +kernel
theorem d_Model_curve_54 : decode prog_10_method_39_code 54 = .ok (.istore_n (3), 1) := by decide +kernel
theorem d_Model_curve_55 : decode prog_10_method_39_code 55 = .ok (.aload_n (0), 1) := by decide +kernel
theorem d_Model_curve_56 : decode prog_10_method_39_code 56 = .ok (.getfield (68), 3) := by decide +kernel
theorem d_Model_curve_59 : decode prog_10_method_39_code 59 = .ok (.iload_n (1), 1) := by decide +kernel
theorem d_Model_curve_60 : decode prog_10_method_39_code 60 = .ok (.iconst (1), 1) := by decide +kernel
theorem d_Model_curve_61 : decode prog_10_method_39_code 61 = .ok (.iadd, 1) := by decide +kernel
theorem d_Model_curve_62 : decode prog_10_method_39_code 62 = .ok (.iaload, 1) := by decide +kernel
theorem d_Model_curve_63 : decode prog_10_method_39_code 63 = .ok (.aload_n (0), 1) := by decide +kernel
theorem d_Model_curve_64 : decode prog_10_method_39_code 64 = .ok (.getfield (68), 3) := by decide +kernel
theorem d_Model_curve_67 : decode prog_10_method_39_code 67 = .ok (.iload_n (1), 1) := by decide +kernel
theorem d_Model_curve_68 : decode prog_10_method_39_code 68 = .ok (.iaload, 1) := by decide +kernel
theorem d_Model_curve_69 : decode prog_10_method_39_code 69 = .ok (.isub, 1) := by decide +kernel
theorem d_Model_curve_70 : decode prog_10_method_39_code 70 = .ok (.istore (4), 2) := by decide +kernel
theorem d_Model_curve_72 : decode prog_10_method_39_code 72 = .ok (.aload_n (0), 1) := by decide +kernel
theorem d_Model_curve_73 : decode prog_10_method_39_code 73 = .ok (.iload_n (1), 1) := by decide +kernel
theorem d_Model_curve_74 : decode prog_10_method_39_code 74 = .ok (.iconst (1), 1) := by decide +kernel
theorem d_Model_curve_75 : decode prog_10_method_39_code 75 = .ok (.isub, 1) := by decide +kernel
theorem d_Model_curve_76 : decode prog_10_method_39_code 76 = .ok (.invokevirtual (209), 3) := by decide +kernel
theorem d_Model_curve_79 : decode prog_10_method_39_code 79 = .ok (.ifCond .ne (11), 3) := by decide +kernel
theorem d_Model_curve_82 : decode prog_10_method_39_code 82 = .ok (.aload_n (0), 1) := by decide +kernel
theorem d_Model_curve_83 : decode prog_10_method_39_code 83 = .ok (.iload_n (1), 1) := by decide +kernel
theorem d_Model_curve_84 : decode prog_10_method_39_code 84 = .ok (.invokevirtual (209), 3) := by decide +kernel
theorem d_Model_curve_87 : decode prog_10_method_39_code 87 = .ok (.ifCond .eq (6), 3) := by decide +kernel
theorem d_Model_curve_90 : decode prog_10_method_39_code 90 = .ok (.bipush (-5), 2) := by decide +kernel
theorem d_Model_curve_92 : decode prog_10_method_39_code 92 = .ok (.ireturn, 1) := by decide +kernel
theorem d_Model_curve_93 : decode prog_10_method_39_code 93 = .ok (.aload_n (0), 1) := by decide +kernel
theorem d_Model_curve_94 : decode prog_10_method_39_code 94 = .ok (.getfield (19), 3) := by decide +kernel
theorem d_Model_curve_97 : decode prog_10_method_39_code 97 = .ok (.iload_n (1), 1) := by decide +kernel
theorem d_Model_curve_98 : decode prog_10_method_39_code 98 = .ok (.iaload, 1) := by decide +kernel
theorem d_Model_curve_99 : decode prog_10_method_39_code 99 = .ok (.iconst (-1), 1) := by decide +kernel
theorem d_Model_curve_100 : decode prog_10_method_39_code 100 = .ok (.if_icmp .ne (13), 3) := by decide +kernel
theorem d_Model_curve_103 : decode prog_10_method_39_code 103 = .ok (.aload_n (0), 1) := by decide +kernel
theorem d_Model_curve_104 : decode prog_10_method_39_code 104 = .ok (.getfield (22), 3) := by decide +kernel
theorem d_Model_curve_107 : decode prog_10_method_39_code 107 = .ok (.iload_n (1), 1) := by decide +kernel
theorem d_Model_curve_108 : decode prog_10_method_39_code 108 = .ok (.iaload, 1) := by decide +kernel
theorem d_Model_curve_109 : decode prog_10_method_39_code 109 = .ok (.iconst (-1), 1) := by decide +kernel
theorem d_Model_curve_110 : decode prog_10_method_39_code 110 = .ok (.if_icmp .eq (12), 3) := by decide +kernel
theorem d_Model_curve_113 : decode prog_10_method_39_code 113 = .ok (.iload_n (3), 1) := by decide +kernel
theorem d_Model_curve_114 : decode prog_10_method_39_code 114 = .ok (.iload (4), 2) := by decide +kernel
theorem d_Model_curve_116 : decode prog_10_method_39_code 116 = .ok (.if_icmp .eq (6), 3) := by decide +kernel
theorem d_Model_curve_119 : decode prog_10_method_39_code 119 = .ok (.bipush (-4), 2) := by decide +kernel
theorem d_Model_curve_121 : decode prog_10_method_39_code 121 = .ok (.ireturn, 1) := by decide +kernel
theorem d_Model_curve_122 : decode prog_10_method_39_code 122 = .ok (.iload_n (2), 1) := by decide +kernel
theorem d_Model_curve_123 : decode prog_10_method_39_code 123 = .ok (.iload (4), 2) := by decide +kernel
theorem d_Model_curve_125 : decode prog_10_method_39_code 125 = .ok (.iload_n (3), 1) := by decide +kernel
theorem d_Model_curve_126 : decode prog_10_method_39_code 126 = .ok (.isub, 1) := by decide +kernel
theorem d_Model_curve_127 : decode prog_10_method_39_code 127 = .ok (.invokestatic (129), 3) := by decide +kernel
theorem d_Model_curve_130 : decode prog_10_method_39_code 130 = .ok (.aload_n (0), 1) := by decide +kernel
theorem d_Model_curve_131 : decode prog_10_method_39_code 131 = .ok (.getfield (206), 3) := by decide +kernel
theorem d_Model_curve_134 : decode prog_10_method_39_code 134 = .ok (.imul, 1) := by decide +kernel
theorem d_Model_curve_135 : decode prog_10_method_39_code 135 = .ok (.if_icmp .ge (6), 3) := by decide +kernel
theorem d_Model_curve_138 : decode prog_10_method_39_code 138 = .ok (.bipush (-2), 2) := by decide +kernel
theorem d_Model_curve_140 : decode prog_10_method_39_code 140 = .ok (.ireturn, 1) := by decide +kernel
theorem d_Model_curve_141 : decode prog_10_method_39_code 141 = .ok (.aload_n (0), 1) := by decide +kernel
theorem d_Model_curve_142 : decode prog_10_method_39_code 142 = .ok (.getfield (71), 3) := by decide +kernel
theorem d_Model_curve_145 : decode prog_10_method_39_code 145 = .ok (.iload_n (1), 1) := by decide +kernel
theorem d_Model_curve_146 : decode prog_10_method_39_code 146 = .ok (.iconst (1), 1) := by decide +kernel
theorem d_Model_curve_147 : decode prog_10_method_39_code 147 = .ok (.isub, 1) := by decide +kernel
theorem d_Model_curve_148 : decode prog_10_method_39_code 148 = .ok (.iaload, 1) := by decide +kernel
theorem d_Model_curve_149 : decode prog_10_method_39_code 149 = .ok (.ifCond .le (19), 3) := by decide +kernel
theorem d_Model_curve_152 : decode prog_10_method_39_code 152 = .ok (.iload_n (2), 1) := by decide +kernel
theorem d_Model_curve_153 : decode prog_10_method_39_code 153 = .ok (.aload_n (0), 1) := by decide +kernel
theorem d_Model_curve_154 : decode prog_10_method_39_code 154 = .ok (.getfield (71), 3) := by decide +kernel
theorem d_Model_curve_157 : decode prog_10_method_39_code 157 = .ok (.iload_n (1), 1) := by decide +kernel
theorem d_Model_curve_158 : decode prog_10_method_39_code 158 = .ok (.iconst (1), 1) := by decide +kernel
theorem d_Model_curve_159 : decode prog_10_method_39_code 159 = .ok (.isub, 1) := by decide +kernel
theorem d_Model_curve_160 : decode prog_10_method_39_code 160 = .ok (.iaload, 1) := by decide +kernel
theorem d_Model_curve_161 : decode prog_10_method_39_code 161 = .ok (.iadd, 1) := by decide +kernel
theorem d_Model_curve_162 : decode prog_10_method_39_code 162 = .ok (.sipush (1000), 3) := by decide +kernel
theorem d_Model_curve_165 : decode prog_10_method_39_code 165 = .ok (.if_icmp .gt (30), 3) := by decide +kernel
theorem d_Model_curve_168 : decode prog_10_method_39_code 168 = .ok (.aload_n (0), 1) := by decide +kernel
theorem d_Model_curve_169 : decode prog_10_method_39_code 169 = .ok (.getfield (71), 3) := by decide +kernel
theorem d_Model_curve_172 : decode prog_10_method_39_code 172 = .ok (.iload_n (1), 1) := by decide +kernel
theorem d_Model_curve_173 : decode prog_10_method_39_code 173 = .ok (.iconst (1), 1) := by decide +kernel
theorem d_Model_curve_174 : decode prog_10_method_39_code 174 = .ok (.iadd, 1) := by decide +kernel
theorem d_Model_curve_175 : decode prog_10_method_39_code 175 = .ok (.iaload, 1) := by decide +kernel
theorem d_Model_curve_176 : decode prog_10_method_39_code 176 = .ok (.ifCond .le (22), 3) := by decide +kernel
theorem d_Model_curve_179 : decode prog_10_method_39_code 179 = .ok (.iload_n (2), 1) := by decide +kernel
theorem d_Model_curve_180 : decode prog_10_method_39_code 180 = .ok (.aload_n (0), 1) := by decide +kernel
theorem d_Model_curve_181 : decode prog_10_method_39_code 181 = .ok (.getfield (71), 3) := by decide +kernel
theorem d_Model_curve_184 : decode prog_10_method_39_code 184 = .ok (.iload_n (1), 1) := by decide +kernel
theorem d_Model_curve_185 : decode prog_10_method_39_code 185 = .ok (.iconst (1), 1) := by decide +kernel
theorem d_Model_curve_186 : decode prog_10_method_39_code 186 = .ok (.iadd, 1) := by decide +kernel
theorem d_Model_curve_187 : decode prog_10_method_39_code 187 = .ok (.iaload, 1) := by decide +kernel
theorem d_Model_curve_188 : decode prog_10_method_39_code 188 = .ok (.iadd, 1) := by decide +kernel
theorem d_Model_curve_189 : decode prog_10_method_39_code 189 = .ok (.sipush (1000), 3) := by decide +kernel
theorem d_Model_curve_192 : decode prog_10_method_39_code 192 = .ok (.if_icmp .le (6), 3) := by decide +kernel
theorem d_Model_curve_195 : decode prog_10_method_39_code 195 = .ok (.bipush (-3), 2) := by decide +kernel
theorem d_Model_curve_197 : decode prog_10_method_39_code 197 = .ok (.ireturn, 1) := by decide +kernel
theorem d_Model_curve_198 : decode prog_10_method_39_code 198 = .ok (.aload_n (0), 1) := by decide +kernel
theorem d_Model_curve_199 : decode prog_10_method_39_code 199 = .ok (.getfield (71), 3) := by decide +kernel
theorem d_Model_curve_202 : decode prog_10_method_39_code 202 = .ok (.iload_n (1), 1) := by decide +kernel
theorem d_Model_curve_203 : decode prog_10_method_39_code 203 = .ok (.iload_n (2), 1) := by decide +kernel
theorem d_Model_curve_204 : decode prog_10_method_39_code 204 = .ok (.iastore, 1) := by decide +kernel
theorem d_Model_curve_205 : decode prog_10_method_39_code 205 = .ok (.aload_n (0), 1) := by decide +kernel
theorem d_Model_curve_206 : decode prog_10_method_39_code 206 = .ok (.invokevirtual (212), 3) := by decide +kernel
theorem d_Model_curve_209 : decode prog_10_method_39_code 209 = .ok (.ireturn, 1) := by decide +kernel
set_option maxHeartbeats 4000000 in
set_option maxRecDepth 100000 in
theorem k_Model_curve_198 (N : Nat) {X : zX} (C : zB X prog_10_method_39_code 5 R_Model rm_Model_curve) {h0 : zH} {p : Int32 × zH} (E : zR X (some .int) rm_Model_curve h0 (some (.int p.1)) p.2) : ∀ (x0 : Nat) (x1 : Int32) (x2 : Int32) (h : zH), f_Model_curve_198 N x0 x1 x2 h = some p → Zt X 5 0 0 198 [(0, .ref x0), (1, .int x1), (2, .int x2)] [] h := by
  intro x0 x1 x2 h hf
  unfold f_Model_curve_198 at hf
  refine z_aload_n C 0 d_Model_curve_198 rfl rfl ?_
  refine z_getR C 0 28 rfl in_Model (by decide) w_769 rfl d_Model_curve_199 hf (fun v1 hf => ?_)
  refine z_iload_n C 1 d_Model_curve_202 rfl rfl ?_
  refine z_iload_n C 2 d_Model_curve_203 rfl rfl ?_
  refine z_iast C d_Model_curve_204 hf (fun h2 hf => ?_)
  refine z_aload_n C 0 d_Model_curve_205 rfl rfl ?_
  obtain ⟨p3, hc, hf⟩ := Option.bind_eq_some_iff.mp hf
  obtain ⟨hz, hc⟩ := zck_some hc
  refine z_callV C (ci := 0) (c_Model_curves N C.2.2.1 hc) rfl hz w_999 w_66 w_996 w_998 w_52 pd_Model_curves rfl ⟨(Nat.le_of_ble_eq_true rfl), (Nat.le_of_ble_eq_true rfl)⟩ ⟨(Nat.le_of_ble_eq_true rfl), (Nat.le_of_ble_eq_true rfl)⟩ rfl (Nat.le_of_ble_eq_true rfl) d_Model_curve_206 (k' := 0) (n' := 0) (stk' := [.int p3.1]) rfl rfl rfl ?_
  exact z_iret C E (Nat.le_of_ble_eq_true rfl) (Nat.le_of_ble_eq_true rfl) d_Model_curve_209 hf

set_option maxHeartbeats 4000000 in
set_option maxRecDepth 100000 in
theorem k_Model_curve_90 (N : Nat) {X : zX} (C : zB X prog_10_method_39_code 5 R_Model rm_Model_curve) {h0 : zH} {p : Int32 × zH} (E : zR X (some .int) rm_Model_curve h0 (some (.int p.1)) p.2) : ∀  (h : zH), f_Model_curve_90 N  h = some p → Zt X 5 0 0 90 [] [] h := by
  intro  h hf
  unfold f_Model_curve_90 at hf
  refine z_bipush C (v := (-5 : Int32)) d_Model_curve_90 (by decide) ?_
  exact z_iret C E (Nat.le_of_ble_eq_true rfl) (Nat.le_of_ble_eq_true rfl) d_Model_curve_92 hf

set_option maxHeartbeats 4000000 in
set_option maxRecDepth 100000 in
theorem k_Model_curve_195 (N : Nat) {X : zX} (C : zB X prog_10_method_39_code 5 R_Model rm_Model_curve) {h0 : zH} {p : Int32 × zH} (E : zR X (some .int) rm_Model_curve h0 (some (.int p.1)) p.2) : ∀  (h : zH), f_Model_curve_195 N  h = some p → Zt X 5 0 0 195 [] [] h := by
  intro  h hf
  unfold f_Model_curve_195 at hf
  refine z_bipush C (v := (-3 : Int32)) d_Model_curve_195 (by decide) ?_
  exact z_iret C E (Nat.le_of_ble_eq_true rfl) (Nat.le_of_ble_eq_true rfl) d_Model_curve_197 hf

set_option maxHeartbeats 4000000 in
set_option maxRecDepth 100000 in
theorem k_Model_curve_168 (N : Nat) {X : zX} (C : zB X prog_10_method_39_code 5 R_Model rm_Model_curve) {h0 : zH} {p : Int32 × zH} (E : zR X (some .int) rm_Model_curve h0 (some (.int p.1)) p.2) : ∀ (x0 : Nat) (x1 : Int32) (x2 : Int32) (h : zH), f_Model_curve_168 N x0 x1 x2 h = some p → Zt X 5 0 0 168 [(0, .ref x0), (1, .int x1), (2, .int x2)] [] h := by
  intro x0 x1 x2 h hf
  unfold f_Model_curve_168 at hf
  refine z_aload_n C 0 d_Model_curve_168 rfl rfl ?_
  refine z_getR C 0 28 rfl in_Model (by decide) w_769 rfl d_Model_curve_169 hf (fun v4 hf => ?_)
  refine z_iload_n C 1 d_Model_curve_172 rfl rfl ?_
  refine z_iconst C (v := (1 : Int32)) d_Model_curve_173 (by decide) ?_
  refine z_iadd C d_Model_curve_174 ?_
  refine z_iald C d_Model_curve_175 hf (fun v5 hf => ?_)
  refine z_if_le (tgt := 198) C d_Model_curve_176 (by decide) hf (fun hf => ?_) (fun hf => ?_)
  · refine z_sub [0, 1, 2] rfl ?_
    exact k_Model_curve_198 N C E _ _ _ _ hf
  · refine z_iload_n C 2 d_Model_curve_179 rfl rfl ?_
    refine z_aload_n C 0 d_Model_curve_180 rfl rfl ?_
    refine z_getR C 0 28 rfl in_Model (by decide) w_769 rfl d_Model_curve_181 hf (fun v6 hf => ?_)
    refine z_iload_n C 1 d_Model_curve_184 rfl rfl ?_
    refine z_iconst C (v := (1 : Int32)) d_Model_curve_185 (by decide) ?_
    refine z_iadd C d_Model_curve_186 ?_
    refine z_iald C d_Model_curve_187 hf (fun v7 hf => ?_)
    refine z_iadd C d_Model_curve_188 ?_
    refine z_sipush C (v := (1000 : Int32)) d_Model_curve_189 (by decide) ?_
    refine z_ic_le (tgt := 198) C d_Model_curve_192 (by decide) hf (fun hf => ?_) (fun hf => ?_)
    · refine z_sub [0, 1, 2] rfl ?_
      exact k_Model_curve_198 N C E _ _ _ _ hf
    · refine z_sub [] rfl ?_
      exact k_Model_curve_195 N C E  _ hf

set_option maxHeartbeats 4000000 in
set_option maxRecDepth 100000 in
theorem k_Model_curve_122 (N : Nat) {X : zX} (C : zB X prog_10_method_39_code 5 R_Model rm_Model_curve) {h0 : zH} {p : Int32 × zH} (E : zR X (some .int) rm_Model_curve h0 (some (.int p.1)) p.2) : ∀ (x0 : Nat) (x1 : Int32) (x2 : Int32) (x3 : Int32) (x4 : Int32) (h : zH), f_Model_curve_122 N x0 x1 x2 x3 x4 h = some p → Zt X 5 0 0 122 [(0, .ref x0), (1, .int x1), (2, .int x2), (3, .int x3), (4, .int x4)] [] h := by
  intro x0 x1 x2 x3 x4 h hf
  unfold f_Model_curve_122 at hf
  refine z_iload_n C 2 d_Model_curve_122 rfl rfl ?_
  refine z_iload C 4 d_Model_curve_123 rfl ?_
  refine z_iload_n C 3 d_Model_curve_125 rfl rfl ?_
  refine z_isub C d_Model_curve_126 ?_
  obtain ⟨p8, hc, hf⟩ := Option.bind_eq_some_iff.mp hf
  refine z_callS C (c_Model_size N C.2.2.1 hc) w_912 w_66 w_910 w_911 pd_Model_size rfl ⟨(Nat.le_of_ble_eq_true rfl), (Nat.le_of_ble_eq_true rfl)⟩ ⟨(Nat.le_of_ble_eq_true rfl), (Nat.le_of_ble_eq_true rfl)⟩ rfl (Nat.le_of_ble_eq_true rfl) d_Model_curve_127 (k' := 0) (n' := 0) (stk' := [.int p8.1, .int x2]) rfl rfl rfl ?_
  refine z_aload_n C 0 d_Model_curve_130 rfl rfl ?_
  refine z_getI C 0 29 rfl in_Model (by decide) w_770 rfl d_Model_curve_131 hf (fun v9 hf => ?_)
  refine z_imul C d_Model_curve_134 ?_
  refine z_ic_ge (tgt := 141) C d_Model_curve_135 (by decide) hf (fun hf => ?_) (fun hf => ?_)
  · refine z_aload_n C 0 d_Model_curve_141 rfl rfl ?_
    refine z_getR C 0 28 rfl in_Model (by decide) w_769 rfl d_Model_curve_142 hf (fun v10 hf => ?_)
    refine z_iload_n C 1 d_Model_curve_145 rfl rfl ?_
    refine z_iconst C (v := (1 : Int32)) d_Model_curve_146 (by decide) ?_
    refine z_isub C d_Model_curve_147 ?_
    refine z_iald C d_Model_curve_148 hf (fun v11 hf => ?_)
    refine z_if_le (tgt := 168) C d_Model_curve_149 (by decide) hf (fun hf => ?_) (fun hf => ?_)
    · refine z_sub [0, 1, 2] rfl ?_
      exact k_Model_curve_168 N C E _ _ _ _ hf
    · refine z_iload_n C 2 d_Model_curve_152 rfl rfl ?_
      refine z_aload_n C 0 d_Model_curve_153 rfl rfl ?_
      refine z_getR C 0 28 rfl in_Model (by decide) w_769 rfl d_Model_curve_154 hf (fun v12 hf => ?_)
      refine z_iload_n C 1 d_Model_curve_157 rfl rfl ?_
      refine z_iconst C (v := (1 : Int32)) d_Model_curve_158 (by decide) ?_
      refine z_isub C d_Model_curve_159 ?_
      refine z_iald C d_Model_curve_160 hf (fun v13 hf => ?_)
      refine z_iadd C d_Model_curve_161 ?_
      refine z_sipush C (v := (1000 : Int32)) d_Model_curve_162 (by decide) ?_
      refine z_ic_gt (tgt := 195) C d_Model_curve_165 (by decide) hf (fun hf => ?_) (fun hf => ?_)
      · refine z_sub [] rfl ?_
        exact k_Model_curve_195 N C E  _ hf
      · refine z_sub [0, 1, 2] rfl ?_
        exact k_Model_curve_168 N C E _ _ _ _ hf
  · refine z_bipush C (v := (-2 : Int32)) d_Model_curve_138 (by decide) ?_
    exact z_iret C E (Nat.le_of_ble_eq_true rfl) (Nat.le_of_ble_eq_true rfl) d_Model_curve_140 hf

set_option maxHeartbeats 4000000 in
set_option maxRecDepth 100000 in
theorem k_Model_curve_113 (N : Nat) {X : zX} (C : zB X prog_10_method_39_code 5 R_Model rm_Model_curve) {h0 : zH} {p : Int32 × zH} (E : zR X (some .int) rm_Model_curve h0 (some (.int p.1)) p.2) : ∀ (x0 : Nat) (x1 : Int32) (x2 : Int32) (x3 : Int32) (x4 : Int32) (h : zH), f_Model_curve_113 N x0 x1 x2 x3 x4 h = some p → Zt X 5 0 0 113 [(0, .ref x0), (1, .int x1), (2, .int x2), (3, .int x3), (4, .int x4)] [] h := by
  intro x0 x1 x2 x3 x4 h hf
  unfold f_Model_curve_113 at hf
  refine z_iload_n C 3 d_Model_curve_113 rfl rfl ?_
  refine z_iload C 4 d_Model_curve_114 rfl ?_
  refine z_ic_eq (tgt := 122) C d_Model_curve_116 (by decide) hf (fun hf => ?_) (fun hf => ?_)
  · refine z_sub [0, 1, 2, 3, 4] rfl ?_
    exact k_Model_curve_122 N C E _ _ _ _ _ _ hf
  · refine z_bipush C (v := (-4 : Int32)) d_Model_curve_119 (by decide) ?_
    exact z_iret C E (Nat.le_of_ble_eq_true rfl) (Nat.le_of_ble_eq_true rfl) d_Model_curve_121 hf

set_option maxHeartbeats 4000000 in
set_option maxRecDepth 100000 in
theorem k_Model_curve (N : Nat) {X : zX} (C : zB X prog_10_method_39_code 5 R_Model rm_Model_curve) {h0 : zH} {p : Int32 × zH} (E : zR X (some .int) rm_Model_curve h0 (some (.int p.1)) p.2) : ∀ (x0 : Nat) (x1 : Int32) (x2 : Int32) (h : zH), f_Model_curve N x0 x1 x2 h = some p → Zt X 5 0 0 0 [(0, .ref x0), (1, .int x1), (2, .int x2)] [] h := by
  intro x0 x1 x2 h hf
  unfold f_Model_curve at hf
  refine z_aload_n C 0 d_Model_curve_0 rfl rfl ?_
  refine z_getI C 0 24 rfl in_Model (by decide) w_765 rfl d_Model_curve_1 hf (fun v14 hf => ?_)
  refine z_if_eq (tgt := 33) C d_Model_curve_4 (by decide) hf (fun hf => ?_) (fun hf => ?_)
  · refine z_iconst C (v := (-1 : Int32)) d_Model_curve_33 (by decide) ?_
    exact z_iret C E (Nat.le_of_ble_eq_true rfl) (Nat.le_of_ble_eq_true rfl) d_Model_curve_34 hf
  · refine z_iload_n C 1 d_Model_curve_7 rfl rfl ?_
    refine z_iconst C (v := (1 : Int32)) d_Model_curve_8 (by decide) ?_
    refine z_ic_lt (tgt := 33) C d_Model_curve_9 (by decide) hf (fun hf => ?_) (fun hf => ?_)
    · refine z_iconst C (v := (-1 : Int32)) d_Model_curve_33 (by decide) ?_
      exact z_iret C E (Nat.le_of_ble_eq_true rfl) (Nat.le_of_ble_eq_true rfl) d_Model_curve_34 hf
    · refine z_iload_n C 1 d_Model_curve_12 rfl rfl ?_
      refine z_aload_n C 0 d_Model_curve_13 rfl rfl ?_
      refine z_getI C 0 0 rfl in_Model (by decide) w_741 rfl d_Model_curve_14 hf (fun v15 hf => ?_)
      refine z_iconst C (v := (1 : Int32)) d_Model_curve_17 (by decide) ?_
      refine z_isub C d_Model_curve_18 ?_
      refine z_ic_gt (tgt := 33) C d_Model_curve_19 (by decide) hf (fun hf => ?_) (fun hf => ?_)
      · refine z_iconst C (v := (-1 : Int32)) d_Model_curve_33 (by decide) ?_
        exact z_iret C E (Nat.le_of_ble_eq_true rfl) (Nat.le_of_ble_eq_true rfl) d_Model_curve_34 hf
      · refine z_iload_n C 2 d_Model_curve_22 rfl rfl ?_
        refine z_if_lt (tgt := 33) C d_Model_curve_23 (by decide) hf (fun hf => ?_) (fun hf => ?_)
        · refine z_iconst C (v := (-1 : Int32)) d_Model_curve_33 (by decide) ?_
          exact z_iret C E (Nat.le_of_ble_eq_true rfl) (Nat.le_of_ble_eq_true rfl) d_Model_curve_34 hf
        · refine z_iload_n C 2 d_Model_curve_26 rfl rfl ?_
          refine z_sipush C (v := (1000 : Int32)) d_Model_curve_27 (by decide) ?_
          refine z_ic_le (tgt := 35) C d_Model_curve_30 (by decide) hf (fun hf => ?_) (fun hf => ?_)
          · refine z_iload_n C 2 d_Model_curve_35 rfl rfl ?_
            refine z_if_le (tgt := 198) C d_Model_curve_36 (by decide) hf (fun hf => ?_) (fun hf => ?_)
            · refine z_sub [0, 1, 2] rfl ?_
              exact k_Model_curve_198 N C E _ _ _ _ hf
            · refine z_aload_n C 0 d_Model_curve_39 rfl rfl ?_
              refine z_getR C 0 25 rfl in_Model (by decide) w_766 rfl d_Model_curve_40 hf (fun v16 hf => ?_)
              refine z_iload_n C 1 d_Model_curve_43 rfl rfl ?_
              refine z_iald C d_Model_curve_44 hf (fun v17 hf => ?_)
              refine z_aload_n C 0 d_Model_curve_45 rfl rfl ?_
              refine z_getR C 0 25 rfl in_Model (by decide) w_766 rfl d_Model_curve_46 hf (fun v18 hf => ?_)
              refine z_iload_n C 1 d_Model_curve_49 rfl rfl ?_
              refine z_iconst C (v := (1 : Int32)) d_Model_curve_50 (by decide) ?_
              refine z_isub C d_Model_curve_51 ?_
              refine z_iald C d_Model_curve_52 hf (fun v19 hf => ?_)
              refine z_isub C d_Model_curve_53 ?_
              refine z_istore_n C (lv' := [(3, .int (v17 - v19)), (0, .ref x0), (1, .int x1), (2, .int x2)]) d_Model_curve_54 rfl (by decide) rfl ?_
              refine z_aload_n C 1 d_Model_curve_55 rfl rfl ?_
              refine z_getR C 0 25 rfl in_Model (by decide) w_766 rfl d_Model_curve_56 hf (fun v20 hf => ?_)
              refine z_iload_n C 2 d_Model_curve_59 rfl rfl ?_
              refine z_iconst C (v := (1 : Int32)) d_Model_curve_60 (by decide) ?_
              refine z_iadd C d_Model_curve_61 ?_
              refine z_iald C d_Model_curve_62 hf (fun v21 hf => ?_)
              refine z_aload_n C 1 d_Model_curve_63 rfl rfl ?_
              refine z_getR C 0 25 rfl in_Model (by decide) w_766 rfl d_Model_curve_64 hf (fun v22 hf => ?_)
              refine z_iload_n C 2 d_Model_curve_67 rfl rfl ?_
              refine z_iald C d_Model_curve_68 hf (fun v23 hf => ?_)
              refine z_isub C d_Model_curve_69 ?_
              refine z_istore C (lv' := [(4, .int (v21 - v23)), (3, .int (v17 - v19)), (0, .ref x0), (1, .int x1), (2, .int x2)]) d_Model_curve_70 (by decide) rfl ?_
              refine z_aload_n C 2 d_Model_curve_72 rfl rfl ?_
              refine z_iload_n C 3 d_Model_curve_73 rfl rfl ?_
              refine z_iconst C (v := (1 : Int32)) d_Model_curve_74 (by decide) ?_
              refine z_isub C d_Model_curve_75 ?_
              obtain ⟨p24, hc, hf⟩ := Option.bind_eq_some_iff.mp hf
              obtain ⟨hz, hc⟩ := zck_some hc
              refine z_callV C (ci := 0) (c_Model_isSpanned N C.2.2.1 hc) rfl hz w_995 w_66 w_992 w_994 w_51 pd_Model_isSpanned rfl ⟨(Nat.le_of_ble_eq_true rfl), (Nat.le_of_ble_eq_true rfl)⟩ ⟨(Nat.le_of_ble_eq_true rfl), (Nat.le_of_ble_eq_true rfl)⟩ rfl (Nat.le_of_ble_eq_true rfl) d_Model_curve_76 (k' := 0) (n' := 0) (stk' := [.int p24.1]) rfl rfl rfl ?_
              refine z_if_ne (tgt := 90) C d_Model_curve_79 (by decide) hf (fun hf => ?_) (fun hf => ?_)
              · refine z_sub [] rfl ?_
                exact k_Model_curve_90 N C E  _ hf
              · refine z_aload_n C 2 d_Model_curve_82 rfl rfl ?_
                refine z_iload_n C 3 d_Model_curve_83 rfl rfl ?_
                obtain ⟨p25, hc, hf⟩ := Option.bind_eq_some_iff.mp hf
                obtain ⟨hz, hc⟩ := zck_some hc
                refine z_callV C (ci := 0) (c_Model_isSpanned N C.2.2.1 hc) rfl hz w_995 w_66 w_992 w_994 w_51 pd_Model_isSpanned rfl ⟨(Nat.le_of_ble_eq_true rfl), (Nat.le_of_ble_eq_true rfl)⟩ ⟨(Nat.le_of_ble_eq_true rfl), (Nat.le_of_ble_eq_true rfl)⟩ rfl (Nat.le_of_ble_eq_true rfl) d_Model_curve_84 (k' := 0) (n' := 0) (stk' := [.int p25.1]) rfl rfl rfl ?_
                refine z_if_eq (tgt := 93) C d_Model_curve_87 (by decide) hf (fun hf => ?_) (fun hf => ?_)
                · refine z_aload_n C 2 d_Model_curve_93 rfl rfl ?_
                  refine z_getR C 0 5 rfl in_Model (by decide) w_746 rfl d_Model_curve_94 hf (fun v26 hf => ?_)
                  refine z_iload_n C 3 d_Model_curve_97 rfl rfl ?_
                  refine z_iald C d_Model_curve_98 hf (fun v27 hf => ?_)
                  refine z_iconst C (v := (-1 : Int32)) d_Model_curve_99 (by decide) ?_
                  refine z_ic_ne (tgt := 113) C d_Model_curve_100 (by decide) hf (fun hf => ?_) (fun hf => ?_)
                  · refine z_sub [2, 3, 4, 1, 0] rfl ?_
                    exact k_Model_curve_113 N C E _ _ _ _ _ _ hf
                  · refine z_aload_n C 2 d_Model_curve_103 rfl rfl ?_
                    refine z_getR C 0 6 rfl in_Model (by decide) w_747 rfl d_Model_curve_104 hf (fun v28 hf => ?_)
                    refine z_iload_n C 3 d_Model_curve_107 rfl rfl ?_
                    refine z_iald C d_Model_curve_108 hf (fun v29 hf => ?_)
                    refine z_iconst C (v := (-1 : Int32)) d_Model_curve_109 (by decide) ?_
                    refine z_ic_eq (tgt := 122) C d_Model_curve_110 (by decide) hf (fun hf => ?_) (fun hf => ?_)
                    · refine z_sub [2, 3, 4, 1, 0] rfl ?_
                      exact k_Model_curve_122 N C E _ _ _ _ _ _ hf
                    · refine z_sub [2, 3, 4, 1, 0] rfl ?_
                      exact k_Model_curve_113 N C E _ _ _ _ _ _ hf
                · refine z_sub [] rfl ?_
                  exact k_Model_curve_90 N C E  _ hf
          · refine z_iconst C (v := (-1 : Int32)) d_Model_curve_33 (by decide) ?_
            exact z_iret C E (Nat.le_of_ble_eq_true rfl) (Nat.le_of_ble_eq_true rfl) d_Model_curve_34 hf

theorem c_Model_curve (N : Nat) {l : Launch} {D : va_G} {T : List (ClassId × FieldType)} (hT : T.map (fun q => q.2) = ztl) {x0 : Nat} {x1 : Int32} {x2 : Int32} {h : zH} {p : Int32 × zH} (hf : f_Model_curve N x0 x1 x2 h = some p) : zM l y_Model_curve prog_10_method_39_code 5 (some .int) rm_Model_curve D T [.ref x0, .int x1, .int x2] h (some (.int p.1)) p.2 :=
  z_enter (by decide) hT (Nat.le_of_ble_eq_true rfl) (fun X el eD eT hin C E => k_Model_curve N C E x0 x1 x2 h hf)
