/-! ===== LevelTablesModel.<init>(II)V ===== -/
abbrev y_Model_init : MethodName := ⟨R_Model, "<init>", "(II)V"⟩
theorem pd_Model_init : y_Model_init.cls ≠ "java/lang/invoke/MethodHandle" ∧ y_Model_init.cls ≠ "java/lang/invoke/VarHandle" ∧ (parseMethodDescriptor y_Model_init.desc).map (fun d => d.parameters.length) = some 2 := ⟨by decide +kernel, by decide +kernel, by decide +kernel⟩
abbrev rm_Model_init : Room := { frames := 1, cells := 19, slots := 283980, locals := 20 }
def b_Model_init_246 (N : Nat) (rc246 : Nat → Int32 → zH → Option (Unit × zH)) (x0 : Nat) (x3 : Int32) (h : zH) : Option (Unit × zH) :=
  (if (25 : Int32) ≤ x3 then
    some ((), h)
  else
    Option.bind (zgR h x0 0 3) fun (v1 : Nat) =>
    Option.bind (zsI h 0 v1 x3 (1 : Int32)) fun (h2 : zH) =>
    Option.bind (zgR h2 x0 0 4) fun (v3 : Nat) =>
    Option.bind (zsI h2 0 v3 x3 (1 : Int32)) fun (h4 : zH) =>
    Option.bind (zgR h4 x0 0 5) fun (v5 : Nat) =>
    Option.bind (zsI h4 0 v5 x3 (-1 : Int32)) fun (h6 : zH) =>
    Option.bind (zgR h6 x0 0 6) fun (v7 : Nat) =>
    Option.bind (zsI h6 0 v7 x3 (-1 : Int32)) fun (h8 : zH) =>
    rc246 x0 (x3 + (1 : Int32)) h8)
def f_Model_init_246 (N : Nat) : Nat → Nat → Int32 → zH → Option (Unit × zH)
  | 0 => fun _ _ _ => none
  | n + 1 => fun x0 x3 h => b_Model_init_246 N (f_Model_init_246 N n) x0 x3 h
def f_Model_init_241 (N : Nat) (x0 : Nat) (s0 : Nat) (s1 : Int32) (h : zH) : Option (Unit × zH) :=
  Option.bind (zp h s0 0 1 (.int s1)) fun (h9 : zH) =>
  f_Model_init_246 N N x0 (0 : Int32) h9
def f_Model_init_216 (N : Nat) (x0 : Nat) (x2 : Int32) (s0 : Nat) (s1 : Int32) (h : zH) : Option (Unit × zH) :=
  Option.bind (zp h s0 0 0 (.int s1)) fun (h10 : zH) =>
  (if (1 : Int32) ≤ x2 then
    (if x2 ≤ (24 : Int32) then
      f_Model_init_241 N x0 x0 x2 h10
    else
      f_Model_init_241 N x0 x0 (24 : Int32) h10)
  else
    f_Model_init_241 N x0 x0 (1 : Int32) h10)
def f_Model_init (N : Nat) (x0 : Nat) (x1 : Int32) (x2 : Int32) (h : zH) : Option (Unit × zH) :=
  Option.bind (znI h 0 25 (25 : Int32)) fun (q11 : Nat × zH) =>
  Option.bind (zp q11.2 x0 0 2 (.ref q11.1)) fun (h12 : zH) =>
  Option.bind (znI h12 0 25 (25 : Int32)) fun (q13 : Nat × zH) =>
  Option.bind (zp q13.2 x0 0 3 (.ref q13.1)) fun (h14 : zH) =>
  Option.bind (znI h14 0 25 (25 : Int32)) fun (q15 : Nat × zH) =>
  Option.bind (zp q15.2 x0 0 4 (.ref q15.1)) fun (h16 : zH) =>
  Option.bind (znI h16 0 25 (25 : Int32)) fun (q17 : Nat × zH) =>
  Option.bind (zp q17.2 x0 0 5 (.ref q17.1)) fun (h18 : zH) =>
  Option.bind (znI h18 0 25 (25 : Int32)) fun (q19 : Nat × zH) =>
  Option.bind (zp q19.2 x0 0 6 (.ref q19.1)) fun (h20 : zH) =>
  Option.bind (zp h20 x0 0 7 (.int (2 : Int32))) fun (h21 : zH) =>
  Option.bind (zp h21 x0 0 8 (.int (1 : Int32))) fun (h22 : zH) =>
  Option.bind (znI h22 0 6 (6 : Int32)) fun (q23 : Nat × zH) =>
  Option.bind (zp q23.2 x0 0 11 (.ref q23.1)) fun (h24 : zH) =>
  Option.bind (znI h24 0 6 (6 : Int32)) fun (q25 : Nat × zH) =>
  Option.bind (zp q25.2 x0 0 12 (.ref q25.1)) fun (h26 : zH) =>
  Option.bind (znI h26 0 6 (6 : Int32)) fun (q27 : Nat × zH) =>
  Option.bind (zp q27.2 x0 0 13 (.ref q27.1)) fun (h28 : zH) =>
  Option.bind (znJ h28 1 6 (6 : Int32)) fun (q29 : Nat × zH) =>
  Option.bind (zp q29.2 x0 0 14 (.ref q29.1)) fun (h30 : zH) =>
  Option.bind (znJ h30 1 31250 (31250 : Int32)) fun (q31 : Nat × zH) =>
  Option.bind (zp q31.2 x0 0 15 (.ref q31.1)) fun (h32 : zH) =>
  Option.bind (znI h32 0 31250 (31250 : Int32)) fun (q33 : Nat × zH) =>
  Option.bind (zp q33.2 x0 0 16 (.ref q33.1)) fun (h34 : zH) =>
  Option.bind (znJ h34 1 187500 (187500 : Int32)) fun (q35 : Nat × zH) =>
  Option.bind (zp q35.2 x0 0 17 (.ref q35.1)) fun (h36 : zH) =>
  Option.bind (znI h36 0 31250 (31250 : Int32)) fun (q37 : Nat × zH) =>
  Option.bind (zp q37.2 x0 0 18 (.ref q37.1)) fun (h38 : zH) =>
  Option.bind (znJ h38 1 6 (6 : Int32)) fun (q39 : Nat × zH) =>
  Option.bind (zp q39.2 x0 0 21 (.ref q39.1)) fun (h40 : zH) =>
  Option.bind (znI h40 2 1250 (1250 : Int32)) fun (q41 : Nat × zH) =>
  Option.bind (zp q41.2 x0 0 22 (.ref q41.1)) fun (h42 : zH) =>
  Option.bind (znI h42 2 1250 (1250 : Int32)) fun (q43 : Nat × zH) =>
  Option.bind (zp q43.2 x0 0 23 (.ref q43.1)) fun (h44 : zH) =>
  Option.bind (znI h44 0 25 (25 : Int32)) fun (q45 : Nat × zH) =>
  Option.bind (zp q45.2 x0 0 25 (.ref q45.1)) fun (h46 : zH) =>
  Option.bind (znI h46 0 25 (25 : Int32)) fun (q47 : Nat × zH) =>
  Option.bind (zp q47.2 x0 0 28 (.ref q47.1)) fun (h48 : zH) =>
  Option.bind (zp h48 x0 0 30 (.int (80 : Int32))) fun (h49 : zH) =>
  Option.bind (zp h49 x0 0 31 (.int (50 : Int32))) fun (h50 : zH) =>
  Option.bind (zp h50 x0 0 32 (.int (10 : Int32))) fun (h51 : zH) =>
  Option.bind (zp h51 x0 0 33 (.int (5 : Int32))) fun (h52 : zH) =>
  Option.bind (znI h52 0 25 (25 : Int32)) fun (q53 : Nat × zH) =>
  Option.bind (zp q53.2 x0 0 34 (.ref q53.1)) fun (h54 : zH) =>
  (if (2 : Int32) ≤ x1 then
    (if x1 ≤ (24 : Int32) then
      f_Model_init_216 N x0 x2 x0 x1 h54
    else
      f_Model_init_216 N x0 x2 x0 (24 : Int32) h54)
  else
    f_Model_init_216 N x0 x2 x0 (2 : Int32) h54)
theorem d_Model_init_0 : decode prog_10_method_1_code 0 = .ok (.aload_n (0), 1) := by decide +kernel
theorem d_Model_init_1 : decode prog_10_method_1_code 1 = .ok (.invokespecial (1), 3) := by decide +kernel
theorem d_Model_init_4 : decode prog_10_method_1_code 4 = .ok (.aload_n (0), 1) := by decide +kernel
theorem d_Model_init_5 : decode prog_10_method_1_code 5 = .ok (.bipush (25), 2) := by decide +kernel
theorem d_Model_init_7 : decode prog_10_method_1_code 7 = .ok (.newarray .int, 2) := by decide +kernel
theorem d_Model_init_9 : decode prog_10_method_1_code 9 = .ok (.putfield (7), 3) := by decide +kernel
theorem d_Model_init_12 : decode prog_10_method_1_code 12 = .ok (.aload_n (0), 1) := by decide +kernel
theorem d_Model_init_13 : decode prog_10_method_1_code 13 = .ok (.bipush (25), 2) := by decide +kernel
theorem d_Model_init_15 : decode prog_10_method_1_code 15 = .ok (.newarray .int, 2) := by decide +kernel
theorem d_Model_init_17 : decode prog_10_method_1_code 17 = .ok (.putfield (13), 3) := by decide +kernel
theorem d_Model_init_20 : decode prog_10_method_1_code 20 = .ok (.aload_n (0), 1) := by decide +kernel
theorem d_Model_init_21 : decode prog_10_method_1_code 21 = .ok (.bipush (25), 2) := by decide +kernel
theorem d_Model_init_23 : decode prog_10_method_1_code 23 = .ok (.newarray .int, 2) := by decide +kernel
theorem d_Model_init_25 : decode prog_10_method_1_code 25 = .ok (.putfield (16), 3) := by decide +kernel
theorem d_Model_init_28 : decode prog_10_method_1_code 28 = .ok (.aload_n (0), 1) := by decide +kernel
theorem d_Model_init_29 : decode prog_10_method_1_code 29 = .ok (.bipush (25), 2) := by decide +kernel
theorem d_Model_init_31 : decode prog_10_method_1_code 31 = .ok (.newarray .int, 2) := by decide +kernel
theorem d_Model_init_33 : decode prog_10_method_1_code 33 = .ok (.putfield (19), 3) := by decide +kernel
theorem d_Model_init_36 : decode prog_10_method_1_code 36 = .ok (.aload_n (0), 1) := by decide +kernel
theorem d_Model_init_37 : decode prog_10_method_1_code 37 = .ok (.bipush (25), 2) := by decide +kernel
theorem d_Model_init_39 : decode prog_10_method_1_code 39 = .ok (.newarray .int, 2) := by decide +kernel
theorem d_Model_init_41 : decode prog_10_method_1_code 41 = .ok (.putfield (22), 3) := by decide +kernel
theorem d_Model_init_44 : decode prog_10_method_1_code 44 = .ok (.aload_n (0), 1) := by decide +kernel
theorem d_Model_init_45 : decode prog_10_method_1_code 45 = .ok (.iconst (2), 1) := by decide +kernel
theorem d_Model_init_46 : decode prog_10_method_1_code 46 = .ok (.putfield (25), 3) := by decide +kernel
theorem d_Model_init_49 : decode prog_10_method_1_code 49 = .ok (.aload_n (0), 1) := by decide +kernel
theorem d_Model_init_50 : decode prog_10_method_1_code 50 = .ok (.iconst (1), 1) := by decide +kernel
theorem d_Model_init_51 : decode prog_10_method_1_code 51 = .ok (.putfield (29), 3) := by decide +kernel
theorem d_Model_init_54 : decode prog_10_method_1_code 54 = .ok (.aload_n (0), 1) := by decide +kernel
theorem d_Model_init_55 : decode prog_10_method_1_code 55 = .ok (.bipush (6), 2) := by decide +kernel
theorem d_Model_init_57 : decode prog_10_method_1_code 57 = .ok (.newarray .int, 2) := by decide +kernel
theorem d_Model_init_59 : decode prog_10_method_1_code 59 = .ok (.putfield (32), 3) := by decide +kernel
theorem d_Model_init_62 : decode prog_10_method_1_code 62 = .ok (.aload_n (0), 1) := by decide +kernel
theorem d_Model_init_63 : decode prog_10_method_1_code 63 = .ok (.bipush (6), 2) := by decide +kernel
theorem d_Model_init_65 : decode prog_10_method_1_code 65 = .ok (.newarray .int, 2) := by decide +kernel
theorem d_Model_init_67 : decode prog_10_method_1_code 67 = .ok (.putfield (35), 3) := by decide +kernel
theorem d_Model_init_70 : decode prog_10_method_1_code 70 = .ok (.aload_n (0), 1) := by decide +kernel
theorem d_Model_init_71 : decode prog_10_method_1_code 71 = .ok (.bipush (6), 2) := by decide +kernel
theorem d_Model_init_73 : decode prog_10_method_1_code 73 = .ok (.newarray .int, 2) := by decide +kernel
theorem d_Model_init_75 : decode prog_10_method_1_code 75 = .ok (.putfield (38), 3) := by decide +kernel
theorem d_Model_init_78 : decode prog_10_method_1_code 78 = .ok (.aload_n (0), 1) := by decide +kernel
theorem d_Model_init_79 : decode prog_10_method_1_code 79 = .ok (.bipush (6), 2) := by decide +kernel
theorem d_Model_init_81 : decode prog_10_method_1_code 81 = .ok (.newarray .long, 2) := by decide +kernel
theorem d_Model_init_83 : decode prog_10_method_1_code 83 = .ok (.putfield (41), 3) := by decide +kernel
theorem d_Model_init_86 : decode prog_10_method_1_code 86 = .ok (.aload_n (0), 1) := by decide +kernel
theorem d_Model_init_87 : decode prog_10_method_1_code 87 = .ok (.sipush (31250), 3) := by decide +kernel
theorem d_Model_init_90 : decode prog_10_method_1_code 90 = .ok (.newarray .long, 2) := by decide +kernel
theorem d_Model_init_92 : decode prog_10_method_1_code 92 = .ok (.putfield (45), 3) := by decide +kernel
theorem d_Model_init_95 : decode prog_10_method_1_code 95 = .ok (.aload_n (0), 1) := by decide +kernel
theorem d_Model_init_96 : decode prog_10_method_1_code 96 = .ok (.sipush (31250), 3) := by decide +kernel
theorem d_Model_init_99 : decode prog_10_method_1_code 99 = .ok (.newarray .int, 2) := by decide +kernel
theorem d_Model_init_101 : decode prog_10_method_1_code 101 = .ok (.putfield (48), 3) := by decide +kernel
theorem d_Model_init_104 : decode prog_10_method_1_code 104 = .ok (.aload_n (0), 1) := by decide +kernel
theorem d_Model_init_105 : decode prog_10_method_1_code 105 = .ok (.ldc (51), 2) := by decide +kernel
theorem d_Model_init_107 : decode prog_10_method_1_code 107 = .ok (.newarray .long, 2) := by decide +kernel
theorem d_Model_init_109 : decode prog_10_method_1_code 109 = .ok (.putfield (52), 3) := by decide +kernel
theorem d_Model_init_112 : decode prog_10_method_1_code 112 = .ok (.aload_n (0), 1) := by decide +kernel
theorem d_Model_init_113 : decode prog_10_method_1_code 113 = .ok (.sipush (31250), 3) := by decide +kernel
theorem d_Model_init_116 : decode prog_10_method_1_code 116 = .ok (.newarray .int, 2) := by decide +kernel
theorem d_Model_init_118 : decode prog_10_method_1_code 118 = .ok (.putfield (55), 3) := by decide +kernel
theorem d_Model_init_121 : decode prog_10_method_1_code 121 = .ok (.aload_n (0), 1) := by decide +kernel
theorem d_Model_init_122 : decode prog_10_method_1_code 122 = .ok (.bipush (6), 2) := by decide +kernel
theorem d_Model_init_124 : decode prog_10_method_1_code 124 = .ok (.newarray .long, 2) := by decide +kernel
theorem d_Model_init_126 : decode prog_10_method_1_code 126 = .ok (.putfield (58), 3) := by decide +kernel
theorem d_Model_init_129 : decode prog_10_method_1_code 129 = .ok (.aload_n (0), 1) := by decide +kernel
theorem d_Model_init_130 : decode prog_10_method_1_code 130 = .ok (.sipush (1250), 3) := by decide +kernel
theorem d_Model_init_133 : decode prog_10_method_1_code 133 = .ok (.newarray .boolean, 2) := by decide +kernel
theorem d_Model_init_135 : decode prog_10_method_1_code 135 = .ok (.putfield (61), 3) := by decide +kernel
theorem d_Model_init_138 : decode prog_10_method_1_code 138 = .ok (.aload_n (0), 1) := by decide +kernel
theorem d_Model_init_139 : decode prog_10_method_1_code 139 = .ok (.sipush (1250), 3) := by decide +kernel
theorem d_Model_init_142 : decode prog_10_method_1_code 142 = .ok (.newarray .boolean, 2) := by decide +kernel
theorem d_Model_init_144 : decode prog_10_method_1_code 144 = .ok (.putfield (65), 3) := by decide +kernel
theorem d_Model_init_147 : decode prog_10_method_1_code 147 = .ok (.aload_n (0), 1) := by decide +kernel
theorem d_Model_init_148 : decode prog_10_method_1_code 148 = .ok (.bipush (25), 2) := by decide +kernel
theorem d_Model_init_150 : decode prog_10_method_1_code 150 = .ok (.newarray .int, 2) := by decide +kernel
theorem d_Model_init_152 : decode prog_10_method_1_code 152 = .ok (.putfield (68), 3) := by decide +kernel
theorem d_Model_init_155 : decode prog_10_method_1_code 155 = .ok (.aload_n (0), 1) := by decide +kernel
theorem d_Model_init_156 : decode prog_10_method_1_code 156 = .ok (.bipush (25), 2) := by decide +kernel
theorem d_Model_init_158 : decode prog_10_method_1_code 158 = .ok (.newarray .int, 2) := by decide +kernel
theorem d_Model_init_160 : decode prog_10_method_1_code 160 = .ok (.putfield (71), 3) := by decide +kernel
theorem d_Model_init_163 : decode prog_10_method_1_code 163 = .ok (.aload_n (0), 1) := by decide +kernel
theorem d_Model_init_164 : decode prog_10_method_1_code 164 = .ok (.bipush (80), 2) := by decide +kernel
theorem d_Model_init_166 : decode prog_10_method_1_code 166 = .ok (.putfield (74), 3) := by decide +kernel
theorem d_Model_init_169 : decode prog_10_method_1_code 169 = .ok (.aload_n (0), 1) := by decide +kernel
theorem d_Model_init_170 : decode prog_10_method_1_code 170 = .ok (.bipush (50), 2) := by decide +kernel
theorem d_Model_init_172 : decode prog_10_method_1_code 172 = .ok (.putfield (77), 3) := by decide +kernel
theorem d_Model_init_175 : decode prog_10_method_1_code 175 = .ok (.aload_n (0), 1) := by decide +kernel
theorem d_Model_init_176 : decode prog_10_method_1_code 176 = .ok (.bipush (10), 2) := by decide +kernel
theorem d_Model_init_178 : decode prog_10_method_1_code 178 = .ok (.putfield (80), 3) := by decide +kernel
theorem d_Model_init_181 : decode prog_10_method_1_code 181 = .ok (.aload_n (0), 1) := by decide +kernel
theorem d_Model_init_182 : decode prog_10_method_1_code 182 = .ok (.iconst (5), 1) := by decide +kernel
theorem d_Model_init_183 : decode prog_10_method_1_code 183 = .ok (.putfield (83), 3) := by decide +kernel
theorem d_Model_init_186 : decode prog_10_method_1_code 186 = .ok (.aload_n (0), 1) := by decide +kernel
theorem d_Model_init_187 : decode prog_10_method_1_code 187 = .ok (.bipush (25), 2) := by decide +kernel
theorem d_Model_init_189 : decode prog_10_method_1_code 189 = .ok (.newarray .int, 2) := by decide +kernel
theorem d_Model_init_191 : decode prog_10_method_1_code 191 = .ok (.putfield (86), 3) := by decide +kernel
theorem d_Model_init_194 : decode prog_10_method_1_code 194 = .ok (.aload_n (0), 1) := by decide +kernel
theorem d_Model_init_195 : decode prog_10_method_1_code 195 = .ok (.iload_n (1), 1) := by decide +kernel
theorem d_Model_init_196 : decode prog_10_method_1_code 196 = .ok (.iconst (2), 1) := by decide +kernel
theorem d_Model_init_197 : decode prog_10_method_1_code 197 = .ok (.if_icmp .ge (7), 3) := by decide +kernel
theorem d_Model_init_200 : decode prog_10_method_1_code 200 = .ok (.iconst (2), 1) := by decide +kernel
theorem d_Model_init_201 : decode prog_10_method_1_code 201 = .ok (.goto (15), 3) := by decide +kernel
theorem d_Model_init_204 : decode prog_10_method_1_code 204 = .ok (.iload_n (1), 1) := by decide +kernel
theorem d_Model_init_205 : decode prog_10_method_1_code 205 = .ok (.bipush (24), 2) := by decide +kernel
theorem d_Model_init_207 : decode prog_10_method_1_code 207 = .ok (.if_icmp .le (8), 3) := by decide +kernel
theorem d_Model_init_210 : decode prog_10_method_1_code 210 = .ok (.bipush (24), 2) := by decide +kernel
theorem d_Model_init_212 : decode prog_10_method_1_code 212 = .ok (.goto (4), 3) := by decide +kernel
theorem d_Model_init_215 : decode prog_10_method_1_code 215 = .ok (.iload_n (1), 1) := by decide +kernel
theorem d_Model_init_216 : decode prog_10_method_1_code 216 = .ok (.putfield (89), 3) := by decide +kernel
theorem d_Model_init_219 : decode prog_10_method_1_code 219 = .ok (.aload_n (0), 1) := by decide +kernel
theorem d_Model_init_220 : decode prog_10_method_1_code 220 = .ok (.iload_n (2), 1) := by decide +kernel
theorem d_Model_init_221 : decode prog_10_method_1_code 221 = .ok (.iconst (1), 1) := by decide +kernel
theorem d_Model_init_222 : decode prog_10_method_1_code 222 = .ok (.if_icmp .ge (7), 3) := by decide +kernel
theorem d_Model_init_225 : decode prog_10_method_1_code 225 = .ok (.iconst (1), 1) := by decide +kernel
theorem d_Model_init_226 : decode prog_10_method_1_code 226 = .ok (.goto (15), 3) := by decide +kernel
theorem d_Model_init_229 : decode prog_10_method_1_code 229 = .ok (.iload_n (2), 1) := by decide +kernel
theorem d_Model_init_230 : decode prog_10_method_1_code 230 = .ok (.bipush (24), 2) := by decide +kernel
theorem d_Model_init_232 : decode prog_10_method_1_code 232 = .ok (.if_icmp .le (8), 3) := by decide +kernel
theorem d_Model_init_235 : decode prog_10_method_1_code 235 = .ok (.bipush (24), 2) := by decide +kernel
theorem d_Model_init_237 : decode prog_10_method_1_code 237 = .ok (.goto (4), 3) := by decide +kernel
theorem d_Model_init_240 : decode prog_10_method_1_code 240 = .ok (.iload_n (2), 1) := by decide +kernel
theorem d_Model_init_241 : decode prog_10_method_1_code 241 = .ok (.putfield (92), 3) := by decide +kernel
theorem d_Model_init_244 : decode prog_10_method_1_code 244 = .ok (.iconst (0), 1) := by decide +kernel
theorem d_Model_init_245 : decode prog_10_method_1_code 245 = .ok (.istore_n (3), 1) := by decide +kernel
theorem d_Model_init_246 : decode prog_10_method_1_code 246 = .ok (.iload_n (3), 1) := by decide +kernel
theorem d_Model_init_247 : decode prog_10_method_1_code 247 = .ok (.bipush (25), 2) := by decide +kernel
theorem d_Model_init_249 : decode prog_10_method_1_code 249 = .ok (.if_icmp .ge (37), 3) := by decide +kernel
theorem d_Model_init_252 : decode prog_10_method_1_code 252 = .ok (.aload_n (0), 1) := by decide +kernel
theorem d_Model_init_253 : decode prog_10_method_1_code 253 = .ok (.getfield (13), 3) := by decide +kernel
theorem d_Model_init_256 : decode prog_10_method_1_code 256 = .ok (.iload_n (3), 1) := by decide +kernel
theorem d_Model_init_257 : decode prog_10_method_1_code 257 = .ok (.iconst (1), 1) := by decide +kernel
theorem d_Model_init_258 : decode prog_10_method_1_code 258 = .ok (.iastore, 1) := by decide +kernel
theorem d_Model_init_259 : decode prog_10_method_1_code 259 = .ok (.aload_n (0), 1) := by decide +kernel
theorem d_Model_init_260 : decode prog_10_method_1_code 260 = .ok (.getfield (16), 3) := by decide +kernel
theorem d_Model_init_263 : decode prog_10_method_1_code 263 = .ok (.iload_n (3), 1) := by decide +kernel
theorem d_Model_init_264 : decode prog_10_method_1_code 264 = .ok (.iconst (1), 1) := by decide +kernel
theorem d_Model_init_265 : decode prog_10_method_1_code 265 = .ok (.iastore, 1) := by decide +kernel
theorem d_Model_init_266 : decode prog_10_method_1_code 266 = .ok (.aload_n (0), 1) := by decide +kernel
theorem d_Model_init_267 : decode prog_10_method_1_code 267 = .ok (.getfield (19), 3) := by decide +kernel
theorem d_Model_init_270 : decode prog_10_method_1_code 270 = .ok (.iload_n (3), 1) := by decide +kernel
theorem d_Model_init_271 : decode prog_10_method_1_code 271 = .ok (.iconst (-1), 1) := by decide +kernel
theorem d_Model_init_272 : decode prog_10_method_1_code 272 = .ok (.iastore, 1) := by decide +kernel
theorem d_Model_init_273 : decode prog_10_method_1_code 273 = .ok (.aload_n (0), 1) := by decide +kernel
theorem d_Model_init_274 : decode prog_10_method_1_code 274 = .ok (.getfield (22), 3) := by decide +kernel
theorem d_Model_init_277 : decode prog_10_method_1_code 277 = .ok (.iload_n (3), 1) := by decide +kernel
theorem d_Model_init_278 : decode prog_10_method_1_code 278 = .ok (.iconst (-1), 1) := by decide +kernel
theorem d_Model_init_279 : decode prog_10_method_1_code 279 = .ok (.iastore, 1) := by decide +kernel
theorem d_Model_init_280 : decode prog_10_method_1_code 280 = .ok (.iinc (3) (1), 3) := by decide +kernel
theorem d_Model_init_283 : decode prog_10_method_1_code 283 = .ok (.goto (-37), 3) := by decide +kernel
theorem d_Model_init_286 : decode prog_10_method_1_code 286 = .ok (.return_, 1) := by decide +kernel
set_option maxHeartbeats 4000000 in
set_option maxRecDepth 100000 in
theorem k_Model_init_246 (N : Nat) {X : zX} (C : zB X prog_10_method_1_code 4 R_Model rm_Model_init) {h0 : zH} {p : Unit × zH} (E : zR X none rm_Model_init h0 none p.2) (hin : (x_t X).name = "<init>") : ∀ n : Nat, ∀ (x0 : Nat) (x3 : Int32) (h : zH), f_Model_init_246 N n x0 x3 h = some p → Zt X 4 19 283980 246 [(0, .ref x0), (3, .int x3)] [] h := by
  intro n
  induction n with
  | zero => intro x0 x3 h hf; cases hf
  | succ n ih =>
  intro x0 x3 h hf
  have H246 := ih
  replace hf : b_Model_init_246 N (f_Model_init_246 N n) x0 x3 h = some p := hf
  unfold b_Model_init_246 at hf
  refine z_iload_n C 1 d_Model_init_246 rfl rfl ?_
  refine z_bipush C (v := (25 : Int32)) d_Model_init_247 (by decide) ?_
  refine z_ic_ge (tgt := 286) C d_Model_init_249 (by decide) hf (fun hf => ?_) (fun hf => ?_)
  · exact z_vret C E (Nat.le_of_ble_eq_true rfl) (Nat.le_of_ble_eq_true rfl) d_Model_init_286 hf
  · refine z_aload_n C 0 d_Model_init_252 rfl rfl ?_
    refine z_getR C 0 3 rfl in_Model (by decide) w_744 rfl d_Model_init_253 hf (fun v1 hf => ?_)
    refine z_iload_n C 1 d_Model_init_256 rfl rfl ?_
    refine z_iconst C (v := (1 : Int32)) d_Model_init_257 (by decide) ?_
    refine z_iast C d_Model_init_258 hf (fun h2 hf => ?_)
    refine z_aload_n C 0 d_Model_init_259 rfl rfl ?_
    refine z_getR C 0 4 rfl in_Model (by decide) w_745 rfl d_Model_init_260 hf (fun v3 hf => ?_)
    refine z_iload_n C 1 d_Model_init_263 rfl rfl ?_
    refine z_iconst C (v := (1 : Int32)) d_Model_init_264 (by decide) ?_
    refine z_iast C d_Model_init_265 hf (fun h4 hf => ?_)
    refine z_aload_n C 0 d_Model_init_266 rfl rfl ?_
    refine z_getR C 0 5 rfl in_Model (by decide) w_746 rfl d_Model_init_267 hf (fun v5 hf => ?_)
    refine z_iload_n C 1 d_Model_init_270 rfl rfl ?_
    refine z_iconst C (v := (-1 : Int32)) d_Model_init_271 (by decide) ?_
    refine z_iast C d_Model_init_272 hf (fun h6 hf => ?_)
    refine z_aload_n C 0 d_Model_init_273 rfl rfl ?_
    refine z_getR C 0 6 rfl in_Model (by decide) w_747 rfl d_Model_init_274 hf (fun v7 hf => ?_)
    refine z_iload_n C 1 d_Model_init_277 rfl rfl ?_
    refine z_iconst C (v := (-1 : Int32)) d_Model_init_278 (by decide) ?_
    refine z_iast C d_Model_init_279 hf (fun h8 hf => ?_)
    refine z_iinc C (v := (x3 + (1 : Int32))) (lv' := [(3, .int (x3 + (1 : Int32))), (0, .ref x0)]) 1 d_Model_init_280 rfl (by rfl) (by decide) rfl ?_
    refine z_goto (tgt := 246) C d_Model_init_283 (by decide) ?_
    refine z_sub [1, 0] rfl ?_
    exact H246 _ _ _ hf

set_option maxHeartbeats 4000000 in
set_option maxRecDepth 100000 in
theorem k_Model_init_241 (N : Nat) {X : zX} (C : zB X prog_10_method_1_code 4 R_Model rm_Model_init) {h0 : zH} {p : Unit × zH} (E : zR X none rm_Model_init h0 none p.2) (hin : (x_t X).name = "<init>") : ∀ (x0 : Nat) (s0 : Nat) (s1 : Int32) (h : zH), f_Model_init_241 N x0 s0 s1 h = some p → Zt X 4 19 283980 241 [(0, .ref x0)] [.int s1, .ref s0] h := by
  intro x0 s0 s1 h hf
  unfold f_Model_init_241 at hf
  refine z_put C 0 1 ty_Model rfl in_Model tyok_Model nm_Model (by decide) w_742 rfl (Or.inr ⟨rfl, hin, rfl⟩) rfl rfl rfl d_Model_init_241 hf (fun h9 hf => ?_)
  refine z_iconst C (v := (0 : Int32)) d_Model_init_244 (by decide) ?_
  refine z_istore_n C (lv' := [(3, .int (0 : Int32)), (0, .ref x0)]) d_Model_init_245 rfl (by decide) rfl ?_
  refine z_sub [1, 0] rfl ?_
  exact k_Model_init_246 N C E hin N _ _ _ hf

set_option maxHeartbeats 4000000 in
set_option maxRecDepth 100000 in
theorem k_Model_init_216 (N : Nat) {X : zX} (C : zB X prog_10_method_1_code 4 R_Model rm_Model_init) {h0 : zH} {p : Unit × zH} (E : zR X none rm_Model_init h0 none p.2) (hin : (x_t X).name = "<init>") : ∀ (x0 : Nat) (x2 : Int32) (s0 : Nat) (s1 : Int32) (h : zH), f_Model_init_216 N x0 x2 s0 s1 h = some p → Zt X 4 19 283980 216 [(0, .ref x0), (2, .int x2)] [.int s1, .ref s0] h := by
  intro x0 x2 s0 s1 h hf
  unfold f_Model_init_216 at hf
  refine z_put C 0 0 ty_Model rfl in_Model tyok_Model nm_Model (by decide) w_741 rfl (Or.inr ⟨rfl, hin, rfl⟩) rfl rfl rfl d_Model_init_216 hf (fun h10 hf => ?_)
  refine z_aload_n C 0 d_Model_init_219 rfl rfl ?_
  refine z_iload_n C 1 d_Model_init_220 rfl rfl ?_
  refine z_iconst C (v := (1 : Int32)) d_Model_init_221 (by decide) ?_
  refine z_ic_ge (tgt := 229) C d_Model_init_222 (by decide) hf (fun hf => ?_) (fun hf => ?_)
  · refine z_iload_n C 1 d_Model_init_229 rfl rfl ?_
    refine z_bipush C (v := (24 : Int32)) d_Model_init_230 (by decide) ?_
    refine z_ic_le (tgt := 240) C d_Model_init_232 (by decide) hf (fun hf => ?_) (fun hf => ?_)
    · refine z_iload_n C 1 d_Model_init_240 rfl rfl ?_
      refine z_sub [0] rfl ?_
      exact k_Model_init_241 N C E hin _ _ _ _ hf
    · refine z_bipush C (v := (24 : Int32)) d_Model_init_235 (by decide) ?_
      refine z_goto (tgt := 241) C d_Model_init_237 (by decide) ?_
      refine z_sub [0] rfl ?_
      exact k_Model_init_241 N C E hin _ _ _ _ hf
  · refine z_iconst C (v := (1 : Int32)) d_Model_init_225 (by decide) ?_
    refine z_goto (tgt := 241) C d_Model_init_226 (by decide) ?_
    refine z_sub [0] rfl ?_
    exact k_Model_init_241 N C E hin _ _ _ _ hf

set_option maxHeartbeats 4000000 in
set_option maxRecDepth 100000 in
theorem k_Model_init (N : Nat) {X : zX} (C : zB X prog_10_method_1_code 4 R_Model rm_Model_init) {h0 : zH} {p : Unit × zH} (E : zR X none rm_Model_init h0 none p.2) (hin : (x_t X).name = "<init>") : ∀ (x0 : Nat) (x1 : Int32) (x2 : Int32) (h : zH), f_Model_init N x0 x1 x2 h = some p → Zt X 4 0 0 0 [(0, .ref x0), (1, .int x1), (2, .int x2)] [] h := by
  intro x0 x1 x2 h hf
  unfold f_Model_init at hf
  refine z_aload_n C 0 d_Model_init_0 rfl rfl ?_
  refine z_objInit C w_739 w_76 w_77 (Nat.le_of_ble_eq_true rfl) (Nat.le_of_ble_eq_true rfl) d_Model_init_1 ?_
  refine z_aload_n C 0 d_Model_init_4 rfl rfl ?_
  refine z_bipush C (v := (25 : Int32)) d_Model_init_5 (by decide) ?_
  refine z_newI C 25 w_142 (Nat.le_of_ble_eq_true rfl) (Nat.le_of_ble_eq_true rfl) (Nat.le_of_ble_eq_true rfl) d_Model_init_7 hf (fun q11 hf => ?_)
  refine z_put C 0 2 ty_Model rfl in_Model tyok_Model nm_Model (by decide) w_743 rfl (Or.inr ⟨rfl, hin, rfl⟩) rfl rfl rfl d_Model_init_9 hf (fun h12 hf => ?_)
  refine z_aload_n C 0 d_Model_init_12 rfl rfl ?_
  refine z_bipush C (v := (25 : Int32)) d_Model_init_13 (by decide) ?_
  refine z_newI C 25 w_142 (Nat.le_of_ble_eq_true rfl) (Nat.le_of_ble_eq_true rfl) (Nat.le_of_ble_eq_true rfl) d_Model_init_15 hf (fun q13 hf => ?_)
  refine z_put C 0 3 ty_Model rfl in_Model tyok_Model nm_Model (by decide) w_744 rfl (Or.inr ⟨rfl, hin, rfl⟩) rfl rfl rfl d_Model_init_17 hf (fun h14 hf => ?_)
  refine z_aload_n C 0 d_Model_init_20 rfl rfl ?_
  refine z_bipush C (v := (25 : Int32)) d_Model_init_21 (by decide) ?_
  refine z_newI C 25 w_142 (Nat.le_of_ble_eq_true rfl) (Nat.le_of_ble_eq_true rfl) (Nat.le_of_ble_eq_true rfl) d_Model_init_23 hf (fun q15 hf => ?_)
  refine z_put C 0 4 ty_Model rfl in_Model tyok_Model nm_Model (by decide) w_745 rfl (Or.inr ⟨rfl, hin, rfl⟩) rfl rfl rfl d_Model_init_25 hf (fun h16 hf => ?_)
  refine z_aload_n C 0 d_Model_init_28 rfl rfl ?_
  refine z_bipush C (v := (25 : Int32)) d_Model_init_29 (by decide) ?_
  refine z_newI C 25 w_142 (Nat.le_of_ble_eq_true rfl) (Nat.le_of_ble_eq_true rfl) (Nat.le_of_ble_eq_true rfl) d_Model_init_31 hf (fun q17 hf => ?_)
  refine z_put C 0 5 ty_Model rfl in_Model tyok_Model nm_Model (by decide) w_746 rfl (Or.inr ⟨rfl, hin, rfl⟩) rfl rfl rfl d_Model_init_33 hf (fun h18 hf => ?_)
  refine z_aload_n C 0 d_Model_init_36 rfl rfl ?_
  refine z_bipush C (v := (25 : Int32)) d_Model_init_37 (by decide) ?_
  refine z_newI C 25 w_142 (Nat.le_of_ble_eq_true rfl) (Nat.le_of_ble_eq_true rfl) (Nat.le_of_ble_eq_true rfl) d_Model_init_39 hf (fun q19 hf => ?_)
  refine z_put C 0 6 ty_Model rfl in_Model tyok_Model nm_Model (by decide) w_747 rfl (Or.inr ⟨rfl, hin, rfl⟩) rfl rfl rfl d_Model_init_41 hf (fun h20 hf => ?_)
  refine z_aload_n C 0 d_Model_init_44 rfl rfl ?_
  refine z_iconst C (v := (2 : Int32)) d_Model_init_45 (by decide) ?_
  refine z_put C 0 7 ty_Model rfl in_Model tyok_Model nm_Model (by decide) w_748 rfl (Or.inl rfl) rfl rfl rfl d_Model_init_46 hf (fun h21 hf => ?_)
  refine z_aload_n C 0 d_Model_init_49 rfl rfl ?_
  refine z_iconst C (v := (1 : Int32)) d_Model_init_50 (by decide) ?_
  refine z_put C 0 8 ty_Model rfl in_Model tyok_Model nm_Model (by decide) w_749 rfl (Or.inl rfl) rfl rfl rfl d_Model_init_51 hf (fun h22 hf => ?_)
  refine z_aload_n C 0 d_Model_init_54 rfl rfl ?_
  refine z_bipush C (v := (6 : Int32)) d_Model_init_55 (by decide) ?_
  refine z_newI C 6 w_142 (Nat.le_of_ble_eq_true rfl) (Nat.le_of_ble_eq_true rfl) (Nat.le_of_ble_eq_true rfl) d_Model_init_57 hf (fun q23 hf => ?_)
  refine z_put C 0 11 ty_Model rfl in_Model tyok_Model nm_Model (by decide) w_752 rfl (Or.inr ⟨rfl, hin, rfl⟩) rfl rfl rfl d_Model_init_59 hf (fun h24 hf => ?_)
  refine z_aload_n C 0 d_Model_init_62 rfl rfl ?_
  refine z_bipush C (v := (6 : Int32)) d_Model_init_63 (by decide) ?_
  refine z_newI C 6 w_142 (Nat.le_of_ble_eq_true rfl) (Nat.le_of_ble_eq_true rfl) (Nat.le_of_ble_eq_true rfl) d_Model_init_65 hf (fun q25 hf => ?_)
  refine z_put C 0 12 ty_Model rfl in_Model tyok_Model nm_Model (by decide) w_753 rfl (Or.inr ⟨rfl, hin, rfl⟩) rfl rfl rfl d_Model_init_67 hf (fun h26 hf => ?_)
  refine z_aload_n C 0 d_Model_init_70 rfl rfl ?_
  refine z_bipush C (v := (6 : Int32)) d_Model_init_71 (by decide) ?_
  refine z_newI C 6 w_142 (Nat.le_of_ble_eq_true rfl) (Nat.le_of_ble_eq_true rfl) (Nat.le_of_ble_eq_true rfl) d_Model_init_73 hf (fun q27 hf => ?_)
  refine z_put C 0 13 ty_Model rfl in_Model tyok_Model nm_Model (by decide) w_754 rfl (Or.inr ⟨rfl, hin, rfl⟩) rfl rfl rfl d_Model_init_75 hf (fun h28 hf => ?_)
  refine z_aload_n C 0 d_Model_init_78 rfl rfl ?_
  refine z_bipush C (v := (6 : Int32)) d_Model_init_79 (by decide) ?_
  refine z_newJ C 6 w_172 (Nat.le_of_ble_eq_true rfl) (Nat.le_of_ble_eq_true rfl) (Nat.le_of_ble_eq_true rfl) d_Model_init_81 hf (fun q29 hf => ?_)
  refine z_put C 0 14 ty_Model rfl in_Model tyok_Model nm_Model (by decide) w_755 rfl (Or.inr ⟨rfl, hin, rfl⟩) rfl rfl rfl d_Model_init_83 hf (fun h30 hf => ?_)
  refine z_aload_n C 0 d_Model_init_86 rfl rfl ?_
  refine z_sipush C (v := (31250 : Int32)) d_Model_init_87 (by decide) ?_
  refine z_newJ C 31250 w_172 (Nat.le_of_ble_eq_true rfl) (Nat.le_of_ble_eq_true rfl) (Nat.le_of_ble_eq_true rfl) d_Model_init_90 hf (fun q31 hf => ?_)
  refine z_put C 0 15 ty_Model rfl in_Model tyok_Model nm_Model (by decide) w_756 rfl (Or.inr ⟨rfl, hin, rfl⟩) rfl rfl rfl d_Model_init_92 hf (fun h32 hf => ?_)
  refine z_aload_n C 0 d_Model_init_95 rfl rfl ?_
  refine z_sipush C (v := (31250 : Int32)) d_Model_init_96 (by decide) ?_
  refine z_newI C 31250 w_142 (Nat.le_of_ble_eq_true rfl) (Nat.le_of_ble_eq_true rfl) (Nat.le_of_ble_eq_true rfl) d_Model_init_99 hf (fun q33 hf => ?_)
  refine z_put C 0 16 ty_Model rfl in_Model tyok_Model nm_Model (by decide) w_757 rfl (Or.inr ⟨rfl, hin, rfl⟩) rfl rfl rfl d_Model_init_101 hf (fun h34 hf => ?_)
  refine z_aload_n C 0 d_Model_init_104 rfl rfl ?_
  refine z_ldc C d_Model_init_105 w_740 ?_
  refine z_newJ C 187500 w_172 (Nat.le_of_ble_eq_true rfl) (Nat.le_of_ble_eq_true rfl) (Nat.le_of_ble_eq_true rfl) d_Model_init_107 hf (fun q35 hf => ?_)
  refine z_put C 0 17 ty_Model rfl in_Model tyok_Model nm_Model (by decide) w_758 rfl (Or.inr ⟨rfl, hin, rfl⟩) rfl rfl rfl d_Model_init_109 hf (fun h36 hf => ?_)
  refine z_aload_n C 0 d_Model_init_112 rfl rfl ?_
  refine z_sipush C (v := (31250 : Int32)) d_Model_init_113 (by decide) ?_
  refine z_newI C 31250 w_142 (Nat.le_of_ble_eq_true rfl) (Nat.le_of_ble_eq_true rfl) (Nat.le_of_ble_eq_true rfl) d_Model_init_116 hf (fun q37 hf => ?_)
  refine z_put C 0 18 ty_Model rfl in_Model tyok_Model nm_Model (by decide) w_759 rfl (Or.inr ⟨rfl, hin, rfl⟩) rfl rfl rfl d_Model_init_118 hf (fun h38 hf => ?_)
  refine z_aload_n C 0 d_Model_init_121 rfl rfl ?_
  refine z_bipush C (v := (6 : Int32)) d_Model_init_122 (by decide) ?_
  refine z_newJ C 6 w_172 (Nat.le_of_ble_eq_true rfl) (Nat.le_of_ble_eq_true rfl) (Nat.le_of_ble_eq_true rfl) d_Model_init_124 hf (fun q39 hf => ?_)
  refine z_put C 0 21 ty_Model rfl in_Model tyok_Model nm_Model (by decide) w_762 rfl (Or.inr ⟨rfl, hin, rfl⟩) rfl rfl rfl d_Model_init_126 hf (fun h40 hf => ?_)
  refine z_aload_n C 0 d_Model_init_129 rfl rfl ?_
  refine z_sipush C (v := (1250 : Int32)) d_Model_init_130 (by decide) ?_
  refine z_newZ C 1250 w_847 (Nat.le_of_ble_eq_true rfl) (Nat.le_of_ble_eq_true rfl) (Nat.le_of_ble_eq_true rfl) d_Model_init_133 hf (fun q41 hf => ?_)
  refine z_put C 0 22 ty_Model rfl in_Model tyok_Model nm_Model (by decide) w_763 rfl (Or.inr ⟨rfl, hin, rfl⟩) rfl rfl rfl d_Model_init_135 hf (fun h42 hf => ?_)
  refine z_aload_n C 0 d_Model_init_138 rfl rfl ?_
  refine z_sipush C (v := (1250 : Int32)) d_Model_init_139 (by decide) ?_
  refine z_newZ C 1250 w_847 (Nat.le_of_ble_eq_true rfl) (Nat.le_of_ble_eq_true rfl) (Nat.le_of_ble_eq_true rfl) d_Model_init_142 hf (fun q43 hf => ?_)
  refine z_put C 0 23 ty_Model rfl in_Model tyok_Model nm_Model (by decide) w_764 rfl (Or.inr ⟨rfl, hin, rfl⟩) rfl rfl rfl d_Model_init_144 hf (fun h44 hf => ?_)
  refine z_aload_n C 0 d_Model_init_147 rfl rfl ?_
  refine z_bipush C (v := (25 : Int32)) d_Model_init_148 (by decide) ?_
  refine z_newI C 25 w_142 (Nat.le_of_ble_eq_true rfl) (Nat.le_of_ble_eq_true rfl) (Nat.le_of_ble_eq_true rfl) d_Model_init_150 hf (fun q45 hf => ?_)
  refine z_put C 0 25 ty_Model rfl in_Model tyok_Model nm_Model (by decide) w_766 rfl (Or.inr ⟨rfl, hin, rfl⟩) rfl rfl rfl d_Model_init_152 hf (fun h46 hf => ?_)
  refine z_aload_n C 0 d_Model_init_155 rfl rfl ?_
  refine z_bipush C (v := (25 : Int32)) d_Model_init_156 (by decide) ?_
  refine z_newI C 25 w_142 (Nat.le_of_ble_eq_true rfl) (Nat.le_of_ble_eq_true rfl) (Nat.le_of_ble_eq_true rfl) d_Model_init_158 hf (fun q47 hf => ?_)
  refine z_put C 0 28 ty_Model rfl in_Model tyok_Model nm_Model (by decide) w_769 rfl (Or.inr ⟨rfl, hin, rfl⟩) rfl rfl rfl d_Model_init_160 hf (fun h48 hf => ?_)
  refine z_aload_n C 0 d_Model_init_163 rfl rfl ?_
  refine z_bipush C (v := (80 : Int32)) d_Model_init_164 (by decide) ?_
  refine z_put C 0 30 ty_Model rfl in_Model tyok_Model nm_Model (by decide) w_771 rfl (Or.inl rfl) rfl rfl rfl d_Model_init_166 hf (fun h49 hf => ?_)
  refine z_aload_n C 0 d_Model_init_169 rfl rfl ?_
  refine z_bipush C (v := (50 : Int32)) d_Model_init_170 (by decide) ?_
  refine z_put C 0 31 ty_Model rfl in_Model tyok_Model nm_Model (by decide) w_772 rfl (Or.inl rfl) rfl rfl rfl d_Model_init_172 hf (fun h50 hf => ?_)
  refine z_aload_n C 0 d_Model_init_175 rfl rfl ?_
  refine z_bipush C (v := (10 : Int32)) d_Model_init_176 (by decide) ?_
  refine z_put C 0 32 ty_Model rfl in_Model tyok_Model nm_Model (by decide) w_773 rfl (Or.inl rfl) rfl rfl rfl d_Model_init_178 hf (fun h51 hf => ?_)
  refine z_aload_n C 0 d_Model_init_181 rfl rfl ?_
  refine z_iconst C (v := (5 : Int32)) d_Model_init_182 (by decide) ?_
  refine z_put C 0 33 ty_Model rfl in_Model tyok_Model nm_Model (by decide) w_774 rfl (Or.inl rfl) rfl rfl rfl d_Model_init_183 hf (fun h52 hf => ?_)
  refine z_aload_n C 0 d_Model_init_186 rfl rfl ?_
  refine z_bipush C (v := (25 : Int32)) d_Model_init_187 (by decide) ?_
  refine z_newI C 25 w_142 (Nat.le_of_ble_eq_true rfl) (Nat.le_of_ble_eq_true rfl) (Nat.le_of_ble_eq_true rfl) d_Model_init_189 hf (fun q53 hf => ?_)
  refine z_put C 0 34 ty_Model rfl in_Model tyok_Model nm_Model (by decide) w_775 rfl (Or.inr ⟨rfl, hin, rfl⟩) rfl rfl rfl d_Model_init_191 hf (fun h54 hf => ?_)
  refine z_aload_n C 0 d_Model_init_194 rfl rfl ?_
  refine z_iload_n C 1 d_Model_init_195 rfl rfl ?_
  refine z_iconst C (v := (2 : Int32)) d_Model_init_196 (by decide) ?_
  refine z_ic_ge (tgt := 204) C d_Model_init_197 (by decide) hf (fun hf => ?_) (fun hf => ?_)
  · refine z_iload_n C 1 d_Model_init_204 rfl rfl ?_
    refine z_bipush C (v := (24 : Int32)) d_Model_init_205 (by decide) ?_
    refine z_ic_le (tgt := 215) C d_Model_init_207 (by decide) hf (fun hf => ?_) (fun hf => ?_)
    · refine z_iload_n C 1 d_Model_init_215 rfl rfl ?_
      refine z_sub [0, 2] rfl ?_
      exact k_Model_init_216 N C E hin _ _ _ _ _ hf
    · refine z_bipush C (v := (24 : Int32)) d_Model_init_210 (by decide) ?_
      refine z_goto (tgt := 216) C d_Model_init_212 (by decide) ?_
      refine z_sub [0, 2] rfl ?_
      exact k_Model_init_216 N C E hin _ _ _ _ _ hf
  · refine z_iconst C (v := (2 : Int32)) d_Model_init_200 (by decide) ?_
    refine z_goto (tgt := 216) C d_Model_init_201 (by decide) ?_
    refine z_sub [0, 2] rfl ?_
    exact k_Model_init_216 N C E hin _ _ _ _ _ hf

theorem c_Model_init (N : Nat) {l : Launch} {D : va_G} {T : List (ClassId × FieldType)} (hT : T.map (fun q => q.2) = ztl) {x0 : Nat} {x1 : Int32} {x2 : Int32} {h : zH} {p : Unit × zH} (hf : f_Model_init N x0 x1 x2 h = some p) : zM l y_Model_init prog_10_method_1_code 4 none rm_Model_init D T [.ref x0, .int x1, .int x2] h none p.2 :=
  z_enter (by decide) hT (Nat.le_of_ble_eq_true rfl) (fun X el eD eT hin C E => k_Model_init N C E (hin rfl) x0 x1 x2 h hf)
/-! ===== LevelTablesModel.isPlace(I)Z ===== -/
abbrev y_Model_isPlace : MethodName := ⟨R_Model, "isPlace", "(I)Z"⟩
theorem pd_Model_isPlace : y_Model_isPlace.cls ≠ "java/lang/invoke/MethodHandle" ∧ y_Model_isPlace.cls ≠ "java/lang/invoke/VarHandle" ∧ (parseMethodDescriptor y_Model_isPlace.desc).map (fun d => d.parameters.length) = some 1 := ⟨by decide +kernel, by decide +kernel, by decide +kernel⟩
abbrev rm_Model_isPlace : Room := { frames := 0, cells := 0, slots := 0, locals := 0 }
def f_Model_isPlace (N : Nat) (x0 : Nat) (x1 : Int32) (h : zH) : Option (Int32 × zH) :=
  (if x1 < 0 then
    zrb (0 : Int32) h
  else
    Option.bind (zgI h x0 0 0) fun (v1 : Int32) =>
    (if v1 < x1 then
      zrb (0 : Int32) h
    else
      zrb (1 : Int32) h))
theorem d_Model_isPlace_0 : decode prog_10_method_2_code 0 = .ok (.iload_n (1), 1) := by decide +kernel
theorem d_Model_isPlace_1 : decode prog_10_method_2_code 1 = .ok (.ifCond .lt (15), 3) := by decide +kernel
theorem d_Model_isPlace_4 : decode prog_10_method_2_code 4 = .ok (.iload_n (1), 1) := by decide +kernel
theorem d_Model_isPlace_5 : decode prog_10_method_2_code 5 = .ok (.aload_n (0), 1) := by decide +kernel
theorem d_Model_isPlace_6 : decode prog_10_method_2_code 6 = .ok (.getfield (89), 3) := by decide +kernel
theorem d_Model_isPlace_9 : decode prog_10_method_2_code 9 = .ok (.if_icmp .gt (7), 3) := by decide +kernel
theorem d_Model_isPlace_12 : decode prog_10_method_2_code 12 = .ok (.iconst (1), 1) := by decide +kernel
theorem d_Model_isPlace_13 : decode prog_10_method_2_code 13 = .ok (.goto (4), 3) := by decide +kernel
theorem d_Model_isPlace_16 : decode prog_10_method_2_code 16 = .ok (.iconst (0), 1) := by decide +kernel
theorem d_Model_isPlace_17 : decode prog_10_method_2_code 17 = .ok (.ireturn, 1) := by decide +kernel
set_option maxHeartbeats 4000000 in
set_option maxRecDepth 100000 in
theorem k_Model_isPlace (N : Nat) {X : zX} (C : zB X prog_10_method_2_code 2 R_Model rm_Model_isPlace) {h0 : zH} {p : Int32 × zH} (E : zR X (some .boolean) rm_Model_isPlace h0 (some (.int p.1)) p.2) : ∀ (x0 : Nat) (x1 : Int32) (h : zH), f_Model_isPlace N x0 x1 h = some p → Zt X 2 0 0 0 [(0, .ref x0), (1, .int x1)] [] h := by
  intro x0 x1 h hf
  unfold f_Model_isPlace at hf
  refine z_iload_n C 1 d_Model_isPlace_0 rfl rfl ?_
  refine z_if_lt (tgt := 16) C d_Model_isPlace_1 (by decide) hf (fun hf => ?_) (fun hf => ?_)
  · refine z_iconst C (v := (0 : Int32)) d_Model_isPlace_16 (by decide) ?_
    exact z_zret C E (Nat.le_of_ble_eq_true rfl) (Nat.le_of_ble_eq_true rfl) d_Model_isPlace_17 hf
  · refine z_iload_n C 1 d_Model_isPlace_4 rfl rfl ?_
    refine z_aload_n C 0 d_Model_isPlace_5 rfl rfl ?_
    refine z_getI C 0 0 rfl in_Model (by decide) w_741 rfl d_Model_isPlace_6 hf (fun v1 hf => ?_)
    refine z_ic_gt (tgt := 16) C d_Model_isPlace_9 (by decide) hf (fun hf => ?_) (fun hf => ?_)
    · refine z_iconst C (v := (0 : Int32)) d_Model_isPlace_16 (by decide) ?_
      exact z_zret C E (Nat.le_of_ble_eq_true rfl) (Nat.le_of_ble_eq_true rfl) d_Model_isPlace_17 hf
    · refine z_iconst C (v := (1 : Int32)) d_Model_isPlace_12 (by decide) ?_
      refine z_goto (tgt := 17) C d_Model_isPlace_13 (by decide) ?_
      exact z_zret C E (Nat.le_of_ble_eq_true rfl) (Nat.le_of_ble_eq_true rfl) d_Model_isPlace_17 hf

theorem c_Model_isPlace (N : Nat) {l : Launch} {D : va_G} {T : List (ClassId × FieldType)} (hT : T.map (fun q => q.2) = ztl) {x0 : Nat} {x1 : Int32} {h : zH} {p : Int32 × zH} (hf : f_Model_isPlace N x0 x1 h = some p) : zM l y_Model_isPlace prog_10_method_2_code 2 (some .boolean) rm_Model_isPlace D T [.ref x0, .int x1] h (some (.int p.1)) p.2 :=
  z_enter (by decide) hT (Nat.le_of_ble_eq_true rfl) (fun X el eD eT hin C E => k_Model_isPlace N C E x0 x1 h hf)
/-! ===== LevelTablesModel.isLevel(I)Z ===== -/
abbrev y_Model_isLevel : MethodName := ⟨R_Model, "isLevel", "(I)Z"⟩
theorem pd_Model_isLevel : y_Model_isLevel.cls ≠ "java/lang/invoke/MethodHandle" ∧ y_Model_isLevel.cls ≠ "java/lang/invoke/VarHandle" ∧ (parseMethodDescriptor y_Model_isLevel.desc).map (fun d => d.parameters.length) = some 1 := ⟨by decide +kernel, by decide +kernel, by decide +kernel⟩
abbrev rm_Model_isLevel : Room := { frames := 0, cells := 0, slots := 0, locals := 0 }
def f_Model_isLevel (N : Nat) (x0 : Nat) (x1 : Int32) (h : zH) : Option (Int32 × zH) :=
  (if x1 < 0 then
    zrb (0 : Int32) h
  else
    Option.bind (zgI h x0 0 1) fun (v1 : Int32) =>
    (if v1 < x1 then
      zrb (0 : Int32) h
    else
      zrb (1 : Int32) h))
theorem d_Model_isLevel_0 : decode prog_10_method_3_code 0 = .ok (.iload_n (1), 1) := by decide +kernel
theorem d_Model_isLevel_1 : decode prog_10_method_3_code 1 = .ok (.ifCond .lt (15), 3) := by decide +kernel
theorem d_Model_isLevel_4 : decode prog_10_method_3_code 4 = .ok (.iload_n (1), 1) := by decide +kernel
theorem d_Model_isLevel_5 : decode prog_10_method_3_code 5 = .ok (.aload_n (0), 1) := by decide +kernel
theorem d_Model_isLevel_6 : decode prog_10_method_3_code 6 = .ok (.getfield (92), 3) := by decide +kernel
theorem d_Model_isLevel_9 : decode prog_10_method_3_code 9 = .ok (.if_icmp .gt (7), 3) := by decide +kernel
theorem d_Model_isLevel_12 : decode prog_10_method_3_code 12 = .ok (.iconst (1), 1) := by decide +kernel
theorem d_Model_isLevel_13 : decode prog_10_method_3_code 13 = .ok (.goto (4), 3) := by decide +kernel
theorem d_Model_isLevel_16 : decode prog_10_method_3_code 16 = .ok (.iconst (0), 1) := by decide +kernel
theorem d_Model_isLevel_17 : decode prog_10_method_3_code 17 = .ok (.ireturn, 1) := by decide +kernel
set_option maxHeartbeats 4000000 in
set_option maxRecDepth 100000 in
theorem k_Model_isLevel (N : Nat) {X : zX} (C : zB X prog_10_method_3_code 2 R_Model rm_Model_isLevel) {h0 : zH} {p : Int32 × zH} (E : zR X (some .boolean) rm_Model_isLevel h0 (some (.int p.1)) p.2) : ∀ (x0 : Nat) (x1 : Int32) (h : zH), f_Model_isLevel N x0 x1 h = some p → Zt X 2 0 0 0 [(0, .ref x0), (1, .int x1)] [] h := by
  intro x0 x1 h hf
  unfold f_Model_isLevel at hf
  refine z_iload_n C 1 d_Model_isLevel_0 rfl rfl ?_
  refine z_if_lt (tgt := 16) C d_Model_isLevel_1 (by decide) hf (fun hf => ?_) (fun hf => ?_)
  · refine z_iconst C (v := (0 : Int32)) d_Model_isLevel_16 (by decide) ?_
    exact z_zret C E (Nat.le_of_ble_eq_true rfl) (Nat.le_of_ble_eq_true rfl) d_Model_isLevel_17 hf
  · refine z_iload_n C 1 d_Model_isLevel_4 rfl rfl ?_
    refine z_aload_n C 0 d_Model_isLevel_5 rfl rfl ?_
    refine z_getI C 0 1 rfl in_Model (by decide) w_742 rfl d_Model_isLevel_6 hf (fun v1 hf => ?_)
    refine z_ic_gt (tgt := 16) C d_Model_isLevel_9 (by decide) hf (fun hf => ?_) (fun hf => ?_)
    · refine z_iconst C (v := (0 : Int32)) d_Model_isLevel_16 (by decide) ?_
      exact z_zret C E (Nat.le_of_ble_eq_true rfl) (Nat.le_of_ble_eq_true rfl) d_Model_isLevel_17 hf
    · refine z_iconst C (v := (1 : Int32)) d_Model_isLevel_12 (by decide) ?_
      refine z_goto (tgt := 17) C d_Model_isLevel_13 (by decide) ?_
      exact z_zret C E (Nat.le_of_ble_eq_true rfl) (Nat.le_of_ble_eq_true rfl) d_Model_isLevel_17 hf

theorem c_Model_isLevel (N : Nat) {l : Launch} {D : va_G} {T : List (ClassId × FieldType)} (hT : T.map (fun q => q.2) = ztl) {x0 : Nat} {x1 : Int32} {h : zH} {p : Int32 × zH} (hf : f_Model_isLevel N x0 x1 h = some p) : zM l y_Model_isLevel prog_10_method_3_code 2 (some .boolean) rm_Model_isLevel D T [.ref x0, .int x1] h (some (.int p.1)) p.2 :=
  z_enter (by decide) hT (Nat.le_of_ble_eq_true rfl) (fun X el eD eT hin C E => k_Model_isLevel N C E x0 x1 h hf)
/-! ===== LevelTablesModel.dropCurves()V ===== -/
abbrev y_Model_dropCurves : MethodName := ⟨R_Model, "dropCurves", "()V"⟩
theorem pd_Model_dropCurves : y_Model_dropCurves.cls ≠ "java/lang/invoke/MethodHandle" ∧ y_Model_dropCurves.cls ≠ "java/lang/invoke/VarHandle" ∧ (parseMethodDescriptor y_Model_dropCurves.desc).map (fun d => d.parameters.length) = some 0 := ⟨by decide +kernel, by decide +kernel, by decide +kernel⟩
abbrev rm_Model_dropCurves : Room := { frames := 0, cells := 0, slots := 0, locals := 0 }
def b_Model_dropCurves_2 (N : Nat) (rc2 : Nat → Int32 → zH → Option (Unit × zH)) (x0 : Nat) (x1 : Int32) (h : zH) : Option (Unit × zH) :=
  (if (25 : Int32) ≤ x1 then
    some ((), h)
  else
    Option.bind (zgR h x0 0 28) fun (v1 : Nat) =>
    Option.bind (zsI h 0 v1 x1 (0 : Int32)) fun (h2 : zH) =>
    rc2 x0 (x1 + (1 : Int32)) h2)
def f_Model_dropCurves_2 (N : Nat) : Nat → Nat → Int32 → zH → Option (Unit × zH)
  | 0 => fun _ _ _ => none
  | n + 1 => fun x0 x1 h => b_Model_dropCurves_2 N (f_Model_dropCurves_2 N n) x0 x1 h
def f_Model_dropCurves (N : Nat) (x0 : Nat) (h : zH) : Option (Unit × zH) :=
  f_Model_dropCurves_2 N N x0 (0 : Int32) h
theorem d_Model_dropCurves_0 : decode prog_10_method_5_code 0 = .ok (.iconst (0), 1) := by decide +kernel
theorem d_Model_dropCurves_1 : decode prog_10_method_5_code 1 = .ok (.istore_n (1), 1) := by decide +kernel
theorem d_Model_dropCurves_2 : decode prog_10_method_5_code 2 = .ok (.iload_n (1), 1) := by decide +kernel
theorem d_Model_dropCurves_3 : decode prog_10_method_5_code 3 = .ok (.bipush (25), 2) := by decide +kernel
theorem d_Model_dropCurves_5 : decode prog_10_method_5_code 5 = .ok (.if_icmp .ge (16), 3) := by decide +kernel
theorem d_Model_dropCurves_8 : decode prog_10_method_5_code 8 = .ok (.aload_n (0), 1) := by decide +kernel
theorem d_Model_dropCurves_9 : decode prog_10_method_5_code 9 = .ok (.getfield (71), 3) := by decide +kernel
theorem d_Model_dropCurves_12 : decode prog_10_method_5_code 12 = .ok (.iload_n (1), 1) := by decide +kernel
theorem d_Model_dropCurves_13 : decode prog_10_method_5_code 13 = .ok (.iconst (0), 1) := by decide +kernel
theorem d_Model_dropCurves_14 : decode prog_10_method_5_code 14 = .ok (.iastore, 1) := by decide +kernel
theorem d_Model_dropCurves_15 : decode prog_10_method_5_code 15 = .ok (.iinc (1) (1), 3) := by decide +kernel
theorem d_Model_dropCurves_18 : decode prog_10_method_5_code 18 = .ok (.goto (-16), 3) := by decide +kernel
theorem d_Model_dropCurves_21 : decode prog_10_method_5_code 21 = .ok (.return_, 1) := by decide +kernel
set_option maxHeartbeats 4000000 in
set_option maxRecDepth 100000 in
theorem k_Model_dropCurves_2 (N : Nat) {X : zX} (C : zB X prog_10_method_5_code 2 R_Model rm_Model_dropCurves) {h0 : zH} {p : Unit × zH} (E : zR X none rm_Model_dropCurves h0 none p.2) : ∀ n : Nat, ∀ (x0 : Nat) (x1 : Int32) (h : zH), f_Model_dropCurves_2 N n x0 x1 h = some p → Zt X 2 0 0 2 [(0, .ref x0), (1, .int x1)] [] h := by
  intro n
  induction n with
  | zero => intro x0 x1 h hf; cases hf
  | succ n ih =>
  intro x0 x1 h hf
  have H2 := ih
  replace hf : b_Model_dropCurves_2 N (f_Model_dropCurves_2 N n) x0 x1 h = some p := hf
  unfold b_Model_dropCurves_2 at hf
  refine z_iload_n C 1 d_Model_dropCurves_2 rfl rfl ?_
  refine z_bipush C (v := (25 : Int32)) d_Model_dropCurves_3 (by decide) ?_
  refine z_ic_ge (tgt := 21) C d_Model_dropCurves_5 (by decide) hf (fun hf => ?_) (fun hf => ?_)
  · exact z_vret C E (Nat.le_of_ble_eq_true rfl) (Nat.le_of_ble_eq_true rfl) d_Model_dropCurves_21 hf
  · refine z_aload_n C 0 d_Model_dropCurves_8 rfl rfl ?_
    refine z_getR C 0 28 rfl in_Model (by decide) w_769 rfl d_Model_dropCurves_9 hf (fun v1 hf => ?_)
    refine z_iload_n C 1 d_Model_dropCurves_12 rfl rfl ?_
    refine z_iconst C (v := (0 : Int32)) d_Model_dropCurves_13 (by decide) ?_
    refine z_iast C d_Model_dropCurves_14 hf (fun h2 hf => ?_)
    refine z_iinc C (v := (x1 + (1 : Int32))) (lv' := [(1, .int (x1 + (1 : Int32))), (0, .ref x0)]) 1 d_Model_dropCurves_15 rfl (by rfl) (by decide) rfl ?_
    refine z_goto (tgt := 2) C d_Model_dropCurves_18 (by decide) ?_
    refine z_sub [1, 0] rfl ?_
    exact H2 _ _ _ hf

set_option maxHeartbeats 4000000 in
set_option maxRecDepth 100000 in
theorem k_Model_dropCurves (N : Nat) {X : zX} (C : zB X prog_10_method_5_code 2 R_Model rm_Model_dropCurves) {h0 : zH} {p : Unit × zH} (E : zR X none rm_Model_dropCurves h0 none p.2) : ∀ (x0 : Nat) (h : zH), f_Model_dropCurves N x0 h = some p → Zt X 2 0 0 0 [(0, .ref x0)] [] h := by
  intro x0 h hf
  unfold f_Model_dropCurves at hf
  refine z_iconst C (v := (0 : Int32)) d_Model_dropCurves_0 (by decide) ?_
  refine z_istore_n C (lv' := [(1, .int (0 : Int32)), (0, .ref x0)]) d_Model_dropCurves_1 rfl (by decide) rfl ?_
  refine z_sub [1, 0] rfl ?_
  exact k_Model_dropCurves_2 N C E N _ _ _ hf

theorem c_Model_dropCurves (N : Nat) {l : Launch} {D : va_G} {T : List (ClassId × FieldType)} (hT : T.map (fun q => q.2) = ztl) {x0 : Nat} {h : zH} {p : Unit × zH} (hf : f_Model_dropCurves N x0 h = some p) : zM l y_Model_dropCurves prog_10_method_5_code 2 none rm_Model_dropCurves D T [.ref x0] h none p.2 :=
  z_enter (by decide) hT (Nat.le_of_ble_eq_true rfl) (fun X el eD eT hin C E => k_Model_dropCurves N C E x0 h hf)
/-! ===== LevelTablesModel.isPrice(I)Z ===== -/
abbrev y_Model_isPrice : MethodName := ⟨R_Model, "isPrice", "(I)Z"⟩
theorem pd_Model_isPrice : y_Model_isPrice.cls ≠ "java/lang/invoke/MethodHandle" ∧ y_Model_isPrice.cls ≠ "java/lang/invoke/VarHandle" ∧ (parseMethodDescriptor y_Model_isPrice.desc).map (fun d => d.parameters.length) = some 1 := ⟨by decide +kernel, by decide +kernel, by decide +kernel⟩
abbrev rm_Model_isPrice : Room := { frames := 0, cells := 0, slots := 0, locals := 0 }
def f_Model_isPrice (N : Nat) (x0 : Int32) (h : zH) : Option (Int32 × zH) :=
  (if x0 < 0 then
    zrb (0 : Int32) h
  else
    (if (1000000 : Int32) < x0 then
      zrb (0 : Int32) h
    else
      zrb (1 : Int32) h))
theorem d_Model_isPrice_0 : decode prog_10_method_7_code 0 = .ok (.iload_n (0), 1) := by decide +kernel
theorem d_Model_isPrice_1 : decode prog_10_method_7_code 1 = .ok (.ifCond .lt (13), 3) := by decide +kernel
theorem d_Model_isPrice_4 : decode prog_10_method_7_code 4 = .ok (.iload_n (0), 1) := by decide +kernel
theorem d_Model_isPrice_5 : decode prog_10_method_7_code 5 = .ok (.ldc (115), 2) := by decide +kernel
theorem d_Model_isPrice_7 : decode prog_10_method_7_code 7 = .ok (.if_icmp .gt (7), 3) := by decide +kernel
theorem d_Model_isPrice_10 : decode prog_10_method_7_code 10 = .ok (.iconst (1), 1) := by decide +kernel
theorem d_Model_isPrice_11 : decode prog_10_method_7_code 11 = .ok (.goto (4), 3) := by decide +kernel
theorem d_Model_isPrice_14 : decode prog_10_method_7_code 14 = .ok (.iconst (0), 1) := by decide +kernel
theorem d_Model_isPrice_15 : decode prog_10_method_7_code 15 = .ok (.ireturn, 1) := by decide +kernel
set_option maxHeartbeats 4000000 in
set_option maxRecDepth 100000 in
theorem k_Model_isPrice (N : Nat) {X : zX} (C : zB X prog_10_method_7_code 1 R_Model rm_Model_isPrice) {h0 : zH} {p : Int32 × zH} (E : zR X (some .boolean) rm_Model_isPrice h0 (some (.int p.1)) p.2) : ∀ (x0 : Int32) (h : zH), f_Model_isPrice N x0 h = some p → Zt X 1 0 0 0 [(0, .int x0)] [] h := by
  intro x0 h hf
  unfold f_Model_isPrice at hf
  refine z_iload_n C 0 d_Model_isPrice_0 rfl rfl ?_
  refine z_if_lt (tgt := 14) C d_Model_isPrice_1 (by decide) hf (fun hf => ?_) (fun hf => ?_)
  · refine z_iconst C (v := (0 : Int32)) d_Model_isPrice_14 (by decide) ?_
    exact z_zret C E (Nat.le_of_ble_eq_true rfl) (Nat.le_of_ble_eq_true rfl) d_Model_isPrice_15 hf
  · refine z_iload_n C 0 d_Model_isPrice_4 rfl rfl ?_
    refine z_ldc C d_Model_isPrice_5 w_875 ?_
    refine z_ic_gt (tgt := 14) C d_Model_isPrice_7 (by decide) hf (fun hf => ?_) (fun hf => ?_)
    · refine z_iconst C (v := (0 : Int32)) d_Model_isPrice_14 (by decide) ?_
      exact z_zret C E (Nat.le_of_ble_eq_true rfl) (Nat.le_of_ble_eq_true rfl) d_Model_isPrice_15 hf
    · refine z_iconst C (v := (1 : Int32)) d_Model_isPrice_10 (by decide) ?_
      refine z_goto (tgt := 15) C d_Model_isPrice_11 (by decide) ?_
      exact z_zret C E (Nat.le_of_ble_eq_true rfl) (Nat.le_of_ble_eq_true rfl) d_Model_isPrice_15 hf

theorem c_Model_isPrice (N : Nat) {l : Launch} {D : va_G} {T : List (ClassId × FieldType)} (hT : T.map (fun q => q.2) = ztl) {x0 : Int32} {h : zH} {p : Int32 × zH} (hf : f_Model_isPrice N x0 h = some p) : zM l y_Model_isPrice prog_10_method_7_code 1 (some .boolean) rm_Model_isPrice D T [.int x0] h (some (.int p.1)) p.2 :=
  z_enter (by decide) hT (Nat.le_of_ble_eq_true rfl) (fun X el eD eT hin C E => k_Model_isPrice N C E x0 h hf)
/-! ===== LevelTablesModel.may(II)Z ===== -/
abbrev y_Model_may : MethodName := ⟨R_Model, "may", "(II)Z"⟩
theorem pd_Model_may : y_Model_may.cls ≠ "java/lang/invoke/MethodHandle" ∧ y_Model_may.cls ≠ "java/lang/invoke/VarHandle" ∧ (parseMethodDescriptor y_Model_may.desc).map (fun d => d.parameters.length) = some 2 := ⟨by decide +kernel, by decide +kernel, by decide +kernel⟩
abbrev rm_Model_may : Room := { frames := 1, cells := 0, slots := 0, locals := 21 }
def f_Model_may_48 (N : Nat)  (h : zH) : Option (Int32 × zH) :=
  zrb (1 : Int32) h
def f_Model_may_28 (N : Nat) (x0 : Nat) (x1 : Int32) (x2 : Int32) (h : zH) : Option (Int32 × zH) :=
  Option.bind (zgR h x0 0 6) fun (v1 : Nat) =>
  Option.bind (zaI h 0 v1 x1) fun (v2 : Int32) =>
  (if v2 = (-1 : Int32) then
    f_Model_may_48 N  h
  else
    Option.bind (zgR h x0 0 6) fun (v3 : Nat) =>
    Option.bind (zaI h 0 v3 x1) fun (v4 : Int32) =>
    (if v4 = x2 then
      f_Model_may_48 N  h
    else
      zrb (0 : Int32) h))
def f_Model_may (N : Nat) (x0 : Nat) (x1 : Int32) (x2 : Int32) (h : zH) : Option (Int32 × zH) :=
  Option.bind (zck (zis h x0 0) (f_Model_isLevel N x0 x2 h)) fun (p5 : Int32 × zH) =>
  (if p5.1 = 0 then
    zrb (0 : Int32) p5.2
  else
    Option.bind (zgR p5.2 x0 0 5) fun (v6 : Nat) =>
    Option.bind (zaI p5.2 0 v6 x1) fun (v7 : Int32) =>
    (if v7 = (-1 : Int32) then
      f_Model_may_28 N x0 x1 x2 p5.2
    else
      Option.bind (zgR p5.2 x0 0 5) fun (v8 : Nat) =>
      Option.bind (zaI p5.2 0 v8 x1) fun (v9 : Int32) =>
      (if v9 = x2 then
        f_Model_may_28 N x0 x1 x2 p5.2
      else
        zrb (0 : Int32) p5.2)))
theorem d_Model_may_0 : decode prog_10_method_13_code 0 = .ok (.aload_n (0), 1) := by decide +kernel
theorem d_Model_may_1 : decode prog_10_method_13_code 1 = .ok (.iload_n (2), 1) := by decide +kernel
theorem d_Model_may_2 : decode prog_10_method_13_code 2 = .ok (.invokevirtual (109), 3) := by decide +kernel
theorem d_Model_may_5 : decode prog_10_method_13_code 5 = .ok (.ifCond .eq (47), 3) := by decide +kernel
theorem d_Model_may_8 : decode prog_10_method_13_code 8 = .ok (.aload_n (0), 1) := by decide +kernel
theorem d_Model_may_9 : decode prog_10_method_13_code 9 = .ok (.getfield (19), 3) := by decide +kernel
theorem d_Model_may_12 : decode prog_10_method_13_code 12 = .ok (.iload_n (1), 1) := by decide +kernel
theorem d_Model_may_13 : decode prog_10_method_13_code 13 = .ok (.iaload, 1) := by decide +kernel
theorem d_Model_may_14 : decode prog_10_method_13_code 14 = .ok (.iconst (-1), 1) := by decide +kernel
theorem d_Model_may_15 : decode prog_10_method_13_code 15 = .ok (.if_icmp .eq (13), 3) := by decide +kernel
theorem d_Model_may_18 : decode prog_10_method_13_code 18 = .ok (.aload_n (0), 1) := by decide +kernel
theorem d_Model_may_19 : decode prog_10_method_13_code 19 = .ok (.getfield (19), 3) := by decide +kernel
theorem d_Model_may_22 : decode prog_10_method_13_code 22 = .ok (.iload_n (1), 1) := by decide +kernel
theorem d_Model_may_23 : decode prog_10_method_13_code 23 = .ok (.iaload, 1) := by decide +kernel
theorem d_Model_may_24 : decode prog_10_method_13_code 24 = .ok (.iload_n (2), 1) := by decide +kernel
theorem d_Model_may_25 : decode prog_10_method_13_code 25 = .ok (.if_icmp .ne (27), 3) := by decide +kernel
theorem d_Model_may_28 : decode prog_10_method_13_code 28 = .ok (.aload_n (0), 1) := by decide +kernel
theorem d_Model_may_29 : decode prog_10_method_13_code 29 = .ok (.getfield (22), 3) := by decide +kernel
theorem d_Model_may_32 : decode prog_10_method_13_code 32 = .ok (.iload_n (1), 1) := by decide +kernel
theorem d_Model_may_33 : decode prog_10_method_13_code 33 = .ok (.iaload, 1) := by decide +kernel
theorem d_Model_may_34 : decode prog_10_method_13_code 34 = .ok (.iconst (-1), 1) := by decide +kernel
theorem d_Model_may_35 : decode prog_10_method_13_code 35 = .ok (.if_icmp .eq (13), 3) := by decide +kernel
theorem d_Model_may_38 : decode prog_10_method_13_code 38 = .ok (.aload_n (0), 1) := by decide +kernel
theorem d_Model_may_39 : decode prog_10_method_13_code 39 = .ok (.getfield (22), 3) := by decide +kernel
theorem d_Model_may_42 : decode prog_10_method_13_code 42 = .ok (.iload_n (1), 1) := by decide +kernel
theorem d_Model_may_43 : decode prog_10_method_13_code 43 = .ok (.iaload, 1) := by decide +kernel
theorem d_Model_may_44 : decode prog_10_method_13_code 44 = .ok (.iload_n (2), 1) := by decide +kernel
theorem d_Model_may_45 : decode prog_10_method_13_code 45 = .ok (.if_icmp .ne (7), 3) := by decide +kernel
theorem d_Model_may_48 : decode prog_10_method_13_code 48 = .ok (.iconst (1), 1) := by decide +kernel
theorem d_Model_may_49 : decode prog_10_method_13_code 49 = .ok (.goto (4), 3) := by decide +kernel
theorem d_Model_may_52 : decode prog_10_method_13_code 52 = .ok (.iconst (0), 1) := by decide +kernel
theorem d_Model_may_53 : decode prog_10_method_13_code 53 = .ok (.ireturn, 1) := by decide +kernel
set_option maxHeartbeats 4000000 in
set_option maxRecDepth 100000 in
theorem k_Model_may_48 (N : Nat) {X : zX} (C : zB X prog_10_method_13_code 3 R_Model rm_Model_may) {h0 : zH} {p : Int32 × zH} (E : zR X (some .boolean) rm_Model_may h0 (some (.int p.1)) p.2) : ∀  (h : zH), f_Model_may_48 N  h = some p → Zt X 3 0 0 48 [] [] h := by
  intro  h hf
  unfold f_Model_may_48 at hf
  refine z_iconst C (v := (1 : Int32)) d_Model_may_48 (by decide) ?_
  refine z_goto (tgt := 53) C d_Model_may_49 (by decide) ?_
  exact z_zret C E (Nat.le_of_ble_eq_true rfl) (Nat.le_of_ble_eq_true rfl) d_Model_may_53 hf

set_option maxHeartbeats 4000000 in
set_option maxRecDepth 100000 in
theorem k_Model_may_28 (N : Nat) {X : zX} (C : zB X prog_10_method_13_code 3 R_Model rm_Model_may) {h0 : zH} {p : Int32 × zH} (E : zR X (some .boolean) rm_Model_may h0 (some (.int p.1)) p.2) : ∀ (x0 : Nat) (x1 : Int32) (x2 : Int32) (h : zH), f_Model_may_28 N x0 x1 x2 h = some p → Zt X 3 0 0 28 [(0, .ref x0), (1, .int x1), (2, .int x2)] [] h := by
  intro x0 x1 x2 h hf
  unfold f_Model_may_28 at hf
  refine z_aload_n C 0 d_Model_may_28 rfl rfl ?_
  refine z_getR C 0 6 rfl in_Model (by decide) w_747 rfl d_Model_may_29 hf (fun v1 hf => ?_)
  refine z_iload_n C 1 d_Model_may_32 rfl rfl ?_
  refine z_iald C d_Model_may_33 hf (fun v2 hf => ?_)
  refine z_iconst C (v := (-1 : Int32)) d_Model_may_34 (by decide) ?_
  refine z_ic_eq (tgt := 48) C d_Model_may_35 (by decide) hf (fun hf => ?_) (fun hf => ?_)
  · refine z_sub [] rfl ?_
    exact k_Model_may_48 N C E  _ hf
  · refine z_aload_n C 0 d_Model_may_38 rfl rfl ?_
    refine z_getR C 0 6 rfl in_Model (by decide) w_747 rfl d_Model_may_39 hf (fun v3 hf => ?_)
    refine z_iload_n C 1 d_Model_may_42 rfl rfl ?_
    refine z_iald C d_Model_may_43 hf (fun v4 hf => ?_)
    refine z_iload_n C 2 d_Model_may_44 rfl rfl ?_
    refine z_ic_ne (tgt := 52) C d_Model_may_45 (by decide) hf (fun hf => ?_) (fun hf => ?_)
    · refine z_iconst C (v := (0 : Int32)) d_Model_may_52 (by decide) ?_
      exact z_zret C E (Nat.le_of_ble_eq_true rfl) (Nat.le_of_ble_eq_true rfl) d_Model_may_53 hf
    · refine z_sub [] rfl ?_
      exact k_Model_may_48 N C E  _ hf

set_option maxHeartbeats 4000000 in
set_option maxRecDepth 100000 in
theorem k_Model_may (N : Nat) {X : zX} (C : zB X prog_10_method_13_code 3 R_Model rm_Model_may) {h0 : zH} {p : Int32 × zH} (E : zR X (some .boolean) rm_Model_may h0 (some (.int p.1)) p.2) : ∀ (x0 : Nat) (x1 : Int32) (x2 : Int32) (h : zH), f_Model_may N x0 x1 x2 h = some p → Zt X 3 0 0 0 [(0, .ref x0), (1, .int x1), (2, .int x2)] [] h := by
  intro x0 x1 x2 h hf
  unfold f_Model_may at hf
  refine z_aload_n C 0 d_Model_may_0 rfl rfl ?_
  refine z_iload_n C 2 d_Model_may_1 rfl rfl ?_
  obtain ⟨p5, hc, hf⟩ := Option.bind_eq_some_iff.mp hf
  obtain ⟨hz, hc⟩ := zck_some hc
  refine z_callV C (ci := 0) (c_Model_isLevel N C.2.2.1 hc) rfl hz w_859 w_66 w_856 w_858 w_33 pd_Model_isLevel rfl ⟨(Nat.le_of_ble_eq_true rfl), (Nat.le_of_ble_eq_true rfl)⟩ ⟨(Nat.le_of_ble_eq_true rfl), (Nat.le_of_ble_eq_true rfl)⟩ rfl (Nat.le_of_ble_eq_true rfl) d_Model_may_2 (k' := 0) (n' := 0) (stk' := [.int p5.1]) rfl rfl rfl ?_
  refine z_if_eq (tgt := 52) C d_Model_may_5 (by decide) hf (fun hf => ?_) (fun hf => ?_)
  · refine z_iconst C (v := (0 : Int32)) d_Model_may_52 (by decide) ?_
    exact z_zret C E (Nat.le_of_ble_eq_true rfl) (Nat.le_of_ble_eq_true rfl) d_Model_may_53 hf
  · refine z_aload_n C 0 d_Model_may_8 rfl rfl ?_
    refine z_getR C 0 5 rfl in_Model (by decide) w_746 rfl d_Model_may_9 hf (fun v6 hf => ?_)
    refine z_iload_n C 1 d_Model_may_12 rfl rfl ?_
    refine z_iald C d_Model_may_13 hf (fun v7 hf => ?_)
    refine z_iconst C (v := (-1 : Int32)) d_Model_may_14 (by decide) ?_
    refine z_ic_eq (tgt := 28) C d_Model_may_15 (by decide) hf (fun hf => ?_) (fun hf => ?_)
    · refine z_sub [0, 1, 2] rfl ?_
      exact k_Model_may_28 N C E _ _ _ _ hf
    · refine z_aload_n C 0 d_Model_may_18 rfl rfl ?_
      refine z_getR C 0 5 rfl in_Model (by decide) w_746 rfl d_Model_may_19 hf (fun v8 hf => ?_)
      refine z_iload_n C 1 d_Model_may_22 rfl rfl ?_
      refine z_iald C d_Model_may_23 hf (fun v9 hf => ?_)
      refine z_iload_n C 2 d_Model_may_24 rfl rfl ?_
      refine z_ic_ne (tgt := 52) C d_Model_may_25 (by decide) hf (fun hf => ?_) (fun hf => ?_)
      · refine z_iconst C (v := (0 : Int32)) d_Model_may_52 (by decide) ?_
        exact z_zret C E (Nat.le_of_ble_eq_true rfl) (Nat.le_of_ble_eq_true rfl) d_Model_may_53 hf
      · refine z_sub [0, 1, 2] rfl ?_
        exact k_Model_may_28 N C E _ _ _ _ hf

theorem c_Model_may (N : Nat) {l : Launch} {D : va_G} {T : List (ClassId × FieldType)} (hT : T.map (fun q => q.2) = ztl) {x0 : Nat} {x1 : Int32} {x2 : Int32} {h : zH} {p : Int32 × zH} (hf : f_Model_may N x0 x1 x2 h = some p) : zM l y_Model_may prog_10_method_13_code 3 (some .boolean) rm_Model_may D T [.ref x0, .int x1, .int x2] h (some (.int p.1)) p.2 :=
  z_enter (by decide) hT (Nat.le_of_ble_eq_true rfl) (fun X el eD eT hin C E => k_Model_may N C E x0 x1 x2 h hf)
/-! ===== LevelTablesModel.size(I)I ===== -/
abbrev y_Model_size : MethodName := ⟨R_Model, "size", "(I)I"⟩
theorem pd_Model_size : y_Model_size.cls ≠ "java/lang/invoke/MethodHandle" ∧ y_Model_size.cls ≠ "java/lang/invoke/VarHandle" ∧ (parseMethodDescriptor y_Model_size.desc).map (fun d => d.parameters.length) = some 1 := ⟨by decide +kernel, by decide +kernel, by decide +kernel⟩
abbrev rm_Model_size : Room := { frames := 0, cells := 0, slots := 0, locals := 0 }
def f_Model_size (N : Nat) (x0 : Int32) (h : zH) : Option (Int32 × zH) :=
  (if 0 ≤ x0 then
    some (x0, h)
  else
    some ((-x0), h))
theorem d_Model_size_0 : decode prog_10_method_14_code 0 = .ok (.iload_n (0), 1) := by decide +kernel
theorem d_Model_size_1 : decode prog_10_method_14_code 1 = .ok (.ifCond .ge (8), 3) := by decide +kernel
theorem d_Model_size_4 : decode prog_10_method_14_code 4 = .ok (.iload_n (0), 1) := by decide +kernel
theorem d_Model_size_5 : decode prog_10_method_14_code 5 = .ok (.ineg, 1) := by decide +kernel
theorem d_Model_size_6 : decode prog_10_method_14_code 6 = .ok (.goto (4), 3) := by decide +kernel
theorem d_Model_size_9 : decode prog_10_method_14_code 9 = .ok (.iload_n (0), 1) := by decide +kernel
theorem d_Model_size_10 : decode prog_10_method_14_code 10 = .ok (.ireturn, 1) := by decide +kernel
set_option maxHeartbeats 4000000 in
set_option maxRecDepth 100000 in
theorem k_Model_size (N : Nat) {X : zX} (C : zB X prog_10_method_14_code 1 R_Model rm_Model_size) {h0 : zH} {p : Int32 × zH} (E : zR X (some .int) rm_Model_size h0 (some (.int p.1)) p.2) : ∀ (x0 : Int32) (h : zH), f_Model_size N x0 h = some p → Zt X 1 0 0 0 [(0, .int x0)] [] h := by
  intro x0 h hf
  unfold f_Model_size at hf
  refine z_iload_n C 0 d_Model_size_0 rfl rfl ?_
  refine z_if_ge (tgt := 9) C d_Model_size_1 (by decide) hf (fun hf => ?_) (fun hf => ?_)
  · refine z_iload_n C 0 d_Model_size_9 rfl rfl ?_
    exact z_iret C E (Nat.le_of_ble_eq_true rfl) (Nat.le_of_ble_eq_true rfl) d_Model_size_10 hf
  · refine z_iload_n C 0 d_Model_size_4 rfl rfl ?_
    refine z_ineg C d_Model_size_5 ?_
    refine z_goto (tgt := 10) C d_Model_size_6 (by decide) ?_
    exact z_iret C E (Nat.le_of_ble_eq_true rfl) (Nat.le_of_ble_eq_true rfl) d_Model_size_10 hf

theorem c_Model_size (N : Nat) {l : Launch} {D : va_G} {T : List (ClassId × FieldType)} (hT : T.map (fun q => q.2) = ztl) {x0 : Int32} {h : zH} {p : Int32 × zH} (hf : f_Model_size N x0 h = some p) : zM l y_Model_size prog_10_method_14_code 1 (some .int) rm_Model_size D T [.int x0] h (some (.int p.1)) p.2 :=
  z_enter (by decide) hT (Nat.le_of_ble_eq_true rfl) (fun X el eD eT hin C E => k_Model_size N C E x0 h hf)
/-! ===== LevelTablesModel.at(III)I ===== -/
abbrev y_Model_at : MethodName := ⟨R_Model, "at", "(III)I"⟩
theorem pd_Model_at : y_Model_at.cls ≠ "java/lang/invoke/MethodHandle" ∧ y_Model_at.cls ≠ "java/lang/invoke/VarHandle" ∧ (parseMethodDescriptor y_Model_at.desc).map (fun d => d.parameters.length) = some 3 := ⟨by decide +kernel, by decide +kernel, by decide +kernel⟩
abbrev rm_Model_at : Room := { frames := 0, cells := 0, slots := 0, locals := 0 }
def f_Model_at (N : Nat) (x0 : Int32) (x1 : Int32) (x2 : Int32) (h : zH) : Option (Int32 × zH) :=
  some ((((((25 : Int32) * x0) + x1) * (50 : Int32)) + x2), h)
theorem d_Model_at_0 : decode prog_10_method_19_code 0 = .ok (.bipush (25), 2) := by decide +kernel
theorem d_Model_at_2 : decode prog_10_method_19_code 2 = .ok (.iload_n (0), 1) := by decide +kernel
theorem d_Model_at_3 : decode prog_10_method_19_code 3 = .ok (.imul, 1) := by decide +kernel
theorem d_Model_at_4 : decode prog_10_method_19_code 4 = .ok (.iload_n (1), 1) := by decide +kernel
theorem d_Model_at_5 : decode prog_10_method_19_code 5 = .ok (.iadd, 1) := by decide +kernel
theorem d_Model_at_6 : decode prog_10_method_19_code 6 = .ok (.bipush (50), 2) := by decide +kernel
theorem d_Model_at_8 : decode prog_10_method_19_code 8 = .ok (.imul, 1) := by decide +kernel
theorem d_Model_at_9 : decode prog_10_method_19_code 9 = .ok (.iload_n (2), 1) := by decide +kernel
theorem d_Model_at_10 : decode prog_10_method_19_code 10 = .ok (.iadd, 1) := by decide +kernel
theorem d_Model_at_11 : decode prog_10_method_19_code 11 = .ok (.ireturn, 1) := by decide +kernel
set_option maxHeartbeats 4000000 in
set_option maxRecDepth 100000 in
theorem k_Model_at (N : Nat) {X : zX} (C : zB X prog_10_method_19_code 3 R_Model rm_Model_at) {h0 : zH} {p : Int32 × zH} (E : zR X (some .int) rm_Model_at h0 (some (.int p.1)) p.2) : ∀ (x0 : Int32) (x1 : Int32) (x2 : Int32) (h : zH), f_Model_at N x0 x1 x2 h = some p → Zt X 3 0 0 0 [(0, .int x0), (1, .int x1), (2, .int x2)] [] h := by
  intro x0 x1 x2 h hf
  unfold f_Model_at at hf
  refine z_bipush C (v := (25 : Int32)) d_Model_at_0 (by decide) ?_
  refine z_iload_n C 0 d_Model_at_2 rfl rfl ?_
  refine z_imul C d_Model_at_3 ?_
  refine z_iload_n C 1 d_Model_at_4 rfl rfl ?_
  refine z_iadd C d_Model_at_5 ?_
  refine z_bipush C (v := (50 : Int32)) d_Model_at_6 (by decide) ?_
  refine z_imul C d_Model_at_8 ?_
  refine z_iload_n C 2 d_Model_at_9 rfl rfl ?_
  refine z_iadd C d_Model_at_10 ?_
  exact z_iret C E (Nat.le_of_ble_eq_true rfl) (Nat.le_of_ble_eq_true rfl) d_Model_at_11 hf

theorem c_Model_at (N : Nat) {l : Launch} {D : va_G} {T : List (ClassId × FieldType)} (hT : T.map (fun q => q.2) = ztl) {x0 : Int32} {x1 : Int32} {x2 : Int32} {h : zH} {p : Int32 × zH} (hf : f_Model_at N x0 x1 x2 h = some p) : zM l y_Model_at prog_10_method_19_code 3 (some .int) rm_Model_at D T [.int x0, .int x1, .int x2] h (some (.int p.1)) p.2 :=
  z_enter (by decide) hT (Nat.le_of_ble_eq_true rfl) (fun X el eD eT hin C E => k_Model_at N C E x0 x1 x2 h hf)
/-! ===== LevelTablesModel.spanAt(I)I ===== -/
abbrev y_Model_spanAt : MethodName := ⟨R_Model, "spanAt", "(I)I"⟩
theorem pd_Model_spanAt : y_Model_spanAt.cls ≠ "java/lang/invoke/MethodHandle" ∧ y_Model_spanAt.cls ≠ "java/lang/invoke/VarHandle" ∧ (parseMethodDescriptor y_Model_spanAt.desc).map (fun d => d.parameters.length) = some 1 := ⟨by decide +kernel, by decide +kernel, by decide +kernel⟩
abbrev rm_Model_spanAt : Room := { frames := 0, cells := 0, slots := 0, locals := 0 }
def f_Model_spanAt_27 (N : Nat) (rc4 : Nat → Int32 → Int32 → Int32 → zH → Option (Int32 × zH)) (x0 : Nat) (x1 : Int32) (x3 : Int32) (s0 : Int32) (h : zH) : Option (Int32 × zH) :=
  rc4 x0 x1 s0 (x3 + (1 : Int32)) h
def b_Model_spanAt_4 (N : Nat) (rc4 : Nat → Int32 → Int32 → Int32 → zH → Option (Int32 × zH)) (x0 : Nat) (x1 : Int32) (x2 : Int32) (x3 : Int32) (h : zH) : Option (Int32 × zH) :=
  Option.bind (zgI h x0 0 10) fun (v1 : Int32) =>
  (if v1 ≤ x3 then
    some (x2, h)
  else
    Option.bind (zgR h x0 0 11) fun (v2 : Nat) =>
    Option.bind (zaI h 0 v2 x3) fun (v3 : Int32) =>
    (if v3 = x1 then
      f_Model_spanAt_27 N rc4 x0 x1 x3 x3 h
    else
      f_Model_spanAt_27 N rc4 x0 x1 x3 x2 h))
def f_Model_spanAt_4 (N : Nat) : Nat → Nat → Int32 → Int32 → Int32 → zH → Option (Int32 × zH)
  | 0 => fun _ _ _ _ _ => none
  | n + 1 => fun x0 x1 x2 x3 h => b_Model_spanAt_4 N (f_Model_spanAt_4 N n) x0 x1 x2 x3 h
def f_Model_spanAt (N : Nat) (x0 : Nat) (x1 : Int32) (h : zH) : Option (Int32 × zH) :=
  f_Model_spanAt_4 N N x0 x1 (-1 : Int32) (0 : Int32) h
theorem d_Model_spanAt_0 : decode prog_10_method_17_code 0 = .ok (.iconst (-1), 1) := by decide +kernel
theorem d_Model_spanAt_1 : decode prog_10_method_17_code 1 = .ok (.istore_n (2), 1) := by decide +kernel
theorem d_Model_spanAt_2 : decode prog_10_method_17_code 2 = .ok (.iconst (0), 1) := by decide +kernel
theorem d_Model_spanAt_3 : decode prog_10_method_17_code 3 = .ok (.istore_n (3), 1) := by decide +kernel
theorem d_Model_spanAt_4 : decode prog_10_method_17_code 4 = .ok (.iload_n (3), 1) := by decide +kernel
theorem d_Model_spanAt_5 : decode prog_10_method_17_code 5 = .ok (.aload_n (0), 1) := by decide +kernel
theorem d_Model_spanAt_6 : decode prog_10_method_17_code 6 = .ok (.getfield (119), 3) := by decide +kernel
theorem d_Model_spanAt_9 : decode prog_10_method_17_code 9 = .ok (.if_icmp .ge (25), 3) := by decide +kernel
theorem d_Model_spanAt_12 : decode prog_10_method_17_code 12 = .ok (.aload_n (0), 1) := by decide +kernel
theorem d_Model_spanAt_13 : decode prog_10_method_17_code 13 = .ok (.getfield (32), 3) := by decide +kernel
theorem d_Model_spanAt_16 : decode prog_10_method_17_code 16 = .ok (.iload_n (3), 1) := by decide +kernel
theorem d_Model_spanAt_17 : decode prog_10_method_17_code 17 = .ok (.iaload, 1) := by decide +kernel
theorem d_Model_spanAt_18 : decode prog_10_method_17_code 18 = .ok (.iload_n (1), 1) := by decide +kernel
theorem d_Model_spanAt_19 : decode prog_10_method_17_code 19 = .ok (.if_icmp .ne (7), 3) := by decide +kernel
theorem d_Model_spanAt_22 : decode prog_10_method_17_code 22 = .ok (.iload_n (3), 1) := by decide +kernel
theorem d_Model_spanAt_23 : decode prog_10_method_17_code 23 = .ok (.goto (4), 3) := by decide +kernel
theorem d_Model_spanAt_26 : decode prog_10_method_17_code 26 = .ok (.iload_n (2), 1) := by decide +kernel
theorem d_Model_spanAt_27 : decode prog_10_method_17_code 27 = .ok (.istore_n (2), 1) := by decide +kernel
theorem d_Model_spanAt_28 : decode prog_10_method_17_code 28 = .ok (.iinc (3) (1), 3) := by decide +kernel
theorem d_Model_spanAt_31 : decode prog_10_method_17_code 31 = .ok (.goto (-27), 3) := by decide +kernel
theorem d_Model_spanAt_34 : decode prog_10_method_17_code 34 = .ok (.iload_n (2), 1) := by decide +kernel
theorem d_Model_spanAt_35 : decode prog_10_method_17_code 35 = .ok (.ireturn, 1) := by decide +kernel
set_option maxHeartbeats 4000000 in
set_option maxRecDepth 100000 in
theorem k_Model_spanAt_27 (N : Nat) {X : zX} (C : zB X prog_10_method_17_code 4 R_Model rm_Model_spanAt) {h0 : zH} {p : Int32 × zH} (E : zR X (some .int) rm_Model_spanAt h0 (some (.int p.1)) p.2) {rc4 : Nat → Int32 → Int32 → Int32 → zH → Option (Int32 × zH)} (H4 : ∀ (x0 : Nat) (x1 : Int32) (x2 : Int32) (x3 : Int32) (h : zH), rc4 x0 x1 x2 x3 h = some p → Zt X 4 0 0 4 [(0, .ref x0), (1, .int x1), (2, .int x2), (3, .int x3)] [] h) : ∀ (x0 : Nat) (x1 : Int32) (x3 : Int32) (s0 : Int32) (h : zH), f_Model_spanAt_27 N rc4 x0 x1 x3 s0 h = some p → Zt X 4 0 0 27 [(0, .ref x0), (1, .int x1), (3, .int x3)] [.int s0] h := by
  intro x0 x1 x3 s0 h hf
  unfold f_Model_spanAt_27 at hf
  refine z_istore_n C (lv' := [(2, .int s0), (0, .ref x0), (1, .int x1), (3, .int x3)]) d_Model_spanAt_27 rfl (by decide) rfl ?_
  refine z_iinc C (v := (x3 + (1 : Int32))) (lv' := [(3, .int (x3 + (1 : Int32))), (2, .int s0), (0, .ref x0), (1, .int x1)]) 3 d_Model_spanAt_28 rfl (by rfl) (by decide) rfl ?_
  refine z_goto (tgt := 4) C d_Model_spanAt_31 (by decide) ?_
  refine z_sub [2, 3, 1, 0] rfl ?_
  exact H4 _ _ _ _ _ hf

set_option maxHeartbeats 4000000 in
set_option maxRecDepth 100000 in
theorem k_Model_spanAt_4 (N : Nat) {X : zX} (C : zB X prog_10_method_17_code 4 R_Model rm_Model_spanAt) {h0 : zH} {p : Int32 × zH} (E : zR X (some .int) rm_Model_spanAt h0 (some (.int p.1)) p.2) : ∀ n : Nat, ∀ (x0 : Nat) (x1 : Int32) (x2 : Int32) (x3 : Int32) (h : zH), f_Model_spanAt_4 N n x0 x1 x2 x3 h = some p → Zt X 4 0 0 4 [(0, .ref x0), (1, .int x1), (2, .int x2), (3, .int x3)] [] h := by
  intro n
  induction n with
  | zero => intro x0 x1 x2 x3 h hf; cases hf
  | succ n ih =>
  intro x0 x1 x2 x3 h hf
  have H4 := ih
  replace hf : b_Model_spanAt_4 N (f_Model_spanAt_4 N n) x0 x1 x2 x3 h = some p := hf
  unfold b_Model_spanAt_4 at hf
  refine z_iload_n C 3 d_Model_spanAt_4 rfl rfl ?_
  refine z_aload_n C 0 d_Model_spanAt_5 rfl rfl ?_
  refine z_getI C 0 10 rfl in_Model (by decide) w_751 rfl d_Model_spanAt_6 hf (fun v1 hf => ?_)
  refine z_ic_ge (tgt := 34) C d_Model_spanAt_9 (by decide) hf (fun hf => ?_) (fun hf => ?_)
  · refine z_iload_n C 2 d_Model_spanAt_34 rfl rfl ?_
    exact z_iret C E (Nat.le_of_ble_eq_true rfl) (Nat.le_of_ble_eq_true rfl) d_Model_spanAt_35 hf
  · refine z_aload_n C 0 d_Model_spanAt_12 rfl rfl ?_
    refine z_getR C 0 11 rfl in_Model (by decide) w_752 rfl d_Model_spanAt_13 hf (fun v2 hf => ?_)
    refine z_iload_n C 3 d_Model_spanAt_16 rfl rfl ?_
    refine z_iald C d_Model_spanAt_17 hf (fun v3 hf => ?_)
    refine z_iload_n C 1 d_Model_spanAt_18 rfl rfl ?_
    refine z_ic_ne (tgt := 26) C d_Model_spanAt_19 (by decide) hf (fun hf => ?_) (fun hf => ?_)
    · refine z_iload_n C 2 d_Model_spanAt_26 rfl rfl ?_
      refine z_sub [0, 1, 3] rfl ?_
      exact k_Model_spanAt_27 N C E H4 _ _ _ _ _ hf
    · refine z_iload_n C 3 d_Model_spanAt_22 rfl rfl ?_
      refine z_goto (tgt := 27) C d_Model_spanAt_23 (by decide) ?_
      refine z_sub [0, 1, 3] rfl ?_
      exact k_Model_spanAt_27 N C E H4 _ _ _ _ _ hf

set_option maxHeartbeats 4000000 in
set_option maxRecDepth 100000 in
theorem k_Model_spanAt (N : Nat) {X : zX} (C : zB X prog_10_method_17_code 4 R_Model rm_Model_spanAt) {h0 : zH} {p : Int32 × zH} (E : zR X (some .int) rm_Model_spanAt h0 (some (.int p.1)) p.2) : ∀ (x0 : Nat) (x1 : Int32) (h : zH), f_Model_spanAt N x0 x1 h = some p → Zt X 4 0 0 0 [(0, .ref x0), (1, .int x1)] [] h := by
  intro x0 x1 h hf
  unfold f_Model_spanAt at hf
  refine z_iconst C (v := (-1 : Int32)) d_Model_spanAt_0 (by decide) ?_
  refine z_istore_n C (lv' := [(2, .int (-1 : Int32)), (0, .ref x0), (1, .int x1)]) d_Model_spanAt_1 rfl (by decide) rfl ?_
  refine z_iconst C (v := (0 : Int32)) d_Model_spanAt_2 (by decide) ?_
  refine z_istore_n C (lv' := [(3, .int (0 : Int32)), (2, .int (-1 : Int32)), (0, .ref x0), (1, .int x1)]) d_Model_spanAt_3 rfl (by decide) rfl ?_
  refine z_sub [2, 3, 1, 0] rfl ?_
  exact k_Model_spanAt_4 N C E N _ _ _ _ _ hf

theorem c_Model_spanAt (N : Nat) {l : Launch} {D : va_G} {T : List (ClassId × FieldType)} (hT : T.map (fun q => q.2) = ztl) {x0 : Nat} {x1 : Int32} {h : zH} {p : Int32 × zH} (hf : f_Model_spanAt N x0 x1 h = some p) : zM l y_Model_spanAt prog_10_method_17_code 4 (some .int) rm_Model_spanAt D T [.ref x0, .int x1] h (some (.int p.1)) p.2 :=
  z_enter (by decide) hT (Nat.le_of_ble_eq_true rfl) (fun X el eD eT hin C E => k_Model_spanAt N C E x0 x1 h hf)
/-! ===== LevelTablesModel.placeCost(II)J ===== -/
abbrev y_Model_placeCost : MethodName := ⟨R_Model, "placeCost", "(II)J"⟩
theorem pd_Model_placeCost : y_Model_placeCost.cls ≠ "java/lang/invoke/MethodHandle" ∧ y_Model_placeCost.cls ≠ "java/lang/invoke/VarHandle" ∧ (parseMethodDescriptor y_Model_placeCost.desc).map (fun d => d.parameters.length) = some 2 := ⟨by decide +kernel, by decide +kernel, by decide +kernel⟩
abbrev rm_Model_placeCost : Room := { frames := 0, cells := 0, slots := 0, locals := 0 }
def f_Model_placeCost (N : Nat) (x0 : Nat) (x1 : Int32) (x2 : Int32) (h : zH) : Option (Int64 × zH) :=
  Option.bind (zgR h x0 0 2) fun (v1 : Nat) =>
  Option.bind (zaI h 0 v1 x1) fun (v2 : Int32) =>
  (if v2 ≤ x2 then
    Option.bind (zgR h x0 0 2) fun (v3 : Nat) =>
    Option.bind (zaI h 0 v3 x1) fun (v4 : Int32) =>
    Option.bind (zgR h x0 0 4) fun (v5 : Nat) =>
    Option.bind (zaI h 0 v5 x1) fun (v6 : Int32) =>
    some (((Int32.toInt64 (x2 - v4)) * (Int32.toInt64 v6)), h)
  else
    Option.bind (zgR h x0 0 2) fun (v7 : Nat) =>
    Option.bind (zaI h 0 v7 x1) fun (v8 : Int32) =>
    Option.bind (zgR h x0 0 3) fun (v9 : Nat) =>
    Option.bind (zaI h 0 v9 x1) fun (v10 : Int32) =>
    some (((Int32.toInt64 (v8 - x2)) * (Int32.toInt64 v10)), h))
theorem d_Model_placeCost_0 : decode prog_10_method_16_code 0 = .ok (.iload_n (2), 1) := by decide +kernel
theorem d_Model_placeCost_1 : decode prog_10_method_16_code 1 = .ok (.aload_n (0), 1) := by decide +kernel
theorem d_Model_placeCost_2 : decode prog_10_method_16_code 2 = .ok (.getfield (7), 3) := by decide +kernel
theorem d_Model_placeCost_5 : decode prog_10_method_16_code 5 = .ok (.iload_n (1), 1) := by decide +kernel
theorem d_Model_placeCost_6 : decode prog_10_method_16_code 6 = .ok (.iaload, 1) := by decide +kernel
theorem d_Model_placeCost_7 : decode prog_10_method_16_code 7 = .ok (.if_icmp .ge (23), 3) := by decide +kernel
theorem d_Model_placeCost_10 : decode prog_10_method_16_code 10 = .ok (.aload_n (0), 1) := by decide +kernel
theorem d_Model_placeCost_11 : decode prog_10_method_16_code 11 = .ok (.getfield (7), 3) := by decide +kernel
theorem d_Model_placeCost_14 : decode prog_10_method_16_code 14 = .ok (.iload_n (1), 1) := by decide +kernel
theorem d_Model_placeCost_15 : decode prog_10_method_16_code 15 = .ok (.iaload, 1) := by decide +kernel
theorem d_Model_placeCost_16 : decode prog_10_method_16_code 16 = .ok (.iload_n (2), 1) := by decide +kernel
theorem d_Model_placeCost_17 : decode prog_10_method_16_code 17 = .ok (.isub, 1) := by decide +kernel
theorem d_Model_placeCost_18 : decode prog_10_method_16_code 18 = .ok (.i2l, 1) := by decide +kernel
theorem d_Model_placeCost_19 : decode prog_10_method_16_code 19 = .ok (.aload_n (0), 1) := by decide +kernel
theorem d_Model_placeCost_20 : decode prog_10_method_16_code 20 = .ok (.getfield (13), 3) := by decide +kernel
theorem d_Model_placeCost_23 : decode prog_10_method_16_code 23 = .ok (.iload_n (1), 1) := by decide +kernel
theorem d_Model_placeCost_24 : decode prog_10_method_16_code 24 = .ok (.iaload, 1) := by decide +kernel
theorem d_Model_placeCost_25 : decode prog_10_method_16_code 25 = .ok (.i2l, 1) := by decide +kernel
theorem d_Model_placeCost_26 : decode prog_10_method_16_code 26 = .ok (.lmul, 1) := by decide +kernel
theorem d_Model_placeCost_27 : decode prog_10_method_16_code 27 = .ok (.goto (20), 3) := by decide +kernel
theorem d_Model_placeCost_30 : decode prog_10_method_16_code 30 = .ok (.iload_n (2), 1) := by decide +kernel
theorem d_Model_placeCost_31 : decode prog_10_method_16_code 31 = .ok (.aload_n (0), 1) := by decide +kernel
theorem d_Model_placeCost_32 : decode prog_10_method_16_code 32 = .ok (.getfield (7), 3) := by decide +kernel
theorem d_Model_placeCost_35 : decode prog_10_method_16_code 35 = .ok (.iload_n (1), 1) := by decide +kernel
theorem d_Model_placeCost_36 : decode prog_10_method_16_code 36 = .ok (.iaload, 1) := by decide +kernel
theorem d_Model_placeCost_37 : decode prog_10_method_16_code 37 = .ok (.isub, 1) := by decide +kernel
theorem d_Model_placeCost_38 : decode prog_10_method_16_code 38 = .ok (.i2l, 1) := by decide +kernel
theorem d_Model_placeCost_39 : decode prog_10_method_16_code 39 = .ok (.aload_n (0), 1) := by decide +kernel
theorem d_Model_placeCost_40 : decode prog_10_method_16_code 40 = .ok (.getfield (16), 3) := by decide +kernel
theorem d_Model_placeCost_43 : decode prog_10_method_16_code 43 = .ok (.iload_n (1), 1) := by decide +kernel
theorem d_Model_placeCost_44 : decode prog_10_method_16_code 44 = .ok (.iaload, 1) := by decide +kernel
theorem d_Model_placeCost_45 : decode prog_10_method_16_code 45 = .ok (.i2l, 1) := by decide +kernel
theorem d_Model_placeCost_46 : decode prog_10_method_16_code 46 = .ok (.lmul, 1) := by decide +kernel
theorem d_Model_placeCost_47 : decode prog_10_method_16_code 47 = .ok (.lreturn, 1) := by decide +kernel
set_option maxHeartbeats 4000000 in
set_option maxRecDepth 100000 in
theorem k_Model_placeCost (N : Nat) {X : zX} (C : zB X prog_10_method_16_code 3 R_Model rm_Model_placeCost) {h0 : zH} {p : Int64 × zH} (E : zR X (some .long) rm_Model_placeCost h0 (some (.long p.1)) p.2) : ∀ (x0 : Nat) (x1 : Int32) (x2 : Int32) (h : zH), f_Model_placeCost N x0 x1 x2 h = some p → Zt X 3 0 0 0 [(0, .ref x0), (1, .int x1), (2, .int x2)] [] h := by
  intro x0 x1 x2 h hf
  unfold f_Model_placeCost at hf
  refine z_iload_n C 2 d_Model_placeCost_0 rfl rfl ?_
  refine z_aload_n C 0 d_Model_placeCost_1 rfl rfl ?_
  refine z_getR C 0 2 rfl in_Model (by decide) w_743 rfl d_Model_placeCost_2 hf (fun v1 hf => ?_)
  refine z_iload_n C 1 d_Model_placeCost_5 rfl rfl ?_
  refine z_iald C d_Model_placeCost_6 hf (fun v2 hf => ?_)
  refine z_ic_ge (tgt := 30) C d_Model_placeCost_7 (by decide) hf (fun hf => ?_) (fun hf => ?_)
  · refine z_iload_n C 2 d_Model_placeCost_30 rfl rfl ?_
    refine z_aload_n C 0 d_Model_placeCost_31 rfl rfl ?_
    refine z_getR C 0 2 rfl in_Model (by decide) w_743 rfl d_Model_placeCost_32 hf (fun v3 hf => ?_)
    refine z_iload_n C 1 d_Model_placeCost_35 rfl rfl ?_
    refine z_iald C d_Model_placeCost_36 hf (fun v4 hf => ?_)
    refine z_isub C d_Model_placeCost_37 ?_
    refine z_i2l C d_Model_placeCost_38 ?_
    refine z_aload_n C 0 d_Model_placeCost_39 rfl rfl ?_
    refine z_getR C 0 4 rfl in_Model (by decide) w_745 rfl d_Model_placeCost_40 hf (fun v5 hf => ?_)
    refine z_iload_n C 1 d_Model_placeCost_43 rfl rfl ?_
    refine z_iald C d_Model_placeCost_44 hf (fun v6 hf => ?_)
    refine z_i2l C d_Model_placeCost_45 ?_
    refine z_lmul C d_Model_placeCost_46 ?_
    exact z_lret C E (Nat.le_of_ble_eq_true rfl) (Nat.le_of_ble_eq_true rfl) d_Model_placeCost_47 hf
  · refine z_aload_n C 0 d_Model_placeCost_10 rfl rfl ?_
    refine z_getR C 0 2 rfl in_Model (by decide) w_743 rfl d_Model_placeCost_11 hf (fun v7 hf => ?_)
    refine z_iload_n C 1 d_Model_placeCost_14 rfl rfl ?_
    refine z_iald C d_Model_placeCost_15 hf (fun v8 hf => ?_)
    refine z_iload_n C 2 d_Model_placeCost_16 rfl rfl ?_
    refine z_isub C d_Model_placeCost_17 ?_
    refine z_i2l C d_Model_placeCost_18 ?_
    refine z_aload_n C 0 d_Model_placeCost_19 rfl rfl ?_
    refine z_getR C 0 3 rfl in_Model (by decide) w_744 rfl d_Model_placeCost_20 hf (fun v9 hf => ?_)
    refine z_iload_n C 1 d_Model_placeCost_23 rfl rfl ?_
    refine z_iald C d_Model_placeCost_24 hf (fun v10 hf => ?_)
    refine z_i2l C d_Model_placeCost_25 ?_
    refine z_lmul C d_Model_placeCost_26 ?_
    refine z_goto (tgt := 47) C d_Model_placeCost_27 (by decide) ?_
    exact z_lret C E (Nat.le_of_ble_eq_true rfl) (Nat.le_of_ble_eq_true rfl) d_Model_placeCost_47 hf

theorem c_Model_placeCost (N : Nat) {l : Launch} {D : va_G} {T : List (ClassId × FieldType)} (hT : T.map (fun q => q.2) = ztl) {x0 : Nat} {x1 : Int32} {x2 : Int32} {h : zH} {p : Int64 × zH} (hf : f_Model_placeCost N x0 x1 x2 h = some p) : zM l y_Model_placeCost prog_10_method_16_code 3 (some .long) rm_Model_placeCost D T [.ref x0, .int x1, .int x2] h (some (.long p.1)) p.2 :=
  z_enter (by decide) hT (Nat.le_of_ble_eq_true rfl) (fun X el eD eT hin C E => k_Model_placeCost N C E x0 x1 x2 h hf)
/-! ===== LevelTablesModel.isLess(JIJI)Z ===== -/
abbrev y_Model_isLess : MethodName := ⟨R_Model, "isLess", "(JIJI)Z"⟩
theorem pd_Model_isLess : y_Model_isLess.cls ≠ "java/lang/invoke/MethodHandle" ∧ y_Model_isLess.cls ≠ "java/lang/invoke/VarHandle" ∧ (parseMethodDescriptor y_Model_isLess.desc).map (fun d => d.parameters.length) = some 4 := ⟨by decide +kernel, by decide +kernel, by decide +kernel⟩
abbrev rm_Model_isLess : Room := { frames := 0, cells := 0, slots := 0, locals := 0 }
def f_Model_isLess_27 (N : Nat)  (h : zH) : Option (Int32 × zH) :=
  zrb (1 : Int32) h
def f_Model_isLess (N : Nat) (x0 : Nat) (x1 : Int64) (x3 : Int32) (x4 : Int64) (x6 : Int32) (h : zH) : Option (Int32 × zH) :=
  (if (lg_cmp x4 (0 : Int64)) < 0 then
    f_Model_isLess_27 N  h
  else
    (if (lg_cmp x1 x4) < 0 then
      f_Model_isLess_27 N  h
    else
      (if (lg_cmp x1 x4) = 0 then
        (if x6 ≤ x3 then
          zrb (0 : Int32) h
        else
          f_Model_isLess_27 N  h)
      else
        zrb (0 : Int32) h)))
theorem d_Model_isLess_0 : decode prog_10_method_20_code 0 = .ok (.lload (4), 2) := by decide +kernel
theorem d_Model_isLess_2 : decode prog_10_method_20_code 2 = .ok (.lconst (0), 1) := by decide +kernel
theorem d_Model_isLess_3 : decode prog_10_method_20_code 3 = .ok (.lcmp, 1) := by decide +kernel
theorem d_Model_isLess_4 : decode prog_10_method_20_code 4 = .ok (.ifCond .lt (23), 3) := by decide +kernel
theorem d_Model_isLess_7 : decode prog_10_method_20_code 7 = .ok (.lload_n (1), 1) := by decide +kernel
theorem d_Model_isLess_8 : decode prog_10_method_20_code 8 = .ok (.lload (4), 2) := by decide +kernel
theorem d_Model_isLess_10 : decode prog_10_method_20_code 10 = .ok (.lcmp, 1) := by decide +kernel
theorem d_Model_isLess_11 : decode prog_10_method_20_code 11 = .ok (.ifCond .lt (16), 3) := by decide +kernel
theorem d_Model_isLess_14 : decode prog_10_method_20_code 14 = .ok (.lload_n (1), 1) := by decide +kernel
theorem d_Model_isLess_15 : decode prog_10_method_20_code 15 = .ok (.lload (4), 2) := by decide +kernel
theorem d_Model_isLess_17 : decode prog_10_method_20_code 17 = .ok (.lcmp, 1) := by decide +kernel
theorem d_Model_isLess_18 : decode prog_10_method_20_code 18 = .ok (.ifCond .ne (13), 3) := by decide +kernel
theorem d_Model_isLess_21 : decode prog_10_method_20_code 21 = .ok (.iload_n (3), 1) := by decide +kernel
theorem d_Model_isLess_22 : decode prog_10_method_20_code 22 = .ok (.iload (6), 2) := by decide +kernel
theorem d_Model_isLess_24 : decode prog_10_method_20_code 24 = .ok (.if_icmp .ge (7), 3) := by decide +kernel
theorem d_Model_isLess_27 : decode prog_10_method_20_code 27 = .ok (.iconst (1), 1) := by decide +kernel
theorem d_Model_isLess_28 : decode prog_10_method_20_code 28 = .ok (.goto (4), 3) := by decide +kernel
theorem d_Model_isLess_31 : decode prog_10_method_20_code 31 = .ok (.iconst (0), 1) := by decide +kernel
theorem d_Model_isLess_32 : decode prog_10_method_20_code 32 = .ok (.ireturn, 1) := by decide +kernel
set_option maxHeartbeats 4000000 in
set_option maxRecDepth 100000 in
theorem k_Model_isLess_27 (N : Nat) {X : zX} (C : zB X prog_10_method_20_code 7 R_Model rm_Model_isLess) {h0 : zH} {p : Int32 × zH} (E : zR X (some .boolean) rm_Model_isLess h0 (some (.int p.1)) p.2) : ∀  (h : zH), f_Model_isLess_27 N  h = some p → Zt X 7 0 0 27 [] [] h := by
  intro  h hf
  unfold f_Model_isLess_27 at hf
  refine z_iconst C (v := (1 : Int32)) d_Model_isLess_27 (by decide) ?_
  refine z_goto (tgt := 32) C d_Model_isLess_28 (by decide) ?_
  exact z_zret C E (Nat.le_of_ble_eq_true rfl) (Nat.le_of_ble_eq_true rfl) d_Model_isLess_32 hf

set_option maxHeartbeats 4000000 in
set_option maxRecDepth 100000 in
theorem k_Model_isLess (N : Nat) {X : zX} (C : zB X prog_10_method_20_code 7 R_Model rm_Model_isLess) {h0 : zH} {p : Int32 × zH} (E : zR X (some .boolean) rm_Model_isLess h0 (some (.int p.1)) p.2) : ∀ (x0 : Nat) (x1 : Int64) (x3 : Int32) (x4 : Int64) (x6 : Int32) (h : zH), f_Model_isLess N x0 x1 x3 x4 x6 h = some p → Zt X 7 0 0 0 [(0, .ref x0), (1, .long x1), (3, .int x3), (4, .long x4), (6, .int x6)] [] h := by
  intro x0 x1 x3 x4 x6 h hf
  unfold f_Model_isLess at hf
  refine z_lload C 3 d_Model_isLess_0 rfl ?_
  refine z_lconst C (v := (0 : Int64)) d_Model_isLess_2 (by decide) ?_
  refine z_lcmp C d_Model_isLess_3 ?_
  refine z_if_lt (tgt := 27) C d_Model_isLess_4 (by decide) hf (fun hf => ?_) (fun hf => ?_)
  · refine z_sub [] rfl ?_
    exact k_Model_isLess_27 N C E  _ hf
  · refine z_lload_n C 1 d_Model_isLess_7 rfl rfl ?_
    refine z_lload C 3 d_Model_isLess_8 rfl ?_
    refine z_lcmp C d_Model_isLess_10 ?_
    refine z_if_lt (tgt := 27) C d_Model_isLess_11 (by decide) hf (fun hf => ?_) (fun hf => ?_)
    · refine z_sub [] rfl ?_
      exact k_Model_isLess_27 N C E  _ hf
    · refine z_lload_n C 1 d_Model_isLess_14 rfl rfl ?_
      refine z_lload C 3 d_Model_isLess_15 rfl ?_
      refine z_lcmp C d_Model_isLess_17 ?_
      refine z_if_ne (tgt := 31) C d_Model_isLess_18 (by decide) hf (fun hf => ?_) (fun hf => ?_)
      · refine z_iconst C (v := (0 : Int32)) d_Model_isLess_31 (by decide) ?_
        exact z_zret C E (Nat.le_of_ble_eq_true rfl) (Nat.le_of_ble_eq_true rfl) d_Model_isLess_32 hf
      · refine z_iload_n C 2 d_Model_isLess_21 rfl rfl ?_
        refine z_iload C 4 d_Model_isLess_22 rfl ?_
        refine z_ic_ge (tgt := 31) C d_Model_isLess_24 (by decide) hf (fun hf => ?_) (fun hf => ?_)
        · refine z_iconst C (v := (0 : Int32)) d_Model_isLess_31 (by decide) ?_
          exact z_zret C E (Nat.le_of_ble_eq_true rfl) (Nat.le_of_ble_eq_true rfl) d_Model_isLess_32 hf
        · refine z_sub [] rfl ?_
          exact k_Model_isLess_27 N C E  _ hf

theorem c_Model_isLess (N : Nat) {l : Launch} {D : va_G} {T : List (ClassId × FieldType)} (hT : T.map (fun q => q.2) = ztl) {x0 : Nat} {x1 : Int64} {x3 : Int32} {x4 : Int64} {x6 : Int32} {h : zH} {p : Int32 × zH} (hf : f_Model_isLess N x0 x1 x3 x4 x6 h = some p) : zM l y_Model_isLess prog_10_method_20_code 7 (some .boolean) rm_Model_isLess D T [.ref x0, .long x1, .int x3, .long x4, .int x6] h (some (.int p.1)) p.2 :=
  z_enter (by decide) hT (Nat.le_of_ble_eq_true rfl) (fun X el eD eT hin C E => k_Model_isLess N C E x0 x1 x3 x4 x6 h hf)
/-! ===== LevelTablesModel.mayUse(III)Z ===== -/
abbrev y_Model_mayUse : MethodName := ⟨R_Model, "mayUse", "(III)Z"⟩
theorem pd_Model_mayUse : y_Model_mayUse.cls ≠ "java/lang/invoke/MethodHandle" ∧ y_Model_mayUse.cls ≠ "java/lang/invoke/VarHandle" ∧ (parseMethodDescriptor y_Model_mayUse.desc).map (fun d => d.parameters.length) = some 3 := ⟨by decide +kernel, by decide +kernel, by decide +kernel⟩
abbrev rm_Model_mayUse : Room := { frames := 2, cells := 0, slots := 0, locals := 43 }
def f_Model_mayUse_113 (N : Nat) (rc16 : Nat → Int32 → Int32 → Int32 → Int32 → Int32 → zH → Option (Int32 × zH)) (x0 : Nat) (x1 : Int32) (x3 : Int32) (x5 : Int32) (x6 : Int32) (s0 : Int32) (h : zH) : Option (Int32 × zH) :=
  rc16 x0 x1 x3 s0 x5 (x6 + (1 : Int32)) h
def f_Model_mayUse_112 (N : Nat) (rc16 : Nat → Int32 → Int32 → Int32 → Int32 → Int32 → zH → Option (Int32 × zH)) (x0 : Nat) (x1 : Int32) (x3 : Int32) (x5 : Int32) (x6 : Int32) (h : zH) : Option (Int32 × zH) :=
  f_Model_mayUse_113 N rc16 x0 x1 x3 x5 x6 (0 : Int32) h
def f_Model_mayUse_90 (N : Nat) (rc16 : Nat → Int32 → Int32 → Int32 → Int32 → Int32 → zH → Option (Int32 × zH)) (x0 : Nat) (x1 : Int32) (x3 : Int32) (x5 : Int32) (x6 : Int32) (s0 : Int32) (h : zH) : Option (Int32 × zH) :=
  Option.bind (zck (zis h x0 0) (f_Model_may N x0 x6 x5 h)) fun (p1 : Int32 × zH) =>
  (if p1.1 = 0 then
    f_Model_mayUse_112 N rc16 x0 x1 x3 x5 x6 p1.2
  else
    (if s0 = 0 then
      f_Model_mayUse_112 N rc16 x0 x1 x3 x5 x6 p1.2
    else
      f_Model_mayUse_113 N rc16 x0 x1 x3 x5 x6 (1 : Int32) p1.2))
def f_Model_mayUse_85 (N : Nat) (rc16 : Nat → Int32 → Int32 → Int32 → Int32 → Int32 → zH → Option (Int32 × zH)) (x0 : Nat) (x1 : Int32) (x3 : Int32) (x5 : Int32) (x6 : Int32) (h : zH) : Option (Int32 × zH) :=
  f_Model_mayUse_90 N rc16 x0 x1 x3 x5 x6 (1 : Int32) h
def f_Model_mayUse_89 (N : Nat) (rc16 : Nat → Int32 → Int32 → Int32 → Int32 → Int32 → zH → Option (Int32 × zH)) (x0 : Nat) (x1 : Int32) (x3 : Int32) (x5 : Int32) (x6 : Int32) (h : zH) : Option (Int32 × zH) :=
  f_Model_mayUse_90 N rc16 x0 x1 x3 x5 x6 (0 : Int32) h
def b_Model_mayUse_16 (N : Nat) (rc16 : Nat → Int32 → Int32 → Int32 → Int32 → Int32 → zH → Option (Int32 × zH)) (x0 : Nat) (x1 : Int32) (x3 : Int32) (x4 : Int32) (x5 : Int32) (x6 : Int32) (h : zH) : Option (Int32 × zH) :=
  Option.bind (zgR h x0 0 12) fun (v2 : Nat) =>
  Option.bind (zaI h 0 v2 x1) fun (v3 : Int32) =>
  (if v3 < x6 then
    zrb x4 h
  else
    (if x4 = 0 then
      zrb x4 h
    else
      Option.bind (zgR h x0 0 12) fun (v4 : Nat) =>
      Option.bind (zaI h 0 v4 x1) fun (v5 : Int32) =>
      (if x6 = v5 then
        f_Model_mayUse_85 N rc16 x0 x1 x3 (x5 + x3) x6 h
      else
        Option.bind (zgR h x0 0 13) fun (v6 : Nat) =>
        Option.bind (zaI h 0 v6 x1) fun (v7 : Int32) =>
        (if v7 = 0 then
          Option.bind (zgR h x0 0 2) fun (v10 : Nat) =>
          Option.bind (zaI h 0 v10 x6) fun (v11 : Int32) =>
          (if (x5 + x3) < v11 then
            f_Model_mayUse_89 N rc16 x0 x1 x3 (x5 + x3) x6 h
          else
            f_Model_mayUse_85 N rc16 x0 x1 x3 (x5 + x3) x6 h)
        else
          Option.bind (zgR h x0 0 2) fun (v8 : Nat) =>
          Option.bind (zaI h 0 v8 x6) fun (v9 : Int32) =>
          (if v9 < (x5 + x3) then
            f_Model_mayUse_89 N rc16 x0 x1 x3 (x5 + x3) x6 h
          else
            f_Model_mayUse_85 N rc16 x0 x1 x3 (x5 + x3) x6 h)))))
def f_Model_mayUse_16 (N : Nat) : Nat → Nat → Int32 → Int32 → Int32 → Int32 → Int32 → zH → Option (Int32 × zH)
  | 0 => fun _ _ _ _ _ _ _ => none
  | n + 1 => fun x0 x1 x3 x4 x5 x6 h => b_Model_mayUse_16 N (f_Model_mayUse_16 N n) x0 x1 x3 x4 x5 x6 h
def f_Model_mayUse (N : Nat) (x0 : Nat) (x1 : Int32) (x2 : Int32) (x3 : Int32) (h : zH) : Option (Int32 × zH) :=
  Option.bind (zgR h x0 0 11) fun (v12 : Nat) =>
  Option.bind (zaI h 0 v12 x1) fun (v13 : Int32) =>
  f_Model_mayUse_16 N N x0 x1 x3 (1 : Int32) x2 (v13 + (1 : Int32)) h
theorem d_Model_mayUse_0 : decode prog_10_method_18_code 0 = .ok (.iconst (1), 1) := by decide +kernel
theorem d_Model_mayUse_1 : decode prog_10_method_18_code 1 = .ok (.istore (4), 2) := by decide +kernel
theorem d_Model_mayUse_3 : decode prog_10_method_18_code 3 = .ok (.iload_n (2), 1) := by decide +kernel
theorem d_Model_mayUse_4 : decode prog_10_method_18_code 4 = .ok (.istore (5), 2) := by decide +kernel
theorem d_Model_mayUse_6 : decode prog_10_method_18_code 6 = .ok (.aload_n (0), 1) := by decide +kernel
theorem d_Model_mayUse_7 : decode prog_10_method_18_code 7 = .ok (.getfield (32), 3) := by decide +kernel
theorem d_Model_mayUse_10 : decode prog_10_method_18_code 10 = .ok (.iload_n (1), 1) := by decide +kernel
theorem d_Model_mayUse_11 : decode prog_10_method_18_code 11 = .ok (.iaload, 1) := by decide +kernel
theorem d_Model_mayUse_12 : decode prog_10_method_18_code 12 = .ok (.iconst (1), 1) := by decide +kernel
theorem d_Model_mayUse_13 : decode prog_10_method_18_code 13 = .ok (.iadd, 1) := by decide +kernel
theorem d_Model_mayUse_14 : decode prog_10_method_18_code 14 = .ok (.istore (6), 2) := by decide +kernel
theorem d_Model_mayUse_16 : decode prog_10_method_18_code 16 = .ok (.iload (6), 2) := by decide +kernel
theorem d_Model_mayUse_18 : decode prog_10_method_18_code 18 = .ok (.aload_n (0), 1) := by decide +kernel
theorem d_Model_mayUse_19 : decode prog_10_method_18_code 19 = .ok (.getfield (35), 3) := by decide +kernel
theorem d_Model_mayUse_22 : decode prog_10_method_18_code 22 = .ok (.iload_n (1), 1) := by decide +kernel
theorem d_Model_mayUse_23 : decode prog_10_method_18_code 23 = .ok (.iaload, 1) := by decide +kernel
theorem d_Model_mayUse_24 : decode prog_10_method_18_code 24 = .ok (.if_icmp .gt (97), 3) := by decide +kernel
theorem d_Model_mayUse_27 : decode prog_10_method_18_code 27 = .ok (.iload (4), 2) := by decide +kernel
theorem d_Model_mayUse_29 : decode prog_10_method_18_code 29 = .ok (.ifCond .eq (92), 3) := by decide +kernel
theorem d_Model_mayUse_32 : decode prog_10_method_18_code 32 = .ok (.iload (5), 2) := by decide +kernel
theorem d_Model_mayUse_34 : decode prog_10_method_18_code 34 = .ok (.iload_n (3), 1) := by decide +kernel
theorem d_Model_mayUse_35 : decode prog_10_method_18_code 35 = .ok (.iadd, 1) := by decide +kernel
theorem d_Model_mayUse_36 : decode prog_10_method_18_code 36 = .ok (.istore (5), 2) := by decide +kernel
theorem d_Model_mayUse_38 : decode prog_10_method_18_code 38 = .ok (.iload (6), 2) := by decide +kernel
theorem d_Model_mayUse_40 : decode prog_10_method_18_code 40 = .ok (.aload_n (0), 1) := by decide +kernel
theorem d_Model_mayUse_41 : decode prog_10_method_18_code 41 = .ok (.getfield (35), 3) := by decide +kernel
theorem d_Model_mayUse_44 : decode prog_10_method_18_code 44 = .ok (.iload_n (1), 1) := by decide +kernel
theorem d_Model_mayUse_45 : decode prog_10_method_18_code 45 = .ok (.iaload, 1) := by decide +kernel
theorem d_Model_mayUse_46 : decode prog_10_method_18_code 46 = .ok (.if_icmp .eq (39), 3) := by decide +kernel
theorem d_Model_mayUse_49 : decode prog_10_method_18_code 49 = .ok (.aload_n (0), 1) := by decide +kernel
theorem d_Model_mayUse_50 : decode prog_10_method_18_code 50 = .ok (.getfield (38), 3) := by decide +kernel
theorem d_Model_mayUse_53 : decode prog_10_method_18_code 53 = .ok (.iload_n (1), 1) := by decide +kernel
theorem d_Model_mayUse_54 : decode prog_10_method_18_code 54 = .ok (.iaload, 1) := by decide +kernel
theorem d_Model_mayUse_55 : decode prog_10_method_18_code 55 = .ok (.ifCond .ne (18), 3) := by decide +kernel
theorem d_Model_mayUse_58 : decode prog_10_method_18_code 58 = .ok (.iload (5), 2) := by decide +kernel
theorem d_Model_mayUse_60 : decode prog_10_method_18_code 60 = .ok (.aload_n (0), 1) := by decide +kernel
theorem d_Model_mayUse_61 : decode prog_10_method_18_code 61 = .ok (.getfield (7), 3) := by decide +kernel
theorem d_Model_mayUse_64 : decode prog_10_method_18_code 64 = .ok (.iload (6), 2) := by decide +kernel
theorem d_Model_mayUse_66 : decode prog_10_method_18_code 66 = .ok (.iaload, 1) := by decide +kernel
theorem d_Model_mayUse_67 : decode prog_10_method_18_code 67 = .ok (.if_icmp .lt (22), 3) := by decide +kernel
theorem d_Model_mayUse_70 : decode prog_10_method_18_code 70 = .ok (.goto (15), 3) := by decide +kernel
theorem d_Model_mayUse_73 : decode prog_10_method_18_code 73 = .ok (.iload (5), 2) := by decide +kernel
theorem d_Model_mayUse_75 : decode prog_10_method_18_code 75 = .ok (.aload_n (0), 1) := by decide +kernel
theorem d_Model_mayUse_76 : decode prog_10_method_18_code 76 = .ok (.getfield (7), 3) := by decide +kernel
theorem d_Model_mayUse_79 : decode prog_10_method_18_code 79 = .ok (.iload (6), 2) := by decide +kernel
theorem d_Model_mayUse_81 : decode prog_10_method_18_code 81 = .ok (.iaload, 1) := by decide +kernel
theorem d_Model_mayUse_82 : decode prog_10_method_18_code 82 = .ok (.if_icmp .gt (7), 3) := by decide +kernel
theorem d_Model_mayUse_85 : decode prog_10_method_18_code 85 = .ok (.iconst (1), 1) := by decide +kernel
theorem d_Model_mayUse_86 : decode prog_10_method_18_code 86 = .ok (.goto (4), 3) := by decide +kernel
theorem d_Model_mayUse_89 : decode prog_10_method_18_code 89 = .ok (.iconst (0), 1) := by decide +kernel
theorem d_Model_mayUse_90 : decode prog_10_method_18_code 90 = .ok (.istore (7), 2) := by decide +kernel
theorem d_Model_mayUse_92 : decode prog_10_method_18_code 92 = .ok (.aload_n (0), 1) := by decide +kernel
theorem d_Model_mayUse_93 : decode prog_10_method_18_code 93 = .ok (.iload (6), 2) := by decide +kernel
theorem d_Model_mayUse_95 : decode prog_10_method_18_code 95 = .ok (.iload (5), 2) := by decide +kernel
theorem d_Model_mayUse_97 : decode prog_10_method_18_code 97 = .ok (.invokevirtual (133), 3) := by decide +kernel
theorem d_Model_mayUse_100 : decode prog_10_method_18_code 100 = .ok (.ifCond .eq (12), 3) := by decide +kernel
theorem d_Model_mayUse_103 : decode prog_10_method_18_code 103 = .ok (.iload (7), 2) := by decide +kernel
theorem d_Model_mayUse_105 : decode prog_10_method_18_code 105 = .ok (.ifCond .eq (7), 3) := by decide +kernel
theorem d_Model_mayUse_108 : decode prog_10_method_18_code 108 = .ok (.iconst (1), 1) := by decide +kernel
theorem d_Model_mayUse_109 : decode prog_10_method_18_code 109 = .ok (.goto (4), 3) := by decide +kernel
theorem d_Model_mayUse_112 : decode prog_10_method_18_code 112 = .ok (.iconst (0), 1) := by decide +kernel
theorem d_Model_mayUse_113 : decode prog_10_method_18_code 113 = .ok (.istore (4), 2) := by decide +kernel
theorem d_Model_mayUse_115 : decode prog_10_method_18_code 115 = .ok (.iinc (6) (1), 3) := by decide +kernel
theorem d_Model_mayUse_118 : decode prog_10_method_18_code 118 = .ok (.goto (-102), 3) := by decide +kernel
theorem d_Model_mayUse_121 : decode prog_10_method_18_code 121 = .ok (.iload (4), 2) := by decide +kernel
theorem d_Model_mayUse_123 : decode prog_10_method_18_code 123 = .ok (.ireturn, 1) := by decide +kernel
set_option maxHeartbeats 4000000 in
set_option maxRecDepth 100000 in
theorem k_Model_mayUse_113 (N : Nat) {X : zX} (C : zB X prog_10_method_18_code 8 R_Model rm_Model_mayUse) {h0 : zH} {p : Int32 × zH} (E : zR X (some .boolean) rm_Model_mayUse h0 (some (.int p.1)) p.2) {rc16 : Nat → Int32 → Int32 → Int32 → Int32 → Int32 → zH → Option (Int32 × zH)} (H16 : ∀ (x0 : Nat) (x1 : Int32) (x3 : Int32) (x4 : Int32) (x5 : Int32) (x6 : Int32) (h : zH), rc16 x0 x1 x3 x4 x5 x6 h = some p → Zt X 8 0 0 16 [(0, .ref x0), (1, .int x1), (3, .int x3), (4, .int x4), (5, .int x5), (6, .int x6)] [] h) : ∀ (x0 : Nat) (x1 : Int32) (x3 : Int32) (x5 : Int32) (x6 : Int32) (s0 : Int32) (h : zH), f_Model_mayUse_113 N rc16 x0 x1 x3 x5 x6 s0 h = some p → Zt X 8 0 0 113 [(0, .ref x0), (1, .int x1), (3, .int x3), (5, .int x5), (6, .int x6)] [.int s0] h := by
  intro x0 x1 x3 x5 x6 s0 h hf
  unfold f_Model_mayUse_113 at hf
  refine z_istore C (lv' := [(4, .int s0), (0, .ref x0), (1, .int x1), (3, .int x3), (5, .int x5), (6, .int x6)]) d_Model_mayUse_113 (by decide) rfl ?_
  refine z_iinc C (v := (x6 + (1 : Int32))) (lv' := [(6, .int (x6 + (1 : Int32))), (4, .int s0), (0, .ref x0), (1, .int x1), (3, .int x3), (5, .int x5)]) 5 d_Model_mayUse_115 rfl (by rfl) (by decide) rfl ?_
  refine z_goto (tgt := 16) C d_Model_mayUse_118 (by decide) ?_
  refine z_sub [2, 3, 4, 1, 5, 0] rfl ?_
  exact H16 _ _ _ _ _ _ _ hf

set_option maxHeartbeats 4000000 in
set_option maxRecDepth 100000 in
theorem k_Model_mayUse_112 (N : Nat) {X : zX} (C : zB X prog_10_method_18_code 8 R_Model rm_Model_mayUse) {h0 : zH} {p : Int32 × zH} (E : zR X (some .boolean) rm_Model_mayUse h0 (some (.int p.1)) p.2) {rc16 : Nat → Int32 → Int32 → Int32 → Int32 → Int32 → zH → Option (Int32 × zH)} (H16 : ∀ (x0 : Nat) (x1 : Int32) (x3 : Int32) (x4 : Int32) (x5 : Int32) (x6 : Int32) (h : zH), rc16 x0 x1 x3 x4 x5 x6 h = some p → Zt X 8 0 0 16 [(0, .ref x0), (1, .int x1), (3, .int x3), (4, .int x4), (5, .int x5), (6, .int x6)] [] h) : ∀ (x0 : Nat) (x1 : Int32) (x3 : Int32) (x5 : Int32) (x6 : Int32) (h : zH), f_Model_mayUse_112 N rc16 x0 x1 x3 x5 x6 h = some p → Zt X 8 0 0 112 [(0, .ref x0), (1, .int x1), (3, .int x3), (5, .int x5), (6, .int x6)] [] h := by
  intro x0 x1 x3 x5 x6 h hf
  unfold f_Model_mayUse_112 at hf
  refine z_iconst C (v := (0 : Int32)) d_Model_mayUse_112 (by decide) ?_
  refine z_sub [0, 1, 2, 3, 4] rfl ?_
  exact k_Model_mayUse_113 N C E H16 _ _ _ _ _ _ _ hf

set_option maxHeartbeats 4000000 in
set_option maxRecDepth 100000 in
theorem k_Model_mayUse_90 (N : Nat) {X : zX} (C : zB X prog_10_method_18_code 8 R_Model rm_Model_mayUse) {h0 : zH} {p : Int32 × zH} (E : zR X (some .boolean) rm_Model_mayUse h0 (some (.int p.1)) p.2) {rc16 : Nat → Int32 → Int32 → Int32 → Int32 → Int32 → zH → Option (Int32 × zH)} (H16 : ∀ (x0 : Nat) (x1 : Int32) (x3 : Int32) (x4 : Int32) (x5 : Int32) (x6 : Int32) (h : zH), rc16 x0 x1 x3 x4 x5 x6 h = some p → Zt X 8 0 0 16 [(0, .ref x0), (1, .int x1), (3, .int x3), (4, .int x4), (5, .int x5), (6, .int x6)] [] h) : ∀ (x0 : Nat) (x1 : Int32) (x3 : Int32) (x5 : Int32) (x6 : Int32) (s0 : Int32) (h : zH), f_Model_mayUse_90 N rc16 x0 x1 x3 x5 x6 s0 h = some p → Zt X 8 0 0 90 [(0, .ref x0), (1, .int x1), (3, .int x3), (5, .int x5), (6, .int x6)] [.int s0] h := by
  intro x0 x1 x3 x5 x6 s0 h hf
  unfold f_Model_mayUse_90 at hf
  refine z_istore C (lv' := [(7, .int s0), (0, .ref x0), (1, .int x1), (3, .int x3), (5, .int x5), (6, .int x6)]) d_Model_mayUse_90 (by decide) rfl ?_
  refine z_aload_n C 1 d_Model_mayUse_92 rfl rfl ?_
  refine z_iload C 5 d_Model_mayUse_93 rfl ?_
  refine z_iload C 4 d_Model_mayUse_95 rfl ?_
  obtain ⟨p1, hc, hf⟩ := Option.bind_eq_some_iff.mp hf
  obtain ⟨hz, hc⟩ := zck_some hc
  refine z_callV C (ci := 0) (c_Model_may N C.2.2.1 hc) rfl hz w_905 w_66 w_902 w_904 w_37 pd_Model_may rfl ⟨(Nat.le_of_ble_eq_true rfl), (Nat.le_of_ble_eq_true rfl)⟩ ⟨(Nat.le_of_ble_eq_true rfl), (Nat.le_of_ble_eq_true rfl)⟩ rfl (Nat.le_of_ble_eq_true rfl) d_Model_mayUse_97 (k' := 0) (n' := 0) (stk' := [.int p1.1]) rfl rfl rfl ?_
  refine z_if_eq (tgt := 112) C d_Model_mayUse_100 (by decide) hf (fun hf => ?_) (fun hf => ?_)
  · refine z_sub [1, 2, 3, 4, 5] rfl ?_
    exact k_Model_mayUse_112 N C E H16 _ _ _ _ _ _ hf
  · refine z_iload C 0 d_Model_mayUse_103 rfl ?_
    refine z_if_eq (tgt := 112) C d_Model_mayUse_105 (by decide) hf (fun hf => ?_) (fun hf => ?_)
    · refine z_sub [1, 2, 3, 4, 5] rfl ?_
      exact k_Model_mayUse_112 N C E H16 _ _ _ _ _ _ hf
    · refine z_iconst C (v := (1 : Int32)) d_Model_mayUse_108 (by decide) ?_
      refine z_goto (tgt := 113) C d_Model_mayUse_109 (by decide) ?_
      refine z_sub [1, 2, 3, 4, 5] rfl ?_
      exact k_Model_mayUse_113 N C E H16 _ _ _ _ _ _ _ hf

set_option maxHeartbeats 4000000 in
set_option maxRecDepth 100000 in
theorem k_Model_mayUse_85 (N : Nat) {X : zX} (C : zB X prog_10_method_18_code 8 R_Model rm_Model_mayUse) {h0 : zH} {p : Int32 × zH} (E : zR X (some .boolean) rm_Model_mayUse h0 (some (.int p.1)) p.2) {rc16 : Nat → Int32 → Int32 → Int32 → Int32 → Int32 → zH → Option (Int32 × zH)} (H16 : ∀ (x0 : Nat) (x1 : Int32) (x3 : Int32) (x4 : Int32) (x5 : Int32) (x6 : Int32) (h : zH), rc16 x0 x1 x3 x4 x5 x6 h = some p → Zt X 8 0 0 16 [(0, .ref x0), (1, .int x1), (3, .int x3), (4, .int x4), (5, .int x5), (6, .int x6)] [] h) : ∀ (x0 : Nat) (x1 : Int32) (x3 : Int32) (x5 : Int32) (x6 : Int32) (h : zH), f_Model_mayUse_85 N rc16 x0 x1 x3 x5 x6 h = some p → Zt X 8 0 0 85 [(0, .ref x0), (1, .int x1), (3, .int x3), (5, .int x5), (6, .int x6)] [] h := by
  intro x0 x1 x3 x5 x6 h hf
  unfold f_Model_mayUse_85 at hf
  refine z_iconst C (v := (1 : Int32)) d_Model_mayUse_85 (by decide) ?_
  refine z_goto (tgt := 90) C d_Model_mayUse_86 (by decide) ?_
  refine z_sub [0, 1, 2, 3, 4] rfl ?_
  exact k_Model_mayUse_90 N C E H16 _ _ _ _ _ _ _ hf

set_option maxHeartbeats 4000000 in
set_option maxRecDepth 100000 in
theorem k_Model_mayUse_89 (N : Nat) {X : zX} (C : zB X prog_10_method_18_code 8 R_Model rm_Model_mayUse) {h0 : zH} {p : Int32 × zH} (E : zR X (some .boolean) rm_Model_mayUse h0 (some (.int p.1)) p.2) {rc16 : Nat → Int32 → Int32 → Int32 → Int32 → Int32 → zH → Option (Int32 × zH)} (H16 : ∀ (x0 : Nat) (x1 : Int32) (x3 : Int32) (x4 : Int32) (x5 : Int32) (x6 : Int32) (h : zH), rc16 x0 x1 x3 x4 x5 x6 h = some p → Zt X 8 0 0 16 [(0, .ref x0), (1, .int x1), (3, .int x3), (4, .int x4), (5, .int x5), (6, .int x6)] [] h) : ∀ (x0 : Nat) (x1 : Int32) (x3 : Int32) (x5 : Int32) (x6 : Int32) (h : zH), f_Model_mayUse_89 N rc16 x0 x1 x3 x5 x6 h = some p → Zt X 8 0 0 89 [(0, .ref x0), (1, .int x1), (3, .int x3), (5, .int x5), (6, .int x6)] [] h := by
  intro x0 x1 x3 x5 x6 h hf
  unfold f_Model_mayUse_89 at hf
  refine z_iconst C (v := (0 : Int32)) d_Model_mayUse_89 (by decide) ?_
  refine z_sub [0, 1, 2, 3, 4] rfl ?_
  exact k_Model_mayUse_90 N C E H16 _ _ _ _ _ _ _ hf

set_option maxHeartbeats 4000000 in
set_option maxRecDepth 100000 in
theorem k_Model_mayUse_16 (N : Nat) {X : zX} (C : zB X prog_10_method_18_code 8 R_Model rm_Model_mayUse) {h0 : zH} {p : Int32 × zH} (E : zR X (some .boolean) rm_Model_mayUse h0 (some (.int p.1)) p.2) : ∀ n : Nat, ∀ (x0 : Nat) (x1 : Int32) (x3 : Int32) (x4 : Int32) (x5 : Int32) (x6 : Int32) (h : zH), f_Model_mayUse_16 N n x0 x1 x3 x4 x5 x6 h = some p → Zt X 8 0 0 16 [(0, .ref x0), (1, .int x1), (3, .int x3), (4, .int x4), (5, .int x5), (6, .int x6)] [] h := by
  intro n
  induction n with
  | zero => intro x0 x1 x3 x4 x5 x6 h hf; cases hf
  | succ n ih =>
  intro x0 x1 x3 x4 x5 x6 h hf
  have H16 := ih
  replace hf : b_Model_mayUse_16 N (f_Model_mayUse_16 N n) x0 x1 x3 x4 x5 x6 h = some p := hf
  unfold b_Model_mayUse_16 at hf
  refine z_iload C 5 d_Model_mayUse_16 rfl ?_
  refine z_aload_n C 0 d_Model_mayUse_18 rfl rfl ?_
  refine z_getR C 0 12 rfl in_Model (by decide) w_753 rfl d_Model_mayUse_19 hf (fun v2 hf => ?_)
  refine z_iload_n C 1 d_Model_mayUse_22 rfl rfl ?_
  refine z_iald C d_Model_mayUse_23 hf (fun v3 hf => ?_)
  refine z_ic_gt (tgt := 121) C d_Model_mayUse_24 (by decide) hf (fun hf => ?_) (fun hf => ?_)
  · refine z_iload C 3 d_Model_mayUse_121 rfl ?_
    exact z_zret C E (Nat.le_of_ble_eq_true rfl) (Nat.le_of_ble_eq_true rfl) d_Model_mayUse_123 hf
  · refine z_iload C 3 d_Model_mayUse_27 rfl ?_
    refine z_if_eq (tgt := 121) C d_Model_mayUse_29 (by decide) hf (fun hf => ?_) (fun hf => ?_)
    · refine z_iload C 3 d_Model_mayUse_121 rfl ?_
      exact z_zret C E (Nat.le_of_ble_eq_true rfl) (Nat.le_of_ble_eq_true rfl) d_Model_mayUse_123 hf
    · refine z_iload C 4 d_Model_mayUse_32 rfl ?_
      refine z_iload_n C 2 d_Model_mayUse_34 rfl rfl ?_
      refine z_iadd C d_Model_mayUse_35 ?_
      refine z_istore C (lv' := [(5, .int (x5 + x3)), (0, .ref x0), (1, .int x1), (3, .int x3), (4, .int x4), (6, .int x6)]) d_Model_mayUse_36 (by decide) rfl ?_
      refine z_iload C 5 d_Model_mayUse_38 rfl ?_
      refine z_aload_n C 1 d_Model_mayUse_40 rfl rfl ?_
      refine z_getR C 0 12 rfl in_Model (by decide) w_753 rfl d_Model_mayUse_41 hf (fun v4 hf => ?_)
      refine z_iload_n C 2 d_Model_mayUse_44 rfl rfl ?_
      refine z_iald C d_Model_mayUse_45 hf (fun v5 hf => ?_)
      refine z_ic_eq (tgt := 85) C d_Model_mayUse_46 (by decide) hf (fun hf => ?_) (fun hf => ?_)
      · refine z_sub [1, 2, 3, 0, 5] rfl ?_
        exact k_Model_mayUse_85 N C E H16 _ _ _ _ _ _ hf
      · refine z_aload_n C 1 d_Model_mayUse_49 rfl rfl ?_
        refine z_getR C 0 13 rfl in_Model (by decide) w_754 rfl d_Model_mayUse_50 hf (fun v6 hf => ?_)
        refine z_iload_n C 2 d_Model_mayUse_53 rfl rfl ?_
        refine z_iald C d_Model_mayUse_54 hf (fun v7 hf => ?_)
        refine z_if_ne (tgt := 73) C d_Model_mayUse_55 (by decide) hf (fun hf => ?_) (fun hf => ?_)
        · refine z_iload C 0 d_Model_mayUse_73 rfl ?_
          refine z_aload_n C 1 d_Model_mayUse_75 rfl rfl ?_
          refine z_getR C 0 2 rfl in_Model (by decide) w_743 rfl d_Model_mayUse_76 hf (fun v8 hf => ?_)
          refine z_iload C 5 d_Model_mayUse_79 rfl ?_
          refine z_iald C d_Model_mayUse_81 hf (fun v9 hf => ?_)
          refine z_ic_gt (tgt := 89) C d_Model_mayUse_82 (by decide) hf (fun hf => ?_) (fun hf => ?_)
          · refine z_sub [1, 2, 3, 0, 5] rfl ?_
            exact k_Model_mayUse_89 N C E H16 _ _ _ _ _ _ hf
          · refine z_sub [1, 2, 3, 0, 5] rfl ?_
            exact k_Model_mayUse_85 N C E H16 _ _ _ _ _ _ hf
        · refine z_iload C 0 d_Model_mayUse_58 rfl ?_
          refine z_aload_n C 1 d_Model_mayUse_60 rfl rfl ?_
          refine z_getR C 0 2 rfl in_Model (by decide) w_743 rfl d_Model_mayUse_61 hf (fun v10 hf => ?_)
          refine z_iload C 5 d_Model_mayUse_64 rfl ?_
          refine z_iald C d_Model_mayUse_66 hf (fun v11 hf => ?_)
          refine z_ic_lt (tgt := 89) C d_Model_mayUse_67 (by decide) hf (fun hf => ?_) (fun hf => ?_)
          · refine z_sub [1, 2, 3, 0, 5] rfl ?_
            exact k_Model_mayUse_89 N C E H16 _ _ _ _ _ _ hf
          · refine z_goto (tgt := 85) C d_Model_mayUse_70 (by decide) ?_
            refine z_sub [1, 2, 3, 0, 5] rfl ?_
            exact k_Model_mayUse_85 N C E H16 _ _ _ _ _ _ hf

set_option maxHeartbeats 4000000 in
set_option maxRecDepth 100000 in
theorem k_Model_mayUse (N : Nat) {X : zX} (C : zB X prog_10_method_18_code 8 R_Model rm_Model_mayUse) {h0 : zH} {p : Int32 × zH} (E : zR X (some .boolean) rm_Model_mayUse h0 (some (.int p.1)) p.2) : ∀ (x0 : Nat) (x1 : Int32) (x2 : Int32) (x3 : Int32) (h : zH), f_Model_mayUse N x0 x1 x2 x3 h = some p → Zt X 8 0 0 0 [(0, .ref x0), (1, .int x1), (2, .int x2), (3, .int x3)] [] h := by
  intro x0 x1 x2 x3 h hf
  unfold f_Model_mayUse at hf
  refine z_iconst C (v := (1 : Int32)) d_Model_mayUse_0 (by decide) ?_
  refine z_istore C (lv' := [(4, .int (1 : Int32)), (0, .ref x0), (1, .int x1), (2, .int x2), (3, .int x3)]) d_Model_mayUse_1 (by decide) rfl ?_
  refine z_iload_n C 3 d_Model_mayUse_3 rfl rfl ?_
  refine z_istore C (lv' := [(5, .int x2), (4, .int (1 : Int32)), (0, .ref x0), (1, .int x1), (2, .int x2), (3, .int x3)]) d_Model_mayUse_4 (by decide) rfl ?_
  refine z_aload_n C 2 d_Model_mayUse_6 rfl rfl ?_
  refine z_getR C 0 11 rfl in_Model (by decide) w_752 rfl d_Model_mayUse_7 hf (fun v12 hf => ?_)
  refine z_iload_n C 3 d_Model_mayUse_10 rfl rfl ?_
  refine z_iald C d_Model_mayUse_11 hf (fun v13 hf => ?_)
  refine z_iconst C (v := (1 : Int32)) d_Model_mayUse_12 (by decide) ?_
  refine z_iadd C d_Model_mayUse_13 ?_
  refine z_istore C (lv' := [(6, .int (v13 + (1 : Int32))), (5, .int x2), (4, .int (1 : Int32)), (0, .ref x0), (1, .int x1), (2, .int x2), (3, .int x3)]) d_Model_mayUse_14 (by decide) rfl ?_
  refine z_sub [3, 4, 6, 2, 1, 0] rfl ?_
  exact k_Model_mayUse_16 N C E N _ _ _ _ _ _ _ hf

theorem c_Model_mayUse (N : Nat) {l : Launch} {D : va_G} {T : List (ClassId × FieldType)} (hT : T.map (fun q => q.2) = ztl) {x0 : Nat} {x1 : Int32} {x2 : Int32} {x3 : Int32} {h : zH} {p : Int32 × zH} (hf : f_Model_mayUse N x0 x1 x2 x3 h = some p) : zM l y_Model_mayUse prog_10_method_18_code 8 (some .boolean) rm_Model_mayUse D T [.ref x0, .int x1, .int x2, .int x3] h (some (.int p.1)) p.2 :=
  z_enter (by decide) hT (Nat.le_of_ble_eq_true rfl) (fun X el eD eT hin C E => k_Model_mayUse N C E x0 x1 x2 x3 h hf)
/-! ===== LevelTablesModel.firstLevel()I ===== -/
abbrev y_Model_firstLevel : MethodName := ⟨R_Model, "firstLevel", "()I"⟩
theorem pd_Model_firstLevel : y_Model_firstLevel.cls ≠ "java/lang/invoke/MethodHandle" ∧ y_Model_firstLevel.cls ≠ "java/lang/invoke/VarHandle" ∧ (parseMethodDescriptor y_Model_firstLevel.desc).map (fun d => d.parameters.length) = some 0 := ⟨by decide +kernel, by decide +kernel, by decide +kernel⟩
abbrev rm_Model_firstLevel : Room := { frames := 2, cells := 0, slots := 0, locals := 43 }
def f_Model_firstLevel_112 (N : Nat) (rc12 : Nat → Int64 → Int32 → Int32 → Int32 → zH → Option (Int32 × zH)) (x0 : Nat) (x1 : Int64) (x3 : Int32) (x4 : Int32) (x5 : Int32) (h : zH) : Option (Int32 × zH) :=
  rc12 x0 x1 x3 x4 (x5 + (1 : Int32)) h
def b_Model_firstLevel_12 (N : Nat) (rc12 : Nat → Int64 → Int32 → Int32 → Int32 → zH → Option (Int32 × zH)) (x0 : Nat) (x1 : Int64) (x3 : Int32) (x4 : Int32) (x5 : Int32) (h : zH) : Option (Int32 × zH) :=
  Option.bind (zgI h x0 0 1) fun (v1 : Int32) =>
  (if v1 < x5 then
    some (x4, h)
  else
    Option.bind (f_Model_at N (0 : Int32) x5 (49 : Int32) h) fun (p2 : Int32 × zH) =>
    Option.bind (zck (zis p2.2 x0 0) (f_Model_may N x0 (0 : Int32) x5 p2.2)) fun (p3 : Int32 × zH) =>
    (if p3.1 = 0 then
      f_Model_firstLevel_112 N rc12 x0 x1 x3 x4 x5 p3.2
    else
      Option.bind (zgR p3.2 x0 0 15) fun (v4 : Nat) =>
      Option.bind (zaJ p3.2 1 v4 p2.1) fun (v5 : Int64) =>
      (if (lg_cmp v5 (0 : Int64)) < 0 then
        f_Model_firstLevel_112 N rc12 x0 x1 x3 x4 x5 p3.2
      else
        Option.bind (zgR p3.2 x0 0 15) fun (v6 : Nat) =>
        Option.bind (zaJ p3.2 1 v6 p2.1) fun (v7 : Int64) =>
        Option.bind (zck (zis p3.2 x0 0) (f_Model_placeCost N x0 (0 : Int32) x5 p3.2)) fun (p8 : Int64 × zH) =>
        Option.bind (zgR p8.2 x0 0 16) fun (v9 : Nat) =>
        Option.bind (zaI p8.2 0 v9 p2.1) fun (v10 : Int32) =>
        Option.bind (zck (zis p8.2 x0 0) (f_Model_isLess N x0 (v7 + p8.1) v10 x1 x3 p8.2)) fun (p11 : Int32 × zH) =>
        (if p11.1 = 0 then
          f_Model_firstLevel_112 N rc12 x0 x1 x3 x4 x5 p11.2
        else
          Option.bind (zgR p11.2 x0 0 15) fun (v12 : Nat) =>
          Option.bind (zaJ p11.2 1 v12 p2.1) fun (v13 : Int64) =>
          Option.bind (zck (zis p11.2 x0 0) (f_Model_placeCost N x0 (0 : Int32) x5 p11.2)) fun (p14 : Int64 × zH) =>
          Option.bind (zgR p14.2 x0 0 16) fun (v15 : Nat) =>
          Option.bind (zaI p14.2 0 v15 p2.1) fun (v16 : Int32) =>
          f_Model_firstLevel_112 N rc12 x0 (v13 + p14.1) v16 x5 x5 p14.2))))
def f_Model_firstLevel_12 (N : Nat) : Nat → Nat → Int64 → Int32 → Int32 → Int32 → zH → Option (Int32 × zH)
  | 0 => fun _ _ _ _ _ _ => none
  | n + 1 => fun x0 x1 x3 x4 x5 h => b_Model_firstLevel_12 N (f_Model_firstLevel_12 N n) x0 x1 x3 x4 x5 h
def f_Model_firstLevel (N : Nat) (x0 : Nat) (h : zH) : Option (Int32 × zH) :=
  f_Model_firstLevel_12 N N x0 (-1 : Int64) (0 : Int32) (-1 : Int32) (0 : Int32) h
theorem d_Model_firstLevel_0 : decode prog_10_method_23_code 0 = .ok (.ldc2_w (137), 3) := by decide +kernel
theorem d_Model_firstLevel_3 : decode prog_10_method_23_code 3 = .ok (.lstore_n (1), 1) := by decide +kernel
theorem d_Model_firstLevel_4 : decode prog_10_method_23_code 4 = .ok (.iconst (0), 1) := by decide +kernel
theorem d_Model_firstLevel_5 : decode prog_10_method_23_code 5 = .ok (.istore_n (3), 1) := by decide +kernel
theorem d_Model_firstLevel_6 : decode prog_10_method_23_code 6 = .ok (.iconst (-1), 1) := by decide +kernel
theorem d_Model_firstLevel_7 : decode prog_10_method_23_code 7 = .ok (.istore (4), 2) := by decide +kernel
theorem d_Model_firstLevel_9 : decode prog_10_method_23_code 9 = .ok (.iconst (0), 1) := by decide +kernel
theorem d_Model_firstLevel_10 : decode prog_10_method_23_code 10 = .ok (.istore (5), 2) := by decide +kernel
theorem d_Model_firstLevel_12 : decode prog_10_method_23_code 12 = .ok (.iload (5), 2) := by decide +kernel
theorem d_Model_firstLevel_14 : decode prog_10_method_23_code 14 = .ok (.aload_n (0), 1) := by decide +kernel
theorem d_Model_firstLevel_15 : decode prog_10_method_23_code 15 = .ok (.getfield (92), 3) := by decide +kernel
theorem d_Model_firstLevel_18 : decode prog_10_method_23_code 18 = .ok (.if_icmp .gt (100), 3) := by decide +kernel
theorem d_Model_firstLevel_21 : decode prog_10_method_23_code 21 = .ok (.iconst (0), 1) := by decide +kernel
theorem d_Model_firstLevel_22 : decode prog_10_method_23_code 22 = .ok (.iload (5), 2) := by decide +kernel
theorem d_Model_firstLevel_24 : decode prog_10_method_23_code 24 = .ok (.bipush (49), 2) := by decide +kernel
theorem d_Model_firstLevel_26 : decode prog_10_method_23_code 26 = .ok (.invokestatic (145), 3) := by decide +kernel
theorem d_Model_firstLevel_29 : decode prog_10_method_23_code 29 = .ok (.istore (6), 2) := by decide +kernel
theorem d_Model_firstLevel_31 : decode prog_10_method_23_code 31 = .ok (.aload_n (0), 1) := by decide +kernel
theorem d_Model_firstLevel_32 : decode prog_10_method_23_code 32 = .ok (.iconst (0), 1) := by decide +kernel
theorem d_Model_firstLevel_33 : decode prog_10_method_23_code 33 = .ok (.iload (5), 2) := by decide +kernel
theorem d_Model_firstLevel_35 : decode prog_10_method_23_code 35 = .ok (.invokevirtual (133), 3) := by decide +kernel
theorem d_Model_firstLevel_38 : decode prog_10_method_23_code 38 = .ok (.ifCond .eq (74), 3) := by decide +kernel
theorem d_Model_firstLevel_41 : decode prog_10_method_23_code 41 = .ok (.aload_n (0), 1) := by decide +kernel
theorem d_Model_firstLevel_42 : decode prog_10_method_23_code 42 = .ok (.getfield (45), 3) := by decide +kernel
theorem d_Model_firstLevel_45 : decode prog_10_method_23_code 45 = .ok (.iload (6), 2) := by decide +kernel
theorem d_Model_firstLevel_47 : decode prog_10_method_23_code 47 = .ok (.laload, 1) := by decide +kernel
theorem d_Model_firstLevel_48 : decode prog_10_method_23_code 48 = .ok (.lconst (0), 1) := by decide +kernel
theorem d_Model_firstLevel_49 : decode prog_10_method_23_code 49 = .ok (.lcmp, 1) := by decide +kernel
theorem d_Model_firstLevel_50 : decode prog_10_method_23_code 50 = .ok (.ifCond .lt (62), 3) := by decide +kernel
theorem d_Model_firstLevel_53 : decode prog_10_method_23_code 53 = .ok (.aload_n (0), 1) := by decide +kernel
theorem d_Model_firstLevel_54 : decode prog_10_method_23_code 54 = .ok (.aload_n (0), 1) := by decide +kernel
theorem d_Model_firstLevel_55 : decode prog_10_method_23_code 55 = .ok (.getfield (45), 3) := by decide +kernel
theorem d_Model_firstLevel_58 : decode prog_10_method_23_code 58 = .ok (.iload (6), 2) := by decide +kernel
theorem d_Model_firstLevel_60 : decode prog_10_method_23_code 60 = .ok (.laload, 1) := by decide +kernel
theorem d_Model_firstLevel_61 : decode prog_10_method_23_code 61 = .ok (.aload_n (0), 1) := by decide +kernel
theorem d_Model_firstLevel_62 : decode prog_10_method_23_code 62 = .ok (.iconst (0), 1) := by decide +kernel
theorem d_Model_firstLevel_63 : decode prog_10_method_23_code 63 = .ok (.iload (5), 2) := by decide +kernel
theorem d_Model_firstLevel_65 : decode prog_10_method_23_code 65 = .ok (.invokevirtual (149), 3) := by decide +kernel
theorem d_Model_firstLevel_68 : decode prog_10_method_23_code 68 = .ok (.ladd, 1) := by decide +kernel
theorem d_Model_firstLevel_69 : decode prog_10_method_23_code 69 = .ok (.aload_n (0), 1) := by decide +kernel
theorem d_Model_firstLevel_70 : decode prog_10_method_23_code 70 = .ok (.getfield (48), 3) := by decide +kernel
theorem d_Model_firstLevel_73 : decode prog_10_method_23_code 73 = .ok (.iload (6), 2) := by decide +kernel
theorem d_Model_firstLevel_75 : decode prog_10_method_23_code 75 = .ok (.iaload, 1) := by decide +kernel
theorem d_Model_firstLevel_76 : decode prog_10_method_23_code 76 = .ok (.lload_n (1), 1) := by decide +kernel
theorem d_Model_firstLevel_77 : decode prog_10_method_23_code 77 = .ok (.iload_n (3), 1) := by decide +kernel
theorem d_Model_firstLevel_78 : decode prog_10_method_23_code 78 = .ok (.invokevirtual (153), 3) := by decide +kernel
theorem d_Model_firstLevel_81 : decode prog_10_method_23_code 81 = .ok (.ifCond .eq (31), 3) := by decide +kernel
theorem d_Model_firstLevel_84 : decode prog_10_method_23_code 84 = .ok (.aload_n (0), 1) := by decide +kernel
theorem d_Model_firstLevel_85 : decode prog_10_method_23_code 85 = .ok (.getfield (45), 3) := by decide +kernel
theorem d_Model_firstLevel_88 : decode prog_10_method_23_code 88 = .ok (.iload (6), 2) := by decide +kernel
theorem d_Model_firstLevel_90 : decode prog_10_method_23_code 90 = .ok (.laload, 1) := by decide +kernel
theorem d_Model_firstLevel_91 : decode prog_10_method_23_code 91 = .ok (.aload_n (0), 1) := by decide +kernel
theorem d_Model_firstLevel_92 : decode prog_10_method_23_code 92 = .ok (.iconst (0), 1) := by decide +kernel
theorem d_Model_firstLevel_93 : decode prog_10_method_23_code 93 = .ok (.iload (5), 2) := by decide +kernel
theorem d_Model_firstLevel_95 : decode prog_10_method_23_code 95 = .ok (.invokevirtual (149), 3) := by decide +kernel
theorem d_Model_firstLevel_98 : decode prog_10_method_23_code 98 = .ok (.ladd, 1) := by decide +kernel
theorem d_Model_firstLevel_99 : decode prog_10_method_23_code 99 = .ok (.lstore_n (1), 1) := by decide +kernel
theorem d_Model_firstLevel_100 : decode prog_10_method_23_code 100 = .ok (.aload_n (0), 1) := by decide +kernel
theorem d_Model_firstLevel_101 : decode prog_10_method_23_code 101 = .ok (.getfield (48), 3) := by decide +kernel
theorem d_Model_firstLevel_104 : decode prog_10_method_23_code 104 = .ok (.iload (6), 2) := by decide +kernel
theorem d_Model_firstLevel_106 : decode prog_10_method_23_code 106 = .ok (.iaload, 1) := by decide +kernel
theorem d_Model_firstLevel_107 : decode prog_10_method_23_code 107 = .ok (.istore_n (3), 1) := by decide +kernel
theorem d_Model_firstLevel_108 : decode prog_10_method_23_code 108 = .ok (.iload (5), 2) := by decide +kernel
theorem d_Model_firstLevel_110 : decode prog_10_method_23_code 110 = .ok (.istore (4), 2) := by decide +kernel
theorem d_Model_firstLevel_112 : decode prog_10_method_23_code 112 = .ok (.iinc (5) (1), 3) := by decide +kernel
theorem d_Model_firstLevel_115 : decode prog_10_method_23_code 115 = .ok (.goto (-103), 3) := by decide +kernel
theorem d_Model_firstLevel_118 : decode prog_10_method_23_code 118 = .ok (.iload (4), 2) := by decide +kernel
theorem d_Model_firstLevel_120 : decode prog_10_method_23_code 120 = .ok (.ireturn, 1) := by decide +kernel
set_option maxHeartbeats 4000000 in
set_option maxRecDepth 100000 in
theorem k_Model_firstLevel_112 (N : Nat) {X : zX} (C : zB X prog_10_method_23_code 7 R_Model rm_Model_firstLevel) {h0 : zH} {p : Int32 × zH} (E : zR X (some .int) rm_Model_firstLevel h0 (some (.int p.1)) p.2) {rc12 : Nat → Int64 → Int32 → Int32 → Int32 → zH → Option (Int32 × zH)} (H12 : ∀ (x0 : Nat) (x1 : Int64) (x3 : Int32) (x4 : Int32) (x5 : Int32) (h : zH), rc12 x0 x1 x3 x4 x5 h = some p → Zt X 7 0 0 12 [(0, .ref x0), (1, .long x1), (3, .int x3), (4, .int x4), (5, .int x5)] [] h) : ∀ (x0 : Nat) (x1 : Int64) (x3 : Int32) (x4 : Int32) (x5 : Int32) (h : zH), f_Model_firstLevel_112 N rc12 x0 x1 x3 x4 x5 h = some p → Zt X 7 0 0 112 [(0, .ref x0), (1, .long x1), (3, .int x3), (4, .int x4), (5, .int x5)] [] h := by
  intro x0 x1 x3 x4 x5 h hf
  unfold f_Model_firstLevel_112 at hf
  refine z_iinc C (v := (x5 + (1 : Int32))) (lv' := [(5, .int (x5 + (1 : Int32))), (0, .ref x0), (1, .long x1), (3, .int x3), (4, .int x4)]) 4 d_Model_firstLevel_112 rfl (by rfl) (by decide) rfl ?_
  refine z_goto (tgt := 12) C d_Model_firstLevel_115 (by decide) ?_
  refine z_sub [1, 2, 3, 4, 0] rfl ?_
  exact H12 _ _ _ _ _ _ hf

set_option maxHeartbeats 4000000 in
set_option maxRecDepth 100000 in
theorem k_Model_firstLevel_12 (N : Nat) {X : zX} (C : zB X prog_10_method_23_code 7 R_Model rm_Model_firstLevel) {h0 : zH} {p : Int32 × zH} (E : zR X (some .int) rm_Model_firstLevel h0 (some (.int p.1)) p.2) : ∀ n : Nat, ∀ (x0 : Nat) (x1 : Int64) (x3 : Int32) (x4 : Int32) (x5 : Int32) (h : zH), f_Model_firstLevel_12 N n x0 x1 x3 x4 x5 h = some p → Zt X 7 0 0 12 [(0, .ref x0), (1, .long x1), (3, .int x3), (4, .int x4), (5, .int x5)] [] h := by
  intro n
  induction n with
  | zero => intro x0 x1 x3 x4 x5 h hf; cases hf
  | succ n ih =>
  intro x0 x1 x3 x4 x5 h hf
  have H12 := ih
  replace hf : b_Model_firstLevel_12 N (f_Model_firstLevel_12 N n) x0 x1 x3 x4 x5 h = some p := hf
  unfold b_Model_firstLevel_12 at hf
  refine z_iload C 4 d_Model_firstLevel_12 rfl ?_
  refine z_aload_n C 0 d_Model_firstLevel_14 rfl rfl ?_
  refine z_getI C 0 1 rfl in_Model (by decide) w_742 rfl d_Model_firstLevel_15 hf (fun v1 hf => ?_)
  refine z_ic_gt (tgt := 118) C d_Model_firstLevel_18 (by decide) hf (fun hf => ?_) (fun hf => ?_)
  · refine z_iload C 3 d_Model_firstLevel_118 rfl ?_
    exact z_iret C E (Nat.le_of_ble_eq_true rfl) (Nat.le_of_ble_eq_true rfl) d_Model_firstLevel_120 hf
  · refine z_iconst C (v := (0 : Int32)) d_Model_firstLevel_21 (by decide) ?_
    refine z_iload C 4 d_Model_firstLevel_22 rfl ?_
    refine z_bipush C (v := (49 : Int32)) d_Model_firstLevel_24 (by decide) ?_
    obtain ⟨p2, hc, hf⟩ := Option.bind_eq_some_iff.mp hf
    refine z_callS C (c_Model_at N C.2.2.1 hc) w_919 w_66 w_917 w_918 pd_Model_at rfl ⟨(Nat.le_of_ble_eq_true rfl), (Nat.le_of_ble_eq_true rfl)⟩ ⟨(Nat.le_of_ble_eq_true rfl), (Nat.le_of_ble_eq_true rfl)⟩ rfl (Nat.le_of_ble_eq_true rfl) d_Model_firstLevel_26 (k' := 0) (n' := 0) (stk' := [.int p2.1]) rfl rfl rfl ?_
    refine z_istore C (lv' := [(6, .int p2.1), (0, .ref x0), (1, .long x1), (3, .int x3), (4, .int x4), (5, .int x5)]) d_Model_firstLevel_29 (by decide) rfl ?_
    refine z_aload_n C 1 d_Model_firstLevel_31 rfl rfl ?_
    refine z_iconst C (v := (0 : Int32)) d_Model_firstLevel_32 (by decide) ?_
    refine z_iload C 5 d_Model_firstLevel_33 rfl ?_
    obtain ⟨p3, hc, hf⟩ := Option.bind_eq_some_iff.mp hf
    obtain ⟨hz, hc⟩ := zck_some hc
    refine z_callV C (ci := 0) (c_Model_may N C.2.2.1 hc) rfl hz w_905 w_66 w_902 w_904 w_37 pd_Model_may rfl ⟨(Nat.le_of_ble_eq_true rfl), (Nat.le_of_ble_eq_true rfl)⟩ ⟨(Nat.le_of_ble_eq_true rfl), (Nat.le_of_ble_eq_true rfl)⟩ rfl (Nat.le_of_ble_eq_true rfl) d_Model_firstLevel_35 (k' := 0) (n' := 0) (stk' := [.int p3.1]) rfl rfl rfl ?_
    refine z_if_eq (tgt := 112) C d_Model_firstLevel_38 (by decide) hf (fun hf => ?_) (fun hf => ?_)
    · refine z_sub [1, 2, 3, 4, 5] rfl ?_
      exact k_Model_firstLevel_112 N C E H12 _ _ _ _ _ _ hf
    · refine z_aload_n C 1 d_Model_firstLevel_41 rfl rfl ?_
      refine z_getR C 0 15 rfl in_Model (by decide) w_756 rfl d_Model_firstLevel_42 hf (fun v4 hf => ?_)
      refine z_iload C 0 d_Model_firstLevel_45 rfl ?_
      refine z_lald C d_Model_firstLevel_47 hf (fun v5 hf => ?_)
      refine z_lconst C (v := (0 : Int64)) d_Model_firstLevel_48 (by decide) ?_
      refine z_lcmp C d_Model_firstLevel_49 ?_
      refine z_if_lt (tgt := 112) C d_Model_firstLevel_50 (by decide) hf (fun hf => ?_) (fun hf => ?_)
      · refine z_sub [1, 2, 3, 4, 5] rfl ?_
        exact k_Model_firstLevel_112 N C E H12 _ _ _ _ _ _ hf
      · refine z_aload_n C 1 d_Model_firstLevel_53 rfl rfl ?_
        refine z_aload_n C 1 d_Model_firstLevel_54 rfl rfl ?_
        refine z_getR C 0 15 rfl in_Model (by decide) w_756 rfl d_Model_firstLevel_55 hf (fun v6 hf => ?_)
        refine z_iload C 0 d_Model_firstLevel_58 rfl ?_
        refine z_lald C d_Model_firstLevel_60 hf (fun v7 hf => ?_)
        refine z_aload_n C 1 d_Model_firstLevel_61 rfl rfl ?_
        refine z_iconst C (v := (0 : Int32)) d_Model_firstLevel_62 (by decide) ?_
        refine z_iload C 5 d_Model_firstLevel_63 rfl ?_
        obtain ⟨p8, hc, hf⟩ := Option.bind_eq_some_iff.mp hf
        obtain ⟨hz, hc⟩ := zck_some hc
        refine z_callV C (ci := 0) (c_Model_placeCost N C.2.2.1 hc) rfl hz w_932 w_66 w_929 w_931 w_42 pd_Model_placeCost rfl ⟨(Nat.le_of_ble_eq_true rfl), (Nat.le_of_ble_eq_true rfl)⟩ ⟨(Nat.le_of_ble_eq_true rfl), (Nat.le_of_ble_eq_true rfl)⟩ rfl (Nat.le_of_ble_eq_true rfl) d_Model_firstLevel_65 (k' := 0) (n' := 0) (stk' := [.long p8.1, .long v7, .ref x0]) rfl rfl rfl ?_
        refine z_ladd C d_Model_firstLevel_68 ?_
        refine z_aload_n C 1 d_Model_firstLevel_69 rfl rfl ?_
        refine z_getR C 0 16 rfl in_Model (by decide) w_757 rfl d_Model_firstLevel_70 hf (fun v9 hf => ?_)
        refine z_iload C 0 d_Model_firstLevel_73 rfl ?_
        refine z_iald C d_Model_firstLevel_75 hf (fun v10 hf => ?_)
        refine z_lload_n C 2 d_Model_firstLevel_76 rfl rfl ?_
        refine z_iload_n C 3 d_Model_firstLevel_77 rfl rfl ?_
        obtain ⟨p11, hc, hf⟩ := Option.bind_eq_some_iff.mp hf
        obtain ⟨hz, hc⟩ := zck_some hc
        refine z_callV C (ci := 0) (c_Model_isLess N C.2.2.1 hc) rfl hz w_936 w_66 w_933 w_935 w_43 pd_Model_isLess rfl ⟨(Nat.le_of_ble_eq_true rfl), (Nat.le_of_ble_eq_true rfl)⟩ ⟨(Nat.le_of_ble_eq_true rfl), (Nat.le_of_ble_eq_true rfl)⟩ rfl (Nat.le_of_ble_eq_true rfl) d_Model_firstLevel_78 (k' := 0) (n' := 0) (stk' := [.int p11.1]) rfl rfl rfl ?_
        refine z_if_eq (tgt := 112) C d_Model_firstLevel_81 (by decide) hf (fun hf => ?_) (fun hf => ?_)
        · refine z_sub [1, 2, 3, 4, 5] rfl ?_
          exact k_Model_firstLevel_112 N C E H12 _ _ _ _ _ _ hf
        · refine z_aload_n C 1 d_Model_firstLevel_84 rfl rfl ?_
          refine z_getR C 0 15 rfl in_Model (by decide) w_756 rfl d_Model_firstLevel_85 hf (fun v12 hf => ?_)
          refine z_iload C 0 d_Model_firstLevel_88 rfl ?_
          refine z_lald C d_Model_firstLevel_90 hf (fun v13 hf => ?_)
          refine z_aload_n C 1 d_Model_firstLevel_91 rfl rfl ?_
          refine z_iconst C (v := (0 : Int32)) d_Model_firstLevel_92 (by decide) ?_
          refine z_iload C 5 d_Model_firstLevel_93 rfl ?_
          obtain ⟨p14, hc, hf⟩ := Option.bind_eq_some_iff.mp hf
          obtain ⟨hz, hc⟩ := zck_some hc
          refine z_callV C (ci := 0) (c_Model_placeCost N C.2.2.1 hc) rfl hz w_932 w_66 w_929 w_931 w_42 pd_Model_placeCost rfl ⟨(Nat.le_of_ble_eq_true rfl), (Nat.le_of_ble_eq_true rfl)⟩ ⟨(Nat.le_of_ble_eq_true rfl), (Nat.le_of_ble_eq_true rfl)⟩ rfl (Nat.le_of_ble_eq_true rfl) d_Model_firstLevel_95 (k' := 0) (n' := 0) (stk' := [.long p14.1, .long v13]) rfl rfl rfl ?_
          refine z_ladd C d_Model_firstLevel_98 ?_
          refine z_lstore_n C (lv' := [(1, .long (v13 + p14.1)), (6, .int p2.1), (0, .ref x0), (3, .int x3), (4, .int x4), (5, .int x5)]) d_Model_firstLevel_99 rfl (by decide) rfl ?_
          refine z_aload_n C 2 d_Model_firstLevel_100 rfl rfl ?_
          refine z_getR C 0 16 rfl in_Model (by decide) w_757 rfl d_Model_firstLevel_101 hf (fun v15 hf => ?_)
          refine z_iload C 1 d_Model_firstLevel_104 rfl ?_
          refine z_iald C d_Model_firstLevel_106 hf (fun v16 hf => ?_)
          refine z_istore_n C (lv' := [(3, .int v16), (1, .long (v13 + p14.1)), (6, .int p2.1), (0, .ref x0), (4, .int x4), (5, .int x5)]) d_Model_firstLevel_107 rfl (by decide) rfl ?_
          refine z_iload C 5 d_Model_firstLevel_108 rfl ?_
          refine z_istore C (lv' := [(4, .int x5), (3, .int v16), (1, .long (v13 + p14.1)), (6, .int p2.1), (0, .ref x0), (5, .int x5)]) d_Model_firstLevel_110 (by decide) rfl ?_
          refine z_sub [4, 2, 1, 0, 5] rfl ?_
          exact k_Model_firstLevel_112 N C E H12 _ _ _ _ _ _ hf

set_option maxHeartbeats 4000000 in
set_option maxRecDepth 100000 in
theorem k_Model_firstLevel (N : Nat) {X : zX} (C : zB X prog_10_method_23_code 7 R_Model rm_Model_firstLevel) {h0 : zH} {p : Int32 × zH} (E : zR X (some .int) rm_Model_firstLevel h0 (some (.int p.1)) p.2) : ∀ (x0 : Nat) (h : zH), f_Model_firstLevel N x0 h = some p → Zt X 7 0 0 0 [(0, .ref x0)] [] h := by
  intro x0 h hf
  unfold f_Model_firstLevel at hf
  refine z_ldc2 C d_Model_firstLevel_0 w_924 ?_
  refine z_lstore_n C (lv' := [(1, .long (-1 : Int64)), (0, .ref x0)]) d_Model_firstLevel_3 rfl (by decide) rfl ?_
  refine z_iconst C (v := (0 : Int32)) d_Model_firstLevel_4 (by decide) ?_
  refine z_istore_n C (lv' := [(3, .int (0 : Int32)), (1, .long (-1 : Int64)), (0, .ref x0)]) d_Model_firstLevel_5 rfl (by decide) rfl ?_
  refine z_iconst C (v := (-1 : Int32)) d_Model_firstLevel_6 (by decide) ?_
  refine z_istore C (lv' := [(4, .int (-1 : Int32)), (3, .int (0 : Int32)), (1, .long (-1 : Int64)), (0, .ref x0)]) d_Model_firstLevel_7 (by decide) rfl ?_
  refine z_iconst C (v := (0 : Int32)) d_Model_firstLevel_9 (by decide) ?_
  refine z_istore C (lv' := [(5, .int (0 : Int32)), (4, .int (-1 : Int32)), (3, .int (0 : Int32)), (1, .long (-1 : Int64)), (0, .ref x0)]) d_Model_firstLevel_10 (by decide) rfl ?_
  refine z_sub [4, 3, 2, 1, 0] rfl ?_
  exact k_Model_firstLevel_12 N C E N _ _ _ _ _ _ hf

theorem c_Model_firstLevel (N : Nat) {l : Launch} {D : va_G} {T : List (ClassId × FieldType)} (hT : T.map (fun q => q.2) = ztl) {x0 : Nat} {h : zH} {p : Int32 × zH} (hf : f_Model_firstLevel N x0 h = some p) : zM l y_Model_firstLevel prog_10_method_23_code 7 (some .int) rm_Model_firstLevel D T [.ref x0] h (some (.int p.1)) p.2 :=
  z_enter (by decide) hT (Nat.le_of_ble_eq_true rfl) (fun X el eD eT hin C E => k_Model_firstLevel N C E x0 h hf)
