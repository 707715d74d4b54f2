/-! ROWS OVER THE PURE HEAP. A method's walk: zX, what stays the same; Zt, from this place the machine comes to the method's end. -/
abbrev zX : Type := Program × Launch × Env × Room × State × MethodId × Array Value × List Frame × Method × Code × va_G × List (ClassId × FieldType) × (Nat → Prop) × Heap × (State → Prop)
abbrev x_p (X : zX) := X.1
abbrev x_l (X : zX) := X.2.1
abbrev x_e (X : zX) := X.2.2.1
abbrev x_R (X : zX) := X.2.2.2.1
abbrev x_s (X : zX) := X.2.2.2.2.1
abbrev x_m (X : zX) := X.2.2.2.2.2.1
abbrev x_a (X : zX) := X.2.2.2.2.2.2.1
abbrev x_b (X : zX) := X.2.2.2.2.2.2.2.1
abbrev x_t (X : zX) := X.2.2.2.2.2.2.2.2.1
abbrev x_c (X : zX) := X.2.2.2.2.2.2.2.2.2.1
abbrev x_D (X : zX) := X.2.2.2.2.2.2.2.2.2.2.1
abbrev x_T (X : zX) := X.2.2.2.2.2.2.2.2.2.2.2.1
abbrev x_A (X : zX) := X.2.2.2.2.2.2.2.2.2.2.2.2.1
abbrev x_H (X : zX) := X.2.2.2.2.2.2.2.2.2.2.2.2.2.1
abbrev x_Q (X : zX) := X.2.2.2.2.2.2.2.2.2.2.2.2.2.2
def zWW (X : zX) (H : Heap) (locs : List Loc) (k n : Nat) (g : JFrame) : Prop := W (x_p X) (x_l X) (x_e X) (x_R X) (x_s X) (x_m X) (x_a X) (x_b X) (x_t X) (x_c X) H locs k n (x_Q X) g
/-- what a heap holds, and what has stayed -/
def zI (X : zX) (h : zH) (H : Heap) (locs : List Loc) : Prop := z_Rep (x_D X) zcl (x_T X) h H ∧ (∀ a, (h.1 a).isSome = true → x_A X a) ∧ va_S (x_A X) (x_H X) H locs
def Zt (X : zX) (nL k n pc : Nat) (lv : List (Nat × Value)) (st : List Value) (h : zH) : Prop :=
  ∀ (H : Heap) (locs : List Loc) (ls : Array Slot), zI X h H locs → lv_has ls nL lv → zWW X H locs k n (F0 (x_m X) pc ls st)
/-- what a walk stands on -/
def zB (X : zX) (cc : ByteArray) (nL : Nat) (own : String) (rm : Room) : Prop :=
  CallFix (x_p X) (x_m X) (x_c X) cc nL (x_s X) (x_a X) zws own ∧ va_K (x_D X) zcl (x_T X) (x_s X) ∧ (x_T X).map (fun q => q.2) = ztl ∧ x_R X = rm ∧ (∀ q, (x_H X).size ≤ q → x_A X q) ∧ zN (x_T X) (x_s X)
def zPost (D : va_G) (T : List (ClassId × FieldType)) (h0 : zH) (r : Option Value) (h1 : zH) : Array Value → State → Outcome → State → Prop :=
  fun _ st oc t => oc = .returned r ∧ z_Rep D zcl T h1 t.heap ∧ (∀ a, (h1.1 a).isSome = true → z_A h0 a) ∧ va_F (z_A h0) st t
def zR (X : zX) (ret : Option FieldType) (rm : Room) (h0 : zH) (r : Option Value) (h1 : zH) : Prop :=
  (x_t X).sig.returnType = ret ∧ (x_t X).locks = false ∧ x_A X = z_A h0 ∧ x_H X = (x_s X).heap ∧ x_Q X = MQ (x_b X) (zPost (x_D X) (x_T X) h0 r h1) (x_a X) (x_s X) rm.cells rm.slots (z_A h0)
section ZROWS
variable {X : zX} {cc : ByteArray} {nL : Nat} {own : String} {rm : Room} {k n pc : Nat} {lv lv' : List (Nat × Value)} {st : List Value} {h : zH}
/-- instructions that change the stack alone -/
theorem z_iconst (C : zB X cc nL own rm) {i : Int} {v : Int32} (d : decode cc pc = .ok (.iconst i, 1)) (hv : Int32.ofInt i = v) (K : Zt X nL k n (pc + 1) lv (.int v :: st) h) : Zt X nL k n pc lv st h :=
  fun H locs ls hI hl => lv_iconst C.1.1 C.1.2.1 d hv (K H locs ls hI hl)
theorem z_bipush (C : zB X cc nL own rm) {i : Int} {v : Int32} (d : decode cc pc = .ok (.bipush i, 2)) (hv : (Int8.ofInt i).toInt32 = v) (K : Zt X nL k n (pc + 2) lv (.int v :: st) h) : Zt X nL k n pc lv st h :=
  fun H locs ls hI hl => lv_bipush C.1.1 C.1.2.1 d hv (K H locs ls hI hl)
theorem z_sipush (C : zB X cc nL own rm) {i : Int} {v : Int32} (d : decode cc pc = .ok (.sipush i, 3)) (hv : (Int16.ofInt i).toInt32 = v) (K : Zt X nL k n (pc + 3) lv (.int v :: st) h) : Zt X nL k n pc lv st h :=
  fun H locs ls hI hl => lv_sipush C.1.1 C.1.2.1 d hv (K H locs ls hI hl)
theorem z_ldc (C : zB X cc nL own rm) {i : Nat} {v : Int32} (d : decode cc pc = .ok (.ldc i, 2)) (w : Jvm.Cond.constant own i v ∈ zws) (K : Zt X nL k n (pc + 2) lv (.int v :: st) h) : Zt X nL k n pc lv st h :=
  fun H locs ls hI hl => lv_ldc C.1.1 C.1.2.1 C.1.2.2.2.1 (C.1.2.2.2.2 _ w) d (K H locs ls hI hl)
theorem z_ldcw (C : zB X cc nL own rm) {i : Nat} {v : Int32} (d : decode cc pc = .ok (.ldc_w i, 3)) (w : Jvm.Cond.constant own i v ∈ zws) (K : Zt X nL k n (pc + 3) lv (.int v :: st) h) : Zt X nL k n pc lv st h :=
  fun H locs ls hI hl => lv_ldcw C.1.1 C.1.2.1 C.1.2.2.2.1 (C.1.2.2.2.2 _ w) d (K H locs ls hI hl)
theorem z_ldc2 (C : zB X cc nL own rm) {i : Nat} {v : Int64} (d : decode cc pc = .ok (.ldc2_w i, 3)) (w : Jvm.Cond.constantLong own i v ∈ zws) (K : Zt X nL k n (pc + 3) lv (.long v :: st) h) : Zt X nL k n pc lv st h :=
  fun H locs ls hI hl => lv_ldc2 C.1.1 C.1.2.1 C.1.2.2.2.1 (C.1.2.2.2.2 _ w) d (K H locs ls hI hl)
theorem z_iload_n (C : zB X cc nL own rm) {j : Fin 4} {i : Nat} {x : Int32} (q : Nat) (d : decode cc pc = .ok (.iload_n j, 1)) (hi : (j : Nat) = i) (hq : lv[q]? = some (i, .int x)) (K : Zt X nL k n (pc + 1) lv (.int x :: st) h) : Zt X nL k n pc lv st h :=
  fun H locs ls hI hl => lv_iload_n C.1.1 C.1.2.1 d hi (lv_at hl q hq) (K H locs ls hI hl)
theorem z_iload (C : zB X cc nL own rm) {i : Nat} {x : Int32} (q : Nat) (d : decode cc pc = .ok (.iload i, 2)) (hq : lv[q]? = some (i, .int x)) (K : Zt X nL k n (pc + 2) lv (.int x :: st) h) : Zt X nL k n pc lv st h :=
  fun H locs ls hI hl => lv_iload C.1.1 C.1.2.1 d (lv_at hl q hq) (K H locs ls hI hl)
theorem z_lload_n (C : zB X cc nL own rm) {j : Fin 4} {i : Nat} {x : Int64} (q : Nat) (d : decode cc pc = .ok (.lload_n j, 1)) (hi : (j : Nat) = i) (hq : lv[q]? = some (i, .long x)) (K : Zt X nL k n (pc + 1) lv (.long x :: st) h) : Zt X nL k n pc lv st h :=
  fun H locs ls hI hl => lv_lload_n C.1.1 C.1.2.1 d hi (lv_at hl q hq) (K H locs ls hI hl)
theorem z_lload (C : zB X cc nL own rm) {i : Nat} {x : Int64} (q : Nat) (d : decode cc pc = .ok (.lload i, 2)) (hq : lv[q]? = some (i, .long x)) (K : Zt X nL k n (pc + 2) lv (.long x :: st) h) : Zt X nL k n pc lv st h :=
  fun H locs ls hI hl => lv_lload C.1.1 C.1.2.1 d (lv_at hl q hq) (K H locs ls hI hl)
theorem z_aload_n (C : zB X cc nL own rm) {j : Fin 4} {i x : Nat} (q : Nat) (d : decode cc pc = .ok (.aload_n j, 1)) (hi : (j : Nat) = i) (hq : lv[q]? = some (i, .ref x)) (K : Zt X nL k n (pc + 1) lv (.ref x :: st) h) : Zt X nL k n pc lv st h :=
  fun H locs ls hI hl => lv_aload_n C.1.1 C.1.2.1 d hi (lv_at hl q hq) (K H locs ls hI hl)
theorem z_aload (C : zB X cc nL own rm) {i x : Nat} (q : Nat) (d : decode cc pc = .ok (.aload i, 2)) (hq : lv[q]? = some (i, .ref x)) (K : Zt X nL k n (pc + 2) lv (.ref x :: st) h) : Zt X nL k n pc lv st h :=
  fun H locs ls hI hl => lv_aload C.1.1 C.1.2.1 d (lv_at hl q hq) (K H locs ls hI hl)
theorem z_istore_n (C : zB X cc nL own rm) {j : Fin 4} {i : Nat} {x : Int32} (d : decode cc pc = .ok (.istore_n j, 1)) (hi : (j : Nat) = i) (hn : i < nL) (hv : (i, Value.int x) :: lv.filter (fun q => !(q.1 == i) && !(q.1 + 1 == i && q.2.category == 2)) = lv') (K : Zt X nL k n (pc + 1) lv' st h) : Zt X nL k n pc lv (.int x :: st) h :=
  fun H locs ls hI hl => lv_istore_n C.1.1 C.1.2.1 d hi hl hn hv (fun ls' hl' => K H locs ls' hI hl')
theorem z_istore (C : zB X cc nL own rm) {i : Nat} {x : Int32} (d : decode cc pc = .ok (.istore i, 2)) (hn : i < nL) (hv : (i, Value.int x) :: lv.filter (fun q => !(q.1 == i) && !(q.1 + 1 == i && q.2.category == 2)) = lv') (K : Zt X nL k n (pc + 2) lv' st h) : Zt X nL k n pc lv (.int x :: st) h :=
  fun H locs ls hI hl => lv_istore C.1.1 C.1.2.1 d hl hn hv (fun ls' hl' => K H locs ls' hI hl')
theorem z_lstore_n (C : zB X cc nL own rm) {j : Fin 4} {i : Nat} {x : Int64} (d : decode cc pc = .ok (.lstore_n j, 1)) (hi : (j : Nat) = i) (hn : i + 1 < nL) (hv : (i, Value.long x) :: lv.filter (fun q => !(q.1 == i) && (!(q.1 == i + 1) && !(q.1 + 1 == i && q.2.category == 2))) = lv') (K : Zt X nL k n (pc + 1) lv' st h) : Zt X nL k n pc lv (.long x :: st) h :=
  fun H locs ls hI hl => lv_lstore_n C.1.1 C.1.2.1 d hi hl hn hv (fun ls' hl' => K H locs ls' hI hl')
theorem z_lstore (C : zB X cc nL own rm) {i : Nat} {x : Int64} (d : decode cc pc = .ok (.lstore i, 2)) (hn : i + 1 < nL) (hv : (i, Value.long x) :: lv.filter (fun q => !(q.1 == i) && (!(q.1 == i + 1) && !(q.1 + 1 == i && q.2.category == 2))) = lv') (K : Zt X nL k n (pc + 2) lv' st h) : Zt X nL k n pc lv (.long x :: st) h :=
  fun H locs ls hI hl => lv_lstore C.1.1 C.1.2.1 d hl hn hv (fun ls' hl' => K H locs ls' hI hl')
theorem z_astore_n (C : zB X cc nL own rm) {j : Fin 4} {i x : Nat} (d : decode cc pc = .ok (.astore_n j, 1)) (hi : (j : Nat) = i) (hn : i < nL) (hv : (i, Value.ref x) :: lv.filter (fun q => !(q.1 == i) && !(q.1 + 1 == i && q.2.category == 2)) = lv') (K : Zt X nL k n (pc + 1) lv' st h) : Zt X nL k n pc lv (.ref x :: st) h :=
  fun H locs ls hI hl => lv_astore_n C.1.1 C.1.2.1 d hi hl hn hv (fun ls' hl' => K H locs ls' hI hl')
theorem z_astore (C : zB X cc nL own rm) {i x : Nat} (d : decode cc pc = .ok (.astore i, 2)) (hn : i < nL) (hv : (i, Value.ref x) :: lv.filter (fun q => !(q.1 == i) && !(q.1 + 1 == i && q.2.category == 2)) = lv') (K : Zt X nL k n (pc + 2) lv' st h) : Zt X nL k n pc lv (.ref x :: st) h :=
  fun H locs ls hI hl => lv_astore C.1.1 C.1.2.1 d hl hn hv (fun ls' hl' => K H locs ls' hI hl')
theorem z_iinc (C : zB X cc nL own rm) {i : Nat} {j : Int} {x v : Int32} (q : Nat) (d : decode cc pc = .ok (.iinc i j, 3)) (hq : lv[q]? = some (i, .int x)) (he : x + Int32.ofInt j = v) (hn : i < nL) (hv : (i, Value.int v) :: lv.filter (fun q => !(q.1 == i) && !(q.1 + 1 == i && q.2.category == 2)) = lv') (K : Zt X nL k n (pc + 3) lv' st h) : Zt X nL k n pc lv st h :=
  fun H locs ls hI hl => lv_iinc C.1.1 C.1.2.1 d hl hq he hn hv (fun ls' hl' => K H locs ls' hI hl')
theorem z_iadd (C : zB X cc nL own rm) {x y : Int32} (d : decode cc pc = .ok (.iadd, 1)) (K : Zt X nL k n (pc + 1) lv (.int (x + y) :: st) h) : Zt X nL k n pc lv (.int y :: .int x :: st) h :=
  fun H locs ls hI hl => lv_iadd C.1.1 C.1.2.1 d (K H locs ls hI hl)
theorem z_isub (C : zB X cc nL own rm) {x y : Int32} (d : decode cc pc = .ok (.isub, 1)) (K : Zt X nL k n (pc + 1) lv (.int (x - y) :: st) h) : Zt X nL k n pc lv (.int y :: .int x :: st) h :=
  fun H locs ls hI hl => lv_isub C.1.1 C.1.2.1 d (K H locs ls hI hl)
theorem z_imul (C : zB X cc nL own rm) {x y : Int32} (d : decode cc pc = .ok (.imul, 1)) (K : Zt X nL k n (pc + 1) lv (.int (x * y) :: st) h) : Zt X nL k n pc lv (.int y :: .int x :: st) h :=
  fun H locs ls hI hl => lv_imul C.1.1 C.1.2.1 d (K H locs ls hI hl)
theorem z_iand (C : zB X cc nL own rm) {x y : Int32} (d : decode cc pc = .ok (.iand, 1)) (K : Zt X nL k n (pc + 1) lv (.int (x &&& y) :: st) h) : Zt X nL k n pc lv (.int y :: .int x :: st) h :=
  fun H locs ls hI hl => lv_iand C.1.1 C.1.2.1 d (K H locs ls hI hl)
theorem z_ior (C : zB X cc nL own rm) {x y : Int32} (d : decode cc pc = .ok (.ior, 1)) (K : Zt X nL k n (pc + 1) lv (.int (x ||| y) :: st) h) : Zt X nL k n pc lv (.int y :: .int x :: st) h :=
  fun H locs ls hI hl => lv_ior C.1.1 C.1.2.1 d (K H locs ls hI hl)
theorem z_idiv (C : zB X cc nL own rm) {x y : Int32} (d : decode cc pc = .ok (.idiv, 1)) (hy : ¬ y = 0) (K : Zt X nL k n (pc + 1) lv (.int (x / y) :: st) h) : Zt X nL k n pc lv (.int y :: .int x :: st) h :=
  fun H locs ls hI hl => lv_idiv C.1.1 C.1.2.1 d hy (K H locs ls hI hl)
theorem z_irem (C : zB X cc nL own rm) {x y : Int32} (d : decode cc pc = .ok (.irem, 1)) (hy : ¬ y = 0) (K : Zt X nL k n (pc + 1) lv (.int (x - x / y * y) :: st) h) : Zt X nL k n pc lv (.int y :: .int x :: st) h :=
  fun H locs ls hI hl => lv_irem C.1.1 C.1.2.1 d hy (K H locs ls hI hl)
theorem z_ineg (C : zB X cc nL own rm) {x : Int32} (d : decode cc pc = .ok (.ineg, 1)) (K : Zt X nL k n (pc + 1) lv (.int (-x) :: st) h) : Zt X nL k n pc lv (.int x :: st) h :=
  fun H locs ls hI hl => lv_ineg C.1.1 C.1.2.1 d (K H locs ls hI hl)
theorem z_ishl (C : zB X cc nL own rm) {x y : Int32} (d : decode cc pc = .ok (.ishl, 1)) (K : Zt X nL k n (pc + 1) lv (.int (x <<< (y &&& 31)) :: st) h) : Zt X nL k n pc lv (.int y :: .int x :: st) h :=
  fun H locs ls hI hl => lv_ishl C.1.1 C.1.2.1 d (K H locs ls hI hl)
theorem z_ishr (C : zB X cc nL own rm) {x y : Int32} (d : decode cc pc = .ok (.ishr, 1)) (K : Zt X nL k n (pc + 1) lv (.int (x >>> (y &&& 31)) :: st) h) : Zt X nL k n pc lv (.int y :: .int x :: st) h :=
  fun H locs ls hI hl => lv_ishr C.1.1 C.1.2.1 d (K H locs ls hI hl)
/-- shifts without a sign -/
def z_us (x y : Int32) : Int32 := (x.toUInt32 >>> (y.toUInt32 &&& Int32.toUInt32 31)).toInt32
def z_usl (x : Int64) (y : Int32) : Int64 := (x.toUInt64 >>> (y.toInt64.toUInt64 &&& Int64.toUInt64 63)).toInt64
def z_sl (x : Int64) (y : Int32) : Int64 := x <<< (y.toInt64 &&& 63)
theorem z_iushr (C : zB X cc nL own rm) {x y : Int32} (d : decode cc pc = .ok (.iushr, 1)) (K : Zt X nL k n (pc + 1) lv (.int (z_us x y) :: st) h) : Zt X nL k n pc lv (.int y :: .int x :: st) h :=
  fun H locs ls hI hl => lv_iushr C.1.1 C.1.2.1 d rfl (K H locs ls hI hl)
theorem z_lushr (C : zB X cc nL own rm) {x : Int64} {y : Int32} (d : decode cc pc = .ok (.lushr, 1)) (K : Zt X nL k n (pc + 1) lv (.long (z_usl x y) :: st) h) : Zt X nL k n pc lv (.int y :: .long x :: st) h :=
  fun H locs ls hI hl => lv_lushr C.1.1 C.1.2.1 d rfl (K H locs ls hI hl)
theorem z_lshl (C : zB X cc nL own rm) {x : Int64} {y : Int32} (d : decode cc pc = .ok (.lshl, 1)) (K : Zt X nL k n (pc + 1) lv (.long (z_sl x y) :: st) h) : Zt X nL k n pc lv (.int y :: .long x :: st) h :=
  fun H locs ls hI hl => lv_lshl C.1.1 C.1.2.1 d rfl (K H locs ls hI hl)
theorem z_i2l (C : zB X cc nL own rm) {x : Int32} (d : decode cc pc = .ok (.i2l, 1)) (K : Zt X nL k n (pc + 1) lv (.long x.toInt64 :: st) h) : Zt X nL k n pc lv (.int x :: st) h :=
  fun H locs ls hI hl => lv_i2l C.1.1 C.1.2.1 d rfl (K H locs ls hI hl)
theorem z_ladd (C : zB X cc nL own rm) {x y : Int64} (d : decode cc pc = .ok (.ladd, 1)) (K : Zt X nL k n (pc + 1) lv (.long (x + y) :: st) h) : Zt X nL k n pc lv (.long y :: .long x :: st) h :=
  fun H locs ls hI hl => lv_ladd C.1.1 C.1.2.1 d (K H locs ls hI hl)
theorem z_lsub (C : zB X cc nL own rm) {x y : Int64} (d : decode cc pc = .ok (.lsub, 1)) (K : Zt X nL k n (pc + 1) lv (.long (x - y) :: st) h) : Zt X nL k n pc lv (.long y :: .long x :: st) h :=
  fun H locs ls hI hl => lv_lsub C.1.1 C.1.2.1 d (K H locs ls hI hl)
theorem z_lmul (C : zB X cc nL own rm) {x y : Int64} (d : decode cc pc = .ok (.lmul, 1)) (K : Zt X nL k n (pc + 1) lv (.long (x * y) :: st) h) : Zt X nL k n pc lv (.long y :: .long x :: st) h :=
  fun H locs ls hI hl => lv_lmul C.1.1 C.1.2.1 d (K H locs ls hI hl)
theorem z_land (C : zB X cc nL own rm) {x y : Int64} (d : decode cc pc = .ok (.land, 1)) (K : Zt X nL k n (pc + 1) lv (.long (x &&& y) :: st) h) : Zt X nL k n pc lv (.long y :: .long x :: st) h :=
  fun H locs ls hI hl => lv_land C.1.1 C.1.2.1 d (K H locs ls hI hl)
theorem z_lor (C : zB X cc nL own rm) {x y : Int64} (d : decode cc pc = .ok (.lor, 1)) (K : Zt X nL k n (pc + 1) lv (.long (x ||| y) :: st) h) : Zt X nL k n pc lv (.long y :: .long x :: st) h :=
  fun H locs ls hI hl => lv_lor C.1.1 C.1.2.1 d (K H locs ls hI hl)
theorem z_ldiv (C : zB X cc nL own rm) {x y : Int64} (d : decode cc pc = .ok (.ldiv, 1)) (hy : ¬ y = 0) (K : Zt X nL k n (pc + 1) lv (.long (x / y) :: st) h) : Zt X nL k n pc lv (.long y :: .long x :: st) h :=
  fun H locs ls hI hl => lv_ldiv C.1.1 C.1.2.1 d hy (K H locs ls hI hl)
theorem z_lcmp (C : zB X cc nL own rm) {x y : Int64} (d : decode cc pc = .ok (.lcmp, 1)) (K : Zt X nL k n (pc + 1) lv (.int (lg_cmp x y) :: st) h) : Zt X nL k n pc lv (.long y :: .long x :: st) h :=
  fun H locs ls hI hl => W.lcmp C.1.1 C.1.2.1 d (K H locs ls hI hl)
theorem z_lconst (C : zB X cc nL own rm) {i : Fin 2} {v : Int64} (d : decode cc pc = .ok (.lconst i, 1)) (hv : Int64.ofNat (i : Nat) = v) (K : Zt X nL k n (pc + 1) lv (.long v :: st) h) : Zt X nL k n pc lv st h :=
  fun H locs ls hI hl => lv_lconst C.1.1 C.1.2.1 d hv (K H locs ls hI hl)
theorem z_dup (C : zB X cc nL own rm) {v : Value} (d : decode cc pc = .ok (.dup, 1)) (hv : v.category = 1) (K : Zt X nL k n (pc + 1) lv (v :: v :: st) h) : Zt X nL k n pc lv (v :: st) h :=
  fun H locs ls hI hl => lv_dup C.1.1 C.1.2.1 d hv (K H locs ls hI hl)
theorem z_dup2 (C : zB X cc nL own rm) {v w : Value} (d : decode cc pc = .ok (.dup2, 1)) (hv : v.category = 1) (hw : w.category = 1) (K : Zt X nL k n (pc + 1) lv (v :: w :: v :: w :: st) h) : Zt X nL k n pc lv (v :: w :: st) h :=
  fun H locs ls hI hl => lv_dup2_11 C.1.1 C.1.2.1 d hv hw (K H locs ls hI hl)
theorem z_goto (C : zB X cc nL own rm) {off : Int} {tgt : Nat} (d : decode cc pc = .ok (.goto off, 3)) (ht : (pc : Int) + off = (tgt : Int)) (K : Zt X nL k n tgt lv st h) : Zt X nL k n pc lv st h :=
  fun H locs ls hI hl => lv_goto C.1.1 C.1.2.1 d ht (K H locs ls hI hl)
/-- fewer locals are listed -/
theorem z_sub (ks : List Nat) (hl' : lv_pick lv ks = lv') (K : Zt X nL k n pc lv' st h) : Zt X nL k n pc lv st h :=
  fun H locs ls hI hl => K H locs ls hI (lv_sub hl ks hl')
theorem z_widen {k' n' : Nat} (h1 : k ≤ k') (h2 : n ≤ n') (K : Zt X nL k' n' pc lv st h) : Zt X nL k n pc lv st h :=
  fun H locs ls hI hl => W.widen h1 h2 (K H locs ls hI hl)
theorem z_if_eq (C : zB X cc nL own rm) {x : Int32} {off : Int} {tgt : Nat} (d : decode cc pc = .ok (.ifCond .eq off, 3)) (ht : (pc : Int) + off = (tgt : Int)) {α : Type} {A B : Option α} {r : α} (hf : (if x = 0 then A else B) = some r) (kt : A = some r → Zt X nL k n tgt lv st h) (kf : B = some r → Zt X nL k n (pc + 3) lv st h) : Zt X nL k n pc lv (.int x :: st) h :=
  fun H locs ls hI hl => lv_if_eq C.1.1 C.1.2.1 d ht (fun e => kt (by rw [if_pos e] at hf; exact hf) H locs ls hI hl) (fun e => kf (by rw [if_neg e] at hf; exact hf) H locs ls hI hl)
theorem z_ic_eq (C : zB X cc nL own rm) {x y : Int32} {off : Int} {tgt : Nat} (d : decode cc pc = .ok (.if_icmp .eq off, 3)) (ht : (pc : Int) + off = (tgt : Int)) {α : Type} {A B : Option α} {r : α} (hf : (if x = y then A else B) = some r) (kt : A = some r → Zt X nL k n tgt lv st h) (kf : B = some r → Zt X nL k n (pc + 3) lv st h) : Zt X nL k n pc lv (.int y :: .int x :: st) h :=
  fun H locs ls hI hl => lv_icmp_eq C.1.1 C.1.2.1 d ht (fun e => kt (by rw [if_pos e] at hf; exact hf) H locs ls hI hl) (fun e => kf (by rw [if_neg e] at hf; exact hf) H locs ls hI hl)
theorem z_if_ne (C : zB X cc nL own rm) {x : Int32} {off : Int} {tgt : Nat} (d : decode cc pc = .ok (.ifCond .ne off, 3)) (ht : (pc : Int) + off = (tgt : Int)) {α : Type} {A B : Option α} {r : α} (hf : (if x = 0 then B else A) = some r) (kt : A = some r → Zt X nL k n tgt lv st h) (kf : B = some r → Zt X nL k n (pc + 3) lv st h) : Zt X nL k n pc lv (.int x :: st) h :=
  fun H locs ls hI hl => lv_if_ne C.1.1 C.1.2.1 d ht (fun e => kt (by rw [if_neg e] at hf; exact hf) H locs ls hI hl) (fun e => kf (by rw [if_pos (by first | exact e | exact Classical.not_not.mp e)] at hf; exact hf) H locs ls hI hl)
theorem z_ic_ne (C : zB X cc nL own rm) {x y : Int32} {off : Int} {tgt : Nat} (d : decode cc pc = .ok (.if_icmp .ne off, 3)) (ht : (pc : Int) + off = (tgt : Int)) {α : Type} {A B : Option α} {r : α} (hf : (if x = y then B else A) = some r) (kt : A = some r → Zt X nL k n tgt lv st h) (kf : B = some r → Zt X nL k n (pc + 3) lv st h) : Zt X nL k n pc lv (.int y :: .int x :: st) h :=
  fun H locs ls hI hl => lv_icmp_ne C.1.1 C.1.2.1 d ht (fun e => kt (by rw [if_neg e] at hf; exact hf) H locs ls hI hl) (fun e => kf (by rw [if_pos (by first | exact e | exact Classical.not_not.mp e)] at hf; exact hf) H locs ls hI hl)
theorem z_if_lt (C : zB X cc nL own rm) {x : Int32} {off : Int} {tgt : Nat} (d : decode cc pc = .ok (.ifCond .lt off, 3)) (ht : (pc : Int) + off = (tgt : Int)) {α : Type} {A B : Option α} {r : α} (hf : (if x < 0 then A else B) = some r) (kt : A = some r → Zt X nL k n tgt lv st h) (kf : B = some r → Zt X nL k n (pc + 3) lv st h) : Zt X nL k n pc lv (.int x :: st) h :=
  fun H locs ls hI hl => lv_if_lt C.1.1 C.1.2.1 d ht (fun e => kt (by rw [if_pos e] at hf; exact hf) H locs ls hI hl) (fun e => kf (by rw [if_neg e] at hf; exact hf) H locs ls hI hl)
theorem z_ic_lt (C : zB X cc nL own rm) {x y : Int32} {off : Int} {tgt : Nat} (d : decode cc pc = .ok (.if_icmp .lt off, 3)) (ht : (pc : Int) + off = (tgt : Int)) {α : Type} {A B : Option α} {r : α} (hf : (if x < y then A else B) = some r) (kt : A = some r → Zt X nL k n tgt lv st h) (kf : B = some r → Zt X nL k n (pc + 3) lv st h) : Zt X nL k n pc lv (.int y :: .int x :: st) h :=
  fun H locs ls hI hl => lv_icmp_lt C.1.1 C.1.2.1 d ht (fun e => kt (by rw [if_pos e] at hf; exact hf) H locs ls hI hl) (fun e => kf (by rw [if_neg e] at hf; exact hf) H locs ls hI hl)
theorem z_if_ge (C : zB X cc nL own rm) {x : Int32} {off : Int} {tgt : Nat} (d : decode cc pc = .ok (.ifCond .ge off, 3)) (ht : (pc : Int) + off = (tgt : Int)) {α : Type} {A B : Option α} {r : α} (hf : (if 0 ≤ x then A else B) = some r) (kt : A = some r → Zt X nL k n tgt lv st h) (kf : B = some r → Zt X nL k n (pc + 3) lv st h) : Zt X nL k n pc lv (.int x :: st) h :=
  fun H locs ls hI hl => lv_if_ge C.1.1 C.1.2.1 d ht (fun e => kt (by rw [if_pos e] at hf; exact hf) H locs ls hI hl) (fun e => kf (by rw [if_neg e] at hf; exact hf) H locs ls hI hl)
theorem z_ic_ge (C : zB X cc nL own rm) {x y : Int32} {off : Int} {tgt : Nat} (d : decode cc pc = .ok (.if_icmp .ge off, 3)) (ht : (pc : Int) + off = (tgt : Int)) {α : Type} {A B : Option α} {r : α} (hf : (if y ≤ x then A else B) = some r) (kt : A = some r → Zt X nL k n tgt lv st h) (kf : B = some r → Zt X nL k n (pc + 3) lv st h) : Zt X nL k n pc lv (.int y :: .int x :: st) h :=
  fun H locs ls hI hl => lv_icmp_ge C.1.1 C.1.2.1 d ht (fun e => kt (by rw [if_pos e] at hf; exact hf) H locs ls hI hl) (fun e => kf (by rw [if_neg e] at hf; exact hf) H locs ls hI hl)
theorem z_if_gt (C : zB X cc nL own rm) {x : Int32} {off : Int} {tgt : Nat} (d : decode cc pc = .ok (.ifCond .gt off, 3)) (ht : (pc : Int) + off = (tgt : Int)) {α : Type} {A B : Option α} {r : α} (hf : (if 0 < x then A else B) = some r) (kt : A = some r → Zt X nL k n tgt lv st h) (kf : B = some r → Zt X nL k n (pc + 3) lv st h) : Zt X nL k n pc lv (.int x :: st) h :=
  fun H locs ls hI hl => lv_if_gt C.1.1 C.1.2.1 d ht (fun e => kt (by rw [if_pos e] at hf; exact hf) H locs ls hI hl) (fun e => kf (by rw [if_neg e] at hf; exact hf) H locs ls hI hl)
theorem z_ic_gt (C : zB X cc nL own rm) {x y : Int32} {off : Int} {tgt : Nat} (d : decode cc pc = .ok (.if_icmp .gt off, 3)) (ht : (pc : Int) + off = (tgt : Int)) {α : Type} {A B : Option α} {r : α} (hf : (if y < x then A else B) = some r) (kt : A = some r → Zt X nL k n tgt lv st h) (kf : B = some r → Zt X nL k n (pc + 3) lv st h) : Zt X nL k n pc lv (.int y :: .int x :: st) h :=
  fun H locs ls hI hl => lv_icmp_gt C.1.1 C.1.2.1 d ht (fun e => kt (by rw [if_pos e] at hf; exact hf) H locs ls hI hl) (fun e => kf (by rw [if_neg e] at hf; exact hf) H locs ls hI hl)
theorem z_if_le (C : zB X cc nL own rm) {x : Int32} {off : Int} {tgt : Nat} (d : decode cc pc = .ok (.ifCond .le off, 3)) (ht : (pc : Int) + off = (tgt : Int)) {α : Type} {A B : Option α} {r : α} (hf : (if x ≤ 0 then A else B) = some r) (kt : A = some r → Zt X nL k n tgt lv st h) (kf : B = some r → Zt X nL k n (pc + 3) lv st h) : Zt X nL k n pc lv (.int x :: st) h :=
  fun H locs ls hI hl => lv_if_le C.1.1 C.1.2.1 d ht (fun e => kt (by rw [if_pos e] at hf; exact hf) H locs ls hI hl) (fun e => kf (by rw [if_neg e] at hf; exact hf) H locs ls hI hl)
theorem z_ic_le (C : zB X cc nL own rm) {x y : Int32} {off : Int} {tgt : Nat} (d : decode cc pc = .ok (.if_icmp .le off, 3)) (ht : (pc : Int) + off = (tgt : Int)) {α : Type} {A B : Option α} {r : α} (hf : (if x ≤ y then A else B) = some r) (kt : A = some r → Zt X nL k n tgt lv st h) (kf : B = some r → Zt X nL k n (pc + 3) lv st h) : Zt X nL k n pc lv (.int y :: .int x :: st) h :=
  fun H locs ls hI hl => lv_icmp_le C.1.1 C.1.2.1 d ht (fun e => kt (by rw [if_pos e] at hf; exact hf) H locs ls hI hl) (fun e => kf (by rw [if_neg e] at hf; exact hf) H locs ls hI hl)
/-- an object's field, as the machine has it -/
theorem z_gf (C : zB X cc nL own rm) {CN ref : String} {T : u_T} {N ci idx a j : Nat} {fs : List Value} {v : Value} (he : h.1 a = some (.inr (ci, fs))) (hc : zcl[ci]? = some (CN, T, N)) (hin : ∀ w ∈ u_ws CN T N, w ∈ zws) (hj : j < N) (hw : Cond.fieldLink own idx ref (T j).2.1 (T j).2.2.1 ∈ zws) (href : (T j).1 = ref) (hv : fs[j]? = some v) (d : decode cc pc = .ok (.getfield idx, 3))
    (K : Zt X nL k n (pc + 3) lv (v :: st) h) : Zt X nL k n pc lv (.ref a :: st) h := by
  intro H locs ls hI hl
  obtain ⟨⟨hx, hb, hml, hown, hts⟩, hK, hT, hR, hA, hN⟩ := C
  obtain ⟨r, h1, h2, h3⟩ := hI.1.2 a _ he
  have hP : va_P (x_D X) zcl [(a, .inr (ci, fs))] H := by
    intro i q hq
    match i, hq with
    | 0, hq => cases hq; exact ⟨r, h1, h3⟩
    | i + 1, hq => simp at hq
  refine va_get (D := x_D X) (ci := ci) (v := v) (C := CN) (T := T) (N := N) hx hb hts hin hown hK hP 0 rfl hc j hj (hts _ hw) (fun x hx => by rw [← href]; exact hx) hv d ?_
  exact K H locs ls hI hl
theorem z_getI (C : zB X cc nL own rm) {CN ref : String} {T : u_T} {N idx a : Nat} (ci j : Nat) (hc : zcl[ci]? = some (CN, T, N)) (hin : ∀ w ∈ u_ws CN T N, w ∈ zws) (hj : j < N) (hw : Cond.fieldLink own idx ref (T j).2.1 (T j).2.2.1 ∈ zws) (href : (T j).1 = ref) (d : decode cc pc = .ok (.getfield idx, 3)) {α : Type} {B : Int32 → Option α} {r : α} (hf : (zgI h a ci j).bind B = some r)
    (K : ∀ v : Int32, B v = some r → Zt X nL k n (pc + 3) lv (.int v :: st) h) : Zt X nL k n pc lv (.ref a :: st) h := by
  obtain ⟨v, hv, hr⟩ := Option.bind_eq_some_iff.mp hf
  unfold zgI at hv
  split at hv
  · rename_i c fs he
    split at hv
    · rename_i hcc; subst hcc
      split at hv
      · rename_i x hx; cases hv
        exact z_gf C he hc hin hj hw href hx d (K _ hr)
      · cases hv
    · cases hv
  · cases hv
theorem z_getJ (C : zB X cc nL own rm) {CN ref : String} {T : u_T} {N idx a : Nat} (ci j : Nat) (hc : zcl[ci]? = some (CN, T, N)) (hin : ∀ w ∈ u_ws CN T N, w ∈ zws) (hj : j < N) (hw : Cond.fieldLink own idx ref (T j).2.1 (T j).2.2.1 ∈ zws) (href : (T j).1 = ref) (d : decode cc pc = .ok (.getfield idx, 3)) {α : Type} {B : Int64 → Option α} {r : α} (hf : (zgJ h a ci j).bind B = some r)
    (K : ∀ v : Int64, B v = some r → Zt X nL k n (pc + 3) lv (.long v :: st) h) : Zt X nL k n pc lv (.ref a :: st) h := by
  obtain ⟨v, hv, hr⟩ := Option.bind_eq_some_iff.mp hf
  unfold zgJ at hv
  split at hv
  · rename_i c fs he
    split at hv
    · rename_i hcc; subst hcc
      split at hv
      · rename_i x hx; cases hv
        exact z_gf C he hc hin hj hw href hx d (K _ hr)
      · cases hv
    · cases hv
  · cases hv
theorem z_getR (C : zB X cc nL own rm) {CN ref : String} {T : u_T} {N idx a : Nat} (ci j : Nat) (hc : zcl[ci]? = some (CN, T, N)) (hin : ∀ w ∈ u_ws CN T N, w ∈ zws) (hj : j < N) (hw : Cond.fieldLink own idx ref (T j).2.1 (T j).2.2.1 ∈ zws) (href : (T j).1 = ref) (d : decode cc pc = .ok (.getfield idx, 3)) {α : Type} {B : Nat → Option α} {r : α} (hf : (zgR h a ci j).bind B = some r)
    (K : ∀ v : Nat, B v = some r → Zt X nL k n (pc + 3) lv (.ref v :: st) h) : Zt X nL k n pc lv (.ref a :: st) h := by
  obtain ⟨v, hv, hr⟩ := Option.bind_eq_some_iff.mp hf
  unfold zgR at hv
  split at hv
  · rename_i c fs he
    split at hv
    · rename_i hcc; subst hcc
      split at hv
      · rename_i x hx; cases hv
        exact z_gf C he hc hin hj hw href hx d (K _ hr)
      · cases hv
    · cases hv
  · cases hv
/-- a field that may be null, looked at by the next instruction -/
theorem z_getQ (C : zB X cc nL own rm) {CN ref : String} {T : u_T} {N idx a : Nat} (ci j : Nat) (hc : zcl[ci]? = some (CN, T, N)) (hin : ∀ w ∈ u_ws CN T N, w ∈ zws) (hj : j < N) (hw : Cond.fieldLink own idx ref (T j).2.1 (T j).2.2.1 ∈ zws) (href : (T j).1 = ref) (d : decode cc pc = .ok (.getfield idx, 3)) {off : Int} {tgt : Nat} (d2 : decode cc (pc + 3) = .ok (.ifnonnull off, 3)) (ht : ((pc + 3 : Nat) : Int) + off = (tgt : Int)) {α : Type} {B E : Option α} {r : α} (hf : (zgQ h a ci j).bind (fun q => if q.isSome = true then B else E) = some r)
    (kt : B = some r → Zt X nL k n tgt lv st h) (kf : E = some r → Zt X nL k n (pc + 3 + 3) lv st h) : Zt X nL k n pc lv (.ref a :: st) h := by
  obtain ⟨v, hv, hr⟩ := Option.bind_eq_some_iff.mp hf
  unfold zgQ at hv
  split at hv
  · rename_i c fs he
    split at hv
    · rename_i hcc; subst hcc
      split at hv
      · rename_i x hx; cases hv
        refine z_gf C he hc hin hj hw href hx d ?_
        exact fun H locs ls hI hl => lv_ifnonnull C.1.1 C.1.2.1 d2 ht (kt (by simpa using hr) H locs ls hI hl)
      · rename_i hx; cases hv
        refine z_gf C he hc hin hj hw href hx d ?_
        exact fun H locs ls hI hl => lv_ifnonnullN C.1.1 C.1.2.1 d2 (kf (by simpa using hr) H locs ls hI hl)
      · cases hv
    · cases hv
  · cases hv
/-- a cell of the pure heap is of the walk's own -/
theorem zI_own {a : Nat} {e : zE} {H : Heap} {locs : List Loc} (hI : zI X h H locs) (he : h.1 a = some e) : x_A X a := hI.2.1 a (by rw [he]; rfl)
theorem zI_set {a : Nat} {e e' : zE} {H H1 : Heap} {locs : List Loc} {i : Nat} (hI : zI X h H locs) (he : h.1 a = some e) (hz : H1.size = H.size) (ho : ∀ q, q ≠ a → H1[q]? = H[q]?) (hn : z_at (x_D X) zcl (x_T X) a e' H1) : zI X (z_set h a e') H1 (locs ++ [⟨a, i⟩]) := by
  refine ⟨hI.1.set hz ho hn, fun q hq => ?_, hI.2.2.put hz ho (zI_own hI he)⟩
  by_cases hqa : q = a
  · subst hqa; exact zI_own hI he
  · exact hI.2.1 q (by simpa [z_set, hqa] using hq)
theorem z_pf (C : zB X cc nL own rm) {CN ref : String} {T : u_T} {N ci idx a j : Nat} {fs : List Value} {v : Value} {ty : FieldType} (tyf : Nat → FieldType) (he : h.1 a = some (.inr (ci, fs))) (hc : zcl[ci]? = some (CN, T, N)) (hin : ∀ w ∈ u_ws CN T N, w ∈ zws) (hty : ∀ k, k < N → parseFieldDescriptor (T k).2.2.1 = some (tyf k)) (hnm : ∀ a, a < N → ∀ b, b < N → a ≠ b → (T a).2.1 ≠ (T b).2.1) (hj : j < N) (hw : Cond.fieldLink own idx ref (T j).2.1 (T j).2.2.1 ∈ zws) (href : (T j).1 = ref) (hfin : (T j).2.2.2 = false ∨ ((T j).2.2.2 = true ∧ (x_t X).name = "<init>" ∧ (T j).1 = own)) (hd : tyf j = ty) (hnar : narrow ty v = v) (hfit : fits ty v = true) (d : decode cc pc = .ok (.putfield idx, 3))
    (K : Zt X nL k n (pc + 3) lv st (z_set h a (.inr (ci, fs.set j v)))) : Zt X nL k n pc lv (v :: .ref a :: st) h := by
  intro H locs ls hI hl
  obtain ⟨⟨hx, hb, hml, hown, hts⟩, hK, hT, hR, hA, hN⟩ := C
  obtain ⟨r, h1, h2, cell, q1, q2, q3, q4⟩ := hI.1.2 a _ he
  have hr : r = (CN, T, N) := Option.some.inj (h1.symm.trans hc)
  subst hr
  have hdp : parseFieldDescriptor (T j).2.2.1 = some ty := by rw [← hd]; exact hty j hj
  have hap := va_apart (own := own) hts hin tyf hty hnm hK hc
  obtain ⟨hS, hfc, kC, hkC, hkind⟩ := hK.1 ci _ hc
  obtain ⟨cf, kf, fi, f, hi, hsl⟩ := hS j hj
  have hst := (u_facts hfc hkC (u_lays hts hin hj) hi).1
  have hlen : j < fs.length := by rw [h2]; exact hj
  have hlay := hts _ (hin _ (u_in_lay hj))
  unfold u_lay at hlay
  have done : ∀ H' : Heap, H'[a]? = some (cell.setSlot f.slot v) → H'.size = H.size → (∀ q, q ≠ a → H'[q]? = H[q]?) → zWW X H' (locs ++ [⟨a, f.slot⟩]) k n (F0 (x_m X) (pc + 3) ls st) := by
    intro H' e1 e2 e3
    refine K H' _ ls (zI_set hI (e' := .inr (ci, fs.set j v)) he e2 e3 ⟨_, hc, by simp [h2], ?_⟩) hl
    rw [hsl] at e1
    exact t_OB.to (V := updV (vp_V fs) j v) ⟨_, e1, q2, q3, t_set q4 hap hj v⟩ (fun i _ => vp_updV_set hlen v i)
  rcases hfin with hfin | ⟨hfin, hin2, hdecl⟩
  · rw [if_neg (by rw [hfin]; decide)] at hlay
    have h6 := u_store hfc hkC hkind hlay hi hdp hnar hfit
    exact W.putK hx hb (f := f) ⟨hown, hts _ hw, ⟨_, _, _, by rw [← href]; exact hi⟩, hst⟩ (by rw [q2]; exact h6) q1 q3 (by rw [hsl]; exact k2_hasslot (q4 j hj)) rfl rfl d done
  · rw [if_pos hfin] at hlay
    have hcf : (x_m X).cls = cf := by
      obtain ⟨_, _, c', _, _, _, -, -, hf', -, -, -, hown2, -⟩ := Cond.laysFinal_spec hlay
      have e1 : c' = cf := by have := hi.symm.trans hf'; simp at this; exact this.1.symm
      rw [hdecl] at hown2
      rw [← e1]; exact Option.some.inj (hown.symm.trans hown2)
    have h6 := u_fits hfc hkC hkind (Or.inr hlay) hi hdp hnar hfit
    exact W.putFinK hx hb hown (hts _ hw) (by rw [← href]; exact hi) hst hcf hin2 (by rw [q2]; exact h6) q1 q3 (by rw [hsl]; exact k2_hasslot (q4 j hj)) rfl rfl d done
theorem z_put (C : zB X cc nL own rm) {CN ref : String} {T : u_T} {N idx a : Nat} {v : Value} {ty : FieldType} (ci j : Nat) (tyf : Nat → FieldType) (hc : zcl[ci]? = some (CN, T, N)) (hin : ∀ w ∈ u_ws CN T N, w ∈ zws) (hty : ∀ k, k < N → parseFieldDescriptor (T k).2.2.1 = some (tyf k)) (hnm : ∀ a, a < N → ∀ b, b < N → a ≠ b → (T a).2.1 ≠ (T b).2.1) (hj : j < N) (hw : Cond.fieldLink own idx ref (T j).2.1 (T j).2.2.1 ∈ zws) (href : (T j).1 = ref) (hfin : (T j).2.2.2 = false ∨ ((T j).2.2.2 = true ∧ (x_t X).name = "<init>" ∧ (T j).1 = own)) (hd : tyf j = ty) (hnar : narrow ty v = v) (hfit : fits ty v = true) (d : decode cc pc = .ok (.putfield idx, 3)) {α : Type} {B : zH → Option α} {r : α} (hf : (zp h a ci j v).bind B = some r)
    (K : ∀ h' : zH, B h' = some r → Zt X nL k n (pc + 3) lv st h') : Zt X nL k n pc lv (v :: .ref a :: st) h := by
  obtain ⟨h', hv, hr⟩ := Option.bind_eq_some_iff.mp hf
  unfold zp at hv
  split at hv
  · rename_i c fs he
    split at hv
    · rename_i hcc; obtain ⟨rfl, hl⟩ := hcc; cases hv
      exact z_pf C tyf he hc hin hty hnm hj hw href hfin hd hnar hfit d (K _ hr)
    · cases hv
  · cases hv
/-- a boolean field: 0 or 1 -/
def zpZ (h : zH) (a ci j : Nat) (v : Int32) : Option zH := if v = 0 ∨ v = 1 then zp h a ci j (.int v) else none
theorem z_01 {v : Int32} (hv : v = 0 ∨ v = 1) : narrow .boolean (.int v) = .int v ∧ fits .boolean (.int v) = true := by
  rcases hv with rfl | rfl <;> exact ⟨rfl, rfl⟩
theorem z_putZ (C : zB X cc nL own rm) {CN ref : String} {T : u_T} {N idx a : Nat} {v : Int32} (ci j : Nat) (tyf : Nat → FieldType) (hc : zcl[ci]? = some (CN, T, N)) (hin : ∀ w ∈ u_ws CN T N, w ∈ zws) (hty : ∀ k, k < N → parseFieldDescriptor (T k).2.2.1 = some (tyf k)) (hnm : ∀ a, a < N → ∀ b, b < N → a ≠ b → (T a).2.1 ≠ (T b).2.1) (hj : j < N) (hw : Cond.fieldLink own idx ref (T j).2.1 (T j).2.2.1 ∈ zws) (href : (T j).1 = ref) (hfin : (T j).2.2.2 = false ∨ ((T j).2.2.2 = true ∧ (x_t X).name = "<init>" ∧ (T j).1 = own)) (hd : tyf j = .boolean) (d : decode cc pc = .ok (.putfield idx, 3)) {α : Type} {B : zH → Option α} {r : α} (hf : (zpZ h a ci j v).bind B = some r)
    (K : ∀ h' : zH, B h' = some r → Zt X nL k n (pc + 3) lv st h') : Zt X nL k n pc lv (.int v :: .ref a :: st) h := by
  unfold zpZ at hf
  split at hf
  · rename_i hv
    exact z_put C ci j tyf hc hin hty hnm hj hw href hfin hd (z_01 hv).1 (z_01 hv).2 d hf K
  · cases hf
end ZROWS
