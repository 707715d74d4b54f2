/-! calls, returns, a method's contract over the pure heap -/
/-- every word of the tables is one that a callee finds as the caller has it -/
theorem z_good : ∀ w ∈ zws, (w.onTables && w.keeps) = true ∨ ∃ ty, w = .arrayClass ty :=
  fun w hw => good_of_word (List.mem_filter.mp hw).2
/-- a method's contract: from the pure heap h it returns r, and the pure heap is h1 -/
def zM (l : Launch) (y : MethodName) (bytes : ByteArray) (maxL : Nat) (ret : Option FieldType) (rm : Room) (D : va_G) (T : List (ClassId × FieldType)) (As : List Value) (h : zH) (r : Option Value) (h1 : zH) : Prop :=
  Met l y (Cond.code y bytes maxL ret :: zws) rm (va_Pc As (fun U => z_Rep D zcl T h U.heap ∧ va_K D zcl T U ∧ zN T U)) (zPost D T h r h1) rm.cells rm.slots (z_A h)
theorem z_blind {As : List Value} {D : va_G} {T : List (ClassId × FieldType)} {h : zH} : FrameBlind (va_Pc As (fun U => z_Rep D zcl T h U.heap ∧ va_K D zcl T U ∧ zN T U)) := by
  intro a U g mk ⟨q0, q1, q2, q3⟩
  exact ⟨q0, q1, va_K.moved (u := U) (U := U.calling g mk a) (Vm.Alike.refl U.vm) q2, q3.same rfl⟩
section ZCALLS
variable {X : zX} {cc : ByteArray} {nL : Nat} {own : String} {rm : Room} {k n pc : Nat} {lv lv' : List (Nat × Value)} {st : List Value} {h : zH}
theorem z_callB (C : zB X cc nL own rm) {y : MethodName} {bytes : ByteArray} {maxL : Nat} {ret : Option FieldType} {rmc : Room} {idx na : Nat} (hcw : Cond.code y bytes maxL ret ∈ zws) (hini : Cond.initialized y.cls ∈ zws) (hlink : Cond.methodLink own idx y ∈ zws) (hd : y.cls ≠ "java/lang/invoke/MethodHandle" ∧ y.cls ≠ "java/lang/invoke/VarHandle" ∧ (parseMethodDescriptor y.desc).map (fun d => d.parameters.length) = some na) (hR : rmc.frames + 1 ≤ rm.frames ∧ 8 + (maxL + 11) + rmc.locals ≤ rm.locals) :
    CallB (x_R X) (x_s X) (x_a X) own idx y bytes maxL ret (Cond.code y bytes maxL ret :: zws) rmc rmc.cells rmc.slots na := by
  obtain ⟨⟨hx, hb, hml, hown, hts⟩, hK, hT, hRm, hA, hN⟩ := C
  refine callB_of (Ts := zws) na hts (fun w hw => ?_) rfl rfl rfl (hts _ hini) (hts _ hlink) hd (by rw [hRm]; exact hR)
  rcases List.mem_cons.mp hw with rfl | hw
  · exact ⟨hcw, Or.inl rfl⟩
  · exact ⟨hw, z_good w hw⟩
/-- behind a call -/
theorem z_after {rmc : Room} {As : Array Value} {r : Option Value} {h1 : zH} {H : Heap} {locs : List Loc} {g : JFrame} {rest : List Value} (hA : ∀ q, (x_H X).size ≤ q → x_A X q) (hI : zI X h H locs) (hr : va_Run (x_p X) (x_l X) (x_e X) (x_R X) (x_s X) (x_m X) (x_a X) (x_b X) (x_t X) (x_c X) H locs k n rmc.cells rmc.slots g rest (zPost (x_D X) (x_T X) h r h1 As) (z_A h))
    (kk : ∀ (H1 : Heap) (locs1 : List Loc), zI X h1 H1 locs1 → zWW X H1 locs1 (k + rmc.cells) (n + rmc.slots) { g with pc := g.pc + 3, stack := r.toList ++ rest }) : zWW X H locs k n g := by
  have hzA : ∀ q, z_A h q → x_A X q := by
    intro q hq
    rcases hq with hq | hq
    · exact hI.2.1 q hq
    · exact hA q (Nat.le_trans (Nat.le_trans hI.2.2.1 (Nat.le_of_eq hI.1.1)) hq)
  intro T hT XX
  obtain ⟨v, st₀, t, T', L, e0, X', hL, e1, e2, ⟨ho, hrep, hdom, hF⟩, goes⟩ := hr T hT XX
  cases ho
  rw [← e1] at hrep
  have hF1 : H.size ≤ T'.heap.size := by rw [e1, ← e0]; exact hF.1
  have hF2 : ∀ q : Nat, q < H.size → ¬ z_A h q → T'.heap[q]? = H[q]? := fun q h1 h2 => by rw [e1, ← e0]; exact hF.2 q (by rw [e0]; exact h1) h2
  obtain ⟨t2, a1, b1⟩ := kk T'.heap (locs ++ L) ⟨hrep, fun a ha => hzA a (hdom a ha), Nat.le_trans hI.2.2.1 hF1, fun q h1 h2 => by rw [hF2 q (Nat.lt_of_lt_of_le h1 hI.2.2.1) (fun z => h2 (hzA q z))]; exact hI.2.2.2.1 q h1 h2, fun q hq => by
    rcases List.mem_append.mp hq with h | h
    · exact hI.2.2.2.2 q h
    · exact hzA _ (hL q h)⟩ T' rfl X'
  exact ⟨t2, goes t2 a1, b1⟩
theorem z_pre {As : List Value} {H : Heap} {locs : List Loc} (C : zB X cc nL own rm) (hI : zI X h H locs) : ∀ U : State, U.heap = H → (x_s X).WarmedH U.vm → (va_Pc As (fun U => z_Rep (x_D X) zcl (x_T X) h U.heap ∧ va_K (x_D X) zcl (x_T X) U ∧ zN (x_T X) U)) As.toArray U :=
  fun U hU hW => ⟨rfl, by rw [hU]; exact hI.1, va_K.moved hW.alike C.2.1, C.2.2.2.2.2.warm hW⟩
/-- the class of the object at a -/
def zis (h : zH) (a ci : Nat) : Bool := match h.1 a with
  | some (.inr (c, _)) => c == ci
  | _ => false
theorem z_recv {a ci N : Nat} {CN : String} {T : u_T} {H : Heap} {locs : List Loc} (C : zB X cc nL own rm) (hI : zI X h H locs) (hc : zcl[ci]? = some (CN, T, N)) (hz : zis h a ci = true) : ∃ cell : Cell, H[a]? = some cell ∧ cell.vm.isStatics = false ∧ (x_s X).vm.findClass CN = some cell.cls := by
  unfold zis at hz
  split at hz
  · rename_i c fs he
    have hcc : c = ci := by simpa using hz
    subst hcc
    obtain ⟨r, h1, h2, cell, g1, g2, g3, -⟩ := hI.1.2 a _ he
    exact ⟨cell, g1, by rw [g3]; rfl, by rw [g2]; exact (C.2.1.1 c _ hc).2.1⟩
  · cases hz
/-- what a program does at a call of an object's method -/
def zck {α : Type} (b : Bool) (f : Option α) : Option α := if b = true then f else none
theorem zck_some {α : Type} {b : Bool} {f : Option α} {r : α} (h : zck b f = some r) : b = true ∧ f = some r := by
  unfold zck at h
  split at h
  · rename_i hb; exact ⟨hb, h⟩
  · cases h
theorem z_callV (C : zB X cc nL own rm) {y : MethodName} {bytes : ByteArray} {maxL : Nat} {ret : Option FieldType} {rmc : Room} {idx na a ci N : Nat} {CN : String} {T : u_T} {As stk : List Value} {r : Option Value} {h1 : zH} (hM : zM (x_l X) y bytes maxL ret rmc (x_D X) (x_T X) (.ref a :: As) h r h1) (hc : zcl[ci]? = some (CN, T, N)) (hz : zis h a ci = true) (hcw : Cond.code y bytes maxL ret ∈ zws) (hini : Cond.initialized y.cls ∈ zws) (hlink : Cond.methodLink own idx y ∈ zws) (hinst : Cond.instanceMethod y ∈ zws) (hsel : Cond.selects CN y y ∈ zws)
    (hd : y.cls ≠ "java/lang/invoke/MethodHandle" ∧ y.cls ≠ "java/lang/invoke/VarHandle" ∧ (parseMethodDescriptor y.desc).map (fun d => d.parameters.length) = some na) (hna : As.length = na) (hR : rmc.frames + 1 ≤ rm.frames ∧ 8 + (maxL + 11) + rmc.locals ≤ rm.locals) (hcs : k + rmc.cells ≤ rm.cells ∧ n + rmc.slots ≤ rm.slots) (hs : stk = As.reverse ++ .ref a :: st) (hrm : (st.map fun v => v.category).sum ≤ 8) (d : decode cc pc = .ok (.invokevirtual idx, 3))
    {k' n' : Nat} {stk' : List Value} (hk' : k + rmc.cells = k') (hn' : n + rmc.slots = n') (hs' : r.toList ++ st = stk') (K : Zt X nL k' n' (pc + 3) lv stk' h1) : Zt X nL k n pc lv stk h := by
  subst hk' hn' hs'
  intro H locs ls hI hl
  have hB := z_callB C (idx := idx) (rmc := rmc) hcw hini hlink hd hR
  have CC := C
  obtain ⟨⟨hx, hb, hml, hown, hts⟩, hK, hT, hRm, hA, hN⟩ := CC
  refine z_after hA hI (va_runV (As := As) (rest := st) (g := F0 (x_m X) pc ls stk) ⟨hx, hb, hml, hown, hts⟩ hM ⟨hB, hts _ hinst, hts _ hsel⟩ ⟨z_blind, z_recv C hI hc hz, z_pre C hI⟩ rfl hna hl.1 hs (lv_room hrm) d (by rw [hRm]; exact hcs)) ?_
  exact fun H1 locs1 hI1 => K H1 locs1 ls hI1 hl
theorem z_callS (C : zB X cc nL own rm) {y : MethodName} {bytes : ByteArray} {maxL : Nat} {ret : Option FieldType} {rmc : Room} {idx na : Nat} {As stk : List Value} {r : Option Value} {h1 : zH} (hM : zM (x_l X) y bytes maxL ret rmc (x_D X) (x_T X) As h r h1) (hcw : Cond.code y bytes maxL ret ∈ zws) (hini : Cond.initialized y.cls ∈ zws) (hlink : Cond.methodLink own idx y ∈ zws) (hstat : Cond.static y ∈ zws)
    (hd : y.cls ≠ "java/lang/invoke/MethodHandle" ∧ y.cls ≠ "java/lang/invoke/VarHandle" ∧ (parseMethodDescriptor y.desc).map (fun d => d.parameters.length) = some na) (hna : As.length = na) (hR : rmc.frames + 1 ≤ rm.frames ∧ 8 + (maxL + 11) + rmc.locals ≤ rm.locals) (hcs : k + rmc.cells ≤ rm.cells ∧ n + rmc.slots ≤ rm.slots) (hs : stk = As.reverse ++ st) (hrm : (st.map fun v => v.category).sum ≤ 8) (d : decode cc pc = .ok (.invokestatic idx, 3))
    {k' n' : Nat} {stk' : List Value} (hk' : k + rmc.cells = k') (hn' : n + rmc.slots = n') (hs' : r.toList ++ st = stk') (K : Zt X nL k' n' (pc + 3) lv stk' h1) : Zt X nL k n pc lv stk h := by
  subst hk' hn' hs'
  intro H locs ls hI hl
  have hB := z_callB C (idx := idx) (rmc := rmc) hcw hini hlink hd hR
  have CC := C
  obtain ⟨⟨hx, hb, hml, hown, hts⟩, hK, hT, hRm, hA, hN⟩ := CC
  refine z_after hA hI (va_runS (As := As) (rest := st) (g := F0 (x_m X) pc ls stk) ⟨hx, hb, hml, hown, hts⟩ hM ⟨hB, hts _ hstat⟩ ⟨z_blind, z_pre C hI⟩ rfl hna hl.1 hs (lv_room hrm) d (by rw [hRm]; exact hcs)) ?_
  exact fun H1 locs1 hI1 => K H1 locs1 ls hI1 hl
theorem z_callI (C : zB X cc nL own rm) {y : MethodName} {bytes : ByteArray} {maxL : Nat} {rmc : Room} {idx na a : Nat} {As stk : List Value} {h1 : zH} (hM : zM (x_l X) y bytes maxL none rmc (x_D X) (x_T X) (.ref a :: As) h none h1) (hcw : Cond.code y bytes maxL none ∈ zws) (hini : Cond.initialized y.cls ∈ zws) (hlink : Cond.methodLink own idx y ∈ zws) (hinst : Cond.instanceMethod y ∈ zws) (hy : y.name = "<init>")
    (hd : y.cls ≠ "java/lang/invoke/MethodHandle" ∧ y.cls ≠ "java/lang/invoke/VarHandle" ∧ (parseMethodDescriptor y.desc).map (fun d => d.parameters.length) = some na) (hna : As.length = na) (hR : rmc.frames + 1 ≤ rm.frames ∧ 8 + (maxL + 11) + rmc.locals ≤ rm.locals) (hcs : k + rmc.cells ≤ rm.cells ∧ n + rmc.slots ≤ rm.slots) (hs : stk = As.reverse ++ .ref a :: st) (hrm : (st.map fun v => v.category).sum ≤ 8) (d : decode cc pc = .ok (.invokespecial idx, 3))
    {k' n' : Nat} (hk' : k + rmc.cells = k') (hn' : n + rmc.slots = n') (K : Zt X nL k' n' (pc + 3) lv st h1) : Zt X nL k n pc lv stk h := by
  subst hk' hn'
  intro H locs ls hI hl
  have hB := z_callB C (idx := idx) (rmc := rmc) hcw hini hlink hd hR
  have CC := C
  obtain ⟨⟨hx, hb, hml, hown, hts⟩, hK, hT, hRm, hA, hN⟩ := CC
  refine z_after hA hI (va_runI (As := As) (rest := st) (g := F0 (x_m X) pc ls stk) ⟨hx, hb, hml, hown, hts⟩ hM ⟨hB, hy, hts _ hinst⟩ ⟨z_blind, z_pre C hI⟩ rfl hna hl.1 hs (lv_room hrm) d (by rw [hRm]; exact hcs)) ?_
  exact fun H1 locs1 hI1 => K H1 locs1 ls hI1 hl
/-- a private constructor of a class of the same nest -/
theorem z_callIN (C : zB X cc nL own rm) {y : MethodName} {bytes : ByteArray} {maxL : Nat} {rmc : Room} {idx na a : Nat} {host : String} {As stk : List Value} {h1 : zH} (hM : zM (x_l X) y bytes maxL none rmc (x_D X) (x_T X) (.ref a :: As) h none h1) (hcw : Cond.code y bytes maxL none ∈ zws) (hini : Cond.initialized y.cls ∈ zws) (hlink : Cond.methodLinkNest own idx y host ∈ znw) (hinst : Cond.instanceMethod y ∈ zws) (hy : y.name = "<init>")
    (hd : y.cls ≠ "java/lang/invoke/MethodHandle" ∧ y.cls ≠ "java/lang/invoke/VarHandle" ∧ (parseMethodDescriptor y.desc).map (fun d => d.parameters.length) = some na) (hna : As.length = na) (hR : rmc.frames + 1 ≤ rm.frames ∧ 8 + (maxL + 11) + rmc.locals ≤ rm.locals) (hcs : k + rmc.cells ≤ rm.cells ∧ n + rmc.slots ≤ rm.slots) (hs : stk = As.reverse ++ .ref a :: st) (hrm : (st.map fun v => v.category).sum ≤ 8) (d : decode cc pc = .ok (.invokespecial idx, 3))
    {k' n' : Nat} (hk' : k + rmc.cells = k') (hn' : n + rmc.slots = n') (K : Zt X nL k' n' (pc + 3) lv st h1) : Zt X nL k n pc lv stk h := by
  subst hk' hn'
  intro H locs ls hI hl
  have CC := C
  obtain ⟨⟨hx, hb, hml, hown, hts⟩, hK, hT, hRm, hA, hN⟩ := CC
  have hB : va_CN (x_R X) (x_s X) (x_a X) own idx y host bytes maxL none (Cond.code y bytes maxL none :: zws) rmc rmc.cells rmc.slots na := by
    refine va_cnB (Ts := zws) na hts (fun w hw => ?_) rfl rfl rfl (hN.1 _ hlink) (hts _ hini) hd (by rw [hRm]; exact hR)
    rcases List.mem_cons.mp hw with rfl | hw
    · exact ⟨hcw, Or.inl rfl⟩
    · exact ⟨hw, z_good w hw⟩
  refine z_after hA hI (va_runIN (As := As) (rest := st) (g := F0 (x_m X) pc ls stk) ⟨hx, hb, hml, hown, hts⟩ hM ⟨hB, hy, hts _ hinst⟩ ⟨z_blind, z_pre C hI⟩ rfl hna hl.1 hs (lv_room hrm) d (by rw [hRm]; exact hcs)) ?_
  exact fun H1 locs1 hI1 => K H1 locs1 ls hI1 hl
theorem z_objInit (C : zB X cc nL own rm) {idx a : Nat} (hlink : Cond.methodLink own idx Lib.objectInit ∈ zws) (hinst : Cond.instanceMethod Lib.objectInit ∈ zws) (hcode : Cond.code Lib.objectInit ⟨#[0xb1]⟩ 1 none ∈ zws) (hfr : 1 ≤ rm.frames) (hlo : (st.map fun v => v.category).sum + 12 ≤ rm.locals) (d : decode cc pc = .ok (.invokespecial idx, 3))
    (K : Zt X nL k n (pc + 3) lv st h) : Zt X nL k n pc lv (.ref a :: st) h := by
  intro H locs ls hI hl
  obtain ⟨⟨hx, hb, hml, hown, hts⟩, hK, hT, hRm, hA, hN⟩ := C
  exact W.objInit hx hb hown (hts _ hlink) (hts _ hinst) (hts _ hcode) rfl (by rw [hml]; exact hl.1) rfl d (by rw [hRm]; exact hfr) (by rw [hRm]; show 2 * 0 + _ + 12 ≤ _; omega) (K H locs ls hI hl)
/-- the library's max, min and abs -/
def zmax (x y : Int32) : Int32 := if x < y then y else x
def zmin (x y : Int32) : Int32 := if y < x then y else x
def zabs (x : Int32) : Int32 := if 0 ≤ x then x else 0 - x
theorem z_mmax (C : zB X cc nL own rm) {idx : Nat} {x y : Int32} (hlink : Cond.methodLink own idx Lib.Math.max.name ∈ zws) (hstat : Cond.static Lib.Math.max.name ∈ zws) (hini : Cond.initialized "java/lang/Math" ∈ zws) (hcode : Cond.code Lib.Math.max.name Lib.Math.max.code 2 (some .int) ∈ zws) (hfr : 1 ≤ rm.frames) (hlo : (st.map fun v => v.category).sum + 13 ≤ rm.locals) (hk : k ≤ rm.cells) (hn : n ≤ rm.slots) (d : decode cc pc = .ok (.invokestatic idx, 3))
    (K : Zt X nL k n (pc + 3) lv (.int (zmax x y) :: st) h) : Zt X nL k n pc lv (.int y :: .int x :: st) h := by
  intro H locs ls hI hl
  obtain ⟨⟨hx, hb, hml, hown, hts⟩, hK, hT, hRm, hA, hN⟩ := C
  exact va_mmax hx hb (by rw [hml]; exact hl.1.symm) hown (hts _ hlink) (hts _ hstat) (hts _ hini) (hts _ hcode) (by rw [hRm]; exact hfr) (by rw [hRm]; exact hlo) (by rw [hRm]; exact hk) (by rw [hRm]; exact hn) d (K H locs ls hI hl)
theorem z_mmin (C : zB X cc nL own rm) {idx : Nat} {x y : Int32} (hlink : Cond.methodLink own idx Lib.Math.min.name ∈ zws) (hstat : Cond.static Lib.Math.min.name ∈ zws) (hini : Cond.initialized "java/lang/Math" ∈ zws) (hcode : Cond.code Lib.Math.min.name Lib.Math.min.code 2 (some .int) ∈ zws) (hfr : 1 ≤ rm.frames) (hlo : (st.map fun v => v.category).sum + 13 ≤ rm.locals) (hk : k ≤ rm.cells) (hn : n ≤ rm.slots) (d : decode cc pc = .ok (.invokestatic idx, 3))
    (K : Zt X nL k n (pc + 3) lv (.int (zmin x y) :: st) h) : Zt X nL k n pc lv (.int y :: .int x :: st) h := by
  intro H locs ls hI hl
  obtain ⟨⟨hx, hb, hml, hown, hts⟩, hK, hT, hRm, hA, hN⟩ := C
  exact va_mmin hx hb (by rw [hml]; exact hl.1.symm) hown (hts _ hlink) (hts _ hstat) (hts _ hini) (hts _ hcode) (by rw [hRm]; exact hfr) (by rw [hRm]; exact hlo) (by rw [hRm]; exact hk) (by rw [hRm]; exact hn) d (K H locs ls hI hl)
theorem z_mabs (C : zB X cc nL own rm) {idx : Nat} {x : Int32} (hlink : Cond.methodLink own idx Lib.Math.abs.name ∈ zws) (hstat : Cond.static Lib.Math.abs.name ∈ zws) (hini : Cond.initialized "java/lang/Math" ∈ zws) (hcode : Cond.code Lib.Math.abs.name Lib.Math.abs.code 1 (some .int) ∈ zws) (hfr : 1 ≤ rm.frames) (hlo : (st.map fun v => v.category).sum + 13 ≤ rm.locals) (hk : k ≤ rm.cells) (hn : n ≤ rm.slots) (d : decode cc pc = .ok (.invokestatic idx, 3))
    (K : Zt X nL k n (pc + 3) lv (.int (zabs x) :: st) h) : Zt X nL k n pc lv (.int x :: st) h := by
  intro H locs ls hI hl
  obtain ⟨⟨hx, hb, hml, hown, hts⟩, hK, hT, hRm, hA, hN⟩ := C
  exact va_mabs hx hb (by rw [hml]; exact hl.1.symm) hown (hts _ hlink) (hts _ hstat) (hts _ hini) (hts _ hcode) (by rw [hRm]; exact hfr) (by rw [hRm]; exact hlo) (by rw [hRm]; exact hk) (by rw [hRm]; exact hn) d (K H locs ls hI hl)
/-- a copy within the arrays of longs -/
def zcpJ (h : zH) (a : Nat) (sp : Int32) (b : Nat) (dp m : Int32) : Option zH := match h.1 a, h.1 b with
  | some (.inl (1, n0, .inr (.inl f))), some (.inl (1, n1, .inr (.inl g))) => if ¬ sp < 0 ∧ ¬ dp < 0 ∧ ¬ m < 0 ∧ sp.toNatClampNeg + m.toNatClampNeg ≤ n0 ∧ dp.toNatClampNeg + m.toNatClampNeg ≤ n1 then some (z_set h b (.inl (1, n1, .inr (.inl (va_cpy f g sp.toNatClampNeg dp.toNatClampNeg m.toNatClampNeg))))) else none
  | _, _ => none
/-- returns -/
theorem z_end {h0 h1 : zH} {ret : Option FieldType} {r : Option Value} {H : Heap} {locs : List Loc} (E : zR X ret rm h0 r h1) (hI : zI X h1 H locs) : (∀ t : State, t.heap = H → (x_s X).WarmedH t.vm → zPost (x_D X) (x_T X) h0 r h1 (x_a X) (x_s X) (.returned r) t) ∧ ∀ q ∈ locs, z_A h0 q.base := by
  obtain ⟨e1, e2, e3, e4, e5⟩ := E
  refine ⟨fun t ht hW => ⟨rfl, by rw [ht]; exact hI.1, fun a ha => by rw [← e3]; exact hI.2.1 a ha, ?_⟩, fun q hq => by rw [← e3]; exact hI.2.2.2.2 q hq⟩
  have hS := hI.2.2
  rw [e3, e4] at hS
  exact hS.F ht
theorem z_iret (C : zB X cc nL own rm) {h0 : zH} {v : Int32} {p : Int32 × zH} (E : zR X (some .int) rm h0 (some (.int p.1)) p.2) (hk : k ≤ rm.cells) (hn : n ≤ rm.slots) (d : decode cc pc = .ok (.ireturn, 1)) (hf : some (v, h) = some p) : Zt X nL k n pc lv [.int v] h := by
  cases hf
  intro H locs ls hI hl
  obtain ⟨q1, q2⟩ := z_end E hI
  have e5 := E.2.2.2.2
  unfold zWW
  rw [e5]
  exact W.widen hk hn (W.iret C.1.1 C.1.2.1 E.1 q1 q2 d E.2.1)
/-- a boolean's return: 0 or 1 -/
def zrb (v : Int32) (h : zH) : Option (Int32 × zH) := if v = 0 ∨ v = 1 then some (v, h) else none
theorem z_zret (C : zB X cc nL own rm) {h0 : zH} {v : Int32} {p : Int32 × zH} (E : zR X (some .boolean) rm h0 (some (.int p.1)) p.2) (hk : k ≤ rm.cells) (hn : n ≤ rm.slots) (d : decode cc pc = .ok (.ireturn, 1)) (hf : zrb v h = some p) : Zt X nL k n pc lv [.int v] h := by
  unfold zrb at hf
  split at hf
  · rename_i h01
    cases hf
    intro H locs ls hI hl
    obtain ⟨q1, q2⟩ := z_end E hI
    have e5 := E.2.2.2.2
    unfold zWW
    rw [e5]
    exact W.widen hk hn (W.zret C.1.1 C.1.2.1 E.1 (z_01 h01).1 q1 q2 d E.2.1)
  · cases hf
theorem z_lret (C : zB X cc nL own rm) {h0 : zH} {v : Int64} {p : Int64 × zH} (E : zR X (some .long) rm h0 (some (.long p.1)) p.2) (hk : k ≤ rm.cells) (hn : n ≤ rm.slots) (d : decode cc pc = .ok (.lreturn, 1)) (hf : some (v, h) = some p) : Zt X nL k n pc lv [.long v] h := by
  cases hf
  intro H locs ls hI hl
  obtain ⟨q1, q2⟩ := z_end E hI
  have e5 := E.2.2.2.2
  unfold zWW
  rw [e5]
  exact W.widen hk hn (W.lret C.1.1 C.1.2.1 E.1 q1 q2 d E.2.1)
theorem z_aret (C : zB X cc nL own rm) {h0 : zH} {v : Nat} {cn : String} {p : Nat × zH} (E : zR X (some (.object cn)) rm h0 (some (.ref p.1)) p.2) (hk : k ≤ rm.cells) (hn : n ≤ rm.slots) (d : decode cc pc = .ok (.areturn, 1)) (hf : some (v, h) = some p) : Zt X nL k n pc lv [.ref v] h := by
  cases hf
  intro H locs ls hI hl
  obtain ⟨q1, q2⟩ := z_end E hI
  have e5 := E.2.2.2.2
  unfold zWW
  rw [e5]
  exact W.widen hk hn (W.aret C.1.1 C.1.2.1 E.1 (Or.inl ⟨_, rfl⟩) (Or.inr ⟨_, rfl⟩) q1 q2 d E.2.1)
theorem z_vret (C : zB X cc nL own rm) {h0 : zH} {p : Unit × zH} (E : zR X none rm h0 none p.2) (hk : k ≤ rm.cells) (hn : n ≤ rm.slots) (d : decode cc pc = .ok (.return_, 1)) (hf : some ((), h) = some p) : Zt X nL k n pc lv [] h := by
  cases hf
  intro H locs ls hI hl
  obtain ⟨q1, q2⟩ := z_end E hI
  have e5 := E.2.2.2.2
  unfold zWW
  rw [e5]
  exact W.widen hk hn (W.vret C.1.1 C.1.2.1 E.1 q1 q2 d E.2.1)
end ZCALLS
/-- a method's entry -/
theorem z_enter {l : Launch} {y : MethodName} {bytes : ByteArray} {maxL : Nat} {ret : Option FieldType} {rm : Room} {D : va_G} {T : List (ClassId × FieldType)} {As : List Value} {h h1 : zH} {r : Option Value} (hy : plainName y.cls = true) (hT : T.map (fun q => q.2) = ztl) (hlen : (lg_sl As).length ≤ maxL)
    (body : ∀ X : zX, x_l X = l → x_D X = D → x_T X = T → ((y.name = "<init>") → (x_t X).name = "<init>") → zB X bytes maxL y.cls rm → zR X ret rm h r h1 → Zt X maxL 0 0 0 (lv_args 0 As) [] h) : zM l y bytes maxL ret rm D T As h r h1 := by
  refine Met.ofW (cc := bytes) (maxL := maxL) (ret := ret) hy rfl ?_
  intro p e s m args below meth c s₁ B hml hv
  obtain ⟨rfl, hrep, hK, hN⟩ := hv
  have hts0 := atoms_spec (ws := Cond.code y bytes maxL ret :: zws) B.pre
  have hown : s.vm.findClass y.cls = some m.cls := findClass_of_methodNamed B.named
  have hl := lv_entry As (n := maxL) hlen
  rw [lg_entry_eq]
  refine body (p, l, e, rm, s, m, As.toArray, below, meth, c, D, T, z_A h, s.heap, MQ below (zPost D T h r h1) As.toArray s rm.cells rm.slots (z_A h)) rfl rfl rfl (fun hin => ?_) ⟨⟨B.exec, B.bytes, hml, hown, fun w hw => hts0 w (List.mem_cons_of_mem _ hw)⟩, hK, hT, rfl, fun q hq => Or.inr (by rw [← hrep.1]; exact hq), hN⟩ ⟨B.returns, B.notSynchronized, rfl, rfl, rfl⟩ s.heap [] _ ⟨hrep, fun a ha => Or.inl ha, va_S.rf⟩ hl
  have := (name_of_methodNamed B.named B.method).1
  rw [hin] at this
  exact this
