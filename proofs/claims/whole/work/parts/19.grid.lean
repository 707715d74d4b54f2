/-! A GRID OF LONGS: new long[a][b] makes an outer array and a row for each of its places. -/
/-- the outer array, its first i places laid -/
def zq_o (c n b i : Nat) : Cell := arrV c n (fun j => if j < i then .ref (b + 1 + j) else .null)
/-- a row of zeros -/
def zq_r (c m : Nat) : Cell := arrV c m (fun _ => .long 0)
/-- the machine behind i rows -/
def zq_s (s : State) (c cj n m : Nat) : Nat → State
  | 0 => s.pushCell (zq_o c n s.heap.size 0)
  | i + 1 => ((zq_s s c cj n m i).pushCell (zq_r cj m)).setCell s.heap.size (zq_o c n s.heap.size (i + 1))
theorem zq_o_0 (c n b : Nat) : ({ cls := c, slots := Array.replicate n .null, vm := .none } : Cell) = zq_o c n b 0 := by
  rw [arrV_new]; simp [zq_o]
theorem zq_r_0 (c m : Nat) : ({ cls := c, slots := Array.replicate m (.long 0), vm := .none } : Cell) = zq_r c m := arrV_new _ _ _
theorem zq_o_set (c n b i : Nat) : (zq_o c n b i).setSlot i (.ref (b + 1 + i)) = zq_o c n b (i + 1) := by
  unfold zq_o
  rw [arrV_store]
  congr 1
  funext j
  unfold updV
  by_cases h : j = i
  · subst h; simp
  · rw [if_neg h]
    show (if j < i then Value.ref (b + 1 + j) else Value.null) = _
    by_cases h2 : j < i
    · rw [if_pos h2, if_pos (by omega)]
    · rw [if_neg h2, if_neg (by omega)]
theorem zq_facts (s : State) (c cj n m : Nat) : ∀ i, (zq_s s c cj n m i).heap.size = s.heap.size + 1 + i ∧ (zq_s s c cj n m i).heap[s.heap.size]? = some (zq_o c n s.heap.size i) ∧ (zq_s s c cj n m i).vm = s.vm ∧ (zq_s s c cj n m i).slotsUsed = s.slotsUsed + n + i * m ∧ (∀ a, a < s.heap.size → (zq_s s c cj n m i).heap[a]? = s.heap[a]?) ∧ (∀ j, j < i → (zq_s s c cj n m i).heap[s.heap.size + 1 + j]? = some (zq_r cj m)) := by
  intro i
  induction i with
  | zero => exact ⟨by simp [zq_s], by simp [zq_s], rfl, by simp [zq_s, zq_o, arrV_size], fun a ha => State.heap_pushCell_of_lt _ _ ha, fun j hj => absurd hj (Nat.not_lt_zero _)⟩
  | succ i ih =>
    obtain ⟨f1, f2, f3, f4, f5, f6⟩ := ih
    have l0 : s.heap.size < (zq_s s c cj n m i).heap.size := by rw [f1]; omega
    have b' : ((zq_s s c cj n m i).pushCell (zq_r cj m)).heap[s.heap.size]? = some (zq_o c n s.heap.size i) := by rw [State.heap_pushCell_of_lt (h := l0)]; exact f2
    have hr : (zq_r cj m).slots.size = m := arrV_size _ _ _
    have ho : ∀ j, (zq_o c n s.heap.size j).slots.size = n := fun j => arrV_size _ _ _
    refine ⟨?_, State.heap_setCell_self b', by simp [zq_s, f3], ?_, fun a ha => ?_, fun j hj => ?_⟩
    · simp [zq_s, State.setCell, f1]; omega
    · simp [zq_s, f4, hr, Nat.succ_mul]; omega
    · show (((zq_s s c cj n m i).pushCell (zq_r cj m)).setCell s.heap.size _).heap[a]? = _
      have la : a < (zq_s s c cj n m i).heap.size := by rw [f1]; omega
      rw [State.heap_setCell_other (Nat.ne_of_gt ha), State.heap_pushCell_of_lt (h := la)]
      exact f5 a ha
    · show (((zq_s s c cj n m i).pushCell (zq_r cj m)).setCell s.heap.size _).heap[s.heap.size + 1 + j]? = _
      rw [State.heap_setCell_other (show s.heap.size ≠ s.heap.size + 1 + j by omega)]
      by_cases h2 : j < i
      · have la : s.heap.size + 1 + j < (zq_s s c cj n m i).heap.size := by rw [f1]; omega
        rw [State.heap_pushCell_of_lt (h := la)]
        exact f6 j h2
      · rw [show s.heap.size + 1 + j = (zq_s s c cj n m i).heap.size by rw [f1]; omega]
        exact State.heap_pushCell_size _ _
theorem zq_top (s : State) (f : JFrame) (c cj n m : Nat) : ∀ i, zq_s (s.setTop f) c cj n m i = (zq_s s c cj n m i).setTop f := by
  intro i
  induction i with
  | zero => rfl
  | succ i ih => simp only [zq_s, ih, State.heap_setTop, State.pushCell_setTop, State.setCell_setTop]
section ZGRID
variable {E : CtlPost} {e : Env} {d : Bool} {acts : List Action} {s : State}
/-- an array of defaults is made -/
theorem zq_new {c cp : ClassId} {k : Class} {ty : FieldType} {len : Nat} {v : Value} (hk : s.vm.classes[c]? = some k) (hkind : k.kind = .array cp ty) (hl : ¬ len > e.platform.arrayLengthLimit) (hh : ¬ len * componentBytes ty > e.platform.maxHeapBytes) (hfit : fits ty v = true) (hdf : v.isDefault = true) {Q : Addr → Pre} (h1 : s.heap.size < e.platform.maxCells) (h2 : s.slotsUsed + len ≤ e.platform.maxSlots)
    (hq : Q s.heap.size d acts (s.pushCell { cls := c, slots := Array.replicate len v, vm := .none })) : wp (Jvm.newArray c len v) Q E e d acts s := by
  have hacts : allocActs (Array.replicate len v) s.heap.size acts = acts := by
    unfold allocActs
    rw [if_pos]
    rw [Array.all_replicate]; split <;> simp [hdf]
  have hslots : ∀ i w, (Array.replicate len v)[i]? = some w → s.fitsSlot c .none i w = true := by
    intro i w hw
    rw [Array.getElem?_replicate] at hw
    split at hw
    · cases hw
      simp [State.fitsSlot, State.slotType?, hk, hkind, hfit]
    · cases hw
  simp only [Jvm.newArray, Jvm.arrayFits, wp_bind', W.ask, W.ite, hl, if_false, wp_pure', W.theClass, hk, hkind, hh, W.alloc, W.stop, Option.some.injEq, exists_eq_left', Array.size_replicate, hacts]
  rw [if_neg (by omega)]
  exact ⟨h1, h2, hslots, hq⟩
theorem zq_make {c cj cc : ClassId} {k kj : Class} {n m : Int32} (hk : s.vm.classes[c]? = some k) (hkind : k.kind = .array cj (.array .long)) (hkj : s.vm.classes[cj]? = some kj) (hkindj : kj.kind = .array cc .long) (hn : ¬ n < 0) (hm : ¬ m < 0)
    (hl1 : ¬ n.toNatClampNeg > e.platform.arrayLengthLimit) (hh1 : ¬ n.toNatClampNeg * 4 > e.platform.maxHeapBytes) (hl2 : ¬ m.toNatClampNeg > e.platform.arrayLengthLimit) (hh2 : ¬ m.toNatClampNeg * 8 > e.platform.maxHeapBytes)
    (hc : s.heap.size + 1 + n.toNatClampNeg ≤ e.platform.maxCells) (hs : s.slotsUsed + n.toNatClampNeg + n.toNatClampNeg * m.toNatClampNeg ≤ e.platform.maxSlots)
    {Q : Addr → Pre} (hq : ∀ d' acts', Q s.heap.size d' acts' (zq_s s c cj n.toNatClampNeg m.toNatClampNeg n.toNatClampNeg)) : wp (multianewarray.make c [n, m]) Q E e d acts s := by
  have hno : ([m].find? (· < 0)) = none := by simp [hm]
  rw [multianewarray.make]
  simp only [wp_bind', W.ite, hn, if_false, wp_pure', W.theClass, hk, hkind, Option.some.injEq, exists_eq_left']
  refine zq_new (ty := .array .long) hk hkind hl1 hh1 rfl rfl (by omega) (by have := Nat.zero_le (n.toNatClampNeg * m.toNatClampNeg); omega) ?_
  rw [zq_o_0 c n.toNatClampNeg s.heap.size]
  simp only [hno]
  rw [ite_self, wp_bind', Std.Legacy.Range.forIn_eq_forIn_range']
  rw [show ([:n.toNatClampNeg] : Std.Legacy.Range).size = n.toNatClampNeg by simp [Std.Legacy.Range.size]]
  show wp (forIn (List.range' 0 n.toNatClampNeg 1) PUnit.unit _) _ E e d acts _
  refine wp_forIn_inv (fun rest t => ∃ i, i ≤ n.toNatClampNeg ∧ rest = List.range' i (n.toNatClampNeg - i) ∧ t = zq_s s c cj n.toNatClampNeg m.toNatClampNeg i) _ _ ⟨0, Nat.zero_le _, rfl, rfl⟩ ?_ ?_
  · rintro x rest t d' acts' Q' ⟨i, hi, hrest, rfl⟩ hnext
    by_cases hin : i < n.toNatClampNeg
    · rw [show n.toNatClampNeg - i = (n.toNatClampNeg - (i + 1)) + 1 by omega, List.range'_succ] at hrest
      obtain ⟨rfl, hrest⟩ := List.cons.inj hrest
      obtain ⟨f1, f2, f3, f4, -, -⟩ := zq_facts s c cj n.toNatClampNeg m.toNatClampNeg x
      have hmul : x * m.toNatClampNeg + m.toNatClampNeg ≤ n.toNatClampNeg * m.toNatClampNeg := by
        have := Nat.mul_le_mul_right m.toNatClampNeg (show x + 1 ≤ n.toNatClampNeg from hin)
        rw [Nat.succ_mul] at this; exact this
      simp only [wp_bind']
      rw [multianewarray.make]
      simp only [wp_bind', W.ite, hm, if_false, wp_pure', W.theClass, f3, hkj, hkindj, Option.some.injEq, exists_eq_left']
      refine zq_new (ty := .long) (by rw [f3]; exact hkj) hkindj hl2 hh2 rfl rfl (by rw [f1]; omega) (by rw [f4]; omega) ?_
      rw [show defaultValue .long = Value.long 0 from rfl, zq_r_0]
      have l0 : s.heap.size < (zq_s s c cj n.toNatClampNeg m.toNatClampNeg x).heap.size := by rw [f1]; omega
      simp only [wp_bind', W.writeLoc, wp_pure']
      refine ⟨zq_o c n.toNatClampNeg s.heap.size x, by rw [State.heap_pushCell_of_lt (h := l0)]; exact f2, by simp [zq_o, arrV], by show x < (arrV _ _ _).slots.size; rw [arrV_size]; exact hin, ?_, hnext _ _ _ ⟨x + 1, hin, hrest, ?_⟩⟩
      · simp [zq_o, arrV, State.fitsSlot, State.slotType?, f3, hk, hkind, fits]
      · rw [f1, zq_o_set]; rfl
    · rw [show n.toNatClampNeg - i = 0 by omega] at hrest
      cases hrest
  · rintro t d' acts' ⟨i, hi, hrest, rfl⟩
    have hin : i = n.toNatClampNeg := by
      by_cases h : i < n.toNatClampNeg
      · rw [show n.toNatClampNeg - i = (n.toNatClampNeg - (i + 1)) + 1 by omega, List.range'_succ] at hrest; cases hrest
      · omega
    subst hin
    simp only [wp_pure']
    exact hq _ _
end ZGRID
section ZGRID2
variable {p : Program} {l : Launch} {e : Env} {R : Room} {s : State} {m : MethodId} {args : Array Value} {below : List Frame} {meth : Method} {c : Code} {T : State} {locs : List Loc} {cells slots : Nat}
theorem zq_stand (X : Stand p l e R s m args below meth c T locs cells slots) (cA cj n k : Nat) : ∀ i, ∃ L : List Loc, (∀ q ∈ L, q.base = T.heap.size) ∧ Stand p l e R s m args below meth c (zq_s T cA cj n k i) (locs ++ L) (cells + 1 + i) (slots + n + i * k) := by
  intro i
  induction i with
  | zero =>
    have h := X.pushed (zq_o cA n T.heap.size 0)
    rw [show (zq_o cA n T.heap.size 0).slots.size = n from arrV_size _ _ _] at h
    exact ⟨[], fun q h => (by cases h), by simpa [zq_s] using h⟩
  | succ i ih =>
    obtain ⟨L, hL, Xi⟩ := ih
    obtain ⟨f1, f2, -⟩ := zq_facts T cA cj n k i
    have l0 : T.heap.size < (zq_s T cA cj n k i).heap.size := by rw [f1]; omega
    have hcell : ((zq_s T cA cj n k i).pushCell (zq_r cj k)).heap[T.heap.size]? = some (zq_o cA n T.heap.size i) := by rw [State.heap_pushCell_of_lt (h := l0)]; exact f2
    have h := (Xi.pushed (zq_r cj k)).stored hcell i (.ref (T.heap.size + 1 + i))
    rw [zq_o_set, show (zq_r cj k).slots.size = k from arrV_size _ _ _] at h
    refine ⟨L ++ [⟨T.heap.size, i⟩], fun q hq => ?_, ?_⟩
    · rcases List.mem_append.mp hq with h | h
      · exact hL q h
      · rw [List.mem_singleton.mp h]
    · rw [← List.append_assoc, show slots + n + (i + 1) * k = slots + n + i * k + k by rw [Nat.succ_mul]; omega]
      exact h
theorem zq_step (X : Stand p l e R s m args below meth c T locs cells slots) (hexec : p.tables.exec = Jvm.exec) {own : String} {index : Nat} (hown : s.vm.findClass own = some m.cls) (hclink : (Cond.classLink own index "[[J").before args s = true) {cA cj cc : ClassId} {kA kj : Class} (hA : s.vm.findClass "[[J" = some cA) (hkA : s.vm.classes[cA]? = some kA) (hkindA : kA.kind = .array cj (.array .long)) (hkj : s.vm.classes[cj]? = some kj) (hkindj : kj.kind = .array cc .long)
    {g : JFrame} (hg : g.method = m) (hdg : decode c.code g.pc = .ok (.multianewarray index 2, 4)) {n k : Int32} {rest : List Value} (hstack : g.stack = .int k :: .int n :: rest) (hn : ¬ n < 0) (hk : ¬ k < 0) (hb1 : n.toNatClampNeg * 4 ≤ 536870912) (hb2 : k.toNatClampNeg * 8 ≤ 536870912)
    (hcells : cells + (1 + n.toNatClampNeg) ≤ R.cells) (hslots : slots + (n.toNatClampNeg + n.toNatClampNeg * k.toNatClampNeg) ≤ R.slots) :
    ∃ (vm₁ : Vm) (L : List Loc), (∀ q ∈ L, q.base = T.heap.size) ∧ Stand p l e R s m args below meth c (zq_s (T.setVm vm₁) cA cj n.toNatClampNeg k.toNatClampNeg n.toNatClampNeg) (locs ++ L) (cells + 1 + n.toNatClampNeg) (slots + n.toNatClampNeg + n.toNatClampNeg * k.toNatClampNeg) ∧
      ∀ target, Steps p.tables e below ((zq_s (T.setVm vm₁) cA cj n.toNatClampNeg k.toNatClampNeg n.toNatClampNeg).setTop { g with pc := g.pc + 4, stack := .ref T.heap.size :: rest }) target → Steps p.tables e below (T.setTop g) target := by
  subst hg
  have hpl : e.platform.magicAccessors = ({} : Platform).magicAccessors := by rw [X.admits.platform]
  obtain ⟨c0, hfc0, hcl⟩ := Cond.classLink_spec hown hclink e.platform hpl
  cases hA.symm.trans hfc0
  obtain ⟨hg₁, hwarm₁, -⟩ := State.classEntry (e := e) X.warmed hcl
  generalize T.vm.noted g.method.cls index (.cls cA) = vm₁ at hg₁ hwarm₁
  obtain ⟨kA₁, hkA₁, heA⟩ := hwarm₁.alike.2.2 _ _ hkA
  obtain ⟨kj₁, hkj₁, hej⟩ := hwarm₁.alike.2.2 _ _ hkj
  have X₁ := X.noted hwarm₁
  obtain ⟨hr1, hr2⟩ := X.roomAbove hcells hslots
  obtain ⟨L, hL, XF⟩ := zq_stand X₁ cA cj n.toNatClampNeg k.toNatClampNeg n.toNatClampNeg
  refine ⟨vm₁, L, hL, XF, fun target hrest => ?_⟩
  jvm_step X.here [hexec, hdg]
  simp only [multianewarray.sem, wp_bind', W.resolveClassAt_links (State.method?_setTop g X.here.top) hg₁]
  rw [W.popN, if_neg (by decide)]
  refine ⟨g, State.topJava?_setTop' (s := T.setVm vm₁) g X.here.top, [.int n, .int k], rest, rfl, hstack, ?_⟩
  simp only [List.mapM_cons, List.mapM_nil, wp_bind', wp_pure']
  refine zq_make (k := kA₁) (kj := kj₁) (cj := cj) (cc := cc) hkA₁ (by rw [heA]; exact hkindA) hkj₁ (by rw [hej]; exact hkindj) hn hk (by rw [Launch.admits_arrayLengthLimit X.admits]; omega) (by rw [Launch.admits_maxHeapBytes X.admits]; omega) (by rw [Launch.admits_arrayLengthLimit X.admits]; omega) (by rw [Launch.admits_maxHeapBytes X.admits]; omega) (by show T.heap.size + 1 + _ ≤ _; omega) (by show T.slotsUsed + _ + _ ≤ _; omega) (fun d' acts' => ?_)
  have eS : ((T.setTop g).setVm vm₁).setTop { g with stack := rest } = (T.setVm vm₁).setTop { g with stack := rest } := by
    show ((T.setVm vm₁).setTop g).setTop _ = _
    rw [State.setTop_setTop]
  rw [eS, zq_top]
  simp only [wp_bind', W.mark, W.pushRef, State.topJava?_setTop' _ XF.here.top, Option.some.injEq, exists_eq_left', State.setTop_setTop, State.heap_setTop]
  intro acts
  simp [jvm, XF.here.top]
  exact hrest
end ZGRID2
/-- the pure heap with a grid more -/
def z_grid (h : zH) (n m : Nat) : zH := (fun q => if q = h.2 then some (.inl (3, n, .inr (.inr (.inr (.inr (fun j => if j < n then some (h.2 + 1 + j) else none)))))) else if h.2 < q ∧ q < h.2 + 1 + n then some (.inl (1, m, .inr (.inl (fun _ => 0)))) else h.1 q, h.2 + 1 + n)
def znG (h : zH) (m1 m2 : Nat) (a b : Int32) : Option (Nat × zH) := if (¬ a < 0 ∧ a.toNatClampNeg ≤ m1) ∧ ¬ b < 0 ∧ b.toNatClampNeg ≤ m2 then some (h.2, z_grid h a.toNatClampNeg b.toNatClampNeg) else none
section ZGRID3
variable {X : zX} {cc : ByteArray} {nL : Nat} {own : String} {rm : Room} {k n pc : Nat} {lv lv' : List (Nat × Value)} {st : List Value} {h : zH}
theorem z_newG (C : zB X cc nL own rm) {idx : Nat} {a b : Int32} (m1 m2 : Nat) (hw : Cond.classLink own idx "[[J" ∈ zws) (hm1 : m1 * 4 ≤ 536870912) (hm2 : m2 * 8 ≤ 536870912) (hk : k + (1 + m1) ≤ rm.cells) (hn : n + (m1 + m1 * m2) ≤ rm.slots) (d : decode cc pc = .ok (.multianewarray idx 2, 4)) {α : Type} {B : Nat × zH → Option α} {r : α} (hf : (znG h m1 m2 a b).bind B = some r)
    (K : ∀ q : Nat × zH, B q = some r → Zt X nL (k + (1 + m1)) (n + (m1 + m1 * m2)) (pc + 4) lv (.ref q.1 :: st) q.2) : Zt X nL k n pc lv (.int b :: .int a :: st) h := by
  unfold znG at hf
  split at hf
  · rename_i hab
    obtain ⟨⟨ha0, ha1⟩, hb0, hb1⟩ := hab
    intro H locs ls hI hl T hT XX
    obtain ⟨⟨hx, hb, hml, hown, hts⟩, hK, hTy, hRm, hA, hN⟩ := C
    obtain ⟨cJ, t1⟩ := z_tyc hTy (t := 1) (ty := .long) rfl
    obtain ⟨cA, t3⟩ := z_tyc hTy (t := 3) (ty := .array .long) rfl
    obtain ⟨kA, hkA, hkindA⟩ := hN.2 _ _ t1 t3
    obtain ⟨-, kj, hkj, cmp, hkindj⟩ := (hK.2 _ _ t1).1 0 (fun _ => .long 0)
    have hfA : (x_s X).vm.findClass "[[J" = some cA := (hK.2 _ _ t3).2
    have hmul : a.toNatClampNeg * b.toNatClampNeg ≤ m1 * m2 := Nat.mul_le_mul ha1 hb1
    obtain ⟨vm₁, L, hL, XF, step⟩ := zq_step XX hx hown (hts _ hw) hfA hkA hkindA hkj hkindj (g := F0 (x_m X) pc ls (.int b :: .int a :: st)) rfl (by rw [hb]; exact d) (n := a) (k := b) (rest := st) rfl ha0 hb0 (by omega) (by omega) (by rw [hRm]; omega) (by rw [hRm]; omega)
    obtain ⟨f1, f2, f3, f4, f5, f6⟩ := zq_facts (T.setVm vm₁) cA cJ a.toNatClampNeg b.toNatClampNeg a.toNatClampNeg
    have hsz : (T.setVm vm₁).heap.size = h.2 := by show T.heap.size = _; rw [hT]; exact hI.1.1
    have hTh : (T.setVm vm₁).heap = H := hT
    rw [hsz] at f1 f2 f5 f6
    have hI1 : zI X (z_grid h a.toNatClampNeg b.toNatClampNeg) (zq_s (T.setVm vm₁) cA cJ a.toNatClampNeg b.toNatClampNeg a.toNatClampNeg).heap (locs ++ L) := by
      refine ⟨⟨f1, fun q e he => ?_⟩, fun q hq => ?_, ?_, fun q h1 h2 => ?_, fun q hq => ?_⟩
      · by_cases c1 : q = h.2
        · have he' : e = .inl (3, a.toNatClampNeg, .inr (.inr (.inr (.inr (fun j => if j < a.toNatClampNeg then some (h.2 + 1 + j) else none))))) := by
            have := he; simp only [z_grid, c1, if_true] at this; exact (Option.some.inj this).symm
          subst he'; subst c1
          refine ⟨_, t3, ?_⟩
          rw [f2]
          congr 1
          unfold zq_o
          rw [vp_cell_q]
          congr 1
          funext j
          by_cases hj : j < a.toNatClampNeg
          · simp [hj, va_rf]
          · simp [hj, va_rf]
        · by_cases c2 : h.2 < q ∧ q < h.2 + 1 + a.toNatClampNeg
          · have he' : e = .inl (1, b.toNatClampNeg, .inr (.inl (fun _ => 0))) := by
              have := he; simp only [z_grid, if_neg c1, if_pos c2] at this; exact (Option.some.inj this).symm
            subst he'
            refine ⟨_, t1, ?_⟩
            have := f6 (q - (h.2 + 1)) (by omega)
            rw [show h.2 + 1 + (q - (h.2 + 1)) = q by omega] at this
            rw [this]; rfl
          · have he' : h.1 q = some e := by
              have := he; simp only [z_grid, if_neg c1, if_neg c2] at this; exact this
            have h0 := hI.1.2 q e he'
            exact h0.kept (by rw [f5 q (by rw [← hI.1.1]; exact h0.lt), hTh])
      · by_cases c1 : h.2 ≤ q
        · exact hA q (Nat.le_trans (by rw [← hI.1.1]; exact hI.2.2.1) c1)
        · refine hI.2.1 q ?_
          have := hq
          simp only [z_grid] at this
          rw [if_neg (by omega), if_neg (by omega)] at this
          exact this
      · rw [f1]; exact Nat.le_trans hI.2.2.1 (by rw [hI.1.1]; omega)
      · have : q < h.2 := by rw [← hI.1.1]; exact Nat.lt_of_lt_of_le h1 hI.2.2.1
        rw [f5 q this, hTh]; exact hI.2.2.2.1 q h1 h2
      · rcases List.mem_append.mp hq with h | h
        · exact hI.2.2.2.2 q h
        · have hb : q.base = T.heap.size := hL q h
          rw [hb, hT]
          exact hA _ hI.2.2.1
    obtain ⟨t, a1, b1⟩ := K _ hf _ _ ls hI1 hl _ rfl (stand_widen XF (by omega) (by omega))
    refine ⟨t, step t ?_, b1⟩
    have e0 : T.heap.size = h.2 := hsz
    rw [e0]
    exact a1
  · cases hf
end ZGRID3
