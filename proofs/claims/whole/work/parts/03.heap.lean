/-! A PURE HEAP for the whole run: cells by their addresses, and the next free address. -/
/-- a cell: an array (number of its kind in the list of kinds, length, contents) or an object (number of its class, fields) -/
abbrev zE : Type := (Nat × vp_A) ⊕ (Nat × List Value)
abbrev zH : Type := (Nat → Option zE) × Nat
def z_at (D : va_G) (cl : List vw_C) (tys : List (ClassId × FieldType)) (a : Nat) (e : zE) (H : Heap) : Prop := match e with
  | .inl x => ∃ q : ClassId × FieldType, tys[x.1]? = some q ∧ H[a]? = some (vp_cell q.1 x.2)
  | .inr o => ∃ r : vw_C, cl[o.1]? = some r ∧ o.2.length = r.2.2 ∧ t_OB a (D.1 o.1) r.2.2 (D.2 o.1) H (vp_V o.2)
def z_Rep (D : va_G) (cl : List vw_C) (tys : List (ClassId × FieldType)) (h : zH) (H : Heap) : Prop := H.size = h.2 ∧ ∀ (a : Nat) (e : zE), h.1 a = some e → z_at D cl tys a e H
/-- the cells of a heap, and those still to come -/
def z_A (h : zH) : Nat → Prop := fun q => (h.1 q).isSome = true ∨ h.2 ≤ q
theorem z_at.kept {D : va_G} {cl : List vw_C} {tys : List (ClassId × FieldType)} {a : Nat} {e : zE} {H H1 : Heap} (h : z_at D cl tys a e H) (hq : H1[a]? = H[a]?) : z_at D cl tys a e H1 := by
  cases e with
  | inl x =>
    obtain ⟨q, h1, h2⟩ := h
    exact ⟨q, h1, hq.trans h2⟩
  | inr o =>
    obtain ⟨r, h1, h2, h3⟩ := h
    exact ⟨r, h1, h2, h3.kept hq⟩
theorem z_at.lt {D : va_G} {cl : List vw_C} {tys : List (ClassId × FieldType)} {a : Nat} {e : zE} {H : Heap} (h : z_at D cl tys a e H) : a < H.size := by
  cases e with
  | inl x =>
    obtain ⟨q, h1, h2⟩ := h
    exact (Array.getElem?_eq_some_iff.mp h2).1
  | inr o =>
    obtain ⟨r, h1, h2, cell, h3, h4⟩ := h
    exact (Array.getElem?_eq_some_iff.mp h3).1
/-- one cell changed -/
def z_set (h : zH) (a : Nat) (e : zE) : zH := (fun q => if q = a then some e else h.1 q, h.2)
/-- one cell more -/
def z_push (h : zH) (e : zE) : zH := (fun q => if q = h.2 then some e else h.1 q, h.2 + 1)
theorem z_Rep.set {D : va_G} {cl : List vw_C} {tys : List (ClassId × FieldType)} {h : zH} {H H1 : Heap} {a : Nat} {e : zE} (hR : z_Rep D cl tys h H) (hz : H1.size = H.size) (ho : ∀ q, q ≠ a → H1[q]? = H[q]?) (he : z_at D cl tys a e H1) : z_Rep D cl tys (z_set h a e) H1 := by
  refine ⟨hz.trans hR.1, fun q x hq => ?_⟩
  by_cases hqa : q = a
  · subst hqa
    have : e = x := by simpa [z_set] using hq
    rw [← this]; exact he
  · have : h.1 q = some x := by simpa [z_set, hqa] using hq
    exact (hR.2 q x this).kept (ho q hqa)
theorem z_Rep.push {D : va_G} {cl : List vw_C} {tys : List (ClassId × FieldType)} {h : zH} {H H1 : Heap} {e : zE} (hR : z_Rep D cl tys h H) (hz : H1.size = H.size + 1) (ho : ∀ q, q < H.size → H1[q]? = H[q]?) (he : z_at D cl tys h.2 e H1) : z_Rep D cl tys (z_push h e) H1 := by
  refine ⟨by rw [hz, hR.1]; rfl, fun q x hq => ?_⟩
  by_cases hqa : q = h.2
  · subst hqa
    have : e = x := by simpa [z_push] using hq
    rw [← this]; exact he
  · have h1 : h.1 q = some x := by simpa [z_push, hqa] using hq
    exact (hR.2 q x h1).kept (ho q (hR.2 q x h1).lt)
/-! what a program reads and writes -/
def zgI (h : zH) (a ci k : Nat) : Option Int32 := match h.1 a with
  | some (.inr (c, fs)) => if c = ci then (match fs[k]? with | some (.int x) => some x | _ => none) else none
  | _ => none
def zgJ (h : zH) (a ci k : Nat) : Option Int64 := match h.1 a with
  | some (.inr (c, fs)) => if c = ci then (match fs[k]? with | some (.long x) => some x | _ => none) else none
  | _ => none
def zgR (h : zH) (a ci k : Nat) : Option Nat := match h.1 a with
  | some (.inr (c, fs)) => if c = ci then (match fs[k]? with | some (.ref x) => some x | _ => none) else none
  | _ => none
def zgQ (h : zH) (a ci k : Nat) : Option (Option Nat) := match h.1 a with
  | some (.inr (c, fs)) => if c = ci then (match fs[k]? with | some (.ref x) => some (some x) | some .null => some none | _ => none) else none
  | _ => none
/-- a field is put -/
def zp (h : zH) (a ci k : Nat) (v : Value) : Option zH := match h.1 a with
  | some (.inr (c, fs)) => if c = ci ∧ k < fs.length then some (z_set h a (.inr (c, fs.set k v))) else none
  | _ => none
/-- an int of an array of kind t -/
def zaI (h : zH) (t a : Nat) (i : Int32) : Option Int32 := match h.1 a with
  | some (.inl (u, n, .inl f)) => if u = t ∧ ¬ (i < 0 ∨ n ≤ i.toNatClampNeg) then some (f i.toNatClampNeg) else none
  | _ => none
def zaJ (h : zH) (t a : Nat) (i : Int32) : Option Int64 := match h.1 a with
  | some (.inl (u, n, .inr (.inl f))) => if u = t ∧ ¬ (i < 0 ∨ n ≤ i.toNatClampNeg) then some (f i.toNatClampNeg) else none
  | _ => none
def zaR (h : zH) (t a : Nat) (i : Int32) : Option Nat := match h.1 a with
  | some (.inl (u, n, .inr (.inr (.inr (.inr f))))) => if u = t ∧ ¬ (i < 0 ∨ n ≤ i.toNatClampNeg) then f i.toNatClampNeg else none
  | _ => none
def zsI (h : zH) (t a : Nat) (i x : Int32) : Option zH := match h.1 a with
  | some (.inl (u, n, .inl f)) => if u = t ∧ ¬ (i < 0 ∨ n ≤ i.toNatClampNeg) then some (z_set h a (.inl (u, n, .inl (upd f i.toNatClampNeg x)))) else none
  | _ => none
def zsJ (h : zH) (t a : Nat) (i : Int32) (x : Int64) : Option zH := match h.1 a with
  | some (.inl (u, n, .inr (.inl f))) => if u = t ∧ ¬ (i < 0 ∨ n ≤ i.toNatClampNeg) then some (z_set h a (.inl (u, n, .inr (.inl (vp_updL f i.toNatClampNeg x))))) else none
  | _ => none
def zlen (h : zH) (t a : Nat) : Option Int32 := match h.1 a with
  | some (.inl (u, n, _)) => if u = t then some (Int32.ofNat n) else none
  | _ => none

/-! the words that a callee finds as its caller has them; and what of the rest is carried along -/
def z_nest (w : Cond) : Bool := match w with
  | .methodLinkNest .. => true
  | _ => false
def znw : List Cond := lw_tbl.filter z_nest
/-- the words of nest mates hold; the components of the kind 3 are of the kind 1 -/
def zN (T : List (ClassId × FieldType)) (U : State) : Prop := (∀ w ∈ znw, va_Nw w U) ∧ ∀ (q1 q3 : ClassId × FieldType), T[1]? = some q1 → T[3]? = some q3 → ∃ kA : Class, U.vm.classes[q3.1]? = some kA ∧ kA.kind = .array q1.1 (.array .long)
theorem zN.same {T : List (ClassId × FieldType)} {u U : State} (h : zN T u) (hvm : u.vm = U.vm) : zN T U := by
  refine ⟨fun w hw => ?_, fun q1 q3 h1 h3 => by rw [← hvm]; exact h.2 q1 q3 h1 h3⟩
  have hz := (List.mem_filter.mp hw).2
  have h0 := h.1 w hw
  cases w <;> first | exact va_Nw.same rfl hvm h0 | (simp [z_nest] at hz)
theorem zN.warm {T : List (ClassId × FieldType)} {u U : State} (h : zN T u) (hW : u.WarmedH U.vm) : zN T U := by
  refine ⟨fun w hw => ?_, fun q1 q3 h1 h3 => ?_⟩
  · have hz := (List.mem_filter.mp hw).2
    have h0 := h.1 w hw
    cases w <;> first | exact va_Nw.warmM hW h0 | (simp [z_nest] at hz)
  · obtain ⟨kA, g1, g2⟩ := h.2 q1 q3 h1 h3
    obtain ⟨k', hk', he⟩ := hW.alike.2.2 _ _ g1
    exact ⟨k', hk', by rw [he]; exact g2⟩
