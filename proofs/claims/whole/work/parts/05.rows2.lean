/-! rows of arrays, of new cells, of calls and returns -/
section ZROWS2
variable {X : zX} {cc : ByteArray} {nL : Nat} {own : String} {rm : Room} {k n pc : Nat} {lv lv' : List (Nat × Value)} {st : List Value} {h : zH}
/-- the kinds of arrays, by their numbers -/
theorem z_ty {T : List (ClassId × FieldType)} (hT : T.map (fun q => q.2) = ztl) {t : Nat} {q : ClassId × FieldType} (h : T[t]? = some q) : ztl[t]? = some q.2 := by
  rw [← hT, List.getElem?_map, h]; rfl
theorem z_tyc {T : List (ClassId × FieldType)} (hT : T.map (fun q => q.2) = ztl) {t : Nat} {ty : FieldType} (h : ztl[t]? = some ty) : ∃ cA : ClassId, T[t]? = some (cA, ty) := by
  rw [← hT, List.getElem?_map] at h
  cases hq : T[t]? with
  | none => rw [hq] at h; cases h
  | some q =>
    rw [hq] at h
    obtain ⟨c, y⟩ := q
    cases h
    exact ⟨c, rfl⟩
theorem z_iald (C : zB X cc nL own rm) {a : Nat} {i : Int32} (d : decode cc pc = .ok (.iaload, 1)) {α : Type} {B : Int32 → Option α} {r : α} (hf : (zaI h 0 a i).bind B = some r) (K : ∀ v : Int32, B v = some r → Zt X nL k n (pc + 1) lv (.int v :: st) h) : Zt X nL k n pc lv (.int i :: .ref a :: st) h := by
  obtain ⟨v, hv, hr⟩ := Option.bind_eq_some_iff.mp hf
  unfold zaI at hv
  split at hv
  · rename_i u m f he
    split at hv
    · rename_i hc; obtain ⟨rfl, hin⟩ := hc; cases hv
      intro H locs ls hI hl
      obtain ⟨⟨hx, hb, hml, hown, hts⟩, hK, hT, hR, hA, hN⟩ := C
      obtain ⟨q, h1, h2⟩ := hI.1.2 a _ he
      have hty := z_ty hT h1
      obtain ⟨cA, ty⟩ := q
      cases hty
      have hlt : i.toNatClampNeg < m := Nat.not_le.mp fun q => hin (Or.inr q)
      exact W.iald (v := .int (f i.toNatClampNeg)) hx hb h2 ((hK.2 _ _ h1).1 m (fun j => .int (f j))) (fun q => by cases q) (by show ¬ (i < 0 ∨ (arrV _ _ _).slots.size ≤ _); rw [arrV_size]; exact hin) (by show (arrV _ _ _).slots[_]? = _; rw [arrV_read _ _ hlt]) rfl rfl d (K _ hr H locs ls hI hl)
    · cases hv
  · cases hv
theorem z_zald (C : zB X cc nL own rm) {a : Nat} {i : Int32} (d : decode cc pc = .ok (.baload, 1)) {α : Type} {B : Int32 → Option α} {r : α} (hf : (zaI h 2 a i).bind B = some r) (K : ∀ v : Int32, B v = some r → Zt X nL k n (pc + 1) lv (.int v :: st) h) : Zt X nL k n pc lv (.int i :: .ref a :: st) h := by
  obtain ⟨v, hv, hr⟩ := Option.bind_eq_some_iff.mp hf
  unfold zaI at hv
  split at hv
  · rename_i u m f he
    split at hv
    · rename_i hc; obtain ⟨rfl, hin⟩ := hc; cases hv
      intro H locs ls hI hl
      obtain ⟨⟨hx, hb, hml, hown, hts⟩, hK, hT, hR, hA, hN⟩ := C
      obtain ⟨q, h1, h2⟩ := hI.1.2 a _ he
      have hty := z_ty hT h1
      obtain ⟨cA, ty⟩ := q
      cases hty
      have hlt : i.toNatClampNeg < m := Nat.not_le.mp fun q => hin (Or.inr q)
      exact W.zald (v := .int (f i.toNatClampNeg)) hx hb h2 ((hK.2 _ _ h1).1 m (fun j => .int (f j))) (fun q => by cases q) (by show ¬ (i < 0 ∨ (arrV _ _ _).slots.size ≤ _); rw [arrV_size]; exact hin) (by show (arrV _ _ _).slots[_]? = _; rw [arrV_read _ _ hlt]) rfl rfl d (K _ hr H locs ls hI hl)
    · cases hv
  · cases hv
theorem z_lald (C : zB X cc nL own rm) {a : Nat} {i : Int32} (d : decode cc pc = .ok (.laload, 1)) {α : Type} {B : Int64 → Option α} {r : α} (hf : (zaJ h 1 a i).bind B = some r) (K : ∀ v : Int64, B v = some r → Zt X nL k n (pc + 1) lv (.long v :: st) h) : Zt X nL k n pc lv (.int i :: .ref a :: st) h := by
  obtain ⟨v, hv, hr⟩ := Option.bind_eq_some_iff.mp hf
  unfold zaJ at hv
  split at hv
  · rename_i u m f he
    split at hv
    · rename_i hc; obtain ⟨rfl, hin⟩ := hc; cases hv
      intro H locs ls hI hl
      obtain ⟨⟨hx, hb, hml, hown, hts⟩, hK, hT, hR, hA, hN⟩ := C
      obtain ⟨q, h1, h2⟩ := hI.1.2 a _ he
      have hty := z_ty hT h1
      obtain ⟨cA, ty⟩ := q
      cases hty
      have hlt : i.toNatClampNeg < m := Nat.not_le.mp fun q => hin (Or.inr q)
      exact W.lald (v := .long (f i.toNatClampNeg)) hx hb h2 ((hK.2 _ _ h1).1 m (fun j => .long (f j))) (fun q => by cases q) (by show ¬ (i < 0 ∨ (arrV _ _ _).slots.size ≤ _); rw [arrV_size]; exact hin) (by show (arrV _ _ _).slots[_]? = _; rw [arrV_read _ _ hlt]) rfl rfl d (K _ hr H locs ls hI hl)
    · cases hv
  · cases hv
theorem z_aald (C : zB X cc nL own rm) {a : Nat} {i : Int32} (d : decode cc pc = .ok (.aaload, 1)) {α : Type} {B : Nat → Option α} {r : α} (hf : (zaR h 3 a i).bind B = some r) (K : ∀ v : Nat, B v = some r → Zt X nL k n (pc + 1) lv (.ref v :: st) h) : Zt X nL k n pc lv (.int i :: .ref a :: st) h := by
  obtain ⟨v, hv, hr⟩ := Option.bind_eq_some_iff.mp hf
  unfold zaR at hv
  split at hv
  · rename_i u m f he
    split at hv
    · rename_i hc; obtain ⟨rfl, hin⟩ := hc
      intro H locs ls hI hl
      obtain ⟨⟨hx, hb, hml, hown, hts⟩, hK, hT, hR, hA, hN⟩ := C
      obtain ⟨q, h1, h2⟩ := hI.1.2 a _ he
      have hty := z_ty hT h1
      obtain ⟨cA, ty⟩ := q
      cases hty
      have hlt : i.toNatClampNeg < m := Nat.not_le.mp fun q => hin (Or.inr q)
      exact W.aald (v := .ref v) hx hb h2 ((hK.2 _ _ h1).1 m (fun j => va_rf (f j))) rfl (fun q => by cases q) (by show ¬ (i < 0 ∨ (arrV _ _ _).slots.size ≤ _); rw [arrV_size]; exact hin) (by show (arrV _ _ _).slots[_]? = _; rw [arrV_read _ _ hlt, hv]; rfl) rfl rfl d (K _ hr H locs ls hI hl)
    · cases hv
  · cases hv
theorem z_alen (C : zB X cc nL own rm) {a : Nat} (t : Nat) (d : decode cc pc = .ok (.arraylength, 1)) {α : Type} {B : Int32 → Option α} {r : α} (hf : (zlen h t a).bind B = some r) (K : ∀ v : Int32, B v = some r → Zt X nL k n (pc + 1) lv (.int v :: st) h) : Zt X nL k n pc lv (.ref a :: st) h := by
  obtain ⟨v, hv, hr⟩ := Option.bind_eq_some_iff.mp hf
  unfold zlen at hv
  split at hv
  · rename_i u m f he
    split at hv
    · rename_i hc; subst hc; cases hv
      intro H locs ls hI hl
      obtain ⟨⟨hx, hb, hml, hown, hts⟩, hK, hT, hR, hA, hN⟩ := C
      obtain ⟨q, h1, h2⟩ := hI.1.2 a _ he
      have hP : va_P (x_D X) zcl [(a, .inl (q.1, m, f))] H := by
        intro i q hq
        match i, hq with
        | 0, hq => cases hq; exact h2
        | i + 1, hq => simp at hq
      exact va_alen (D := x_D X) (cl := zcl) (tys := x_T X) hx hb hK hP 0 u rfl h1 rfl d (K _ hr H locs ls hI hl)
    · cases hv
  · cases hv
theorem z_iast (C : zB X cc nL own rm) {a : Nat} {i x : Int32} (d : decode cc pc = .ok (.iastore, 1)) {α : Type} {B : zH → Option α} {r : α} (hf : (zsI h 0 a i x).bind B = some r) (K : ∀ h' : zH, B h' = some r → Zt X nL k n (pc + 1) lv st h') : Zt X nL k n pc lv (.int x :: .int i :: .ref a :: st) h := by
  obtain ⟨v, hv, hr⟩ := Option.bind_eq_some_iff.mp hf
  unfold zsI at hv
  split at hv
  · rename_i u m f he
    split at hv
    · rename_i hc; obtain ⟨rfl, hin⟩ := hc; cases hv
      intro H locs ls hI hl
      obtain ⟨⟨hx, hb, hml, hown, hts⟩, hK, hT, hR, hA, hN⟩ := C
      obtain ⟨q, h1, h2⟩ := hI.1.2 a _ he
      have hty := z_ty hT h1
      obtain ⟨cA, ty⟩ := q
      cases hty
      refine W.iast hx hb h2 ((hK.2 _ _ h1).1 m (fun j => .int (f j))) (fun q => by cases q) (by show ¬ (i < 0 ∨ (arrV _ _ _).slots.size ≤ _); rw [arrV_size]; exact hin) rfl rfl d fun H1 e z oq => ?_
      refine K _ hr H1 _ ls (zI_set hI he z oq ⟨_, h1, ?_⟩) hl
      rw [e]
      rw [vp_cell_i, vp_cell_i, arrV_store]
      congr 2
      funext q
      by_cases hq : q = i.toNatClampNeg
      · subst hq; simp [updV, upd]
      · simp [updV, upd, hq]
    · cases hv
  · cases hv
/-- a boolean is put into an array -/
def zsZ (h : zH) (a : Nat) (i x : Int32) : Option zH := if x = 0 ∨ x = 1 then zsI h 2 a i x else none
theorem z_zast (C : zB X cc nL own rm) {a : Nat} {i x : Int32} (d : decode cc pc = .ok (.bastore, 1)) {α : Type} {B : zH → Option α} {r : α} (hf : (zsZ h a i x).bind B = some r) (K : ∀ h' : zH, B h' = some r → Zt X nL k n (pc + 1) lv st h') : Zt X nL k n pc lv (.int x :: .int i :: .ref a :: st) h := by
  unfold zsZ at hf
  split at hf
  · rename_i h01
    obtain ⟨v, hv, hr⟩ := Option.bind_eq_some_iff.mp hf
    unfold zsI at hv
    split at hv
    · rename_i u m f he
      split at hv
      · rename_i hc; obtain ⟨rfl, hin⟩ := hc; cases hv
        intro H locs ls hI hl
        obtain ⟨⟨hx, hb, hml, hown, hts⟩, hK, hT, hR, hA, hN⟩ := C
        obtain ⟨q, h1, h2⟩ := hI.1.2 a _ he
        have hty := z_ty hT h1
        obtain ⟨cA, ty⟩ := q
        cases hty
        refine W.zast hx hb h2 ((hK.2 _ _ h1).1 m (fun j => .int (f j))) (fun q => by cases q) (by show ¬ (i < 0 ∨ (arrV _ _ _).slots.size ≤ _); rw [arrV_size]; exact hin) rfl rfl d fun H1 e z oq => ?_
        refine K _ hr H1 _ ls (zI_set hI he z oq ⟨_, h1, ?_⟩) hl
        rw [e, (z_01 h01).1]
        rw [vp_cell_i, vp_cell_i, arrV_store]
        congr 2
        funext q
        by_cases hq : q = i.toNatClampNeg
        · subst hq; simp [updV, upd]
        · simp [updV, upd, hq]
      · cases hv
    · cases hv
  · cases hf
theorem z_last (C : zB X cc nL own rm) {a : Nat} {i : Int32} {x : Int64} (d : decode cc pc = .ok (.lastore, 1)) {α : Type} {B : zH → Option α} {r : α} (hf : (zsJ h 1 a i x).bind B = some r) (K : ∀ h' : zH, B h' = some r → Zt X nL k n (pc + 1) lv st h') : Zt X nL k n pc lv (.long x :: .int i :: .ref a :: st) h := by
  obtain ⟨v, hv, hr⟩ := Option.bind_eq_some_iff.mp hf
  unfold zsJ at hv
  split at hv
  · rename_i u m f he
    split at hv
    · rename_i hc; obtain ⟨rfl, hin⟩ := hc; cases hv
      intro H locs ls hI hl
      obtain ⟨⟨hx, hb, hml, hown, hts⟩, hK, hT, hR, hA, hN⟩ := C
      obtain ⟨q, h1, h2⟩ := hI.1.2 a _ he
      have hty := z_ty hT h1
      obtain ⟨cA, ty⟩ := q
      cases hty
      refine W.last hx hb h2 ((hK.2 _ _ h1).1 m (fun j => .long (f j))) (fun q => by cases q) (by show ¬ (i < 0 ∨ (arrV _ _ _).slots.size ≤ _); rw [arrV_size]; exact hin) rfl rfl d fun H1 e z oq => ?_
      refine K _ hr H1 _ ls (zI_set hI he z oq ⟨_, h1, ?_⟩) hl
      rw [e]
      rw [vp_cell_l, vp_cell_l, arrV_store]
      congr 2
      funext q
      by_cases hq : q = i.toNatClampNeg
      · subst hq; simp [updV, vp_updL]
      · simp [updV, vp_updL, hq]
    · cases hv
  · cases hv
/-- a new cell -/
theorem zI_push {e : zE} {H H1 : Heap} {locs : List Loc} (hA : ∀ q, (x_H X).size ≤ q → x_A X q) (hI : zI X h H locs) (hz : H1.size = H.size + 1) (ho : ∀ q, q < H.size → H1[q]? = H[q]?) (hn : z_at (x_D X) zcl (x_T X) h.2 e H1) : zI X (z_push h e) H1 locs := by
  refine ⟨hI.1.push hz ho hn, fun q hq => ?_, ⟨Nat.le_trans hI.2.2.1 (by omega), fun x h1 h2 => (ho x (Nat.lt_of_lt_of_le h1 hI.2.2.1)).trans (hI.2.2.2.1 x h1 h2), hI.2.2.2.2⟩⟩
  by_cases hqa : q = h.2
  · subst hqa; exact hA _ (by rw [← hI.1.1]; exact hI.2.2.1)
  · exact hI.2.1 q (by simpa [z_push, hqa] using hq)
theorem z_new (C : zB X cc nL own rm) {CN : String} {T : u_T} {N idx : Nat} {fs : List Value} (ci : Nat) (tyf : Nat → FieldType) (hc : zcl[ci]? = some (CN, T, N)) (hin : ∀ w ∈ u_ws CN T N, w ∈ zws) (hty : ∀ k, k < N → parseFieldDescriptor (T k).2.2.1 = some (tyf k)) (hw : Cond.classLink own idx CN ∈ zws) (hwi : Cond.instantiable CN N ∈ zws) (hwn : Cond.initialized CN ∈ zws) (hfs : fs = (List.range N).map (fun j => defaultValue (tyf j))) (hk : k + 1 ≤ rm.cells) (hn : n + N ≤ rm.slots) (d : decode cc pc = .ok (.new idx, 3))
    (K : Zt X nL (k + 1) (n + N) (pc + 3) lv (.ref h.2 :: st) (z_push h (.inr (ci, fs)))) : Zt X nL k n pc lv st h := by
  intro H locs ls hI hl
  obtain ⟨⟨hx, hb, hml, hown, hts⟩, hK, hT, hR, hA, hN⟩ := C
  have hKn := hK.1 ci _ hc
  refine W.newcK hx hb hown (hts _ hw) (hts _ hwi) (hts _ hwn) rfl d (by rw [hR]; exact hk) (by rw [hR]; exact hn) hKn.2.1 hI.1.1 fun H1 kC hkC e1 z1 o1 => ?_
  refine K H1 locs ls (zI_push hA hI (by rw [z1, hI.1.1]) (fun q hq => o1 q (by rw [← hI.1.1]; exact hq)) ⟨_, hc, by subst hfs; simp, ?_⟩) hl
  refine (u_born tyf hts hin hKn hkC e1 hty).to (fun j hj => ?_)
  subst hfs
  simp [vp_V, hj]
/-- a new array of numbers, of at most m -/
def znI (h : zH) (t m : Nat) (i : Int32) : Option (Nat × zH) := if ¬ i < 0 ∧ i.toNatClampNeg ≤ m then some (h.2, z_push h (.inl (t, i.toNatClampNeg, .inl (fun _ => 0)))) else none
def znJ (h : zH) (t m : Nat) (i : Int32) : Option (Nat × zH) := if ¬ i < 0 ∧ i.toNatClampNeg ≤ m then some (h.2, z_push h (.inl (t, i.toNatClampNeg, .inr (.inl (fun _ => 0))))) else none
theorem z_newa (C : zB X cc nL own rm) {at_ : ArrayType} {i : Int32} (t m : Nat) {a0 : vp_A} (hat : ztl[t]? = some (newarray.typeOf at_)) (hw : Cond.arrayClass (newarray.typeOf at_) ∈ zws) (hra : ∀ (U : State) (cA : ClassId), va_RA U cA (newarray.typeOf at_) → U.vm.findClass ("[" ++ (newarray.typeOf at_).toString) = some cA) (ha : ∀ cA : ClassId, vp_cell cA a0 = arrV cA i.toNatClampNeg (fun _ => defaultValue (newarray.typeOf at_))) (hi : ¬ i < 0 ∧ i.toNatClampNeg ≤ m) (hm : m * componentBytes (newarray.typeOf at_) ≤ 536870912) (hk : k + 1 ≤ rm.cells) (hn : n + m ≤ rm.slots) (d : decode cc pc = .ok (.newarray at_, 2))
    (K : Zt X nL (k + 1) (n + m) (pc + 2) lv (.ref h.2 :: st) (z_push h (.inl (t, a0)))) : Zt X nL k n pc lv (.int i :: st) h := by
  intro H locs ls hI hl
  obtain ⟨⟨hx, hb, hml, hown, hts⟩, hK, hT, hR, hA, hN⟩ := C
  obtain ⟨cT, hcT⟩ := z_tyc hT hat
  refine va_newaK hx hb (hts _ hw) rfl d rfl hi.1 rfl (Nat.le_trans (Nat.mul_le_mul_right _ hi.2) hm) (by rw [hR]; exact hk) (by rw [hR]; omega) hI.1.1 fun H1 cA e1 z1 o1 hAr hNm => ?_
  have hcc : cA = cT := Option.some.inj (hNm.symm.trans (hra _ _ (hK.2 _ _ hcT).2))
  refine W.widen (k := k + 1) (n := n + m) (Nat.le_refl _) (by omega) ?_
  refine K H1 locs ls (zI_push hA hI (by rw [z1, hI.1.1]) (fun q hq => o1 q (by rw [← hI.1.1]; exact hq)) ⟨_, hcT, ?_⟩) hl
  rw [e1, ha, hcc]
theorem z_newI (C : zB X cc nL own rm) {i : Int32} (m : Nat) (hw : Cond.arrayClass .int ∈ zws) (hm : m * 4 ≤ 536870912) (hk : k + 1 ≤ rm.cells) (hn : n + m ≤ rm.slots) (d : decode cc pc = .ok (.newarray .int, 2)) {α : Type} {B : Nat × zH → Option α} {r : α} (hf : (znI h 0 m i).bind B = some r)
    (K : ∀ q : Nat × zH, B q = some r → Zt X nL (k + 1) (n + m) (pc + 2) lv (.ref q.1 :: st) q.2) : Zt X nL k n pc lv (.int i :: st) h := by
  unfold znI at hf
  split at hf
  · rename_i hi
    exact z_newa (at_ := .int) C 0 m rfl hw (fun _ _ h => h) (fun _ => rfl) hi hm hk hn d (K _ hf)
  · cases hf
theorem z_newZ (C : zB X cc nL own rm) {i : Int32} (m : Nat) (hw : Cond.arrayClass .boolean ∈ zws) (hm : m * 4 ≤ 536870912) (hk : k + 1 ≤ rm.cells) (hn : n + m ≤ rm.slots) (d : decode cc pc = .ok (.newarray .boolean, 2)) {α : Type} {B : Nat × zH → Option α} {r : α} (hf : (znI h 2 m i).bind B = some r)
    (K : ∀ q : Nat × zH, B q = some r → Zt X nL (k + 1) (n + m) (pc + 2) lv (.ref q.1 :: st) q.2) : Zt X nL k n pc lv (.int i :: st) h := by
  unfold znI at hf
  split at hf
  · rename_i hi
    exact z_newa (at_ := .boolean) C 2 m rfl hw (fun _ _ h => h) (fun _ => rfl) hi (Nat.le_trans (Nat.mul_le_mul_left m (by decide)) hm) hk hn d (K _ hf)
  · cases hf
theorem z_newJ (C : zB X cc nL own rm) {i : Int32} (m : Nat) (hw : Cond.arrayClass .long ∈ zws) (hm : m * 8 ≤ 536870912) (hk : k + 1 ≤ rm.cells) (hn : n + m ≤ rm.slots) (d : decode cc pc = .ok (.newarray .long, 2)) {α : Type} {B : Nat × zH → Option α} {r : α} (hf : (znJ h 1 m i).bind B = some r)
    (K : ∀ q : Nat × zH, B q = some r → Zt X nL (k + 1) (n + m) (pc + 2) lv (.ref q.1 :: st) q.2) : Zt X nL k n pc lv (.int i :: st) h := by
  unfold znJ at hf
  split at hf
  · rename_i hi
    exact z_newa (at_ := .long) C 1 m rfl hw (fun _ _ h => h) (fun _ => rfl) hi hm hk hn d (K _ hf)
  · cases hf
/-- a new object -/
def znO (h : zH) (ci : Nat) (fs : List Value) : Option (Nat × zH) := some (h.2, z_push h (.inr (ci, fs)))
theorem z_newO (C : zB X cc nL own rm) {CN : String} {T : u_T} {N idx : Nat} {fs : List Value} (ci : Nat) (tyf : Nat → FieldType) (hc : zcl[ci]? = some (CN, T, N)) (hin : ∀ w ∈ u_ws CN T N, w ∈ zws) (hty : ∀ k, k < N → parseFieldDescriptor (T k).2.2.1 = some (tyf k)) (hw : Cond.classLink own idx CN ∈ zws) (hwi : Cond.instantiable CN N ∈ zws) (hwn : Cond.initialized CN ∈ zws) (hfs : fs = (List.range N).map (fun j => defaultValue (tyf j))) (hk : k + 1 ≤ rm.cells) (hn : n + N ≤ rm.slots) (d : decode cc pc = .ok (.new idx, 3)) {α : Type} {B : Nat × zH → Option α} {r : α} (hf : (znO h ci fs).bind B = some r)
    (K : ∀ q : Nat × zH, B q = some r → Zt X nL (k + 1) (n + N) (pc + 3) lv (.ref q.1 :: st) q.2) : Zt X nL k n pc lv st h :=
  z_new C ci tyf hc hin hty hw hwi hwn hfs hk hn d (K _ hf)
end ZROWS2
