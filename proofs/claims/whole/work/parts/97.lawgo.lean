/-! the law's call of cell; what its loop keeps -/
section LAWCELL
variable {X : zX} {k n pc : Nat} {lv : List (Nat × Value)} {st : List Value} {h : zH} {b L : Nat} {xs : Nat → Int32}
theorem z_cell (C : zB X code 4 R_Law room_1) (S : zSc X b L xs) (hL : L ≤ 100000) {i : Nat} (hi : i ≤ 100000) (hk : k ≤ room_1.cells) (hn : n ≤ room_1.slots) (hrm : (st.map fun v => v.category).sum ≤ 8) (d : decode code pc = .ok (.invokestatic 9, 3)) (K : Zt X 4 k n (pc + 3) lv (.int (cellv L xs i) :: st) h) : Zt X 4 k n pc lv (.int (nI i) :: .ref b :: st) h := by
  intro H locs ls hI hl
  have hB := z_callB C (idx := 9) (rmc := rm_Law_cell) w_733 w_56 w_731 pd_Law_cell ⟨Nat.le_of_ble_eq_true rfl, Nat.le_of_ble_eq_true rfl⟩
  have CC := C
  obtain ⟨⟨hx, hb, hml, hown, hts⟩, hK, hT, hRm, hA, hN⟩ := CC
  have hr := va_runS (l := x_l X) (e := x_e X) (below := x_b X) (meth := x_t X) (H := H) (locs := locs) (cells := k) (slots := n) (As := [.ref b, .int (nI i)]) (rest := st) (g := F0 (x_m X) pc ls (.int (nI i) :: .ref b :: st)) ⟨hx, hb, hml, hown, hts⟩ (c_cell (x_l X) (b := b) (xs := xs) hL hi) ⟨hB, hts _ w_732⟩ ⟨fun a U g mk ⟨q0, q1, q2⟩ => ⟨q0, va_X.moved (u := U) (U := U.calling g mk a) (Vm.Alike.refl U.vm) q1, q2⟩, fun U hU hW => ⟨rfl, by rw [hU]; exact (S.1.kept (hI.2.2.2.1 b S.2.1 S.2.2)).moved hW.alike, by rw [hU]; exact Nat.lt_of_lt_of_le S.2.1 hI.2.2.1⟩⟩ rfl rfl hl.1 rfl (lv_room hrm) d (by rw [hRm]; exact ⟨hk, hn⟩)
  intro T hT XX
  obtain ⟨v, st₀, t, T', L', e0, X', hL', e1, e2, ⟨ho, hheap⟩, goes⟩ := hr T hT XX
  cases ho
  have hH : T'.heap = H := by rw [e1, hheap, e0]
  have hl0 : L' = [] := by
    cases L' with
    | nil => rfl
    | cons q _ => exact (hL' q List.mem_cons_self).elim
  subst hl0
  rw [List.append_nil] at X'
  obtain ⟨t2, a1, b1⟩ := K H locs ls hI hl T' hH X'
  exact ⟨t2, goes t2 a1, b1⟩
end LAWCELL
/-- the room that is still needed -/
def un (x : cx) : Nat := (if x.2.2.2.1 = none then 1 else 0) + (if x.2.2.2.2 = none then 1 else 0)
def Rm (k n : Nat) (x : cx) : Prop := k + 29 * un x ≤ 600000 ∧ n + 94086 * un x ≤ 7302250
theorem Rm.le0 {k n : Nat} {x : cx} (h : Rm k n x) : k ≤ room_1.cells ∧ n ≤ room_1.slots := by
  unfold Rm at h
  refine ⟨?_, ?_⟩
  · show k ≤ 600000; omega
  · show n ≤ 7302250; omega
theorem Rm.best {k n : Nat} {x : cx} {sw : Bool} {s : Nat} (h : Rm k n x) (hx : x.2.2.2.1 = none) : Rm (k + 29) (n + 94086) (x.1, x.2.1, sw, some s, x.2.2.2.2) := by
  unfold Rm un at h ⊢
  rw [if_pos hx] at h
  have e : (if (some s : Option Nat) = none then 1 else 0) = 0 := if_neg (by simp)
  dsimp only at h ⊢
  rw [e]
  omega
theorem Rm.cheap {k n : Nat} {x : cx} {s : Nat} (h : Rm k n x) (hx : x.2.2.2.2 = none) : Rm (k + 29) (n + 94086) (x.1, x.2.1, x.2.2.1, x.2.2.2.1, some s) := by
  unfold Rm un at h ⊢
  rw [if_pos hx] at h
  have e : (if (some s : Option Nat) = none then 1 else 0) = 0 := if_neg (by simp)
  dsimp only at h ⊢
  rw [e]
  omega
abbrev lvL (b bl : Nat) (i : Int32) : List (Nat × Value) := [(3, .int i), (2, .ref (bl + 21)), (1, .ref bl), (0, .ref b)]
/-- behind a case -/
def zGo (X : zX) (b bl : Nat) (i : Int32) : Prop := ∀ (k n : Nat) (h : zH) (a : ast) (x : cx), LawI h bl a x → Rm k n x → Zt X 4 k n 744 (lvL b bl i) [] h
/-- five ints of a call -/
def zIn (i : Int32) (L : Nat) : Prop := vp_in (i + 1) L ∧ vp_in (i + 2) L ∧ vp_in (i + 3) L ∧ vp_in (i + 4) L ∧ vp_in (i + 5) L
theorem lg_self {r : Int64} : lg_cmp r r = 0 := by
  rw [iJ_of r]
  exact (lgc_0 (Int64.le_toInt r) (Int64.toInt_lt r) (Int64.le_toInt r) (Int64.toInt_lt r)).mpr rfl
