/-! the law's own rows: the script, and the call of cell -/
def zSc (X : zX) (b L : Nat) (xs : Nat → Int32) : Prop := va_X b L xs (x_s X) (x_H X) ∧ b < (x_H X).size ∧ ¬ x_A X b
section LAWROWS
variable {X : zX} {cc : ByteArray} {nL : Nat} {own : String} {rm : Room} {k n pc : Nat} {lv lv' : List (Nat × Value)} {st : List Value} {h : zH} {b L : Nat} {xs : Nat → Int32}
theorem z_sld (C : zB X cc nL own rm) (S : zSc X b L xs) {i : Int32} (hin : vp_in i L) (d : decode cc pc = .ok (.iaload, 1)) (K : Zt X nL k n (pc + 1) lv (.int (xs i.toNatClampNeg) :: st) h) : Zt X nL k n pc lv (.int i :: .ref b :: st) h :=
  fun H locs ls hI hl => va_sld C.1.1 C.1.2.1 S.1 S.2.1 S.2.2 hI.2.2 hin d (K H locs ls hI hl)
theorem z_slen (C : zB X cc nL own rm) (S : zSc X b L xs) (d : decode cc pc = .ok (.arraylength, 1)) (K : Zt X nL k n (pc + 1) lv (.int (Int32.ofNat L) :: st) h) : Zt X nL k n pc lv (.ref b :: st) h :=
  fun H locs ls hI hl => va_slen C.1.1 C.1.2.1 S.1 S.2.1 S.2.2 hI.2.2 d (K H locs ls hI hl)
end LAWROWS
/-- what cell answers -/
def cellv (L : Nat) (xs : Nat → Int32) (i : Nat) : Int32 := if L ≤ i then 0 else xs i
set_option maxHeartbeats 4000000 in
theorem c_cell (l : Launch) {b L : Nat} {xs : Nat → Int32} (hL : L ≤ 100000) {i : Nat} (hi : i ≤ 100000) : Met l y_Law_cell (Cond.code y_Law_cell method_2_code 2 (some .int) :: zws) rm_Law_cell (va_Pc [.ref b, .int (nI i)] (fun U => va_X b L xs U U.heap ∧ b < U.heap.size)) (fun _ st oc t => oc = .returned (some (.int (cellv L xs i))) ∧ t.heap = st.heap) 0 0 (fun _ => False) := by
  refine Met.ofW (cc := method_2_code) (maxL := 2) (ret := some .int) (by decide) rfl ?_
  intro p e s m args below meth c s₁ B hml hv
  obtain ⟨rfl, hX, hbl⟩ := hv
  have hx := B.exec
  have hb := B.bytes
  have hr := B.returns
  have hlocks := B.notSynchronized
  have hl := lv_entry ([.ref b, .int (nI i)]) (n := 2) (Nat.le_of_ble_eq_true rfl)
  rw [lg_entry_eq]
  generalize (lg_sl ([.ref b, .int (nI i)]) ++ List.replicate (2 - (lg_sl ([.ref b, .int (nI i)])).length) Slot.unset).toArray = ls at hl ⊢
  have hS : va_S (fun _ => False) s.heap s.heap [] := va_S.rf
  refine lv_iload_n hx hb d_Law_cell_0 rfl (lv_at hl 1 rfl) ?_
  refine lv_aload_n hx hb d_Law_cell_1 rfl (lv_at hl 0 rfl) ?_
  refine va_slen hx hb hX hbl (fun q => q) hS d_Law_cell_2 ?_
  have key : Int32.ofNat L ≤ nI i ↔ L ≤ i := Int32.ofNat_le_ofNat (by omega) (by omega)
  refine lv_icmp_ge (tgt := 12) hx hb d_Law_cell_3 (by decide) (fun q => ?_) (fun q => ?_)
  · refine lv_iconst (v := 0) hx hb d_Law_cell_12 (by decide) ?_
    have e : cellv L xs i = 0 := if_pos (key.mp q)
    rw [← e]
    exact W.iret hx hb hr (fun t ht _ => ⟨rfl, ht⟩) (fun _ q => by cases q) d_Law_cell_13 hlocks
  · have hlt : i < L := Nat.lt_of_not_le (fun z => q (key.mpr z))
    have hin : vp_in (nI i) L := vp_in_nI hlt (by omega)
    refine lv_aload_n hx hb d_Law_cell_6 rfl (lv_at hl 0 rfl) ?_
    refine lv_iload_n hx hb d_Law_cell_7 rfl (lv_at hl 1 rfl) ?_
    refine va_sld hx hb hX hbl (fun q => q) hS hin d_Law_cell_8 ?_
    refine lv_goto (tgt := 13) hx hb d_Law_cell_9 (by decide) ?_
    have e : cellv L xs i = xs (nI i).toNatClampNeg := by
      rw [nI_iI, iI_cl (by omega) (by omega)]
      exact if_neg (by omega)
    rw [← e]
    exact W.iret hx hb hr (fun t ht _ => ⟨rfl, ht⟩) (fun _ q => by cases q) d_Law_cell_13 hlocks
