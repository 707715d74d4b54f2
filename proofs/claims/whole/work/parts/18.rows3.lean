/-! rows that few methods need: a copy of longs, a table of jumps -/
section ZROWS3
variable {X : zX} {cc : ByteArray} {nL : Nat} {own : String} {rm : Room} {k n pc : Nat} {lv lv' : List (Nat × Value)} {st : List Value} {h : zH}
theorem z_nn {z : Int32} (hz : ¬ z < 0) : z.toInt = (z.toNatClampNeg : Int) := by
  have hz0 : (0 : Int) ≤ z.toInt := by
    have := Int32.not_lt.mp hz
    simpa using Int32.le_iff_toInt_le.mp this
  show z.toInt = ((z.toInt.toNat : Nat) : Int)
  omega
theorem z_cpJ (C : zB X cc nL own rm) {idx a b : Nat} {sp dp m : Int32} (hlink : Cond.methodLink own idx arraycopyName ∈ zws) (hnat : Cond.native arraycopyName ∈ zws) (hstat : Cond.static arraycopyName ∈ zws) (hini : Cond.initialized "java/lang/System" ∈ zws) (hfr : 1 ≤ rm.frames) (hlo : (st.map fun v => v.category).sum + (nativeFrameWords "java/lang/System" "arraycopy" 5 + 11) ≤ rm.locals) (d : decode cc pc = .ok (.invokestatic idx, 3)) {α : Type} {B : zH → Option α} {r : α} (hf : (zcpJ h a sp b dp m).bind B = some r)
    (K : ∀ h' : zH, B h' = some r → Zt X nL k n (pc + 3) lv st h') : Zt X nL k n pc lv (.int m :: .int dp :: .ref b :: .int sp :: .ref a :: st) h := by
  obtain ⟨h', hv, hr⟩ := Option.bind_eq_some_iff.mp hf
  unfold zcpJ at hv
  split at hv
  · rename_i n0 f n1 g he0 he1
    split at hv
    · rename_i hc; obtain ⟨h1, h2, h3, h4, h5⟩ := hc; cases hv
      intro H locs ls hI hl T hT XX
      obtain ⟨⟨hx, hb, hml, hown, hts⟩, hK, hTy, hRm, hA, hN⟩ := C
      obtain ⟨q0, t0, c0⟩ := hI.1.2 a _ he0
      obtain ⟨q1, t1, c1⟩ := hI.1.2 b _ he1
      cases t0.symm.trans t1
      have hty := z_ty hTy t0
      obtain ⟨cA, ty⟩ := q0
      cases hty
      obtain ⟨-, k0, hk0, cm0, hkk0⟩ := (hK.2 _ _ t0).1 n0 (fun j => .long (f j))
      obtain ⟨-, k1, hk1, cm1, hkk1⟩ := (hK.2 _ _ t1).1 n1 (fun j => .long (g j))
      obtain ⟨vm', X', step⟩ := XX.arraycopy hx hown (hts _ hlink) (hts _ hnat) (hts _ hstat) (hts _ hini) (src := a) (dst := b) (cs := vp_cell cA (n0, .inr (.inl f))) (cd := vp_cell cA (n1, .inr (.inl g))) (srcPos := sp) (destPos := dp) (n := m) (by rw [hT]; exact c0) (by rw [hT]; exact c1)
        (fun _ h => by cases h) (fun _ h => by cases h) (fun h => by cases h) (fun h => by cases h) hk0 hk1 hkk0 hkk1 (by simp [refKind]) h1 h2 h3
        (by rw [z_nn h1, z_nn h3]; show ¬ _ > ((arrV cA n0 (fun j => .long (f j))).slots.size : Int); rw [arrV_size]; omega)
        (by rw [z_nn h2, z_nn h3]; show ¬ _ > ((arrV cA n1 (fun j => .long (g j))).slots.size : Int); rw [arrV_size]; omega)
        (fun vm₁ _ i hi => by
          have e : (vp_cell cA (n0, .inr (.inl f))).slots.getD (sp.toNatClampNeg + i) .null = .long (f (sp.toNatClampNeg + i)) := by
            show (arrV cA n0 (fun j => .long (f j))).slots.getD _ _ = _
            rw [Array.getD_eq_getD_getElem?, arrV_read _ _ (by omega)]
            rfl
          refine ⟨?_, ?_⟩
          · rw [e]; rfl
          · rw [e]; exact trivial)
        (g := F0 (x_m X) pc ls (.int m :: .int dp :: .ref b :: .int sp :: .ref a :: st)) rfl (by rw [hml]; exact hl.1) (rest := st) rfl (by rw [hb]; exact d) (by rw [hRm]; exact hfr) (by rw [hRm]; show 2 * 0 + _ + _ ≤ _; omega)
      have e1 : copied (vp_cell cA (n0, .inr (.inl f))) (vp_cell cA (n1, .inr (.inl g))) sp dp m = vp_cell cA (n1, .inr (.inl (va_cpy f g sp.toNatClampNeg dp.toNatClampNeg m.toNatClampNeg))) := va_copied (fun z => .long z) cA cA f g h4
      rw [e1] at X' step
      have hlt : b < H.size := (Array.getElem?_eq_some_iff.mp c1).1
      have hheap : ((T.setVm vm').setCell b (vp_cell cA (n1, .inr (.inl (va_cpy f g sp.toNatClampNeg dp.toNatClampNeg m.toNatClampNeg))))).heap = H.setIfInBounds b (vp_cell cA (n1, .inr (.inl (va_cpy f g sp.toNatClampNeg dp.toNatClampNeg m.toNatClampNeg)))) := by rw [← hT]; rfl
      have oq : ∀ q : Nat, q ≠ b → (H.setIfInBounds b (vp_cell cA (n1, .inr (.inl (va_cpy f g sp.toNatClampNeg dp.toNatClampNeg m.toNatClampNeg)))))[q]? = H[q]? := fun q hq => by simp [Array.getElem?_setIfInBounds, Ne.symm hq]
      have hn : z_at (x_D X) zcl (x_T X) b (.inl (1, n1, .inr (.inl (va_cpy f g sp.toNatClampNeg dp.toNatClampNeg m.toNatClampNeg)))) (H.setIfInBounds b (vp_cell cA (n1, .inr (.inl (va_cpy f g sp.toNatClampNeg dp.toNatClampNeg m.toNatClampNeg))))) := ⟨_, t1, by simp [Array.getElem?_setIfInBounds, hlt]⟩
      have hI1 := zI_set (i := 0) hI he1 (by simp) oq hn
      refine (K _ hr _ _ ls ⟨hI1.1, hI1.2.1, hI1.2.2.1, hI1.2.2.2.1, fun q hq => ?_⟩ hl _ hheap X').elim (fun t ht => ⟨t, step t ht.1, ht.2⟩)
      rcases List.mem_append.mp hq with h | h
      · exact hI.2.2.2.2 q h
      · obtain ⟨z, -, hz⟩ := List.mem_map.mp h
        rw [← hz]
        exact zI_own hI he1
    · cases hv
  · cases hv
theorem z_tabIn (C : zB X cc nL own rm) {dflt lo hi : Int} {offs : Array Int} {len : Nat} {x : Int32} {off : Int} {tgt : Nat} (v : Int32) (w : Int) (d : decode cc pc = .ok (.tableswitch dflt lo hi offs, len)) (hx : x = v) (hw : v.toInt = w) (h1 : ¬ w < lo) (h2 : ¬ hi < w) (ho : offs[(w - lo).toNat]? = some off) (ht : (pc : Int) + off = (tgt : Int)) (K : Zt X nL k n tgt lv st h) : Zt X nL k n pc lv (.int x :: st) h := by
  subst hx; subst hw
  exact fun H locs ls hI hl => lv_tableIn C.1.1 C.1.2.1 d h1 h2 ho ht (K H locs ls hI hl)
theorem z_tabOut (C : zB X cc nL own rm) {dflt lo hi : Int} {offs : Array Int} {len : Nat} {x : Int32} {tgt : Nat} (d : decode cc pc = .ok (.tableswitch dflt lo hi offs, len)) (hx : x.toInt < lo ∨ hi < x.toInt) (ht : (pc : Int) + dflt = (tgt : Int)) (K : Zt X nL k n tgt lv st h) : Zt X nL k n pc lv (.int x :: st) h :=
  fun H locs ls hI hl => lv_tableOut C.1.1 C.1.2.1 d hx ht (K H locs ls hI hl)
theorem z_nev {x v : Int32} {w : Int} (h : ¬ x = v) (hw : v.toInt = w) : x.toInt ≠ w := fun e => h (Int32.toInt_inj.mp (e.trans hw.symm))
end ZROWS3
