/-! BLOCKS: a run of cells of the pure heap with a fixed layout; what a program reads and writes there -/
/-- a block's numbers: ints, longs, references into the block, references anywhere; by cell, and by field or place -/
abbrev zS : Type := (Nat → Nat → Int32) × (Nat → Nat → Int64) × (Nat → Nat → Nat) × (Nat → Nat → Option Nat)
/-- a cell's layout: an object (class, kinds of its fields: 0 int, 1 long, 2 reference into the block, 3 a reference or null) or an array (kind, length) -/
abbrev zL : Type := (Nat × List Nat) ⊕ (Nat × Nat)
def bval (b : Nat) (σ : zS) (i k kd : Nat) : Value := if kd = 0 then .int (σ.1 i k) else if kd = 1 then .long (σ.2.1 i k) else if kd = 2 then .ref (b + σ.2.2.1 i k) else va_rf (σ.2.2.2 i k)
def bcell (b : Nat) (σ : zS) (i : Nat) (y : zL) : zE := match y with
  | .inl o => .inr (o.1, (List.range o.2.length).map fun k => bval b σ i k (o.2.getD k 9))
  | .inr a => .inl (a.1, a.2, if a.1 = 1 then .inr (.inl (σ.2.1 i)) else if a.1 = 3 then .inr (.inr (.inr (.inr (fun j => if j < a.2 then some (b + σ.2.2.1 i j) else none)))) else .inl (σ.1 i))
def BH (h : zH) (b n : Nat) (lay : Nat → zL) (σ : zS) : zH := (fun q => if b ≤ q ∧ q < b + n then some (bcell b σ (q - b) (lay (q - b))) else h.1 q, h.2)
theorem bh_at {h : zH} {b n : Nat} {lay : Nat → zL} {σ : zS} {i : Nat} (hi : i < n) : (BH h b n lay σ).1 (b + i) = some (bcell b σ i (lay i)) := by
  show (if b ≤ b + i ∧ b + i < b + n then some (bcell b σ (b + i - b) (lay (b + i - b))) else h.1 (b + i)) = _
  rw [if_pos (by omega), show b + i - b = i by omega]
theorem bh_out {h : zH} {b n : Nat} {lay : Nat → zL} {σ : zS} {q : Nat} (hq : q < b ∨ b + n ≤ q) : (BH h b n lay σ).1 q = h.1 q := if_neg (by omega)
theorem bh_nx {h : zH} {b n : Nat} {lay : Nat → zL} {σ : zS} : (BH h b n lay σ).2 = h.2 := rfl
/-- one number changed -/
def u2 {α : Type} (f : Nat → Nat → α) (i k : Nat) (v : α) : Nat → Nat → α := fun a c => if a = i ∧ c = k then v else f a c
theorem u2_s {α : Type} {f : Nat → Nat → α} {i k : Nat} {v : α} : u2 f i k v i k = v := if_pos ⟨rfl, rfl⟩
theorem u2_n {α : Type} {f : Nat → Nat → α} {i k a c : Nat} {v : α} (h : a ≠ i ∨ c ≠ k) : u2 f i k v a c = f a c := if_neg (by omega)
section BLOCK
variable {h : zH} {b n : Nat} {lay : Nat → zL} {σ : zS} {i c k : Nat} {ks : List Nat}
theorem bf_at (hl : lay i = .inl (c, ks)) (hi : i < n) : (BH h b n lay σ).1 (b + i) = some (.inr (c, (List.range ks.length).map fun k => bval b σ i k (ks.getD k 9))) := by
  rw [bh_at hi, hl]; rfl
theorem bf_k {d : Nat} (hk : ks[k]? = some d) : ((List.range ks.length).map fun k => bval b σ i k (ks.getD k 9))[k]? = some (bval b σ i k d) := by
  have hl : k < ks.length := (List.getElem?_eq_some_iff.mp hk).1
  rw [List.getElem?_map, List.getElem?_range hl]
  show some (bval b σ i k (ks.getD k 9)) = _
  rw [List.getD_eq_getElem?_getD, hk]; rfl
theorem bg_I (hl : lay i = .inl (c, ks)) (hi : i < n) (hk : ks[k]? = some 0) : zgI (BH h b n lay σ) (b + i) c k = some (σ.1 i k) := by
  unfold zgI
  rw [bf_at hl hi]
  simp only [if_true]
  rw [bf_k hk]; rfl
theorem bg_J (hl : lay i = .inl (c, ks)) (hi : i < n) (hk : ks[k]? = some 1) : zgJ (BH h b n lay σ) (b + i) c k = some (σ.2.1 i k) := by
  unfold zgJ
  rw [bf_at hl hi]
  simp only [if_true]
  rw [bf_k hk]; rfl
theorem bg_R (hl : lay i = .inl (c, ks)) (hi : i < n) (hk : ks[k]? = some 2) : zgR (BH h b n lay σ) (b + i) c k = some (b + σ.2.2.1 i k) := by
  unfold zgR
  rw [bf_at hl hi]
  simp only [if_true]
  rw [bf_k hk]; rfl
theorem bg_is (hl : lay i = .inl (c, ks)) (hi : i < n) : zis (BH h b n lay σ) (b + i) c = true := by
  unfold zis
  rw [bf_at hl hi]
  simp
theorem bh_ext {h1 h2 : zH} (e1 : ∀ q, h1.1 q = h2.1 q) (e2 : h1.2 = h2.2) : h1 = h2 := Prod.ext (funext e1) e2
theorem bh_set {e : zE} {σ' : zS} (hi : i < n) (he : e = bcell b σ' i (lay i)) (ho : ∀ j, j ≠ i → j < n → bcell b σ' j (lay j) = bcell b σ j (lay j)) : z_set (BH h b n lay σ) (b + i) e = BH h b n lay σ' := by
  refine bh_ext (fun q => ?_) rfl
  show (if q = b + i then some e else (BH h b n lay σ).1 q) = (BH h b n lay σ').1 q
  by_cases hq : q = b + i
  · subst hq; rw [if_pos rfl, bh_at hi, he]
  · rw [if_neg hq]
    by_cases hin : b ≤ q ∧ q < b + n
    · obtain ⟨j, rfl⟩ : ∃ j, q = b + j := ⟨q - b, by omega⟩
      rw [bh_at (by omega), bh_at (by omega), ho j (by omega) (by omega)]
    · rw [bh_out (by omega), bh_out (by omega)]
theorem bcell_cI {b : Nat} {σ : zS} {i k j : Nat} {v : Int32} {y : zL} (hj : j ≠ i) : bcell b (u2 σ.1 i k v, σ.2) j y = bcell b σ j y := by
  have e : ∀ c, u2 σ.1 i k v j c = σ.1 j c := fun c => u2_n (Or.inl hj)
  cases y with
  | inl o =>
    show (Sum.inr (o.1, _) : zE) = Sum.inr (o.1, _)
    congr 2
    refine List.map_congr_left (fun q _ => ?_)
    simp only [bval, e]
  | inr a =>
    have e' : u2 σ.1 i k v j = σ.1 j := funext e
    simp only [bcell, e']
theorem bcell_cJ {b : Nat} {σ : zS} {i k j : Nat} {v : Int64} {y : zL} (hj : j ≠ i) : bcell b (σ.1, u2 σ.2.1 i k v, σ.2.2) j y = bcell b σ j y := by
  have e : ∀ c, u2 σ.2.1 i k v j c = σ.2.1 j c := fun c => u2_n (Or.inl hj)
  cases y with
  | inl o =>
    show (Sum.inr (o.1, _) : zE) = Sum.inr (o.1, _)
    congr 2
    refine List.map_congr_left (fun q _ => ?_)
    simp only [bval, e]
  | inr a =>
    have e' : u2 σ.2.1 i k v j = σ.2.1 j := funext e
    simp only [bcell, e']
theorem bf_set {d : Nat} {σ' : zS} {v : Value} (hk : ks[k]? = some d) (hv : bval b σ' i k d = v) (ho : ∀ q, q ≠ k → ∀ d, bval b σ' i q d = bval b σ i q d) : ((List.range ks.length).map fun k => bval b σ i k (ks.getD k 9)).set k v = (List.range ks.length).map fun k => bval b σ' i k (ks.getD k 9) := by
  have hl : k < ks.length := (List.getElem?_eq_some_iff.mp hk).1
  refine List.ext_getElem? (fun q => ?_)
  rw [List.getElem?_set, List.getElem?_map, List.getElem?_map]
  by_cases hq : k = q
  · subst hq
    rw [if_pos rfl, List.length_map, List.length_range, if_pos hl, List.getElem?_range hl]
    show some v = some (bval b σ' i k (ks.getD k 9))
    rw [List.getD_eq_getElem?_getD, hk, ← hv]; rfl
  · rw [if_neg hq]
    by_cases hq2 : q < ks.length
    · rw [List.getElem?_range hq2]
      exact congrArg some (ho q (fun e => hq e.symm) _).symm
    · rw [List.getElem?_eq_none (by simpa using hq2)]; rfl
theorem bp_I (v : Int32) (hl : lay i = .inl (c, ks)) (hi : i < n) (hk : ks[k]? = some 0) : zp (BH h b n lay σ) (b + i) c k (.int v) = some (BH h b n lay (u2 σ.1 i k v, σ.2)) := by
  have hlt : k < ks.length := (List.getElem?_eq_some_iff.mp hk).1
  unfold zp
  rw [bf_at hl hi]
  simp only [true_and, List.length_map, List.length_range, hlt, if_true]
  congr 1
  refine bh_set hi ?_ (fun j hj _ => bcell_cI hj)
  rw [hl]
  show (Sum.inr (c, _) : zE) = Sum.inr (c, _)
  congr 2
  refine bf_set hk (by simp [bval, u2]) (fun q hq d => ?_)
  simp [bval, u2, hq]
theorem bp_J (v : Int64) (hl : lay i = .inl (c, ks)) (hi : i < n) (hk : ks[k]? = some 1) : zp (BH h b n lay σ) (b + i) c k (.long v) = some (BH h b n lay (σ.1, u2 σ.2.1 i k v, σ.2.2)) := by
  have hlt : k < ks.length := (List.getElem?_eq_some_iff.mp hk).1
  unfold zp
  rw [bf_at hl hi]
  simp only [true_and, List.length_map, List.length_range, hlt, if_true]
  congr 1
  refine bh_set hi ?_ (fun j hj _ => bcell_cJ hj)
  rw [hl]
  show (Sum.inr (c, _) : zE) = Sum.inr (c, _)
  congr 2
  refine bf_set hk (by simp [bval, u2]) (fun q hq d => ?_)
  simp [bval, u2, hq]
/-- arrays -/
theorem ba_I {t len : Nat} {x : Int32} (hl : lay i = .inr (t, len)) (hi : i < n) (ht : t ≠ 1 ∧ t ≠ 3) (hx : vp_in x len) : zaI (BH h b n lay σ) t (b + i) x = some (σ.1 i x.toNatClampNeg) := by
  unfold zaI
  rw [bh_at hi, hl]
  simp only [bcell, if_neg ht.1, if_neg ht.2]
  rw [if_pos ⟨trivial, hx⟩]
theorem ba_J {len : Nat} {x : Int32} (hl : lay i = .inr (1, len)) (hi : i < n) (hx : vp_in x len) : zaJ (BH h b n lay σ) 1 (b + i) x = some (σ.2.1 i x.toNatClampNeg) := by
  unfold zaJ
  rw [bh_at hi, hl]
  simp only [bcell, if_true]
  rw [if_pos ⟨trivial, hx⟩]
theorem bs_I {t len : Nat} {x v : Int32} (hl : lay i = .inr (t, len)) (hi : i < n) (ht : t ≠ 1 ∧ t ≠ 3) (hx : vp_in x len) : zsI (BH h b n lay σ) t (b + i) x v = some (BH h b n lay (u2 σ.1 i x.toNatClampNeg v, σ.2)) := by
  unfold zsI
  rw [bh_at hi, hl]
  simp only [bcell, if_neg ht.1, if_neg ht.2]
  rw [if_pos ⟨trivial, hx⟩]
  congr 1
  refine bh_set hi ?_ (fun j hj _ => bcell_cI hj)
  rw [hl]
  simp only [bcell, if_neg ht.1, if_neg ht.2]
  congr 4
  funext q
  simp [upd, u2]
theorem bs_J {len : Nat} {x : Int32} {v : Int64} (hl : lay i = .inr (1, len)) (hi : i < n) (hx : vp_in x len) : zsJ (BH h b n lay σ) 1 (b + i) x v = some (BH h b n lay (σ.1, u2 σ.2.1 i x.toNatClampNeg v, σ.2.2)) := by
  unfold zsJ
  rw [bh_at hi, hl]
  simp only [bcell, if_true]
  rw [if_pos ⟨trivial, hx⟩]
  congr 1
  refine bh_set hi ?_ (fun j hj _ => bcell_cJ hj)
  rw [hl]
  simp only [bcell, if_true]
  congr 5
  funext q
  simp [vp_updL, u2]
theorem ba_len {t len : Nat} (hl : lay i = .inr (t, len)) (hi : i < n) : zlen (BH h b n lay σ) t (b + i) = some (Int32.ofNat len) := by
  unfold zlen
  rw [bh_at hi, hl]
  simp [bcell]
/-- two blocks apart change places -/
theorem bh_comm {b2 n2 : Nat} {lay2 : Nat → zL} {σ2 : zS} (hd : b + n ≤ b2 ∨ b2 + n2 ≤ b) : BH (BH h b n lay σ) b2 n2 lay2 σ2 = BH (BH h b2 n2 lay2 σ2) b n lay σ := by
  refine bh_ext (fun q => ?_) rfl
  show (if b2 ≤ q ∧ q < b2 + n2 then _ else if b ≤ q ∧ q < b + n then _ else h.1 q) = (if b ≤ q ∧ q < b + n then _ else if b2 ≤ q ∧ q < b2 + n2 then _ else h.1 q)
  by_cases h1 : b2 ≤ q ∧ q < b2 + n2
  · rw [if_pos h1, if_neg (by omega), if_pos h1]
  · rw [if_neg h1]
    by_cases h2 : b ≤ q ∧ q < b + n
    · rw [if_pos h2, if_pos h2]
    · rw [if_neg h2, if_neg h2, if_neg h1]
end BLOCK
