/-! more of the w least; THE VALUES of all ways on from a place -/
theorem FW.shift {w : Nat} {S : Int → Prop} {L : List Int} (h : FW w S L) (d : Int) : FW w (fun z => ∃ y, S y ∧ z = y + d) (L.map (fun y => y + d)) := by
  refine ⟨?_, by simpa using h.2.1, fun z hz => ?_, fun z hz => ?_⟩
  · rw [List.pairwise_map]; exact h.1.imp (fun h => by omega)
  · obtain ⟨y, hy, rfl⟩ := List.mem_map.mp hz
    exact ⟨y, h.2.2.1 y hy, rfl⟩
  · obtain ⟨y, hy, rfl⟩ := hz
    rcases h.2.2.2 y hy with a | ⟨a, a2⟩
    · exact Or.inl (List.mem_map.mpr ⟨y, a, rfl⟩)
    · refine Or.inr ⟨by simpa using a, fun q hq => ?_⟩
      obtain ⟨r, hr, rfl⟩ := List.mem_map.mp hq
      have := a2 r hr; omega
/-- numbers are put, one behind another -/
def putL (w : Nat) (L : List Int) : List Int → List Int
  | [] => L
  | x :: t => putL w ((insr x L).take w) t
theorem FW.putAll {w : Nat} {S : Int → Prop} {L : List Int} (h : FW w S L) (M : List Int) : FW w (fun z => S z ∨ z ∈ M) (putL w L M) := by
  induction M generalizing S L with
  | nil => exact h.congr (fun x => by simp)
  | cons x t ih => exact (ih (h.put x)).congr (fun z => by simp [or_assoc])
/-- the least of two sets, by the least of each -/
theorem FW.union {w : Nat} {S S2 : Int → Prop} {L L2 : List Int} (h : FW w S L) (h2 : FW w S2 L2) : FW w (fun z => S z ∨ S2 z) (putL w L L2) := by
  have R := h.putAll L2
  refine ⟨R.1, R.2.1, fun x hx => ?_, fun x hx => ?_⟩
  · rcases R.2.2.1 x hx with a | a
    · exact Or.inl a
    · exact Or.inr (h2.2.2.1 x a)
  · rcases hx with a | a
    · exact R.2.2.2 x (Or.inl a)
    · rcases h2.2.2.2 x a with b | ⟨b, b2⟩
      · exact R.2.2.2 x (Or.inr b)
      · have hnd : L2.Nodup := h2.1.imp (fun h => by omega)
        have hfull : (putL w L L2).length = w := by
          rcases Nat.lt_or_ge (putL w L L2).length w with q | q
          · exfalso
            have : L2 ⊆ putL w L L2 := fun y hy => by
              rcases R.2.2.2 y (Or.inr hy) with e | e
              · exact e
              · omega
            have := List.Nodup.length_le_of_subset hnd this
            omega
          · exact Nat.le_antisymm R.2.1 q
        refine Or.inr ⟨hfull, fun r hr => ?_⟩
        rcases Int.lt_or_le r x with q | q
        · exact q
        · exfalso
          have hsub : (r :: L2) ⊆ putL w L L2 := by
            intro y hy
            rcases List.mem_cons.mp hy with e | e
            · subst e; exact hr
            · rcases R.2.2.2 y (Or.inr e) with f | ⟨-, f⟩
              · exact f
              · have := f r hr; have := b2 y e; omega
          have hnd2 : (r :: L2).Nodup := List.nodup_cons.mpr ⟨fun hm => by have := b2 r hm; omega, hnd⟩
          have := List.Nodup.length_le_of_subset hnd2 hsub
          simp at this
          omega
/-- the last place -/
def nn (c : cfg) : Nat := (c.1 0).toNat
/-- a span is clear of the ground at a place -/
def c_clear (c : cfg) (k p : Nat) (l : Int) : Bool := if c.2 8 k = 0 then decide (c.2 1 p ≤ l) else decide (l ≤ c.2 1 p)
/-- span k may be used from a level with a slope -/
def c_use (c : cfg) (k : Nat) (l s : Int) : Bool := (List.range (c.2 7 k - c.2 6 k).toNat).all fun j =>
  c_ok c ((c.2 6 k).toNat + (j + 1)) (l + s * (j + 1)) && (decide ((j : Int) + 1 = c.2 7 k - c.2 6 k) || c_clear c k ((c.2 6 k).toNat + (j + 1)) (l + s * (j + 1)))
/-- the values of the ways on, by a number above that of the places to come -/
def vS (c : cfg) (cu su : Int) : Nat → Nat → Int → Int → Int → Prop
  | 0, _, _, _, x => x = 0
  | r + 1, p, l, g, x => if nn c ≤ p then x = 0 else ∃ s : Int, c_fol c s g = true ∧
      ((c_ok c (p + 1) (l + s) = true ∧ ∃ y, vS c cu su r (p + 1) (l + s) (s + 24) y ∧ x = y + (cu * c_pc c (p + 1) (l + s) + su * (s.natAbs : Int))) ∨
       ∃ k : Nat, ((k : Int) < c.1 10 ∧ c.2 6 k = p ∧ (p : Int) < c.2 7 k) ∧ c_use c k l s = true ∧ ∃ y, vS c cu su r (c.2 7 k).toNat (l + (c.2 7 k - p) * s) (s + 24) y ∧ x = y + (cu * (c_pc c (c.2 7 k).toNat (l + (c.2 7 k - p) * s) + c.2 9 k) + su * ((c.2 7 k - p) * (s.natAbs : Int))))
theorem vS_fuel {c : cfg} {cu su : Int} : ∀ (r r' p : Nat) (l g x : Int), nn c ≤ p + r → nn c ≤ p + r' → (vS c cu su r p l g x ↔ vS c cu su r' p l g x) := by
  intro r
  induction r with
  | zero =>
    intro r' p l g x h1 h2
    cases r' with
    | zero => exact Iff.rfl
    | succ r' => simp only [vS]; rw [if_pos (by omega)]
  | succ r ih =>
    intro r' p l g x h1 h2
    cases r' with
    | zero => simp only [vS]; rw [if_pos (by omega)]
    | succ r' =>
      simp only [vS]
      by_cases hp : nn c ≤ p
      · rw [if_pos hp, if_pos hp]
      · rw [if_neg hp, if_neg hp]
        have key : ∀ (q : Nat) (l' g' y : Int), p < q → (vS c cu su r q l' g' y ↔ vS c cu su r' q l' g' y) := fun q l' g' y hq => ih r' q l' g' y (by omega) (by omega)
        constructor
        · rintro ⟨s, hs, ⟨o1, y, o2, o3⟩ | ⟨k, k1, k3, y, k4, k5⟩⟩
          · exact ⟨s, hs, Or.inl ⟨o1, y, (key _ _ _ _ (by omega)).mp o2, o3⟩⟩
          · exact ⟨s, hs, Or.inr ⟨k, k1, k3, y, (key _ _ _ _ (by omega)).mp k4, k5⟩⟩
        · rintro ⟨s, hs, ⟨o1, y, o2, o3⟩ | ⟨k, k1, k3, y, k4, k5⟩⟩
          · exact ⟨s, hs, Or.inl ⟨o1, y, (key _ _ _ _ (by omega)).mpr o2, o3⟩⟩
          · exact ⟨s, hs, Or.inr ⟨k, k1, k3, y, (key _ _ _ _ (by omega)).mpr k4, k5⟩⟩
/-- THE VALUES of all ways on from place p at level l, behind the slope of number g -/
def SV (c : cfg) (cu su : Int) (p : Nat) (l g x : Int) : Prop := vS c cu su (nn c - p) p l g x
/-- .. that go on with a step of slope s -/
def SVa (c : cfg) (cu su : Int) (p : Nat) (l s x : Int) : Prop := c_ok c (p + 1) (l + s) = true ∧ ∃ y, SV c cu su (p + 1) (l + s) (s + 24) y ∧ x = y + (cu * c_pc c (p + 1) (l + s) + su * (s.natAbs : Int))
/-- .. that go on with span k of slope s -/
def SVk (c : cfg) (cu su : Int) (k p : Nat) (l s x : Int) : Prop := c_use c k l s = true ∧ ∃ y, SV c cu su (c.2 7 k).toNat (l + (c.2 7 k - p) * s) (s + 24) y ∧ x = y + (cu * (c_pc c (c.2 7 k).toNat (l + (c.2 7 k - p) * s) + c.2 9 k) + su * ((c.2 7 k - p) * (s.natAbs : Int)))
/-- span k begins at p -/
def c_at (c : cfg) (k p : Nat) : Prop := (k : Int) < c.1 10 ∧ c.2 6 k = p ∧ (p : Int) < c.2 7 k
theorem SV_n {c : cfg} {cu su : Int} {p : Nat} {l g x : Int} (hp : nn c ≤ p) : SV c cu su p l g x ↔ x = 0 := by
  unfold SV
  rw [show nn c - p = 0 by omega]
  exact Iff.rfl
theorem SV_s {c : cfg} {cu su : Int} {p : Nat} {l g x : Int} (hp : p < nn c) : SV c cu su p l g x ↔ ∃ s : Int, c_fol c s g = true ∧ (SVa c cu su p l s x ∨ ∃ k : Nat, c_at c k p ∧ SVk c cu su k p l s x) := by
  unfold SV
  rw [show nn c - p = (nn c - (p + 1)) + 1 by omega]
  simp only [vS]
  rw [if_neg (by omega)]
  have key : ∀ (q : Nat) (l' g' y : Int), p < q → (vS c cu su (nn c - (p + 1)) q l' g' y ↔ SV c cu su q l' g' y) := fun q l' g' y hq => vS_fuel _ _ q l' g' y (by omega) (by omega)
  constructor
  · rintro ⟨s, hs, ⟨o1, y, o2, o3⟩ | ⟨k, k1, k3, y, k4, k5⟩⟩
    · exact ⟨s, hs, Or.inl ⟨o1, y, (key _ _ _ _ (by omega)).mp o2, o3⟩⟩
    · exact ⟨s, hs, Or.inr ⟨k, k1, k3, y, (key _ _ _ _ (by omega)).mp k4, k5⟩⟩
  · rintro ⟨s, hs, ⟨o1, y, o2, o3⟩ | ⟨k, k1, k3, y, k4, k5⟩⟩
    · exact ⟨s, hs, Or.inl ⟨o1, y, (key _ _ _ _ (by omega)).mpr o2, o3⟩⟩
    · exact ⟨s, hs, Or.inr ⟨k, k1, k3, y, (key _ _ _ _ (by have := k1.2.2; omega)).mpr k4, k5⟩⟩
