/-! THE w LEAST OF A SET, as a rising list -/
def FW (w : Nat) (S : Int → Prop) (L : List Int) : Prop := L.Pairwise (· < ·) ∧ L.length ≤ w ∧ (∀ x ∈ L, S x) ∧ ∀ x, S x → x ∈ L ∨ (L.length = w ∧ ∀ y ∈ L, y < x)
theorem FW.congr {w : Nat} {S S' : Int → Prop} {L : List Int} (h : FW w S L) (e : ∀ x, S x ↔ S' x) : FW w S' L :=
  ⟨h.1, h.2.1, fun x hx => (e x).mp (h.2.2.1 x hx), fun x hx => h.2.2.2 x ((e x).mpr hx)⟩
theorem FW.nil {w : Nat} : FW w (fun _ => False) [] := ⟨List.Pairwise.nil, Nat.zero_le _, fun x hx => absurd hx List.not_mem_nil, fun x hx => hx.elim⟩
/-- two rising lists with the same members are the same -/
theorem rising_eq {L L' : List Int} (h : L.Pairwise (· < ·)) (h' : L'.Pairwise (· < ·)) (e : ∀ x, x ∈ L ↔ x ∈ L') : L = L' := by
  induction L generalizing L' with
  | nil =>
    cases L' with
    | nil => rfl
    | cons y t => exact absurd ((e y).mpr List.mem_cons_self) List.not_mem_nil
  | cons x t ih =>
    cases L' with
    | nil => exact absurd ((e x).mp List.mem_cons_self) List.not_mem_nil
    | cons y t' =>
      obtain ⟨h1, h2⟩ := List.pairwise_cons.mp h
      obtain ⟨h1', h2'⟩ := List.pairwise_cons.mp h'
      have hxy : x = y := by
        rcases List.mem_cons.mp ((e x).mp List.mem_cons_self) with a | a
        · exact a
        · rcases List.mem_cons.mp ((e y).mpr List.mem_cons_self) with c | c
          · exact c.symm
          · have := h1' x a; have := h1 y c; omega
      subst hxy
      congr 1
      refine ih h2 h2' (fun z => ?_)
      constructor
      · intro hz
        rcases List.mem_cons.mp ((e z).mp (List.mem_cons_of_mem _ hz)) with a | a
        · subst a; exact absurd (h1 z hz) (by omega)
        · exact a
      · intro hz
        rcases List.mem_cons.mp ((e z).mpr (List.mem_cons_of_mem _ hz)) with a | a
        · subst a; exact absurd (h1' z hz) (by omega)
        · exact a
/-- a rising list's greatest -/
theorem FW.sub {w : Nat} {S : Int → Prop} {L L' : List Int} (h : FW w S L) (h' : FW w S L') : ∀ x ∈ L, x ∈ L' := by
  intro x hx
  rcases h'.2.2.2 x (h.2.2.1 x hx) with a | ⟨hl, hy⟩
  · exact a
  · -- L' is full and all of it is below x; then all of L' is in L, beside x: too many
    exfalso
    have hsub : ∀ y ∈ L', y ∈ L := by
      intro y hy'
      rcases h.2.2.2 y (h'.2.2.1 y hy') with a | ⟨-, hz⟩
      · exact a
      · have := hz x hx; have := hy y hy'; omega
    have hnd : (x :: L').Nodup := List.nodup_cons.mpr ⟨fun hm => by have := hy x hm; omega, h'.1.imp (fun h => by omega)⟩
    have hle : (x :: L').length ≤ L.length := by
      refine List.Nodup.length_le_of_subset hnd ?_
      intro z hz
      rcases List.mem_cons.mp hz with a | a
      · subst a; exact hx
      · exact hsub z a
    have := h.2.1
    simp at hle
    omega
theorem FW.eq {w : Nat} {S : Int → Prop} {L L' : List Int} (h : FW w S L) (h' : FW w S L') : L = L' :=
  rising_eq h.1 h'.1 (fun x => ⟨h.sub h' x, h'.sub h x⟩)
/-- a number is put into a rising list, once -/
def insr (x : Int) : List Int → List Int
  | [] => [x]
  | y :: t => if x < y then x :: y :: t else if x = y then y :: t else y :: insr x t
theorem insr_mem (x : Int) (L : List Int) : ∀ z, z ∈ insr x L ↔ z = x ∨ z ∈ L := by
  induction L with
  | nil => intro z; simp [insr]
  | cons y t ih =>
    intro z
    unfold insr
    by_cases a : x < y
    · rw [if_pos a]; simp
    · rw [if_neg a]
      by_cases a2 : x = y
      · rw [if_pos a2]; subst a2; simp
      · rw [if_neg a2]
        simp only [List.mem_cons, ih z]
        constructor
        · rintro (h | h | h)
          · exact Or.inr (Or.inl h)
          · exact Or.inl h
          · exact Or.inr (Or.inr h)
        · rintro (h | h | h)
          · exact Or.inr (Or.inl h)
          · exact Or.inl h
          · exact Or.inr (Or.inr h)
theorem insr_rising (x : Int) {L : List Int} (h : L.Pairwise (· < ·)) : (insr x L).Pairwise (· < ·) := by
  induction L with
  | nil => simp [insr]
  | cons y t ih =>
    obtain ⟨h1, h2⟩ := List.pairwise_cons.mp h
    unfold insr
    by_cases a : x < y
    · rw [if_pos a]
      refine List.pairwise_cons.mpr ⟨fun z hz => ?_, h⟩
      rcases List.mem_cons.mp hz with e | e
      · omega
      · have := h1 z e; omega
    · rw [if_neg a]
      by_cases a2 : x = y
      · rw [if_pos a2]; exact h
      · rw [if_neg a2]
        refine List.pairwise_cons.mpr ⟨fun z hz => ?_, ih h2⟩
        rcases (insr_mem x t z).mp hz with e | e
        · omega
        · exact h1 z e
/-- the first w of a rising list that holds the w least -/
theorem FW.put {w : Nat} {S : Int → Prop} {L : List Int} (h : FW w S L) (x : Int) : FW w (fun z => S z ∨ z = x) ((insr x L).take w) := by
  have hr := insr_rising x h.1
  refine ⟨hr.sublist (List.take_sublist _ _), by simp; omega, fun z hz => ?_, fun z hz => ?_⟩
  · rcases (insr_mem x L z).mp (List.mem_of_mem_take hz) with e | e
    · exact Or.inr e
    · exact Or.inl (h.2.2.1 z e)
  · by_cases hm : z ∈ (insr x L).take w
    · exact Or.inl hm
    · refine Or.inr ?_
      have hin : z ∈ insr x L ∨ (L.length = w ∧ ∀ y ∈ L, y < z) := by
        rcases hz with hz | hz
        · rcases h.2.2.2 z hz with a | a
          · exact Or.inl ((insr_mem x L z).mpr (Or.inr a))
          · exact Or.inr a
        · exact Or.inl ((insr_mem x L z).mpr (Or.inl hz))
      rcases hin with hin | ⟨hl, hy⟩
      · -- z is in the list, but behind the first w
        have hsplit : insr x L = (insr x L).take w ++ (insr x L).drop w := (List.take_append_drop w _).symm
        have hzd : z ∈ (insr x L).drop w := by
          rw [hsplit] at hin
          rcases List.mem_append.mp hin with a | a
          · exact absurd a hm
          · exact a
        have hlen : w < (insr x L).length := by
          rcases Nat.lt_or_ge w (insr x L).length with a | a
          · exact a
          · rw [List.drop_eq_nil_of_le a] at hzd; exact absurd hzd List.not_mem_nil
        refine ⟨by simp; omega, fun y hyt => ?_⟩
        rw [hsplit, List.pairwise_append] at hr
        exact hr.2.2 y hyt z hzd
      · refine ⟨?_, fun y hyt => ?_⟩
        · have : w ≤ (insr x L).length := by
            rw [← hl]
            have hsub : ∀ q ∈ L, q ∈ insr x L := fun q hq => (insr_mem x L q).mpr (Or.inr hq)
            exact List.Nodup.length_le_of_subset (h.1.imp (fun h => by omega)) hsub
          simp; omega
        · rcases (insr_mem x L y).mp (List.mem_of_mem_take hyt) with e | e
          · -- y = x stands within the first w; z is not there
            rcases hz with hz | hz
            · subst e
              rcases Int.lt_trichotomy y z with a | a | a
              · exact a
              · subst a; exact absurd hyt hm
              · exfalso
                -- all of L is below z, so below y = x: then y comes behind all w of them
                have hall : ∀ q ∈ L, q < y := fun q hq => by have := hy q hq; omega
                have heq : insr y L = L ++ [y] := by
                  refine rising_eq (insr_rising y h.1) ?_ (fun q => by rw [insr_mem]; simp [or_comm])
                  rw [List.pairwise_append]
                  exact ⟨h.1, by simp, fun q hq r hr => by rw [List.mem_singleton.mp hr]; exact hall q hq⟩
                rw [heq, List.take_append_of_le_length (by omega), List.take_of_length_le (by omega)] at hyt
                exact absurd (hall y hyt) (by omega)
            · subst hz; subst e; exact absurd hyt hm
          · exact hy y e
