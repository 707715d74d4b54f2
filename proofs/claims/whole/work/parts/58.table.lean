/-! WHAT HOLDS OF A TABLE (the best way from place 0) -/
def Tab (c : cfg) (L K : Nat → Int) (uf : Nat) (cost : Int) : Prop := ∃ q : Int × Int, cost = q.1 ∧ FLs c (c.1 1 + 1) (some q) (L 0) ∧ Wa c L K uf (nn c) 0 (L 0) 49 0
theorem FLs.uniq {c : cfg} {M : Int} {o o' : Option (Int × Int)} {f f' : Int} (h : FLs c M o f) (h' : FLs c M o' f') : f = f' ∧ (∀ q q', o = some q → o' = some q' → 1024 * q.1 + q.2 = 1024 * q'.1 + q'.2) := by
  have key : ∀ q q', o = some q → o' = some q' → 1024 * q.1 + q.2 = 1024 * q'.1 + q'.2 := by
    rintro q q' rfl rfl
    have a := h.1.2.2 _ h'.1.2.1
    have a' := h'.1.2.2 _ h.1.2.1
    omega
  refine ⟨?_, key⟩
  cases o with
  | none =>
    cases o' with
    | none => rw [h.2.1 rfl, h'.2.1 rfl]
    | some q' => exact absurd h'.1.2.1 (h.1 _)
  | some q =>
    cases o' with
    | none => exact absurd h.1.2.1 (h'.1 _)
    | some q' =>
      have e := key q q' rfl rfl
      obtain ⟨a1, a2, a3⟩ := h.2.2 q rfl
      obtain ⟨b1, b2, b3⟩ := h'.2.2 q' rfl
      rcases Int.lt_trichotomy f f' with z | z | z
      · have := b3 f a1.1 z _ a2; omega
      · exact z
      · have := a3 f' b1.1 z _ b2; omega
theorem Tab.uniq {c : cfg} (hc : cOK c) {L K L' K' : Nat → Int} {uf uf' : Nat} {cost cost' : Int} (h : Tab c L K uf cost) (h' : Tab c L' K' uf' cost') : uf = uf' ∧ cost = cost' ∧ (∀ q, q ≤ nn c → L q = L' q) ∧ ∀ q, q < nn c → K q = K' q := by
  obtain ⟨n1, n2, n3⟩ := nn_r hc
  obtain ⟨q, e, h1, h2⟩ := h
  obtain ⟨q', e', h1', h2'⟩ := h'
  obtain ⟨f1, f2⟩ := h1.uniq h1'
  have f3 := f2 q q' rfl rfl
  obtain ⟨⟨⟨a1, a2⟩, a3, a4⟩, -⟩ := h1.1
  obtain ⟨⟨⟨b1, b2⟩, b3, b4⟩, -⟩ := h1'.1
  rw [← f1] at h2'
  obtain ⟨g1, g2, g3⟩ := Wa.uniq hc _ _ 0 _ _ _ (by omega) (by omega) h2 h2'
  refine ⟨g1, by omega, fun q hq => ?_, fun q hq => g3 q (by omega) hq⟩
  by_cases e0 : q = 0
  · subst e0; exact f1
  · exact g2 q (by omega) hq
/-- what holds from place p on -/
def WF (c : cfg) (L K : Nat → Int) (uf p : Nat) (g : Int) (u : Nat) : Prop :=
  (∀ q, p < q → q ≤ nn c → c_ok c q (L q) = true) ∧
  (∀ q, p ≤ q → q < nn c → c_fol c (L (q + 1) - L q) (if q = p then g else (L q - L (q - 1)) + 24) = true) ∧
  (∀ q, p ≤ q → q < nn c → K q = -1 ∨ ∃ k : Nat, (k : Int) < c.1 10 ∧ K q = k ∧ c.2 6 k ≤ q ∧ (q : Int) < c.2 7 k) ∧
  (∀ k : Nat, (k : Int) < c.1 10 → (p : Int) ≤ c.2 6 k → uf.testBit k = true → (∀ q : Nat, c.2 6 k ≤ q → (q : Int) < c.2 7 k → K q = k) ∧ ∃ s, c_use c k (L (c.2 6 k).toNat) s = true ∧ ∀ q : Nat, c.2 6 k ≤ q → (q : Int) < c.2 7 k → L (q + 1) - L q = s) ∧
  (∀ k : Nat, (k : Int) < c.1 10 → uf.testBit k = false → ∀ q : Nat, p ≤ q → c.2 6 k ≤ q → (q : Int) < c.2 7 k → K q = -1) ∧
  (∀ k : Nat, (k : Int) < c.1 10 → c.2 6 k < p → uf.testBit k = u.testBit k) ∧
  (∀ m : Nat, (c.1 10).toNat ≤ m → u < 2 ^ m → uf < 2 ^ m)
theorem Wa.wf {c : cfg} (hc : cOK c) {L K : Nat → Int} {uf : Nat} : ∀ (r p : Nat) (l g : Int) (u : Nat), Wa c L K uf r p l g u → p ≤ nn c → L p = l → (∀ k : Nat, (k : Int) < c.1 10 → (p : Int) ≤ c.2 6 k → u.testBit k = false) → WF c L K uf p g u := by
  obtain ⟨n1, n2, n3⟩ := nn_r hc
  have hend : ∀ (p : Nat) (g : Int) (u : Nat), nn c ≤ p ∧ u = uf → WF c L K uf p g u := by
    rintro p g u ⟨h1, rfl⟩
    refine ⟨fun q a d => by omega, fun q a d => by omega, fun q a d => by omega, fun k a d => ?_, fun k a d q a1 a2 a3 => ?_, fun k a d => rfl, fun m _ d => d⟩
    · obtain ⟨⟨r1, r2, r3⟩, -⟩ := hc.2.2.2.2.2.2.2.1 k a; omega
    · obtain ⟨⟨r1, r2, r3⟩, -⟩ := hc.2.2.2.2.2.2.2.1 k a; omega
  intro r
  induction r with
  | zero => intro p l g u h _ _ _; exact hend p g u h
  | succ r ih =>
    intro p l g u h hp hl hu
    rcases h with h | ⟨hp', s, ⟨h1, h2, h3, h4⟩ | ⟨k, h1, h2, h3, h4⟩⟩
    · exact hend p g u h
    · obtain ⟨hfo, hok, -⟩ := h1.nx0
      obtain ⟨w1, w2, w3, w4, w5, w6, w7⟩ := ih _ _ _ _ h4 (by omega) h2 (fun k a d => hu k a (by omega))
      refine ⟨fun q a d => ?_, fun q a d => ?_, fun q a d => ?_, fun k a d e => ?_, fun k a d q a1 a2 a3 => ?_, fun k a d => w6 k a (by omega), w7⟩
      · by_cases e : q = p + 1
        · subst e; rw [h2]; exact hok
        · exact w1 q (by omega) d
      · by_cases e : q = p
        · subst e; rw [if_pos rfl, h2, hl, show l + s - l = s by omega]; exact hfo
        · rw [if_neg e]
          have := w2 q (by omega) d
          by_cases e2 : q = p + 1
          · subst e2
            rw [if_pos rfl] at this
            rw [show p + 1 - 1 = p by omega]
            rw [show L (p + 1) - L p + 24 = s + 24 by omega]
            exact this
          · rw [if_neg e2] at this; exact this
      · by_cases e : q = p
        · subst e; exact Or.inl h3
        · exact w3 q (by omega) d
      · by_cases e2 : c.2 6 k = p
        · have := w6 k a (by omega)
          rw [hu k a (by omega), e] at this
          exact absurd this (by decide)
        · exact w4 k a (by omega) e
      · by_cases e : q = p
        · subst e; exact h3
        · exact w5 k a d q (by omega) a2 a3
    · obtain ⟨hfo, hus, hok, -⟩ := h2.nx1 hc h1
      obtain ⟨hk1, hk2, hk3⟩ := id h1
      obtain ⟨⟨r1, r2, r3⟩, -⟩ := hc.2.2.2.2.2.2.2.1 k hk1
      have hbit : ∀ j, (u ||| 2 ^ k).testBit j = (u.testBit j || decide (k = j)) := fun j => by rw [Nat.testBit_or, Nat.testBit_two_pow]
      have hLto : L (c.2 7 k).toNat = l + (c.2 7 k - p) * s := by
        have := (h3 ((c.2 7 k).toNat - p - 1) (by omega)).1
        rw [show p + ((c.2 7 k).toNat - p - 1 + 1) = (c.2 7 k).toNat by omega, show (((c.2 7 k).toNat - p - 1 : Nat) : Int) + 1 = c.2 7 k - p by omega, Int.mul_comm] at this
        exact this
      have hLq : ∀ q : Nat, p ≤ q → (q : Int) ≤ c.2 7 k → L q = l + s * ((q : Int) - p) := by
        intro q a d
        by_cases e : q = p
        · subst e; rw [hl, show ((q : Int) - q) = 0 by omega, Int.mul_zero, Int.add_zero]
        · have := (h3 (q - p - 1) (by omega)).1
          rw [show p + (q - p - 1 + 1) = q by omega, show ((q - p - 1 : Nat) : Int) + 1 = (q : Int) - p by omega] at this
          exact this
      have hsl : ∀ q : Nat, p ≤ q → (q : Int) < c.2 7 k → L (q + 1) - L q = s := by
        intro q a d
        rw [hLq q a (by omega), hLq (q + 1) (by omega) (by omega), show (((q + 1 : Nat) : Int) - p) = ((q : Int) - p) + 1 by omega, Int.mul_add, Int.mul_one]
        omega
      have hKq : ∀ q : Nat, p ≤ q → (q : Int) < c.2 7 k → K q = k := by
        intro q a d
        have := (h3 (q - p) (by omega)).2
        rw [show p + (q - p) = q by omega] at this
        exact this
      have hdis : ∀ j : Nat, (j : Int) < c.1 10 → j ≠ k → c.2 7 j ≤ c.2 6 k ∨ c.2 7 k ≤ c.2 6 j := fun j a d => hc.2.2.2.2.2.2.2.2 j k a hk1 d
      obtain ⟨w1, w2, w3, w4, w5, w6, w7⟩ := ih _ _ _ _ h4 (by omega) hLto (fun j a d => by
        rw [hbit j, hu j a (by omega)]
        have : ¬ k = j := fun e => by subst e; omega
        simp [this])
      have hkb : uf.testBit k = true := by
        rw [w6 k hk1 (by omega), hbit k]; simp
      refine ⟨fun q a d => ?_, fun q a d => ?_, fun q a d => ?_, fun j a d e => ?_, fun j a d q a1 a2 a3 => ?_, fun j a d => ?_, fun m a d => w7 m a ?_⟩
      · by_cases e : (q : Int) ≤ c.2 7 k
        · have hu1 := List.all_eq_true.mp (by rw [c_use_eq] at hus; exact hus) (q - p - 1) (List.mem_range.mpr (by omega))
          have hu2 := (Bool.and_eq_true_iff.mp hu1).1
          rw [show (c.2 6 k).toNat + (q - p - 1 + 1) = q by omega, show ((q - p - 1 : Nat) : Int) + 1 = (q : Int) - p by omega] at hu2
          rw [hLq q (by omega) e]; exact hu2
        · exact w1 q (by omega) d
      · by_cases e : (q : Int) < c.2 7 k
        · rw [hsl q a e]
          by_cases e2 : q = p
          · rw [if_pos e2]; exact hfo
          · rw [if_neg e2]
            have hh := hsl (q - 1) (by omega) (by omega)
            rw [show q - 1 + 1 = q by omega] at hh
            rw [hh]
            unfold c_fol at hfo ⊢
            have h8 := hc.2.2.2.1
            have := of_decide_eq_true hfo
            exact decide_eq_true ⟨this.1, this.2.1, Or.inr (by omega)⟩
        · have := w2 q (by omega) d
          rw [if_neg (by omega)]
          by_cases e2 : q = (c.2 7 k).toNat
          · rw [if_pos e2] at this
            have hh := hsl (q - 1) (by omega) (by omega)
            rw [show q - 1 + 1 = q by omega] at hh
            rw [hh]; exact this
          · rw [if_neg e2] at this; exact this
      · by_cases e : (q : Int) < c.2 7 k
        · exact Or.inr ⟨k, hk1, hKq q a e, by omega, e⟩
        · exact w3 q (by omega) d
      · by_cases e2 : j = k
        · subst e2
          refine ⟨fun q b1 b2 => hKq q (by omega) b2, s, ?_, fun q b1 b2 => hsl q (by omega) b2⟩
          rw [show (c.2 6 j).toNat = p by omega, hl]; exact hus
        · obtain ⟨⟨t1, t2, t3⟩, -⟩ := hc.2.2.2.2.2.2.2.1 j a
          have := hdis j a e2
          exact w4 j a (by omega) e
      · by_cases e2 : j = k
        · subst e2; rw [hkb] at d; exact absurd d (by decide)
        · obtain ⟨⟨t1, t2, t3⟩, -⟩ := hc.2.2.2.2.2.2.2.1 j a
          have := hdis j a e2
          exact w5 j a d q (by omega) a2 a3
      · have e2 : ¬ k = j := fun e => by subst e; omega
        rw [w6 j a (by omega), hbit j]; simp [e2]
      · exact Nat.or_lt_two_pow d (Nat.pow_lt_pow_right (by omega) (by omega))
/-- what holds of the whole table -/
def TF (c : cfg) (L K : Nat → Int) (uf : Nat) (cost : Int) : Prop :=
  (∀ q, q ≤ nn c → c_ok c q (L q) = true) ∧
  (∀ q, q < nn c → c_fol c (L (q + 1) - L q) (if q = 0 then 49 else (L q - L (q - 1)) + 24) = true) ∧
  (∀ q, q < nn c → K q = -1 ∨ ∃ k : Nat, (k : Int) < c.1 10 ∧ K q = k ∧ c.2 6 k ≤ q ∧ (q : Int) < c.2 7 k) ∧
  (∀ k : Nat, (k : Int) < c.1 10 → uf.testBit k = true → (∀ q : Nat, c.2 6 k ≤ q → (q : Int) < c.2 7 k → K q = k) ∧ ∃ s, c_use c k (L (c.2 6 k).toNat) s = true ∧ ∀ q : Nat, c.2 6 k ≤ q → (q : Int) < c.2 7 k → L (q + 1) - L q = s) ∧
  (∀ k : Nat, (k : Int) < c.1 10 → uf.testBit k = false → ∀ q : Nat, c.2 6 k ≤ q → (q : Int) < c.2 7 k → K q = -1) ∧
  uf < 2 ^ (c.1 10).toNat ∧ (0 ≤ cost ∧ cost ≤ 1000000000000)
theorem Tab.tf {c : cfg} (hc : cOK c) {L K : Nat → Int} {uf : Nat} {cost : Int} (h : Tab c L K uf cost) : TF c L K uf cost := by
  obtain ⟨n1, n2, n3⟩ := nn_r hc
  obtain ⟨q, e, h1, h2⟩ := h
  obtain ⟨w1, w2, w3, w4, w5, w6, w7⟩ := h2.wf hc _ _ _ _ _ (by omega) rfl (fun k _ _ => Nat.zero_testBit k)
  obtain ⟨a1, a2, a3⟩ := h1.2.2 q rfl
  obtain ⟨⟨⟨b1, b2⟩, -⟩, -⟩ := h1.1
  refine ⟨fun q hq => ?_, fun q hq => w2 q (by omega) hq, fun q hq => w3 q (by omega) hq, fun k a d => w4 k a ?_ d, fun k a d q => w5 k a d q (by omega), w7 _ (Nat.le_refl _) (Nat.two_pow_pos _), by omega⟩
  · by_cases e0 : q = 0
    · subst e0; exact a2.1
    · exact w1 q (by omega) hq
  · have := (hc.2.2.2.2.2.2.2.1 k a).1.1; omega
