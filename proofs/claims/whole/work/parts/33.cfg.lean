/-! WHAT IS TOLD OF A ROAD, as whole numbers: c.1 0 = n, 1 = m, 7 most, 8 change, 9 falls, 10 the number of spans; c.2 1 grounds, 2 cuts, 3 fills, 4 fixed, 5 moved, 6 from, 7 to, 8 kind, 9 cents (by place or span) -/
abbrev cfg : Type := (Nat → Int) × (Nat → Nat → Int)
/-- the numbers are as they may be -/
def cOK (c : cfg) : Prop := (2 ≤ c.1 0 ∧ c.1 0 ≤ 24) ∧ (1 ≤ c.1 1 ∧ c.1 1 ≤ 24) ∧ (1 ≤ c.1 7 ∧ c.1 7 ≤ 24) ∧ (0 ≤ c.1 8 ∧ c.1 8 ≤ 48) ∧ (0 ≤ c.1 9 ∧ c.1 9 ≤ c.1 7) ∧ (0 ≤ c.1 10 ∧ c.1 10 ≤ 6) ∧
  (∀ p : Nat, p < 25 → (0 ≤ c.2 1 p ∧ c.2 1 p ≤ c.1 1) ∧ (0 ≤ c.2 2 p ∧ c.2 2 p ≤ 1000000) ∧ (0 ≤ c.2 3 p ∧ c.2 3 p ≤ 1000000) ∧ (-1 ≤ c.2 4 p ∧ c.2 4 p ≤ c.1 1) ∧ (-1 ≤ c.2 5 p ∧ c.2 5 p ≤ c.1 1)) ∧
  (∀ k : Nat, (k : Int) < c.1 10 → (0 ≤ c.2 6 k ∧ c.2 6 k + 2 ≤ c.2 7 k ∧ c.2 7 k ≤ c.1 0) ∧ (c.2 8 k = 0 ∨ c.2 8 k = 1) ∧ (0 ≤ c.2 9 k ∧ c.2 9 k ≤ 1000000000)) ∧
  (∀ j k : Nat, (j : Int) < c.1 10 → (k : Int) < c.1 10 → j ≠ k → c.2 7 j ≤ c.2 6 k ∨ c.2 7 k ≤ c.2 6 j)
/-- the reference holds c -/
def MC (I : Nat → Nat → Int32) (J : Nat → Nat → Int64) (c : cfg) : Prop :=
  (I 0 0 = iI (c.1 0) ∧ I 0 1 = iI (c.1 1) ∧ I 0 7 = iI (c.1 7) ∧ I 0 8 = iI (c.1 8) ∧ I 0 9 = iI (c.1 9) ∧ I 0 10 = iI (c.1 10)) ∧
  (∀ p : Nat, p < 25 → I 1 p = iI (c.2 1 p) ∧ I 2 p = iI (c.2 2 p) ∧ I 3 p = iI (c.2 3 p) ∧ I 4 p = iI (c.2 4 p) ∧ I 5 p = iI (c.2 5 p)) ∧
  (∀ k : Nat, (k : Int) < c.1 10 → I 6 k = iI (c.2 6 k) ∧ I 7 k = iI (c.2 7 k) ∧ I 8 k = iI (c.2 8 k) ∧ J 9 k = iJ (c.2 9 k))
/-- a level may be at a place -/
def c_ok (c : cfg) (p : Nat) (l : Int) : Bool := decide (0 ≤ l ∧ l ≤ c.1 1 ∧ (c.2 4 p = -1 ∨ c.2 4 p = l) ∧ (c.2 5 p = -1 ∨ c.2 5 p = l))
/-- a slope may follow one (by its number, 24 more; 49: none) -/
def c_fol (c : cfg) (s g : Int) : Bool := decide (c.1 9 ≤ (s.natAbs : Int) ∧ (s.natAbs : Int) ≤ c.1 7 ∧ (g = 49 ∨ ((s - (g - 24)).natAbs : Int) ≤ c.1 8))
/-- the earth's cost -/
def c_pc (c : cfg) (p : Nat) (l : Int) : Int := if l < c.2 1 p then (c.2 1 p - l) * c.2 2 p else (l - c.2 1 p) * c.2 3 p
def b1 (b : Bool) : Int32 := if b = true then 1 else 0
theorem b1_0 (b : Bool) : b1 b = 0 ↔ b = false := by cases b <;> decide
theorem zrb_1 {h : zH} : zrb 1 h = some (1, h) := rfl
theorem zrb_0 {h : zH} : zrb 0 h = some (0, h) := rfl
theorem zrb_b {h : zH} (b : Bool) : zrb (b1 b) h = some (b1 b, h) := by cases b <;> rfl
theorem zck_t {α : Type} {f : Option α} : zck true f = f := rfl
section MSIMPLE
variable {h : zH} {b : Nat} {I : Nat → Nat → Int32} {J : Nat → Nat → Int64} {c : cfg} {N : Nat}
theorem m_isPlace (hc : cOK c) (hM : MC I J c) {z : Int} (h1 : -2147483648 ≤ z) (h2 : z < 2147483648) : f_Model_isPlace N b (iI z) (MH h b I J) = some (b1 (decide (0 ≤ z ∧ z ≤ c.1 0)), MH h b I J) := by
  obtain ⟨⟨n1, n2⟩, -⟩ := hc
  unfold f_Model_isPlace
  simp only [m_rd, Option.bind_some, hM.1.1, iI_0]
  simp (disch := omega) only [iI_lt]
  by_cases a : z < 0
  · rw [if_pos a, show decide (0 ≤ z ∧ z ≤ c.1 0) = false by simp; omega]; rfl
  · rw [if_neg a]
    by_cases a2 : c.1 0 < z
    · rw [if_pos a2, show decide (0 ≤ z ∧ z ≤ c.1 0) = false by simp; omega]; rfl
    · rw [if_neg a2, show decide (0 ≤ z ∧ z ≤ c.1 0) = true by simp; omega]; rfl
theorem m_isLevel (hc : cOK c) (hM : MC I J c) {z : Int} (h1 : -2147483648 ≤ z) (h2 : z < 2147483648) : f_Model_isLevel N b (iI z) (MH h b I J) = some (b1 (decide (0 ≤ z ∧ z ≤ c.1 1)), MH h b I J) := by
  obtain ⟨-, ⟨n1, n2⟩, -⟩ := hc
  unfold f_Model_isLevel
  simp only [m_rd, Option.bind_some, hM.1.2.1, iI_0]
  simp (disch := omega) only [iI_lt]
  by_cases a : z < 0
  · rw [if_pos a, show decide (0 ≤ z ∧ z ≤ c.1 1) = false by simp; omega]; rfl
  · rw [if_neg a]
    by_cases a2 : c.1 1 < z
    · rw [if_pos a2, show decide (0 ≤ z ∧ z ≤ c.1 1) = false by simp; omega]; rfl
    · rw [if_neg a2, show decide (0 ≤ z ∧ z ≤ c.1 1) = true by simp; omega]; rfl
theorem m_may (hc : cOK c) (hM : MC I J c) {p : Nat} {l : Int} (hp : p < 25) (h1 : -2147483648 ≤ l) (h2 : l < 2147483648) : f_Model_may N b (iI p) (iI l) (MH h b I J) = some (b1 (c_ok c p l), MH h b I J) := by
  have hin : vp_in (iI p) 25 := iI_in (by omega) (by omega) (by omega)
  have hcl : (iI p).toNatClampNeg = p := by rw [iI_cl (by omega) (by omega)]; rfl
  obtain ⟨-, e4, e5⟩ : True ∧ I 4 p = iI (c.2 4 p) ∧ I 5 p = iI (c.2 5 p) := ⟨trivial, (hM.2.1 p hp).2.2.2.1, (hM.2.1 p hp).2.2.2.2⟩
  have hr := (hc.2.2.2.2.2.2.1 p hp).2.2.2
  have hm := hc.2.1
  unfold f_Model_may f_Model_may_28 f_Model_may_48
  simp only [m_rd, zck_t, m_isLevel hc hM h1 h2, Option.bind_some, ma_4 hin, ma_5 hin, hcl, e4, e5, iI_m1, b1_0, zrb_1, zrb_0]
  simp (disch := omega) only [iI_eq]
  unfold c_ok
  by_cases a : 0 ≤ l ∧ l ≤ c.1 1
  · rw [show decide (0 ≤ l ∧ l ≤ c.1 1) = true by simpa using a]
    by_cases a4 : c.2 4 p = -1 <;> by_cases a4' : c.2 4 p = l <;> by_cases a5 : c.2 5 p = -1 <;> by_cases a5' : c.2 5 p = l <;> simp [a, a4, a4', a5, a5', b1] <;> omega
  · rw [show decide (0 ≤ l ∧ l ≤ c.1 1) = false by simpa using a]
    rw [if_pos rfl, show decide (0 ≤ l ∧ l ≤ c.1 1 ∧ (c.2 4 p = -1 ∨ c.2 4 p = l) ∧ (c.2 5 p = -1 ∨ c.2 5 p = l)) = false by simp; omega]; rfl
theorem m_size {z : Int} (h1 : -2147483648 < z) (h2 : z < 2147483648) {g : zH} : f_Model_size N (iI z) g = some (iI z.natAbs, g) := by
  unfold f_Model_size
  simp only [iI_0, iI_neg]
  simp (disch := omega) only [iI_le]
  by_cases a : 0 ≤ z
  · rw [if_pos a, show ((z.natAbs : Nat) : Int) = z by omega]
  · rw [if_neg a, show ((z.natAbs : Nat) : Int) = -z by omega]
theorem m_follows (hc : cOK c) (hM : MC I J c) {s g : Int} (hs1 : -1000 ≤ s) (hs2 : s ≤ 1000) (hg1 : 0 ≤ g) (hg2 : g ≤ 49) : f_Model_follows N b (iI s) (iI g) (MH h b I J) = some (b1 (c_fol c s g), MH h b I J) := by
  obtain ⟨-, -, ⟨m1, m2⟩, ⟨c1, c2⟩, ⟨f1, f2⟩, -⟩ := hc
  have e24 : (24 : Int32) = iI 24 := by decide
  have e49 : (49 : Int32) = iI 49 := by decide
  unfold f_Model_follows f_Model_follows_44
  simp only [e24, e49, iI_sub]
  simp (disch := omega) only [m_size]
  simp only [m_rd, Option.bind_some, hM.1.2.2.1, hM.1.2.2.2.1, hM.1.2.2.2.2.1, zrb_1, zrb_0]
  simp (disch := omega) only [iI_lt, iI_eq]
  unfold c_fol
  by_cases a1 : (s.natAbs : Int) < c.1 9
  · rw [if_pos a1, show decide (c.1 9 ≤ (s.natAbs : Int) ∧ (s.natAbs : Int) ≤ c.1 7 ∧ (g = 49 ∨ ((s - (g - 24)).natAbs : Int) ≤ c.1 8)) = false by simp; omega]; rfl
  · rw [if_neg a1]
    by_cases a2 : c.1 7 < (s.natAbs : Int)
    · rw [if_pos a2, show decide (c.1 9 ≤ (s.natAbs : Int) ∧ (s.natAbs : Int) ≤ c.1 7 ∧ (g = 49 ∨ ((s - (g - 24)).natAbs : Int) ≤ c.1 8)) = false by simp; omega]; rfl
    · rw [if_neg a2]
      by_cases a3 : g = 49
      · rw [if_pos a3, show decide (c.1 9 ≤ (s.natAbs : Int) ∧ (s.natAbs : Int) ≤ c.1 7 ∧ (g = 49 ∨ ((s - (g - 24)).natAbs : Int) ≤ c.1 8)) = true by simp; omega]; rfl
      · rw [if_neg a3]
        by_cases a4 : c.1 8 < ((s - (g - 24)).natAbs : Int)
        · rw [if_pos a4, show decide (c.1 9 ≤ (s.natAbs : Int) ∧ (s.natAbs : Int) ≤ c.1 7 ∧ (g = 49 ∨ ((s - (g - 24)).natAbs : Int) ≤ c.1 8)) = false by simp; omega]; rfl
        · rw [if_neg a4, show decide (c.1 9 ≤ (s.natAbs : Int) ∧ (s.natAbs : Int) ≤ c.1 7 ∧ (g = 49 ∨ ((s - (g - 24)).natAbs : Int) ≤ c.1 8)) = true by simp; omega]; rfl
end MSIMPLE
