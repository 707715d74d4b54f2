/-! the class: Site and Spans, what they answer -/
def mm (c : cfg) : Nat := (c.1 1).toNat
theorem mm_r {c : cfg} (hc : cOK c) : (mm c : Int) = c.1 1 ∧ 1 ≤ mm c ∧ mm c ≤ 24 := by
  have := hc.2.1
  unfold mm; omega
/-- the class holds what is told -/
def CC (I : Nat → Nat → Int32) (J : Nat → Nat → Int64) (x : cx) (c : cfg) : Prop :=
  (x.1 = nn c ∧ x.2.1 = mm c) ∧
  (I 1 0 = iI (c.1 0) ∧ I 1 1 = iI (c.1 1) ∧ I 1 7 = iI (c.1 7) ∧ I 1 8 = iI (c.1 8) ∧ I 1 9 = iI (c.1 9) ∧ I 7 0 = iI (c.1 10)) ∧
  (∀ p : Nat, p ≤ nn c → I 2 p = iI (c.2 1 p) ∧ I 3 p = iI (c.2 2 p) ∧ I 4 p = iI (c.2 3 p) ∧ I 5 p = iI (c.2 4 p) ∧ I 6 p = iI (c.2 5 p)) ∧
  (∀ k : Nat, (k : Int) < c.1 10 → I 8 k = iI (c.2 6 k) ∧ I 9 k = iI (c.2 7 k) ∧ I 10 k = iI (c.2 8 k) ∧ J 11 k = iJ (c.2 9 k))
theorem zabs_i {z : Int} (h1 : -2147483648 < z) (h2 : z < 2147483648) : zabs (iI z) = iI (z.natAbs : Int) := by
  unfold zabs
  have e : (0 : Int32) ≤ iI z ↔ 0 ≤ z := by rw [iI_0]; exact iI_le (by omega) (by omega) (by omega) (by omega)
  by_cases c : 0 ≤ z
  · rw [if_pos (e.mpr c)]; congr 1; omega
  · rw [if_neg (fun q => c (e.mp q)), iI_0, iI_sub]; congr 1; omega
theorem zmax_i {a d : Int} (h1 : rg a) (h2 : rg d) : zmax (iI a) (iI d) = iI (max a d) := by
  unfold zmax
  have e : iI a < iI d ↔ a < d := iI_lt h1.1 h1.2 h2.1 h2.2
  by_cases c : a < d
  · rw [if_pos (e.mpr c)]; congr 1; omega
  · rw [if_neg (fun q => c (e.mp q))]; congr 1; omega
theorem zmin_i {a d : Int} (h1 : rg a) (h2 : rg d) : zmin (iI a) (iI d) = iI (min a d) := by
  unfold zmin
  have e : iI d < iI a ↔ d < a := iI_lt h2.1 h2.2 h1.1 h1.2
  by_cases c : d < a
  · rw [if_pos (e.mpr c)]; congr 1; omega
  · rw [if_neg (fun q => c (e.mp q))]; congr 1; omega
theorem nat_in {p n : Nat} (h : p < n) (h2 : n ≤ 1000000) : vp_in (iI (p : Int)) n ∧ (iI (p : Int)).toNatClampNeg = p := ⟨iI_in (by omega) (by omega) (by omega), by rw [iI_cl (by omega) (by omega)]; rfl⟩
/-- what holds a place allows a level there -/
def c_al (c : cfg) (p : Nat) (l : Int) : Bool := decide ((c.2 4 p = -1 ∨ c.2 4 p = l) ∧ (c.2 5 p = -1 ∨ c.2 5 p = l))
theorem c_ok_al {c : cfg} {p : Nat} {l : Int} (h1 : 0 ≤ l) (h2 : l ≤ c.1 1) : c_ok c p l = c_al c p l := by
  unfold c_ok c_al
  rw [Bool.eq_iff_iff, decide_eq_true_iff, decide_eq_true_iff]
  exact ⟨fun z => z.2.2, fun z => ⟨h1, h2, z⟩⟩
/-- a span suits the places between its ends -/
def c_su1 (c : cfg) (k : Nat) (l s : Int) (j : Nat) : Bool := c_al c ((c.2 6 k).toNat + (j + 1)) (l + s * (j + 1)) && c_clear c k ((c.2 6 k).toNat + (j + 1)) (l + s * (j + 1))
def c_suit (c : cfg) (k : Nat) (l s : Int) : Bool := (List.range ((c.2 7 k - c.2 6 k).toNat - 1)).all (c_su1 c k l s)
theorem btw {l s m : Int} {j n : Nat} (hj : j ≤ n) (h1 : 0 ≤ l) (h2 : l ≤ m) (h3 : 0 ≤ l + s * n) (h4 : l + s * n ≤ m) : 0 ≤ l + s * j ∧ l + s * j ≤ m := by
  by_cases c : 0 ≤ s
  · have a1 : s * j ≤ s * n := Int.mul_le_mul_of_nonneg_left (by omega) c
    have a2 : 0 ≤ s * j := Int.mul_nonneg c (by omega)
    omega
  · have a1 : (-s) * j ≤ (-s) * n := Int.mul_le_mul_of_nonneg_left (by omega) (by omega)
    have a2 : 0 ≤ (-s) * j := Int.mul_nonneg (by omega) (by omega)
    rw [Int.neg_mul, Int.neg_mul] at a1
    rw [Int.neg_mul] at a2
    omega
theorem c_use_suit {c : cfg} (hc : cOK c) {k p : Nat} (hk : c_at c k p) {l s : Int} (h1 : 0 ≤ l) (h2 : l ≤ c.1 1) : c_use c k l s = true ↔ (0 ≤ l + (c.2 7 k - p) * s ∧ l + (c.2 7 k - p) * s ≤ c.1 1) ∧ c_suit c k l s = true ∧ c_ok c (c.2 7 k).toNat (l + (c.2 7 k - p) * s) = true := by
  obtain ⟨hk1, hk2, hk3⟩ := id hk
  obtain ⟨⟨r1, r2, r3⟩, -⟩ := hc.2.2.2.2.2.2.2.1 k hk1
  obtain ⟨n, hn⟩ : ∃ n : Nat, (c.2 7 k - c.2 6 k).toNat = n + 1 := ⟨(c.2 7 k - c.2 6 k).toNat - 1, by omega⟩
  have hen : l + (c.2 7 k - p) * s = l + s * ((n + 1 : Nat) : Int) := by rw [show c.2 7 k - p = ((n + 1 : Nat) : Int) by omega, Int.mul_comm]
  constructor
  · intro h
    have hend := c_use_end hc hk h
    have hr := c_ok_r hend
    refine ⟨hr, ?_, hend⟩
    unfold c_suit
    rw [List.all_eq_true]
    intro j hj
    have hj' := List.mem_range.mp hj
    rw [c_use_eq] at h
    have hu := List.all_eq_true.mp h j (List.mem_range.mpr (by omega))
    unfold c_u1 at hu
    unfold c_su1
    obtain ⟨u1, u2⟩ := Bool.and_eq_true_iff.mp hu
    have hbt := btw (j := j + 1) (n := n + 1) (by omega) h1 h2 (by rw [← hen]; exact hr.1) (by rw [← hen]; exact hr.2)
    rw [show ((j + 1 : Nat) : Int) = (j : Int) + 1 by omega] at hbt
    rw [c_ok_al hbt.1 hbt.2] at u1
    rw [decide_eq_false (by omega), Bool.false_or] at u2
    rw [u1, u2]; rfl
  · rintro ⟨⟨e1, e2⟩, hs, hend⟩
    rw [c_use_eq, List.all_eq_true]
    intro j hj
    have hj' := List.mem_range.mp hj
    unfold c_u1
    have hbt := btw (j := j + 1) (n := n + 1) (by omega) h1 h2 (by rw [← hen]; exact e1) (by rw [← hen]; exact e2)
    rw [show ((j + 1 : Nat) : Int) = (j : Int) + 1 by omega] at hbt
    by_cases ej : j = n
    · subst ej
      rw [decide_eq_true (by omega), Bool.true_or, Bool.and_true]
      rw [hen, show (c.2 7 k).toNat = (c.2 6 k).toNat + (j + 1) by omega, show ((j + 1 : Nat) : Int) = (j : Int) + 1 by omega] at hend
      exact hend
    · have hu := List.all_eq_true.mp hs j (List.mem_range.mpr (by omega))
      unfold c_su1 at hu
      obtain ⟨u1, u2⟩ := Bool.and_eq_true_iff.mp hu
      rw [c_ok_al hbt.1 hbt.2, u1, u2, Bool.or_true]; rfl
section CSITE
variable {h : zH} {b : Nat} {x : cx} {I : Nat → Nat → Int32} {J : Nat → Nat → Int64} {c : cfg} {N : Nat}
theorem c_isPlace (hc : cOK c) (hC : CC I J x c) {z : Int} (hz : rg z) : f_Site_isPlace N (b + 1) (iI z) (CH h b x I J) = some (b1 (decide (0 ≤ z ∧ z ≤ c.1 0)), CH h b x I J) := by
  obtain ⟨z1, z2⟩ := hz
  have hn := hc.1
  unfold f_Site_isPlace
  simp only [c_rd, Option.bind_some, hC.2.1.1]
  simp (disch := omega) only [iI_lz, iI_lt]
  by_cases e : z < 0
  · rw [if_pos e, decide_eq_false (by omega)]; rfl
  · rw [if_neg e]
    by_cases e2 : c.1 0 < z
    · rw [if_pos e2, decide_eq_false (by omega)]; rfl
    · rw [if_neg e2, decide_eq_true (by omega)]; rfl
theorem c_isLevel (hc : cOK c) (hC : CC I J x c) {z : Int} (hz : rg z) : f_Site_isLevel N (b + 1) (iI z) (CH h b x I J) = some (b1 (decide (0 ≤ z ∧ z ≤ c.1 1)), CH h b x I J) := by
  obtain ⟨z1, z2⟩ := hz
  have hn := hc.2.1
  unfold f_Site_isLevel
  simp only [c_rd, Option.bind_some, hC.2.1.2.1]
  simp (disch := omega) only [iI_lz, iI_lt]
  by_cases e : z < 0
  · rw [if_pos e, decide_eq_false (by omega)]; rfl
  · rw [if_neg e]
    by_cases e2 : c.1 1 < z
    · rw [if_pos e2, decide_eq_false (by omega)]; rfl
    · rw [if_neg e2, decide_eq_true (by omega)]; rfl
theorem c_isLevelOrNone (hc : cOK c) (hC : CC I J x c) {z : Int} (hz : rg z) : f_Site_isLevelOrNone N (b + 1) (iI z) (CH h b x I J) = some (b1 (decide (z = -1 ∨ (0 ≤ z ∧ z ≤ c.1 1))), CH h b x I J) := by
  have e1 : iI z = (-1 : Int32) ↔ z = -1 := by rw [iI_m1]; exact iI_eq hz.1 hz.2 (by omega) (by omega)
  unfold f_Site_isLevelOrNone f_Site_isLevelOrNone_13
  simp only [c_rd, zck_t, c_isLevel (h := h) (b := b) (N := N) hc hC hz, Option.bind_some, e1, b1_0, decide_eq_false_iff_not]
  by_cases e : z = -1
  · rw [if_pos e, decide_eq_true (Or.inl e)]; rfl
  · rw [if_neg e]
    by_cases e2 : 0 ≤ z ∧ z ≤ c.1 1
    · rw [if_neg (fun q => q e2), decide_eq_true (Or.inr e2)]; rfl
    · rw [if_pos e2, decide_eq_false (by omega)]; rfl
theorem c_allows (hc : cOK c) (hC : CC I J x c) {p : Nat} (hp : p ≤ nn c) {l : Int} (hl : rg l) : f_Site_allows N (b + 1) (iI p) (iI l) (CH h b x I J) = some (b1 (c_al c p l), CH h b x I J) := by
  obtain ⟨n1, n2, n3⟩ := nn_r hc
  obtain ⟨l1, l2⟩ := hl
  have hm := hc.2.1
  obtain ⟨hin, hcl⟩ := nat_in (p := p) (n := x.1 + 1) (by rw [hC.1.1]; omega) (by rw [hC.1.1]; omega)
  obtain ⟨-, -, -, f4, f5⟩ := hC.2.2.1 p hp
  have hb := hc.2.2.2.2.2.2.1 p (by omega)
  unfold f_Site_allows f_Site_allows_20 f_Site_allows_25 f_Site_allows_50
  simp only [c_rd, Option.bind_some, ca_5 hin, ca_6 hin, hcl, f4, f5, iI_m1]
  simp (disch := omega) only [iI_eq]
  unfold c_al
  rw [if_neg (show ¬ ((1 : Int32) = 0) by decide)]
  simp only [if_true]
  by_cases e1 : c.2 4 p = -1
  · rw [if_pos e1]
    by_cases e2 : c.2 5 p = -1
    · rw [if_pos e2, decide_eq_true (by omega)]; rfl
    · rw [if_neg e2]
      by_cases e3 : c.2 5 p = l
      · rw [if_pos e3, decide_eq_true (by omega)]; rfl
      · rw [if_neg e3, decide_eq_false (by omega)]; rfl
  · rw [if_neg e1]
    by_cases e4 : c.2 4 p = l
    · rw [if_pos e4]
      by_cases e2 : c.2 5 p = -1
      · rw [if_pos e2, decide_eq_true (by omega)]; rfl
      · rw [if_neg e2]
        by_cases e3 : c.2 5 p = l
        · rw [if_pos e3, decide_eq_true (by omega)]; rfl
        · rw [if_neg e3, decide_eq_false (by omega)]; rfl
    · rw [if_neg e4, decide_eq_false (by omega)]; rfl
theorem c_isHeld (hc : cOK c) (hC : CC I J x c) {p : Nat} (hp : p ≤ nn c) : f_Site_isHeld N (b + 1) (iI p) (CH h b x I J) = some (b1 (decide (c.2 4 p ≠ -1 ∨ c.2 5 p ≠ -1)), CH h b x I J) := by
  obtain ⟨n1, n2, n3⟩ := nn_r hc
  have hm := hc.2.1
  obtain ⟨hin, hcl⟩ := nat_in (p := p) (n := x.1 + 1) (by rw [hC.1.1]; omega) (by rw [hC.1.1]; omega)
  obtain ⟨-, -, -, f4, f5⟩ := hC.2.2.1 p hp
  have hb := hc.2.2.2.2.2.2.1 p (by omega)
  unfold f_Site_isHeld f_Site_isHeld_20
  simp only [c_rd, Option.bind_some, ca_5 hin, ca_6 hin, hcl, f4, f5, iI_m1]
  simp (disch := omega) only [iI_eq]
  by_cases e1 : c.2 4 p = -1
  · rw [if_pos e1]
    by_cases e2 : c.2 5 p = -1
    · rw [if_pos e2, decide_eq_false (by omega)]; rfl
    · rw [if_neg e2, decide_eq_true (by omega)]; rfl
  · rw [if_neg e1, decide_eq_true (by omega)]; rfl
/-- a slope keeps its bounds -/
def c_fit (c : cfg) (s : Int) : Bool := decide (c.1 9 ≤ (s.natAbs : Int) ∧ (s.natAbs : Int) ≤ c.1 7)
theorem c_slopeFits (hc : cOK c) (hC : CC I J x c) {s : Int} (h1 : -100000 ≤ s) (h2 : s ≤ 100000) : f_Site_slopeFits N (b + 1) (iI s) (CH h b x I J) = some (b1 (c_fit c s), CH h b x I J) := by
  have h7 := hc.2.2.1
  have h9 := hc.2.2.2.2.1
  unfold f_Site_slopeFits
  simp only [c_rd, Option.bind_some, zabs_i (show -2147483648 < s by omega) (show s < 2147483648 by omega), hC.2.1.2.2.2.2.1, hC.2.1.2.2.1]
  simp (disch := omega) only [iI_lt]
  unfold c_fit
  by_cases e1 : (s.natAbs : Int) < c.1 9
  · rw [if_pos e1, decide_eq_false (by omega)]; rfl
  · rw [if_neg e1]
    by_cases e2 : c.1 7 < (s.natAbs : Int)
    · rw [if_pos e2, decide_eq_false (by omega)]; rfl
    · rw [if_neg e2, decide_eq_true (by omega)]; rfl
theorem c_changeFits (hc : cOK c) (hC : CC I J x c) {s t : Int} (h1 : -100000 ≤ s) (h2 : s ≤ 100000) (h3 : -100000 ≤ t) (h4 : t ≤ 100000) : f_Site_changeFits N (b + 1) (iI s) (iI t) (CH h b x I J) = some (b1 (decide (((t - s).natAbs : Int) ≤ c.1 8)), CH h b x I J) := by
  have h8 := hc.2.2.2.1
  unfold f_Site_changeFits
  simp only [c_rd, Option.bind_some, iI_sub, zabs_i (show -2147483648 < t - s by omega) (show t - s < 2147483648 by omega), hC.2.1.2.2.2.1]
  simp (disch := omega) only [iI_lt]
  by_cases e1 : c.1 8 < ((t - s).natAbs : Int)
  · rw [if_pos e1, decide_eq_false (by omega)]; rfl
  · rw [if_neg e1, decide_eq_true (by omega)]; rfl
theorem c_lowest (hc : cOK c) (hC : CC I J x c) {l : Int} (h1 : 0 ≤ l) (h2 : l ≤ 24) : f_Site_lowestNear N (b + 1) (iI l) (CH h b x I J) = some (iI (max 0 (l - c.1 7)), CH h b x I J) := by
  have h7 := hc.2.2.1
  unfold f_Site_lowestNear
  simp only [c_rd, Option.bind_some, hC.2.1.2.2.1, iI_sub, iI_0]
  rw [zmax_i ⟨by omega, by omega⟩ ⟨by omega, by omega⟩]
theorem c_highest (hc : cOK c) (hC : CC I J x c) {l : Int} (h1 : 0 ≤ l) (h2 : l ≤ 24) : f_Site_highestNear N (b + 1) (iI l) (CH h b x I J) = some (iI (min (c.1 1) (l + c.1 7)), CH h b x I J) := by
  have h7 := hc.2.2.1
  have hm := hc.2.1
  unfold f_Site_highestNear
  simp only [c_rd, Option.bind_some, hC.2.1.2.1, hC.2.1.2.2.1, iI_add]
  rw [zmin_i ⟨by omega, by omega⟩ ⟨by omega, by omega⟩]
theorem c_earth (hc : cOK c) (hC : CC I J x c) {p : Nat} (hp : p ≤ nn c) {l : Int} (h1 : 0 ≤ l) (h2 : l ≤ 24) : f_Site_earthCents N (b + 1) (iI p) (iI l) (CH h b x I J) = some (iJ (c_pc c p l), CH h b x I J) := by
  obtain ⟨n1, n2, n3⟩ := nn_r hc
  have hm := hc.2.1
  obtain ⟨hin, hcl⟩ := nat_in (p := p) (n := x.1 + 1) (by rw [hC.1.1]; omega) (by rw [hC.1.1]; omega)
  obtain ⟨f1, f2, f3, -, -⟩ := hC.2.2.1 p hp
  have hb := hc.2.2.2.2.2.2.1 p (by omega)
  unfold f_Site_earthCents
  simp only [c_rd, Option.bind_some, ca_2 hin, ca_3 hin, ca_4 hin, hcl, f1, f2, f3, iI_sub, iI_neg]
  rw [iI_J (z := l - c.2 1 p) (by omega) (by omega), iI_J (z := -(l - c.2 1 p)) (by omega) (by omega), iI_J (z := c.2 3 p) (by omega) (by omega), iI_J (z := c.2 2 p) (by omega) (by omega), iI_0]
  simp (disch := omega) only [iI_le]
  simp only [iJ_mul]
  unfold c_pc
  by_cases e : 0 ≤ l - c.2 1 p
  · rw [if_pos e, if_neg (by omega)]
  · rw [if_neg e, if_pos (by omega), show -(l - c.2 1 p) = c.2 1 p - l by omega]
theorem c_starting (hc : cOK c) (hC : CC I J x c) (hN : 60 ≤ N) {p : Nat} (hp : p ≤ nn c) : f_Spans_startingAt N (b + 7) (iI p) (CH h b x I J) = some (iI (c_sp c p), CH h b x I J) := by
  obtain ⟨n1, n2, n3⟩ := nn_r hc
  have hK := hc.2.2.2.2.2.1
  have e10 := hC.2.1.2.2.2.2.2
  have loop : ∀ (d fu k : Nat), k + d = (c.1 10).toNat → d < fu → (∀ j, j < k → ¬ c_at c j p) → f_Spans_startingAt_2 N fu (b + 7) (iI p) (iI k) (CH h b x I J) = some (iI (c_sp c p), CH h b x I J) := by
    intro d
    induction d with
    | zero =>
      intro fu k hd hf hno
      obtain ⟨fu, rfl⟩ : ∃ q, fu = q + 1 := ⟨fu - 1, by omega⟩
      show b_Spans_startingAt_2 N (f_Spans_startingAt_2 N fu) (b + 7) _ _ _ = _
      unfold b_Spans_startingAt_2
      simp only [c_rd, Option.bind_some, e10]
      rw [if_pos ((iI_le (by omega) (by omega) (by omega) (by omega)).mpr (by omega))]
      rcases c_sp_spec hc (p := p) with ⟨e, -⟩ | ⟨j, -, hj, -⟩
      · rw [e, iI_m1]
      · exact absurd hj (hno j (by have := hj.1; omega))
    | succ d ih =>
      intro fu k hd hf hno
      obtain ⟨fu, rfl⟩ : ∃ q, fu = q + 1 := ⟨fu - 1, by omega⟩
      have hkk : (k : Int) < c.1 10 := by omega
      obtain ⟨⟨r1, r2, r3⟩, -⟩ := hc.2.2.2.2.2.2.2.1 k hkk
      obtain ⟨e6, -, -, -⟩ := hC.2.2.2 k hkk
      obtain ⟨hin, hcl⟩ := nat_in (p := k) (n := 6) (by omega) (by omega)
      have ek : iI (k : Int) + 1 = iI ((k + 1 : Nat) : Int) := by rw [iI_1, iI_add]; rfl
      show b_Spans_startingAt_2 N (f_Spans_startingAt_2 N fu) (b + 7) _ _ _ = _
      unfold b_Spans_startingAt_2
      simp only [c_rd, Option.bind_some, e10, ca_8 hin, hcl, e6, ek]
      rw [if_neg (fun z => by have := (iI_le (by omega) (by omega) (by omega) (by omega)).mp z; omega)]
      simp (disch := omega) only [iI_eq]
      by_cases e : c.2 6 k = p
      · rw [if_pos e]
        have hat : c_at c k p := ⟨hkk, e, by omega⟩
        rcases c_sp_spec hc (p := p) with ⟨-, hq⟩ | ⟨j, hj0, -, hj⟩
        · exact absurd hat (hq k)
        · rw [hj0, hj k hat]
      · rw [if_neg e]
        exact ih fu (k + 1) (by omega) (by omega) (fun j hj hat => by
          by_cases e2 : j = k
          · subst e2; exact e hat.2.1
          · exact hno j (by omega) hat)
  have := loop (c.1 10).toNat N 0 (by omega) (by omega) (fun j hj => by omega)
  rw [show iI ((0 : Nat) : Int) = (0 : Int32) from iI_0.symm] at this
  exact this
def c_ends (c : cfg) (p : Nat) : Prop := ∃ k : Nat, (k : Int) < c.1 10 ∧ c.2 7 k = p
theorem c_anyEnds (hc : cOK c) (hC : CC I J x c) (hN : 60 ≤ N) {p : Nat} (hp : p ≤ nn c) : ∃ r : Bool, (r = true ↔ c_ends c p) ∧ f_Spans_anyEndsAt N (b + 7) (iI p) (CH h b x I J) = some (b1 r, CH h b x I J) := by
  obtain ⟨n1, n2, n3⟩ := nn_r hc
  have hK := hc.2.2.2.2.2.1
  have e10 := hC.2.1.2.2.2.2.2
  have loop : ∀ (d fu k : Nat), k + d = (c.1 10).toNat → d < fu → (∀ j, j < k → ¬ c.2 7 j = p) → ∃ r : Bool, (r = true ↔ c_ends c p) ∧ f_Spans_anyEndsAt_2 N fu (b + 7) (iI p) (iI k) (CH h b x I J) = some (b1 r, CH h b x I J) := by
    intro d
    induction d with
    | zero =>
      intro fu k hd hf hno
      obtain ⟨fu, rfl⟩ : ∃ q, fu = q + 1 := ⟨fu - 1, by omega⟩
      refine ⟨false, ⟨fun z => absurd z (by decide), fun ⟨j, j1, j2⟩ => absurd j2 (hno j (by omega))⟩, ?_⟩
      show b_Spans_anyEndsAt_2 N (f_Spans_anyEndsAt_2 N fu) (b + 7) _ _ _ = _
      unfold b_Spans_anyEndsAt_2
      simp only [c_rd, Option.bind_some, e10]
      rw [if_pos ((iI_le (by omega) (by omega) (by omega) (by omega)).mpr (by omega))]; rfl
    | succ d ih =>
      intro fu k hd hf hno
      obtain ⟨fu, rfl⟩ : ∃ q, fu = q + 1 := ⟨fu - 1, by omega⟩
      have hkk : (k : Int) < c.1 10 := by omega
      obtain ⟨⟨r1, r2, r3⟩, -⟩ := hc.2.2.2.2.2.2.2.1 k hkk
      obtain ⟨-, e7, -, -⟩ := hC.2.2.2 k hkk
      obtain ⟨hin, hcl⟩ := nat_in (p := k) (n := 6) (by omega) (by omega)
      have ek : iI (k : Int) + 1 = iI ((k + 1 : Nat) : Int) := by rw [iI_1, iI_add]; rfl
      have hst : f_Spans_anyEndsAt_2 N (fu + 1) (b + 7) (iI p) (iI k) (CH h b x I J) = if c.2 7 k = p then zrb 1 (CH h b x I J) else f_Spans_anyEndsAt_2 N fu (b + 7) (iI p) (iI ((k + 1 : Nat) : Int)) (CH h b x I J) := by
        show b_Spans_anyEndsAt_2 N (f_Spans_anyEndsAt_2 N fu) (b + 7) _ _ _ = _
        unfold b_Spans_anyEndsAt_2
        simp only [c_rd, Option.bind_some, e10, ca_9 hin, hcl, e7, ek]
        rw [if_neg (fun z => by have := (iI_le (by omega) (by omega) (by omega) (by omega)).mp z; omega)]
        simp (disch := omega) only [iI_eq]
      rw [hst]
      by_cases e : c.2 7 k = p
      · exact ⟨true, ⟨fun _ => ⟨k, hkk, e⟩, fun _ => rfl⟩, by rw [if_pos e]; rfl⟩
      · rw [if_neg e]
        exact ih fu (k + 1) (by omega) (by omega) (fun j hj => by
          by_cases e2 : j = k
          · subst e2; exact e
          · exact hno j (by omega))
  have := loop (c.1 10).toNat N 0 (by omega) (by omega) (fun j hj => by omega)
  rw [show iI ((0 : Nat) : Int) = (0 : Int32) from iI_0.symm] at this
  exact this
theorem c_shares (hc : cOK c) (hC : CC I J x c) (hN : 60 ≤ N) {y z : Int} (hy : rg y) (hz : rg z) : f_Spans_sharesStep N (b + 7) (iI y) (iI z) (CH h b x I J) = some (b1 (!c_room c y z), CH h b x I J) := by
  obtain ⟨n1, n2, n3⟩ := nn_r hc
  obtain ⟨y1, y2⟩ := hy
  obtain ⟨z1, z2⟩ := hz
  have hK := hc.2.2.2.2.2.1
  have e10 := hC.2.1.2.2.2.2.2
  have loop : ∀ (d fu k : Nat), k + d = (c.1 10).toNat → d < fu → (List.range k).all (c_free c y z) = true → f_Spans_sharesStep_2 N fu (b + 7) (iI y) (iI z) (iI k) (CH h b x I J) = some (b1 (!c_room c y z), CH h b x I J) := by
    intro d
    induction d with
    | zero =>
      intro fu k hd hf hno
      obtain ⟨fu, rfl⟩ : ∃ q, fu = q + 1 := ⟨fu - 1, by omega⟩
      show b_Spans_sharesStep_2 N (f_Spans_sharesStep_2 N fu) (b + 7) _ _ _ _ = _
      unfold b_Spans_sharesStep_2
      simp only [c_rd, Option.bind_some, e10]
      rw [if_pos ((iI_le (by omega) (by omega) (by omega) (by omega)).mpr (by omega))]
      unfold c_room
      rw [show (c.1 10).toNat = k by omega, hno]; rfl
    | succ d ih =>
      intro fu k hd hf hno
      obtain ⟨fu, rfl⟩ : ∃ q, fu = q + 1 := ⟨fu - 1, by omega⟩
      have hkk : (k : Int) < c.1 10 := by omega
      obtain ⟨⟨r1, r2, r3⟩, -⟩ := hc.2.2.2.2.2.2.2.1 k hkk
      obtain ⟨e6, e7, -, -⟩ := hC.2.2.2 k hkk
      obtain ⟨hin, hcl⟩ := nat_in (p := k) (n := 6) (by omega) (by omega)
      have ek : iI (k : Int) + 1 = iI ((k + 1 : Nat) : Int) := by rw [iI_1, iI_add]; rfl
      show b_Spans_sharesStep_2 N (f_Spans_sharesStep_2 N fu) (b + 7) _ _ _ _ = _
      unfold b_Spans_sharesStep_2 f_Spans_sharesStep_32
      simp only [c_rd, Option.bind_some, e10, ca_8 hin, ca_9 hin, hcl, e6, e7, ek]
      rw [if_neg (fun z => by have := (iI_le (by omega) (by omega) (by omega) (by omega)).mp z; omega)]
      simp (disch := omega) only [iI_le]
      have hgood : c_free c y z k = true → f_Spans_sharesStep_2 N fu (b + 7) (iI y) (iI z) (iI ((k + 1 : Nat) : Int)) (CH h b x I J) = some (b1 (!c_room c y z), CH h b x I J) := fun hh => ih fu (k + 1) (by omega) (by omega) (by rw [List.range_succ, List.all_append, hno]; simp [hh])
      by_cases c1 : c.2 7 k ≤ y
      · rw [if_pos c1]; exact hgood (decide_eq_true (Or.inl c1))
      · rw [if_neg c1]
        by_cases c2 : z ≤ c.2 6 k
        · rw [if_pos c2]; exact hgood (decide_eq_true (Or.inr c2))
        · rw [if_neg c2]
          rw [show c_room c y z = false from by
            unfold c_room
            exact all_false (j := k) (by omega) (decide_eq_false (by omega))]
          rfl
  have := loop (c.1 10).toNat N 0 (by omega) (by omega) rfl
  rw [show iI ((0 : Nat) : Int) = (0 : Int32) from iI_0.symm] at this
  exact this
theorem c_suits (hc : cOK c) (hC : CC I J x c) (hN : 60 ≤ N) {k : Nat} (hk : (k : Int) < c.1 10) {l s : Int} (h1 : 0 ≤ l) (h2 : l ≤ 24) (h3 : -24 ≤ s) (h4 : s ≤ 24) : f_Spans_suits N (b + 7) (b + 1) (iI k) (iI l) (iI s) (CH h b x I J) = some (b1 (c_suit c k l s), CH h b x I J) := by
  obtain ⟨n1, n2, n3⟩ := nn_r hc
  have hK := hc.2.2.2.2.2.1
  have hm := hc.2.1
  obtain ⟨⟨r1, r2, r3⟩, rk, -⟩ := hc.2.2.2.2.2.2.2.1 k hk
  obtain ⟨e6, e7, e8, -⟩ := hC.2.2.2 k hk
  obtain ⟨hin, hcl⟩ := nat_in (p := k) (n := 6) (by omega) (by omega)
  have loop : ∀ (d fu j : Nat), j + d = (c.2 7 k - c.2 6 k).toNat - 1 → d < fu → (List.range j).all (c_su1 c k l s) = true → f_Spans_suits_10 N fu (b + 7) (b + 1) (iI k) (iI l) (iI s) (iI (c.2 6 k + 1 + j)) (CH h b x I J) = some (b1 (c_suit c k l s), CH h b x I J) := by
    intro d
    induction d with
    | zero =>
      intro fu j hd hf hno
      obtain ⟨fu, rfl⟩ : ∃ q, fu = q + 1 := ⟨fu - 1, by omega⟩
      show b_Spans_suits_10 N (f_Spans_suits_10 N fu) (b + 7) _ _ _ _ _ _ = _
      unfold b_Spans_suits_10
      simp only [c_rd, Option.bind_some, ca_9 hin, hcl, e7]
      rw [if_pos ((iI_le (by omega) (by omega) (by omega) (by omega)).mpr (by omega))]
      unfold c_suit
      rw [show (c.2 7 k - c.2 6 k).toNat - 1 = j by omega, hno]; rfl
    | succ d ih =>
      intro fu j hd hf hno
      obtain ⟨fu, rfl⟩ : ∃ q, fu = q + 1 := ⟨fu - 1, by omega⟩
      obtain ⟨p, hp⟩ : ∃ p : Nat, p = (c.2 6 k).toNat + (j + 1) := ⟨_, rfl⟩
      have hpi : c.2 6 k + 1 + (j : Int) = (p : Int) := by omega
      have hpn : p ≤ nn c := by omega
      obtain ⟨pin, pcl⟩ := nat_in (p := p) (n := x.1 + 1) (by rw [hC.1.1]; omega) (by rw [hC.1.1]; omega)
      obtain ⟨f1, -⟩ := hC.2.2.1 p hpn
      have hb := (hc.2.2.2.2.2.2.1 p (by omega)).1
      have epk : (p : Int) - c.2 6 k = (j : Int) + 1 := by omega
      have ek : iI (p : Int) + 1 = iI (c.2 6 k + 1 + ((j + 1 : Nat) : Int)) := by rw [iI_1, iI_add]; congr 1; omega
      have hsj1 : -600 ≤ s * ((j : Int) + 1) ∧ s * ((j : Int) + 1) ≤ 600 := by
        have a1 : s * ((j : Int) + 1) ≤ 24 * 25 := by
          by_cases q : 0 ≤ s
          · exact Int.mul_le_mul h4 (by omega) (by omega) (by omega)
          · have : (-s) * ((j : Int) + 1) ≥ 0 := Int.mul_nonneg (by omega) (by omega)
            rw [Int.neg_mul] at this; omega
        have a2 : (-s) * ((j : Int) + 1) ≤ 24 * 25 := by
          by_cases q : 0 ≤ s
          · have : s * ((j : Int) + 1) ≥ 0 := Int.mul_nonneg (by omega) (by omega)
            rw [Int.neg_mul]; omega
          · exact Int.mul_le_mul (by omega) (by omega) (by omega) (by omega)
        rw [Int.neg_mul] at a2
        omega
      have hgood : c_su1 c k l s j = true → f_Spans_suits_10 N fu (b + 7) (b + 1) (iI k) (iI l) (iI s) (iI (c.2 6 k + 1 + ((j + 1 : Nat) : Int))) (CH h b x I J) = some (b1 (c_suit c k l s), CH h b x I J) := fun hh => ih fu (j + 1) (by omega) (by omega) (by rw [List.range_succ, List.all_append, hno]; simp [hh])
      have hbad : c_su1 c k l s j = false → zrb (0 : Int32) (CH h b x I J) = some (b1 (c_suit c k l s), CH h b x I J) := fun hh => by
        rw [show c_suit c k l s = false from all_false (j := j) (by omega) hh]; rfl
      have hal := c_allows (h := h) (b := b) (N := N) hc hC hpn (l := l + s * ((j : Int) + 1)) ⟨by omega, by omega⟩
      rw [hpi]
      show b_Spans_suits_10 N (f_Spans_suits_10 N fu) (b + 7) _ _ _ _ _ _ = _
      unfold b_Spans_suits_10 f_Spans_suits_81
      simp only [c_rd, Option.bind_some, ca_9 hin, ca_8 hin, ca_10 hin, hcl, e6, e7, e8, ca_2 pin, pcl, f1, iI_sub, iI_mul, iI_add, epk, zck_t, hal, b1_0, ek]
      rw [if_neg (fun z => by have := (iI_le (by omega) (by omega) (by omega) (by omega)).mp z; omega)]
      simp (disch := omega) only [iI_ez, iI_lz]
      have e0 : (0 : Int32) < iI (l + s * ((j : Int) + 1) - c.2 1 p) ↔ 0 < l + s * ((j : Int) + 1) - c.2 1 p := by rw [iI_0]; exact iI_lt (by omega) (by omega) (by omega) (by omega)
      simp only [e0]
      have hsu : c_su1 c k l s j = (c_al c p (l + s * ((j : Int) + 1)) && (if c.2 8 k = 0 then decide (c.2 1 p ≤ l + s * ((j : Int) + 1)) else decide (l + s * ((j : Int) + 1) ≤ c.2 1 p))) := by rw [hp]; rfl
      rw [hsu] at hgood hbad
      simp only [show ¬ ((1 : Int32) = 0) by decide, if_true, if_false]
      by_cases c8 : c.2 8 k = 0
      · rw [if_pos c8]
        rw [if_pos c8] at hgood hbad
        by_cases d1 : l + s * ((j : Int) + 1) - c.2 1 p < 0
        · rw [if_pos d1]; exact hbad (by rw [decide_eq_false (by omega), Bool.and_false])
        · rw [if_neg d1]
          rw [decide_eq_true (by omega), Bool.and_true] at hgood hbad
          by_cases d2 : c_al c p (l + s * ((j : Int) + 1)) = false
          · rw [if_pos d2]; exact hbad d2
          · rw [if_neg d2]; exact hgood (by simpa using d2)
      · rw [if_neg c8]
        rw [if_neg c8] at hgood hbad
        by_cases d1 : 0 < l + s * ((j : Int) + 1) - c.2 1 p
        · rw [if_pos d1]; exact hbad (by rw [decide_eq_false (by omega), Bool.and_false])
        · rw [if_neg d1]
          rw [decide_eq_true (by omega), Bool.and_true] at hgood hbad
          by_cases d2 : c_al c p (l + s * ((j : Int) + 1)) = false
          · rw [if_pos d2]; exact hbad d2
          · rw [if_neg d2]; exact hgood (by simpa using d2)
  have := loop ((c.2 7 k - c.2 6 k).toNat - 1) N 0 (by omega) (by omega) rfl
  unfold f_Spans_suits
  simp only [c_rd, Option.bind_some, ca_8 hin, hcl, e6]
  rw [iI_1, iI_add]
  rw [show c.2 6 k + 1 + ((0 : Nat) : Int) = c.2 6 k + 1 by omega] at this
  exact this
end CSITE
