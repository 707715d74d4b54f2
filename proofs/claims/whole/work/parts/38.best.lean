/-! THE LEAST VALUE as a pair (cost, sum of sizes); how it is kept, and how two are joined -/
/-- o is the least of S: cost at most r times 10,000,000,000, sizes at most 24 r -/
def best1 (S : Int → Prop) (o : Option (Int × Int)) (r : Nat) : Prop := match o with
  | none => ∀ v, ¬ S v
  | some q => ((0 ≤ q.1 ∧ q.1 ≤ r * 10000000000) ∧ 0 ≤ q.2 ∧ q.2 ≤ 24 * r) ∧ S (1024 * q.1 + q.2) ∧ ∀ v, S v → 1024 * q.1 + q.2 ≤ v
def enc1 (o : Option (Int × Int)) (x : Int64) (y : Int32) : Prop := match o with
  | none => x = iJ (-1)
  | some q => x = iJ q.1 ∧ y = iI q.2
def omin (o o2 : Option (Int × Int)) : Option (Int × Int) := match o2 with
  | none => o
  | some q => match o with
    | none => some q
    | some q' => if q.1 < q'.1 ∨ (q.1 = q'.1 ∧ q.2 < q'.2) then some q else some q'
theorem best1.congr {S S' : Int → Prop} {o : Option (Int × Int)} {r : Nat} (h : best1 S o r) (e : ∀ v, S v ↔ S' v) : best1 S' o r := by
  cases o with
  | none => exact fun v hv => h v ((e v).mpr hv)
  | some q => exact ⟨h.1, (e _).mp h.2.1, fun v hv => h.2.2 v ((e v).mpr hv)⟩
theorem best1.none {r : Nat} : best1 (fun _ => False) none r := fun _ h => h
theorem best1.union {S S2 : Int → Prop} {o o2 : Option (Int × Int)} {r : Nat} (hr : r ≤ 40) (h : best1 S o r) (h2 : best1 S2 o2 r) : best1 (fun v => S v ∨ S2 v) (omin o o2) r := by
  cases o2 with
  | none => exact h.congr (fun v => ⟨Or.inl, fun q => q.elim id (fun q => absurd q (h2 v))⟩)
  | some q =>
    cases o with
    | none => exact best1.congr (S := S2) h2 (fun v => ⟨Or.inr, fun z => z.elim (fun z => absurd z (h v)) id⟩)
    | some q' =>
      obtain ⟨⟨⟨a1, a2⟩, a3, a4⟩, a5, a6⟩ := h
      obtain ⟨⟨⟨b1, b2⟩, b3, b4⟩, b5, b6⟩ := h2
      show best1 _ (if q.1 < q'.1 ∨ (q.1 = q'.1 ∧ q.2 < q'.2) then some q else some q') r
      by_cases hc : q.1 < q'.1 ∨ (q.1 = q'.1 ∧ q.2 < q'.2)
      · rw [if_pos hc]
        refine ⟨⟨⟨b1, b2⟩, b3, b4⟩, Or.inr b5, fun v hv => ?_⟩
        rcases hv with hv | hv
        · have := a6 v hv; omega
        · exact b6 v hv
      · rw [if_neg hc]
        refine ⟨⟨⟨a1, a2⟩, a3, a4⟩, Or.inl a5, fun v hv => ?_⟩
        rcases hv with hv | hv
        · exact a6 v hv
        · have := b6 v hv; omega
def oadd (o : Option (Int × Int)) (d1 d2 : Int) : Option (Int × Int) := match o with
  | none => none
  | some q => some (q.1 + d1, q.2 + d2)
theorem best1.shift {S : Int → Prop} {o : Option (Int × Int)} {r r' : Nat} {d1 d2 : Int} (h : best1 S o r) (hr : r + 1 ≤ r') (h1 : 0 ≤ d1) (h2 : d1 ≤ 10000000000) (h3 : 0 ≤ d2) (h4 : 24 * (r : Int) + d2 ≤ 24 * r') : best1 (fun v => ∃ y, S y ∧ v = y + (1024 * d1 + 1 * d2)) (oadd o d1 d2) r' := by
  cases o with
  | none => rintro v ⟨y, hy, -⟩; exact h y hy
  | some q =>
    obtain ⟨⟨⟨a1, a2⟩, a3, a4⟩, a5, a6⟩ := h
    refine ⟨⟨⟨by show 0 ≤ q.1 + d1; omega, by show q.1 + d1 ≤ _; omega⟩, by show 0 ≤ q.2 + d2; omega, by show q.2 + d2 ≤ _; omega⟩, ⟨_, a5, ?_⟩, ?_⟩
    · show 1024 * (q.1 + d1) + (q.2 + d2) = 1024 * q.1 + q.2 + (1024 * d1 + 1 * d2); omega
    · rintro v ⟨y, hy, rfl⟩
      have := a6 y hy
      show 1024 * (q.1 + d1) + (q.2 + d2) ≤ _; omega
/-- a place in the tables -/
def ix (p : Nat) (l g : Int) : Nat := ((25 * (p : Int) + l) * 50 + g).toNat
theorem ix_r {p : Nat} {l g : Int} (hp : p ≤ 24) (l1 : 0 ≤ l) (l2 : l ≤ 24) (g1 : 0 ≤ g) (g2 : g ≤ 49) : 0 ≤ (25 * (p : Int) + l) * 50 + g ∧ (25 * (p : Int) + l) * 50 + g < 31250 := by omega
theorem lgc {a d : Int} (h1 : -9223372036854775808 ≤ a) (h2 : a < 9223372036854775808) (h3 : -9223372036854775808 ≤ d) (h4 : d < 9223372036854775808) : lg_cmp (iJ a) (iJ d) = if d < a then 1 else if a = d then 0 else -1 := by
  unfold lg_cmp
  simp only [gt_iff_lt, iJ_lt h3 h4 h1 h2, iJ_eq h1 h2 h3 h4]
theorem lgc_neg {a d : Int} (h1 : -9223372036854775808 ≤ a) (h2 : a < 9223372036854775808) (h3 : -9223372036854775808 ≤ d) (h4 : d < 9223372036854775808) : lg_cmp (iJ a) (iJ d) < 0 ↔ a < d := by
  rw [lgc h1 h2 h3 h4]
  by_cases a1 : d < a
  · rw [if_pos a1]; exact ⟨fun h => absurd h (by decide), fun h => by omega⟩
  · rw [if_neg a1]
    by_cases a2 : a = d
    · rw [if_pos a2]; exact ⟨fun h => absurd h (by decide), fun h => by omega⟩
    · rw [if_neg a2]; exact ⟨fun _ => by omega, fun _ => by decide⟩
theorem lgc_nn {a d : Int} (h1 : -9223372036854775808 ≤ a) (h2 : a < 9223372036854775808) (h3 : -9223372036854775808 ≤ d) (h4 : d < 9223372036854775808) : 0 ≤ lg_cmp (iJ a) (iJ d) ↔ d ≤ a := by
  rw [← Int32.not_lt, lgc_neg h1 h2 h3 h4]; omega
theorem lgc_0 {a d : Int} (h1 : -9223372036854775808 ≤ a) (h2 : a < 9223372036854775808) (h3 : -9223372036854775808 ≤ d) (h4 : d < 9223372036854775808) : lg_cmp (iJ a) (iJ d) = 0 ↔ a = d := by
  rw [lgc h1 h2 h3 h4]
  by_cases a1 : d < a
  · rw [if_pos a1]; exact ⟨fun h => absurd h (by decide), fun h => by omega⟩
  · rw [if_neg a1]
    by_cases a2 : a = d
    · rw [if_pos a2]; exact ⟨fun _ => a2, fun _ => rfl⟩
    · rw [if_neg a2]; exact ⟨fun h => absurd h (by decide), fun h => absurd h a2⟩
section MBEST
variable {h : zH} {b : Nat} {I : Nat → Nat → Int32} {J : Nat → Nat → Int64} {c : cfg} {N : Nat}
theorem m_at {p l g : Int} {q : zH} : f_Model_at N (iI p) (iI l) (iI g) q = some (iI ((25 * p + l) * 50 + g), q) := by
  unfold f_Model_at
  rw [show (25 : Int32) = iI 25 by decide, show (50 : Int32) = iI 50 by decide]
  simp only [iI_mul, iI_add]
theorem m_isLess {a s a' s' : Int} {q : zH} (ha1 : -1 ≤ a) (ha2 : a < 1000000000000000) (hb1 : -1 ≤ a') (hb2 : a' < 1000000000000000) (hs1 : -1000000 ≤ s) (hs2 : s < 1000000) (hs3 : -1000000 ≤ s') (hs4 : s' < 1000000) : f_Model_isLess N b (iJ a) (iI s) (iJ a') (iI s') q = some (b1 (decide (a' < 0 ∨ a < a' ∨ (a = a' ∧ s < s'))), q) := by
  unfold f_Model_isLess f_Model_isLess_27
  simp only [iJ_0, zrb_1, zrb_0]
  simp (disch := omega) only [lgc_neg, lgc_0, iI_le]
  by_cases c1 : a' < 0
  · rw [if_pos c1]; simp [c1, b1]
  · rw [if_neg c1]
    by_cases c2 : a < a'
    · rw [if_pos c2]; simp [c2, b1]
    · rw [if_neg c2]
      by_cases c3 : a = a'
      · rw [if_pos c3]
        by_cases c4 : s' ≤ s
        · rw [if_pos c4, show decide (a' < 0 ∨ a < a' ∨ (a = a' ∧ s < s')) = false by simp; omega]; rfl
        · rw [if_neg c4, show decide (a' < 0 ∨ a < a' ∨ (a = a' ∧ s < s')) = true by simp; omega]; rfl
      · rw [if_neg c3, show decide (a' < 0 ∨ a < a' ∨ (a = a' ∧ s < s')) = false by simp; omega]; rfl
end MBEST
theorem c_sp_spec {c : cfg} (hc : cOK c) {p : Nat} : (c_sp c p = -1 ∧ ∀ k, ¬ c_at c k p) ∨ ∃ k : Nat, c_sp c p = k ∧ c_at c k p ∧ ∀ k', c_at c k' p → k' = k := by
  have hK := hc.2.2.2.2.2.1
  have gen : ∀ K : Nat, K ≤ (c.1 10).toNat → (spL c p K = -1 ∧ ∀ k : Nat, k < K → ¬ c.2 6 k = p) ∨ ∃ k : Nat, k < K ∧ spL c p K = k ∧ c.2 6 k = p := by
    intro K
    induction K with
    | zero => exact fun _ => Or.inl ⟨rfl, fun k hk => absurd hk (Nat.not_lt_zero _)⟩
    | succ K ih =>
      intro hle
      unfold spL
      by_cases a : c.2 6 K = p
      · rw [if_pos a]; exact Or.inr ⟨K, Nat.lt_succ_self _, rfl, a⟩
      · rw [if_neg a]
        rcases ih (by omega) with ⟨e, hn⟩ | ⟨k, hk, e, hp⟩
        · refine Or.inl ⟨e, fun k hk => ?_⟩
          by_cases hkK : k = K
          · subst hkK; exact a
          · exact hn k (by omega)
        · exact Or.inr ⟨k, by omega, e, hp⟩
  rcases gen (c.1 10).toNat (Nat.le_refl _) with ⟨e, hn⟩ | ⟨k, hk, e, hp⟩
  · refine Or.inl ⟨e, fun k hk => hn k ?_ hk.2.1⟩
    have := hk.1; omega
  · have hkc : (k : Int) < c.1 10 := by omega
    obtain ⟨⟨r1, r2, r3⟩, -⟩ := hc.2.2.2.2.2.2.2.1 k hkc
    refine Or.inr ⟨k, e, ⟨hkc, hp, by omega⟩, fun k' hk' => ?_⟩
    by_cases hkk : k' = k
    · exact hkk
    · obtain ⟨⟨q1, q2, q3⟩, -⟩ := hc.2.2.2.2.2.2.2.1 k' hk'.1
      have := hc.2.2.2.2.2.2.2.2 k' k hk'.1 hkc hkk
      have := hk'.2.1
      omega
