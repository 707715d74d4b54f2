/-! the reference: whether a span may be used -/
section MUSE
variable {h : zH} {b : Nat} {I : Nat → Nat → Int32} {J : Nat → Nat → Int64} {c : cfg} {N : Nat}
/-- one place of a span -/
def c_u1 (c : cfg) (k : Nat) (l s : Int) (j : Nat) : Bool := c_ok c ((c.2 6 k).toNat + (j + 1)) (l + s * (j + 1)) && (decide ((j : Int) + 1 = c.2 7 k - c.2 6 k) || c_clear c k ((c.2 6 k).toNat + (j + 1)) (l + s * (j + 1)))
theorem c_use_eq (c : cfg) (k : Nat) (l s : Int) : c_use c k l s = (List.range (c.2 7 k - c.2 6 k).toNat).all (c_u1 c k l s) := rfl
theorem all_false {f : Nat → Bool} {j m : Nat} (hj : j < m) (hf : f j = false) : (List.range m).all f = false := by
  rw [List.all_eq_false]
  exact ⟨j, List.mem_range.mpr hj, by simp [hf]⟩
theorem m_mayUse_0 (hM : MC I J c) {k : Nat} (hk : (k : Int) < c.1 10) (hc : cOK c) {x3 x5 x6 : Int32} {fu : Nat} (hf : 0 < fu) : f_Model_mayUse_16 N fu b (iI k) x3 (0 : Int32) x5 x6 (MH h b I J) = some (0, MH h b I J) := by
  obtain ⟨fu, rfl⟩ : ∃ q, fu = q + 1 := ⟨fu - 1, by omega⟩
  show b_Model_mayUse_16 N (f_Model_mayUse_16 N fu) b (iI k) x3 0 x5 x6 (MH h b I J) = _
  have hK := hc.2.2.2.2.2.1
  have hin : vp_in (iI k) 6 := iI_in (by omega) (by omega) (by omega)
  unfold b_Model_mayUse_16
  simp only [m_rd, Option.bind_some, ma_7 hin, if_true, zrb_0, ite_self]
theorem m_mayUse_l (hc : cOK c) (hM : MC I J c) {k : Nat} (hk : (k : Int) < c.1 10) {l s : Int} (hl1 : 0 ≤ l) (hl2 : l ≤ 24) (hs1 : -24 ≤ s) (hs2 : s ≤ 24) : ∀ (d j fu : Nat), j + d = (c.2 7 k - c.2 6 k).toNat → d + 1 < fu → (List.range j).all (c_u1 c k l s) = true →
    f_Model_mayUse_16 N fu b (iI k) (iI s) (1 : Int32) (iI (l + s * j)) (iI (c.2 6 k + 1 + j)) (MH h b I J) = some (b1 (c_use c k l s), MH h b I J) := by
  have hK := hc.2.2.2.2.2.1
  have hn := hc.1
  have hm := hc.2.1
  obtain ⟨⟨r1, r2, r3⟩, r8, -⟩ := hc.2.2.2.2.2.2.2.1 k hk
  obtain ⟨e6, e7, e8, -⟩ := hM.2.2 k hk
  have hin : vp_in (iI k) 6 := iI_in (by omega) (by omega) (by omega)
  have hcl : (iI k).toNatClampNeg = k := by rw [iI_cl (by omega) (by omega)]; rfl
  intro d
  induction d with
  | zero =>
    intro j fu hj hf hall
    obtain ⟨fu, rfl⟩ : ∃ q, fu = q + 1 := ⟨fu - 1, by omega⟩
    show b_Model_mayUse_16 N (f_Model_mayUse_16 N fu) b (iI k) (iI s) 1 _ _ (MH h b I J) = _
    unfold b_Model_mayUse_16
    simp only [m_rd, Option.bind_some, ma_7 hin, hcl, e7]
    rw [if_pos ((iI_lt (by omega) (by omega) (by omega) (by omega)).mpr (by omega)), c_use_eq, show (c.2 7 k - c.2 6 k).toNat = j by omega, hall]
    rfl
  | succ d ih =>
    intro j fu hj hf hall
    obtain ⟨fu, rfl⟩ : ∃ q, fu = q + 1 := ⟨fu - 1, by omega⟩
    show b_Model_mayUse_16 N (f_Model_mayUse_16 N fu) b (iI k) (iI s) 1 _ _ (MH h b I J) = _
    have hjs : -576 ≤ s * (j : Int) ∧ s * (j : Int) ≤ 576 := by
      have hj24 : (j : Int) ≤ 24 := by omega
      have hj0 : (0 : Int) ≤ j := by omega
      constructor
      · have := Int.mul_le_mul_of_nonneg_right hs1 hj0; omega
      · have := Int.mul_le_mul_of_nonneg_right hs2 hj0; omega
    have hlev : l + s * (j : Int) + s = l + s * ((j : Int) + 1) := by rw [Int.mul_add, Int.mul_one]; omega
    have hq : (c.2 6 k + 1 + (j : Int)) = (((c.2 6 k).toNat + (j + 1) : Nat) : Int) := by omega
    have hp : (c.2 6 k).toNat + (j + 1) < 25 := by omega
    have hinq : vp_in (iI (((c.2 6 k).toNat + (j + 1) : Nat) : Int)) 25 := iI_in (by omega) (by omega) (by omega)
    have hclq : (iI (((c.2 6 k).toNat + (j + 1) : Nat) : Int)).toNatClampNeg = (c.2 6 k).toNat + (j + 1) := by rw [iI_cl (by omega) (by omega)]; rfl
    obtain ⟨g1, -⟩ := hM.2.1 _ hp
    obtain ⟨gr1, -⟩ := hc.2.2.2.2.2.2.1 _ hp
    have hnext : ∀ v : Bool, c_u1 c k l s j = v → f_Model_mayUse_16 N fu b (iI k) (iI s) (b1 v) (iI (l + s * (j : Int) + s)) (iI (c.2 6 k + 1 + (j : Int)) + 1) (MH h b I J) = some (b1 (c_use c k l s), MH h b I J) := by
      intro v hv
      cases v with
      | true =>
        have := ih (j + 1) fu (by omega) (by omega) (by rw [List.range_succ, List.all_append, hall]; simp [hv])
        rw [show ((j + 1 : Nat) : Int) = (j : Int) + 1 by omega] at this
        rw [hlev, iI_1, iI_add, show c.2 6 k + 1 + (j : Int) + 1 = c.2 6 k + 1 + ((j : Int) + 1) by omega]
        exact this
      | false =>
        rw [c_use_eq, all_false (j := j) (by omega) hv]
        exact m_mayUse_0 hM hk hc (by omega)
    have hu : c_u1 c k l s j = (c_ok c ((c.2 6 k).toNat + (j + 1)) (l + s * (j : Int) + s) && (decide ((j : Int) + 1 = c.2 7 k - c.2 6 k) || c_clear c k ((c.2 6 k).toNat + (j + 1)) (l + s * (j : Int) + s))) := by rw [hlev]; rfl
    have hn0 : ¬ ((1 : Int32) = 0) := by decide
    have e0 : (0 : Int32) = b1 false := rfl
    have e1 : (1 : Int32) = b1 true := rfl
    unfold b_Model_mayUse_16 f_Model_mayUse_85 f_Model_mayUse_89 f_Model_mayUse_90 f_Model_mayUse_112 f_Model_mayUse_113
    simp only [m_rd, zck_t, Option.bind_some, ma_7 hin, ma_8 hin, hcl, e7, e8, iI_add]
    rw [if_neg (fun q => by have := (iI_lt (by omega) (by omega) (by omega) (by omega)).mp q; omega), if_neg hn0]
    rw [hq] at hnext ⊢
    simp only [ma_1 hinq, hclq, g1, Option.bind_some, m_may hc hM hp (show (-2147483648 : Int) ≤ l + s * (j : Int) + s by omega) (show l + s * (j : Int) + s < 2147483648 by omega), b1_0, iI_0]
    simp (disch := omega) only [iI_eq, iI_lt]
    rw [← iI_0]
    by_cases ho : c_ok c ((c.2 6 k).toNat + (j + 1)) (l + s * (j : Int) + s) = true
    · by_cases hl : (j : Int) + 1 = c.2 7 k - c.2 6 k
      · have hv : c_u1 c k l s j = true := by rw [hu, ho]; simp [hl]
        rw [if_pos (by omega)]
        simp only [ho]
        exact hnext true hv
      · rw [if_neg (by omega)]
        rcases r8 with k0 | k1
        · rw [if_pos k0]
          by_cases hcl2 : l + s * (j : Int) + s < c.2 1 ((c.2 6 k).toNat + (j + 1))
          · have hv : c_u1 c k l s j = false := by rw [hu, ho]; simp [hl, c_clear, k0]; omega
            rw [if_pos hcl2]
            simp only [ho]
            exact hnext false hv
          · have hv : c_u1 c k l s j = true := by rw [hu, ho]; simp [hl, c_clear, k0]; omega
            rw [if_neg hcl2]
            simp only [ho]
            exact hnext true hv
        · rw [if_neg (by omega)]
          by_cases hcl2 : c.2 1 ((c.2 6 k).toNat + (j + 1)) < l + s * (j : Int) + s
          · have hv : c_u1 c k l s j = false := by rw [hu, ho]; simp [hl, c_clear, k1]; omega
            rw [if_pos hcl2]
            simp only [ho]
            exact hnext false hv
          · have hv : c_u1 c k l s j = true := by rw [hu, ho]; simp [hl, c_clear, k1]; omega
            rw [if_neg hcl2]
            simp only [ho]
            exact hnext true hv
    · have ho' : c_ok c ((c.2 6 k).toNat + (j + 1)) (l + s * (j : Int) + s) = false := by simpa using ho
      have hv : c_u1 c k l s j = false := by rw [hu, ho']; rfl
      have eb : b1 false = 0 := rfl
      simp only [ho', eb, if_true, ite_self]
      exact hnext false hv
theorem m_mayUse (hc : cOK c) (hM : MC I J c) (hN : 30 ≤ N) {k : Nat} (hk : (k : Int) < c.1 10) {l s : Int} (hl1 : 0 ≤ l) (hl2 : l ≤ 24) (hs1 : -24 ≤ s) (hs2 : s ≤ 24) : f_Model_mayUse N b (iI k) (iI l) (iI s) (MH h b I J) = some (b1 (c_use c k l s), MH h b I J) := by
  have hK := hc.2.2.2.2.2.1
  have hn := hc.1
  obtain ⟨⟨r1, r2, r3⟩, -⟩ := hc.2.2.2.2.2.2.2.1 k hk
  obtain ⟨e6, -⟩ := hM.2.2 k hk
  have hin : vp_in (iI k) 6 := iI_in (by omega) (by omega) (by omega)
  have hcl : (iI k).toNatClampNeg = k := by rw [iI_cl (by omega) (by omega)]; rfl
  unfold f_Model_mayUse
  simp only [m_rd, Option.bind_some, ma_6 hin, hcl, e6]
  have := m_mayUse_l (h := h) (b := b) (N := N) hc hM hk hl1 hl2 hs1 hs2 (c.2 7 k - c.2 6 k).toNat 0 N (by omega) (by omega) rfl
  rw [show l + s * ((0 : Nat) : Int) = l by simp, show c.2 6 k + 1 + ((0 : Nat) : Int) = c.2 6 k + 1 by simp] at this
  rw [iI_1, iI_add]
  exact this
end MUSE
