/-! the reference: the beginning of search, the first level -/
section MSEARCH2
variable {h : zH} {b : Nat} {c : cfg} {N : Nat}
theorem Dn_last {I : Nat → Nat → Int32} {J : Nat → Nat → Int64} {l g : Int} : Dn (u2 I 11 (ix (nn c) l g) (iI 0)) (u2 J 10 (ix (nn c) l g) (iJ 0)) c (nn c) l g := by
  refine Dn.new (o := some (0, 0)) ⟨rfl, rfl⟩ ⟨⟨⟨by decide, by show (0 : Int) ≤ _; omega⟩, by decide, by show (0 : Int) ≤ _; omega⟩, ?_, fun v hv => ?_⟩
  · rw [SV_n (Nat.le_refl _)]; rfl
  · rw [SV_n (Nat.le_refl _)] at hv; subst hv; decide
def Inv1 (I : Nat → Nat → Int32) (J : Nat → Nat → Int64) (c : cfg) (l g : Int) : Prop := ∀ l' g' : Int, 0 ≤ l' → l' ≤ c.1 1 → 0 ≤ g' → g' ≤ 49 → (l' < l ∨ (l' = l ∧ g' < g)) → Dn I J c (nn c) l' g'
theorem mse_12 (hc : cOK c) (r2 : Nat → Int32 → zH → Option (Int32 × zH)) {l : Int} (hl1 : 0 ≤ l) (hl2 : l ≤ c.1 1) : ∀ (d fu : Nat) (g : Int) (I : Nat → Nat → Int32) (J : Nat → Nat → Int64), g + d = 50 → 0 ≤ g → d < fu → MC I J c → Inv1 I J c l g →
    ∃ I' J', SameT I J I' J' ∧ Inv1 I' J' c (l + 1) 0 ∧ f_Model_search_12 N r2 fu b (iI l) (iI g) (MH h b I J) = r2 b (iI (l + 1)) (MH h b I' J') := by
  obtain ⟨n1, n2, n3⟩ := nn_r hc
  have hm := hc.2.1
  have e50 : (50 : Int32) = iI 50 := by decide
  intro d
  induction d with
  | zero =>
    intro fu g I J hd hg hf hM hI
    obtain ⟨fu, rfl⟩ : ∃ q, fu = q + 1 := ⟨fu - 1, by omega⟩
    refine ⟨I, J, SameT.rfl, fun l' g' a1 a2 a3 a4 a5 => hI l' g' a1 a2 a3 a4 (by omega), ?_⟩
    show b_Model_search_12 N r2 (f_Model_search_12 N r2 fu) b (iI l) (iI g) (MH h b I J) = _
    unfold b_Model_search_12
    rw [e50, if_pos ((iI_le (by omega) (by omega) (by omega) (by omega)).mpr (by omega)), iI_1, iI_add]
  | succ d ih =>
    intro fu g I J hd hg hf hM hI
    obtain ⟨fu, rfl⟩ : ∃ q, fu = q + 1 := ⟨fu - 1, by omega⟩
    obtain ⟨hix, hixc⟩ := ix_in (p := nn c) (l := l) (g := g) (by omega) hl1 (by omega) hg (by omega)
    have hI1 : Inv1 (u2 I 11 (ix (nn c) l g) (iI 0)) (u2 J 10 (ix (nn c) l g) (iJ 0)) c l (g + 1) := by
      intro l' g' a1 a2 a3 a4 a5
      by_cases hsame : l' = l ∧ g' = g
      · obtain ⟨rfl, rfl⟩ := hsame
        exact Dn_last
      · refine Dn.put (hI l' g' a1 a2 a3 a4 (by omega)) (fun ee => ?_)
        have := ix_inj a1 (by omega) a3 a4 hl1 (by omega) hg (by omega) ee
        exact hsame ⟨this.2.1, this.2.2⟩
    obtain ⟨I', J', hS, hI', hgo'⟩ := ih fu (g + 1) _ _ (by omega) (by omega) (by omega) (hM.same SameT.put) hI1
    refine ⟨I', J', SameT.put.trans hS, hI', ?_⟩
    show b_Model_search_12 N r2 (f_Model_search_12 N r2 fu) b (iI l) (iI g) (MH h b I J) = _
    unfold b_Model_search_12
    rw [e50, if_neg (fun z => by have := (iI_le (by omega) (by omega) (by omega) (by omega)).mp z; omega)]
    have hn0 : I 0 0 = iI (nn c) := by rw [n1]; exact hM.1.1
    simp only [m_rd, Option.bind_some, hn0, m_at, ms_10 hix, ms_11 hix, hixc]
    rw [← hgo', iI_1, iI_add, iI_0, iJ_0]
theorem mse_2 (hc : cOK c) (hN : 60 ≤ N) : ∀ (d fu : Nat) (l : Int) (I : Nat → Nat → Int32) (J : Nat → Nat → Int64), l + d = c.1 1 + 1 → 0 ≤ l → d < fu → MC I J c → Inv1 I J c l 0 →
    ∃ I' J', SameT I J I' J' ∧ Inv1 I' J' c (c.1 1 + 1) 0 ∧ f_Model_search_2 N fu b (iI l) (MH h b I J) = f_Model_search_67 N N b (iI ((nn c : Int) - 1)) (MH h b I' J') := by
  obtain ⟨n1, n2, n3⟩ := nn_r hc
  have hm := hc.2.1
  intro d
  induction d with
  | zero =>
    intro fu l I J hd hl hf hM hI
    obtain ⟨fu, rfl⟩ : ∃ q, fu = q + 1 := ⟨fu - 1, by omega⟩
    refine ⟨I, J, SameT.rfl, by rw [show c.1 1 + 1 = l by omega]; exact hI, ?_⟩
    show b_Model_search_2 N (f_Model_search_2 N fu) b (iI l) (MH h b I J) = _
    unfold b_Model_search_2
    have hn0 : I 0 0 = iI (nn c) := by rw [n1]; exact hM.1.1
    simp only [m_rd, Option.bind_some, hM.1.2.1, hn0, iI_1, iI_sub]
    rw [if_pos ((iI_lt (by omega) (by omega) (by omega) (by omega)).mpr (by omega))]
  | succ d ih =>
    intro fu l I J hd hl hf hM hI
    obtain ⟨fu, rfl⟩ : ∃ q, fu = q + 1 := ⟨fu - 1, by omega⟩
    obtain ⟨I1, J1, hS1, hI1, hgo1⟩ := mse_12 (h := h) (b := b) (N := N) hc (f_Model_search_2 N fu) hl (by omega) 50 N 0 I J (by omega) (by omega) (by omega) hM hI
    obtain ⟨I2, J2, hS2, hI2, hgo2⟩ := ih fu (l + 1) I1 J1 (by omega) (by omega) (by omega) (hM.same hS1) hI1
    refine ⟨I2, J2, hS1.trans hS2, hI2, ?_⟩
    show b_Model_search_2 N (f_Model_search_2 N fu) b (iI l) (MH h b I J) = _
    unfold b_Model_search_2
    simp only [m_rd, Option.bind_some, hM.1.2.1]
    rw [if_neg (fun z => by have := (iI_lt (by omega) (by omega) (by omega) (by omega)).mp z; omega), iI_0, hgo1, hgo2]
/-- the tables are filled: search ends in the look for a first level -/
theorem m_search_t {I : Nat → Nat → Int32} {J : Nat → Nat → Int64} (hc : cOK c) (hN : 60 ≤ N) (hM : MC I J c) :
    ∃ I' J', SameT I J I' J' ∧ TB I' J' c 0 ∧ (∀ l : Int, 0 ≤ l → l ≤ c.1 1 → Dn I' J' c 0 l 49) ∧ f_Model_search N b (MH h b I J) = msFin N b (MH h b I' J') := by
  obtain ⟨n1, n2, n3⟩ := nn_r hc
  have hm := hc.2.1
  have hmo := hc.2.2.1
  obtain ⟨I1, J1, hS1, hI1, hgo1⟩ := mse_2 (h := h) (b := b) (N := N) hc hN (c.1 1 + 1).toNat N 0 I J (by omega) (by omega) (by omega) hM (fun l' g' a1 a2 a3 a4 a5 => absurd a5 (by omega))
  have hT : TB I1 J1 c (nn c - 1) := by
    intro q l s h1 h2 h3 h4 h5 h6
    have hq : q = nn c := by omega
    subst hq
    exact hI1 l (s + 24) h3 h4 (by omega) (by omega) (by omega)
  obtain ⟨I2, J2, hS2, hT2, hD2, hgo2⟩ := ms_67 (h := h) (b := b) (N := N) hc hN (nn c - 1) N I1 J1 (by omega) (by omega) (hM.same hS1) hT
  refine ⟨I2, J2, hS1.trans hS2, hT2, hD2, ?_⟩
  unfold f_Model_search
  rw [iI_0, hgo1, show (nn c : Int) - 1 = ((nn c - 1 : Nat) : Int) by omega, hgo2]
end MSEARCH2
