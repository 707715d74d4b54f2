/-! the reference: listAll, the rows of all states -/
/-- nothing but the rows and their lengths has changed -/
def SameM (I : Nat → Nat → Int32) (J : Nat → Nat → Int64) (I' : Nat → Nat → Int32) (J' : Nat → Nat → Int64) : Prop := (∀ i k, i ≠ 13 → I' i k = I i k) ∧ ∀ i k, i ≠ 12 → J' i k = J i k
theorem SameM.rfl {I : Nat → Nat → Int32} {J : Nat → Nat → Int64} : SameM I J I J := ⟨fun _ _ _ => Eq.refl _, fun _ _ _ => Eq.refl _⟩
theorem SameM.trans {I I' I2 : Nat → Nat → Int32} {J J' J2 : Nat → Nat → Int64} (h : SameM I J I' J') (h2 : SameM I' J' I2 J2) : SameM I J I2 J2 := ⟨fun i k hi => (h2.1 i k hi).trans (h.1 i k hi), fun i k hi => (h2.2 i k hi).trans (h.2 i k hi)⟩
theorem SameL.m {I I' : Nat → Nat → Int32} {J J' : Nat → Nat → Int64} {st : Nat} (h : SameL I J I' J' st) : SameM I J I' J' := ⟨fun i k hi => h.1 i k (Or.inl hi), fun i k hi => h.2 i k (Or.inl hi)⟩
theorem MC.sameM {I I' : Nat → Nat → Int32} {J J' : Nat → Nat → Int64} {c : cfg} (h : MC I J c) (hS : SameM I J I' J') : MC I' J' c := by
  obtain ⟨⟨a1, a2, a3, a4, a5, a6⟩, hb, hk⟩ := h
  refine ⟨⟨?_, ?_, ?_, ?_, ?_, ?_⟩, fun p hp => ?_, fun k hkk => ?_⟩
  · rw [hS.1 0 0 (by omega)]; exact a1
  · rw [hS.1 0 1 (by omega)]; exact a2
  · rw [hS.1 0 7 (by omega)]; exact a3
  · rw [hS.1 0 8 (by omega)]; exact a4
  · rw [hS.1 0 9 (by omega)]; exact a5
  · rw [hS.1 0 10 (by omega)]; exact a6
  · rw [hS.1 1 p (by omega), hS.1 2 p (by omega), hS.1 3 p (by omega), hS.1 4 p (by omega), hS.1 5 p (by omega)]; exact hb p hp
  · rw [hS.1 6 k (by omega), hS.1 7 k (by omega), hS.1 8 k (by omega), hS.2 9 k (by omega)]; exact hk k hkk
def Inv2l (I : Nat → Nat → Int32) (J : Nat → Nat → Int64) (c : cfg) (p : Nat) (l g : Int) : Prop := TL I J c p ∧ ∀ l' g' : Int, 0 ≤ l' → l' ≤ c.1 1 → glo c p ≤ g' → g' ≤ ghi c p → (l' < l ∨ (l' = l ∧ g' < g)) → Dl I J c p l' g'
section MLISTALL
variable {h : zH} {b : Nat} {c : cfg} {N : Nat}
theorem mla_101 (hc : cOK c) (hN : 60 ≤ N) (r70 : Nat → Int32 → zH → Option (Unit × zH)) (r76 : Nat → Int32 → Int32 → zH → Option (Unit × zH)) {p : Nat} (hp : p < nn c) {l : Int} (hl1 : 0 ≤ l) (hl2 : l ≤ c.1 1) : ∀ (d fu : Nat) (g : Int) (I : Nat → Nat → Int32) (J : Nat → Nat → Int64), g + d = ghi c p + 1 → glo c p ≤ g → d < fu → MC I J c → Inv2l I J c p l g →
    ∃ I' J', SameM I J I' J' ∧ Inv2l I' J' c p (l + 1) (glo c p) ∧ f_Model_listAll_101 N r70 r76 fu b (iI p) (iI l) (iI g) (MH h b I J) = r76 b (iI p) (iI (l + 1)) (MH h b I' J') := by
  obtain ⟨n1, n2, n3⟩ := nn_r hc
  obtain ⟨g1, g2, g3, g4⟩ := gr_r hc p
  have hmo := hc.2.2.1
  have hm := hc.2.1
  have e49 : (49 : Int32) = iI 49 := by decide
  have e24 : (24 : Int32) = iI 24 := by decide
  intro d
  induction d with
  | zero =>
    intro fu g I J hd hg hf hM hI
    obtain ⟨fu, rfl⟩ : ∃ q, fu = q + 1 := ⟨fu - 1, by omega⟩
    refine ⟨I, J, SameM.rfl, ⟨hI.1, fun l' g' a1 a2 a3 a4 a5 => hI.2 l' g' a1 a2 a3 a4 (by omega)⟩, ?_⟩
    show b_Model_listAll_101 N r70 r76 (f_Model_listAll_101 N r70 r76 fu) b (iI p) (iI l) (iI g) (MH h b I J) = _
    unfold b_Model_listAll_101 f_Model_listAll_118
    simp only [m_rd, Option.bind_some, hM.1.2.2.1, e49, e24, iI_add, iI_1]
    unfold ghi at hd
    by_cases h0 : p = 0
    · rw [if_pos h0] at hd
      rw [if_pos (by rw [h0]; rfl), if_pos ((iI_lt (by omega) (by omega) (by omega) (by omega)).mpr (by omega))]
    · rw [if_neg h0] at hd
      rw [if_neg (fun z => by have := (iI_ez (by omega) (by omega)).mp z; omega), if_pos ((iI_lt (by omega) (by omega) (by omega) (by omega)).mpr (by omega))]
  | succ d ih =>
    intro fu g I J hd hg hf hM hI
    obtain ⟨fu, rfl⟩ : ∃ q, fu = q + 1 := ⟨fu - 1, by omega⟩
    obtain ⟨I1, J1, hS1, hD1, hgo⟩ := m_list (h := h) (b := b) (N := N) hc hN hM hp hl1 hl2 (show 0 ≤ g by omega) (show g ≤ 49 by omega) hI.1
    have hI1 : Inv2l I1 J1 c p l (g + 1) := by
      refine ⟨hI.1.other hc hS1 hl1 hl2 (by omega) (by omega), fun l' g' a1 a2 a3 a4 a5 => ?_⟩
      by_cases hsame : l' = l ∧ g' = g
      · obtain ⟨rfl, rfl⟩ := hsame
        exact hD1
      · refine Dl.other (hI.2 l' g' a1 a2 a3 a4 (by omega)) hS1 (fun ee => ?_)
        have := ix_inj a1 (by omega) (by omega) (by omega) hl1 (by omega) (by omega) (by omega) ee
        exact hsame ⟨this.2.1, this.2.2⟩
    obtain ⟨I', J', hS, hI', hgo'⟩ := ih fu (g + 1) _ _ (by omega) (by omega) (by omega) (hM.sameL hS1) hI1
    refine ⟨I', J', hS1.m.trans hS, hI', ?_⟩
    show b_Model_listAll_101 N r70 r76 (f_Model_listAll_101 N r70 r76 fu) b (iI p) (iI l) (iI g) (MH h b I J) = _
    unfold b_Model_listAll_101 f_Model_listAll_118
    simp only [m_rd, Option.bind_some, hM.1.2.2.1, e49, e24, iI_add, zck_t, hgo]
    simp only [iI_1, iI_add]
    rw [hgo']
    unfold ghi at hd
    by_cases h0 : p = 0
    · rw [if_pos h0] at hd
      rw [if_pos (by rw [h0]; rfl), if_neg (fun z => by have := (iI_lt (by omega) (by omega) (by omega) (by omega)).mp z; omega)]
    · rw [if_neg h0] at hd
      rw [if_neg (fun z => by have := (iI_ez (by omega) (by omega)).mp z; omega), if_neg (fun z => by have := (iI_lt (by omega) (by omega) (by omega) (by omega)).mp z; omega)]
theorem mla_76 (hc : cOK c) (hN : 60 ≤ N) (r70 : Nat → Int32 → zH → Option (Unit × zH)) {p : Nat} (hp : p < nn c) : ∀ (d fu : Nat) (l : Int) (I : Nat → Nat → Int32) (J : Nat → Nat → Int64), l + d = c.1 1 + 1 → 0 ≤ l → d < fu → MC I J c → Inv2l I J c p l (glo c p) →
    ∃ I' J', SameM I J I' J' ∧ Inv2l I' J' c p (c.1 1 + 1) (glo c p) ∧ f_Model_listAll_76 N r70 fu b (iI p) (iI l) (MH h b I J) = r70 b (iI (p - 1)) (MH h b I' J') := by
  obtain ⟨n1, n2, n3⟩ := nn_r hc
  obtain ⟨g1, g2, g3, g4⟩ := gr_r hc p
  have hmo := hc.2.2.1
  have hm := hc.2.1
  have e49 : (49 : Int32) = iI 49 := by decide
  have e24 : (24 : Int32) = iI 24 := by decide
  intro d
  induction d with
  | zero =>
    intro fu l I J hd hl hf hM hI
    obtain ⟨fu, rfl⟩ : ∃ q, fu = q + 1 := ⟨fu - 1, by omega⟩
    refine ⟨I, J, SameM.rfl, by rw [show c.1 1 + 1 = l by omega]; exact hI, ?_⟩
    show b_Model_listAll_76 N r70 (f_Model_listAll_76 N r70 fu) b (iI p) (iI l) (MH h b I J) = _
    unfold b_Model_listAll_76
    simp only [m_rd, Option.bind_some, hM.1.2.1, iI_m1, iI_add]
    rw [if_pos ((iI_lt (by omega) (by omega) (by omega) (by omega)).mpr (by omega))]
    rfl
  | succ d ih =>
    intro fu l I J hd hl hf hM hI
    obtain ⟨fu, rfl⟩ : ∃ q, fu = q + 1 := ⟨fu - 1, by omega⟩
    obtain ⟨I1, J1, hS1, hI1, hgo1⟩ := mla_101 (h := h) (b := b) (N := N) hc hN r70 (f_Model_listAll_76 N r70 fu) hp hl (by omega) (ghi c p + 1 - glo c p).toNat N (glo c p) I J (by omega) (by omega) (by omega) hM hI
    obtain ⟨I2, J2, hS2, hI2, hgo2⟩ := ih fu (l + 1) I1 J1 (by omega) (by omega) (by omega) (hM.sameM hS1) hI1
    refine ⟨I2, J2, hS1.trans hS2, hI2, ?_⟩
    show b_Model_listAll_76 N r70 (f_Model_listAll_76 N r70 fu) b (iI p) (iI l) (MH h b I J) = _
    unfold b_Model_listAll_76 f_Model_listAll_100
    simp only [m_rd, Option.bind_some, hM.1.2.1, hM.1.2.2.1, e49, e24, iI_sub]
    rw [if_neg (fun z => by have := (iI_lt (by omega) (by omega) (by omega) (by omega)).mp z; omega)]
    rw [← hgo2, ← hgo1]
    unfold glo
    by_cases h0 : p = 0
    · rw [if_pos (by rw [h0]; rfl), if_pos h0]
    · rw [if_neg (fun z => by have := (iI_ez (by omega) (by omega)).mp z; omega), if_neg h0]
theorem Inv2l.next {I : Nat → Nat → Int32} {J : Nat → Nat → Int64} {p : Nat} (hI : Inv2l I J c (p + 1) (c.1 1 + 1) (glo c (p + 1))) : TL I J c p := by
  intro q l s h1 h2 h3 h4 h5 h6
  by_cases hq : q = p + 1
  · subst hq
    refine hI.2 l (s + 24) h3 h4 ?_ ?_ (by omega)
    · unfold glo; rw [if_neg (by omega)]; omega
    · unfold ghi; rw [if_neg (by omega)]; omega
  · exact hI.1 q l s (by omega) h2 h3 h4 h5 h6
/-- the end of listAll: the rows of the first place are joined -/
def mlFin (N b : Nat) (q : zH) : Option (Unit × zH) := Option.bind (zp q b 0 20 (.int (0 : Int32))) fun (h18 : zH) => f_Model_listAll_153 N N b (0 : Int32) h18
theorem mla_70 (hc : cOK c) (hN : 60 ≤ N) : ∀ (p fu : Nat) (I : Nat → Nat → Int32) (J : Nat → Nat → Int64), p < nn c → p + 1 < fu → MC I J c → TL I J c p →
    ∃ I' J', SameM I J I' J' ∧ (∀ l : Int, 0 ≤ l → l ≤ c.1 1 → Dl I' J' c 0 l 49) ∧ f_Model_listAll_70 N fu b (iI p) (MH h b I J) = mlFin N b (MH h b I' J') := by
  obtain ⟨n1, n2, n3⟩ := nn_r hc
  have hm := hc.2.1
  intro p
  induction p with
  | zero =>
    intro fu I J hp hf hM hT
    obtain ⟨fu, rfl⟩ : ∃ q, fu = q + 1 := ⟨fu - 1, by omega⟩
    obtain ⟨fu, rfl⟩ : ∃ q, fu = q + 1 := ⟨fu - 1, by omega⟩
    obtain ⟨I1, J1, hS1, hI1, hgo1⟩ := mla_76 (h := h) (b := b) (N := N) hc hN (f_Model_listAll_70 N (fu + 1)) hp (c.1 1 + 1).toNat N 0 I J (by omega) (by omega) (by omega) hM ⟨hT, fun l' g' a1 a2 a3 a4 a5 => absurd a5 (by omega)⟩
    refine ⟨I1, J1, hS1, fun l a1 a2 => hI1.2 l 49 a1 a2 (by simp [glo]) (by simp [ghi]) (by omega), ?_⟩
    show b_Model_listAll_70 N (f_Model_listAll_70 N (fu + 1)) b (iI ((0 : Nat) : Int)) (MH h b I J) = _
    unfold b_Model_listAll_70
    rw [if_neg (fun z => by have := (iI_lz (by omega) (by omega)).mp z; omega)]
    have hgo1' := hgo1
    rw [← iI_0] at hgo1'
    rw [hgo1']
    show b_Model_listAll_70 N (f_Model_listAll_70 N fu) b (iI (((0 : Nat) : Int) - 1)) (MH h b I1 J1) = _
    unfold b_Model_listAll_70 mlFin
    rw [if_pos ((iI_lz (by omega) (by omega)).mpr (by omega))]
  | succ p ih =>
    intro fu I J hp hf hM hT
    obtain ⟨fu, rfl⟩ : ∃ q, fu = q + 1 := ⟨fu - 1, by omega⟩
    obtain ⟨I1, J1, hS1, hI1, hgo1⟩ := mla_76 (h := h) (b := b) (N := N) hc hN (f_Model_listAll_70 N fu) hp (c.1 1 + 1).toNat N 0 I J (by omega) (by omega) (by omega) hM ⟨hT, fun l' g' a1 a2 a3 a4 a5 => absurd a5 (by omega)⟩
    obtain ⟨I2, J2, hS2, hD2, hgo2⟩ := ih fu I1 J1 (by omega) (by omega) (hM.sameM hS1) hI1.next
    refine ⟨I2, J2, hS1.trans hS2, hD2, ?_⟩
    show b_Model_listAll_70 N (f_Model_listAll_70 N fu) b (iI ((p + 1 : Nat) : Int)) (MH h b I J) = _
    unfold b_Model_listAll_70
    rw [if_neg (fun z => by have := (iI_lz (by omega) (by omega)).mp z; omega)]
    have hgo1' := hgo1
    rw [← iI_0] at hgo1'
    rw [hgo1', show (((p + 1 : Nat) : Int) - 1) = (p : Int) by omega, hgo2]
end MLISTALL
