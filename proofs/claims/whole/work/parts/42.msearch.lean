/-! the reference: search, all states from the last place to the first -/
/-- nothing but the two tables of least values has changed -/
def SameT (I : Nat → Nat → Int32) (J : Nat → Nat → Int64) (I' : Nat → Nat → Int32) (J' : Nat → Nat → Int64) : Prop := (∀ i k, i ≠ 11 → I' i k = I i k) ∧ ∀ i k, i ≠ 10 → J' i k = J i k
theorem SameT.rfl {I : Nat → Nat → Int32} {J : Nat → Nat → Int64} : SameT I J I J := ⟨fun _ _ _ => Eq.refl _, fun _ _ _ => Eq.refl _⟩
theorem SameT.trans {I I' I2 : Nat → Nat → Int32} {J J' J2 : Nat → Nat → Int64} (h : SameT I J I' J') (h2 : SameT I' J' I2 J2) : SameT I J I2 J2 := ⟨fun i k hi => (h2.1 i k hi).trans (h.1 i k hi), fun i k hi => (h2.2 i k hi).trans (h.2 i k hi)⟩
theorem SameT.put {I : Nat → Nat → Int32} {J : Nat → Nat → Int64} {a d : Nat} {x : Int64} {y : Int32} : SameT I J (u2 I 11 a y) (u2 J 10 d x) := ⟨fun i k hi => u2_n (Or.inl hi), fun i k hi => u2_n (Or.inl hi)⟩
theorem MC.same {I I' : Nat → Nat → Int32} {J J' : Nat → Nat → Int64} {c : cfg} (h : MC I J c) (hS : SameT I J I' J') : MC I' J' c := by
  obtain ⟨⟨a1, a2, a3, a4, a5, a6⟩, hb, hk⟩ := h
  refine ⟨⟨?_, ?_, ?_, ?_, ?_, ?_⟩, fun p hp => ?_, fun k hkk => ?_⟩
  · rw [hS.1 0 0 (by omega)]; exact a1
  · rw [hS.1 0 1 (by omega)]; exact a2
  · rw [hS.1 0 7 (by omega)]; exact a3
  · rw [hS.1 0 8 (by omega)]; exact a4
  · rw [hS.1 0 9 (by omega)]; exact a5
  · rw [hS.1 0 10 (by omega)]; exact a6
  · rw [hS.1 1 p (by omega), hS.1 2 p (by omega), hS.1 3 p (by omega), hS.1 4 p (by omega), hS.1 5 p (by omega)]; exact hb p hp
  · rw [hS.1 6 k (by omega), hS.1 7 k (by omega), hS.1 8 k (by omega), hS.2 9 k (by omega)]; exact hk k hkk
/-- a state's least value stands in the tables -/
def Dn (I : Nat → Nat → Int32) (J : Nat → Nat → Int64) (c : cfg) (p : Nat) (l g : Int) : Prop := ∃ o, enc1 o (J 10 (ix p l g)) (I 11 (ix p l g)) ∧ best1 (SV c 1024 1 p l g) o (nn c - p)
theorem ix_inj {p p' : Nat} {l l' g g' : Int} (h1 : 0 ≤ l) (h2 : l ≤ 24) (h3 : 0 ≤ g) (h4 : g ≤ 49) (h1' : 0 ≤ l') (h2' : l' ≤ 24) (h3' : 0 ≤ g') (h4' : g' ≤ 49) (e : ix p l g = ix p' l' g') : p = p' ∧ l = l' ∧ g = g' := by
  unfold ix at e
  omega
theorem Dn.put {I : Nat → Nat → Int32} {J : Nat → Nat → Int64} {c : cfg} {p q : Nat} {l g l' g' : Int} {x : Int64} {y : Int32} (h : Dn I J c q l' g') (hne : ix q l' g' ≠ ix p l g) : Dn (u2 I 11 (ix p l g) y) (u2 J 10 (ix p l g) x) c q l' g' := by
  obtain ⟨o, e, hb⟩ := h
  refine ⟨o, ?_, hb⟩
  rw [u2_n (Or.inr hne), u2_n (Or.inr hne)]
  exact e
theorem Dn.new {I : Nat → Nat → Int32} {J : Nat → Nat → Int64} {c : cfg} {p : Nat} {l g : Int} {x : Int64} {y : Int32} {o : Option (Int × Int)} (e : enc1 o x y) (hb : best1 (SV c 1024 1 p l g) o (nn c - p)) : Dn (u2 I 11 (ix p l g) y) (u2 J 10 (ix p l g) x) c p l g :=
  ⟨o, by rw [u2_s, u2_s]; exact e, hb⟩
def glo (c : cfg) (p : Nat) : Int := if p = 0 then 49 else 24 - c.1 7
def ghi (c : cfg) (p : Nat) : Int := if p = 0 then 49 else 24 + c.1 7
/-- what stands when place p is at level l and slope number g -/
def Inv2 (I : Nat → Nat → Int32) (J : Nat → Nat → Int64) (c : cfg) (p : Nat) (l g : Int) : Prop := TB I J c p ∧ ∀ l' g' : Int, 0 ≤ l' → l' ≤ c.1 1 → glo c p ≤ g' → g' ≤ ghi c p → (l' < l ∨ (l' = l ∧ g' < g)) → Dn I J c p l' g'
section MSEARCH
variable {h : zH} {b : Nat} {c : cfg} {N : Nat}
theorem gr_r (hc : cOK c) (p : Nat) : 0 ≤ glo c p ∧ glo c p ≤ ghi c p ∧ ghi c p ≤ 49 ∧ ghi c p ≤ glo c p + 48 := by
  have := hc.2.2.1
  unfold glo ghi
  by_cases hp : p = 0
  · rw [if_pos hp, if_pos hp]; omega
  · rw [if_neg hp, if_neg hp]; omega
theorem TB.put {I : Nat → Nat → Int32} {J : Nat → Nat → Int64} (hc : cOK c) {p : Nat} {l g : Int} {x : Int64} {y : Int32} (hT : TB I J c p) (hl1 : 0 ≤ l) (hl2 : l ≤ c.1 1) (hg1 : 0 ≤ g) (hg2 : g ≤ 49) : TB (u2 I 11 (ix p l g) y) (u2 J 10 (ix p l g) x) c p := by
  have hmo := hc.2.2.1
  have hm := hc.2.1
  intro q l' s h1 h2 h3 h4 h5 h6
  refine Dn.put (hT q l' s h1 h2 h3 h4 h5 h6) (fun e => ?_)
  have := ix_inj h3 (by omega) (by omega) (by omega) hl1 (by omega) hg1 hg2 e
  omega
theorem ms_98 (hc : cOK c) (hN : 60 ≤ N) (r67 : Nat → Int32 → zH → Option (Int32 × zH)) (r73 : Nat → Int32 → Int32 → zH → Option (Int32 × zH)) {p : Nat} (hp : p < nn c) {l : Int} (hl1 : 0 ≤ l) (hl2 : l ≤ c.1 1) : ∀ (d fu : Nat) (g : Int) (I : Nat → Nat → Int32) (J : Nat → Nat → Int64), g + d = ghi c p + 1 → glo c p ≤ g → d < fu → MC I J c → Inv2 I J c p l g →
    ∃ I' J', SameT I J I' J' ∧ Inv2 I' J' c p (l + 1) (glo c p) ∧ f_Model_search_98 N r67 r73 fu b (iI p) (iI l) (iI g) (MH h b I J) = r73 b (iI p) (iI (l + 1)) (MH h b I' J') := by
  obtain ⟨n1, n2, n3⟩ := nn_r hc
  obtain ⟨g1, g2, g3, g4⟩ := gr_r hc p
  have hmo := hc.2.2.1
  have hm := hc.2.1
  have e49 : (49 : Int32) = iI 49 := by decide
  have e24 : (24 : Int32) = iI 24 := by decide
  intro d
  induction d with
  | zero =>
    intro fu g I J hd hg hf hM hI
    obtain ⟨fu, rfl⟩ : ∃ q, fu = q + 1 := ⟨fu - 1, by omega⟩
    refine ⟨I, J, SameT.rfl, ⟨hI.1, fun l' g' a1 a2 a3 a4 a5 => hI.2 l' g' a1 a2 a3 a4 (by omega)⟩, ?_⟩
    show b_Model_search_98 N r67 r73 (f_Model_search_98 N r67 r73 fu) b (iI p) (iI l) (iI g) (MH h b I J) = _
    unfold b_Model_search_98 f_Model_search_115
    simp only [m_rd, Option.bind_some, hM.1.2.2.1, e49, e24, iI_add, iI_1]
    unfold ghi at hd
    by_cases h0 : p = 0
    · rw [if_pos h0] at hd
      rw [if_pos (by rw [h0]; rfl), if_pos ((iI_lt (by omega) (by omega) (by omega) (by omega)).mpr (by omega))]
    · rw [if_neg h0] at hd
      rw [if_neg (fun z => by have := (iI_ez (by omega) (by omega)).mp z; omega), if_pos ((iI_lt (by omega) (by omega) (by omega) (by omega)).mpr (by omega))]
  | succ d ih =>
    intro fu g I J hd hg hf hM hI
    obtain ⟨fu, rfl⟩ : ∃ q, fu = q + 1 := ⟨fu - 1, by omega⟩
    obtain ⟨o, x, y, e, hb, hgo⟩ := m_workOut (h := h) (b := b) (N := N) hc hM hN hp hl1 hl2 (show 0 ≤ g by omega) (show g ≤ 49 by omega) hI.1
    have hI1 : Inv2 (u2 I 11 (ix p l g) y) (u2 J 10 (ix p l g) x) c p l (g + 1) := by
      refine ⟨hI.1.put hc hl1 hl2 (by omega) (by omega), fun l' g' a1 a2 a3 a4 a5 => ?_⟩
      by_cases hsame : l' = l ∧ g' = g
      · obtain ⟨rfl, rfl⟩ := hsame
        exact Dn.new e hb
      · refine Dn.put (hI.2 l' g' a1 a2 a3 a4 (by omega)) (fun ee => ?_)
        have := ix_inj a1 (by omega) (by omega) (by omega) hl1 (by omega) (by omega) (by omega) ee
        exact hsame ⟨this.2.1, this.2.2⟩
    obtain ⟨I', J', hS, hI', hgo'⟩ := ih fu (g + 1) _ _ (by omega) (by omega) (by omega) (hM.same SameT.put) hI1
    refine ⟨I', J', SameT.put.trans hS, hI', ?_⟩
    show b_Model_search_98 N r67 r73 (f_Model_search_98 N r67 r73 fu) b (iI p) (iI l) (iI g) (MH h b I J) = _
    unfold b_Model_search_98 f_Model_search_115
    simp only [m_rd, Option.bind_some, hM.1.2.2.1, e49, e24, iI_add, zck_t, hgo]
    simp only [iI_1, iI_add]
    rw [hgo']
    unfold ghi at hd
    by_cases h0 : p = 0
    · rw [if_pos h0] at hd
      rw [if_pos (by rw [h0]; rfl), if_neg (fun z => by have := (iI_lt (by omega) (by omega) (by omega) (by omega)).mp z; omega)]
    · rw [if_neg h0] at hd
      rw [if_neg (fun z => by have := (iI_ez (by omega) (by omega)).mp z; omega), if_neg (fun z => by have := (iI_lt (by omega) (by omega) (by omega) (by omega)).mp z; omega)]
theorem ms_73 (hc : cOK c) (hN : 60 ≤ N) (r67 : Nat → Int32 → zH → Option (Int32 × zH)) {p : Nat} (hp : p < nn c) : ∀ (d fu : Nat) (l : Int) (I : Nat → Nat → Int32) (J : Nat → Nat → Int64), l + d = c.1 1 + 1 → 0 ≤ l → d < fu → MC I J c → Inv2 I J c p l (glo c p) →
    ∃ I' J', SameT I J I' J' ∧ Inv2 I' J' c p (c.1 1 + 1) (glo c p) ∧ f_Model_search_73 N r67 fu b (iI p) (iI l) (MH h b I J) = r67 b (iI (p - 1)) (MH h b I' J') := by
  obtain ⟨n1, n2, n3⟩ := nn_r hc
  obtain ⟨g1, g2, g3, g4⟩ := gr_r hc p
  have hmo := hc.2.2.1
  have hm := hc.2.1
  have e49 : (49 : Int32) = iI 49 := by decide
  have e24 : (24 : Int32) = iI 24 := by decide
  intro d
  induction d with
  | zero =>
    intro fu l I J hd hl hf hM hI
    obtain ⟨fu, rfl⟩ : ∃ q, fu = q + 1 := ⟨fu - 1, by omega⟩
    refine ⟨I, J, SameT.rfl, by rw [show c.1 1 + 1 = l by omega]; exact hI, ?_⟩
    show b_Model_search_73 N r67 (f_Model_search_73 N r67 fu) b (iI p) (iI l) (MH h b I J) = _
    unfold b_Model_search_73
    simp only [m_rd, Option.bind_some, hM.1.2.1, iI_m1, iI_add]
    rw [if_pos ((iI_lt (by omega) (by omega) (by omega) (by omega)).mpr (by omega))]
    rfl
  | succ d ih =>
    intro fu l I J hd hl hf hM hI
    obtain ⟨fu, rfl⟩ : ∃ q, fu = q + 1 := ⟨fu - 1, by omega⟩
    obtain ⟨I1, J1, hS1, hI1, hgo1⟩ := ms_98 (h := h) (b := b) (N := N) hc hN r67 (f_Model_search_73 N r67 fu) hp hl (by omega) (ghi c p + 1 - glo c p).toNat N (glo c p) I J (by omega) (by omega) (by omega) hM hI
    obtain ⟨I2, J2, hS2, hI2, hgo2⟩ := ih fu (l + 1) I1 J1 (by omega) (by omega) (by omega) (hM.same hS1) hI1
    refine ⟨I2, J2, hS1.trans hS2, hI2, ?_⟩
    show b_Model_search_73 N r67 (f_Model_search_73 N r67 fu) b (iI p) (iI l) (MH h b I J) = _
    unfold b_Model_search_73 f_Model_search_97
    simp only [m_rd, Option.bind_some, hM.1.2.1, hM.1.2.2.1, e49, e24, iI_sub]
    rw [if_neg (fun z => by have := (iI_lt (by omega) (by omega) (by omega) (by omega)).mp z; omega)]
    rw [← hgo2, ← hgo1]
    unfold glo
    by_cases h0 : p = 0
    · rw [if_pos (by rw [h0]; rfl), if_pos h0]
    · rw [if_neg (fun z => by have := (iI_ez (by omega) (by omega)).mp z; omega), if_neg h0]
theorem Inv2.next {I : Nat → Nat → Int32} {J : Nat → Nat → Int64} (hc : cOK c) {p : Nat} (hI : Inv2 I J c (p + 1) (c.1 1 + 1) (glo c (p + 1))) : TB I J c p := by
  intro q l s h1 h2 h3 h4 h5 h6
  by_cases hq : q = p + 1
  · subst hq
    refine hI.2 l (s + 24) h3 h4 ?_ ?_ (by omega)
    · unfold glo; rw [if_neg (by omega)]; omega
    · unfold ghi; rw [if_neg (by omega)]; omega
  · exact hI.1 q l s (by omega) h2 h3 h4 h5 h6
/-- the end of search: a first level is sought -/
def msFin (N b : Nat) (q : zH) : Option (Int32 × zH) := Option.bind (f_Model_firstLevel N b q) fun (p5 : Int32 × zH) => if p5.1 < 0 then zrb (0 : Int32) p5.2 else zrb (1 : Int32) p5.2
theorem ms_67 (hc : cOK c) (hN : 60 ≤ N) : ∀ (p fu : Nat) (I : Nat → Nat → Int32) (J : Nat → Nat → Int64), p < nn c → p + 1 < fu → MC I J c → TB I J c p →
    ∃ I' J', SameT I J I' J' ∧ TB I' J' c 0 ∧ (∀ l : Int, 0 ≤ l → l ≤ c.1 1 → Dn I' J' c 0 l 49) ∧ f_Model_search_67 N fu b (iI p) (MH h b I J) = msFin N b (MH h b I' J') := by
  obtain ⟨n1, n2, n3⟩ := nn_r hc
  have hm := hc.2.1
  intro p
  induction p with
  | zero =>
    intro fu I J hp hf hM hT
    obtain ⟨fu, rfl⟩ : ∃ q, fu = q + 1 := ⟨fu - 1, by omega⟩
    obtain ⟨fu, rfl⟩ : ∃ q, fu = q + 1 := ⟨fu - 1, by omega⟩
    obtain ⟨I1, J1, hS1, hI1, hgo1⟩ := ms_73 (h := h) (b := b) (N := N) hc hN (f_Model_search_67 N (fu + 1)) hp (c.1 1 + 1).toNat N 0 I J (by omega) (by omega) (by omega) hM ⟨hT, fun l' g' a1 a2 a3 a4 a5 => absurd a5 (by omega)⟩
    refine ⟨I1, J1, hS1, hI1.1, fun l a1 a2 => hI1.2 l 49 a1 a2 (by simp [glo]) (by simp [ghi]) (by omega), ?_⟩
    show b_Model_search_67 N (f_Model_search_67 N (fu + 1)) b (iI ((0 : Nat) : Int)) (MH h b I J) = _
    unfold b_Model_search_67
    rw [if_neg (fun z => by have := (iI_lz (by omega) (by omega)).mp z; omega), iI_0, hgo1]
    show b_Model_search_67 N (f_Model_search_67 N fu) b (iI (((0 : Nat) : Int) - 1)) (MH h b I1 J1) = _
    unfold b_Model_search_67 msFin
    rw [if_pos ((iI_lz (by omega) (by omega)).mpr (by omega))]
    simp only [m_rd, zck_t]
  | succ p ih =>
    intro fu I J hp hf hM hT
    obtain ⟨fu, rfl⟩ : ∃ q, fu = q + 1 := ⟨fu - 1, by omega⟩
    obtain ⟨I1, J1, hS1, hI1, hgo1⟩ := ms_73 (h := h) (b := b) (N := N) hc hN (f_Model_search_67 N fu) hp (c.1 1 + 1).toNat N 0 I J (by omega) (by omega) (by omega) hM ⟨hT, fun l' g' a1 a2 a3 a4 a5 => absurd a5 (by omega)⟩
    obtain ⟨I2, J2, hS2, hT2, hD2, hgo2⟩ := ih fu I1 J1 (by omega) (by omega) (hM.same hS1) (hI1.next hc)
    refine ⟨I2, J2, hS1.trans hS2, hT2, hD2, ?_⟩
    show b_Model_search_67 N (f_Model_search_67 N fu) b (iI ((p + 1 : Nat) : Int)) (MH h b I J) = _
    unfold b_Model_search_67
    rw [if_neg (fun z => by have := (iI_lz (by omega) (by omega)).mp z; omega), iI_0, hgo1, show (((p + 1 : Nat) : Int) - 1) = (p : Int) by omega, hgo2]
end MSEARCH
