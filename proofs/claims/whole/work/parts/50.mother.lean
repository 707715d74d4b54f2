/-! the reference: listAll whole -/
section MOTHER
variable {h : zH} {b : Nat} {c : cfg} {N : Nat}
def Inv1l (I : Nat → Nat → Int32) (J : Nat → Nat → Int64) (c : cfg) (l g : Int) : Prop := ∀ l' g' : Int, 0 ≤ l' → l' ≤ c.1 1 → 0 ≤ g' → g' ≤ 49 → (l' < l ∨ (l' = l ∧ g' < g)) → Dl I J c (nn c) l' g'
theorem Dl_last {I : Nat → Nat → Int32} {J : Nat → Nat → Int64} {l g : Int} : Dl (u2 I 13 (ix (nn c) l g) (iI 1)) (u2 J 12 (6 * ix (nn c) l g) (iJ 0)) c (nn c) l g := by
  refine ⟨[0], ⟨⟨u2_s, by decide, by simp⟩, fun k x hk => ?_⟩, ⟨by simp, by decide, fun x hx => ?_, fun x hx => ?_⟩, fun x hx => ?_⟩
  · have : k = 0 := by have := (List.getElem?_eq_some_iff.mp hk).1; simp at this; omega
    subst this
    simp at hk
    rw [Nat.add_zero, u2_s, hk]
  · rw [SV_n (Nat.le_refl _)]; simpa using hx
  · rw [SV_n (Nat.le_refl _)] at hx; exact Or.inl (by simp [hx])
  · have : x = 0 := by simpa using hx
    subst this; omega
theorem mlb_12 (hc : cOK c) (r2 : Nat → Int32 → zH → Option (Unit × zH)) {l : Int} (hl1 : 0 ≤ l) (hl2 : l ≤ c.1 1) : ∀ (d fu : Nat) (g : Int) (I : Nat → Nat → Int32) (J : Nat → Nat → Int64), g + d = 50 → 0 ≤ g → d < fu → MC I J c → Inv1l I J c l g →
    ∃ I' J', SameM I J I' J' ∧ Inv1l I' J' c (l + 1) 0 ∧ f_Model_listAll_12 N r2 fu b (iI l) (iI g) (MH h b I J) = r2 b (iI (l + 1)) (MH h b I' J') := by
  obtain ⟨n1, n2, n3⟩ := nn_r hc
  have hm := hc.2.1
  have e50 : (50 : Int32) = iI 50 := by decide
  have e6 : (6 : Int32) = iI 6 := by decide
  intro d
  induction d with
  | zero =>
    intro fu g I J hd hg hf hM hI
    obtain ⟨fu, rfl⟩ : ∃ q, fu = q + 1 := ⟨fu - 1, by omega⟩
    refine ⟨I, J, SameM.rfl, fun l' g' a1 a2 a3 a4 a5 => hI l' g' a1 a2 a3 a4 (by omega), ?_⟩
    show b_Model_listAll_12 N r2 (f_Model_listAll_12 N r2 fu) b (iI l) (iI g) (MH h b I J) = _
    unfold b_Model_listAll_12
    rw [e50, if_pos ((iI_le (by omega) (by omega) (by omega) (by omega)).mpr (by omega)), iI_1, iI_add]
  | succ d ih =>
    intro fu g I J hd hg hf hM hI
    obtain ⟨fu, rfl⟩ : ∃ q, fu = q + 1 := ⟨fu - 1, by omega⟩
    have hr := ix_r (p := nn c) (l := l) (g := g) (by omega) hl1 (by omega) hg (by omega)
    have hixe : (25 * ((nn c : Nat) : Int) + l) * 50 + g = ((ix (nn c) l g : Nat) : Int) := by unfold ix; omega
    have hlt : ix (nn c) l g < 31250 := by unfold ix; omega
    have hix : vp_in (iI ((ix (nn c) l g : Nat) : Int)) 31250 := iI_in (by omega) (by omega) (by omega)
    have hixc : (iI ((ix (nn c) l g : Nat) : Int)).toNatClampNeg = ix (nn c) l g := by rw [iI_cl (by omega) (by omega)]; rfl
    have hix6 : vp_in (iI ((6 * ix (nn c) l g : Nat) : Int)) 187500 := iI_in (by omega) (by omega) (by omega)
    have hixc6 : (iI ((6 * ix (nn c) l g : Nat) : Int)).toNatClampNeg = 6 * ix (nn c) l g := by rw [iI_cl (by omega) (by omega)]; rfl
    have hS1 : SameL I J (u2 I 13 (ix (nn c) l g) (iI 1)) (u2 J 12 (6 * ix (nn c) l g) (iJ 0)) (ix (nn c) l g) := ⟨fun i k hi => u2_n (by omega), fun i k hi => u2_n (by omega)⟩
    have hI1 : Inv1l (u2 I 13 (ix (nn c) l g) (iI 1)) (u2 J 12 (6 * ix (nn c) l g) (iJ 0)) c l (g + 1) := by
      intro l' g' a1 a2 a3 a4 a5
      by_cases hsame : l' = l ∧ g' = g
      · obtain ⟨rfl, rfl⟩ := hsame
        exact Dl_last
      · refine Dl.other (hI l' g' a1 a2 a3 a4 (by omega)) hS1 (fun ee => ?_)
        have := ix_inj a1 (by omega) a3 a4 hl1 (by omega) hg (by omega) ee
        exact hsame ⟨this.2.1, this.2.2⟩
    obtain ⟨I', J', hS, hI', hgo'⟩ := ih fu (g + 1) _ _ (by omega) (by omega) (by omega) (hM.sameL hS1) hI1
    refine ⟨I', J', hS1.m.trans hS, hI', ?_⟩
    show b_Model_listAll_12 N r2 (f_Model_listAll_12 N r2 fu) b (iI l) (iI g) (MH h b I J) = _
    unfold b_Model_listAll_12
    rw [e50, if_neg (fun z => by have := (iI_le (by omega) (by omega) (by omega) (by omega)).mp z; omega)]
    have hn0 : I 0 0 = iI (nn c) := by rw [n1]; exact hM.1.1
    have hn0' : ∀ v, (u2 I 13 (ix (nn c) l g) v) 0 0 = iI (nn c) := fun v => by rw [u2_n (Or.inl (by decide))]; exact hn0
    simp only [m_rd, Option.bind_some, hn0, m_at, hixe, ms_13 hix, hixc, hn0', e6, iI_mul]
    rw [show 6 * ((ix (nn c) l g : Nat) : Int) = ((6 * ix (nn c) l g : Nat) : Int) by omega, ms_12 hix6, hixc6]
    simp only [Option.bind_some]
    rw [← hgo', iI_1, iI_add, iJ_0]
theorem mlb_2 (hc : cOK c) (hN : 60 ≤ N) : ∀ (d fu : Nat) (l : Int) (I : Nat → Nat → Int32) (J : Nat → Nat → Int64), l + d = c.1 1 + 1 → 0 ≤ l → d < fu → MC I J c → Inv1l I J c l 0 →
    ∃ I' J', SameM I J I' J' ∧ Inv1l I' J' c (c.1 1 + 1) 0 ∧ f_Model_listAll_2 N fu b (iI l) (MH h b I J) = f_Model_listAll_70 N N b (iI ((nn c : Int) - 1)) (MH h b I' J') := by
  obtain ⟨n1, n2, n3⟩ := nn_r hc
  have hm := hc.2.1
  intro d
  induction d with
  | zero =>
    intro fu l I J hd hl hf hM hI
    obtain ⟨fu, rfl⟩ : ∃ q, fu = q + 1 := ⟨fu - 1, by omega⟩
    refine ⟨I, J, SameM.rfl, by rw [show c.1 1 + 1 = l by omega]; exact hI, ?_⟩
    show b_Model_listAll_2 N (f_Model_listAll_2 N fu) b (iI l) (MH h b I J) = _
    unfold b_Model_listAll_2
    have hn0 : I 0 0 = iI (nn c) := by rw [n1]; exact hM.1.1
    simp only [m_rd, Option.bind_some, hM.1.2.1, hn0, iI_1, iI_sub]
    rw [if_pos ((iI_lt (by omega) (by omega) (by omega) (by omega)).mpr (by omega))]
  | succ d ih =>
    intro fu l I J hd hl hf hM hI
    obtain ⟨fu, rfl⟩ : ∃ q, fu = q + 1 := ⟨fu - 1, by omega⟩
    obtain ⟨I1, J1, hS1, hI1, hgo1⟩ := mlb_12 (h := h) (b := b) (N := N) hc (f_Model_listAll_2 N fu) hl (by omega) 50 N 0 I J (by omega) (by omega) (by omega) hM hI
    obtain ⟨I2, J2, hS2, hI2, hgo2⟩ := ih fu (l + 1) I1 J1 (by omega) (by omega) (by omega) (hM.sameM hS1) hI1
    refine ⟨I2, J2, hS1.trans hS2, hI2, ?_⟩
    show b_Model_listAll_2 N (f_Model_listAll_2 N fu) b (iI l) (MH h b I J) = _
    unfold b_Model_listAll_2
    simp only [m_rd, Option.bind_some, hM.1.2.1]
    rw [if_neg (fun z => by have := (iI_lt (by omega) (by omega) (by omega) (by omega)).mp z; omega), iI_0, hgo1, hgo2]
theorem m_listAll_t {I : Nat → Nat → Int32} {J : Nat → Nat → Int64} (hc : cOK c) (hN : 60 ≤ N) (hM : MC I J c) :
    ∃ I' J', SameM I J I' J' ∧ (∀ l : Int, 0 ≤ l → l ≤ c.1 1 → Dl I' J' c 0 l 49) ∧ f_Model_listAll N b (MH h b I J) = mlFin N b (MH h b I' J') := by
  obtain ⟨n1, n2, n3⟩ := nn_r hc
  have hm := hc.2.1
  have hmo := hc.2.2.1
  obtain ⟨I1, J1, hS1, hI1, hgo1⟩ := mlb_2 (h := h) (b := b) (N := N) hc hN (c.1 1 + 1).toNat N 0 I J (by omega) (by omega) (by omega) hM (fun l' g' a1 a2 a3 a4 a5 => absurd a5 (by omega))
  have hT : TL I1 J1 c (nn c - 1) := by
    intro q l s h1 h2 h3 h4 h5 h6
    have hq : q = nn c := by omega
    subst hq
    exact hI1 l (s + 24) h3 h4 (by omega) (by omega) (by omega)
  obtain ⟨I2, J2, hS2, hD2, hgo2⟩ := mla_70 (h := h) (b := b) (N := N) hc hN (nn c - 1) N I1 J1 (by omega) (by omega) (hM.sameM hS1) hT
  refine ⟨I2, J2, hS1.trans hS2, hD2, ?_⟩
  unfold f_Model_listAll
  rw [iI_0, hgo1, show (nn c : Int) - 1 = ((nn c - 1 : Nat) : Int) by omega, hgo2]
/-- the costs of tables that begin below level L -/
def Uo (c : cfg) (L v : Int) : Prop := ∃ l, 0 ≤ l ∧ l < L ∧ c_ok c 0 l = true ∧ ∃ y, SV c 1 0 0 l 49 y ∧ v = y + c_pc c 0 l
def SameO (I : Nat → Nat → Int32) (J : Nat → Nat → Int64) (I' : Nat → Nat → Int32) (J' : Nat → Nat → Int64) : Prop := (∀ i k, (i ≠ 0 ∨ k ≠ 20) → I' i k = I i k) ∧ ∀ i k, i ≠ 14 → J' i k = J i k
theorem SameO.rfl {I : Nat → Nat → Int32} {J : Nat → Nat → Int64} : SameO I J I J := ⟨fun _ _ _ => Eq.refl _, fun _ _ _ => Eq.refl _⟩
theorem SameO.trans {I I' I2 : Nat → Nat → Int32} {J J' J2 : Nat → Nat → Int64} (h : SameO I J I' J') (h2 : SameO I' J' I2 J2) : SameO I J I2 J2 := ⟨fun i k hi => (h2.1 i k hi).trans (h.1 i k hi), fun i k hi => (h2.2 i k hi).trans (h.2 i k hi)⟩
theorem MC.sameO {I I' : Nat → Nat → Int32} {J J' : Nat → Nat → Int64} (h : MC I J c) (hS : SameO I J I' J') : MC I' J' c := by
  obtain ⟨⟨a1, a2, a3, a4, a5, a6⟩, hb, hk⟩ := h
  refine ⟨⟨?_, ?_, ?_, ?_, ?_, ?_⟩, fun p hp => ?_, fun k hkk => ?_⟩
  · rw [hS.1 0 0 (by omega)]; exact a1
  · rw [hS.1 0 1 (by omega)]; exact a2
  · rw [hS.1 0 7 (by omega)]; exact a3
  · rw [hS.1 0 8 (by omega)]; exact a4
  · rw [hS.1 0 9 (by omega)]; exact a5
  · rw [hS.1 0 10 (by omega)]; exact a6
  · rw [hS.1 1 p (by omega), hS.1 2 p (by omega), hS.1 3 p (by omega), hS.1 4 p (by omega), hS.1 5 p (by omega)]; exact hb p hp
  · rw [hS.1 6 k (by omega), hS.1 7 k (by omega), hS.1 8 k (by omega), hS.2 9 k (by omega)]; exact hk k hkk
theorem Dl.sameO {I I' : Nat → Nat → Int32} {J J' : Nat → Nat → Int64} {q : Nat} {l g : Int} (h : Dl I J c q l g) (hS : SameO I J I' J') : Dl I' J' c q l g := by
  obtain ⟨L, ⟨⟨h1, h2⟩, h3⟩, h4⟩ := h
  exact ⟨L, ⟨⟨by rw [hS.1 13 _ (by omega)]; exact h1, h2⟩, fun k x hk => by rw [hS.2 12 _ (by omega)]; exact h3 k x hk⟩, h4⟩
/-- the list of the least costs so far -/
def Ro (I : Nat → Nat → Int32) (J : Nat → Nat → Int64) (L : List Int) : Prop := (I 0 20 = iI L.length ∧ L.length ≤ 6 ∧ L.Pairwise (· < ·)) ∧ RowL J 14 0 L ∧ ∀ x ∈ L, inJ x
end MOTHER
