/-! the reference: list whole -/
section MLIST3
variable {h : zH} {b : Nat} {c : cfg} {N : Nat}
theorem Cur.other {I I' : Nat → Nat → Int32} {J J' : Nat → Nat → Int64} {p : Nat} {l g : Int} {S : Int → Prop} (hC : Cur I J c p l g S) (e : ∀ k, I' 13 k = I 13 k) (e2 : ∀ k, J' 12 k = J 12 k) : Cur I' J' c p l g S := by
  obtain ⟨L, ⟨⟨h1, h2⟩, h3⟩, h4⟩ := hC
  exact ⟨L, ⟨⟨by rw [e]; exact h1, h2⟩, fun k x hk => by rw [e2]; exact h3 k x hk⟩, h4⟩
theorem wl_body (hc : cOK c) (hN : 30 ≤ N) (rc : wlR) {I : Nat → Nat → Int32} {J : Nat → Nat → Int64} (hM : MC I J c) {p : Nat} {l g s : Int} (hp : p < nn c) (hl1 : 0 ≤ l) (hl2 : l ≤ c.1 1) (hg1 : 0 ≤ g) (hg2 : g ≤ 49) (hs1 : -(c.1 7) ≤ s) (hs2 : s ≤ c.1 7) (hT : TL I J c p) (hC : Cur I J c p l g (Ul c p l g s)) :
    ∃ I' J', SameL I J I' J' (ix p l g) ∧ Cur I' J' c p l g (Ul c p l g (s + 1)) ∧ b_Model_list_30 N rc b (iI p) (iI l) (iI g) (iI (ix p l g)) (iI (c_sp c p)) (iI s) (MH h b I J) = rc b (iI p) (iI l) (iI g) (iI (ix p l g)) (iI (c_sp c p)) (iI (s + 1)) (MH h b I' J') := by
  obtain ⟨n1, n2, n3⟩ := nn_r hc
  have hmo := hc.2.2.1
  have hm := hc.2.1
  have e24 : (24 : Int32) = iI 24 := by decide
  unfold b_Model_list_30
  simp only [m_rd, Option.bind_some, hM.1.2.2.1]
  rw [if_neg (fun z => by have := (iI_lt (by omega) (by omega) (by omega) (by omega)).mp z; omega)]
  simp only [zck_t, m_follows (N := N) (b := b) (h := h) hc hM (show -1000 ≤ s by omega) (show s ≤ 1000 by omega) hg1 hg2, Option.bind_some, b1_0]
  by_cases hf : c_fol c s g = true
  · rw [if_neg (by simp [hf])]
    have hp1 : iI (p : Int) + 1 = iI (((p + 1 : Nat) : Int)) := by rw [iI_1, iI_add]; rfl
    rw [hp1, iI_add l s]
    simp only [m_rd, zck_t, m_may (N := N) (b := b) (h := h) hc hM (show p + 1 < 25 by omega) (show (-2147483648 : Int) ≤ l + s by omega) (show l + s < 2147483648 by omega), Option.bind_some, b1_0]
    by_cases ho : c_ok c (p + 1) (l + s) = true
    · obtain ⟨v1, v2⟩ := c_ok_r ho
      rw [if_neg (by simp [ho])]
      obtain ⟨pc1, pc2⟩ := c_pc_r hc (p := p + 1) (by omega) v1 v2
      obtain ⟨I1, J1, hS1, hC1, hgo1⟩ := wl_join (h := h) (b := b) (N := N) hc (by omega) (q := p + 1) (l' := l + s) (s := s) hp hl1 hl2 hg1 hg2 (by omega) (by omega) v1 v2 hs1 hs2 hT hC (d := c_pc c (p + 1) (l + s)) (by omega) (by omega)
      obtain ⟨I2, J2, hS2, hC2, hgo2⟩ := wl_98 (h := h) (b := b) (N := N) hc hN rc (hM.sameL hS1) (s := s) hp hl1 hl2 hg1 hg2 hs1 hs2 (hT.other hc hS1 hl1 hl2 hg1 hg2) hC1
      refine ⟨I2, J2, hS1.trans hS2, hC2.congr (fun v => ?_), ?_⟩
      · rw [Ul_s]
        constructor
        · rintro ((z | ⟨y, hy, hv⟩) | z)
          · exact Or.inl z
          · exact Or.inr ⟨hf, Or.inl ⟨ho, y, hy, by rw [hv]; simp⟩⟩
          · exact Or.inr ⟨hf, Or.inr z⟩
        · rintro (z | ⟨-, ⟨-, y, hy, hv⟩ | z⟩)
          · exact Or.inl (Or.inl z)
          · exact Or.inl (Or.inr ⟨y, hy, by rw [hv]; simp⟩)
          · exact Or.inr z
      · have hr := ix_r (p := p + 1) (l := l + s) (g := s + 24) (by omega) v1 (by omega) (by omega) (by omega)
        have hixe : (25 * ((p + 1 : Nat) : Int) + (l + s)) * 50 + (s + 24) = ((ix (p + 1) (l + s) (s + 24) : Nat) : Int) := by unfold ix; omega
        simp only [e24, iI_add s 24, m_at, Option.bind_some, m_rd, zck_t]
        rw [hixe, m_placeCost hc hM (show p + 1 < 25 by omega) v1 (by omega)]
        simp only [Option.bind_some, m_rd, zck_t, hgo1]
        exact hgo2
    · have ho' : c_ok c (p + 1) (l + s) = false := by simpa using ho
      rw [if_pos ho']
      obtain ⟨I2, J2, hS2, hC2, hgo2⟩ := wl_98 (h := h) (b := b) (N := N) hc hN rc hM (s := s) hp hl1 hl2 hg1 hg2 hs1 hs2 hT hC
      refine ⟨I2, J2, hS2, hC2.congr (fun v => ?_), hgo2⟩
      rw [Ul_s]
      constructor
      · rintro (z | z)
        · exact Or.inl z
        · exact Or.inr ⟨hf, Or.inr z⟩
      · rintro (z | ⟨-, z | z⟩)
        · exact Or.inl z
        · exact absurd z.1 ho
        · exact Or.inr z
  · have hf' : c_fol c s g = false := by simpa using hf
    rw [if_pos hf']
    refine ⟨I, J, SameL.rfl, hC.congr (fun v => ?_), ?_⟩
    · rw [Ul_s]; exact ⟨Or.inl, fun z => z.elim id (fun z => absurd z.1 hf)⟩
    · unfold f_Model_list_180
      rw [iI_1, iI_add]
theorem m_list (hc : cOK c) (hN : 60 ≤ N) {I : Nat → Nat → Int32} {J : Nat → Nat → Int64} (hM : MC I J c) {p : Nat} {l g : Int} (hp : p < nn c) (hl1 : 0 ≤ l) (hl2 : l ≤ c.1 1) (hg1 : 0 ≤ g) (hg2 : g ≤ 49) (hT : TL I J c p) :
    ∃ I' J', SameL I J I' J' (ix p l g) ∧ Dl I' J' c p l g ∧ f_Model_list N b (iI p) (iI l) (iI g) (MH h b I J) = some ((), MH h b I' J') := by
  obtain ⟨n1, n2, n3⟩ := nn_r hc
  have hmo := hc.2.2.1
  have hm := hc.2.1
  have hr := ix_r (p := p) (l := l) (g := g) (by omega) hl1 (by omega) hg1 hg2
  obtain ⟨hix, hixc⟩ := ix_in (p := p) (l := l) (g := g) (by omega) hl1 (by omega) hg1 hg2
  have hixe : (25 * (p : Int) + l) * 50 + g = ((ix p l g : Nat) : Int) := by unfold ix; omega
  rw [hixe] at hix hixc
  have loop : ∀ (d fu : Nat) (s : Int) (I : Nat → Nat → Int32) (J : Nat → Nat → Int64), s + d = c.1 7 + 1 → -(c.1 7) ≤ s → d < fu → MC I J c → TL I J c p → Cur I J c p l g (Ul c p l g s) →
      ∃ I' J', SameL I J I' J' (ix p l g) ∧ Cur I' J' c p l g (Ul c p l g (c.1 7 + 1)) ∧ f_Model_list_30 N fu b (iI p) (iI l) (iI g) (iI (ix p l g)) (iI (c_sp c p)) (iI s) (MH h b I J) = some ((), MH h b I' J') := by
    intro d
    induction d with
    | zero =>
      intro fu s I J hd hs hf hM hT hC
      obtain ⟨fu, rfl⟩ : ∃ q, fu = q + 1 := ⟨fu - 1, by omega⟩
      refine ⟨I, J, SameL.rfl, by rw [show c.1 7 + 1 = s by omega]; exact hC, ?_⟩
      show b_Model_list_30 N (f_Model_list_30 N fu) b (iI p) (iI l) (iI g) (iI (ix p l g)) (iI (c_sp c p)) (iI s) (MH h b I J) = _
      unfold b_Model_list_30
      simp only [m_rd, Option.bind_some, hM.1.2.2.1]
      rw [if_pos ((iI_lt (by omega) (by omega) (by omega) (by omega)).mpr (by omega))]
    | succ d ih =>
      intro fu s I J hd hs hf hM hT hC
      obtain ⟨fu, rfl⟩ : ∃ q, fu = q + 1 := ⟨fu - 1, by omega⟩
      obtain ⟨I1, J1, hS1, hC1, hgo1⟩ := wl_body (h := h) (b := b) (N := N) hc (by omega) (f_Model_list_30 N fu) hM hp hl1 hl2 hg1 hg2 hs (by omega) hT hC
      obtain ⟨I2, J2, hS2, hC2, hgo2⟩ := ih fu (s + 1) I1 J1 (by omega) (by omega) (by omega) (hM.sameL hS1) (hT.other hc hS1 hl1 hl2 hg1 hg2) hC1
      refine ⟨I2, J2, hS1.trans hS2, hC2, ?_⟩
      show b_Model_list_30 N (f_Model_list_30 N fu) b (iI p) (iI l) (iI g) (iI (ix p l g)) (iI (c_sp c p)) (iI s) (MH h b I J) = _
      rw [hgo1, hgo2]
  have hS0 : SameL I J (u2 I 13 (ix p l g) (iI 0)) J (ix p l g) := ⟨fun i k hi => u2_n (by omega), fun _ _ _ => rfl⟩
  have hC0 : Cur (u2 I 13 (ix p l g) (iI 0)) J c p l g (Ul c p l g (-(c.1 7))) := by
    refine ⟨[], ⟨⟨u2_s, by simp, List.Pairwise.nil⟩, fun k x hk => by simp at hk⟩, FW.nil.congr (fun v => ⟨False.elim, fun ⟨s', h1, h2, _⟩ => ?_⟩), fun x hx => absurd hx List.not_mem_nil⟩
    have := c_fol_r h2
    omega
  obtain ⟨I', J', hS, hC, hgo⟩ := loop (2 * c.1 7 + 1).toNat N (-(c.1 7)) _ _ (by omega) (by omega) (by omega) (hM.sameL hS0) (hT.other hc hS0 hl1 hl2 hg1 hg2) hC0
  refine ⟨I', J', hS0.trans hS, ?_, ?_⟩
  · obtain ⟨L, a1, a2, a3⟩ := hC
    refine ⟨L, a1, a2.congr (fun v => ?_), a3⟩
    rw [SV_s hp]
    constructor
    · rintro ⟨s', -, h2, h3⟩
      exact ⟨s', h2, h3⟩
    · rintro ⟨s', h2, h3⟩
      have := c_fol_r h2
      exact ⟨s', by omega, h2, h3⟩
  · unfold f_Model_list
    rw [m_at, hixe]
    simp only [Option.bind_some, m_rd, ms_13 hix, hixc, iI_0, zck_t]
    rw [m_spanAt hc (hM.sameL hS0) (show 10 ≤ N by omega) (show p < 25 by omega)]
    simp only [Option.bind_some, m_rd, (hM.sameL hS0).1.2.2.1, iI_neg]
    exact hgo
end MLIST3
