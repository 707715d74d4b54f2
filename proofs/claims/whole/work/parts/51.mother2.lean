/-! the reference: listAll's end -/
section MOTHER2
variable {h : zH} {b : Nat} {c : cfg} {N : Nat}
theorem Rw.sameO {I I' : Nat → Nat → Int32} {J J' : Nat → Nat → Int64} {st : Nat} {M : List Int} (h : Rw I J st M) (hS : SameO I J I' J') : Rw I' J' st M := by
  obtain ⟨⟨h1, h2⟩, h3⟩ := h
  exact ⟨⟨by rw [hS.1 13 _ (by omega)]; exact h1, h2⟩, fun k x hk => by rw [hS.2 12 _ (by omega)]; exact h3 k x hk⟩
theorem mc_in (hc : cOK c) (hN : 20 ≤ N) (r153 : Nat → Int32 → zH → Option (Unit × zH)) {l : Int} (hl1 : 0 ≤ l) (hl2 : l ≤ c.1 1) (ho : c_ok c 0 l = true) {st : Nat} (hst : st < 31250) : ∀ (B A : List Int) (fu : Nat) (I : Nat → Nat → Int32) (J : Nat → Nat → Int64) (L : List Int), MC I J c → Rw I J st (A ++ B) → (∀ x ∈ A ++ B, 0 ≤ x ∧ x ≤ 240000000000) → Ro I J L → B.length < fu →
    ∃ I' J', SameO I J I' J' ∧ Ro I' J' (putL 6 L (B.map (fun y => y + c_pc c 0 l))) ∧ f_Model_listAll_171 N r153 fu b (iI l) (iI st) (iI A.length) (MH h b I J) = r153 b (iI (l + 1)) (MH h b I' J') := by
  have hm := hc.2.1
  have e6 : (6 : Int32) = iI 6 := by decide
  have z0 : iI ((0 : Nat) : Int) = (0 : Int32) := iI_0.symm
  obtain ⟨pc1, pc2⟩ := c_pc_r hc (p := 0) (by omega) hl1 hl2
  have hin1 : vp_in (iI (st : Int)) 31250 ∧ (iI (st : Int)).toNatClampNeg = st := ⟨iI_in (by omega) (by omega) (by omega), by rw [iI_cl (by omega) (by omega)]; rfl⟩
  have hin2 : ∀ q : Nat, q < 187500 → vp_in (iI (q : Int)) 187500 ∧ (iI (q : Int)).toNatClampNeg = q := fun q hq => ⟨iI_in (by omega) (by omega) (by omega), by rw [iI_cl (by omega) (by omega)]; rfl⟩
  intro B
  induction B with
  | nil =>
    intro A fu I J L hM hT hb hR hf
    obtain ⟨fu, rfl⟩ : ∃ q, fu = q + 1 := ⟨fu - 1, by omega⟩
    refine ⟨I, J, SameO.rfl, hR, ?_⟩
    show b_Model_listAll_171 N r153 (f_Model_listAll_171 N r153 fu) b (iI l) (iI st) (iI A.length) (MH h b I J) = _
    unfold b_Model_listAll_171 f_Model_listAll_230
    simp only [m_rd, Option.bind_some, ma_13 hin1.1, hin1.2, hT.1.1]
    rw [if_pos (by rw [List.append_nil]; exact Int32.le_refl _), iI_1, iI_add]
  | cons y B ih =>
    intro A fu I J L hM hT hb hR hf
    obtain ⟨fu, rfl⟩ : ∃ q, fu = q + 1 := ⟨fu - 1, by omega⟩
    have hlen : (A ++ y :: B).length = A.length + (B.length + 1) := by simp
    have h6 := hT.1.2.1
    have hy := hb y (by simp)
    have hJ := hT.2 A.length y (by simp)
    have hv : inJ (y + c_pc c 0 l) := ⟨by omega, by omega⟩
    obtain ⟨⟨ro1, ro2, ro3⟩, ro4, ro5⟩ := hR
    obtain ⟨J1, hr1, ho1, hgo1⟩ := m_insert (h := h) (b := b) (I := I) (N := N) (i := 14) (m := 6) (f := 0) (v := y + c_pc c 0 l) (J := J) (L := L) (fun J x hx => ma_14 hx) (fun J x v hx => ms_14 hx) (by omega) (by omega) hN ro2 ro5 hv ro3 ro4
    have hL' : ((insr (y + c_pc c 0 l) L).take 6).length ≤ 6 := by simp; omega
    have hS1 : SameO I J (u2 I 0 20 (iI ((insr (y + c_pc c 0 l) L).take 6).length)) J1 := ⟨fun i k hi => u2_n (by omega), fun i k hi => ho1 i k (Or.inl hi)⟩
    have hR1 : Ro (u2 I 0 20 (iI ((insr (y + c_pc c 0 l) L).take 6).length)) J1 ((insr (y + c_pc c 0 l) L).take 6) := ⟨⟨u2_s, hL', (insr_rising _ ro3).sublist (List.take_sublist _ _)⟩, hr1, fun x hx => by
      rcases (insr_mem _ L x).mp (List.mem_of_mem_take hx) with e | e
      · subst e; exact hv
      · exact ro5 x e⟩
    have hT1 := hT.sameO hS1
    rw [show A ++ y :: B = (A ++ [y]) ++ B by simp] at hT1 hb
    obtain ⟨I2, J2, hS2, hR2, hgo2⟩ := ih (A ++ [y]) fu _ J1 _ (hM.sameO hS1) hT1 hb hR1 (by simp at hf; omega)
    refine ⟨I2, J2, hS1.trans hS2, hR2, ?_⟩
    show b_Model_listAll_171 N r153 (f_Model_listAll_171 N r153 fu) b (iI l) (iI st) (iI A.length) (MH h b I J) = _
    unfold b_Model_listAll_171
    have hmay := m_may (N := N) (b := b) (h := h) hc hM (p := 0) (l := l) (by omega) (by omega) (by omega)
    have hpcm := m_placeCost (N := N) (b := b) (h := h) hc hM (p := 0) (l := l) (by omega) hl1 (by omega)
    rw [z0] at hmay hpcm hgo1
    simp only [m_rd, Option.bind_some, ma_13 hin1.1, hin1.2, hT.1.1, zck_t, hmay, b1_0]
    rw [if_neg (fun z => by have := (iI_le (by omega) (by omega) (by omega) (by omega)).mp z; omega), if_neg (by simp [ho])]
    rw [e6, iI_mul, iI_add, show 6 * (st : Int) + (A.length : Int) = ((6 * st + A.length : Nat) : Int) by omega]
    simp only [ma_12 (hin2 (6 * st + A.length) (by omega)).1, (hin2 (6 * st + A.length) (by omega)).2, Option.bind_some, hJ, m_rd, zck_t, hpcm, iJ_add, ro1, hgo1, m_wr]
    rw [← hgo2, iI_1, iI_add]
    congr 1
    simp
theorem mc_skip (hc : cOK c) (r153 : Nat → Int32 → zH → Option (Unit × zH)) {l : Int} (hl1 : 0 ≤ l) (hl2 : l ≤ c.1 1) (ho : c_ok c 0 l = false) {st : Nat} (hst : st < 31250) {M : List Int} {fu : Nat} {I : Nat → Nat → Int32} {J : Nat → Nat → Int64} (hM : MC I J c) (hf : 0 < fu) :
    f_Model_listAll_171 N r153 fu b (iI l) (iI st) (iI 0) (MH h b I J) = r153 b (iI (l + 1)) (MH h b I J) := by
  have hm := hc.2.1
  have z0 : iI ((0 : Nat) : Int) = (0 : Int32) := iI_0.symm
  have hin1 : vp_in (iI (st : Int)) 31250 ∧ (iI (st : Int)).toNatClampNeg = st := ⟨iI_in (by omega) (by omega) (by omega), by rw [iI_cl (by omega) (by omega)]; rfl⟩
  obtain ⟨fu, rfl⟩ : ∃ q, fu = q + 1 := ⟨fu - 1, by omega⟩
  show b_Model_listAll_171 N r153 (f_Model_listAll_171 N r153 fu) b (iI l) (iI st) (iI 0) (MH h b I J) = _
  unfold b_Model_listAll_171 f_Model_listAll_230
  have hmay := m_may (N := N) (b := b) (h := h) hc hM (p := 0) (l := l) (by omega) (by omega) (by omega)
  rw [z0] at hmay
  simp only [m_rd, Option.bind_some, ma_13 hin1.1, hin1.2, zck_t, hmay, b1_0, ho, if_true, ite_self, iI_1, iI_add]
theorem mc_out (hc : cOK c) (hN : 60 ≤ N) : ∀ (d fu : Nat) (l : Int) (I : Nat → Nat → Int32) (J : Nat → Nat → Int64) (L : List Int), l + d = c.1 1 + 1 → 0 ≤ l → d < fu → MC I J c → (∀ l : Int, 0 ≤ l → l ≤ c.1 1 → Dl I J c 0 l 49) → Ro I J L → FW 6 (Uo c l) L →
    ∃ I' J' L', SameO I J I' J' ∧ Ro I' J' L' ∧ FW 6 (Uo c (c.1 1 + 1)) L' ∧ f_Model_listAll_153 N fu b (iI l) (MH h b I J) = some ((), MH h b (u2 I' 0 19 1) J') := by
  obtain ⟨n1, n2, n3⟩ := nn_r hc
  have hm := hc.2.1
  have e49 : (49 : Int32) = iI 49 := by decide
  have z0 : iI ((0 : Nat) : Int) = (0 : Int32) := iI_0.symm
  intro d
  induction d with
  | zero =>
    intro fu l I J L hd hl hf hM hD hR hF
    obtain ⟨fu, rfl⟩ : ∃ q, fu = q + 1 := ⟨fu - 1, by omega⟩
    refine ⟨I, J, L, SameO.rfl, hR, by rw [show c.1 1 + 1 = l by omega]; exact hF, ?_⟩
    show b_Model_listAll_153 N (f_Model_listAll_153 N fu) b (iI l) (MH h b I J) = _
    unfold b_Model_listAll_153 zpZ
    simp only [m_rd, Option.bind_some, hM.1.2.1]
    rw [if_pos ((iI_lt (by omega) (by omega) (by omega) (by omega)).mpr (by omega)), if_pos (Or.inr trivial)]
    simp only [m_wr, Option.bind_some]
  | succ d ih =>
    intro fu l I J L hd hl hf hM hD hR hF
    obtain ⟨fu, rfl⟩ : ∃ q, fu = q + 1 := ⟨fu - 1, by omega⟩
    have hr := ix_r (p := 0) (l := l) (g := 49) (by omega) hl (by omega) (by omega) (by omega)
    have hixe : (25 * ((0 : Nat) : Int) + l) * 50 + 49 = ((ix 0 l 49 : Nat) : Int) := by unfold ix; omega
    have hlt : ix 0 l 49 < 31250 := by unfold ix; omega
    have hat : f_Model_at N (0 : Int32) (iI l) (49 : Int32) (MH h b I J) = some (iI ((ix 0 l 49 : Nat) : Int), MH h b I J) := by rw [← z0, e49, m_at, hixe]
    have hhead : f_Model_listAll_153 N (fu + 1) b (iI l) (MH h b I J) = f_Model_listAll_171 N (f_Model_listAll_153 N fu) N b (iI l) (iI ((ix 0 l 49 : Nat) : Int)) (iI 0) (MH h b I J) := by
      show b_Model_listAll_153 N (f_Model_listAll_153 N fu) b (iI l) (MH h b I J) = _
      unfold b_Model_listAll_153
      simp only [m_rd, Option.bind_some, hM.1.2.1, hat]
      rw [if_neg (fun z => by have := (iI_lt (by omega) (by omega) (by omega) (by omega)).mp z; omega), iI_0]
    by_cases ho : c_ok c 0 l = true
    · obtain ⟨M, m1, m2, m3⟩ := hD l hl (by omega)
      obtain ⟨I1, J1, hS1, hR1, hgo1⟩ := mc_in (h := h) (b := b) (N := N) hc (by omega) (f_Model_listAll_153 N fu) hl (by omega) ho hlt M [] N I J L hM m1 (fun x hx => by have := m3 x hx; omega) hR (by have := m1.1.2.1; omega)
      have hF1 : FW 6 (Uo c (l + 1)) (putL 6 L (M.map (fun y => y + c_pc c 0 l))) := (hF.union (m2.shift (c_pc c 0 l))).congr (fun v => by
        constructor
        · rintro (⟨l', a1, a2, a3⟩ | z)
          · exact ⟨l', a1, by omega, a3⟩
          · exact ⟨l, hl, by omega, ho, z⟩
        · rintro ⟨l', a1, a2, a3, a4⟩
          by_cases e : l' = l
          · subst e; exact Or.inr a4
          · exact Or.inl ⟨l', a1, by omega, a3, a4⟩)
      obtain ⟨I2, J2, L2, hS2, hR2, hF2, hgo2⟩ := ih fu (l + 1) I1 J1 _ (by omega) (by omega) (by omega) (hM.sameO hS1) (fun l' a1 a2 => (hD l' a1 a2).sameO hS1) hR1 hF1
      refine ⟨I2, J2, L2, hS1.trans hS2, hR2, hF2, ?_⟩
      rw [hhead, ← hgo2]
      exact hgo1
    · have ho' : c_ok c 0 l = false := by simpa using ho
      have hF1 : FW 6 (Uo c (l + 1)) L := hF.congr (fun v => by
        constructor
        · rintro ⟨l', a1, a2, a3⟩
          exact ⟨l', a1, by omega, a3⟩
        · rintro ⟨l', a1, a2, a3, a4⟩
          by_cases e : l' = l
          · subst e; exact absurd a3 ho
          · exact ⟨l', a1, by omega, a3, a4⟩)
      obtain ⟨I2, J2, L2, hS2, hR2, hF2, hgo2⟩ := ih fu (l + 1) I J L (by omega) (by omega) (by omega) hM hD hR hF1
      refine ⟨I2, J2, L2, hS2, hR2, hF2, ?_⟩
      rw [hhead, mc_skip (M := []) hc _ hl (by omega) ho' hlt hM (by omega), hgo2]
/-- listAll: the list of the six least costs -/
theorem m_listAll {I : Nat → Nat → Int32} {J : Nat → Nat → Int64} (hc : cOK c) (hN : 60 ≤ N) (hM : MC I J c) :
    ∃ I1 J1 I' J' L, SameM I J I1 J1 ∧ SameO I1 J1 I' J' ∧ Ro I' J' L ∧ FW 6 (Uo c (c.1 1 + 1)) L ∧ f_Model_listAll N b (MH h b I J) = some ((), MH h b (u2 I' 0 19 1) J') := by
  have hm := hc.2.1
  obtain ⟨I1, J1, hS1, hD1, hgo1⟩ := m_listAll_t (h := h) (b := b) (N := N) hc hN hM
  have hS0 : SameO I1 J1 (u2 I1 0 20 0) J1 := ⟨fun i k hi => u2_n (by omega), fun _ _ _ => rfl⟩
  have hR0 : Ro (u2 I1 0 20 0) J1 [] := ⟨⟨by rw [u2_s]; exact iI_0, by simp, List.Pairwise.nil⟩, fun k x hk => by simp at hk, fun x hx => absurd hx List.not_mem_nil⟩
  obtain ⟨I2, J2, L, hS2, hR2, hF2, hgo2⟩ := mc_out (h := h) (b := b) (N := N) hc hN (c.1 1 + 1).toNat N 0 (u2 I1 0 20 0) J1 [] (by omega) (by omega) (by omega) ((hM.sameM hS1).sameO hS0) (fun l a1 a2 => (hD1 l a1 a2).sameO hS0) hR0 (FW.nil.congr (fun v => ⟨False.elim, fun ⟨l, a1, a2, _⟩ => by omega⟩))
  refine ⟨I1, J1, I2, J2, L, hS1, hS0.trans hS2, hR2, hF2, ?_⟩
  rw [hgo1]
  unfold mlFin
  simp only [m_wr, Option.bind_some]
  rw [← iI_0] at hgo2
  exact hgo2
end MOTHER2
