/-! the reference: the first level -/
/-- the values of tables that begin at level l -/
def V0 (c : cfg) (l v : Int) : Prop := c_ok c 0 l = true ∧ ∃ y, SV c 1024 1 0 l 49 y ∧ v = y + (1024 * c_pc c 0 l + 1 * 0)
/-- of the levels below L: the least value, and the lowest level that has it -/
def FLs (c : cfg) (L : Int) (o : Option (Int × Int)) (f : Int) : Prop := best1 (fun v => ∃ l, 0 ≤ l ∧ l < L ∧ V0 c l v) o (nn c + 1) ∧ (o = none → f = -1) ∧ ∀ q, o = some q → (0 ≤ f ∧ f < L) ∧ V0 c f (1024 * q.1 + q.2) ∧ ∀ l', 0 ≤ l' → l' < f → ∀ v, V0 c l' v → 1024 * q.1 + q.2 < v
section MFIRST
variable {h : zH} {b : Nat} {I : Nat → Nat → Int32} {J : Nat → Nat → Int64} {c : cfg} {N : Nat}
theorem FLs.skip {L : Int} {o : Option (Int × Int)} {f : Int} (hF : FLs c L o f) (hno : ∀ v, ¬ V0 c L v) : FLs c (L + 1) o f := by
  obtain ⟨h1, h2, h3⟩ := hF
  refine ⟨h1.congr (fun v => ⟨fun ⟨l, a1, a2, a3⟩ => ⟨l, a1, by omega, a3⟩, fun ⟨l, a1, a2, a3⟩ => ?_⟩), h2, fun q hq => ?_⟩
  · by_cases e : l = L
    · subst e; exact absurd a3 (hno v)
    · exact ⟨l, a1, by omega, a3⟩
  · obtain ⟨g1, g2, g3⟩ := h3 q hq
    exact ⟨by omega, g2, g3⟩
theorem mf_l (hc : cOK c) (hM : MC I J c) (hD : ∀ l : Int, 0 ≤ l → l ≤ c.1 1 → Dn I J c 0 l 49) : ∀ (d fu : Nat) (l : Int) (o : Option (Int × Int)) (f : Int) (x1 : Int64) (x3 : Int32), l + d = c.1 1 + 1 → 0 ≤ l → d < fu → enc1 o x1 x3 → FLs c l o f →
    ∃ o' f', FLs c (c.1 1 + 1) o' f' ∧ f_Model_firstLevel_12 N fu b x1 x3 (iI f) (iI l) (MH h b I J) = some (iI f', MH h b I J) := by
  obtain ⟨n1, n2, n3⟩ := nn_r hc
  have hm := hc.2.1
  have e49 : (49 : Int32) = iI 49 := by decide
  intro d
  induction d with
  | zero =>
    intro fu l o f x1 x3 hd hl hf e hF
    obtain ⟨fu, rfl⟩ : ∃ q, fu = q + 1 := ⟨fu - 1, by omega⟩
    refine ⟨o, f, by rw [show c.1 1 + 1 = l by omega]; exact hF, ?_⟩
    show b_Model_firstLevel_12 N (f_Model_firstLevel_12 N fu) b x1 x3 (iI f) (iI l) (MH h b I J) = _
    unfold b_Model_firstLevel_12
    simp only [m_rd, Option.bind_some, hM.1.2.1]
    rw [if_pos ((iI_lt (by omega) (by omega) (by omega) (by omega)).mpr (by omega))]
  | succ d ih =>
    intro fu l o f x1 x3 hd hl hf e hF
    obtain ⟨fu, rfl⟩ : ∃ q, fu = q + 1 := ⟨fu - 1, by omega⟩
    have hl2 : l ≤ c.1 1 := by omega
    obtain ⟨hix, hixc⟩ := ix_in (p := 0) (l := l) (g := 49) (by omega) hl (by omega) (by omega) (by omega)
    obtain ⟨ot, et, bt⟩ := hD l hl hl2
    obtain ⟨pc1, pc2⟩ := c_pc_r hc (p := 0) (by omega) hl hl2
    have hgo : ∀ (o' : Option (Int × Int)) (f' : Int) (x' : Int64) (y' : Int32), enc1 o' x' y' → FLs c (l + 1) o' f' → ∃ o2 f2, FLs c (c.1 1 + 1) o2 f2 ∧ f_Model_firstLevel_112 N (f_Model_firstLevel_12 N fu) b x' y' (iI f') (iI l) (MH h b I J) = some (iI f2, MH h b I J) := by
      intro o' f' x' y' e' hF'
      obtain ⟨o2, f2, h2, g2⟩ := ih fu (l + 1) o' f' x' y' (by omega) (by omega) (by omega) e' hF'
      refine ⟨o2, f2, h2, ?_⟩
      unfold f_Model_firstLevel_112
      rw [iI_1, iI_add]; exact g2
    have hmay := m_may (N := N) (b := b) (h := h) hc hM (p := 0) (l := l) (by omega) (by omega) (by omega)
    have hpcm := m_placeCost (N := N) (b := b) (h := h) hc hM (p := 0) (l := l) (by omega) hl (by omega)
    have z0 : iI ((0 : Nat) : Int) = (0 : Int32) := iI_0.symm
    rw [z0] at hmay hpcm
    have hat : f_Model_at N (0 : Int32) (iI l) (49 : Int32) (MH h b I J) = some (iI ((25 * ((0 : Nat) : Int) + l) * 50 + 49), MH h b I J) := by rw [← z0, e49]; exact m_at
    show ∃ o' f', _ ∧ b_Model_firstLevel_12 N (f_Model_firstLevel_12 N fu) b x1 x3 (iI f) (iI l) (MH h b I J) = _
    unfold b_Model_firstLevel_12
    simp only [m_rd, Option.bind_some, hM.1.2.1, hat, zck_t, hmay, b1_0]
    rw [if_neg (fun z => by have := (iI_lt (by omega) (by omega) (by omega) (by omega)).mp z; omega)]
    by_cases ho : c_ok c 0 l = true
    · rw [if_neg (by simp [ho])]
      simp only [ma_10 hix, ma_11 hix, hixc, Option.bind_some, m_rd, zck_t, hpcm]
      cases ot with
      | none =>
        have et' : J 10 (ix 0 l 49) = iJ (-1) := et
        rw [et', iJ_0, if_pos ((lgc_neg (by omega) (by omega) (by omega) (by omega)).mpr (by omega))]
        exact hgo o f x1 x3 e (hF.skip (fun v hv => by obtain ⟨-, y, hy, -⟩ := hv; exact bt y hy))
      | some w =>
        obtain ⟨e1, e2⟩ := et
        have hsh := best1.shift (r' := nn c + 1) (d1 := c_pc c 0 l) (d2 := 0) bt (by omega) (by omega) (by omega) (by omega) (by omega)
        obtain ⟨⟨⟨w1, w2⟩, w3, w4⟩, w5, w6⟩ := bt
        rw [e1, e2, iJ_0, if_neg (fun z => by have := (lgc_neg (by omega) (by omega) (by omega) (by omega)).mp z; omega), iJ_add]
        have hV : ∀ v, V0 c l v ↔ ∃ y, SV c 1024 1 0 l 49 y ∧ v = y + (1024 * c_pc c 0 l + 1 * 0) := fun v => ⟨fun z => z.2, fun z => ⟨ho, z⟩⟩
        have hun := (best1.union (by omega) hF.1 hsh).congr (S' := fun v => ∃ l', 0 ≤ l' ∧ l' < l + 1 ∧ V0 c l' v) (fun v => by
          constructor
          · rintro (⟨l', a1, a2, a3⟩ | z)
            · exact ⟨l', a1, by omega, a3⟩
            · exact ⟨l, hl, by omega, (hV v).mpr z⟩
          · rintro ⟨l', a1, a2, a3⟩
            by_cases e : l' = l
            · subst e; exact Or.inr ((hV v).mp a3)
            · exact Or.inl ⟨l', a1, by omega, a3⟩)
        have hnew : V0 c l (1024 * (w.1 + c_pc c 0 l) + (w.2 + 0)) := (hV _).mpr ⟨_, w5, by omega⟩
        cases o with
        | none =>
          have e' : x1 = iJ (-1) := e
          rw [e', m_isLess0]
          simp only [Option.bind_some, m_rd, zck_t, hpcm, ma_10 hix, ma_11 hix, hixc, e1, e2, iJ_add]
          rw [if_neg (by decide)]
          refine hgo (some (w.1 + c_pc c 0 l, w.2 + 0)) l _ _ ⟨rfl, by rw [Int.add_zero]⟩ ⟨hun, (fun q => by cases q), fun q hq => ?_⟩
          cases hq
          refine ⟨by omega, hnew, fun l' a1 a2 v hv => ?_⟩
          exact absurd ⟨l', a1, a2, hv⟩ (hF.1 v)
        | some q =>
          obtain ⟨e5, e6⟩ := e
          obtain ⟨hb1, hb2, hb3⟩ := hF
          obtain ⟨⟨⟨u1, u2⟩, u3, u4⟩, u5, u6⟩ := id hb1
          obtain ⟨f1, f2, f3⟩ := hb3 q rfl
          subst e5; subst e6
          rw [m_isLess (by omega) (by omega) (by omega) (by omega) (by omega) (by omega) (by omega) (by omega)]
          simp only [Option.bind_some, m_rd, zck_t, hpcm, ma_10 hix, ma_11 hix, hixc, e1, e2, iJ_add, b1_0]
          by_cases hless : w.1 + c_pc c 0 l < q.1 ∨ (w.1 + c_pc c 0 l = q.1 ∧ w.2 + 0 < q.2)
          · rw [if_neg (by simp; omega)]
            refine hgo (some (w.1 + c_pc c 0 l, w.2 + 0)) l _ _ ⟨rfl, by rw [Int.add_zero]⟩ ⟨?_, (fun q => by cases q), fun q' hq => ?_⟩
            · have : omin (some q) (oadd (some w) (c_pc c 0 l) 0) = some (w.1 + c_pc c 0 l, w.2 + 0) := if_pos hless
              rw [this] at hun; exact hun
            · cases hq
              refine ⟨by omega, hnew, fun l' a1 a2 v hv => ?_⟩
              have := u6 v ⟨l', a1, a2, hv⟩
              show 1024 * (w.1 + c_pc c 0 l) + (w.2 + 0) < v
              omega
          · rw [if_pos (by simp; omega)]
            refine hgo (some q) f _ _ ⟨rfl, rfl⟩ ⟨?_, (fun q => by cases q), fun q' hq => ?_⟩
            · have : omin (some q) (oadd (some w) (c_pc c 0 l) 0) = some q := if_neg hless
              rw [this] at hun; exact hun
            · cases hq
              exact ⟨by omega, f2, f3⟩
    · have ho' : c_ok c 0 l = false := by simpa using ho
      rw [if_pos ho']
      exact hgo o f x1 x3 e (hF.skip (fun v hv => ho hv.1))
theorem m_firstLevel (hc : cOK c) (hM : MC I J c) (hN : 60 ≤ N) (hD : ∀ l : Int, 0 ≤ l → l ≤ c.1 1 → Dn I J c 0 l 49) : ∃ o f, FLs c (c.1 1 + 1) o f ∧ f_Model_firstLevel N b (MH h b I J) = some (iI f, MH h b I J) := by
  have hm := hc.2.1
  unfold f_Model_firstLevel
  rw [iJ_m1, iI_m1]
  have := mf_l (h := h) (b := b) (N := N) hc hM hD (c.1 1 + 1).toNat N 0 none (-1) (iJ (-1)) 0 (by omega) (by omega) (by omega) rfl ⟨fun v ⟨l, a1, a2, _⟩ => by omega, fun _ => rfl, fun q hq => by cases hq⟩
  rw [← iI_0] at this
  exact this
/-- search: whether there is a table, with the tables of least values as they are then -/
theorem m_search (hc : cOK c) (hM : MC I J c) (hN : 60 ≤ N) : ∃ I' J' o f, SameT I J I' J' ∧ TB I' J' c 0 ∧ (∀ l : Int, 0 ≤ l → l ≤ c.1 1 → Dn I' J' c 0 l 49) ∧ FLs c (c.1 1 + 1) o f ∧ f_Model_firstLevel N b (MH h b I' J') = some (iI f, MH h b I' J') ∧ f_Model_search N b (MH h b I J) = some (b1 o.isSome, MH h b I' J') := by
  obtain ⟨I', J', hS, hT, hD, hgo⟩ := m_search_t (h := h) (b := b) (N := N) hc hN hM
  obtain ⟨o, f, hF, hfl⟩ := m_firstLevel (h := h) (b := b) (N := N) hc (hM.same hS) hN hD
  have hm := hc.2.1
  refine ⟨I', J', o, f, hS, hT, hD, hF, hfl, ?_⟩
  rw [hgo]
  unfold msFin
  rw [hfl]
  simp only [Option.bind_some]
  cases o with
  | none =>
    have := hF.2.1 rfl
    rw [if_pos ((iI_lz (by omega) (by omega)).mpr (by omega))]; rfl
  | some q =>
    have := (hF.2.2 q rfl).1
    rw [if_neg (fun z => by have := (iI_lz (by omega) (by omega)).mp z; omega)]; rfl
end MFIRST
