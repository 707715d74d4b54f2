/-! the reference: workOut whole -/
/-- the values by slopes below s -/
def Us (c : cfg) (p : Nat) (l g s v : Int) : Prop := ∃ s' : Int, s' < s ∧ c_fol c s' g = true ∧ (SVa c 1024 1 p l s' v ∨ ∃ k, c_at c k p ∧ SVk c 1024 1 k p l s' v)
theorem Us_s {c : cfg} {p : Nat} {l g s v : Int} : Us c p l g (s + 1) v ↔ Us c p l g s v ∨ (c_fol c s g = true ∧ (SVa c 1024 1 p l s v ∨ ∃ k, c_at c k p ∧ SVk c 1024 1 k p l s v)) := by
  constructor
  · rintro ⟨s', h1, h2, h3⟩
    by_cases e : s' = s
    · subst e; exact Or.inr ⟨h2, h3⟩
    · exact Or.inl ⟨s', by omega, h2, h3⟩
  · rintro (⟨s', h1, h2, h3⟩ | ⟨h2, h3⟩)
    · exact ⟨s', by omega, h2, h3⟩
    · exact ⟨s, by omega, h2, h3⟩
section MWORK3
variable {h : zH} {b : Nat} {I : Nat → Nat → Int32} {J : Nat → Nat → Int64} {c : cfg} {N : Nat}
theorem wo_body (hc : cOK c) (hM : MC I J c) (hN : 30 ≤ N) (rc : woR) {p : Nat} {l g s : Int} (hp : p < nn c) (hl1 : 0 ≤ l) (hl2 : l ≤ c.1 1) (hg1 : 0 ≤ g) (hg2 : g ≤ 49) (hs1 : -(c.1 7) ≤ s) (hs2 : s ≤ c.1 7) (hT : TB I J c p) {o : Option (Int × Int)} {x4 : Int64} {x6 : Int32} (e : enc1 o x4 x6) (hb : best1 (Us c p l g s) o (nn c - p)) :
    ∃ o' x' y', enc1 o' x' y' ∧ best1 (Us c p l g (s + 1)) o' (nn c - p) ∧ b_Model_workOut_22 N rc b (iI p) (iI l) (iI g) x4 x6 (iI (c_sp c p)) (iI s) (MH h b I J) = rc b (iI p) (iI l) (iI g) x' y' (iI (c_sp c p)) (iI (s + 1)) (MH h b I J) := by
  obtain ⟨n1, n2, n3⟩ := nn_r hc
  have hmo := hc.2.2.1
  have hm := hc.2.1
  have e24 : (24 : Int32) = iI 24 := by decide
  unfold b_Model_workOut_22
  simp only [m_rd, Option.bind_some, hM.1.2.2.1]
  rw [if_neg (fun z => by have := (iI_lt (by omega) (by omega) (by omega) (by omega)).mp z; omega)]
  simp only [zck_t, m_follows (N := N) (b := b) (h := h) hc hM (show -1000 ≤ s by omega) (show s ≤ 1000 by omega) hg1 hg2, Option.bind_some, b1_0]
  by_cases hf : c_fol c s g = true
  · rw [if_neg (by simp [hf])]
    have hp1 : iI (p : Int) + 1 = iI (((p + 1 : Nat) : Int)) := by rw [iI_1, iI_add]; rfl
    rw [hp1, iI_add l s]
    simp only [m_rd, zck_t, m_may (N := N) (b := b) (h := h) hc hM (show p + 1 < 25 by omega) (show (-2147483648 : Int) ≤ l + s by omega) (show l + s < 2147483648 by omega), Option.bind_some, b1_0]
    by_cases ho : c_ok c (p + 1) (l + s) = true
    · obtain ⟨v1, v2⟩ := c_ok_r ho
      rw [if_neg (by simp [ho])]
      obtain ⟨hix, hixc⟩ := ix_in (p := p + 1) (l := l + s) (g := s + 24) (by omega) v1 (by omega) (by omega) (by omega)
      obtain ⟨ot, et, bt⟩ := hT (p + 1) (l + s) s (by omega) (by omega) v1 v2 hs1 hs2
      obtain ⟨pc1, pc2⟩ := c_pc_r hc (p := p + 1) (by omega) v1 v2
      have hsh := best1.shift (r' := nn c - p) (d1 := c_pc c (p + 1) (l + s)) (d2 := (s.natAbs : Int)) bt (by omega) (by omega) (by omega) (by omega) (by omega)
      have hent := wo_entry (d1 := c_pc c (p + 1) (l + s)) (d2 := (s.natAbs : Int)) et (bt.bnd (by omega))
      obtain ⟨x', y', he', hgo⟩ := wo_pick (N := N) (b := b) (q := MH h b I J) (fun x y q => f_Model_workOut_159 N rc b (iI p) (iI l) (iI g) x y (iI (c_sp c p)) (iI s) q) (hb.bnd (by omega)) (hsh.bnd (by omega)) e hent
      have hb2 := best1.union (by omega) hb hsh
      obtain ⟨o3, x3, y3, he3, hb3, hgo3⟩ := wo_159 (h := h) (b := b) (g := g) hc hM hN rc hp hl1 hl2 hs1 hs2 hT he' hb2
      refine ⟨o3, x3, y3, he3, hb3.congr (fun v => ?_), ?_⟩
      · rw [Us_s]
        constructor
        · rintro ((z | ⟨y, hy, hv⟩) | z)
          · exact Or.inl z
          · exact Or.inr ⟨hf, Or.inl ⟨ho, y, hy, hv⟩⟩
          · exact Or.inr ⟨hf, Or.inr z⟩
        · rintro (z | ⟨-, ⟨-, y, hy, hv⟩ | z⟩)
          · exact Or.inl (Or.inl z)
          · exact Or.inl (Or.inr ⟨y, hy, hv⟩)
          · exact Or.inr z
      · rw [← hgo3, ← hgo]
        have h112 : ∀ s0 : Int64, f_Model_workOut_112 N rc b (iI p) (iI l) (iI g) x4 x6 (iI (c_sp c p)) (iI s) (iI ((25 * ((p + 1 : Nat) : Int) + (l + s)) * 50 + (s + 24))) s0 (MH h b I J) = (if lg_cmp s0 (0 : Int64) < 0 then f_Model_workOut_159 N rc b (iI p) (iI l) (iI g) x4 x6 (iI (c_sp c p)) (iI s) (MH h b I J) else Option.bind (zck true (f_Model_isLess N b s0 (I 11 (ix (p + 1) (l + s) (s + 24)) + iI (s.natAbs : Int)) x4 x6 (MH h b I J))) fun p_1 => if p_1.1 = 0 then f_Model_workOut_159 N rc b (iI p) (iI l) (iI g) x4 x6 (iI (c_sp c p)) (iI s) p_1.2 else f_Model_workOut_159 N rc b (iI p) (iI l) (iI g) s0 (I 11 (ix (p + 1) (l + s) (s + 24)) + iI (s.natAbs : Int)) (iI (c_sp c p)) (iI s) p_1.2) := by
          intro s0
          unfold f_Model_workOut_112
          simp only [m_rd, Option.bind_some, ma_11 hix, hixc, m_size (N := N) (show (-2147483648 : Int) < s by omega) (show s < 2147483648 by omega)]
        simp only [e24, iI_add s 24, m_at, Option.bind_some, m_rd, ma_10 hix, hixc, zck_t]
        rw [m_placeCost hc hM (show p + 1 < 25 by omega) v1 (by omega)]
        simp only [Option.bind_some, h112, iJ_m1]
        by_cases hx : 0 ≤ lg_cmp (J 10 (ix (p + 1) (l + s) (s + 24))) 0
        · simp only [if_pos hx, zck_t]
        · simp only [if_neg hx, zck_t]
    · have ho' : c_ok c (p + 1) (l + s) = false := by simpa using ho
      rw [if_pos ho']
      obtain ⟨o3, x3, y3, he3, hb3, hgo3⟩ := wo_159 (h := h) (b := b) (g := g) hc hM hN rc hp hl1 hl2 hs1 hs2 hT e hb
      refine ⟨o3, x3, y3, he3, hb3.congr (fun v => ?_), hgo3⟩
      rw [Us_s]
      constructor
      · rintro (z | z)
        · exact Or.inl z
        · exact Or.inr ⟨hf, Or.inr z⟩
      · rintro (z | ⟨-, z | z⟩)
        · exact Or.inl z
        · exact absurd z.1 ho
        · exact Or.inr z
  · have hf' : c_fol c s g = false := by simpa using hf
    rw [if_pos hf']
    refine ⟨o, x4, x6, e, hb.congr (fun v => ?_), ?_⟩
    · rw [Us_s]; exact ⟨Or.inl, fun z => z.elim id (fun z => absurd z.1 hf)⟩
    · unfold f_Model_workOut_313
      rw [iI_1, iI_add]
theorem m_workOut (hc : cOK c) (hM : MC I J c) (hN : 60 ≤ N) {p : Nat} {l g : Int} (hp : p < nn c) (hl1 : 0 ≤ l) (hl2 : l ≤ c.1 1) (hg1 : 0 ≤ g) (hg2 : g ≤ 49) (hT : TB I J c p) :
    ∃ o x y, enc1 o x y ∧ best1 (SV c 1024 1 p l g) o (nn c - p) ∧ f_Model_workOut N b (iI p) (iI l) (iI g) (MH h b I J) = some ((), MH h b (u2 I 11 (ix p l g) y) (u2 J 10 (ix p l g) x)) := by
  obtain ⟨n1, n2, n3⟩ := nn_r hc
  have hmo := hc.2.2.1
  have hm := hc.2.1
  obtain ⟨hix, hixc⟩ := ix_in (p := p) (l := l) (g := g) (by omega) hl1 (by omega) hg1 hg2
  have loop : ∀ (d fu : Nat) (s : Int) (o : Option (Int × Int)) (x4 : Int64) (x6 : Int32), s + d = c.1 7 + 1 → -(c.1 7) ≤ s → d < fu → enc1 o x4 x6 → best1 (Us c p l g s) o (nn c - p) →
      ∃ o x y, enc1 o x y ∧ best1 (Us c p l g (c.1 7 + 1)) o (nn c - p) ∧ f_Model_workOut_22 N fu b (iI p) (iI l) (iI g) x4 x6 (iI (c_sp c p)) (iI s) (MH h b I J) = some ((), MH h b (u2 I 11 (ix p l g) y) (u2 J 10 (ix p l g) x)) := by
    intro d
    induction d with
    | zero =>
      intro fu s o x4 x6 hd hs hf e hb
      obtain ⟨fu, rfl⟩ : ∃ q, fu = q + 1 := ⟨fu - 1, by omega⟩
      refine ⟨o, x4, x6, e, by rw [show c.1 7 + 1 = s by omega]; exact hb, ?_⟩
      show b_Model_workOut_22 N (f_Model_workOut_22 N fu) b (iI p) (iI l) (iI g) x4 x6 (iI (c_sp c p)) (iI s) (MH h b I J) = _
      unfold b_Model_workOut_22
      simp only [m_rd, Option.bind_some, hM.1.2.2.1]
      rw [if_pos ((iI_lt (by omega) (by omega) (by omega) (by omega)).mpr (by omega))]
      simp only [m_at, Option.bind_some, ms_10 hix, ms_11 hix, m_rd, hixc]
    | succ d ih =>
      intro fu s o x4 x6 hd hs hf e hb
      obtain ⟨fu, rfl⟩ : ∃ q, fu = q + 1 := ⟨fu - 1, by omega⟩
      obtain ⟨o', x', y', e', hb', hgo⟩ := wo_body (h := h) (b := b) (N := N) hc hM (by omega) (f_Model_workOut_22 N fu) hp hl1 hl2 hg1 hg2 hs (by omega) hT e hb
      obtain ⟨o2, x2, y2, e2, hb2, hgo2⟩ := ih fu (s + 1) o' x' y' (by omega) (by omega) (by omega) e' hb'
      refine ⟨o2, x2, y2, e2, hb2, ?_⟩
      show b_Model_workOut_22 N (f_Model_workOut_22 N fu) b (iI p) (iI l) (iI g) x4 x6 (iI (c_sp c p)) (iI s) (MH h b I J) = _
      rw [hgo, hgo2]
  have hempty : best1 (Us c p l g (-(c.1 7))) none (nn c - p) := by
    rintro v ⟨s', h1, h2, -⟩
    have := c_fol_r h2
    omega
  obtain ⟨o, x, y, e, hb, hgo⟩ := loop (2 * c.1 7 + 1).toNat N (-(c.1 7)) none (iJ (-1)) 0 (by omega) (by omega) (by omega) rfl hempty
  refine ⟨o, x, y, e, hb.congr (fun v => ?_), ?_⟩
  · rw [SV_s hp]
    constructor
    · rintro ⟨s', -, h2, h3⟩
      exact ⟨s', h2, h3⟩
    · rintro ⟨s', h2, h3⟩
      have := c_fol_r h2
      exact ⟨s', by omega, h2, h3⟩
  · unfold f_Model_workOut
    simp only [m_rd, zck_t, m_spanAt hc hM (show 10 ≤ N by omega) (show p < 25 by omega), Option.bind_some, hM.1.2.2.1, iI_neg, iJ_m1]
    exact hgo
end MWORK3
