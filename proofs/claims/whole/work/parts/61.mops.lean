/-! the reference: move and the plain calls -/
abbrev rg (z : Int) : Prop := -2147483648 ≤ z ∧ z < 2147483648
section MOPS
variable {h : zH} {b : Nat} {I : Nat → Nat → Int32} {J : Nat → Nat → Int64} {a : ast} {N : Nat}
theorem aOK.has (hOK : aOK a) : a.2.1 0 = 0 ∨ a.2.1 0 = 1 := by
  rcases hOK.2.1 with z | z
  · exact Or.inl z
  · exact Or.inr z.1
theorem p_in {p : Int} {n : Nat} (h1 : 0 ≤ p) (h2 : p < n) (h3 : n ≤ 1000000) : vp_in (iI p) n ∧ (iI p).toNatClampNeg = p.toNat := ⟨iI_in h1 h2 (by omega), iI_cl h1 (by omega)⟩
theorem m_move (hN : 2000 ≤ N) (hOK : aOK a) (hI : MI I J a) {p z : Int} (hp : rg p) (hz : rg z) : ∃ I' J' a' r, MoveR a a' p z r ∧ MI I' J' a' ∧ f_Model_move N b (iI p) (iI z) (MH h b I J) = some (b1 r, MH h b I' J') := by
  obtain ⟨hM, h24, h1, h4, h18, h19⟩ := id hI
  have hc := hOK.1
  obtain ⟨n1, n2, n3⟩ := nn_r hc
  have hm := hc.2.1
  have hx := hOK.has
  obtain ⟨zz1, zz2⟩ := id hz
  unfold f_Model_move
  simp only [m_rd, Option.bind_some, h24, zck_t, m_isPlace (N := N) (b := b) (h := h) hc hM hp.1 hp.2, m_isLevel (N := N) (b := b) (h := h) hc hM hz.1 hz.2, b1_0, iI_m1]
  simp (disch := omega) only [iI_ez, iI_eq]
  have hfail : (a.2.1 0 = 0 ∨ ¬ (0 ≤ p ∧ p ≤ a.1.1 0) ∨ ¬ (z = -1 ∨ (0 ≤ z ∧ z ≤ a.1.1 1))) → ∃ I' J' a' r, MoveR a a' p z r ∧ MI I' J' a' ∧ zrb (0 : Int32) (MH h b I J) = some (b1 r, MH h b I' J') := fun hh => ⟨I, J, a, false, Or.inl ⟨hh, rfl, rfl⟩, hI, rfl⟩
  by_cases h0 : a.2.1 0 = 0
  · rw [if_pos h0]; exact hfail (Or.inl h0)
  · rw [if_neg h0]
    by_cases hpl : 0 ≤ p ∧ p ≤ a.1.1 0
    · rw [if_neg (by simp [hpl])]
      have hgo : (z = -1 ∨ (0 ≤ z ∧ z ≤ a.1.1 1)) → ∃ I' J' a' r, MoveR a a' p z r ∧ MI I' J' a' ∧ f_Model_move_30 N b (iI p) (iI z) (MH h b I J) = some (b1 r, MH h b I' J') := by
        intro hzz
        obtain ⟨hin, hcl⟩ := p_in (p := p) (n := 25) hpl.1 (by omega) (by omega)
        have hc' : cOK (setC a.1 5 p.toNat z) := setC_ok hc (by omega) (by omega) ⟨by omega, by omega, by omega⟩
        have hM' : MC (u2 I 5 p.toNat (iI z)) J (setC a.1 5 p.toNat z) := hM.set (by omega) (by omega)
        obtain ⟨I3, J3, o, f, hS3, hT3, hD3, hF3, -, hgo3⟩ := m_search (h := h) (b := b) (N := N) hc' hM' (by omega)
        have hBar := Bar_neg hc'
        unfold f_Model_move_30
        simp only [m_rd, Option.bind_some, ma_5 hin, ms_5 hin, hcl, zck_t, hgo3, b1_0]
        cases o with
        | none =>
          rw [if_pos (by rfl)]
          have hno : ¬ Bar (setC a.1 5 p.toNat z) (-1) := fun hh => by
            obtain ⟨v, l0, v1, v2, v3⟩ := hBar.mp hh
            exact hF3.1 v ⟨l0, v1, v2, v3⟩
          have hE : ∀ i k, i ≠ 11 → u2 I3 5 p.toNat (I 5 p.toNat) i k = I i k := fun i k hi => by
            by_cases e : i = 5 ∧ k = p.toNat
            · rw [e.1, e.2, u2_s]
            · rw [u2_n (by omega), hS3.1 i k hi, u2_n (by omega)]
          refine ⟨u2 I3 5 p.toNat (I 5 p.toNat), J3, a, false, Or.inr ⟨⟨hx.resolve_left h0, hpl, hzz⟩, Or.inl ⟨hno, rfl, rfl⟩⟩, ⟨hM.sameC ⟨fun k hk => hE 0 k (by omega), fun i k a1 a2 => hE i k (by omega), fun k => hS3.2 9 k (by omega)⟩, ?_, fun hh => ?_, ?_, fun q hq => ?_, ?_⟩, ?_⟩
          · rw [hE 0 24 (by omega)]; exact h24
          · obtain ⟨g1, g2, g3⟩ := h1 hh
            exact ⟨fun q hq => by rw [hE 17 q (by omega)]; exact g1 q hq, by rw [hE 0 26 (by omega)]; exact g2, by rw [hS3.2 0 27 (by omega)]; exact g3⟩
          · rw [hE 0 29 (by omega), hE 0 30 (by omega), hE 0 31 (by omega), hE 0 32 (by omega), hE 0 33 (by omega)]; exact h4
          · rw [hE 18 q (by omega)]; exact h18 q hq
          · rw [hE 0 19 (by omega)]
            rcases h19 with z | ⟨z, M, ⟨⟨z1, z2, z3⟩, z4, z5⟩, z6⟩
            · exact Or.inl z
            · refine Or.inr ⟨z, M, ⟨⟨?_, z2, z3⟩, fun k x hk => ?_, z5⟩, z6⟩
              · rw [hE 0 20 (by omega)]; exact z1
              · rw [hS3.2 14 _ (by omega)]; exact z4 k x hk
          · rfl
        | some q =>
          rw [if_neg (by simp)]
          have hex : ∃ v l, 0 ≤ l ∧ l < (setC a.1 5 p.toNat z).1 1 + 1 ∧ V0 (setC a.1 5 p.toNat z) l v := by
            obtain ⟨l, v1, v2, v3⟩ := hF3.1.2.1
            exact ⟨_, l, v1, v2, v3⟩
          have hM3 := hM'.same hS3
          obtain ⟨I4, hS4, h04, hgo4⟩ := m_dropCurves (h := h) (b := b) (N := N) (I := u2 I3 0 19 0) (J := J3) (by omega)
          have hE4 : ∀ i k, i ≠ 18 → ¬ (i = 0 ∧ k = 19) → I4 i k = I3 i k := fun i k a1 a2 => by rw [hS4 i k a1, u2_n (by omega)]
          have hM4 : MC I4 J3 (setC a.1 5 p.toNat z) := hM3.sameC ⟨fun k hk => hE4 0 k (by omega) (by omega), fun i k a1 a2 => hE4 i k (by omega) (by omega), fun _ => rfl⟩
          have hT4 : TB I4 J3 (setC a.1 5 p.toNat z) 0 := fun q' l' s' a1 a2 a3 a4 a5 a6 => by rw [hE4 11 _ (by decide) (by omega)]; exact hT3 q' l' s' a1 a2 a3 a4 a5 a6
          have hD4 : ∀ l : Int, 0 ≤ l → l ≤ (setC a.1 5 p.toNat z).1 1 → Dn I4 J3 (setC a.1 5 p.toNat z) 0 l 49 := fun l a1 a2 => by
            obtain ⟨o, e, d⟩ := hD3 l a1 a2
            exact ⟨o, by rw [hE4 11 _ (by decide) (by omega)]; exact e, d⟩
          obtain ⟨I5, L, K, uf, cost, hS5, hL, hu, hTab, hgo5⟩ := m_goAlong (h := h) (b := b) (N := N) hc' hM4 (by omega) hT4 hD4 hex
          have hE5 : ∀ i k, i ≠ 11 → i ≠ 17 → i ≠ 18 → i ≠ 5 → ¬ (i = 0 ∧ (k = 19 ∨ k = 26)) → I5 i k = I i k := fun i k a1 a2 a3 a4 a5 => by
            rw [hS5 i k a2 (by omega), hE4 i k a3 (by omega), hS3.1 i k a1, u2_n (by omega)]
          refine ⟨I5, _, withT (setC a.1 5 p.toNat z, a.2) L K uf cost, true, Or.inr ⟨⟨hx.resolve_left h0, hpl, hzz⟩, Or.inr ⟨hBar.mpr hex, rfl, L, K, uf, cost, hTab, rfl⟩⟩, ⟨(hM4.sameG hS5).sameC ⟨fun _ _ => rfl, fun _ _ _ _ => rfl, fun k => u2_n (by omega)⟩, ?_, fun _ => ⟨hL, hu, u2_s⟩, ?_, fun q hq => ?_, Or.inl ?_⟩, ?_⟩
          · rw [hE5 0 24 (by omega) (by omega) (by omega) (by omega) (by omega), h24, show a.2.1 0 = 1 by omega]; rfl
          · rw [hE5 0 29 (by omega) (by omega) (by omega) (by omega) (by omega), hE5 0 30 (by omega) (by omega) (by omega) (by omega) (by omega), hE5 0 31 (by omega) (by omega) (by omega) (by omega) (by omega), hE5 0 32 (by omega) (by omega) (by omega) (by omega) (by omega), hE5 0 33 (by omega) (by omega) (by omega) (by omega) (by omega)]
            exact h4
          · rw [hS5 18 q (by omega) (by omega), h04 q hq]; exact iI_0
          · rw [hS5 0 19 (by omega) (by omega), hS4 0 19 (by omega), u2_s]
          · simp only [zp_19 (Or.inl rfl), m_rd, zck_t, hgo4, hgo5, Option.bind_some]; rfl
      by_cases hz1 : z = -1
      · rw [if_pos hz1]; exact hgo (Or.inl hz1)
      · rw [if_neg hz1]
        by_cases hz2 : 0 ≤ z ∧ z ≤ a.1.1 1
        · rw [if_neg (by simp [hz2])]; exact hgo (Or.inr hz2)
        · rw [if_pos (by simpa using hz2)]; exact hfail (Or.inr (Or.inr (by omega)))
    · rw [if_pos (by simpa using hpl)]; exact hfail (Or.inr (Or.inl hpl))
/-- the answers of plain calls, and what is told then -/
def s_ground (a : ast) (p l : Int) : Bool × ast := if (0 ≤ p ∧ p ≤ a.1.1 0) ∧ (0 ≤ l ∧ l ≤ a.1.1 1) then (true, forg (setC a.1 1 p.toNat l, a.2)) else (false, a)
def s_prices (a : ast) (p x y : Int) : Bool × ast := if (0 ≤ p ∧ p ≤ a.1.1 0) ∧ (0 ≤ x ∧ x ≤ 1000000) ∧ (0 ≤ y ∧ y ≤ 1000000) then (true, forg (setC (setC a.1 2 p.toNat x) 3 p.toNat y, a.2)) else (false, a)
def s_fixed (a : ast) (p l : Int) : Bool × ast := if (0 ≤ p ∧ p ≤ a.1.1 0) ∧ (l = -1 ∨ (0 ≤ l ∧ l ≤ a.1.1 1)) then (true, forg (setC a.1 4 p.toNat l, a.2)) else (false, a)
def s_slopes (a : ast) (x y z : Int) : Bool × ast := if (1 ≤ x ∧ x ≤ 24) ∧ (0 ≤ y ∧ y ≤ 48) ∧ (0 ≤ z ∧ z ≤ x) then (true, forg ((u1 (u1 (u1 a.1.1 7 x) 8 y) 9 z, a.1.2), a.2)) else (false, a)
def s_level (a : ast) (p : Int) : Int := if a.2.1 0 = 1 ∧ 0 ≤ p ∧ p ≤ a.1.1 0 then a.2.2 0 p.toNat else -1
def s_cost (a : ast) : Int := if a.2.1 0 = 1 then a.2.1 2 else -1
def s_speed (a : ast) (v : Int) : Bool × ast := if 0 ≤ v ∧ v ≤ 1000 then (true, (a.1, u1 a.2.1 3 v, a.2.2)) else (false, a)
def s_lorry (a : ast) (x y z w : Int) : Bool × ast := if ((0 ≤ x ∧ x ≤ 1000) ∧ (0 ≤ y ∧ y ≤ 1000)) ∧ (0 ≤ z ∧ z ≤ 1000) ∧ (0 ≤ w ∧ w ≤ 1000) then (true, (a.1, u1 (u1 (u1 (u1 a.2.1 4 x) 5 y) 6 z) 7 w, a.2.2)) else (false, a)
theorem m_ground (hN : 2000 ≤ N) (hOK : aOK a) (hI : MI I J a) {p z : Int} (hp : rg p) (hz : rg z) : ∃ I' J', MI I' J' (s_ground a p z).2 ∧ f_Model_ground N b (iI p) (iI z) (MH h b I J) = some (b1 (s_ground a p z).1, MH h b I' J') := by
  obtain ⟨hM, h24, h1, h4, h18, h19⟩ := id hI
  have hc := hOK.1
  have hn := hc.1
  unfold f_Model_ground
  simp only [m_rd, Option.bind_some, zck_t, m_isPlace (N := N) (b := b) (h := h) hc hM hp.1 hp.2, m_isLevel (N := N) (b := b) (h := h) hc hM hz.1 hz.2, b1_0]
  by_cases hpl : 0 ≤ p ∧ p ≤ a.1.1 0
  · rw [if_neg (by simp [hpl])]
    by_cases hz2 : 0 ≤ z ∧ z ≤ a.1.1 1
    · rw [if_neg (by simp [hz2]), show s_ground a p z = (true, forg (setC a.1 1 p.toNat z, a.2)) from if_pos ⟨hpl, hz2⟩]
      obtain ⟨hin, hcl⟩ := p_in (p := p) (n := 25) hpl.1 (by omega) (by omega)
      obtain ⟨I1, hI1, -, hgo1⟩ := m_forget (h := h) (b := b) (N := N) (a := a) (by omega) (hM.set (i := 1) (p := p.toNat) (v := z) (by omega) (by omega)) (by rw [u2_n (Or.inl (by omega)), u2_n (Or.inl (by omega)), u2_n (Or.inl (by omega)), u2_n (Or.inl (by omega)), u2_n (Or.inl (by omega))]; exact h4)
      refine ⟨I1, J, hI1, ?_⟩
      simp only [ms_1 hin, hcl, Option.bind_some, m_rd, zck_t, hgo1]; rfl
    · rw [if_pos (by simpa using hz2), show s_ground a p z = (false, a) from if_neg (fun q => hz2 q.2)]; exact ⟨I, J, hI, rfl⟩
  · rw [if_pos (by simpa using hpl), show s_ground a p z = (false, a) from if_neg (fun q => hpl q.1)]; exact ⟨I, J, hI, rfl⟩
theorem m_isPrice {z : Int} (hz : rg z) {q : zH} : f_Model_isPrice N (iI z) q = some (b1 (decide (0 ≤ z ∧ z ≤ 1000000)), q) := by
  obtain ⟨z1, z2⟩ := hz
  unfold f_Model_isPrice
  rw [show (1000000 : Int32) = iI 1000000 by decide]
  simp (disch := omega) only [iI_lz, iI_lt]
  by_cases e : z < 0
  · rw [if_pos e, show decide (0 ≤ z ∧ z ≤ 1000000) = false by simp; omega]; rfl
  · rw [if_neg e]
    by_cases e2 : 1000000 < z
    · rw [if_pos e2, show decide (0 ≤ z ∧ z ≤ 1000000) = false by simp; omega]; rfl
    · rw [if_neg e2, show decide (0 ≤ z ∧ z ≤ 1000000) = true by simp; omega]; rfl
theorem m_prices (hN : 2000 ≤ N) (hOK : aOK a) (hI : MI I J a) {p z w : Int} (hp : rg p) (hz : rg z) (hw : rg w) : ∃ I' J', MI I' J' (s_prices a p z w).2 ∧ f_Model_prices N b (iI p) (iI z) (iI w) (MH h b I J) = some (b1 (s_prices a p z w).1, MH h b I' J') := by
  obtain ⟨hM, h24, h1, h4, h18, h19⟩ := id hI
  have hc := hOK.1
  have hn := hc.1
  unfold f_Model_prices
  simp only [m_rd, Option.bind_some, zck_t, m_isPlace (N := N) (b := b) (h := h) hc hM hp.1 hp.2, m_isPrice hz, m_isPrice hw, b1_0]
  by_cases hpl : 0 ≤ p ∧ p ≤ a.1.1 0
  · rw [if_neg (by simp [hpl])]
    by_cases hz2 : 0 ≤ z ∧ z ≤ 1000000
    · rw [if_neg (by simp [hz2])]
      by_cases hw2 : 0 ≤ w ∧ w ≤ 1000000
      · rw [if_neg (by simp [hw2]), show s_prices a p z w = (true, forg (setC (setC a.1 2 p.toNat z) 3 p.toNat w, a.2)) from if_pos ⟨hpl, hz2, hw2⟩]
        obtain ⟨hin, hcl⟩ := p_in (p := p) (n := 25) hpl.1 (by omega) (by omega)
        obtain ⟨I1, hI1, -, hgo1⟩ := m_forget (h := h) (b := b) (N := N) (a := a) (by omega) ((hM.set (i := 2) (p := p.toNat) (v := z) (by omega) (by omega)).set (i := 3) (p := p.toNat) (v := w) (by omega) (by omega)) (by simp only [u2_n (Or.inl (show (0 : Nat) ≠ 3 by omega)), u2_n (Or.inl (show (0 : Nat) ≠ 2 by omega))]; exact h4)
        refine ⟨I1, J, hI1, ?_⟩
        simp only [ms_2 hin, ms_3 hin, hcl, Option.bind_some, m_rd, zck_t, hgo1]; rfl
      · rw [if_pos (by simpa using hw2), show s_prices a p z w = (false, a) from if_neg (fun q => hw2 q.2.2)]; exact ⟨I, J, hI, rfl⟩
    · rw [if_pos (by simpa using hz2), show s_prices a p z w = (false, a) from if_neg (fun q => hz2 q.2.1)]; exact ⟨I, J, hI, rfl⟩
  · rw [if_pos (by simpa using hpl), show s_prices a p z w = (false, a) from if_neg (fun q => hpl q.1)]; exact ⟨I, J, hI, rfl⟩
theorem m_fixed (hN : 2000 ≤ N) (hOK : aOK a) (hI : MI I J a) {p z : Int} (hp : rg p) (hz : rg z) : ∃ I' J', MI I' J' (s_fixed a p z).2 ∧ f_Model_fixed N b (iI p) (iI z) (MH h b I J) = some (b1 (s_fixed a p z).1, MH h b I' J') := by
  obtain ⟨hM, h24, h1, h4, h18, h19⟩ := id hI
  obtain ⟨z1, z2⟩ := id hz
  have hc := hOK.1
  have hn := hc.1
  unfold f_Model_fixed
  simp only [m_rd, Option.bind_some, zck_t, m_isPlace (N := N) (b := b) (h := h) hc hM hp.1 hp.2, m_isLevel (N := N) (b := b) (h := h) hc hM hz.1 hz.2, b1_0, iI_m1]
  simp (disch := omega) only [iI_eq]
  by_cases hpl : 0 ≤ p ∧ p ≤ a.1.1 0
  · rw [if_neg (by simp [hpl])]
    have hgo : (z = -1 ∨ (0 ≤ z ∧ z ≤ a.1.1 1)) → ∃ I' J', MI I' J' (forg (setC a.1 4 p.toNat z, a.2)) ∧ f_Model_fixed_23 N b (iI p) (iI z) (MH h b I J) = some (b1 true, MH h b I' J') := by
      intro hzz
      obtain ⟨hin, hcl⟩ := p_in (p := p) (n := 25) hpl.1 (by omega) (by omega)
      obtain ⟨I1, hI1, -, hgo1⟩ := m_forget (h := h) (b := b) (N := N) (a := a) (by omega) (hM.set (i := 4) (p := p.toNat) (v := z) (by omega) (by omega)) (by rw [u2_n (Or.inl (by omega)), u2_n (Or.inl (by omega)), u2_n (Or.inl (by omega)), u2_n (Or.inl (by omega)), u2_n (Or.inl (by omega))]; exact h4)
      refine ⟨I1, J, hI1, ?_⟩
      unfold f_Model_fixed_23
      simp only [ms_4 hin, hcl, Option.bind_some, m_rd, zck_t, hgo1]; rfl
    by_cases hz1 : z = -1
    · rw [if_pos hz1, show s_fixed a p z = (true, forg (setC a.1 4 p.toNat z, a.2)) from if_pos ⟨hpl, Or.inl hz1⟩]; exact hgo (Or.inl hz1)
    · rw [if_neg hz1]
      by_cases hz2 : 0 ≤ z ∧ z ≤ a.1.1 1
      · rw [if_neg (by simp [hz2]), show s_fixed a p z = (true, forg (setC a.1 4 p.toNat z, a.2)) from if_pos ⟨hpl, Or.inr hz2⟩]; exact hgo (Or.inr hz2)
      · rw [if_pos (by simpa using hz2), show s_fixed a p z = (false, a) from if_neg (fun q => by omega)]; exact ⟨I, J, hI, rfl⟩
  · rw [if_pos (by simpa using hpl), show s_fixed a p z = (false, a) from if_neg (fun q => hpl q.1)]; exact ⟨I, J, hI, rfl⟩
theorem m_slopes (hN : 2000 ≤ N) (hI : MI I J a) {x y z : Int} (hx : rg x) (hy : rg y) (hz : rg z) : ∃ I' J', MI I' J' (s_slopes a x y z).2 ∧ f_Model_slopes N b (iI x) (iI y) (iI z) (MH h b I J) = some (b1 (s_slopes a x y z).1, MH h b I' J') := by
  obtain ⟨hM, h24, h1, h4, h18, h19⟩ := id hI
  obtain ⟨x1, x2⟩ := hx
  obtain ⟨y1, y2⟩ := hy
  obtain ⟨z1, z2⟩ := hz
  unfold f_Model_slopes
  have el1 : iI x < (1 : Int32) ↔ x < 1 := by rw [iI_1]; exact iI_lt (by omega) (by omega) (by omega) (by omega)
  rw [show (24 : Int32) = iI 24 by decide, show (48 : Int32) = iI 48 by decide]
  simp (disch := omega) only [el1, iI_lt, iI_lz, iI_le]
  have hno : ¬ ((1 ≤ x ∧ x ≤ 24) ∧ (0 ≤ y ∧ y ≤ 48) ∧ (0 ≤ z ∧ z ≤ x)) → ∃ I' J', MI I' J' (s_slopes a x y z).2 ∧ zrb (0 : Int32) (MH h b I J) = some (b1 (s_slopes a x y z).1, MH h b I' J') := by
    intro hP
    rw [show s_slopes a x y z = (false, a) from if_neg hP]; exact ⟨I, J, hI, rfl⟩
  by_cases c1 : x < 1
  · rw [if_pos c1]; exact hno (by omega)
  · rw [if_neg c1]
    by_cases c2 : 24 < x
    · rw [if_pos c2]; exact hno (by omega)
    · rw [if_neg c2]
      by_cases c3 : y < 0
      · rw [if_pos c3]; exact hno (by omega)
      · rw [if_neg c3]
        by_cases c4 : 48 < y
        · rw [if_pos c4]; exact hno (by omega)
        · rw [if_neg c4]
          by_cases c5 : z < 0
          · rw [if_pos c5]; exact hno (by omega)
          · rw [if_neg c5]
            by_cases c6 : z ≤ x
            · rw [if_pos c6, show s_slopes a x y z = (true, forg ((u1 (u1 (u1 a.1.1 7 x) 8 y) 9 z, a.1.2), a.2)) from if_pos (by omega)]
              obtain ⟨⟨a1, a2, a3, a4, a5, a6⟩, hb, hk⟩ := hM
              have hM' : MC (u2 (u2 (u2 I 0 7 (iI x)) 0 8 (iI y)) 0 9 (iI z)) J (u1 (u1 (u1 a.1.1 7 x) 8 y) 9 z, a.1.2) := by
                refine ⟨⟨?_, ?_, ?_, ?_, ?_, ?_⟩, fun q hq => ?_, fun k hkk => ?_⟩
                · exact a1
                · exact a2
                · rfl
                · rfl
                · rfl
                · exact a6
                · exact hb q hq
                · exact hk k hkk
              obtain ⟨I1, hI1, -, hgo1⟩ := m_forget (h := h) (b := b) (N := N) (a := a) (by omega) hM' h4
              refine ⟨I1, J, hI1, ?_⟩
              simp only [m_wr, Option.bind_some, m_rd, zck_t, hgo1]; rfl
            · rw [if_neg c6]; exact hno (by omega)
theorem m_level (hOK : aOK a) (hI : MI I J a) {p : Int} (hp : rg p) : f_Model_level N b (iI p) (MH h b I J) = some (iI (s_level a p), MH h b I J) := by
  obtain ⟨hM, h24, h1, h4, h18, h19⟩ := id hI
  have hc := hOK.1
  obtain ⟨n1, n2, n3⟩ := nn_r hc
  have hx := hOK.has
  unfold f_Model_level s_level
  simp only [m_rd, Option.bind_some, h24, zck_t, m_isPlace (N := N) (b := b) (h := h) hc hM hp.1 hp.2, b1_0]
  simp (disch := omega) only [iI_ez]
  by_cases h0 : a.2.1 0 = 0
  · rw [if_pos h0, if_neg (by omega)]; rfl
  · rw [if_neg h0]
    by_cases hpl : 0 ≤ p ∧ p ≤ a.1.1 0
    · rw [if_neg (by simp [hpl]), if_pos (by omega)]
      obtain ⟨hin, hcl⟩ := p_in (p := p) (n := 25) hpl.1 (by omega) (by omega)
      simp only [m_rd, ma_17 hin, hcl, Option.bind_some, (h1 (by omega)).1 p.toNat (by omega)]
    · rw [if_pos (by simpa using hpl), if_neg (by omega)]; rfl
theorem m_cost (hOK : aOK a) (hI : MI I J a) : f_Model_cost N b (MH h b I J) = some (iJ (s_cost a), MH h b I J) := by
  obtain ⟨hM, h24, h1, h4, h18, h19⟩ := id hI
  have hx := hOK.has
  unfold f_Model_cost s_cost
  simp only [m_rd, Option.bind_some, h24]
  simp (disch := omega) only [iI_ez]
  by_cases h0 : a.2.1 0 = 0
  · rw [if_pos h0, if_neg (by omega)]; rfl
  · rw [if_neg h0, if_pos (by omega), (h1 (by omega)).2.2]
theorem m_keeps (hOK : aOK a) (hI : MI I J a) : f_Model_keeps N b (MH h b I J) = some (iI (a.2.1 0), MH h b I J) := by
  obtain ⟨hM, h24, h1, h4, h18, h19⟩ := id hI
  unfold f_Model_keeps
  simp only [m_rd, Option.bind_some, h24]
  rcases hOK.has with e | e <;> rw [e] <;> rfl
theorem m_speed (hI : MI I J a) {v : Int} (hv : rg v) : ∃ I', MI I' J (s_speed a v).2 ∧ f_Model_speed N b (iI v) (MH h b I J) = some (b1 (s_speed a v).1, MH h b I' J) := by
  obtain ⟨v1, v2⟩ := hv
  unfold f_Model_speed
  rw [show (1000 : Int32) = iI 1000 by decide]
  simp (disch := omega) only [iI_lz, iI_le]
  by_cases c1 : v < 0
  · rw [if_pos c1, show s_speed a v = (false, a) from if_neg (by omega)]; exact ⟨I, hI, rfl⟩
  · rw [if_neg c1]
    by_cases c2 : v ≤ 1000
    · rw [if_pos c2, show s_speed a v = (true, (a.1, u1 a.2.1 3 v, a.2.2)) from if_pos (by omega)]
      obtain ⟨hM, h24, h1, ⟨h29, h30, h31, h32, h33⟩, h18, h19⟩ := id hI
      refine ⟨u2 I 0 29 (iI v), ⟨hM.sameC ⟨fun k hk => u2_n (by omega), fun i k a1 a2 => u2_n (by omega), fun _ => rfl⟩, h24, h1, ⟨rfl, h30, h31, h32, h33⟩, h18, h19⟩, ?_⟩
      simp only [m_wr, Option.bind_some]; rfl
    · rw [if_neg c2, show s_speed a v = (false, a) from if_neg (by omega)]; exact ⟨I, hI, rfl⟩
theorem m_lorry (hI : MI I J a) {x y z w : Int} (hx : rg x) (hy : rg y) (hz : rg z) (hw : rg w) : ∃ I', MI I' J (s_lorry a x y z w).2 ∧ f_Model_lorry N b (iI x) (iI y) (iI z) (iI w) (MH h b I J) = some (b1 (s_lorry a x y z w).1, MH h b I' J) := by
  obtain ⟨x1, x2⟩ := hx
  obtain ⟨y1, y2⟩ := hy
  obtain ⟨z1, z2⟩ := hz
  obtain ⟨w1, w2⟩ := hw
  unfold f_Model_lorry
  rw [show (1000 : Int32) = iI 1000 by decide]
  simp (disch := omega) only [iI_lt, iI_lz, iI_le]
  have hno : ¬ (((0 ≤ x ∧ x ≤ 1000) ∧ (0 ≤ y ∧ y ≤ 1000)) ∧ (0 ≤ z ∧ z ≤ 1000) ∧ (0 ≤ w ∧ w ≤ 1000)) → ∃ I', MI I' J (s_lorry a x y z w).2 ∧ zrb (0 : Int32) (MH h b I J) = some (b1 (s_lorry a x y z w).1, MH h b I' J) := by
    intro hP
    rw [show s_lorry a x y z w = (false, a) from if_neg hP]; exact ⟨I, hI, rfl⟩
  by_cases c1 : x < 0
  · rw [if_pos c1]; exact hno (by omega)
  rw [if_neg c1]
  by_cases c2 : 1000 < x
  · rw [if_pos c2]; exact hno (by omega)
  rw [if_neg c2]
  by_cases c3 : y < 0
  · rw [if_pos c3]; exact hno (by omega)
  rw [if_neg c3]
  by_cases c4 : 1000 < y
  · rw [if_pos c4]; exact hno (by omega)
  rw [if_neg c4]
  by_cases c5 : z < 0
  · rw [if_pos c5]; exact hno (by omega)
  rw [if_neg c5]
  by_cases c6 : 1000 < z
  · rw [if_pos c6]; exact hno (by omega)
  rw [if_neg c6]
  by_cases c7 : w < 0
  · rw [if_pos c7]; exact hno (by omega)
  rw [if_neg c7]
  by_cases c8 : w ≤ 1000
  · rw [if_pos c8, show s_lorry a x y z w = (true, (a.1, u1 (u1 (u1 (u1 a.2.1 4 x) 5 y) 6 z) 7 w, a.2.2)) from if_pos (by omega)]
    obtain ⟨hM, h24, h1, ⟨h29, h30, h31, h32, h33⟩, h18, h19⟩ := id hI
    refine ⟨u2 (u2 (u2 (u2 I 0 30 (iI x)) 0 31 (iI y)) 0 32 (iI z)) 0 33 (iI w), ⟨hM.sameC ⟨fun k hk => by rw [u2_n (by omega), u2_n (by omega), u2_n (by omega), u2_n (by omega)], fun i k a1 a2 => by rw [u2_n (by omega), u2_n (by omega), u2_n (by omega), u2_n (by omega)], fun _ => rfl⟩, h24, h1, ⟨h29, rfl, rfl, rfl, rfl⟩, h18, h19⟩, ?_⟩
    simp only [m_wr, Option.bind_some]; rfl
  · rw [if_neg c8]; exact hno (by omega)
/-- the k-th of the next costs -/
def OtherR (a : ast) (k v : Int) : Prop := ((a.2.1 0 = 0 ∨ ¬ (0 ≤ k ∧ k ≤ 5)) ∧ v = -1) ∨ ((a.2.1 0 = 1 ∧ 0 ≤ k ∧ k ≤ 5) ∧ ∃ L, FW 6 (Uo a.1 (a.1.1 1 + 1)) L ∧ v = (L[k.toNat]?).getD (-1))
theorem OtherR.uniq {a : ast} {k v v' : Int} (h : OtherR a k v) (h' : OtherR a k v') : v = v' := by
  rcases h with ⟨h1, h2⟩ | ⟨h1, L, h2, h3⟩ <;> rcases h' with ⟨g1, g2⟩ | ⟨g1, L', g2, g3⟩
  · omega
  · omega
  · omega
  · rw [h3, g3, h2.eq g2]
theorem m_other (hN : 2000 ≤ N) (hOK : aOK a) (hI : MI I J a) {k : Int} (hk : rg k) : ∃ I' J' v, OtherR a k v ∧ MI I' J' a ∧ f_Model_other N b (iI k) (MH h b I J) = some (iJ v, MH h b I' J') := by
  obtain ⟨hM, h24, h1, h4, h18, h19⟩ := id hI
  obtain ⟨k1, k2⟩ := hk
  have hx := hOK.has
  unfold f_Model_other
  simp only [m_rd, Option.bind_some, h24, zck_t]
  rw [show (5 : Int32) = iI 5 by decide]
  simp (disch := omega) only [iI_ez, iI_lz, iI_le]
  have hno : (a.2.1 0 = 0 ∨ ¬ (0 ≤ k ∧ k ≤ 5)) → ∃ I' J' v, OtherR a k v ∧ MI I' J' a ∧ some ((-1 : Int64), MH h b I J) = some (iJ v, MH h b I' J') := fun hh => ⟨I, J, -1, Or.inl ⟨hh, rfl⟩, hI, rfl⟩
  by_cases h0 : a.2.1 0 = 0
  · rw [if_pos h0]; exact hno (Or.inl h0)
  rw [if_neg h0]
  by_cases c1 : k < 0
  · rw [if_pos c1]; exact hno (Or.inr (by omega))
  rw [if_neg c1]
  by_cases c2 : k ≤ 5
  · rw [if_pos c2]
    have hfin : ∀ (I' : Nat → Nat → Int32) (J' : Nat → Nat → Int64) (L : List Int), Ro I' J' L → FW 6 (Uo a.1 (a.1.1 1 + 1)) L → MI I' J' a → ∃ I2 J2 v, OtherR a k v ∧ MI I2 J2 a ∧ f_Model_other_31 N b (iI k) (MH h b I' J') = some (iJ v, MH h b I2 J2) := by
      intro I' J' L hR hF hI'
      obtain ⟨⟨r1, r2, r3⟩, r4, r5⟩ := hR
      refine ⟨I', J', (L[k.toNat]?).getD (-1), Or.inr ⟨by omega, L, hF, rfl⟩, hI', ?_⟩
      unfold f_Model_other_31
      simp only [m_rd, Option.bind_some, r1]
      by_cases hl : (L.length : Int) ≤ k
      · rw [if_pos ((iI_le (by omega) (by omega) (by omega) (by omega)).mpr hl), List.getElem?_eq_none (by omega)]; rfl
      · rw [if_neg (fun z => hl ((iI_le (by omega) (by omega) (by omega) (by omega)).mp z))]
        obtain ⟨hin, hcl⟩ := p_in (p := k) (n := 6) (by omega) (by omega) (by omega)
        have hg : L[k.toNat]? = some (L[k.toNat]'(by omega)) := List.getElem?_eq_getElem (by omega)
        have := r4 k.toNat _ hg
        rw [Nat.zero_add] at this
        simp only [ma_14 hin, hcl, Option.bind_some, this, hg, Option.getD_some]
    rcases h19 with z | ⟨z, L, z1, z2⟩
    · rw [z, if_pos rfl]
      obtain ⟨I1, J1, I2, J2, L, hS1, hS2, hR, hF, hgo⟩ := m_listAll (h := h) (b := b) (N := N) hOK.1 (by omega) hM
      rw [hgo]
      simp only [Option.bind_some]
      have hE : ∀ i q, i ≠ 13 → ¬ (i = 0 ∧ (q = 19 ∨ q = 20)) → u2 I2 0 19 1 i q = I i q := fun i q a1 a2 => by rw [u2_n (by omega), hS2.1 i q (by omega), hS1.1 i q a1]
      have hJ : ∀ i q, i ≠ 12 → i ≠ 14 → J2 i q = J i q := fun i q a1 a2 => by rw [hS2.2 i q a2, hS1.2 i q a1]
      have hR' : Ro (u2 I2 0 19 1) J2 L := ⟨⟨by rw [u2_n (by omega)]; exact hR.1.1, hR.1.2⟩, hR.2⟩
      refine hfin _ _ L hR' hF ⟨hM.sameC ⟨fun q hq => hE 0 q (by omega) (by omega), fun i q a1 a2 => hE i q (by omega) (by omega), fun q => hJ 9 q (by omega) (by omega)⟩, ?_, fun hh => ?_, ?_, fun q hq => ?_, Or.inr ⟨u2_s, L, hR', hF⟩⟩
      · rw [hE 0 24 (by omega) (by omega)]; exact h24
      · obtain ⟨g1, g2, g3⟩ := h1 hh
        exact ⟨fun q hq => by rw [hE 17 q (by omega) (by omega)]; exact g1 q hq, by rw [hE 0 26 (by omega) (by omega)]; exact g2, by rw [hJ 0 27 (by omega) (by omega)]; exact g3⟩
      · rw [hE 0 29 (by omega) (by omega), hE 0 30 (by omega) (by omega), hE 0 31 (by omega) (by omega), hE 0 32 (by omega) (by omega), hE 0 33 (by omega) (by omega)]; exact h4
      · rw [hE 18 q (by omega) (by omega)]; exact h18 q hq
    · rw [z, if_neg (by decide)]
      exact hfin I J L z1 z2 hI
  · rw [if_neg c2]; exact hno (Or.inr (by omega))
end MOPS
