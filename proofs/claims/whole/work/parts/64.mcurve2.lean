/-! the reference: curve, curveAt, order, told -/
def putH (a : ast) (p : Nat) (y : Int) : ast := (a.1, a.2.1, u2 a.2.2 2 p y)
/-- how the slope changes at a place -/
def bend (a : ast) (p : Nat) : Int := (a.2.2 0 (p + 1) - a.2.2 0 p) - (a.2.2 0 p - a.2.2 0 (p - 1))
abbrev curveIn (a : ast) (x y : Int) : Prop := a.2.1 0 = 1 ∧ (1 ≤ x ∧ x ≤ a.1.1 0 - 1) ∧ (0 ≤ y ∧ y ≤ 1000)
def curveBad (a : ast) (p : Nat) (y : Int) : Int :=
  if y = 0 then 0 else
  if a.2.2 1 (p - 1) ≠ -1 ∨ a.2.2 1 p ≠ -1 then -5 else
  if bend a p ≠ 0 ∧ (a.1.2 4 p ≠ -1 ∨ a.1.2 5 p ≠ -1) then -4 else
  if y < ((bend a p).natAbs : Int) * a.2.1 3 then -2 else
  if 1000 < y + a.2.2 2 (p - 1) ∨ 1000 < y + a.2.2 2 (p + 1) then -3 else 0
def s_curve (a : ast) (x y : Int) : Int × ast :=
  if curveIn a x y then (if curveBad a x.toNat y = 0 then ((s_nc (putH a x.toNat y) : Nat), putH a x.toNat y) else (curveBad a x.toNat y, a)) else (-1, a)
theorem putH_ok {a : ast} (h : aOK a) {p : Nat} {y : Int} (h1 : 1 ≤ p) (h2 : p < nn a.1) (h3 : 0 ≤ y) (h4 : y ≤ 1000) : aOK (putH a p y) := by
  obtain ⟨g1, g2, g3, g4⟩ := h
  refine ⟨g1, g2, g3, fun q => ?_⟩
  show (0 ≤ u2 a.2.2 2 p y 2 q ∧ u2 a.2.2 2 p y 2 q ≤ 1000) ∧ (q = 0 ∨ nn a.1 ≤ q → u2 a.2.2 2 p y 2 q = 0)
  by_cases e : q = p
  · subst e; rw [u2_s]; exact ⟨⟨h3, h4⟩, fun _ => by omega⟩
  · rw [u2_n (Or.inr e)]; exact g4 q
theorem s_curve_ok {a : ast} (h : aOK a) {x y : Int} : aOK (s_curve a x y).2 := by
  have hn := (nn_r h.1).1
  unfold s_curve
  split
  · rename_i hh
    split
    · exact putH_ok h (by omega) (by omega) hh.2.2.1 hh.2.2.2
    · exact h
  · exact h
def s_curveAt (a : ast) (x k : Int) : Int :=
  if a.2.1 0 = 1 ∧ (0 ≤ x ∧ x ≤ a.1.1 0) ∧ a.2.2 2 x.toNat ≠ 0 ∧ (0 ≤ k ∧ k ≤ 8) then
    64000 * a.2.2 0 x.toNat + a.2.2 2 x.toNat * (16 * (a.2.2 0 x.toNat - a.2.2 0 (x.toNat - 1)) * k - 64 * (a.2.2 0 x.toNat - a.2.2 0 (x.toNat - 1)) + ((a.2.2 0 (x.toNat + 1) - a.2.2 0 x.toNat) - (a.2.2 0 x.toNat - a.2.2 0 (x.toNat - 1))) * k * k)
  else -1
section MCURVE2
variable {h : zH} {b : Nat} {I : Nat → Nat → Int32} {J : Nat → Nat → Int64} {a : ast} {N : Nat}
theorem m_curve (hN : 60 ≤ N) (hOK : aOK a) (hI : MI I J a) {x y : Int} (hx : rg x) (hy : rg y) : ∃ I', MI I' J (s_curve a x y).2 ∧ f_Model_curve N b (iI x) (iI y) (MH h b I J) = some (iI (s_curve a x y).1, MH h b I' J) := by
  obtain ⟨hM, h24, h1, h4, h18, h19⟩ := id hI
  obtain ⟨x1, x2⟩ := hx
  obtain ⟨y1, y2⟩ := hy
  have hc := hOK.1
  obtain ⟨n1, n2, n3⟩ := nn_r hc
  have hm := hc.2.1
  have hhas := hOK.has
  unfold f_Model_curve
  have e1000 : (1000 : Int32) = iI 1000 := by decide
  have el1 : iI x < (1 : Int32) ↔ x < 1 := by rw [iI_1]; exact iI_lt (by omega) (by omega) (by omega) (by omega)
  have el2 : iI (a.1.1 0) - 1 < iI x ↔ a.1.1 0 - 1 < x := by rw [iI_1, iI_sub]; exact iI_lt (by omega) (by omega) (by omega) (by omega)
  have el3 : iI y ≤ (1000 : Int32) ↔ y ≤ 1000 := by rw [e1000]; exact iI_le (by omega) (by omega) (by omega) (by omega)
  have el4 : iI y ≤ (0 : Int32) ↔ y ≤ 0 := by rw [iI_0]; exact iI_le (by omega) (by omega) (by omega) (by omega)
  have el5 : iI y < (0 : Int32) ↔ y < 0 := iI_lz (by omega) (by omega)
  have el6 : iI (a.2.1 0) = (0 : Int32) ↔ a.2.1 0 = 0 := iI_ez (by omega) (by omega)
  simp only [m_rd, Option.bind_some, h24, hM.1.1, el1, el2, el3, el4, el5, el6]
  have hbad : ¬ curveIn a x y → ∃ I', MI I' J (s_curve a x y).2 ∧ some ((-1 : Int32), MH h b I J) = some (iI (s_curve a x y).1, MH h b I' J) := fun z => by
    rw [show s_curve a x y = (-1, a) from if_neg z]; exact ⟨I, hI, by rw [iI_m1]⟩
  by_cases c0 : a.2.1 0 = 0
  · rw [if_pos c0]; exact hbad (fun z => by have := z.1; omega)
  rw [if_neg c0]
  by_cases c1 : x < 1
  · rw [if_pos c1]; exact hbad (fun z => by have := z.2.1; omega)
  rw [if_neg c1]
  by_cases c2 : a.1.1 0 - 1 < x
  · rw [if_pos c2]; exact hbad (fun z => by have := z.2.1; omega)
  rw [if_neg c2]
  by_cases c3 : y < 0
  · rw [if_pos c3]; exact hbad (fun z => by have := z.2.2; omega)
  rw [if_neg c3]
  by_cases c4 : y ≤ 1000
  rotate_left
  · rw [if_neg c4]; exact hbad (fun z => by have := z.2.2; omega)
  rw [if_pos c4]
  have hh : a.2.1 0 = 1 := hhas.resolve_left c0
  obtain ⟨p, rfl⟩ : ∃ p : Nat, x = p := ⟨x.toNat, by omega⟩
  have hgood : s_curve a p y = (if curveBad a p y = 0 then (((s_nc (putH a p y) : Nat) : Int), putH a p y) else (curveBad a p y, a)) := if_pos ⟨hh, by omega, by omega⟩
  have hfail : ∀ r : Int, curveBad a p y = r → r ≠ 0 → ∃ I', MI I' J (s_curve a p y).2 ∧ some (iI r, MH h b I J) = some (iI (s_curve a p y).1, MH h b I' J) := fun r e e0 => by
    rw [hgood, if_neg (by omega)]; exact ⟨I, hI, by rw [e]⟩
  obtain ⟨hin, hcl⟩ := p_in (p := (p : Int)) (n := 25) (by omega) (by omega) (by omega)
  have hcl' : (iI (p : Int)).toNatClampNeg = p := by rw [hcl]; rfl
  have em : iI (p : Int) - 1 = iI ((p - 1 : Nat) : Int) := by rw [iI_1, iI_sub]; congr 1; omega
  have ep : iI (p : Int) + 1 = iI ((p + 1 : Nat) : Int) := by rw [iI_1, iI_add]; rfl
  obtain ⟨hinm, hclm⟩ := p_in (p := ((p - 1 : Nat) : Int)) (n := 25) (by omega) (by omega) (by omega)
  have hclm' : (iI ((p - 1 : Nat) : Int)).toNatClampNeg = p - 1 := by rw [hclm]; rfl
  obtain ⟨hinp, hclp⟩ := p_in (p := ((p + 1 : Nat) : Int)) (n := 25) (by omega) (by omega) (by omega)
  have hclp' : (iI ((p + 1 : Nat) : Int)).toNatClampNeg = p + 1 := by rw [hclp]; rfl
  have hMI : MI (u2 I 18 p (iI y)) J (putH a p y) := by
    refine ⟨hM.sameC ⟨fun k _ => u2_n (Or.inl (by omega)), fun i k _ _ => u2_n (Or.inl (by omega)), fun _ => rfl⟩, h24, h1, h4, fun q hq => ?_, h19⟩
    show u2 I 18 p (iI y) 18 q = iI (u2 a.2.2 2 p y 2 q)
    by_cases e : q = p
    · subst e; rw [u2_s, u2_s]
    · rw [u2_n (Or.inr e), u2_n (Or.inr e)]; exact h18 q hq
  have h198 : curveBad a p y = 0 → ∃ I', MI I' J (s_curve a p y).2 ∧ f_Model_curve_198 N b (iI p) (iI y) (MH h b I J) = some (iI (s_curve a p y).1, MH h b I' J) := by
    intro e
    rw [hgood, if_pos e]
    refine ⟨_, hMI, ?_⟩
    unfold f_Model_curve_198
    simp only [m_rd, Option.bind_some, ms_18 hin, hcl', zck_t, m_curves (h := h) (b := b) (N := N) hN (putH_ok hOK (p := p) (y := y) (by omega) (by omega) (by omega) c4) hMI]
  by_cases c5 : y ≤ 0
  · rw [if_pos c5]; exact h198 (if_pos (by omega))
  rw [if_neg c5]
  obtain ⟨hL, -, -⟩ := h1 hh
  have l0 := hOK.lv hh (q := p) (by omega)
  have lm := hOK.lv hh (q := p - 1) (by omega)
  have lp := hOK.lv hh (q := p + 1) (by omega)
  obtain ⟨-, -, -, f4, f5⟩ := hM.2.1 p (by omega)
  have hbnd := hc.2.2.2.2.2.2.1 p (by omega)
  simp only [em, ep, ma_17 hin, ma_17 hinm, ma_17 hinp, hcl', hclm', hclp', hL p (by omega), hL (p - 1) (by omega), hL (p + 1) (by omega), Option.bind_some, zck_t, m_isSpanned (N := N) (b := b) (h := h) hN hOK hI hh (p := p - 1) (by omega), m_isSpanned (N := N) (b := b) (h := h) hN hOK hI hh (p := p) (by omega), b1_0, decide_eq_false_iff_not, iI_sub, m_rd, ma_4 hin, ma_5 hin, f4, f5, iI_m1]
  have hB1 : ¬ y = 0 := by omega
  by_cases c6 : a.2.2 1 (p - 1) = -1
  rotate_left
  · rw [if_neg (by omega)]; exact hfail (-5) (by unfold curveBad; rw [if_neg hB1, if_pos (by omega)]) (by omega)
  rw [if_pos (by omega)]
  by_cases c7 : a.2.2 1 p = -1
  rotate_left
  · rw [if_neg (by omega)]; exact hfail (-5) (by unfold curveBad; rw [if_neg hB1, if_pos (by omega)]) (by omega)
  rw [if_pos (by omega)]
  have hB2 : ¬ (a.2.2 1 (p - 1) ≠ -1 ∨ a.2.2 1 p ≠ -1) := by omega
  have h168 : curveBad a p y = (if 1000 < y + a.2.2 2 (p - 1) ∨ 1000 < y + a.2.2 2 (p + 1) then -3 else 0) → ¬ 1000 < y + a.2.2 2 (p - 1) → ∃ I', MI I' J (s_curve a p y).2 ∧ f_Model_curve_168 N b (iI p) (iI y) (MH h b I J) = some (iI (s_curve a p y).1, MH h b I' J) := by
    intro hb hno
    have hr := (hOK.2.2.2 (p + 1)).1
    unfold f_Model_curve_168 f_Model_curve_195
    simp only [m_rd, Option.bind_some, ep, ma_18 hinp, hclp', h18 (p + 1) (by omega), iI_add, e1000, iI_0]
    simp (disch := omega) only [iI_le]
    by_cases d1 : a.2.2 2 (p + 1) ≤ 0
    · rw [if_pos d1]; exact h198 (by rw [hb, if_neg (by omega)])
    · rw [if_neg d1]
      by_cases d2 : y + a.2.2 2 (p + 1) ≤ 1000
      · rw [if_pos d2]; exact h198 (by rw [hb, if_neg (by omega)])
      · rw [if_neg d2]; exact hfail (-3) (by rw [hb, if_pos (by omega)]) (by omega)
  have h122 : curveBad a p y = (if y < ((bend a p).natAbs : Int) * a.2.1 3 then -2 else if 1000 < y + a.2.2 2 (p - 1) ∨ 1000 < y + a.2.2 2 (p + 1) then -3 else 0) → ∃ I', MI I' J (s_curve a p y).2 ∧ f_Model_curve_122 N b (iI p) (iI y) (iI (a.2.2 0 p - a.2.2 0 (p - 1))) (iI (a.2.2 0 (p + 1) - a.2.2 0 p)) (MH h b I J) = some (iI (s_curve a p y).1, MH h b I' J) := by
    intro hb
    have hr := (hOK.2.2.2 (p - 1)).1
    have hs3 := hOK.2.2.1 3 (by omega) (by omega)
    have hbr : 0 ≤ ((bend a p).natAbs : Int) ∧ ((bend a p).natAbs : Int) ≤ 48 := by unfold bend; omega
    have hmul : 0 ≤ ((bend a p).natAbs : Int) * a.2.1 3 ∧ ((bend a p).natAbs : Int) * a.2.1 3 ≤ 48 * 1000 := ⟨Int.mul_nonneg hbr.1 hs3.1, Int.mul_le_mul hbr.2 hs3.2 hs3.1 (by omega)⟩
    have hsz : f_Model_size N (iI (a.2.2 0 (p + 1) - a.2.2 0 p - (a.2.2 0 p - a.2.2 0 (p - 1)))) (MH h b I J) = some (iI (bend a p).natAbs, MH h b I J) := m_size (by omega) (by omega)
    unfold f_Model_curve_122 f_Model_curve_195
    simp only [m_rd, Option.bind_some, iI_sub, hsz, h4.1, iI_mul, em, ma_18 hinm, hclm', h18 (p - 1) (by omega), iI_add, e1000, iI_0]
    simp (disch := omega) only [iI_le, iI_lt]
    by_cases d0 : ((bend a p).natAbs : Int) * a.2.1 3 ≤ y
    · rw [if_pos d0]
      have hb' : curveBad a p y = (if 1000 < y + a.2.2 2 (p - 1) ∨ 1000 < y + a.2.2 2 (p + 1) then -3 else 0) := by rw [hb, if_neg (by omega)]
      by_cases d1 : a.2.2 2 (p - 1) ≤ 0
      · rw [if_pos d1]; exact h168 hb' (by omega)
      · rw [if_neg d1]
        by_cases d2 : 1000 < y + a.2.2 2 (p - 1)
        · rw [if_pos d2]; exact hfail (-3) (by rw [hb', if_pos (by omega)]) (by omega)
        · rw [if_neg d2]; exact h168 hb' d2
    · rw [if_neg d0]; exact hfail (-2) (by rw [hb, if_pos (by omega)]) (by omega)
  have h113 : (a.1.2 4 p ≠ -1 ∨ a.1.2 5 p ≠ -1) → ∃ I', MI I' J (s_curve a p y).2 ∧ f_Model_curve_113 N b (iI p) (iI y) (iI (a.2.2 0 p - a.2.2 0 (p - 1))) (iI (a.2.2 0 (p + 1) - a.2.2 0 p)) (MH h b I J) = some (iI (s_curve a p y).1, MH h b I' J) := by
    intro hheld
    unfold f_Model_curve_113
    simp (disch := omega) only [iI_eq]
    by_cases d0 : a.2.2 0 p - a.2.2 0 (p - 1) = a.2.2 0 (p + 1) - a.2.2 0 p
    · rw [if_pos d0]; exact h122 (by unfold curveBad; rw [if_neg hB1, if_neg hB2, if_neg (show ¬ (bend a p ≠ 0 ∧ (a.1.2 4 p ≠ -1 ∨ a.1.2 5 p ≠ -1)) by unfold bend; omega)])
    · rw [if_neg d0]; exact hfail (-4) (by unfold curveBad; rw [if_neg hB1, if_neg hB2, if_pos (show (bend a p ≠ 0 ∧ (a.1.2 4 p ≠ -1 ∨ a.1.2 5 p ≠ -1)) by unfold bend; omega)]) (by omega)
  simp (disch := omega) only [iI_eq]
  by_cases c8 : a.1.2 4 p = -1
  · rw [if_pos c8]
    by_cases c9 : a.1.2 5 p = -1
    · rw [if_pos c9]; exact h122 (by unfold curveBad; rw [if_neg hB1, if_neg hB2, if_neg (show ¬ (bend a p ≠ 0 ∧ (a.1.2 4 p ≠ -1 ∨ a.1.2 5 p ≠ -1)) by omega)])
    · rw [if_neg c9]; exact h113 (by omega)
  · rw [if_neg c8]; exact h113 (by omega)
theorem m_curveAt (hOK : aOK a) (hI : MI I J a) {x k : Int} (hx : rg x) (hk : rg k) : f_Model_curveAt N b (iI x) (iI k) (MH h b I J) = some (iJ (s_curveAt a x k), MH h b I J) := by
  obtain ⟨hM, h24, h1, h4, h18, h19⟩ := id hI
  obtain ⟨x1, x2⟩ := hx
  obtain ⟨k1, k2⟩ := hk
  have hc := hOK.1
  obtain ⟨n1, n2, n3⟩ := nn_r hc
  have hm := hc.2.1
  have hhas := hOK.has
  have e8 : (8 : Int32) = iI 8 := by decide
  unfold f_Model_curveAt
  simp only [m_rd, Option.bind_some, h24, zck_t, m_isPlace (N := N) (b := b) (h := h) hc hM x1 x2, b1_0, decide_eq_false_iff_not]
  simp (disch := omega) only [iI_ez, iI_lz, e8, iI_le]
  have hbad : ¬ (a.2.1 0 = 1 ∧ (0 ≤ x ∧ x ≤ a.1.1 0) ∧ a.2.2 2 x.toNat ≠ 0 ∧ (0 ≤ k ∧ k ≤ 8)) → some ((-1 : Int64), MH h b I J) = some (iJ (s_curveAt a x k), MH h b I J) := fun z => by
    rw [show s_curveAt a x k = -1 from if_neg z, iJ_m1]
  by_cases c0 : a.2.1 0 = 0
  · rw [if_pos c0]; exact hbad (by omega)
  rw [if_neg c0]
  by_cases c1 : 0 ≤ x ∧ x ≤ a.1.1 0
  rotate_left
  · rw [if_pos c1]; exact hbad (by omega)
  rw [if_neg (fun z => z c1)]
  obtain ⟨p, rfl⟩ : ∃ p : Nat, x = p := ⟨x.toNat, by omega⟩
  have ht : (p : Int).toNat = p := rfl
  obtain ⟨hin, hcl⟩ := p_in (p := (p : Int)) (n := 25) (by omega) (by omega) (by omega)
  have hcl' : (iI (p : Int)).toNatClampNeg = p := by rw [hcl]; rfl
  have hH := hOK.2.2.2 p
  simp only [ma_18 hin, hcl', h18 p (by omega), Option.bind_some]
  simp (disch := omega) only [iI_ez]
  rw [ht] at hbad
  by_cases c2 : a.2.2 2 p = 0
  · rw [if_pos c2]; exact hbad (by omega)
  rw [if_neg c2]
  by_cases c3 : k < 0
  · rw [if_pos c3]; exact hbad (by omega)
  rw [if_neg c3]
  by_cases c4 : k ≤ 8
  rotate_left
  · rw [if_neg c4]; exact hbad (by omega)
  rw [if_pos c4]
  have hp1 : 1 ≤ p ∧ p < nn a.1 := by omega
  have hh : a.2.1 0 = 1 := hhas.resolve_left c0
  have em : iI (p : Int) - 1 = iI ((p - 1 : Nat) : Int) := by rw [iI_1, iI_sub]; congr 1; omega
  have ep : iI (p : Int) + 1 = iI ((p + 1 : Nat) : Int) := by rw [iI_1, iI_add]; rfl
  obtain ⟨hinm, hclm⟩ := p_in (p := ((p - 1 : Nat) : Int)) (n := 25) (by omega) (by omega) (by omega)
  have hclm' : (iI ((p - 1 : Nat) : Int)).toNatClampNeg = p - 1 := by rw [hclm]; rfl
  obtain ⟨hinp, hclp⟩ := p_in (p := ((p + 1 : Nat) : Int)) (n := 25) (by omega) (by omega) (by omega)
  have hclp' : (iI ((p + 1 : Nat) : Int)).toNatClampNeg = p + 1 := by rw [hclp]; rfl
  obtain ⟨hL, -, -⟩ := h1 hh
  have l0 := hOK.lv hh (q := p) (by omega)
  have lm := hOK.lv hh (q := p - 1) (by omega)
  have lp := hOK.lv hh (q := p + 1) (by omega)
  rw [show s_curveAt a p k = _ from if_pos (⟨hh, by omega, by rw [ht]; exact c2, by omega⟩ : a.2.1 0 = 1 ∧ (0 ≤ (p : Int) ∧ (p : Int) ≤ a.1.1 0) ∧ a.2.2 2 (p : Int).toNat ≠ 0 ∧ (0 ≤ k ∧ k ≤ 8)), ht]
  simp only [em, ep, ma_17 hin, ma_17 hinm, ma_17 hinp, hcl', hclm', hclp', hL p (by omega), hL (p - 1) (by omega), hL (p + 1) (by omega), Option.bind_some, iI_sub]
  rw [iI_J (z := a.2.2 0 p - a.2.2 0 (p - 1)) (by omega) (by omega), iI_J (z := a.2.2 0 (p + 1) - a.2.2 0 p) (by omega) (by omega), iI_J (z := k) (by omega) (by omega), iI_J (z := a.2.2 0 p) (by omega) (by omega), iI_J (z := a.2.2 2 p) (by omega) (by omega), show (16 : Int64) = iJ 16 by decide, show (64 : Int64) = iJ 64 by decide, show (64000 : Int64) = iJ 64000 by decide]
  simp only [iJ_mul, iJ_sub, iJ_add]
end MCURVE2
