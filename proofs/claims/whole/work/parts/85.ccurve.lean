/-! the class: curve, curveAt, lane, keeps -/
theorem cnt_upd {P P' : Nat → Bool} {p : Nat} (h : ∀ q, q ≠ p → P' q = P q) : ∀ n, (p < n → cnt P' n + (P p).toNat = cnt P n + (P' p).toNat) ∧ (n ≤ p → cnt P' n = cnt P n) := by
  intro n
  induction n with
  | zero => exact ⟨fun q => by omega, fun _ => rfl⟩
  | succ n ih =>
    have e1 : cnt P' (n + 1) = cnt P' n + (P' n).toNat := rfl
    have e2 : cnt P (n + 1) = cnt P n + (P n).toNat := rfl
    rw [e1, e2]
    by_cases c : n = p
    · subst c
      have := ih.2 (Nat.le_refl _)
      exact ⟨fun _ => by omega, fun q => by omega⟩
    · rw [h n c]
      refine ⟨fun q => ?_, fun q => ?_⟩
      · have := ih.1 (by omega); omega
      · have := ih.2 (by omega); omega
theorem s_nc_put {a : ast} {p : Nat} {y : Int} (hp : p ≤ nn a.1) (h1 : 0 ≤ a.2.2 2 p) (h2 : 0 ≤ y) : (s_nc (putH a p y) : Int) = s_nc a - (if a.2.2 2 p = 0 then 0 else 1) + (if y = 0 then 0 else 1) := by
  have e : ∀ q, q ≠ p → decide (0 < u2 a.2.2 2 p y 2 q) = decide (0 < a.2.2 2 q) := fun q hq => by rw [u2_n (Or.inr hq)]
  have := (cnt_upd (P := fun q => decide (0 < a.2.2 2 q)) (P' := fun q => decide (0 < u2 a.2.2 2 p y 2 q)) (p := p) e (nn a.1 + 1)).1 (by omega)
  have e3 : u2 a.2.2 2 p y 2 p = y := u2_s
  simp only [e3] at this
  have s1 : s_nc (putH a p y) = cnt (fun q => decide (0 < u2 a.2.2 2 p y 2 q)) (nn a.1 + 1) := rfl
  have s2 : s_nc a = cnt (fun q => decide (0 < a.2.2 2 q)) (nn a.1 + 1) := rfl
  rw [s1, s2]
  have k1 : (decide (0 < a.2.2 2 p)).toNat = if a.2.2 2 p = 0 then 0 else 1 := by
    by_cases c : a.2.2 2 p = 0
    · rw [if_pos c, decide_eq_false (by omega)]; rfl
    · rw [if_neg c, decide_eq_true (by omega)]; rfl
  have k2 : (decide (0 < y)).toNat = if y = 0 then 0 else 1 := by
    by_cases c : y = 0
    · rw [if_pos c, decide_eq_false (by omega)]; rfl
    · rw [if_neg c, decide_eq_true (by omega)]; rfl
  rw [k1, k2] at this
  by_cases c1 : a.2.2 2 p = 0
  · rw [if_pos c1] at this ⊢
    by_cases c2 : y = 0
    · rw [if_pos c2] at this ⊢; omega
    · rw [if_neg c2] at this ⊢; omega
  · rw [if_neg c1] at this ⊢
    by_cases c2 : y = 0
    · rw [if_pos c2] at this ⊢; omega
    · rw [if_neg c2] at this ⊢; omega
section CCURVE
variable {h : zH} {b : Nat} {x : cx} {I : Nat → Nat → Int32} {J : Nat → Nat → Int64} {a : ast} {N : Nat}
theorem k_a19 (hOK : aOK a) (hI : CI I J x a) {p : Nat} (hp : p ≤ nn a.1) : zaI (CH h b x I J) 0 (b + 19) (iI p) = some (iI (a.2.2 2 p)) := by
  have hn := nn_r hOK.1
  obtain ⟨hin, hcl⟩ := nat_in (p := p) (n := x.1 + 1) (by rw [hI.1.1.1]; omega) (by rw [hI.1.1.1]; omega)
  rw [ca_19 hin, hcl, hI.2.2.2.2.1 p hp]
theorem k_refusal (hOK : aOK a) (hI : CI I J x a) (hh : a.2.1 0 = 1) {p : Nat} {y : Int} (hp1 : 1 ≤ p) (hp2 : p < nn a.1) (hy1 : 0 < y) (hy2 : y ≤ 1000) : f_LT_curveRefusal N b (iI p) (iI y) (CH h b x I J) = some (iI (curveBad a p y), CH h b x I J) := by
  have hn := nn_r hOK.1
  have hm := hOK.1.2.1
  have l0 := hOK.lv hh (q := p) (by omega)
  have lm := hOK.lv hh (q := p - 1) (by omega)
  have lp := hOK.lv hh (q := p + 1) (by omega)
  have r1 := hOK.kr hh (p := p) (by omega)
  have r2 := hOK.kr hh (p := p - 1) (by omega)
  have hr1 := (hOK.2.2.2 (p - 1)).1
  have hr2 := (hOK.2.2.2 (p + 1)).1
  have hs3 := hOK.2.2.1 3 (by omega) (by omega)
  have hbr : 0 ≤ ((bend a p).natAbs : Int) ∧ ((bend a p).natAbs : Int) ≤ 48 := by unfold bend; omega
  have hmul : 0 ≤ ((bend a p).natAbs : Int) * a.2.1 3 ∧ ((bend a p).natAbs : Int) * a.2.1 3 ≤ 48 * 1000 := mul_bd hbr.1 hbr.2 hs3.1 hs3.2
  have em : iI (p : Int) - 1 = iI ((p - 1 : Nat) : Int) := by rw [iI_1, iI_sub]; congr 1; omega
  have ep : iI (p : Int) + 1 = iI ((p + 1 : Nat) : Int) := by rw [iI_1, iI_add]; rfl
  have hsl := k_slopeOf (N := N) (h := h) (b := b) hOK hI hh (p := p) hp2
  have hslm : f_Table_slopeOf N (b + 15) (iI ((p - 1 : Nat) : Int)) (CH h b x I J) = some (iI (a.2.2 0 p - a.2.2 0 (p - 1)), CH h b x I J) := by
    have := k_slopeOf (N := N) (h := h) (b := b) hOK hI hh (p := p - 1) (by omega)
    rw [show p - 1 + 1 = p by omega] at this
    exact this
  have hab : zabs (iI (a.2.2 0 (p + 1) - a.2.2 0 p) - iI (a.2.2 0 p - a.2.2 0 (p - 1))) = iI ((bend a p).natAbs : Int) := by
    rw [iI_sub, zabs_i (by omega) (by omega)]; rfl
  have hgr : f_Curves_greaterNeighbour N (b + 18) (iI p) (CH h b x I J) = some (iI (max (a.2.2 2 (p - 1)) (a.2.2 2 (p + 1))), CH h b x I J) := by
    unfold f_Curves_greaterNeighbour
    simp only [c_rd, Option.bind_some, em, ep, k_a19 hOK hI (show p - 1 ≤ nn a.1 by omega), k_a19 hOK hI (show p + 1 ≤ nn a.1 by omega)]
    rw [zmax_i ⟨by omega, by omega⟩ ⟨by omega, by omega⟩]
  have hB1 : ¬ y = 0 := by omega
  have h72 : curveBad a p y = (if y < ((bend a p).natAbs : Int) * a.2.1 3 then -2 else if 1000 < y + a.2.2 2 (p - 1) ∨ 1000 < y + a.2.2 2 (p + 1) then -3 else 0) → f_LT_curveRefusal_72 N b (iI p) (iI y) (iI ((bend a p).natAbs : Int)) (CH h b x I J) = some (iI (curveBad a p y), CH h b x I J) := by
    intro hb
    unfold f_LT_curveRefusal_72
    have e1 : iI (((bend a p).natAbs : Int) * a.2.1 3) ≤ iI y ↔ ((bend a p).natAbs : Int) * a.2.1 3 ≤ y := iI_le (by omega) (by omega) (by omega) (by omega)
    have e2 : iI (y + max (a.2.2 2 (p - 1)) (a.2.2 2 (p + 1))) ≤ (1000 : Int32) ↔ y + max (a.2.2 2 (p - 1)) (a.2.2 2 (p + 1)) ≤ 1000 := by rw [show (1000 : Int32) = iI 1000 by decide]; exact iI_le (by omega) (by omega) (by omega) (by omega)
    simp only [c_rd, Option.bind_some, hI.2.2.2.1.1, iI_mul, zck_t, hgr, iI_add, e1, e2]
    by_cases c1 : ((bend a p).natAbs : Int) * a.2.1 3 ≤ y
    · rw [if_pos c1]
      rw [if_neg (by omega)] at hb
      by_cases c2 : y + max (a.2.2 2 (p - 1)) (a.2.2 2 (p + 1)) ≤ 1000
      · rw [if_pos c2, hb, if_neg (by omega), iI_0]
      · rw [if_neg c2, hb, if_pos (by omega)]; rfl
    · rw [if_neg c1, hb, if_pos (by omega)]; rfl
  unfold f_LT_curveRefusal f_LT_curveRefusal_28
  have k1 : iI (a.2.2 1 (p - 1)) = (-1 : Int32) ↔ a.2.2 1 (p - 1) = -1 := by rw [iI_m1]; exact iI_eq (by omega) (by omega) (by omega) (by omega)
  have k2 : iI (a.2.2 1 p) = (-1 : Int32) ↔ a.2.2 1 p = -1 := by rw [iI_m1]; exact iI_eq (by omega) (by omega) (by omega) (by omega)
  have k3 : iI ((bend a p).natAbs : Int) = (0 : Int32) ↔ ((bend a p).natAbs : Int) = 0 := iI_ez (by omega) (by omega)
  simp only [c_rd, Option.bind_some, em, k_a17 hOK hI hh (show p - 1 < nn a.1 by omega), k_a17 hOK hI hh hp2, zck_t, hsl, hslm, hab, c_isHeld (N := N) (h := h) (b := b) hOK.1 hI.1 (show p ≤ nn a.1 by omega), k1, k2, k3, b1_0, decide_eq_false_iff_not]
  by_cases c1 : a.2.2 1 (p - 1) = -1
  rotate_left
  · rw [if_neg c1]; unfold curveBad; rw [if_neg hB1, if_pos (by omega)]; rfl
  rw [if_pos c1]
  by_cases c2 : a.2.2 1 p = -1
  rotate_left
  · rw [if_neg c2]; unfold curveBad; rw [if_neg hB1, if_pos (by omega)]; rfl
  rw [if_pos c2]
  have hB2 : ¬ (a.2.2 1 (p - 1) ≠ -1 ∨ a.2.2 1 p ≠ -1) := by omega
  by_cases c3 : ((bend a p).natAbs : Int) = 0
  · rw [if_pos c3]
    exact h72 (by unfold curveBad; rw [if_neg hB1, if_neg hB2, if_neg (by omega)])
  · rw [if_neg c3]
    by_cases c4 : a.1.2 4 p ≠ -1 ∨ a.1.2 5 p ≠ -1
    · rw [if_neg (fun q => q c4)]; unfold curveBad; rw [if_neg hB1, if_neg hB2, if_pos ⟨by omega, c4⟩]; rfl
    · rw [if_pos c4]
      exact h72 (by unfold curveBad; rw [if_neg hB1, if_neg hB2, if_neg (fun q => c4 q.2)])
theorem curveBad_r {a : ast} {p : Nat} {y : Int} : -5 ≤ curveBad a p y ∧ curveBad a p y ≤ 0 := by
  unfold curveBad
  split
  · omega
  · split
    · omega
    · split
      · omega
      · split
        · omega
        · split <;> omega
theorem k_curve (hOK : aOK a) (hI : CI I J x a) {z y : Int} (hz : rg z) (hy : rg y) : ∃ I' J', CI I' J' x (s_curve a z y).2 ∧ OpR I I' a (s_curve a z y).2 ∧ f_LT_curve N b (iI z) (iI y) (CH h b x I J) = some (iI (s_curve a z y).1, CH h b x I' J') := by
  obtain ⟨z1, z2⟩ := id hz
  have hn := nn_r hOK.1
  have hhas := hOK.has
  have e0 : iI (a.2.1 0) = (0 : Int32) ↔ a.2.1 0 = 0 := iI_ez (by omega) (by omega)
  have e1 : iI z < (1 : Int32) ↔ z < 1 := by rw [iI_1]; exact iI_lt z1 z2 (by omega) (by omega)
  have e2 : iI (a.1.1 0) ≤ iI z ↔ a.1.1 0 ≤ z := iI_le (by omega) (by omega) z1 z2
  have w1 : ∀ X : zH, f_LT_within N (iI y) (1000 : Int32) X = some (b1 (decide (0 ≤ y ∧ y ≤ 1000)), X) := fun X => by rw [show (1000 : Int32) = iI 1000 by decide]; exact c_within hy ⟨by omega, by omega⟩
  have hbad : ¬ curveIn a z y → ∃ I' J', CI I' J' x (s_curve a z y).2 ∧ OpR I I' a (s_curve a z y).2 ∧ some ((-1 : Int32), CH h b x I J) = some (iI (s_curve a z y).1, CH h b x I' J') := fun q => by
    rw [show s_curve a z y = (-1, a) from if_neg q, iI_m1]; exact ⟨I, J, hI, hI.keep, rfl⟩
  unfold f_LT_curve
  simp only [c_rd, Option.bind_some, hI.2.1, hI.1.2.1.1, e0, e1, e2, w1, b1_0, decide_eq_false_iff_not, zck_t]
  by_cases c0 : a.2.1 0 = 0
  · rw [if_pos c0]; exact hbad (fun q => by have := q.1; omega)
  rw [if_neg c0]
  by_cases c1 : z < 1
  · rw [if_pos c1]; exact hbad (fun q => by have := q.2.1; omega)
  rw [if_neg c1]
  by_cases c2 : a.1.1 0 ≤ z
  · rw [if_pos c2]; exact hbad (fun q => by have := q.2.1; omega)
  rw [if_neg c2]
  by_cases c3 : 0 ≤ y ∧ y ≤ 1000
  rotate_left
  · rw [if_pos c3]; exact hbad (fun q => c3 q.2.2)
  rw [if_neg (fun q => q c3)]
  have hh := hhas.resolve_left c0
  obtain ⟨p, rfl⟩ : ∃ p : Nat, z = p := ⟨z.toNat, by omega⟩
  have hgood : s_curve a p y = (if curveBad a p y = 0 then (((s_nc (putH a p y) : Nat) : Int), putH a p y) else (curveBad a p y, a)) := if_pos ⟨hh, by omega, c3⟩
  have hH := (hOK.2.2.2 p).1
  have hcb := curveBad_r (a := a) (p := p) (y := y)
  obtain ⟨hin, hcl⟩ := nat_in (p := p) (n := x.1 + 1) (by rw [hI.1.1.1]; omega) (by rw [hI.1.1.1]; omega)
  have h52 : ∃ I' J', CI I' J' x (s_curve a p y).2 ∧ OpR I I' a (s_curve a p y).2 ∧ f_LT_curve_52 N b (iI p) (iI y) (iI (curveBad a p y)) (CH h b x I J) = some (iI (s_curve a p y).1, CH h b x I' J') := by
    unfold f_LT_curve_52
    have eb : iI (curveBad a p y) = (0 : Int32) ↔ curveBad a p y = 0 := iI_ez (by omega) (by omega)
    simp only [eb]
    by_cases c4 : curveBad a p y = 0
    · rw [if_pos c4, hgood, if_pos c4]
      have hnc := s_nc_put (a := a) (p := p) (y := y) (by omega) hH.1 c3.1
      have hput : f_Curves_put N (b + 18) (iI p) (iI y) (CH h b x I J) = some ((), CH h b x (u2 (u2 I 18 1 (iI (s_nc (putH a p y)))) 19 p (iI y)) J) := by
        unfold f_Curves_put f_Curves_put_19 f_Curves_put_33
        have k1 : iI (a.2.2 2 p) = (0 : Int32) ↔ a.2.2 2 p = 0 := iI_ez (by omega) (by omega)
        have k2 : iI y = (0 : Int32) ↔ y = 0 := iI_ez (by omega) (by omega)
        have hc18 := hI.2.2.2.2.2
        have hc18' : u2 I 18 1 (iI (s_nc a) - 1) 18 1 = iI (s_nc a) - 1 := u2_s
        simp only [c_rd, Option.bind_some, k_a19 hOK hI (show p ≤ nn a.1 by omega), k1, k2, hc18, c_wr, cs_19 hin, hcl, hc18']
        have hsame : u2 I 18 1 (iI (s_nc a)) = I := by
          funext i q
          by_cases e : i = 18 ∧ q = 1
          · rw [e.1, e.2, u2_s, hc18]
          · exact u2_n (by omega)
        have hover : ∀ v w : Int32, u2 (u2 I 18 1 v) 18 1 w = u2 I 18 1 w := fun v w => by
          funext i q
          by_cases e : i = 18 ∧ q = 1
          · rw [e.1, e.2, u2_s, u2_s]
          · rw [u2_n (by omega), u2_n (by omega), u2_n (by omega)]
        by_cases d1 : a.2.2 2 p = 0
        · rw [if_pos d1]
          rw [if_pos d1] at hnc
          by_cases d2 : y = 0
          · rw [if_pos d2]
            rw [if_pos d2] at hnc
            rw [show (s_nc (putH a p y) : Int) = s_nc a by omega, hsame]
          · rw [if_neg d2]
            rw [if_neg d2] at hnc
            rw [iI_1, iI_add, show (s_nc a : Int) + 1 = s_nc (putH a p y) by omega]
        · rw [if_neg d1]
          rw [if_neg d1] at hnc
          by_cases d2 : y = 0
          · rw [if_pos d2]
            rw [if_pos d2] at hnc
            rw [iI_1, iI_sub, show (s_nc a : Int) - 1 = s_nc (putH a p y) by omega]
          · rw [if_neg d2]
            rw [if_neg d2] at hnc
            rw [hover, iI_1, iI_sub, iI_add, show (s_nc a : Int) - 1 + 1 = s_nc (putH a p y) by omega]
      obtain ⟨g1, g2, g3, g4, g5, g6⟩ := hI
      refine ⟨u2 (u2 I 18 1 (iI (s_nc (putH a p y)))) 19 p (iI y), J, ⟨g1.same ⟨rfl, rfl⟩ (fun i q _ _ => by rw [u2_n (by omega), u2_n (by omega)]) (fun _ => rfl), g2, g3, g4, fun q hq => ?_, ?_⟩, Or.inr ⟨rfl, rfl⟩, ?_⟩
      · show u2 (u2 I 18 1 (iI (s_nc (putH a p y)))) 19 p (iI y) 19 q = iI (u2 a.2.2 2 p y 2 q)
        by_cases e : q = p
        · subst e; rw [u2_s, u2_s]
        · rw [u2_n (Or.inr e), u2_n (Or.inl (by omega)), u2_n (Or.inr e)]; exact g5 q hq
      · rw [u2_n (Or.inl (by omega)), u2_s]
      · have e18 : u2 (u2 I 18 1 (iI (s_nc (putH a p y)))) 19 p (iI y) 18 1 = iI (s_nc (putH a p y)) := by rw [u2_n (Or.inl (by omega)), u2_s]
        simp only [c_rd, Option.bind_some, zck_t, hput, e18]
    · rw [if_neg c4, hgood, if_neg c4]; exact ⟨I, J, hI, hI.keep, rfl⟩
  have k2 : iI y = (0 : Int32) ↔ y = 0 := iI_ez (by omega) (by omega)
  simp only [k2]
  by_cases c5 : y = 0
  · rw [if_pos c5]
    rw [show curveBad a p y = 0 from if_pos c5, ← iI_0] at h52
    exact h52
  · rw [if_neg c5, k_refusal (N := N) (h := h) (b := b) hOK hI hh (p := p) (y := y) (by omega) (by omega) (by omega) c3.2]
    exact h52
theorem k_curveAt (hOK : aOK a) (hI : CI I J x a) {z k : Int} (hz : rg z) (hk : rg k) : f_LT_curveAt N b (iI z) (iI k) (CH h b x I J) = some (iJ (s_curveAt a z k), CH h b x I J) := by
  obtain ⟨z1, z2⟩ := id hz
  have hn := nn_r hOK.1
  have hm := hOK.1.2.1
  have hhas := hOK.has
  have e0 : iI (a.2.1 0) = (0 : Int32) ↔ a.2.1 0 = 0 := iI_ez (by omega) (by omega)
  have e1 : iI z < (1 : Int32) ↔ z < 1 := by rw [iI_1]; exact iI_lt z1 z2 (by omega) (by omega)
  have e2 : iI (a.1.1 0) ≤ iI z ↔ a.1.1 0 ≤ z := iI_le (by omega) (by omega) z1 z2
  have w1 : ∀ X : zH, f_LT_within N (iI k) (8 : Int32) X = some (b1 (decide (0 ≤ k ∧ k ≤ 8)), X) := fun X => by rw [show (8 : Int32) = iI 8 by decide]; exact c_within hk ⟨by omega, by omega⟩
  have hbad : ¬ (a.2.1 0 = 1 ∧ (0 ≤ z ∧ z ≤ a.1.1 0) ∧ a.2.2 2 z.toNat ≠ 0 ∧ (0 ≤ k ∧ k ≤ 8)) → some ((-1 : Int64), CH h b x I J) = some (iJ (s_curveAt a z k), CH h b x I J) := fun q => by
    rw [show s_curveAt a z k = -1 from if_neg q, iJ_m1]
  unfold f_LT_curveAt
  simp only [c_rd, Option.bind_some, hI.2.1, hI.1.2.1.1, e0, e1, e2, w1, b1_0, decide_eq_false_iff_not, zck_t]
  by_cases c0 : a.2.1 0 = 0
  · rw [if_pos c0]; exact hbad (by omega)
  rw [if_neg c0]
  by_cases c1 : z < 1
  · rw [if_pos c1]
    refine hbad (fun q => q.2.2.1 ((hOK.2.2.2 z.toNat).2 (Or.inl ?_)))
    have := q.2.1; omega
  rw [if_neg c1]
  by_cases c2 : a.1.1 0 ≤ z
  · rw [if_pos c2]
    refine hbad (fun q => q.2.2.1 ((hOK.2.2.2 z.toNat).2 (Or.inr ?_)))
    omega
  rw [if_neg c2]
  by_cases c3 : 0 ≤ k ∧ k ≤ 8
  rotate_left
  · rw [if_pos c3]; exact hbad (fun q => c3 q.2.2.2)
  rw [if_neg (fun q => q c3)]
  have hh := hhas.resolve_left c0
  obtain ⟨p, rfl⟩ : ∃ p : Nat, z = p := ⟨z.toNat, by omega⟩
  have ht : (p : Int).toNat = p := rfl
  rw [ht] at hbad
  have hH := (hOK.2.2.2 p).1
  have kH : iI (a.2.2 2 p) = (0 : Int32) ↔ a.2.2 2 p = 0 := iI_ez (by omega) (by omega)
  simp only [k_a19 hOK hI (show p ≤ nn a.1 by omega), Option.bind_some, kH]
  by_cases c4 : a.2.2 2 p = 0
  · rw [if_pos c4]; exact hbad (by omega)
  rw [if_neg c4]
  have em : iI (p : Int) - 1 = iI ((p - 1 : Nat) : Int) := by rw [iI_1, iI_sub]; congr 1; omega
  have l0 := hOK.lv hh (q := p) (by omega)
  have lm := hOK.lv hh (q := p - 1) (by omega)
  have lp := hOK.lv hh (q := p + 1) (by omega)
  have hsl := k_slopeOf (N := N) (h := h) (b := b) hOK hI hh (p := p) (by omega)
  have hslm : f_Table_slopeOf N (b + 15) (iI ((p - 1 : Nat) : Int)) (CH h b x I J) = some (iI (a.2.2 0 p - a.2.2 0 (p - 1)), CH h b x I J) := by
    have := k_slopeOf (N := N) (h := h) (b := b) hOK hI hh (p := p - 1) (by omega)
    rw [show p - 1 + 1 = p by omega] at this
    exact this
  rw [show s_curveAt a p k = _ from if_pos (⟨hh, by omega, by rw [ht]; exact c4, c3⟩ : a.2.1 0 = 1 ∧ (0 ≤ (p : Int) ∧ (p : Int) ≤ a.1.1 0) ∧ a.2.2 2 (p : Int).toNat ≠ 0 ∧ (0 ≤ k ∧ k ≤ 8)), ht]
  simp only [em, hsl, hslm, zck_t, Option.bind_some, k_a16 hOK hI hh (show p ≤ nn a.1 by omega), c_rd]
  rw [iI_J (z := a.2.2 0 p - a.2.2 0 (p - 1)) (by omega) (by omega), iI_J (z := a.2.2 0 (p + 1) - a.2.2 0 p) (by omega) (by omega), iI_J (z := k) (by omega) (by omega), iI_J (z := a.2.2 0 p) (by omega) (by omega), iI_J (z := a.2.2 2 p) (by omega) (by omega), show (16 : Int64) = iJ 16 by decide, show (64 : Int64) = iJ 64 by decide, show (64000 : Int64) = iJ 64000 by decide]
  simp only [iJ_mul, iJ_sub, iJ_add]
  rw [Int.mul_comm (a.2.2 0 p) 64000]
theorem lm_r (hOK : aOK a) (hh : a.2.1 0 = 1) {k : Int} : ∀ p, p ≤ nn a.1 + 1 → (-1 ≤ lf a k p ∧ lf a k p < p) ∧ (-1 ≤ le1 a k p ∧ le1 a k p < p) ∧ -1 ≤ lm a k p ∧ lm a k p ≤ 1000 := by
  have h4 := hOK.2.2.1 4 (by omega) (by omega)
  intro p
  induction p with
  | zero => intro _; exact ⟨⟨by show (-1 : Int) ≤ -1; omega, by show (-1 : Int) < 0; omega⟩, ⟨by show (-1 : Int) ≤ -1; omega, by show (-1 : Int) < 0; omega⟩, by show (-1 : Int) ≤ -1; omega, by show (-1 : Int) ≤ 1000; omega⟩
  | succ p ih =>
    intro hp
    obtain ⟨i1, i2, i3⟩ := ih (by omega)
    have hs := spd_r hOK hh p (by omega)
    have f1 : lf a k (p + 1) = if slw a p ∧ lnI a (p + 1) = k then (if was a p then lf a k p else p) else lf a k p := rfl
    have f2 : le1 a k (p + 1) = if slw a p ∧ lnI a (p + 1) = k then (p : Int) else le1 a k p := rfl
    have f3 : lm a k (p + 1) = if slw a p ∧ lnI a (p + 1) = k then (if was a p then (if lm a k p ≤ spd a p then lm a k p else spd a p) else spd a p) else lm a k p := rfl
    rw [f1, f2, f3]
    by_cases c : slw a p ∧ lnI a (p + 1) = k
    · rw [if_pos c, if_pos c, if_pos c]
      by_cases w : was a p
      · rw [if_pos w, if_pos w]
        refine ⟨by omega, by omega, ?_⟩
        split <;> omega
      · rw [if_neg w, if_neg w]
        omega
    · rw [if_neg c, if_neg c, if_neg c]
      omega
theorem k_lane (hN : 60 ≤ N) (hOK : aOK a) (hI : CI I J x a) {k w : Int} (hk : rg k) (hw : rg w) : f_LT_lane N b (iI k) (iI w) (CH h b x I J) = some (iI (s_lane a k w), CH h b x I J) := by
  obtain ⟨k1, k2⟩ := id hk
  have hn := nn_r hOK.1
  have hm := hOK.1.2.1
  have hhas := hOK.has
  have e0 : iI (a.2.1 0) = (0 : Int32) ↔ a.2.1 0 = 0 := iI_ez (by omega) (by omega)
  have e1 : iI k < (0 : Int32) ↔ k < 0 := iI_lz k1 k2
  have w1 : ∀ X : zH, f_LT_within N (iI w) (2 : Int32) X = some (b1 (decide (0 ≤ w ∧ w ≤ 2)), X) := fun X => by rw [show (2 : Int32) = iI 2 by decide]; exact c_within hw ⟨by omega, by omega⟩
  have hbad : ¬ (a.2.1 0 = 1 ∧ 0 ≤ k ∧ (0 ≤ w ∧ w ≤ 2)) → some ((-1 : Int32), CH h b x I J) = some (iI (s_lane a k w), CH h b x I J) := fun q => by
    rw [show s_lane a k w = -1 from if_neg q, iI_m1]
  unfold f_LT_lane
  simp only [c_rd, Option.bind_some, hI.2.1, e0, e1, w1, b1_0, decide_eq_false_iff_not, zck_t]
  by_cases c0 : a.2.1 0 = 0
  · rw [if_pos c0]; exact hbad (by omega)
  rw [if_neg c0]
  by_cases c1 : k < 0
  · rw [if_pos c1]; exact hbad (by omega)
  rw [if_neg c1]
  by_cases c2 : 0 ≤ w ∧ w ≤ 2
  rotate_left
  · rw [if_pos c2]; exact hbad (fun q => c2 q.2.2)
  have hh := hhas.resolve_left c0
  rw [if_neg (fun q => q c2), show s_lane a k w = _ from if_pos ⟨hh, by omega, c2⟩]
  obtain ⟨-, e20, e21, e22, e23⟩ := hI.2.2.2.1
  have h4 := hOK.2.2.1 4 (by omega) (by omega)
  have h5 := hOK.2.2.1 5 (by omega) (by omega)
  have h6 := hOK.2.2.1 6 (by omega) (by omega)
  have h7 := hOK.2.2.1 7 (by omega) (by omega)
  have hln : zlen (CH h b x I J) 0 (b + 16) = some (iI ((nn a.1 + 1 : Nat) : Int)) := by rw [cl_16, hI.1.1.1]; rfl
  have ew0 : iI w = (0 : Int32) ↔ w = 0 := iI_ez (by omega) (by omega)
  have ew1 : iI w = (1 : Int32) ↔ w = 1 := by rw [iI_1]; exact iI_eq (by omega) (by omega) (by omega) (by omega)
  have loop : ∀ (d fu p : Nat), p + d = nn a.1 + 1 → d < fu → f_Lorry_laneFact_24 N fu (b + 20) (b + 15) (iI k) (iI w) (iI (lnI a p)) (iI (lf a k p)) (iI (le1 a k p)) (iI (lm a k p)) (iI (if p = 0 then a.2.1 4 else spd a (p - 1))) (b1 (decide (was a p))) (iI p) (CH h b x I J) = some (iI (if w = 0 then lf a k (nn a.1 + 1) else if w = 1 then le1 a k (nn a.1 + 1) else lm a k (nn a.1 + 1)), CH h b x I J) := by
    intro d
    induction d with
    | zero =>
      intro fu p hd hf
      obtain ⟨fu, rfl⟩ : ∃ q, fu = q + 1 := ⟨fu - 1, by omega⟩
      show b_Lorry_laneFact_24 N (f_Lorry_laneFact_24 N fu) (b + 20) (b + 15) _ _ _ _ _ _ _ _ _ _ = _
      unfold b_Lorry_laneFact_24
      simp only [c_rd, Option.bind_some, hln, ew0, ew1]
      rw [if_pos ((iI_le (by omega) (by omega) (by omega) (by omega)).mpr (by omega)), show p = nn a.1 + 1 by omega]
      by_cases d0 : w = 0
      · rw [if_pos d0, if_pos d0]
      · rw [if_neg d0, if_neg d0]
        by_cases d1 : w = 1
        · rw [if_pos d1, if_pos d1]
        · rw [if_neg d1, if_neg d1]
    | succ d ih =>
      intro fu p hd hf
      obtain ⟨fu, rfl⟩ : ∃ q, fu = q + 1 := ⟨fu - 1, by omega⟩
      have hs := spd_r hOK hh p (by omega)
      have hlr := lm_r hOK hh (k := k) p (by omega)
      have lnr := lnI_r (a := a) p
      have ep : iI (p : Int) + 1 = iI ((p + 1 : Nat) : Int) := by rw [iI_1, iI_add]; rfl
      have hst0 := ih fu (p + 1) (by omega) (by omega)
      rw [if_neg (show ¬ p + 1 = 0 by omega), show decide (was a (p + 1)) = decide (slw a p) from by
        rw [Bool.eq_iff_iff, decide_eq_true_iff, decide_eq_true_iff]
        exact ⟨fun q => q.2, fun q => ⟨Nat.succ_pos _, q⟩⟩] at hst0
      have hst : f_Lorry_laneFact_24 N fu (b + 20) (b + 15) (iI k) (iI w) (iI (lnI a (p + 1))) (iI (lf a k (p + 1))) (iI (le1 a k (p + 1))) (iI (lm a k (p + 1))) (iI (spd a p)) (b1 (decide (slw a p))) (iI ((p + 1 : Nat) : Int)) (CH h b x I J) = some (iI (if w = 0 then lf a k (nn a.1 + 1) else if w = 1 then le1 a k (nn a.1 + 1) else lm a k (nn a.1 + 1)), CH h b x I J) := hst0
      -- from the speed at this place on
      have h60 : f_Lorry_laneFact_60 N (f_Lorry_laneFact_24 N fu) (b + 20) (b + 15) (iI k) (iI w) (iI (lnI a p)) (iI (lf a k p)) (iI (le1 a k p)) (iI (lm a k p)) (b1 (decide (was a p))) (iI p) (iI (spd a p)) (CH h b x I J) = some (iI (if w = 0 then lf a k (nn a.1 + 1) else if w = 1 then le1 a k (nn a.1 + 1) else lm a k (nn a.1 + 1)), CH h b x I J) := by
        have g1 : lnI a (p + 1) = if slw a p ∧ ¬ was a p then lnI a p + 1 else lnI a p := rfl
        have f1 : lf a k (p + 1) = if slw a p ∧ lnI a (p + 1) = k then (if was a p then lf a k p else p) else lf a k p := rfl
        have f2 : le1 a k (p + 1) = if slw a p ∧ lnI a (p + 1) = k then (p : Int) else le1 a k p := rfl
        have f3 : lm a k (p + 1) = if slw a p ∧ lnI a (p + 1) = k then (if was a p then (if lm a k p ≤ spd a p then lm a k p else spd a p) else spd a p) else lm a k p := rfl
        have q5 : iI (a.2.1 5) ≤ iI (spd a p) ↔ a.2.1 5 ≤ spd a p := iI_le (by omega) (by omega) (by omega) (by omega)
        have hmn : zmin (iI (lm a k p)) (iI (spd a p)) = iI (if lm a k p ≤ spd a p then lm a k p else spd a p) := by
          rw [zmin_i ⟨by omega, by omega⟩ ⟨by omega, by omega⟩]
          congr 1
        unfold f_Lorry_laneFact_60 f_Lorry_laneFact_80 f_Lorry_laneFact_95 f_Lorry_laneFact_118 f_Lorry_laneFact_141 f_Lorry_laneFact_143
        simp only [c_rd, Option.bind_some, e21, q5, b1_0, decide_eq_false_iff_not, ep, hmn]
        by_cases c3 : a.2.1 5 ≤ spd a p
        · have hns : ¬ slw a p := fun q => by have : spd a p < a.2.1 5 := q; omega
          rw [g1, f1, f2, f3, if_neg (fun q => hns q.1), if_neg (fun q => hns q.1), if_neg (fun q => hns q.1), if_neg (fun q => hns q.1), decide_eq_false hns] at hst
          rw [if_pos c3]
          simp only [if_true]
          exact hst
        · have hsl : slw a p := by show spd a p < a.2.1 5; omega
          rw [decide_eq_true hsl] at hst
          rw [if_neg c3]
          simp only [show ¬ ((1 : Int32) = 0) by decide, if_false]
          by_cases c4 : was a p
          · rw [if_neg (fun q => q c4)]
            rw [if_neg (fun q => q.2 c4)] at g1
            rw [g1] at hst f1 f2 f3
            have ek : iI (lnI a p) = iI k ↔ lnI a p = k := iI_eq (by omega) (by omega) (by omega) (by omega)
            simp only [ek]
            by_cases c5 : lnI a p = k
            · rw [if_pos c5, if_neg (fun q => q c4), if_neg (fun q => q c4)]
              have hcon : slw a p ∧ lnI a p = k := ⟨hsl, c5⟩
              rw [f1, f2, f3, if_pos hcon, if_pos hcon, if_pos hcon, if_pos c4, if_pos c4] at hst
              exact hst
            · rw [if_neg c5]
              rw [f1, f2, f3, if_neg (fun q => c5 q.2), if_neg (fun q => c5 q.2), if_neg (fun q => c5 q.2)] at hst
              exact hst
          · rw [if_pos c4]
            rw [if_pos ⟨hsl, c4⟩] at g1
            rw [g1] at hst f1 f2 f3
            have ek : iI (lnI a p) + 1 = iI k ↔ lnI a p + 1 = k := by rw [iI_1, iI_add]; exact iI_eq (by omega) (by omega) (by omega) (by omega)
            rw [← iI_add, ← iI_1] at hst
            simp only [ek]
            by_cases c5 : lnI a p + 1 = k
            · rw [if_pos c5, if_pos c4, if_pos c4]
              have hcon : slw a p ∧ lnI a p + 1 = k := ⟨hsl, c5⟩
              rw [f1, f2, f3, if_pos hcon, if_pos hcon, if_pos hcon, if_neg c4, if_neg c4] at hst
              exact hst
            · rw [if_neg c5]
              rw [f1, f2, f3, if_neg (fun q => c5 q.2), if_neg (fun q => c5 q.2), if_neg (fun q => c5 q.2)] at hst
              exact hst
      show b_Lorry_laneFact_24 N (f_Lorry_laneFact_24 N fu) (b + 20) (b + 15) _ _ _ _ _ _ _ _ _ _ = _
      unfold b_Lorry_laneFact_24
      simp only [c_rd, Option.bind_some, hln]
      rw [if_neg (fun q => by have := (iI_le (by omega) (by omega) (by omega) (by omega)).mp q; omega)]
      have e00 : iI (p : Int) = (0 : Int32) ↔ (p : Int) = 0 := iI_ez (by omega) (by omega)
      simp only [e00]
      by_cases cp : (p : Int) = 0
      · rw [if_pos cp, e20]
        have hp0 : p = 0 := by omega
        subst hp0
        exact h60
      · rw [if_neg cp, if_neg (show ¬ p = 0 by omega)]
        have em : iI (p : Int) - 1 = iI ((p - 1 : Nat) : Int) := by rw [iI_1, iI_sub]; congr 1; omega
        have hslm := k_slopeOf (N := N) (h := h) (b := b) hOK hI hh (p := p - 1) (by omega)
        have l0 := hOK.lv hh (q := p) (by omega)
        have lm' := hOK.lv hh (q := p - 1) (by omega)
        have hsp := spd_r hOK hh (p - 1) (by omega)
        obtain ⟨q, rfl⟩ : ∃ q, p = q + 1 := ⟨p - 1, by omega⟩
        rw [show q + 1 - 1 = q by omega] at *
        have ef : spd a (q + 1) = if 0 < a.2.2 0 (q + 1) - a.2.2 0 q then (if spd a q - (a.2.2 0 (q + 1) - a.2.2 0 q) * a.2.1 6 < 0 then 0 else spd a q - (a.2.2 0 (q + 1) - a.2.2 0 q) * a.2.1 6) else (if a.2.1 4 < spd a q + (1 - (a.2.2 0 (q + 1) - a.2.2 0 q)) * a.2.1 7 then a.2.1 4 else spd a q + (1 - (a.2.2 0 (q + 1) - a.2.2 0 q)) * a.2.1 7) := rfl
        have hsb : f_Lorry_speedBehind N (b + 20) (iI (spd a q)) (iI (a.2.2 0 (q + 1) - a.2.2 0 q)) (CH h b x I J) = some (iI (spd a (q + 1)), CH h b x I J) := by
          obtain ⟨t, ht⟩ : ∃ t, a.2.2 0 (q + 1) - a.2.2 0 q = t := ⟨_, rfl⟩
          rw [ht] at ef ⊢
          unfold f_Lorry_speedBehind
          have et : iI t ≤ (0 : Int32) ↔ t ≤ 0 := by rw [iI_0]; exact iI_le (by omega) (by omega) (by omega) (by omega)
          simp only [c_rd, Option.bind_some, e20, e22, e23, et]
          by_cases c3 : 0 < t
          · rw [if_neg (by omega)]
            rw [if_pos c3] at ef
            have hb := mul_bd (show 0 ≤ t by omega) (show t ≤ 24 by omega) h6.1 h6.2
            rw [iI_mul, iI_sub, iI_0, zmax_i ⟨by omega, by omega⟩ ⟨by omega, by omega⟩, ef]
            congr 3
            split <;> omega
          · rw [if_pos (by omega)]
            rw [if_neg c3] at ef
            have hb := mul_bd (show 0 ≤ 1 - t by omega) (show 1 - t ≤ 25 by omega) h7.1 h7.2
            rw [iI_1, iI_sub, iI_mul, iI_add, zmin_i ⟨by omega, by omega⟩ ⟨by omega, by omega⟩, ef]
            congr 3
            split <;> omega
        have hsb2 : f_Lorry_speedBehind N (b + 20) (iI (spd a (q + 1 - 1))) (iI (a.2.2 0 (q + 1) - a.2.2 0 q)) (CH h b x I J) = some (iI (spd a (q + 1)), CH h b x I J) := hsb
        rw [em]
        simp only [zck_t, hslm, Option.bind_some, c_rd, hsb2]
        exact h60
  have := loop (nn a.1 + 1) N 0 (by omega) (by omega)
  rw [if_pos rfl, show iI ((0 : Nat) : Int) = (0 : Int32) from iI_0.symm, show iI (lnI a 0) = (-1 : Int32) from iI_m1.symm, show iI (lf a k 0) = (-1 : Int32) from iI_m1.symm, show iI (le1 a k 0) = (-1 : Int32) from iI_m1.symm, show iI (lm a k 0) = (-1 : Int32) from iI_m1.symm, show b1 (decide (was a 0)) = (0 : Int32) from by rw [decide_eq_false (fun q => absurd q.1 (Nat.lt_irrefl _))]; rfl] at this
  unfold f_Lorry_laneFact
  simp only [c_rd, Option.bind_some, e20, this]
end CCURVE
