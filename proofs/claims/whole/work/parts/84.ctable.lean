/-! the class: what is asked of a table: told, order, keeps -/
section CTABLE
variable {h : zH} {b : Nat} {x : cx} {I : Nat → Nat → Int32} {J : Nat → Nat → Int64} {a : ast} {N : Nat}
theorem aOK.kr (hOK : aOK a) (hh : a.2.1 0 = 1) {p : Nat} (hp : p < nn a.1) : -1 ≤ a.2.2 1 p ∧ a.2.2 1 p < 6 := by
  have hK := hOK.1.2.2.2.2.2.1
  rcases (hOK.tf hh).2.2.1 p hp with q | ⟨k, k1, k2, -⟩ <;> omega
theorem k_a16 (hOK : aOK a) (hI : CI I J x a) (hh : a.2.1 0 = 1) {p : Nat} (hp : p ≤ nn a.1) : zaI (CH h b x I J) 0 (b + 16) (iI p) = some (iI (a.2.2 0 p)) := by
  have hn := nn_r hOK.1
  obtain ⟨hin, hcl⟩ := nat_in (p := p) (n := x.1 + 1) (by rw [hI.1.1.1]; omega) (by rw [hI.1.1.1]; omega)
  rw [ca_16 hin, hcl, (hI.2.2.1 hh).1 p hp]
theorem k_a17 (hOK : aOK a) (hI : CI I J x a) (hh : a.2.1 0 = 1) {p : Nat} (hp : p < nn a.1) : zaI (CH h b x I J) 0 (b + 17) (iI p) = some (iI (a.2.2 1 p)) := by
  have hn := nn_r hOK.1
  obtain ⟨hin, hcl⟩ := nat_in (p := p) (n := x.1) (by rw [hI.1.1.1]; omega) (by rw [hI.1.1.1]; omega)
  rw [ca_17 hin, hcl, (hI.2.2.1 hh).2.1 p hp]
theorem k_slopeOf (hOK : aOK a) (hI : CI I J x a) (hh : a.2.1 0 = 1) {p : Nat} (hp : p < nn a.1) : f_Table_slopeOf N (b + 15) (iI p) (CH h b x I J) = some (iI (a.2.2 0 (p + 1) - a.2.2 0 p), CH h b x I J) := by
  have ep : iI (p : Int) + 1 = iI ((p + 1 : Nat) : Int) := by rw [iI_1, iI_add]; rfl
  unfold f_Table_slopeOf
  simp only [c_rd, Option.bind_some, ep, k_a16 hOK hI hh (show p + 1 ≤ nn a.1 by omega), k_a16 hOK hI hh (show p ≤ nn a.1 by omega), iI_sub]
theorem k_isBetween (hOK : aOK a) (hI : CI I J x a) (hh : a.2.1 0 = 1) {p : Nat} (hp : p ≤ nn a.1) : f_Table_isBetween N (b + 15) (iI p) (CH h b x I J) = some (b1 (decide (insd a p)), CH h b x I J) := by
  have hn := nn_r hOK.1
  have e1 : iI (p : Int) < (1 : Int32) ↔ (p : Int) < 1 := by rw [iI_1]; exact iI_lt (by omega) (by omega) (by omega) (by omega)
  have e2 : iI (p : Int) < iI (a.1.1 0) ↔ (p : Int) < a.1.1 0 := iI_lt (by omega) (by omega) (by omega) (by omega)
  have hno : ¬ insd a p → zrb (0 : Int32) (CH h b x I J) = some (b1 (decide (insd a p)), CH h b x I J) := fun z => by rw [decide_eq_false z]; rfl
  unfold f_Table_isBetween
  simp only [c_rd, Option.bind_some, hI.1.2.1.1, e1, e2]
  by_cases c1 : (p : Int) < 1
  · rw [if_pos c1]; exact hno (by omega)
  rw [if_neg c1]
  by_cases c2 : (p : Int) < a.1.1 0
  rotate_left
  · rw [if_neg c2]; exact hno (by omega)
  rw [if_pos c2]
  have em : iI (p : Int) - 1 = iI ((p - 1 : Nat) : Int) := by rw [iI_1, iI_sub]; congr 1; omega
  have r1 := hOK.kr hh (p := p) (by omega)
  have r2 := hOK.kr hh (p := p - 1) (by omega)
  simp only [em, k_a17 hOK hI hh (show p < nn a.1 by omega), k_a17 hOK hI hh (show p - 1 < nn a.1 by omega), Option.bind_some, iI_m1]
  simp (disch := omega) only [iI_eq]
  by_cases c3 : a.2.2 1 p = -1
  · rw [if_pos c3]; exact hno (by omega)
  · rw [if_neg c3]
    by_cases c4 : a.2.2 1 p = a.2.2 1 (p - 1)
    · rw [if_pos c4, decide_eq_true (show insd a p by omega)]; rfl
    · rw [if_neg c4]; exact hno (by omega)
theorem k_filled (hOK : aOK a) (hI : CI I J x a) (hh : a.2.1 0 = 1) {p : Nat} (hp : p ≤ nn a.1) : f_Table_filledAt N (b + 15) (iI p) (CH h b x I J) = some (iI (fl a p), CH h b x I J) := by
  have hn := nn_r hOK.1
  obtain ⟨hin, hcl⟩ := nat_in (p := p) (n := x.1 + 1) (by rw [hI.1.1.1]; omega) (by rw [hI.1.1.1]; omega)
  unfold f_Table_filledAt
  simp only [c_rd, zck_t, k_isBetween (N := N) hOK hI hh hp, Option.bind_some, b1_0, decide_eq_false_iff_not, k_a16 hOK hI hh hp, ca_2 hin, hcl, (hI.1.2.2.1 p hp).1]
  unfold fl
  by_cases c : insd a p
  · rw [if_neg (fun q => q c), if_pos c]; rfl
  · rw [if_pos c, if_neg c, iI_sub]
theorem k_sum (hN : 60 ≤ N) (hOK : aOK a) (hI : CI I J x a) (hh : a.2.1 0 = 1) : f_Table_sumOfSizes N (b + 15) (CH h b x I J) = some (iI (sumF (szF a) (nn a.1 + 1)), CH h b x I J) := by
  have hn := nn_r hOK.1
  have hm := hOK.1.2.1
  have loop : ∀ (d fu p : Nat), p + d = nn a.1 → d < fu → f_Table_sumOfSizes_4 N fu (b + 15) (iI (sumF (szF a) (p + 1))) (iI p) (CH h b x I J) = some (iI (sumF (szF a) (nn a.1 + 1)), CH h b x I J) := by
    intro d
    induction d with
    | zero =>
      intro fu p hd hf
      obtain ⟨fu, rfl⟩ : ∃ q, fu = q + 1 := ⟨fu - 1, by omega⟩
      show b_Table_sumOfSizes_4 N (f_Table_sumOfSizes_4 N fu) (b + 15) _ _ _ = _
      unfold b_Table_sumOfSizes_4
      simp only [c_rd, Option.bind_some, hI.1.2.1.1]
      rw [if_pos ((iI_le (by omega) (by omega) (by omega) (by omega)).mpr (by omega)), show p = nn a.1 by omega]
    | succ d ih =>
      intro fu p hd hf
      obtain ⟨fu, rfl⟩ : ∃ q, fu = q + 1 := ⟨fu - 1, by omega⟩
      have ep : iI (p : Int) + 1 = iI ((p + 1 : Nat) : Int) := by rw [iI_1, iI_add]; rfl
      have l0 := hOK.lv hh (q := p) (by omega)
      have l1 := hOK.lv hh (q := p + 1) (by omega)
      have hst := ih fu (p + 1) (by omega) (by omega)
      rw [show sumF (szF a) (p + 1 + 1) = sumF (szF a) (p + 1) + szF a (p + 1) from rfl, show szF a (p + 1) = ((a.2.2 0 (p + 1) - a.2.2 0 p).natAbs : Int) from if_neg (by omega), ← iI_add] at hst
      show b_Table_sumOfSizes_4 N (f_Table_sumOfSizes_4 N fu) (b + 15) _ _ _ = _
      unfold b_Table_sumOfSizes_4
      simp only [c_rd, Option.bind_some, hI.1.2.1.1, zck_t, k_slopeOf (N := N) hOK hI hh (show p < nn a.1 by omega), zabs_i (show -2147483648 < a.2.2 0 (p + 1) - a.2.2 0 p by omega) (show a.2.2 0 (p + 1) - a.2.2 0 p < 2147483648 by omega), ep]
      rw [if_neg (fun q => by have := (iI_le (by omega) (by omega) (by omega) (by omega)).mp q; omega)]
      exact hst
  have := loop (nn a.1) N 0 (by omega) (by omega)
  rw [show iI ((0 : Nat) : Int) = (0 : Int32) from iI_0.symm, show iI (sumF (szF a) (0 + 1)) = (0 : Int32) from iI_0.symm] at this
  exact this
theorem k_cut (hN : 60 ≤ N) (hOK : aOK a) (hI : CI I J x a) (hh : a.2.1 0 = 1) : f_Table_levelsCut N (b + 15) (CH h b x I J) = some (iI (sumF (cutF a) (nn a.1 + 1)), CH h b x I J) := by
  have hn := nn_r hOK.1
  have loop : ∀ (d fu p : Nat), p + d = nn a.1 + 1 → d < fu → f_Table_levelsCut_4 N fu (b + 15) (iI (sumF (cutF a) p)) (iI p) (CH h b x I J) = some (iI (sumF (cutF a) (nn a.1 + 1)), CH h b x I J) := by
    intro d
    induction d with
    | zero =>
      intro fu p hd hf
      obtain ⟨fu, rfl⟩ : ∃ q, fu = q + 1 := ⟨fu - 1, by omega⟩
      show b_Table_levelsCut_4 N (f_Table_levelsCut_4 N fu) (b + 15) _ _ _ = _
      unfold b_Table_levelsCut_4
      simp only [c_rd, Option.bind_some, hI.1.2.1.1]
      rw [if_pos ((iI_lt (by omega) (by omega) (by omega) (by omega)).mpr (by omega)), show p = nn a.1 + 1 by omega]
    | succ d ih =>
      intro fu p hd hf
      obtain ⟨fu, rfl⟩ : ∃ q, fu = q + 1 := ⟨fu - 1, by omega⟩
      have ep : iI (p : Int) + 1 = iI ((p + 1 : Nat) : Int) := by rw [iI_1, iI_add]; rfl
      have r := fl_r hOK hh (q := p) (by omega)
      have hst := ih fu (p + 1) (by omega) (by omega)
      rw [show sumF (cutF a) (p + 1) = sumF (cutF a) p + cutF a p from rfl, ← iI_add] at hst
      have hmx : zmax (0 : Int32) (-iI (fl a p)) = iI (cutF a p) := by
        rw [iI_0, iI_neg, zmax_i ⟨by omega, by omega⟩ ⟨by omega, by omega⟩]
        congr 1
        unfold cutF
        split <;> omega
      show b_Table_levelsCut_4 N (f_Table_levelsCut_4 N fu) (b + 15) _ _ _ = _
      unfold b_Table_levelsCut_4
      simp only [c_rd, Option.bind_some, hI.1.2.1.1, zck_t, k_filled (N := N) hOK hI hh (show p ≤ nn a.1 by omega), hmx, ep]
      rw [if_neg (fun q => by have := (iI_lt (by omega) (by omega) (by omega) (by omega)).mp q; omega)]
      exact hst
  have := loop (nn a.1 + 1) N 0 (by omega) (by omega)
  rw [show iI ((0 : Nat) : Int) = (0 : Int32) from iI_0.symm, show iI (sumF (cutF a) 0) = (0 : Int32) from iI_0.symm] at this
  exact this
theorem k_fil (hN : 60 ≤ N) (hOK : aOK a) (hI : CI I J x a) (hh : a.2.1 0 = 1) : f_Table_levelsFilled N (b + 15) (CH h b x I J) = some (iI (sumF (filF a) (nn a.1 + 1)), CH h b x I J) := by
  have hn := nn_r hOK.1
  have loop : ∀ (d fu p : Nat), p + d = nn a.1 + 1 → d < fu → f_Table_levelsFilled_4 N fu (b + 15) (iI (sumF (filF a) p)) (iI p) (CH h b x I J) = some (iI (sumF (filF a) (nn a.1 + 1)), CH h b x I J) := by
    intro d
    induction d with
    | zero =>
      intro fu p hd hf
      obtain ⟨fu, rfl⟩ : ∃ q, fu = q + 1 := ⟨fu - 1, by omega⟩
      show b_Table_levelsFilled_4 N (f_Table_levelsFilled_4 N fu) (b + 15) _ _ _ = _
      unfold b_Table_levelsFilled_4
      simp only [c_rd, Option.bind_some, hI.1.2.1.1]
      rw [if_pos ((iI_lt (by omega) (by omega) (by omega) (by omega)).mpr (by omega)), show p = nn a.1 + 1 by omega]
    | succ d ih =>
      intro fu p hd hf
      obtain ⟨fu, rfl⟩ : ∃ q, fu = q + 1 := ⟨fu - 1, by omega⟩
      have ep : iI (p : Int) + 1 = iI ((p + 1 : Nat) : Int) := by rw [iI_1, iI_add]; rfl
      have r := fl_r hOK hh (q := p) (by omega)
      have hst := ih fu (p + 1) (by omega) (by omega)
      rw [show sumF (filF a) (p + 1) = sumF (filF a) p + filF a p from rfl, ← iI_add] at hst
      have hmx : zmax (0 : Int32) (iI (fl a p)) = iI (filF a p) := by
        rw [iI_0, zmax_i ⟨by omega, by omega⟩ ⟨by omega, by omega⟩]
        congr 1
        unfold filF
        split <;> omega
      show b_Table_levelsFilled_4 N (f_Table_levelsFilled_4 N fu) (b + 15) _ _ _ = _
      unfold b_Table_levelsFilled_4
      simp only [c_rd, Option.bind_some, hI.1.2.1.1, zck_t, k_filled (N := N) hOK hI hh (show p ≤ nn a.1 by omega), hmx, ep]
      rw [if_neg (fun q => by have := (iI_lt (by omega) (by omega) (by omega) (by omega)).mp q; omega)]
      exact hst
  have := loop (nn a.1 + 1) N 0 (by omega) (by omega)
  rw [show iI ((0 : Nat) : Int) = (0 : Int32) from iI_0.symm, show iI (sumF (filF a) 0) = (0 : Int32) from iI_0.symm] at this
  exact this
theorem k_countSet (hN : 60 ≤ N) (hOK : aOK a) (hI : CI I J x a) {i : Nat} (hi : i = 4 ∨ i = 5) : f_Site_countSet N (b + 1) (b + (i + 1)) (CH h b x I J) = some (iI (cnt (setP a i) (nn a.1 + 1)), CH h b x I J) := by
  have hn := nn_r hOK.1
  have hx1 := hI.1.1.1
  have hm := hOK.1.2.1
  have hrd : ∀ p : Nat, p ≤ nn a.1 → zaI (CH h b x I J) 0 (b + (i + 1)) (iI p) = some (iI (a.1.2 i p)) := fun p hp => by
    obtain ⟨hin, hcl⟩ := nat_in (p := p) (n := x.1 + 1) (by rw [hx1]; omega) (by rw [hx1]; omega)
    obtain ⟨-, -, -, f4, f5⟩ := hI.1.2.2.1 p hp
    rcases hi with rfl | rfl
    · rw [ca_5 hin, hcl, f4]
    · rw [ca_6 hin, hcl, f5]
  have hln : zlen (CH h b x I J) 0 (b + (i + 1)) = some (iI ((nn a.1 + 1 : Nat) : Int)) := by
    rcases hi with rfl | rfl
    · rw [cl_5, hx1]; rfl
    · rw [cl_6, hx1]; rfl
  have loop : ∀ (d fu p : Nat), p + d = nn a.1 + 1 → d < fu → f_Site_countSet_4 N fu (b + (i + 1)) (iI (cnt (setP a i) p)) (iI p) (CH h b x I J) = some (iI (cnt (setP a i) (nn a.1 + 1)), CH h b x I J) := by
    intro d
    induction d with
    | zero =>
      intro fu p hd hf
      obtain ⟨fu, rfl⟩ : ∃ q, fu = q + 1 := ⟨fu - 1, by omega⟩
      show b_Site_countSet_4 N (f_Site_countSet_4 N fu) _ _ _ _ = _
      unfold b_Site_countSet_4
      rw [hln, Option.bind_some, if_pos ((iI_le (by omega) (by omega) (by omega) (by omega)).mpr (by omega)), show p = nn a.1 + 1 by omega]
    | succ d ih =>
      intro fu p hd hf
      obtain ⟨fu, rfl⟩ : ∃ q, fu = q + 1 := ⟨fu - 1, by omega⟩
      have ep : iI (p : Int) + 1 = iI ((p + 1 : Nat) : Int) := by rw [iI_1, iI_add]; rfl
      have hb := hOK.1.2.2.2.2.2.2.1 p (by omega)
      have hst := ih fu (p + 1) (by omega) (by omega)
      rw [show cnt (setP a i) (p + 1) = cnt (setP a i) p + (decide (a.1.2 i p ≠ -1)).toNat from rfl] at hst
      have ec : iI ((cnt (setP a i) p : Nat) : Int) + 1 = iI ((cnt (setP a i) p + 1 : Nat) : Int) := by rw [iI_1, iI_add]; rfl
      have hbr : -1 ≤ a.1.2 i p ∧ a.1.2 i p ≤ 24 := by rcases hi with rfl | rfl <;> omega
      have e1 : iI (a.1.2 i p) = (-1 : Int32) ↔ a.1.2 i p = -1 := by rw [iI_m1]; exact iI_eq (by omega) (by omega) (by omega) (by omega)
      show b_Site_countSet_4 N (f_Site_countSet_4 N fu) _ _ _ _ = _
      unfold b_Site_countSet_4 f_Site_countSet_20
      rw [hln, Option.bind_some, if_neg (fun q => by have := (iI_le (by omega) (by omega) (by omega) (by omega)).mp q; omega), hrd p (by omega), Option.bind_some, ep, ec]
      simp only [e1]
      by_cases c : a.1.2 i p = -1
      · rw [if_pos c]; rw [decide_eq_false (by omega)] at hst; exact hst
      · rw [if_neg c]; rw [decide_eq_true (by omega)] at hst; exact hst
  have := loop (nn a.1 + 1) N 0 (by omega) (by omega)
  rw [show iI ((0 : Nat) : Int) = (0 : Int32) from iI_0.symm, show iI ((cnt (setP a i) 0 : Nat) : Int) = (0 : Int32) from iI_0.symm] at this
  exact this
theorem k_told (hN : 60 ≤ N) (hOK : aOK a) (hI : CI I J x a) {z : Int} (hz : rg z) : f_LT_told N b (iI z) (CH h b x I J) = some (iI (s_told a z), CH h b x I J) := by
  obtain ⟨z1, z2⟩ := hz
  have hhas := hOK.has
  have ez : ∀ k : Int, 0 ≤ k → k ≤ 7 → (iI z = iI k ↔ z = k) := fun k k1 k2 => iI_eq z1 z2 (by omega) (by omega)
  have e0 : iI (a.2.1 0) = (0 : Int32) ↔ a.2.1 0 = 0 := iI_ez (by omega) (by omega)
  have c5 := k_countSet (N := N) (h := h) (b := b) hN hOK hI (i := 4) (Or.inl rfl)
  have c6 := k_countSet (N := N) (h := h) (b := b) hN hOK hI (i := 5) (Or.inr rfl)
  have w0 : iI z = (0 : Int32) ↔ z = 0 := by rw [iI_0]; exact ez 0 (by omega) (by omega)
  have w1 : iI z = (1 : Int32) ↔ z = 1 := by rw [iI_1]; exact ez 1 (by omega) (by omega)
  have w2 : iI z = (2 : Int32) ↔ z = 2 := by rw [show (2 : Int32) = iI 2 by decide]; exact ez 2 (by omega) (by omega)
  have w3 : iI z = (3 : Int32) ↔ z = 3 := by rw [show (3 : Int32) = iI 3 by decide]; exact ez 3 (by omega) (by omega)
  have w4 : iI z = (4 : Int32) ↔ z = 4 := by rw [show (4 : Int32) = iI 4 by decide]; exact ez 4 (by omega) (by omega)
  have w5 : iI z = (5 : Int32) ↔ z = 5 := by rw [show (5 : Int32) = iI 5 by decide]; exact ez 5 (by omega) (by omega)
  have w6 : iI z = (6 : Int32) ↔ z = 6 := by rw [show (6 : Int32) = iI 6 by decide]; exact ez 6 (by omega) (by omega)
  have w7 : iI z = (7 : Int32) ↔ z = 7 := by rw [show (7 : Int32) = iI 7 by decide]; exact ez 7 (by omega) (by omega)
  unfold f_LT_told f_LT_toldOfTable s_told
  simp only [c_rd, Option.bind_some, hI.1.2.1.2.2.2.2.2, hI.2.1, hI.2.2.2.2.2, w0, w1, w2, w3, w4, w5, w6, w7, e0, zck_t]
  by_cases d0 : z = 0
  · rw [if_pos d0, if_pos d0]
  rw [if_neg d0, if_neg d0]
  by_cases d1 : z = 1
  · rw [if_pos d1, if_pos d1, show b + 5 = b + (4 + 1) from rfl, c5]; rfl
  rw [if_neg d1, if_neg d1]
  by_cases d2 : z = 2
  · rw [if_pos d2, if_pos d2, show b + 6 = b + (5 + 1) from rfl, c6]; rfl
  rw [if_neg d2, if_neg d2]
  by_cases dh : a.2.1 0 = 0
  · rw [if_pos dh, if_pos dh, iI_m1]
  have hh := hhas.resolve_left dh
  rw [if_neg dh, if_neg dh]
  by_cases d3 : z = 3
  · rw [if_pos d3, if_pos d3, (hI.2.2.1 hh).2.2.1]; rfl
  rw [if_neg d3, if_neg d3]
  by_cases d4 : z = 4
  · rw [if_pos d4, if_pos d4, k_sum hN hOK hI hh]; rfl
  rw [if_neg d4, if_neg d4]
  by_cases d5 : z = 5
  · rw [if_pos d5, if_pos d5, k_cut hN hOK hI hh]; rfl
  rw [if_neg d5, if_neg d5]
  by_cases d6 : z = 6
  · rw [if_pos d6, if_pos d6, k_fil hN hOK hI hh]; rfl
  rw [if_neg d6, if_neg d6]
  by_cases d7 : z = 7
  · rw [if_pos d7, if_pos d7]; rfl
  · rw [if_neg d7, if_neg d7, iI_m1]; rfl
theorem k_rank (hN : 60 ≤ N) (hOK : aOK a) (hI : CI I J x a) (hh : a.2.1 0 = 1) {p : Nat} (hp : p ≤ nn a.1) : f_Table_rankOf N (b + 15) (iI p) (CH h b x I J) = some (iI (rk a p), CH h b x I J) := by
  have hn := nn_r hOK.1
  have r0 := fl_r hOK hh hp
  have loop : ∀ (d fu q : Nat), q + d = nn a.1 + 1 → d < fu → f_Table_rankOf_14 N fu (b + 15) (iI p) (iI ((fl a p).natAbs : Int)) (iI (cnt (rkP a p) q)) (iI q) (CH h b x I J) = some (iI (rk a p), CH h b x I J) := by
    intro d
    induction d with
    | zero =>
      intro fu q hd hf
      obtain ⟨fu, rfl⟩ : ∃ q, fu = q + 1 := ⟨fu - 1, by omega⟩
      show b_Table_rankOf_14 N (f_Table_rankOf_14 N fu) (b + 15) _ _ _ _ _ = _
      unfold b_Table_rankOf_14
      simp only [c_rd, Option.bind_some, hI.1.2.1.1]
      rw [if_pos ((iI_lt (by omega) (by omega) (by omega) (by omega)).mpr (by omega)), show q = nn a.1 + 1 by omega]; rfl
    | succ d ih =>
      intro fu q hd hf
      obtain ⟨fu, rfl⟩ : ∃ q, fu = q + 1 := ⟨fu - 1, by omega⟩
      have r := fl_r hOK hh (q := q) (by omega)
      have eq1 : iI (q : Int) + 1 = iI ((q + 1 : Nat) : Int) := by rw [iI_1, iI_add]; rfl
      have hst := ih fu (q + 1) (by omega) (by omega)
      have hyes : rkP a p q = true → cnt (rkP a p) (q + 1) = cnt (rkP a p) q + 1 := fun e => by show cnt _ q + (rkP a p q).toNat = _; rw [e]; rfl
      have hno : rkP a p q = false → cnt (rkP a p) (q + 1) = cnt (rkP a p) q := fun e => by show cnt _ q + (rkP a p q).toNat = _; rw [e]; rfl
      have ec : iI ((cnt (rkP a p) q : Nat) : Int) + 1 = iI ((cnt (rkP a p) q + 1 : Nat) : Int) := by rw [iI_1, iI_add]; rfl
      show b_Table_rankOf_14 N (f_Table_rankOf_14 N fu) (b + 15) _ _ _ _ _ = _
      unfold b_Table_rankOf_14 f_Table_rankOf_55 f_Table_rankOf_58
      simp only [c_rd, Option.bind_some, hI.1.2.1.1, zck_t, k_filled (N := N) hOK hI hh (show q ≤ nn a.1 by omega), zabs_i (show -2147483648 < fl a q by omega) (show fl a q < 2147483648 by omega), eq1, ec]
      rw [if_neg (fun z => by have := (iI_lt (by omega) (by omega) (by omega) (by omega)).mp z; omega)]
      simp (disch := omega) only [iI_lt, iI_eq, iI_le]
      by_cases d1 : ((fl a p).natAbs : Int) < (fl a q).natAbs
      · rw [if_pos d1]; rw [hyes (decide_eq_true (by omega))] at hst; exact hst
      · rw [if_neg d1]
        by_cases d2 : ((fl a q).natAbs : Int) = (fl a p).natAbs
        · rw [if_pos d2]
          by_cases d3 : (p : Int) ≤ q
          · rw [if_pos d3]; rw [hno (decide_eq_false (by omega))] at hst; exact hst
          · rw [if_neg d3]; rw [hyes (decide_eq_true (by omega))] at hst; exact hst
        · rw [if_neg d2]; rw [hno (decide_eq_false (by omega))] at hst; exact hst
  have := loop (nn a.1 + 1) N 0 (by omega) (by omega)
  rw [show iI ((0 : Nat) : Int) = (0 : Int32) from iI_0.symm, show iI ((cnt (rkP a p) 0 : Nat) : Int) = (0 : Int32) from iI_0.symm] at this
  unfold f_Table_rankOf
  simp only [c_rd, zck_t, k_filled (N := N) hOK hI hh hp, Option.bind_some, zabs_i (show -2147483648 < fl a p by omega) (show fl a p < 2147483648 by omega)]
  exact this
theorem k_order (hN : 60 ≤ N) (hOK : aOK a) (hI : CI I J x a) {k : Int} (hk : rg k) : f_LT_order N b (iI k) (CH h b x I J) = some (iI (s_order a k), CH h b x I J) := by
  have hn := nn_r hOK.1
  obtain ⟨k1, k2⟩ := id hk
  have hhas := hOK.has
  have e0 : iI (a.2.1 0) = (0 : Int32) ↔ a.2.1 0 = 0 := iI_ez (by omega) (by omega)
  have hbad : ¬ (a.2.1 0 = 1 ∧ 0 ≤ k ∧ k ≤ a.1.1 0) → some ((-1 : Int32), CH h b x I J) = some (iI (s_order a k), CH h b x I J) := fun z => by rw [show s_order a k = -1 from if_neg z, iI_m1]
  unfold f_LT_order
  simp only [c_rd, Option.bind_some, hI.2.1, e0, zck_t, c_isPlace (N := N) (h := h) (b := b) hOK.1 hI.1 hk, b1_0, decide_eq_false_iff_not]
  by_cases c0 : a.2.1 0 = 0
  · rw [if_pos c0]; exact hbad (by omega)
  rw [if_neg c0]
  by_cases c1 : 0 ≤ k ∧ k ≤ a.1.1 0
  rotate_left
  · rw [if_pos c1]; exact hbad (fun q => c1 q.2)
  have hh := hhas.resolve_left c0
  rw [if_neg (fun q => q c1), show s_order a k = _ from if_pos ⟨hh, c1⟩]
  have loop : ∀ (d fu p : Nat), p + d = nn a.1 + 1 → d < fu → f_LT_order_25 N fu b (iI k) (iI p) (CH h b x I J) = some (iI (fst1 (fun p => decide ((rk a p : Int) = k)) d p), CH h b x I J) := by
    intro d
    induction d with
    | zero =>
      intro fu p hd hf
      obtain ⟨fu, rfl⟩ : ∃ q, fu = q + 1 := ⟨fu - 1, by omega⟩
      show b_LT_order_25 N (f_LT_order_25 N fu) b _ _ _ = _
      unfold b_LT_order_25
      simp only [c_rd, Option.bind_some, hI.1.2.1.1]
      rw [if_pos ((iI_lt (by omega) (by omega) (by omega) (by omega)).mpr (by omega)), iI_m1]; rfl
    | succ d ih =>
      intro fu p hd hf
      obtain ⟨fu, rfl⟩ : ∃ q, fu = q + 1 := ⟨fu - 1, by omega⟩
      have ep : iI (p : Int) + 1 = iI ((p + 1 : Nat) : Int) := by rw [iI_1, iI_add]; rfl
      have hle : rk a p ≤ nn a.1 + 1 := cnt_le
      show b_LT_order_25 N (f_LT_order_25 N fu) b _ _ _ = _
      unfold b_LT_order_25
      simp only [c_rd, Option.bind_some, hI.1.2.1.1, zck_t, k_rank (N := N) hN hOK hI hh (show p ≤ nn a.1 by omega), ep]
      rw [if_neg (fun z => by have := (iI_lt (by omega) (by omega) (by omega) (by omega)).mp z; omega), ih fu (p + 1) (by omega) (by omega)]
      show _ = some (iI (if decide ((rk a p : Int) = k) = true then (p : Int) else fst1 (fun p => decide ((rk a p : Int) = k)) d (p + 1)), CH h b x I J)
      have er : iI (rk a p : Int) = iI k ↔ (rk a p : Int) = k := iI_eq (by omega) (by omega) (by omega) (by omega)
      simp only [er, decide_eq_true_eq]
      by_cases e : (rk a p : Int) = k
      · rw [if_pos e, if_pos e]
      · rw [if_neg e, if_neg e]
  have := loop (nn a.1 + 1) N 0 (by omega) (by omega)
  rw [show iI ((0 : Nat) : Int) = (0 : Int32) from iI_0.symm] at this
  exact this
end CTABLE
