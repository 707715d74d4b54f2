/-! the class: keeps, bitCount -/
theorem bc_all : ∀ u : Fin 64, (f_Integer_bitCount 0 (iI ((u.val : Nat) : Int)) (fun _ => none, 0)).map Prod.fst = some (iI ((popc u.val 6 : Nat) : Int)) := by decide
theorem bc_some {N : Nat} {x : Int32} {h : zH} : f_Integer_bitCount N x h = ((f_Integer_bitCount 0 x (fun _ => none, 0)).map Prod.fst).map (fun v => (v, h)) := rfl
theorem popc_ext {u n : Nat} (hu : u < 2 ^ n) : ∀ d, popc u (n + d) = popc u n := by
  intro d
  induction d with
  | zero => rfl
  | succ d ih =>
    show popc u (n + d) + (u.testBit (n + d)).toNat = popc u n
    rw [ih, Nat.testBit_lt_two_pow (Nat.lt_of_lt_of_le hu (Nat.pow_le_pow_right (by omega) (by omega)))]; rfl
theorem c_bitCount {c : cfg} (hc : cOK c) {L K : Nat → Int} {uf : Nat} {cost : Int} (hT : TF c L K uf cost) {N : Nat} {h : zH} : f_Integer_bitCount N (iI uf) h = some (iI ((popc uf (c.1 10).toNat : Nat) : Int), h) := by
  have hK := hc.2.2.2.2.2.1
  have hu := hT.u64 hc
  have h6 := popc_ext hT.2.2.2.2.2.1 (6 - (c.1 10).toNat)
  rw [show (c.1 10).toNat + (6 - (c.1 10).toNat) = 6 by omega] at h6
  rw [bc_some, bc_all ⟨uf, hu⟩, ← h6]; rfl
section CKEEPS
variable {h : zH} {b : Nat} {x : cx} {I : Nat → Nat → Int32} {J : Nat → Nat → Int64} {a : ast} {N : Nat}
theorem k_places (hN : 60 ≤ N) (hOK : aOK a) (hI : CI I J x a) (hh : a.2.1 0 = 1) : f_Table_placesHold N (b + 15) (CH h b x I J) = some (1, CH h b x I J) := by
  have hn := nn_r hOK.1
  have hm := hOK.1.2.1
  have loop : ∀ (d fu p : Nat), p + d = nn a.1 + 1 → d < fu → f_Table_placesHold_2 N fu (b + 15) (iI p) (CH h b x I J) = some (1, CH h b x I J) := by
    intro d
    induction d with
    | zero =>
      intro fu p hd hf
      obtain ⟨fu, rfl⟩ : ∃ q, fu = q + 1 := ⟨fu - 1, by omega⟩
      show b_Table_placesHold_2 N (f_Table_placesHold_2 N fu) (b + 15) _ _ = _
      unfold b_Table_placesHold_2
      simp only [c_rd, Option.bind_some, hI.1.2.1.1]
      rw [if_pos ((iI_lt (by omega) (by omega) (by omega) (by omega)).mpr (by omega))]; rfl
    | succ d ih =>
      intro fu p hd hf
      obtain ⟨fu, rfl⟩ : ∃ q, fu = q + 1 := ⟨fu - 1, by omega⟩
      have ep : iI (p : Int) + 1 = iI ((p + 1 : Nat) : Int) := by rw [iI_1, iI_add]; rfl
      have l0 := hOK.lv hh (q := p) (by omega)
      have hok := (hOK.tf hh).1 p (by omega)
      rw [c_ok_al l0.1 l0.2] at hok
      show b_Table_placesHold_2 N (f_Table_placesHold_2 N fu) (b + 15) _ _ = _
      unfold b_Table_placesHold_2
      simp only [c_rd, Option.bind_some, hI.1.2.1.1, k_a16 hOK hI hh (show p ≤ nn a.1 by omega), zck_t, c_isLevel (N := N) (h := h) (b := b) hOK.1 hI.1 (z := a.2.2 0 p) ⟨by omega, by omega⟩, c_allows (N := N) (h := h) (b := b) hOK.1 hI.1 (p := p) (l := a.2.2 0 p) (by omega) ⟨by omega, by omega⟩, hok, ep]
      rw [if_neg (fun q => by have := (iI_lt (by omega) (by omega) (by omega) (by omega)).mp q; omega), decide_eq_true l0, if_neg (by decide), if_neg (by decide)]
      exact ih fu (p + 1) (by omega) (by omega)
  have := loop (nn a.1 + 1) N 0 (by omega) (by omega)
  rw [show iI ((0 : Nat) : Int) = (0 : Int32) from iI_0.symm] at this
  exact this
theorem k_slopesHold (hN : 60 ≤ N) (hOK : aOK a) (hI : CI I J x a) (hh : a.2.1 0 = 1) : f_Table_slopesHold N (b + 15) (CH h b x I J) = some (1, CH h b x I J) := by
  have hn := nn_r hOK.1
  have hm := hOK.1.2.1
  have loop : ∀ (d fu p : Nat), p + d = nn a.1 → d < fu → f_Table_slopesHold_2 N fu (b + 15) (iI p) (CH h b x I J) = some (1, CH h b x I J) := by
    intro d
    induction d with
    | zero =>
      intro fu p hd hf
      obtain ⟨fu, rfl⟩ : ∃ q, fu = q + 1 := ⟨fu - 1, by omega⟩
      show b_Table_slopesHold_2 N (f_Table_slopesHold_2 N fu) (b + 15) _ _ = _
      unfold b_Table_slopesHold_2
      simp only [c_rd, Option.bind_some, hI.1.2.1.1]
      rw [if_pos ((iI_le (by omega) (by omega) (by omega) (by omega)).mpr (by omega))]; rfl
    | succ d ih =>
      intro fu p hd hf
      obtain ⟨fu, rfl⟩ : ∃ q, fu = q + 1 := ⟨fu - 1, by omega⟩
      have ep : iI (p : Int) + 1 = iI ((p + 1 : Nat) : Int) := by rw [iI_1, iI_add]; rfl
      have l0 := hOK.lv hh (q := p) (by omega)
      have l1 := hOK.lv hh (q := p + 1) (by omega)
      obtain ⟨hfit, hch⟩ := c_fol_fit.mp ((hOK.tf hh).2.1 p (by omega))
      have hst := ih fu (p + 1) (by omega) (by omega)
      have hsl := k_slopeOf (N := N) (h := h) (b := b) hOK hI hh (p := p) (by omega)
      show b_Table_slopesHold_2 N (f_Table_slopesHold_2 N fu) (b + 15) _ _ = _
      unfold b_Table_slopesHold_2 f_Table_slopesHold_58
      simp only [c_rd, Option.bind_some, hI.1.2.1.1, zck_t, hsl, c_slopeFits (N := N) (h := h) (b := b) hOK.1 hI.1 (s := a.2.2 0 (p + 1) - a.2.2 0 p) (by omega) (by omega), hfit, ep]
      rw [if_neg (fun q => by have := (iI_le (by omega) (by omega) (by omega) (by omega)).mp q; omega), if_neg (by decide)]
      by_cases c0 : p = 0
      · subst c0
        rw [if_pos (by decide)]; exact hst
      · rw [if_neg (fun q => by rw [iI_0] at q; have := (iI_le (by omega) (by omega) (by omega) (by omega)).mp q; omega)]
        have em : iI (p : Int) - 1 = iI ((p - 1 : Nat) : Int) := by rw [iI_1, iI_sub]; congr 1; omega
        have lm := hOK.lv hh (q := p - 1) (by omega)
        have hslm := k_slopeOf (N := N) (h := h) (b := b) hOK hI hh (p := p - 1) (by omega)
        rw [show p - 1 + 1 = p by omega] at hslm
        rw [if_neg c0] at hch
        have hcf := c_changeFits (N := N) (h := h) (b := b) hOK.1 hI.1 (s := a.2.2 0 p - a.2.2 0 (p - 1)) (t := a.2.2 0 (p + 1) - a.2.2 0 p) (by omega) (by omega) (by omega) (by omega)
        rw [decide_eq_true (by rcases hch with q | q <;> omega)] at hcf
        rw [em]
        simp only [hslm, hsl, hcf, Option.bind_some, c_rd, zck_t]
        rw [if_neg (by decide)]; exact hst
  have := loop (nn a.1) N 0 (by omega) (by omega)
  rw [show iI ((0 : Nat) : Int) = (0 : Int32) from iI_0.symm] at this
  exact this
theorem k_spanHolds (hN : 60 ≤ N) (hOK : aOK a) (hI : CI I J x a) (hh : a.2.1 0 = 1) {k : Nat} (hk : (k : Int) < a.1.1 10) (hb : (a.2.1 1).toNat.testBit k = true) : f_Table_spanHolds N (b + 15) (iI k) (CH h b x I J) = some (1, CH h b x I J) := by
  have hn := nn_r hOK.1
  have hm := hOK.1.2.1
  have hc := hOK.1
  have h7 := hc.2.2.1
  have hK := hc.2.2.2.2.2.1
  obtain ⟨⟨r1, r2, r3⟩, -⟩ := hc.2.2.2.2.2.2.2.1 k hk
  obtain ⟨e6, e7, -, -⟩ := hI.1.2.2.2 k hk
  obtain ⟨hin, hcl⟩ := nat_in (p := k) (n := 6) (by omega) (by omega)
  obtain ⟨-, s, hu, hs⟩ := (hOK.tf hh).2.2.2.1 k hk hb
  obtain ⟨f, hf⟩ : ∃ f : Nat, (f : Int) = a.1.2 6 k := ⟨(a.1.2 6 k).toNat, by omega⟩
  obtain ⟨t, ht⟩ : ∃ t : Nat, (t : Int) = a.1.2 7 k := ⟨(a.1.2 7 k).toNat, by omega⟩
  rw [show (a.1.2 6 k).toNat = f by omega] at hu
  have hat : c_at a.1 k f := ⟨hk, by omega, by omega⟩
  have lf0 := hOK.lv hh (q := f) (by omega)
  have hsuit := ((c_use_suit hc hat lf0.1 lf0.2).mp hu).2.1
  have hsf := hs f (by omega) (by omega)
  have hfr := c_fit_r (c_fol_fit.mp ((hOK.tf hh).2.1 f (by omega))).1
  rw [hsf] at hfr
  have loop : ∀ (d fu p : Nat), p + d = t → f ≤ p → d < fu → f_Table_spanHolds_19 N fu (b + 15) (iI k) (iI f) (iI s) (iI p) (CH h b x I J) = some (1, CH h b x I J) := by
    intro d
    induction d with
    | zero =>
      intro fu p hd hfp hfu
      obtain ⟨fu, rfl⟩ : ∃ q, fu = q + 1 := ⟨fu - 1, by omega⟩
      show b_Table_spanHolds_19 N (f_Table_spanHolds_19 N fu) (b + 15) _ _ _ _ _ = _
      unfold b_Table_spanHolds_19
      simp only [c_rd, Option.bind_some, ca_9 hin, hcl, e7, k_a16 hOK hI hh (show f ≤ nn a.1 by omega), zck_t, c_suits (N := N) (h := h) (b := b) hc hI.1 hN hk (l := a.2.2 0 f) (s := s) (by omega) (by omega) (by omega) (by omega), hsuit]
      rw [if_pos ((iI_le (by omega) (by omega) (by omega) (by omega)).mpr (by omega))]; rfl
    | succ d ih =>
      intro fu p hd hfp hfu
      obtain ⟨fu, rfl⟩ : ∃ q, fu = q + 1 := ⟨fu - 1, by omega⟩
      have ep : iI (p : Int) + 1 = iI ((p + 1 : Nat) : Int) := by rw [iI_1, iI_add]; rfl
      have hsl := k_slopeOf (N := N) (h := h) (b := b) hOK hI hh (p := p) (by omega)
      rw [hs p (by omega) (by omega)] at hsl
      show b_Table_spanHolds_19 N (f_Table_spanHolds_19 N fu) (b + 15) _ _ _ _ _ = _
      unfold b_Table_spanHolds_19
      simp only [c_rd, Option.bind_some, ca_9 hin, hcl, e7, zck_t, hsl, if_true, ep]
      rw [if_neg (fun q => by have := (iI_le (by omega) (by omega) (by omega) (by omega)).mp q; omega)]
      exact ih fu (p + 1) (by omega) (by omega) (by omega)
  have hsl0 := k_slopeOf (N := N) (h := h) (b := b) hOK hI hh (p := f) (by omega)
  rw [hsf] at hsl0
  unfold f_Table_spanHolds
  simp only [c_rd, Option.bind_some, ca_8 hin, hcl, e6, ← hf, zck_t, hsl0]
  exact loop (t - f) N f (by omega) (Nat.le_refl _) (by omega)
theorem k_spansHold (hN : 60 ≤ N) (hOK : aOK a) (hI : CI I J x a) (hh : a.2.1 0 = 1) : f_Table_spansHold N (b + 15) (CH h b x I J) = some (1, CH h b x I J) := by
  have hc := hOK.1
  have hK := hc.2.2.2.2.2.1
  have hu64 := (hOK.tf hh).u64 hc
  have hu0 : 0 ≤ a.2.1 1 := by
    rcases hOK.2.1 with z | z
    · omega
    · exact z.2.2
  have hu : I 15 5 = iI (((a.2.1 1).toNat : Nat) : Int) := by rw [(hI.2.2.1 hh).2.2.1]; congr 1; omega
  have loop : ∀ (d fu k : Nat), k + d = (a.1.1 10).toNat → d < fu → f_Table_spansHold_2 N fu (b + 15) (iI k) (CH h b x I J) = some (1, CH h b x I J) := by
    intro d
    induction d with
    | zero =>
      intro fu k hd hf
      obtain ⟨fu, rfl⟩ : ∃ q, fu = q + 1 := ⟨fu - 1, by omega⟩
      show b_Table_spansHold_2 N (f_Table_spansHold_2 N fu) (b + 15) _ _ = _
      unfold b_Table_spansHold_2
      simp only [c_rd, Option.bind_some, hI.1.2.1.2.2.2.2.2]
      rw [if_pos ((iI_le (by omega) (by omega) (by omega) (by omega)).mpr (by omega))]; rfl
    | succ d ih =>
      intro fu k hd hf
      obtain ⟨fu, rfl⟩ : ∃ q, fu = q + 1 := ⟨fu - 1, by omega⟩
      have ek : iI (k : Int) + 1 = iI ((k + 1 : Nat) : Int) := by rw [iI_1, iI_add]; rfl
      have hst := ih fu (k + 1) (by omega) (by omega)
      have hb1 : ∀ x : Bool, b1 x = 1 ↔ x = true := fun x => by cases x <;> decide
      have hbit : iI (((a.2.1 1).toNat : Nat) : Int) >>> (iI (k : Int) &&& 31) &&& 1 = b1 ((a.2.1 1).toNat.testBit k) := bit_at ⟨(a.2.1 1).toNat, hu64⟩ ⟨k, by omega⟩
      show b_Table_spansHold_2 N (f_Table_spansHold_2 N fu) (b + 15) _ _ = _
      unfold b_Table_spansHold_2 f_Table_spansHold_35
      simp only [c_rd, Option.bind_some, hI.1.2.1.2.2.2.2.2, hu, hbit, hb1, ek, zck_t]
      rw [if_neg (fun q => by have := (iI_le (by omega) (by omega) (by omega) (by omega)).mp q; omega)]
      by_cases c : (a.2.1 1).toNat.testBit k = true
      · rw [if_pos c, k_spanHolds (N := N) hN hOK hI hh (by omega) c, Option.bind_some, if_neg (show ¬ ((1 : Int32) = 0) by decide)]
        exact hst
      · rw [if_neg c]; exact hst
  have := loop (a.1.1 10).toNat N 0 (by omega) (by omega)
  rw [show iI ((0 : Nat) : Int) = (0 : Int32) from iI_0.symm] at this
  exact this
theorem k_keeps (hN : 60 ≤ N) (hOK : aOK a) (hI : CI I J x a) : f_LT_keeps N b (CH h b x I J) = some (iI (a.2.1 0), CH h b x I J) := by
  have hhas := hOK.has
  have e0 : iI (a.2.1 0) = (0 : Int32) ↔ a.2.1 0 = 0 := iI_ez (by omega) (by omega)
  unfold f_LT_keeps f_Table_holdsAll
  simp only [c_rd, Option.bind_some, hI.2.1, e0, zck_t]
  by_cases c0 : a.2.1 0 = 0
  · rw [if_pos c0, c0]; rfl
  · have hh := hhas.resolve_left c0
    rw [if_neg c0, k_places hN hOK hI hh, Option.bind_some]
    simp only [k_slopesHold (N := N) (h := h) (b := b) hN hOK hI hh, k_spansHold (N := N) (h := h) (b := b) hN hOK hI hh, Option.bind_some, c_rd, zck_t]
    rw [hh]; rfl
end CKEEPS
