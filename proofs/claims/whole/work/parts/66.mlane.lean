/-! the reference: lane -/
/-- the lorry's speed at a place -/
def spd (a : ast) : Nat → Int
  | 0 => a.2.1 4
  | p + 1 => if 0 < a.2.2 0 (p + 1) - a.2.2 0 p then (if spd a p - (a.2.2 0 (p + 1) - a.2.2 0 p) * a.2.1 6 < 0 then 0 else spd a p - (a.2.2 0 (p + 1) - a.2.2 0 p) * a.2.1 6)
    else (if a.2.1 4 < spd a p + (1 - (a.2.2 0 (p + 1) - a.2.2 0 p)) * a.2.1 7 then a.2.1 4 else spd a p + (1 - (a.2.2 0 (p + 1) - a.2.2 0 p)) * a.2.1 7)
abbrev slw (a : ast) (p : Nat) : Prop := spd a p < a.2.1 5
abbrev was (a : ast) (p : Nat) : Prop := 0 < p ∧ slw a (p - 1)
/-- the number of the lane that has begun last before a place -/
def lnI (a : ast) : Nat → Int
  | 0 => -1
  | p + 1 => if slw a p ∧ ¬ was a p then lnI a p + 1 else lnI a p
def lf (a : ast) (k : Int) : Nat → Int
  | 0 => -1
  | p + 1 => if slw a p ∧ lnI a (p + 1) = k then (if was a p then lf a k p else p) else lf a k p
def le1 (a : ast) (k : Int) : Nat → Int
  | 0 => -1
  | p + 1 => if slw a p ∧ lnI a (p + 1) = k then p else le1 a k p
def lm (a : ast) (k : Int) : Nat → Int
  | 0 => -1
  | p + 1 => if slw a p ∧ lnI a (p + 1) = k then (if was a p then (if lm a k p ≤ spd a p then lm a k p else spd a p) else spd a p) else lm a k p
def s_lane (a : ast) (k w : Int) : Int := if a.2.1 0 = 1 ∧ 0 ≤ k ∧ (0 ≤ w ∧ w ≤ 2) then (if w = 0 then lf a k (nn a.1 + 1) else if w = 1 then le1 a k (nn a.1 + 1) else lm a k (nn a.1 + 1)) else -1
theorem spd_r {a : ast} (hOK : aOK a) (hh : a.2.1 0 = 1) : ∀ p, p ≤ nn a.1 → 0 ≤ spd a p ∧ spd a p ≤ a.2.1 4 := by
  have h4 := hOK.2.2.1 4 (by omega) (by omega)
  have h6 := hOK.2.2.1 6 (by omega) (by omega)
  have h7 := hOK.2.2.1 7 (by omega) (by omega)
  intro p
  induction p with
  | zero => intro _; exact ⟨h4.1, Int.le_refl _⟩
  | succ p ih =>
    intro hp
    have h1 := ih (by omega)
    generalize hs : a.2.2 0 (p + 1) - a.2.2 0 p = s
    show 0 ≤ (if 0 < a.2.2 0 (p + 1) - a.2.2 0 p then (if spd a p - (a.2.2 0 (p + 1) - a.2.2 0 p) * a.2.1 6 < 0 then 0 else spd a p - (a.2.2 0 (p + 1) - a.2.2 0 p) * a.2.1 6) else (if a.2.1 4 < spd a p + (1 - (a.2.2 0 (p + 1) - a.2.2 0 p)) * a.2.1 7 then a.2.1 4 else spd a p + (1 - (a.2.2 0 (p + 1) - a.2.2 0 p)) * a.2.1 7)) ∧ (if 0 < a.2.2 0 (p + 1) - a.2.2 0 p then (if spd a p - (a.2.2 0 (p + 1) - a.2.2 0 p) * a.2.1 6 < 0 then 0 else spd a p - (a.2.2 0 (p + 1) - a.2.2 0 p) * a.2.1 6) else (if a.2.1 4 < spd a p + (1 - (a.2.2 0 (p + 1) - a.2.2 0 p)) * a.2.1 7 then a.2.1 4 else spd a p + (1 - (a.2.2 0 (p + 1) - a.2.2 0 p)) * a.2.1 7)) ≤ a.2.1 4
    rw [hs]
    by_cases c : 0 < s
    · rw [if_pos c]
      have : 0 ≤ s * a.2.1 6 := Int.mul_nonneg (by omega) h6.1
      split <;> omega
    · rw [if_neg c]
      have : 0 ≤ (1 - s) * a.2.1 7 := Int.mul_nonneg (by omega) h7.1
      split <;> omega
/-- the lanes' numbers only rise, and what is known of lane k stays -/
theorem ln_stay {a : ast} {k : Int} : ∀ (d r : Nat), lnI a r ≥ k → (was a r → lnI a r > k) → lf a k (r + d) = lf a k r ∧ le1 a k (r + d) = le1 a k r ∧ lm a k (r + d) = lm a k r := by
  intro d
  induction d with
  | zero => intro r _ _; exact ⟨rfl, rfl, rfl⟩
  | succ d ih =>
    intro r h1 h2
    have e : lnI a (r + 1) = if slw a r ∧ ¬ was a r then lnI a r + 1 else lnI a r := rfl
    have ew : was a (r + 1) ↔ slw a r := ⟨fun z => z.2, fun z => ⟨by omega, z⟩⟩
    have key : slw a r → lnI a (r + 1) > k := by
      intro z
      rw [e]
      by_cases w : was a r
      · rw [if_neg (fun q => q.2 w)]; exact h2 w
      · rw [if_pos ⟨z, w⟩]; omega
    have key2 : lnI a (r + 1) ≥ k := by rw [e]; split <;> omega
    have := ih (r + 1) key2 (fun z => key (ew.mp z))
    have hne : ¬ (slw a r ∧ lnI a (r + 1) = k) := fun z => by have := key z.1; omega
    have f1 : lf a k (r + 1) = lf a k r := if_neg hne
    have f2 : le1 a k (r + 1) = le1 a k r := if_neg hne
    have f3 : lm a k (r + 1) = lm a k r := if_neg hne
    rw [f1, f2, f3, show r + 1 + d = r + (d + 1) by omega] at this
    exact this
theorem lnI_r {a : ast} : ∀ p : Nat, -1 ≤ lnI a p ∧ lnI a p < p := by
  intro p
  induction p with
  | zero => exact ⟨by show (-1 : Int) ≤ -1; omega, by show (-1 : Int) < 0; omega⟩
  | succ p ih =>
    have e : lnI a (p + 1) = if slw a p ∧ ¬ was a p then lnI a p + 1 else lnI a p := rfl
    rw [e]
    split <;> omega
/-- what is known while a lane that has begun at p goes on to q -/
def laneV (a : ast) (k : Int) (p q : Nat) (x : Int) : Prop := 0 ≤ x ∧ x ≤ 1001 ∧ (∀ r, p ≤ r → r < q → slw a r) ∧ lnI a q = lnI a p + (if p < q then 1 else 0) ∧
  (p < q → lnI a p + 1 = k → lf a k q = p ∧ le1 a k q = (q : Int) - 1 ∧ lm a k q = x) ∧ (p = q → x = 1001) ∧
  (lnI a p + 1 ≠ k → lf a k q = lf a k p ∧ le1 a k q = le1 a k p ∧ lm a k q = lm a k p)
theorem laneV.next {a : ast} (hOK : aOK a) (hh : a.2.1 0 = 1) {k : Int} {p q : Nat} {x : Int} (h : laneV a k p q x) (hpq : p ≤ q) (hq : q ≤ nn a.1) (hw : slw a p → ¬ was a p) (hs : slw a q) : laneV a k p (q + 1) (if x ≤ spd a q then x else spd a q) := by
  have hsp := spd_r hOK hh q hq
  have h4 := hOK.2.2.1 4 (by omega) (by omega)
  obtain ⟨h1, h2, h3, h5, h6, h7, h8⟩ := h
  have e : lnI a (q + 1) = if slw a q ∧ ¬ was a q then lnI a q + 1 else lnI a q := rfl
  have eln : lnI a (q + 1) = lnI a p + 1 := by
    rw [e]
    by_cases c : p = q
    · subst c
      rw [if_pos ⟨hs, hw hs⟩]
    · rw [if_neg (fun z => z.2 ⟨by omega, h3 (q - 1) (by omega) (by omega)⟩), h5, if_pos (by omega)]
  refine ⟨by split <;> omega, by split <;> omega, fun r a1 a2 => ?_, by rw [eln, if_pos (by omega)], fun _ hk => ?_, fun z => by omega, fun hk => ?_⟩
  · by_cases er : r = q
    · subst er; exact hs
    · exact h3 r a1 (by omega)
  · have hcon : slw a q ∧ lnI a (q + 1) = k := ⟨hs, by rw [eln]; exact hk⟩
    have f1 : lf a k (q + 1) = (if was a q then lf a k q else q) := if_pos hcon
    have f2 : le1 a k (q + 1) = q := if_pos hcon
    have f3 : lm a k (q + 1) = (if was a q then (if lm a k q ≤ spd a q then lm a k q else spd a q) else spd a q) := if_pos hcon
    rw [f1, f2, f3]
    by_cases c : p = q
    · subst c
      rw [if_neg (hw hs), if_neg (hw hs), h7 rfl, if_neg (by omega)]
      exact ⟨rfl, by omega, rfl⟩
    · have hwq : was a q := ⟨by omega, h3 (q - 1) (by omega) (by omega)⟩
      obtain ⟨g1, g2, g3⟩ := h6 (by omega) hk
      rw [if_pos hwq, if_pos hwq, g1, g3]
      exact ⟨rfl, by omega, rfl⟩
  · have hcon : ¬ (slw a q ∧ lnI a (q + 1) = k) := fun z => hk (by rw [← eln]; exact z.2)
    have f1 : lf a k (q + 1) = lf a k q := if_neg hcon
    have f2 : le1 a k (q + 1) = le1 a k q := if_neg hcon
    have f3 : lm a k (q + 1) = lm a k q := if_neg hcon
    rw [f1, f2, f3]; exact h8 hk
section MLANE
variable {h : zH} {b : Nat} {I : Nat → Nat → Int32} {J : Nat → Nat → Int64} {a : ast} {N : Nat}
theorem m_lane165 (hOK : aOK a) (hh : a.2.1 0 = 1) (hI : MI I J a) (hsp : ∀ q, q ≤ nn a.1 → I 19 q = iI (spd a q)) {k : Int} {p : Nat} (hw : slw a p → ¬ was a p) {x2 x3 : Int32} {rc : Nat → Int32 → Int32 → Int32 → zH → Option (Int32 × zH)} :
    ∀ (d fu q : Nat) (x : Int), q + d = nn a.1 + 1 → d < fu → p ≤ q → laneV a k p q x → ∃ q' x', q ≤ q' ∧ q' ≤ nn a.1 + 1 ∧ laneV a k p q' x' ∧ (q' ≤ nn a.1 → ¬ slw a q') ∧ f_Model_lane_165 N rc fu b x2 x3 (iI p) (iI q) (iI x) (MH h b I J) = f_Model_lane_220 N rc b x2 x3 (iI p) (iI q') (iI x') (MH h b I J) := by
  obtain ⟨n1, n2, n3⟩ := nn_r hOK.1
  have e0 := hI.1.1.1
  have e31 := hI.2.2.2.1.2.2.1
  have h5 := hOK.2.2.1 5 (by omega) (by omega)
  have h4 := hOK.2.2.1 4 (by omega) (by omega)
  intro d
  induction d with
  | zero =>
    intro fu q x hd hf hpq hV
    obtain ⟨fu, rfl⟩ : ∃ q, fu = q + 1 := ⟨fu - 1, by omega⟩
    refine ⟨q, x, Nat.le_refl _, by omega, hV, fun z => by omega, ?_⟩
    show b_Model_lane_165 N rc (f_Model_lane_165 N rc fu) b _ _ _ _ _ _ = _
    unfold b_Model_lane_165
    simp only [m_rd, Option.bind_some, e0]
    rw [if_pos ((iI_lt (by omega) (by omega) (by omega) (by omega)).mpr (by omega))]
  | succ d ih =>
    intro fu q x hd hf hpq hV
    obtain ⟨fu, rfl⟩ : ∃ q, fu = q + 1 := ⟨fu - 1, by omega⟩
    obtain ⟨hin, hcl⟩ := p_in (p := (q : Int)) (n := 25) (by omega) (by omega) (by omega)
    have hcl' : (iI (q : Int)).toNatClampNeg = q := by rw [hcl]; rfl
    have hr := spd_r hOK hh q (by omega)
    have eq1 : iI (q : Int) + 1 = iI ((q + 1 : Nat) : Int) := by rw [iI_1, iI_add]; rfl
    have hx := hV.1
    have hx2 := hV.2.1
    by_cases c : slw a q
    · obtain ⟨q', x', g1, g2, g3, g4, g5⟩ := ih fu (q + 1) (if x ≤ spd a q then x else spd a q) (by omega) (by omega) (by omega) (hV.next hOK hh hpq (by omega) hw c)
      refine ⟨q', x', by omega, g2, g3, g4, ?_⟩
      show b_Model_lane_165 N rc (f_Model_lane_165 N rc fu) b _ _ _ _ _ _ = _
      unfold b_Model_lane_165 f_Model_lane_212
      simp only [m_rd, Option.bind_some, e0, e31, ma_19 hin, hcl', hsp q (by omega), eq1]
      rw [if_neg (fun z => by have := (iI_lt (by omega) (by omega) (by omega) (by omega)).mp z; omega)]
      simp (disch := omega) only [iI_le]
      rw [if_neg (show ¬ a.2.1 5 ≤ spd a q from fun z => by have : spd a q < a.2.1 5 := c; omega)]
      by_cases c2 : x ≤ spd a q
      · rw [if_pos c2]; rw [if_pos c2] at g5; exact g5
      · rw [if_neg c2]; rw [if_neg c2] at g5; exact g5
    · refine ⟨q, x, Nat.le_refl _, by omega, hV, fun _ => c, ?_⟩
      show b_Model_lane_165 N rc (f_Model_lane_165 N rc fu) b _ _ _ _ _ _ = _
      unfold b_Model_lane_165
      simp only [m_rd, Option.bind_some, e0, e31, ma_19 hin, hcl', hsp q (by omega)]
      rw [if_neg (fun z => by have := (iI_lt (by omega) (by omega) (by omega) (by omega)).mp z; omega)]
      simp (disch := omega) only [iI_le]
      rw [if_pos (show a.2.1 5 ≤ spd a q from by
        have : ¬ spd a q < a.2.1 5 := c
        omega)]
theorem m_lane147 (hN : 60 ≤ N) (hOK : aOK a) (hh : a.2.1 0 = 1) (hI : MI I J a) (hsp : ∀ q, q ≤ nn a.1 → I 19 q = iI (spd a q)) {k w : Int} (hk : 0 ≤ k ∧ k < 2147483648) (hw2 : 0 ≤ w ∧ w ≤ 2) :
    ∀ (d fu p : Nat), p + d = nn a.1 + 1 → d < fu → (p ≤ nn a.1 → slw a p → ¬ was a p) → lnI a p < k → (lf a k p = -1 ∧ le1 a k p = -1 ∧ lm a k p = -1) →
    f_Model_lane_147 N fu b (iI w) (iI (k - 1 - lnI a p)) (iI p) (MH h b I J) = some (iI (if w = 0 then lf a k (nn a.1 + 1) else if w = 1 then le1 a k (nn a.1 + 1) else lm a k (nn a.1 + 1)), MH h b I J) := by
  obtain ⟨n1, n2, n3⟩ := nn_r hOK.1
  have e0 := hI.1.1.1
  intro d
  induction d using Nat.strongRecOn with
  | ind d ih =>
  intro fu p hd hf hw hln hnone
  obtain ⟨fu, rfl⟩ : ∃ q, fu = q + 1 := ⟨fu - 1, by omega⟩
  have lr := lnI_r (a := a) p
  show b_Model_lane_147 N (f_Model_lane_147 N fu) b _ _ _ _ = _
  unfold b_Model_lane_147
  simp only [m_rd, Option.bind_some, e0]
  by_cases ce : p = nn a.1 + 1
  · rw [if_pos ((iI_lt (by omega) (by omega) (by omega) (by omega)).mpr (by omega)), iI_m1]
    rw [← ce, hnone.1, hnone.2.1, hnone.2.2]
    split
    · rfl
    · split <;> rfl
  · rw [if_neg (fun z => by have := (iI_lt (by omega) (by omega) (by omega) (by omega)).mp z; omega), show (1001 : Int32) = iI 1001 by decide]
    obtain ⟨q', x', g1, g2, g3, g4, g5⟩ := m_lane165 (h := h) (b := b) (N := N) (x2 := iI w) (x3 := iI (k - 1 - lnI a p)) (rc := f_Model_lane_147 N fu) hOK hh hI hsp (k := k) (p := p) (hw (by omega)) d N p 1001 hd (by omega) (Nat.le_refl _) ⟨by omega, by omega, fun r a1 a2 => by omega, by rw [if_neg (by omega)]; omega, fun z => by omega, fun _ => rfl, fun _ => ⟨rfl, rfl, rfl⟩⟩
    rw [g5]
    obtain ⟨v1, v2, v3, v4, v5, v6, v7⟩ := g3
    have ep : iI (p : Int) + 1 = iI ((p + 1 : Nat) : Int) := by rw [iI_1, iI_add]; rfl
    have eq1 : iI (q' : Int) - 1 = iI ((q' : Int) - 1) := by rw [iI_1, iI_sub]
    have ew0 : iI w = (0 : Int32) ↔ w = 0 := iI_ez (by omega) (by omega)
    have ew1 : iI w = (1 : Int32) ↔ w = 1 := by rw [iI_1]; exact iI_eq (by omega) (by omega) (by omega) (by omega)
    have ek0 : iI (k - 1 - lnI a p) = (0 : Int32) ↔ k - 1 - lnI a p = 0 := iI_ez (by omega) (by omega)
    have ekm : iI (k - 1 - lnI a p) - 1 = iI (k - 1 - lnI a p - 1) := by rw [iI_1, iI_sub]
    unfold f_Model_lane_220 f_Model_lane_255 f_Model_lane_269 f_Model_lane_286
    simp only [ep, eq1, ew0, ew1, ek0, ekm]
    simp (disch := omega) only [iI_le]
    by_cases c1 : q' = p
    · subst c1
      rw [if_pos (by omega), if_pos (by omega), if_pos (by omega)]
      have hns := g4 (by omega)
      have e1 : lnI a (q' + 1) = lnI a q' := if_neg (fun z => hns z.1)
      have f1 : lf a k (q' + 1) = lf a k q' := if_neg (fun z => hns z.1)
      have f2 : le1 a k (q' + 1) = le1 a k q' := if_neg (fun z => hns z.1)
      have f3 : lm a k (q' + 1) = lm a k q' := if_neg (fun z => hns z.1)
      have := ih (d - 1) (by omega) fu (q' + 1) (by omega) (by omega) (fun _ _ z => hns (by have := z.2; exact this)) (by rw [e1]; exact hln) (by rw [f1, f2, f3]; exact hnone)
      rw [e1] at this
      exact this
    · rw [if_neg (by omega)]
      rw [if_pos (show p < q' by omega)] at v4
      by_cases c2 : k - 1 - lnI a p = 0
      · rw [if_pos c2]
        obtain ⟨y1, y2, y3⟩ := v5 (by omega) (by omega)
        have hst : lf a k (nn a.1 + 1) = lf a k q' ∧ le1 a k (nn a.1 + 1) = le1 a k q' ∧ lm a k (nn a.1 + 1) = lm a k q' := by
          by_cases c3 : q' = nn a.1 + 1
          · rw [c3]; exact ⟨rfl, rfl, rfl⟩
          · have hns := g4 (by omega)
            have e1 : lnI a (q' + 1) = lnI a q' := if_neg (fun z => hns z.1)
            have f1 : lf a k (q' + 1) = lf a k q' := if_neg (fun z => hns z.1)
            have f2 : le1 a k (q' + 1) = le1 a k q' := if_neg (fun z => hns z.1)
            have f3 : lm a k (q' + 1) = lm a k q' := if_neg (fun z => hns z.1)
            have := ln_stay (a := a) (k := k) (nn a.1 - q') (q' + 1) (by omega) (fun z => absurd z.2 hns)
            rw [show q' + 1 + (nn a.1 - q') = nn a.1 + 1 by omega, f1, f2, f3] at this
            exact this
        rw [hst.1, hst.2.1, hst.2.2, y1, y2, y3]
        by_cases c4 : w = 0
        · rw [if_pos c4, if_pos c4]
        · rw [if_neg c4, if_neg c4]
          by_cases c5 : w = 1
          · rw [if_pos c5, if_pos c5]
          · rw [if_neg c5, if_neg c5]
      · rw [if_neg c2, if_neg (by omega), if_neg (by omega)]
        obtain ⟨y1, y2, y3⟩ := v7 (by omega)
        have := ih (nn a.1 + 1 - q') (by omega) fu q' (by omega) (by omega) (fun z1 z2 => absurd z2 (g4 z1)) (by omega) (by rw [y1, y2, y3]; exact hnone)
        rw [v4, show k - 1 - (lnI a p + 1) = k - 1 - lnI a p - 1 by omega] at this
        exact this
theorem m_lane34 (hN : 60 ≤ N) (hOK : aOK a) (hh : a.2.1 0 = 1) {k w : Int} (hk : 0 ≤ k ∧ k < 2147483648) (hw2 : 0 ≤ w ∧ w ≤ 2) :
    ∀ (d fu p : Nat) (I : Nat → Nat → Int32), p + d = nn a.1 → d < fu → MI I J a → (∀ q, q ≤ p → I 19 q = iI (spd a q)) → ∃ I', MI I' J a ∧
    f_Model_lane_34 N fu b (iI k) (iI w) (iI ((p + 1 : Nat) : Int)) (MH h b I J) = some (iI (if w = 0 then lf a k (nn a.1 + 1) else if w = 1 then le1 a k (nn a.1 + 1) else lm a k (nn a.1 + 1)), MH h b I' J) := by
  obtain ⟨n1, n2, n3⟩ := nn_r hOK.1
  have hm := hOK.1.2.1
  have h4 := hOK.2.2.1 4 (by omega) (by omega)
  have h6 := hOK.2.2.1 6 (by omega) (by omega)
  have h7 := hOK.2.2.1 7 (by omega) (by omega)
  intro d
  induction d with
  | zero =>
    intro fu p I hd hf hI hsp
    obtain ⟨fu, rfl⟩ : ∃ q, fu = q + 1 := ⟨fu - 1, by omega⟩
    refine ⟨I, hI, ?_⟩
    show b_Model_lane_34 N (f_Model_lane_34 N fu) b _ _ _ _ = _
    unfold b_Model_lane_34
    simp only [m_rd, Option.bind_some, hI.1.1.1]
    rw [if_pos ((iI_lt (by omega) (by omega) (by omega) (by omega)).mpr (by omega))]
    have := m_lane147 (h := h) (b := b) (N := N) hN hOK hh hI (fun q hq => hsp q (by omega)) hk hw2 (nn a.1 + 1) N 0 (by omega) (by omega) (fun _ _ z => by have := z.1; omega) (by show (-1 : Int) < k; omega) ⟨rfl, rfl, rfl⟩
    rw [show k - 1 - lnI a 0 = k by show k - 1 - (-1) = k; omega, show iI ((0 : Nat) : Int) = (0 : Int32) from iI_0.symm] at this
    exact this
  | succ d ih =>
    intro fu p I hd hf hI hsp
    obtain ⟨fu, rfl⟩ : ∃ q, fu = q + 1 := ⟨fu - 1, by omega⟩
    obtain ⟨hin, hcl⟩ := p_in (p := ((p + 1 : Nat) : Int)) (n := 25) (by omega) (by omega) (by omega)
    have hcl' : (iI ((p + 1 : Nat) : Int)).toNatClampNeg = p + 1 := by rw [hcl]; rfl
    obtain ⟨hinm, hclm⟩ := p_in (p := (p : Int)) (n := 25) (by omega) (by omega) (by omega)
    have hclm' : (iI (p : Int)).toNatClampNeg = p := by rw [hclm]; rfl
    have em : iI ((p + 1 : Nat) : Int) - 1 = iI (p : Int) := by rw [iI_1, iI_sub]; congr 1; omega
    have ep : iI ((p + 1 : Nat) : Int) + 1 = iI ((p + 1 + 1 : Nat) : Int) := by rw [iI_1, iI_add]; rfl
    obtain ⟨hL, -, -⟩ := hI.2.2.1 hh
    obtain ⟨e29, e30, e31, e32, e33⟩ := hI.2.2.2.1
    have l0 := hOK.lv hh (q := p) (by omega)
    have lp := hOK.lv hh (q := p + 1) (by omega)
    have hr := spd_r hOK hh p (by omega)
    have hr' := spd_r hOK hh (p + 1) (by omega)
    have hMI : MI (u2 I 19 (p + 1) (iI (spd a (p + 1)))) J a := by
      obtain ⟨g1, g2, g3, g4, g5, g6⟩ := hI
      exact ⟨g1.sameC ⟨fun k _ => u2_n (Or.inl (by omega)), fun i k _ _ => u2_n (Or.inl (by omega)), fun _ => rfl⟩, g2, g3, g4, g5, g6⟩
    obtain ⟨I', hI', hgo⟩ := ih fu (p + 1) (u2 I 19 (p + 1) (iI (spd a (p + 1)))) (by omega) (by omega) hMI (fun q hq => by
      by_cases e : q = p + 1
      · subst e; exact u2_s
      · rw [u2_n (Or.inr e)]; exact hsp q (by omega))
    refine ⟨I', hI', ?_⟩
    show b_Model_lane_34 N (f_Model_lane_34 N fu) b _ _ _ _ = _
    unfold b_Model_lane_34 f_Model_lane_101 f_Model_lane_135
    simp only [m_rd, Option.bind_some, hI.1.1.1, ma_17 hin, hcl', em, ma_17 hinm, hclm', hL p (by omega), hL (p + 1) (by omega), ma_19 hinm, hsp p (Nat.le_refl _), e30, e32, e33, ms_19 hin, ep]
    simp only [iI_sub, iI_add, iI_mul, iI_1]
    rw [if_neg (fun z => by have := (iI_lt (by omega) (by omega) (by omega) (by omega)).mp z; omega)]
    obtain ⟨s, hs⟩ : ∃ s, a.2.2 0 (p + 1) - a.2.2 0 p = s := ⟨_, rfl⟩
    simp only [hs]
    have ef : spd a (p + 1) = if 0 < s then (if spd a p - s * a.2.1 6 < 0 then 0 else spd a p - s * a.2.1 6) else (if a.2.1 4 < spd a p + (1 - s) * a.2.1 7 then a.2.1 4 else spd a p + (1 - s) * a.2.1 7) := by rw [← hs]; rfl
    have es : iI s ≤ (0 : Int32) ↔ s ≤ 0 := by rw [iI_0]; exact iI_le (by omega) (by omega) (by omega) (by omega)
    have ep2 : iI (((p + 1 : Nat) : Int) + 1) = iI ((p + 1 + 1 : Nat) : Int) := rfl
    simp only [es]
    by_cases c : 0 < s
    · rw [if_neg (by omega)]
      rw [if_pos c] at ef
      have hb1 : 0 ≤ s * a.2.1 6 := Int.mul_nonneg (by omega) h6.1
      have hb2 : s * a.2.1 6 ≤ 24 * 1000 := Int.mul_le_mul (by omega) h6.2 h6.1 (by omega)
      have e1 : (0 : Int32) ≤ iI (spd a p - s * a.2.1 6) ↔ 0 ≤ spd a p - s * a.2.1 6 := by rw [iI_0]; exact iI_le (by omega) (by omega) (by omega) (by omega)
      have e2 : iI (spd a p - s * a.2.1 6) ≤ iI (a.2.1 4) ↔ spd a p - s * a.2.1 6 ≤ a.2.1 4 := iI_le (by omega) (by omega) (by omega) (by omega)
      simp only [e1, e2]
      by_cases c2 : 0 ≤ spd a p - s * a.2.1 6
      · rw [if_pos c2, if_pos (by omega)]
        rw [if_neg (by omega)] at ef
        rw [← ef]; exact hgo
      · rw [if_neg c2]
        rw [if_pos (by omega)] at ef
        rw [show (0 : Int32) = iI (spd a (p + 1)) by rw [ef]; exact iI_0]; exact hgo
    · rw [if_pos (by omega)]
      rw [if_neg c] at ef
      have hb1 : 0 ≤ (1 - s) * a.2.1 7 := Int.mul_nonneg (by omega) h7.1
      have hb2 : (1 - s) * a.2.1 7 ≤ 25 * 1000 := Int.mul_le_mul (by omega) h7.2 h7.1 (by omega)
      have e1 : (0 : Int32) ≤ iI (spd a p + (1 - s) * a.2.1 7) ↔ 0 ≤ spd a p + (1 - s) * a.2.1 7 := by rw [iI_0]; exact iI_le (by omega) (by omega) (by omega) (by omega)
      have e2 : iI (spd a p + (1 - s) * a.2.1 7) ≤ iI (a.2.1 4) ↔ spd a p + (1 - s) * a.2.1 7 ≤ a.2.1 4 := iI_le (by omega) (by omega) (by omega) (by omega)
      simp only [e1, e2]
      rw [if_pos (by omega)]
      by_cases c2 : spd a p + (1 - s) * a.2.1 7 ≤ a.2.1 4
      · rw [if_pos c2]
        rw [if_neg (by omega)] at ef
        rw [← ef]; exact hgo
      · rw [if_neg c2]
        rw [if_pos (by omega)] at ef
        rw [← ef]; exact hgo
theorem m_lane (hN : 60 ≤ N) (hOK : aOK a) (hI : MI I J a) {k w : Int} (hk : rg k) (hw : rg w) : ∃ I', MI I' J a ∧ f_Model_lane N b (iI k) (iI w) (MH h b I J) = some (iI (s_lane a k w), MH h b I' J) := by
  obtain ⟨n1, n2, n3⟩ := nn_r hOK.1
  have hhas := hOK.has
  obtain ⟨k1, k2⟩ := hk
  obtain ⟨w1, w2⟩ := hw
  unfold f_Model_lane
  have e1 : iI k < (0 : Int32) ↔ k < 0 := iI_lz (by omega) (by omega)
  have e2 : iI w < (0 : Int32) ↔ w < 0 := iI_lz (by omega) (by omega)
  have e3 : iI w ≤ (2 : Int32) ↔ w ≤ 2 := by rw [show (2 : Int32) = iI 2 by decide]; exact iI_le (by omega) (by omega) (by omega) (by omega)
  have e4 : iI (a.2.1 0) = (0 : Int32) ↔ a.2.1 0 = 0 := iI_ez (by omega) (by omega)
  simp only [m_rd, Option.bind_some, hI.2.1, e1, e2, e3, e4, hI.2.2.2.1.2.1]
  have hbad : ¬ (a.2.1 0 = 1 ∧ 0 ≤ k ∧ (0 ≤ w ∧ w ≤ 2)) → ∃ I', MI I' J a ∧ some ((-1 : Int32), MH h b I J) = some (iI (s_lane a k w), MH h b I' J) := fun z => by
    rw [show s_lane a k w = -1 from if_neg z, iI_m1]; exact ⟨I, hI, rfl⟩
  by_cases c0 : a.2.1 0 = 0
  · rw [if_pos c0]; exact hbad (by omega)
  rw [if_neg c0]
  by_cases c1 : k < 0
  · rw [if_pos c1]; exact hbad (by omega)
  rw [if_neg c1]
  by_cases c2 : w < 0
  · rw [if_pos c2]; exact hbad (by omega)
  rw [if_neg c2]
  by_cases c3 : w ≤ 2
  rotate_left
  · rw [if_neg c3]; exact hbad (by omega)
  have hh := hhas.resolve_left c0
  rw [if_pos c3, show s_lane a k w = _ from if_pos ⟨hh, by omega, by omega, c3⟩]
  have hin : vp_in (0 : Int32) 25 := by rw [iI_0]; exact iI_in (by omega) (by omega) (by omega)
  have hcl : (0 : Int32).toNatClampNeg = 0 := by decide
  have hMI : MI (u2 I 19 0 (iI (a.2.1 4))) J a := by
    obtain ⟨g1, g2, g3, g4, g5, g6⟩ := hI
    exact ⟨g1.sameC ⟨fun k _ => u2_n (Or.inl (by omega)), fun i k _ _ => u2_n (Or.inl (by omega)), fun _ => rfl⟩, g2, g3, g4, g5, g6⟩
  obtain ⟨I', hI', hgo⟩ := m_lane34 (h := h) (b := b) (N := N) hN hOK hh (k := k) (w := w) ⟨by omega, by omega⟩ ⟨by omega, c3⟩ (nn a.1) N 0 (u2 I 19 0 (iI (a.2.1 4))) (by omega) (by omega) hMI (fun q hq => by
    rw [show q = 0 by omega]; exact u2_s)
  refine ⟨I', hI', ?_⟩
  simp only [ms_19 hin, hcl, Option.bind_some]
  exact hgo
end MLANE
