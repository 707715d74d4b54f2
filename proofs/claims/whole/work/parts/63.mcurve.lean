/-! the reference: curves, what is filled -/
def cnt (P : Nat → Bool) : Nat → Nat
  | 0 => 0
  | n + 1 => cnt P n + (P n).toNat
theorem cnt_le {P : Nat → Bool} {n : Nat} : cnt P n ≤ n := by
  induction n with
  | zero => exact Nat.le_refl _
  | succ n ih =>
    show cnt P n + (P n).toNat ≤ n + 1
    have : (P n).toNat ≤ 1 := Bool.toNat_le _
    omega
theorem cnt_congr {P Q : Nat → Bool} {n : Nat} (h : ∀ q, q < n → P q = Q q) : cnt P n = cnt Q n := by
  induction n with
  | zero => rfl
  | succ n ih =>
    show cnt P n + (P n).toNat = cnt Q n + (Q n).toNat
    rw [ih (fun q hq => h q (by omega)), h n (by omega)]
/-- the curves that stand -/
def s_nc (a : ast) : Nat := cnt (fun p => decide (0 < a.2.2 2 p)) (nn a.1 + 1)
theorem aOK.tf {a : ast} (hOK : aOK a) (h : a.2.1 0 = 1) : TF a.1 (a.2.2 0) (a.2.2 1) (a.2.1 1).toNat (a.2.1 2) := by
  rcases hOK.2.1 with z | z
  · omega
  · exact z.2.1.tf hOK.1
theorem aOK.lv {a : ast} (hOK : aOK a) (h : a.2.1 0 = 1) {q : Nat} (hq : q ≤ nn a.1) : 0 ≤ a.2.2 0 q ∧ a.2.2 0 q ≤ a.1.1 1 := by
  have := c_ok_r ((hOK.tf h).1 q hq)
  omega
def sp1 (c : cfg) (u p j : Nat) : Bool := u.testBit j && decide (c.2 6 j ≤ p ∧ (p : Int) < c.2 7 j)
def spn (c : cfg) (u p : Nat) : Nat → Bool
  | 0 => false
  | k + 1 => spn c u p k || sp1 c u p k
theorem spn_iff {c : cfg} {u p k : Nat} : spn c u p k = true ↔ ∃ j, j < k ∧ sp1 c u p j = true := by
  induction k with
  | zero => exact ⟨fun h => absurd h (by simp [spn]), fun ⟨j, h, _⟩ => by omega⟩
  | succ k ih =>
    show (spn c u p k || sp1 c u p k) = true ↔ _
    rw [Bool.or_eq_true_iff, ih]
    constructor
    · rintro (⟨j, h1, h2⟩ | h)
      · exact ⟨j, by omega, h2⟩
      · exact ⟨k, by omega, h⟩
    · rintro ⟨j, h1, h2⟩
      by_cases e : j = k
      · subst e; exact Or.inr h2
      · exact Or.inl ⟨j, by omega, h2⟩
theorem spn_K {c : cfg} (hc : cOK c) {L K : Nat → Int} {uf : Nat} {cost : Int} (hT : TF c L K uf cost) {p : Nat} (hp : p < nn c) : spn c uf p (c.1 10).toNat = decide (K p ≠ -1) := by
  have hK := hc.2.2.2.2.2.1
  obtain ⟨-, -, t3, t4, t5, -⟩ := hT
  rw [Bool.eq_iff_iff, spn_iff]
  constructor
  · rintro ⟨j, h1, h2⟩
    unfold sp1 at h2
    obtain ⟨h3, h4⟩ := Bool.and_eq_true_iff.mp h2
    have h5 := of_decide_eq_true h4
    have := (t4 j (by omega) h3).1 p h5.1 h5.2
    exact decide_eq_true (by omega)
  · intro h
    have h := of_decide_eq_true h
    rcases t3 p hp with z | ⟨k, k1, k2, k3, k4⟩
    · omega
    · refine ⟨k, by omega, ?_⟩
      unfold sp1
      rw [decide_eq_true ⟨k3, k4⟩, Bool.and_true]
      cases hb : uf.testBit k with
      | true => rfl
      | false => exact absurd (t5 k k1 hb p k3 k4) h
def so (c : cfg) (p : Nat) : Nat → Int
  | 0 => -1
  | k + 1 => if c.2 6 k ≤ p ∧ (p : Int) < c.2 7 k then k else so c p k
theorem so_eq {c : cfg} (hc : cOK c) {p k : Nat} (hk : (k : Int) < c.1 10) (h1 : c.2 6 k ≤ p) (h2 : (p : Int) < c.2 7 k) : ∀ m : Nat, (m : Int) ≤ c.1 10 → k < m → so c p m = k := by
  intro m
  induction m with
  | zero => intro _ h; omega
  | succ m ih =>
    intro hm hkm
    show (if c.2 6 m ≤ p ∧ (p : Int) < c.2 7 m then (m : Int) else so c p m) = k
    by_cases e : m = k
    · subst e; rw [if_pos ⟨h1, h2⟩]
    · have := hc.2.2.2.2.2.2.2.2 m k (by omega) hk e
      rw [if_neg (by omega)]
      exact ih (by omega) (by omega)
theorem so_r {c : cfg} {p : Nat} : ∀ m : Nat, -1 ≤ so c p m ∧ so c p m < m := by
  intro m
  induction m with
  | zero => exact ⟨by show (-1 : Int) ≤ -1; omega, by show (-1 : Int) < 0; omega⟩
  | succ m ih =>
    show -1 ≤ (if c.2 6 m ≤ p ∧ (p : Int) < c.2 7 m then (m : Int) else so c p m) ∧ (if c.2 6 m ≤ p ∧ (p : Int) < c.2 7 m then (m : Int) else so c p m) < ((m + 1 : Nat) : Int)
    split <;> omega
/-- the place lies between the ends of a used span -/
abbrev insd (a : ast) (p : Nat) : Prop := 1 ≤ p ∧ p < nn a.1 ∧ a.2.2 1 p ≠ -1 ∧ a.2.2 1 (p - 1) = a.2.2 1 p
def fl (a : ast) (p : Nat) : Int := if insd a p then 0 else a.2.2 0 p - a.1.2 1 p
theorem fl_r {a : ast} (hOK : aOK a) (h : a.2.1 0 = 1) {q : Nat} (hq : q ≤ nn a.1) : -24 ≤ fl a q ∧ fl a q ≤ 24 := by
  have h1 := hOK.lv h hq
  have hm := hOK.1.2.1
  have hn := (nn_r hOK.1).2.2
  have := (hOK.1.2.2.2.2.2.2.1 q (by omega)).1
  unfold fl
  split <;> omega
section MCURVE
variable {h : zH} {b : Nat} {I : Nat → Nat → Int32} {J : Nat → Nat → Int64} {a : ast} {N : Nat}
theorem m_curves (hN : 60 ≤ N) (hOK : aOK a) (hI : MI I J a) : f_Model_curves N b (MH h b I J) = some (iI (s_nc a), MH h b I J) := by
  obtain ⟨n1, n2, n3⟩ := nn_r hOK.1
  have e0 := hI.1.1.1
  have h18 := hI.2.2.2.2.1
  have loop : ∀ (d fu k : Nat), k + d = nn a.1 + 1 → d < fu → f_Model_curves_4 N fu b (iI (cnt (fun p => decide (0 < a.2.2 2 p)) k)) (iI k) (MH h b I J) = some (iI (s_nc a), MH h b I J) := by
    intro d
    induction d with
    | zero =>
      intro fu k hd hf
      obtain ⟨fu, rfl⟩ : ∃ q, fu = q + 1 := ⟨fu - 1, by omega⟩
      show b_Model_curves_4 N (f_Model_curves_4 N fu) b _ _ _ = _
      unfold b_Model_curves_4
      simp only [m_rd, Option.bind_some, e0]
      rw [if_pos ((iI_lt (by omega) (by omega) (by omega) (by omega)).mpr (by omega)), show k = nn a.1 + 1 by omega]; rfl
    | succ d ih =>
      intro fu k hd hf
      obtain ⟨fu, rfl⟩ : ∃ q, fu = q + 1 := ⟨fu - 1, by omega⟩
      obtain ⟨hin, hcl⟩ := p_in (p := (k : Int)) (n := 25) (by omega) (by omega) (by omega)
      have hcl' : (iI (k : Int)).toNatClampNeg = k := by rw [hcl]; rfl
      have hH := (hOK.2.2.2 k).1
      show b_Model_curves_4 N (f_Model_curves_4 N fu) b _ _ _ = _
      unfold b_Model_curves_4 f_Model_curves_28
      simp only [m_rd, Option.bind_some, e0, ma_18 hin, hcl', h18 k (by omega)]
      rw [if_neg (fun z => by have := (iI_lt (by omega) (by omega) (by omega) (by omega)).mp z; omega)]
      have ek : iI (k : Int) + 1 = iI ((k + 1 : Nat) : Int) := by rw [iI_1, iI_add]; rfl
      have el : iI (a.2.2 2 k) ≤ 0 ↔ a.2.2 2 k ≤ 0 := by rw [iI_0]; exact iI_le (by omega) (by omega) (by omega) (by omega)
      have hst := ih fu (k + 1) (by omega) (by omega)
      simp only [el, ek]
      by_cases e : a.2.2 2 k ≤ 0
      · rw [if_pos e]
        rw [show cnt (fun p => decide (0 < a.2.2 2 p)) (k + 1) = cnt (fun p => decide (0 < a.2.2 2 p)) k from by
          show cnt _ k + (decide (0 < a.2.2 2 k)).toNat = _
          rw [decide_eq_false (by omega)]; rfl] at hst
        exact hst
      · rw [if_neg e]
        rw [show cnt (fun p => decide (0 < a.2.2 2 p)) (k + 1) = cnt (fun p => decide (0 < a.2.2 2 p)) k + 1 from by
          show cnt _ k + (decide (0 < a.2.2 2 k)).toNat = _
          rw [decide_eq_true (by omega)]; rfl] at hst
        rw [show iI ((cnt (fun p => decide (0 < a.2.2 2 p)) k : Nat) : Int) + 1 = iI ((cnt (fun p => decide (0 < a.2.2 2 p)) k + 1 : Nat) : Int) from by rw [iI_1, iI_add]; rfl]
        exact hst
  have := loop (nn a.1 + 1) N 0 (by omega) (by omega)
  rw [show iI ((cnt (fun p => decide (0 < a.2.2 2 p)) 0 : Nat) : Int) = (0 : Int32) from iI_0.symm, show iI ((0 : Nat) : Int) = (0 : Int32) from iI_0.symm] at this
  exact this
theorem m_isSpanned (hN : 60 ≤ N) (hOK : aOK a) (hI : MI I J a) (hh : a.2.1 0 = 1) {p : Nat} (hp : p < nn a.1) : f_Model_isSpanned N b (iI p) (MH h b I J) = some (b1 (decide (a.2.2 1 p ≠ -1)), MH h b I J) := by
  obtain ⟨n1, n2, n3⟩ := nn_r hOK.1
  have hc := hOK.1
  have hK := hc.2.2.2.2.2.1
  have hT := hOK.tf hh
  have hu2 := hT.u64 hc
  obtain ⟨-, hu, -⟩ := hI.2.2.1 hh
  have hu0 : 0 ≤ a.2.1 1 := by
    rcases hOK.2.1 with z | z
    · omega
    · exact z.2.2
  have hM := hI.1
  have e10 := hM.1.2.2.2.2.2
  generalize hU : (a.2.1 1).toNat = u at hT hu2
  have hu : I 0 26 = iI (u : Int) := by rw [hu, ← hU]; congr 1; omega
  have loop : ∀ (d fu k : Nat), k + d = (a.1.1 10).toNat → d < fu → f_Model_isSpanned_4 N fu b (iI p) (b1 (spn a.1 u p k)) (iI k) (MH h b I J) = some (b1 (decide (a.2.2 1 p ≠ -1)), MH h b I J) := by
    intro d
    induction d with
    | zero =>
      intro fu k hd hf
      obtain ⟨fu, rfl⟩ : ∃ q, fu = q + 1 := ⟨fu - 1, by omega⟩
      show b_Model_isSpanned_4 N (f_Model_isSpanned_4 N fu) b _ _ _ _ = _
      unfold b_Model_isSpanned_4
      simp only [m_rd, Option.bind_some, e10]
      rw [if_pos ((iI_le (by omega) (by omega) (by omega) (by omega)).mpr (by omega)), show k = (a.1.1 10).toNat by omega, spn_K hc hT hp, zrb_b]
    | succ d ih =>
      intro fu k hd hf
      obtain ⟨fu, rfl⟩ : ∃ q, fu = q + 1 := ⟨fu - 1, by omega⟩
      have hkk : (k : Int) < a.1.1 10 := by omega
      obtain ⟨⟨r1, r2, r3⟩, -⟩ := hc.2.2.2.2.2.2.2.1 k hkk
      obtain ⟨e6, e7, -, -⟩ := hM.2.2 k hkk
      obtain ⟨hin, hcl⟩ := p_in (p := (k : Int)) (n := 6) (by omega) (by omega) (by omega)
      have hcl' : (iI (k : Int)).toNatClampNeg = k := by rw [hcl]; rfl
      have ek : iI (k : Int) + 1 = iI ((k + 1 : Nat) : Int) := by rw [iI_1, iI_add]; rfl
      have hst := ih fu (k + 1) (by omega) (by omega)
      show b_Model_isSpanned_4 N (f_Model_isSpanned_4 N fu) b _ _ _ _ = _
      unfold b_Model_isSpanned_4 f_Model_isSpanned_52 f_Model_isSpanned_48 f_Model_isSpanned_53
      simp only [m_rd, Option.bind_some, e10, hu, ma_6 hin, ma_7 hin, hcl', e6, e7, ek, b1_0]
      rw [if_neg (fun z => by have := (iI_le (by omega) (by omega) (by omega) (by omega)).mp z; omega), bit_at ⟨u, hu2⟩ ⟨k, by omega⟩]
      simp (disch := omega) only [iI_lt, iI_le]
      have hb1 : ∀ x : Bool, b1 x = 1 ↔ x = true := fun x => by cases x <;> decide
      simp only [hb1]
      have hsp : spn a.1 u p (k + 1) = (spn a.1 u p k || sp1 a.1 u p k) := rfl
      rw [hsp] at hst
      cases hs : spn a.1 u p k with
      | true =>
        rw [if_neg (by decide)]
        rw [hs] at hst; exact hst
      | false =>
        rw [if_pos rfl]
        rw [hs, Bool.false_or] at hst
        unfold sp1 at hst
        by_cases c0 : u.testBit k = true
        · rw [if_pos c0]
          by_cases c1 : (p : Int) < a.1.2 6 k
          · rw [if_pos c1]
            rw [c0, decide_eq_false (by omega)] at hst; exact hst
          · rw [if_neg c1]
            by_cases c2 : a.1.2 7 k ≤ p
            · rw [if_pos c2]
              rw [c0, decide_eq_false (by omega)] at hst; exact hst
            · rw [if_neg c2]
              rw [c0, decide_eq_true (by omega)] at hst; exact hst
        · rw [if_neg c0]
          rw [Bool.not_eq_true _ |>.mp c0] at hst; exact hst
  have := loop (a.1.1 10).toNat N 0 (by omega) (by omega)
  rw [show b1 (spn a.1 u p 0) = (0 : Int32) from rfl, show iI ((0 : Nat) : Int) = (0 : Int32) from iI_0.symm] at this
  exact this
theorem m_spanOf (hN : 60 ≤ N) (hOK : aOK a) (hI : MI I J a) {p : Nat} (hp : p < 25) : f_Model_spanOf N b (iI p) (MH h b I J) = some (iI (so a.1 p (a.1.1 10).toNat), MH h b I J) := by
  obtain ⟨n1, n2, n3⟩ := nn_r hOK.1
  have hc := hOK.1
  have hK := hc.2.2.2.2.2.1
  have hM := hI.1
  have e10 := hM.1.2.2.2.2.2
  have loop : ∀ (d fu k : Nat), k + d = (a.1.1 10).toNat → d < fu → f_Model_spanOf_4 N fu b (iI p) (iI (so a.1 p k)) (iI k) (MH h b I J) = some (iI (so a.1 p (a.1.1 10).toNat), MH h b I J) := by
    intro d
    induction d with
    | zero =>
      intro fu k hd hf
      obtain ⟨fu, rfl⟩ : ∃ q, fu = q + 1 := ⟨fu - 1, by omega⟩
      show b_Model_spanOf_4 N (f_Model_spanOf_4 N fu) b _ _ _ _ = _
      unfold b_Model_spanOf_4
      simp only [m_rd, Option.bind_some, e10]
      rw [if_pos ((iI_le (by omega) (by omega) (by omega) (by omega)).mpr (by omega)), show k = (a.1.1 10).toNat by omega]
    | succ d ih =>
      intro fu k hd hf
      obtain ⟨fu, rfl⟩ : ∃ q, fu = q + 1 := ⟨fu - 1, by omega⟩
      have hkk : (k : Int) < a.1.1 10 := by omega
      obtain ⟨⟨r1, r2, r3⟩, -⟩ := hc.2.2.2.2.2.2.2.1 k hkk
      obtain ⟨e6, e7, -, -⟩ := hM.2.2 k hkk
      obtain ⟨hin, hcl⟩ := p_in (p := (k : Int)) (n := 6) (by omega) (by omega) (by omega)
      have hcl' : (iI (k : Int)).toNatClampNeg = k := by rw [hcl]; rfl
      have ek : iI (k : Int) + 1 = iI ((k + 1 : Nat) : Int) := by rw [iI_1, iI_add]; rfl
      have hst := ih fu (k + 1) (by omega) (by omega)
      rw [show so a.1 p (k + 1) = (if a.1.2 6 k ≤ p ∧ (p : Int) < a.1.2 7 k then (k : Int) else so a.1 p k) from rfl] at hst
      show b_Model_spanOf_4 N (f_Model_spanOf_4 N fu) b _ _ _ _ = _
      unfold b_Model_spanOf_4 f_Model_spanOf_36 f_Model_spanOf_37
      simp only [m_rd, Option.bind_some, e10, ma_6 hin, ma_7 hin, hcl', e6, e7, ek]
      rw [if_neg (fun z => by have := (iI_le (by omega) (by omega) (by omega) (by omega)).mp z; omega)]
      simp (disch := omega) only [iI_lt, iI_le]
      by_cases c1 : (p : Int) < a.1.2 6 k
      · rw [if_pos c1]; rw [if_neg (by omega)] at hst; exact hst
      · rw [if_neg c1]
        by_cases c2 : a.1.2 7 k ≤ p
        · rw [if_pos c2]; rw [if_neg (by omega)] at hst; exact hst
        · rw [if_neg c2]; rw [if_pos (by omega)] at hst; exact hst
  have := loop (a.1.1 10).toNat N 0 (by omega) (by omega)
  rw [show iI (so a.1 p 0) = (-1 : Int32) from iI_m1.symm, show iI ((0 : Nat) : Int) = (0 : Int32) from iI_0.symm] at this
  exact this
theorem m_isInside (hN : 60 ≤ N) (hOK : aOK a) (hI : MI I J a) (hh : a.2.1 0 = 1) {p : Nat} (hp : p ≤ nn a.1) : f_Model_isInside N b (iI p) (MH h b I J) = some (b1 (decide (insd a p)), MH h b I J) := by
  obtain ⟨n1, n2, n3⟩ := nn_r hOK.1
  have hT := hOK.tf hh
  have e0 := hI.1.1.1
  have hno : ¬ insd a p → zrb (0 : Int32) (MH h b I J) = some (b1 (decide (insd a p)), MH h b I J) := fun z => by rw [decide_eq_false z]; rfl
  unfold f_Model_isInside
  by_cases c0 : p = 0
  · subst c0
    rw [if_pos (by decide)]; exact hno (by omega)
  · rw [if_neg (fun z => by rw [iI_0] at z; have := (iI_le (by omega) (by omega) (by omega) (by omega)).mp z; omega)]
    simp only [m_rd, Option.bind_some, e0]
    by_cases c1 : nn a.1 ≤ p
    · rw [if_pos ((iI_le (by omega) (by omega) (by omega) (by omega)).mpr (by omega))]; exact hno (by omega)
    · rw [if_neg (fun z => by have := (iI_le (by omega) (by omega) (by omega) (by omega)).mp z; omega)]
      have ep : iI (p : Int) - 1 = iI ((p - 1 : Nat) : Int) := by rw [iI_1, iI_sub]; congr 1; omega
      rw [ep]
      simp only [m_isSpanned (N := N) (b := b) (h := h) hN hOK hI hh (p := p - 1) (by omega), m_isSpanned (N := N) (b := b) (h := h) hN hOK hI hh (p := p) (by omega), zck_t, Option.bind_some, b1_0, decide_eq_false_iff_not, m_spanOf (N := N) (b := b) (h := h) hN hOK hI (p := p - 1) (by omega), m_spanOf (N := N) (b := b) (h := h) hN hOK hI (p := p) (by omega), m_rd]
      by_cases c2 : a.2.2 1 (p - 1) = -1
      · rw [if_pos (by omega)]; exact hno (by omega)
      · rw [if_neg (by omega)]
        by_cases c3 : a.2.2 1 p = -1
        · rw [if_pos (by omega)]; exact hno (by omega)
        · rw [if_neg (by omega)]
          obtain ⟨k, k1, k2, k3, k4⟩ := (hT.2.2.1 (p - 1) (by omega)).resolve_left c2
          obtain ⟨j, j1, j2, j3, j4⟩ := (hT.2.2.1 p (by omega)).resolve_left c3
          rw [so_eq hOK.1 k1 k3 k4 _ (by omega) (by omega), so_eq hOK.1 j1 j3 j4 _ (by omega) (by omega)]
          have hK := hOK.1.2.2.2.2.2.1
          simp (disch := omega) only [iI_eq]
          by_cases c4 : (k : Int) = j
          · rw [if_pos c4, decide_eq_true (show insd a p by omega)]; rfl
          · rw [if_neg c4]; exact hno (by omega)
theorem m_filled (hN : 60 ≤ N) (hOK : aOK a) (hI : MI I J a) (hh : a.2.1 0 = 1) {p : Nat} (hp : p ≤ nn a.1) : f_Model_filled N b (iI p) (MH h b I J) = some (iI (fl a p), MH h b I J) := by
  obtain ⟨n1, n2, n3⟩ := nn_r hOK.1
  obtain ⟨hin, hcl⟩ := p_in (p := (p : Int)) (n := 25) (by omega) (by omega) (by omega)
  have hcl' : (iI (p : Int)).toNatClampNeg = p := by rw [hcl]; rfl
  obtain ⟨hL, -, -⟩ := hI.2.2.1 hh
  unfold f_Model_filled
  simp only [m_isInside (N := N) (b := b) (h := h) hN hOK hI hh hp, zck_t, Option.bind_some, m_rd, ma_17 hin, ma_1 hin, hcl', hL p hp, (hI.1.2.1 p (by omega)).1, b1_0, decide_eq_false_iff_not]
  unfold fl
  by_cases c : insd a p
  · rw [if_neg (by simpa using c), if_pos c]; rfl
  · rw [if_pos c, if_neg c, iI_sub]
end MCURVE
