/-! the reference: order, told -/
def rkP (a : ast) (p q : Nat) : Bool := decide ((fl a p).natAbs < (fl a q).natAbs ∨ ((fl a q).natAbs = (fl a p).natAbs ∧ q < p))
/-- how many places stand before this one -/
def rk (a : ast) (p : Nat) : Nat := cnt (rkP a p) (nn a.1 + 1)
def fst1 (P : Nat → Bool) : Nat → Nat → Int
  | 0, _ => -1
  | d + 1, p => if P p = true then p else fst1 P d (p + 1)
def s_order (a : ast) (k : Int) : Int := if a.2.1 0 = 1 ∧ 0 ≤ k ∧ k ≤ a.1.1 0 then fst1 (fun p => decide ((rk a p : Int) = k)) (nn a.1 + 1) 0 else -1
def sumF (f : Nat → Int) : Nat → Int
  | 0 => 0
  | n + 1 => sumF f n + f n
def szF (a : ast) (p : Nat) : Int := if p = 0 then 0 else ((a.2.2 0 p - a.2.2 0 (p - 1)).natAbs : Int)
def cutF (a : ast) (p : Nat) : Int := if 0 ≤ fl a p then 0 else - fl a p
def filF (a : ast) (p : Nat) : Int := if fl a p ≤ 0 then 0 else fl a p
def setP (a : ast) (i p : Nat) : Bool := decide (a.1.2 i p ≠ -1)
def s_told (a : ast) (x : Int) : Int :=
  if x = 0 then a.1.1 10 else if x = 1 then (cnt (setP a 4) (nn a.1 + 1) : Nat) else if x = 2 then (cnt (setP a 5) (nn a.1 + 1) : Nat) else
  if a.2.1 0 = 0 then -1 else if x = 3 then a.2.1 1 else if x = 4 then sumF (szF a) (nn a.1 + 1) else if x = 5 then sumF (cutF a) (nn a.1 + 1) else
  if x = 6 then sumF (filF a) (nn a.1 + 1) else if x = 7 then (s_nc a : Nat) else -1
section MTOLD
variable {h : zH} {b : Nat} {I : Nat → Nat → Int32} {J : Nat → Nat → Int64} {a : ast} {N : Nat}
theorem m_order36 (hN : 60 ≤ N) (hOK : aOK a) (hI : MI I J a) (hh : a.2.1 0 = 1) {p : Nat} (hp : p ≤ nn a.1) {k : Int} (hk : rg k) {rc : Nat → Int32 → Int32 → zH → Option (Int32 × zH)} : ∀ (d fu q : Nat), q + d = nn a.1 + 1 → d < fu →
    f_Model_order_36 N rc fu b (iI k) (iI p) (iI (cnt (rkP a p) q)) (iI q) (MH h b I J) = if decide ((rk a p : Int) = k) = true then some (iI p, MH h b I J) else rc b (iI k) (iI ((p + 1 : Nat) : Int)) (MH h b I J) := by
  obtain ⟨n1, n2, n3⟩ := nn_r hOK.1
  obtain ⟨k1, k2⟩ := hk
  have e0 := hI.1.1.1
  intro d
  induction d with
  | zero =>
    intro fu q hd hf
    obtain ⟨fu, rfl⟩ : ∃ q, fu = q + 1 := ⟨fu - 1, by omega⟩
    show b_Model_order_36 N rc (f_Model_order_36 N rc fu) b _ _ _ _ _ = _
    unfold b_Model_order_36
    simp only [m_rd, Option.bind_some, e0]
    have hle : rk a p ≤ nn a.1 + 1 := cnt_le
    rw [if_pos ((iI_lt (by omega) (by omega) (by omega) (by omega)).mpr (by omega)), show q = nn a.1 + 1 by omega, show cnt (rkP a p) (nn a.1 + 1) = rk a p from rfl]
    have ep : iI (p : Int) + 1 = iI ((p + 1 : Nat) : Int) := by rw [iI_1, iI_add]; rfl
    simp (disch := omega) only [iI_eq, ep, decide_eq_true_eq]
  | succ d ih =>
    intro fu q hd hf
    obtain ⟨fu, rfl⟩ : ∃ q, fu = q + 1 := ⟨fu - 1, by omega⟩
    have hst := ih fu (q + 1) (by omega) (by omega)
    have eq1 : iI (q : Int) + 1 = iI ((q + 1 : Nat) : Int) := by rw [iI_1, iI_add]; rfl
    have r1 := fl_r hOK hh (q := q) (by omega)
    have r2 := fl_r hOK hh (q := p) (by omega)
    have hf1 := m_filled (N := N) (b := b) (h := h) hN hOK hI hh (p := q) (by omega)
    have hf2 := m_filled (N := N) (b := b) (h := h) hN hOK hI hh (p := p) (by omega)
    have hs1 : ∀ g : zH, f_Model_size N (iI (fl a q)) g = some (iI (fl a q).natAbs, g) := fun g => m_size (by omega) (by omega)
    have hs2 : ∀ g : zH, f_Model_size N (iI (fl a p)) g = some (iI (fl a p).natAbs, g) := fun g => m_size (by omega) (by omega)
    show b_Model_order_36 N rc (f_Model_order_36 N rc fu) b _ _ _ _ _ = _
    unfold b_Model_order_36 f_Model_order_91 f_Model_order_97 f_Model_order_98
    simp only [m_rd, Option.bind_some, e0, zck_t, hf1, hf2, hs1, hs2, eq1]
    rw [if_neg (fun z => by have := (iI_lt (by omega) (by omega) (by omega) (by omega)).mp z; omega)]
    simp (disch := omega) only [iI_lt, iI_eq, iI_le]
    have hyes : rkP a p q = true → cnt (rkP a p) (q + 1) = cnt (rkP a p) q + 1 := fun e => by show cnt _ q + (rkP a p q).toNat = _; rw [e]; rfl
    have hno : rkP a p q = false → cnt (rkP a p) (q + 1) = cnt (rkP a p) q := fun e => by show cnt _ q + (rkP a p q).toNat = _; rw [e]; rfl
    have ec : iI ((cnt (rkP a p) q : Nat) : Int) + 1 = iI ((cnt (rkP a p) q + 1 : Nat) : Int) := by rw [iI_1, iI_add]; rfl
    rw [ec]
    by_cases d1 : ((fl a p).natAbs : Int) < (fl a q).natAbs
    · rw [if_pos d1]; rw [hyes (decide_eq_true (by omega))] at hst; exact hst
    · rw [if_neg d1]
      by_cases d2 : ((fl a q).natAbs : Int) = (fl a p).natAbs
      · rw [if_pos d2]
        by_cases d3 : (p : Int) ≤ q
        · rw [if_pos d3]; rw [hno (decide_eq_false (by omega))] at hst; exact hst
        · rw [if_neg d3]; rw [hyes (decide_eq_true (by omega))] at hst; exact hst
      · rw [if_neg d2]; rw [hno (decide_eq_false (by omega))] at hst; exact hst
theorem m_order (hN : 60 ≤ N) (hOK : aOK a) (hI : MI I J a) {k : Int} (hk : rg k) : f_Model_order N b (iI k) (MH h b I J) = some (iI (s_order a k), MH h b I J) := by
  obtain ⟨n1, n2, n3⟩ := nn_r hOK.1
  have hk' := hk
  obtain ⟨k1, k2⟩ := hk'
  have e0 := hI.1.1.1
  have hhas := hOK.has
  unfold f_Model_order
  simp only [m_rd, Option.bind_some, e0, hI.2.1]
  simp (disch := omega) only [iI_ez, iI_lz, iI_le]
  have hbad : ¬ (a.2.1 0 = 1 ∧ 0 ≤ k ∧ k ≤ a.1.1 0) → some ((-1 : Int32), MH h b I J) = some (iI (s_order a k), MH h b I J) := fun z => by rw [show s_order a k = -1 from if_neg z, iI_m1]
  by_cases c0 : a.2.1 0 = 0
  · rw [if_pos c0]; exact hbad (by omega)
  rw [if_neg c0]
  by_cases c1 : k < 0
  · rw [if_pos c1]; exact hbad (by omega)
  rw [if_neg c1]
  by_cases c2 : k ≤ a.1.1 0
  rotate_left
  · rw [if_neg c2]; exact hbad (by omega)
  rw [if_pos c2, show s_order a k = _ from if_pos ⟨hhas.resolve_left c0, by omega, c2⟩]
  have loop : ∀ (d fu p : Nat), p + d = nn a.1 + 1 → d < fu → f_Model_order_23 N fu b (iI k) (iI p) (MH h b I J) = some (iI (fst1 (fun p => decide ((rk a p : Int) = k)) d p), MH h b I J) := by
    intro d
    induction d with
    | zero =>
      intro fu p hd hf
      obtain ⟨fu, rfl⟩ : ∃ q, fu = q + 1 := ⟨fu - 1, by omega⟩
      show b_Model_order_23 N (f_Model_order_23 N fu) b _ _ _ = _
      unfold b_Model_order_23
      simp only [m_rd, Option.bind_some, e0]
      rw [if_pos ((iI_lt (by omega) (by omega) (by omega) (by omega)).mpr (by omega)), iI_m1]; rfl
    | succ d ih =>
      intro fu p hd hf
      obtain ⟨fu, rfl⟩ : ∃ q, fu = q + 1 := ⟨fu - 1, by omega⟩
      show b_Model_order_23 N (f_Model_order_23 N fu) b _ _ _ = _
      unfold b_Model_order_23
      simp only [m_rd, Option.bind_some, e0]
      rw [if_neg (fun z => by have := (iI_lt (by omega) (by omega) (by omega) (by omega)).mp z; omega)]
      have := m_order36 (h := h) (b := b) (N := N) hN hOK hI (hhas.resolve_left c0) (p := p) (by omega) hk (rc := f_Model_order_23 N fu) (nn a.1 + 1) N 0 (by omega) (by omega)
      rw [show iI ((cnt (rkP a p) 0 : Nat) : Int) = (0 : Int32) from iI_0.symm, show iI ((0 : Nat) : Int) = (0 : Int32) from iI_0.symm] at this
      rw [this, ih fu (p + 1) (by omega) (by omega)]
      show _ = some (iI (if decide ((rk a p : Int) = k) = true then (p : Int) else fst1 (fun p => decide ((rk a p : Int) = k)) d (p + 1)), MH h b I J)
      by_cases e : decide ((rk a p : Int) = k) = true
      · rw [if_pos e, if_pos e]
      · rw [if_neg e, if_neg e]
  have := loop (nn a.1 + 1) N 0 (by omega) (by omega)
  rw [show iI ((0 : Nat) : Int) = (0 : Int32) from iI_0.symm] at this
  exact this
theorem m_told21 (hN : 60 ≤ N) (hOK : aOK a) (hI : MI I J a) {x : Int} (hx : 0 ≤ x ∧ x ≤ 2) : f_Model_told_21 N N b (iI x) (0 : Int32) (0 : Int32) (MH h b I J) = some (iI (s_told a x), MH h b I J) := by
  obtain ⟨n1, n2, n3⟩ := nn_r hOK.1
  have e0 := hI.1.1.1
  have e10 := hI.1.1.2.2.2.2.2
  have ex0 : iI x = 0 ↔ x = 0 := iI_ez (by omega) (by omega)
  have ex1 : iI x = (1 : Int32) ↔ x = 1 := by rw [iI_1]; exact iI_eq (by omega) (by omega) (by omega) (by omega)
  have loop : ∀ (d fu q : Nat), q + d = nn a.1 + 1 → d < fu → f_Model_told_21 N fu b (iI x) (iI (cnt (setP a (if x = 1 then 4 else 5)) q)) (iI q) (MH h b I J) = some (iI (s_told a x), MH h b I J) := by
    intro d
    induction d with
    | zero =>
      intro fu q hd hf
      obtain ⟨fu, rfl⟩ : ∃ q, fu = q + 1 := ⟨fu - 1, by omega⟩
      show b_Model_told_21 N (f_Model_told_21 N fu) b _ _ _ _ = _
      unfold b_Model_told_21
      simp only [m_rd, Option.bind_some, e0, e10, ex0]
      rw [if_pos ((iI_lt (by omega) (by omega) (by omega) (by omega)).mpr (by omega)), show q = nn a.1 + 1 by omega]
      unfold s_told
      by_cases c0 : x = 0
      · rw [if_pos c0, if_pos c0]
      · rw [if_neg c0, if_neg c0]
        by_cases c1 : x = 1
        · rw [if_pos c1, if_pos c1]
        · rw [if_neg c1, if_neg c1, if_pos (by omega)]
    | succ d ih =>
      intro fu q hd hf
      obtain ⟨fu, rfl⟩ : ∃ q, fu = q + 1 := ⟨fu - 1, by omega⟩
      have hst := ih fu (q + 1) (by omega) (by omega)
      have eq1 : iI (q : Int) + 1 = iI ((q + 1 : Nat) : Int) := by rw [iI_1, iI_add]; rfl
      obtain ⟨hin, hcl⟩ := p_in (p := (q : Int)) (n := 25) (by omega) (by omega) (by omega)
      have hcl' : (iI (q : Int)).toNatClampNeg = q := by rw [hcl]; rfl
      obtain ⟨-, -, -, f4, f5⟩ := hI.1.2.1 q (by omega)
      have hbnd := hOK.1.2.2.2.2.2.2.1 q (by omega)
      have hm := hOK.1.2.1
      show b_Model_told_21 N (f_Model_told_21 N fu) b _ _ _ _ = _
      unfold b_Model_told_21 f_Model_told_49 f_Model_told_60
      simp only [m_rd, Option.bind_some, e0, ex1, ma_4 hin, ma_5 hin, hcl', f4, f5, iI_m1, eq1]
      rw [if_neg (fun z => by have := (iI_lt (by omega) (by omega) (by omega) (by omega)).mp z; omega)]
      simp (disch := omega) only [iI_eq]
      generalize hj : (if x = 1 then 4 else 5 : Nat) = j at hst ⊢
      have ec : iI ((cnt (setP a j) q : Nat) : Int) + 1 = iI ((cnt (setP a j) q + 1 : Nat) : Int) := by rw [iI_1, iI_add]; rfl
      rw [ec]
      have key : (if a.1.2 j q = -1 then f_Model_told_21 N fu b (iI x) (iI ((cnt (setP a j) q : Nat) : Int)) (iI ((q + 1 : Nat) : Int)) (MH h b I J) else f_Model_told_21 N fu b (iI x) (iI ((cnt (setP a j) q + 1 : Nat) : Int)) (iI ((q + 1 : Nat) : Int)) (MH h b I J)) = some (iI (s_told a x), MH h b I J) := by
        rw [show cnt (setP a j) (q + 1) = cnt (setP a j) q + (decide (a.1.2 j q ≠ -1)).toNat from rfl] at hst
        by_cases c : a.1.2 j q = -1
        · rw [if_pos c]; rw [decide_eq_false (by omega)] at hst; exact hst
        · rw [if_neg c]; rw [decide_eq_true (by omega)] at hst; exact hst
      by_cases c1 : x = 1
      · rw [if_pos c1] at hj ⊢; subst hj; exact key
      · rw [if_neg c1] at hj ⊢; subst hj; exact key
  have := loop (nn a.1 + 1) N 0 (by omega) (by omega)
  rw [show iI ((0 : Nat) : Int) = (0 : Int32) from iI_0.symm, show iI ((cnt (setP a (if x = 1 then 4 else 5)) 0 : Nat) : Int) = (0 : Int32) from iI_0.symm] at this
  exact this
theorem m_told112 (hN : 60 ≤ N) (hOK : aOK a) (hI : MI I J a) (hh : a.2.1 0 = 1) {x : Int} (hx : 4 ≤ x ∧ x ≤ 6) : f_Model_told_112 N N b (iI x) (0 : Int32) (0 : Int32) (MH h b I J) = some (iI (sumF (if x = 4 then szF a else if x = 5 then cutF a else filF a) (nn a.1 + 1)), MH h b I J) := by
  obtain ⟨n1, n2, n3⟩ := nn_r hOK.1
  have e0 := hI.1.1.1
  have hm := hOK.1.2.1
  have ex4 : iI x = (4 : Int32) ↔ x = 4 := by rw [show (4 : Int32) = iI 4 by decide]; exact iI_eq (by omega) (by omega) (by omega) (by omega)
  have ex5 : iI x = (5 : Int32) ↔ x = 5 := by rw [show (5 : Int32) = iI 5 by decide]; exact iI_eq (by omega) (by omega) (by omega) (by omega)
  obtain ⟨hL, -, -⟩ := hI.2.2.1 hh
  generalize hF : (if x = 4 then szF a else if x = 5 then cutF a else filF a) = F
  have loop : ∀ (d fu q : Nat), q + d = nn a.1 + 1 → d < fu → f_Model_told_112 N fu b (iI x) (iI (sumF F q)) (iI q) (MH h b I J) = some (iI (sumF F (nn a.1 + 1)), MH h b I J) := by
    intro d
    induction d with
    | zero =>
      intro fu q hd hf
      obtain ⟨fu, rfl⟩ : ∃ q, fu = q + 1 := ⟨fu - 1, by omega⟩
      show b_Model_told_112 N (f_Model_told_112 N fu) b _ _ _ _ = _
      unfold b_Model_told_112
      simp only [m_rd, Option.bind_some, e0]
      rw [if_pos ((iI_lt (by omega) (by omega) (by omega) (by omega)).mpr (by omega)), show q = nn a.1 + 1 by omega]
    | succ d ih =>
      intro fu q hd hf
      obtain ⟨fu, rfl⟩ : ∃ q, fu = q + 1 := ⟨fu - 1, by omega⟩
      have hst := ih fu (q + 1) (by omega) (by omega)
      rw [show sumF F (q + 1) = sumF F q + F q from rfl, ← iI_add] at hst
      have eq1 : iI (q : Int) + 1 = iI ((q + 1 : Nat) : Int) := by rw [iI_1, iI_add]; rfl
      have r1 := fl_r hOK hh (q := q) (by omega)
      have hf1 := m_filled (N := N) (b := b) (h := h) hN hOK hI hh (p := q) (by omega)
      obtain ⟨hin, hcl⟩ := p_in (p := (q : Int)) (n := 25) (by omega) (by omega) (by omega)
      have hcl' : (iI (q : Int)).toNatClampNeg = q := by rw [hcl]; rfl
      show b_Model_told_112 N (f_Model_told_112 N fu) b _ _ _ _ = _
      unfold b_Model_told_112 f_Model_told_159 f_Model_told_181 f_Model_told_197 f_Model_told_198
      simp only [m_rd, Option.bind_some, e0, zck_t, hf1, ex4, ex5, eq1, ma_17 hin, hcl', hL q (by omega)]
      rw [if_neg (fun z => by have := (iI_lt (by omega) (by omega) (by omega) (by omega)).mp z; omega)]
      by_cases c4 : x = 4
      · rw [if_pos c4]
        rw [if_pos c4] at hF; subst hF
        by_cases c0 : q = 0
        · subst c0
          rw [if_pos (by decide)]; exact hst
        · rw [if_neg (fun z => by rw [iI_0] at z; have := (iI_le (by omega) (by omega) (by omega) (by omega)).mp z; omega)]
          have em : iI (q : Int) - 1 = iI ((q - 1 : Nat) : Int) := by rw [iI_1, iI_sub]; congr 1; omega
          obtain ⟨hinm, hclm⟩ := p_in (p := ((q - 1 : Nat) : Int)) (n := 25) (by omega) (by omega) (by omega)
          have hclm' : (iI ((q - 1 : Nat) : Int)).toNatClampNeg = q - 1 := by rw [hclm]; rfl
          have l0 := hOK.lv hh (q := q) (by omega)
          have lm := hOK.lv hh (q := q - 1) (by omega)
          have hs : ∀ g : zH, f_Model_size N (iI (a.2.2 0 q - a.2.2 0 (q - 1))) g = some (iI (a.2.2 0 q - a.2.2 0 (q - 1)).natAbs, g) := fun g => m_size (by omega) (by omega)
          simp only [em, ma_17 hinm, hclm', hL (q - 1) (by omega), Option.bind_some, iI_sub, hs]
          rw [show szF a q = ((a.2.2 0 q - a.2.2 0 (q - 1)).natAbs : Int) from if_neg c0] at hst
          exact hst
      · rw [if_neg c4]
        rw [if_neg c4] at hF
        by_cases c5 : x = 5
        · rw [if_pos c5]
          rw [if_pos c5] at hF; subst hF
          simp only [iI_neg, iI_0]
          simp (disch := omega) only [iI_le]
          rw [show cutF a q = if 0 ≤ fl a q then 0 else - fl a q from rfl] at hst
          by_cases c6 : 0 ≤ fl a q
          · rw [if_pos c6]; rw [if_pos c6] at hst; exact hst
          · rw [if_neg c6]; rw [if_neg c6] at hst; exact hst
        · rw [if_neg c5]
          rw [if_neg c5] at hF; subst hF
          simp only [iI_0]
          simp (disch := omega) only [iI_le]
          rw [show filF a q = if fl a q ≤ 0 then 0 else fl a q from rfl] at hst
          by_cases c6 : fl a q ≤ 0
          · rw [if_pos c6]; rw [if_pos c6] at hst; exact hst
          · rw [if_neg c6]; rw [if_neg c6] at hst; exact hst
  have := loop (nn a.1 + 1) N 0 (by omega) (by omega)
  rw [show iI ((0 : Nat) : Int) = (0 : Int32) from iI_0.symm, show iI (sumF F 0) = (0 : Int32) from iI_0.symm] at this
  exact this
theorem m_told (hN : 60 ≤ N) (hOK : aOK a) (hI : MI I J a) {x : Int} (hx : rg x) : f_Model_told N b (iI x) (MH h b I J) = some (iI (s_told a x), MH h b I J) := by
  obtain ⟨n1, n2, n3⟩ := nn_r hOK.1
  obtain ⟨x1, x2⟩ := hx
  have hhas := hOK.has
  unfold f_Model_told
  simp only [show (7 : Int32) = iI 7 by decide, show (3 : Int32) = iI 3 by decide]
  simp only [m_rd, Option.bind_some, hI.2.1, zck_t, m_curves (h := h) (b := b) (N := N) hN hOK hI]
  simp (disch := omega) only [iI_ez, iI_lz, iI_le, iI_eq]
  by_cases c1 : x < 0
  · rw [if_pos c1]
    unfold s_told
    rw [if_neg (by omega), if_neg (by omega), if_neg (by omega), iI_m1]
    split
    · rfl
    · rw [if_neg (by omega), if_neg (by omega), if_neg (by omega), if_neg (by omega), if_neg (by omega)]
  rw [if_neg c1]
  by_cases c2 : x ≤ 7
  rotate_left
  · rw [if_neg c2]
    unfold s_told
    rw [if_neg (by omega), if_neg (by omega), if_neg (by omega), iI_m1]
    split
    · rfl
    · rw [if_neg (by omega), if_neg (by omega), if_neg (by omega), if_neg (by omega), if_neg (by omega)]
  rw [if_pos c2]
  by_cases c3 : 3 ≤ x
  rotate_left
  · rw [if_neg c3]; exact m_told21 hN hOK hI (by omega)
  rw [if_pos c3]
  by_cases c0 : a.2.1 0 = 0
  · rw [if_pos c0]
    unfold s_told
    rw [if_neg (by omega), if_neg (by omega), if_neg (by omega), if_pos c0, iI_m1]
  rw [if_neg c0]
  have hh := hhas.resolve_left c0
  by_cases c4 : x = 3
  · rw [if_pos c4]
    unfold s_told
    rw [if_neg (by omega), if_neg (by omega), if_neg (by omega), if_neg c0, if_pos c4, (hI.2.2.1 hh).2.1]
  rw [if_neg c4]
  by_cases c5 : x = 7
  · rw [if_pos c5]
    unfold s_told
    rw [if_neg (by omega), if_neg (by omega), if_neg (by omega), if_neg c0, if_neg c4, if_neg (by omega), if_neg (by omega), if_neg (by omega), if_pos c5]
  rw [if_neg c5, m_told112 hN hOK hI hh (by omega)]
  unfold s_told
  rw [if_neg (show ¬ x = 0 by omega), if_neg (show ¬ x = 1 by omega), if_neg (show ¬ x = 2 by omega), if_neg c0, if_neg c4]
  by_cases c6 : x = 4
  · rw [if_pos c6, if_pos c6]
  · rw [if_neg c6, if_neg c6]
    by_cases c7 : x = 5
    · rw [if_pos c7, if_pos c7]
    · rw [if_neg c7, if_neg c7, if_pos (by omega)]
end MTOLD
