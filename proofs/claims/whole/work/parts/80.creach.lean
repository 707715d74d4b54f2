/-! the class: Reach, the slopes that lead to a level as bits -/
def bt (x : Int64) (i : Nat) : Bool := x.toBitVec.getLsbD i
theorem bt_or (x y : Int64) (i : Nat) : bt (x ||| y) i = (bt x i || bt y i) := by
  unfold bt
  rw [Int64.toBitVec_or, BitVec.getLsbD_or]
theorem bt_and (x y : Int64) (i : Nat) : bt (x &&& y) i = (bt x i && bt y i) := by
  unfold bt
  rw [Int64.toBitVec_and, BitVec.getLsbD_and]
theorem sh_a : ∀ n : Fin 64, (((iI ((n.val : Nat) : Int)).toInt64 &&& 63).toBitVec.smod 64) = BitVec.ofNat 64 n.val := by decide
theorem sh_b : ∀ n : Fin 64, (((iI ((n.val : Nat) : Int)).toInt64.toUInt64 &&& Int64.toUInt64 63).toBitVec % 64) = BitVec.ofNat 64 n.val := by decide
theorem bt_sl (x : Int64) {n : Nat} (hn : n < 64) (i : Nat) : bt (z_sl x (iI n)) i = (decide (i < 64) && (!decide (i < n) && bt x (i - n))) := by
  unfold bt z_sl
  rw [Int64.toBitVec_shiftLeft, sh_a ⟨n, hn⟩]
  rw [BitVec.shiftLeft_eq', BitVec.toNat_ofNat, Nat.mod_eq_of_lt (show n < 2 ^ 64 by omega), BitVec.getLsbD_shiftLeft]
  simp [Bool.and_assoc]
theorem bt_usl (x : Int64) {n : Nat} (hn : n < 64) (i : Nat) : bt (z_usl x (iI n)) i = bt x (i + n) := by
  unfold bt z_usl
  show (x.toUInt64 >>> ((iI (n : Int)).toInt64.toUInt64 &&& Int64.toUInt64 63)).toBitVec.getLsbD i = _
  rw [UInt64.toBitVec_shiftRight, sh_b ⟨n, hn⟩]
  rw [BitVec.ushiftRight_eq', BitVec.toNat_ofNat, Nat.mod_eq_of_lt (show n < 2 ^ 64 by omega), BitVec.getLsbD_ushiftRight, Nat.add_comm]
  rfl
theorem bt_ext {x y : Int64} (h : ∀ i, i < 64 → bt x i = bt y i) : x = y := by
  apply Int64.toBitVec_inj.mp
  exact BitVec.eq_of_getLsbD_eq (fun i hi => h i hi)
theorem bt_0 (i : Nat) : bt 0 i = false := by
  unfold bt
  rw [show (0 : Int64).toBitVec = 0#64 from rfl, BitVec.getLsbD_zero]
theorem bt_m1 {i : Nat} (hi : i < 64) : bt (-1) i = true := by
  unfold bt
  rw [show (-1 : Int64).toBitVec = BitVec.allOnes 64 from rfl, BitVec.getLsbD_allOnes]
  simpa using hi
theorem bt_one {n : Nat} (hn : n < 64) (i : Nat) : bt (z_sl 1 (iI n)) i = decide (i = n) := by
  rw [bt_sl _ hn]
  by_cases e : i = n
  · subst e
    simp [hn]; decide
  · by_cases h2 : i < n
    · simp [h2, e]
    · have : bt 1 (i - n) = false := by
        unfold bt
        rw [show (1 : Int64).toBitVec = 1#64 from rfl, BitVec.getLsbD_one]
        simp; omega
      simp [this, e]
theorem bt_hit {x : Int64} {n : Nat} (hn : n < 64) : x &&& z_sl 1 (iI n) = 0 ↔ bt x n = false := by
  constructor
  · intro h
    have := bt_and x (z_sl 1 (iI n)) n
    rw [h, bt_0, bt_one hn] at this
    simpa using this.symm
  · intro h
    apply bt_ext
    intro i hi
    rw [bt_and, bt_one hn, bt_0]
    by_cases e : i = n
    · subst e; simp [h]
    · simp [e]

theorem lg_0 {x : Int64} : lg_cmp x 0 = 0 ↔ x = 0 := by
  have e : x = iJ x.toInt := (Int64.ofInt_toInt x).symm
  have h1 := Int64.le_toInt x
  have h2 := Int64.toInt_lt x
  rw [iJ_0, e]
  rw [lgc_0 (by omega) (by omega) (by omega) (by omega)]
  constructor
  · intro h; rw [h]
  · intro h
    have := congrArg Int64.toInt h
    rw [iJ_t (by omega) (by omega), iJ_t (by omega) (by omega)] at this
    exact this
theorem b1_or (a d : Bool) : b1 a ||| b1 d = b1 (a || d) := by cases a <;> cases d <;> decide
/-- the bits near those of B -/
def Wd (c : cfg) (B : Int64) (i : Nat) : Prop := ∃ j : Nat, j < 64 ∧ bt B j = true ∧ ((((i : Int) - j).natAbs : Nat) : Int) ≤ c.1 8
def hx (x : cx) : Nat := if x.2.2.1 = true then 14 else 13
def tx (x : cx) : Nat := if x.2.2.1 = true then 13 else 14
theorem rC_ne {s s' : Bool} {i k : Nat} (h : i ≠ 12) : rC s i k = rC s' i k := by
  unfold rC
  split <;> first | rfl | (exact absurd rfl h) | skip
theorem rC_sw (s : Bool) : u2 (u2 (rC s) 12 1 (if s = true then 13 else 14)) 12 2 (if s = true then 14 else 13) = rC (!s) := by
  funext i k
  by_cases e : i = 12
  · subst e
    by_cases e2 : k = 2
    · subst e2
      rw [u2_s]
      cases s <;> rfl
    · rw [u2_n (Or.inr e2)]
      by_cases e1 : k = 1
      · subst e1
        rw [u2_s]
        cases s <;> rfl
      · rw [u2_n (Or.inr e1)]
        match k, e1, e2 with
        | 0, _, _ => rfl
        | 1, e1, _ => exact absurd rfl e1
        | 2, _, e2 => exact absurd rfl e2
        | k + 3, _, _ => rfl
  · rw [u2_n (Or.inl e), u2_n (Or.inl e)]
    exact rC_ne e
section CREACH
variable {h : zH} {b : Nat} {x : cx} {I : Nat → Nat → Int32} {J : Nat → Nat → Int64} {c : cfg} {N : Nat}
theorem cr_rd : zgR (CH h b x I J) (b + 12) 4 1 = some (b + hx x) ∧ zgR (CH h b x I J) (b + 12) 4 2 = some (b + tx x) := by
  unfold hx tx
  simp only [c_rd, and_self]
theorem hx_2 : hx x = 13 ∧ tx x = 14 ∨ hx x = 14 ∧ tx x = 13 := by
  unfold hx tx
  by_cases e : x.2.2.1 = true
  · rw [if_pos e, if_pos e]; exact Or.inr ⟨rfl, rfl⟩
  · rw [if_neg e, if_neg e]; exact Or.inl ⟨rfl, rfl⟩
theorem hx_e : (if x.2.2.1 = true then 14 else 13) = hx x := rfl
theorem tx_e : (if x.2.2.1 = true then 13 else 14) = tx x := rfl
theorem hx_ne {a : Nat} (h1 : a ≠ 13) (h2 : a ≠ 14) : a ≠ hx x ∧ a ≠ tx x := by
  have := hx_2 (x := x)
  omega
theorem hx_or : (hx x = 13 ∨ hx x = 14) ∧ (tx x = 13 ∨ tx x = 14) ∧ hx x ≠ tx x := by
  have := hx_2 (x := x)
  omega
theorem ca_b {i : Nat} (hi : i = 13 ∨ i = 14) {v : Int32} (hv : vp_in v (x.2.1 + 1)) : zaJ (CH h b x I J) 1 (b + i) v = some (J i v.toNatClampNeg) := by
  rcases hi with rfl | rfl
  · exact ca_13 hv
  · exact ca_14 hv
theorem cs_b {i : Nat} (hi : i = 13 ∨ i = 14) {v : Int32} {w : Int64} (hv : vp_in v (x.2.1 + 1)) : zsJ (CH h b x I J) 1 (b + i) v w = some (CH h b x I (u2 J i v.toNatClampNeg w)) := by
  rcases hi with rfl | rfl
  · exact cs_13 hv
  · exact cs_14 hv
theorem cl_b {i : Nat} (hi : i = 13 ∨ i = 14) : zlen (CH h b x I J) 1 (b + i) = some (Int32.ofNat (x.2.1 + 1)) := by
  rcases hi with rfl | rfl
  · exact cl_13
  · exact cl_14
theorem CC.sameJ {J' : Nat → Nat → Int64} (hC : CC I J x c) (e : ∀ a q, a ≠ 13 → a ≠ 14 → J' a q = J a q) : CC I J' x c := hC.same ⟨rfl, rfl⟩ (fun _ _ _ _ => rfl) (fun q => e 11 q (by omega) (by omega))
theorem c_start (hc : cOK c) (hC : CC I J x c) (hN : 60 ≤ N) : ∃ J' r, (∀ a q, a ≠ hx x → J' a q = J a q) ∧ (∀ l : Nat, l ≤ mm c → J' (hx x) l = if c_al c 0 l = true then -1 else 0) ∧ (r = true ↔ ∃ l : Nat, l ≤ mm c ∧ c_al c 0 l = true) ∧ f_Reach_start N (b + 12) (CH h b x I J) = some (b1 r, CH h b x I J') := by
  have hm := mm_r hc
  have hn := nn_r hc
  have h2 := hx_2 (x := x)
  have loop : ∀ (d fu z : Nat) (J : Nat → Nat → Int64) (r : Bool), z + d = mm c + 1 → d < fu → CC I J x c → (∀ l : Nat, l < z → J (hx x) l = if c_al c 0 l = true then -1 else 0) → (r = true ↔ ∃ l : Nat, l < z ∧ c_al c 0 l = true) → ∃ J' r', (∀ a q, a ≠ hx x → J' a q = J a q) ∧ (∀ l : Nat, l ≤ mm c → J' (hx x) l = if c_al c 0 l = true then -1 else 0) ∧ (r' = true ↔ ∃ l : Nat, l ≤ mm c ∧ c_al c 0 l = true) ∧ f_Reach_start_4 N fu (b + 12) (b1 r) (iI z) (CH h b x I J) = some (b1 r', CH h b x I J') := by
    intro d
    induction d with
    | zero =>
      intro fu z J r hd hf hC hJ hr
      obtain ⟨fu, rfl⟩ : ∃ q, fu = q + 1 := ⟨fu - 1, by omega⟩
      refine ⟨J, r, fun _ _ _ => rfl, fun l hl => hJ l (by omega), by rw [hr]; exact ⟨fun ⟨l, l1, l2⟩ => ⟨l, by omega, l2⟩, fun ⟨l, l1, l2⟩ => ⟨l, by omega, l2⟩⟩, ?_⟩
      show b_Reach_start_4 N (f_Reach_start_4 N fu) (b + 12) _ _ _ = _
      unfold b_Reach_start_4
      simp only [c_rd, Option.bind_some, hC.2.1.2.1]
      rw [if_pos ((iI_lt (by omega) (by omega) (by omega) (by omega)).mpr (by omega)), zrb_b]
    | succ d ih =>
      intro fu z J r hd hf hC hJ hr
      obtain ⟨fu, rfl⟩ : ∃ q, fu = q + 1 := ⟨fu - 1, by omega⟩
      have ez : iI (z : Int) + 1 = iI ((z + 1 : Nat) : Int) := by rw [iI_1, iI_add]; rfl
      obtain ⟨hin, hcl⟩ := nat_in (p := z) (n := x.2.1 + 1) (by rw [hC.1.2]; omega) (by rw [hC.1.2]; omega)
      have hal : f_Site_allows N (b + 1) (0 : Int32) (iI z) (CH h b x I J) = some (b1 (c_al c 0 z), CH h b x I J) := c_allows (N := N) hc hC (p := 0) (l := (z : Int)) (by omega) ⟨by omega, by omega⟩
      obtain ⟨v, hv⟩ : ∃ v : Int64, v = if c_al c 0 z = true then -1 else 0 := ⟨_, rfl⟩
      have hC1 : CC I (u2 J (hx x) z v) x c := hC.sameJ (fun a q a1 a2 => u2_n (Or.inl (hx_ne a1 a2).1))
      obtain ⟨J', r', g1, g2, g3, g4⟩ := ih fu (z + 1) (u2 J (hx x) z v) (r || c_al c 0 z) (by omega) (by omega) hC1 (fun l hl => by
        by_cases e : l = z
        · subst e; rw [u2_s]; exact hv
        · rw [u2_n (Or.inr e)]; exact hJ l (by omega)) (by
        rw [Bool.or_eq_true_iff, hr]
        constructor
        · rintro (⟨l, l1, l2⟩ | q)
          · exact ⟨l, by omega, l2⟩
          · exact ⟨z, by omega, q⟩
        · rintro ⟨l, l1, l2⟩
          by_cases e : l = z
          · subst e; exact Or.inr l2
          · exact Or.inl ⟨l, by omega, l2⟩)
      refine ⟨J', r', fun a q ha => (g1 a q ha).trans (u2_n (Or.inl ha)), g2, g3, ?_⟩
      show b_Reach_start_4 N (f_Reach_start_4 N fu) (b + 12) _ _ _ = _
      unfold b_Reach_start_4 f_Reach_start_41
      simp only [c_rd, hx_e, Option.bind_some, hC.2.1.2.1, zck_t, hal, cs_b hx_or.1 hin, hcl, b1_or, ez, b1_0]
      rw [if_neg (fun q => by have := (iI_lt (by omega) (by omega) (by omega) (by omega)).mp q; omega)]
      by_cases e : c_al c 0 z = true
      · rw [if_neg (by rw [e]; decide)]
        rw [if_pos e] at hv
        rw [hv] at g4
        exact g4
      · rw [if_pos ((Bool.not_eq_true _).mp e)]
        rw [if_neg e] at hv
        rw [hv] at g4
        exact g4
  have := loop (mm c + 1) N 0 J false (by omega) (by omega) hC (fun l hl => by omega) ⟨fun q => absurd q (by decide), fun ⟨l, l1, _⟩ => by omega⟩
  rw [show iI ((0 : Nat) : Int) = (0 : Int32) from iI_0.symm] at this
  exact this
theorem c_widened (hc : cOK c) (hC : CC I J x c) (hN : 60 ≤ N) {B : Int64} : ∃ W, (∀ i, i < 64 → (bt W i = true ↔ Wd c B i)) ∧ f_Reach_widened N (b + 12) B (CH h b x I J) = some (W, CH h b x I J) := by
  have h8 := hc.2.2.2.1
  have loop : ∀ (d fu z : Nat) (A : Int64), (z : Int) + d = c.1 8 + 1 → 1 ≤ z → d < fu → (∀ i, i < 64 → (bt A i = true ↔ ∃ j : Nat, j < 64 ∧ bt B j = true ∧ ((i : Int) - j).natAbs < z)) → ∃ W, (∀ i, i < 64 → (bt W i = true ↔ Wd c B i)) ∧ f_Reach_widened_5 N fu (b + 12) B A (iI z) (CH h b x I J) = some (W, CH h b x I J) := by
    intro d
    induction d with
    | zero =>
      intro fu z A hd hz1 hf hA
      obtain ⟨fu, rfl⟩ : ∃ q, fu = q + 1 := ⟨fu - 1, by omega⟩
      refine ⟨A, fun i hi => ?_, ?_⟩
      · rw [hA i hi]
        exact ⟨fun ⟨j, j1, j2, j3⟩ => ⟨j, j1, j2, by omega⟩, fun ⟨j, j1, j2, j3⟩ => ⟨j, j1, j2, by omega⟩⟩
      · show b_Reach_widened_5 N (f_Reach_widened_5 N fu) (b + 12) _ _ _ _ = _
        unfold b_Reach_widened_5
        simp only [c_rd, Option.bind_some, hC.2.1.2.2.2.1]
        rw [if_pos ((iI_lt (by omega) (by omega) (by omega) (by omega)).mpr (by omega))]
    | succ d ih =>
      intro fu z A hd hz1 hf hA
      obtain ⟨fu, rfl⟩ : ∃ q, fu = q + 1 := ⟨fu - 1, by omega⟩
      have ez : iI (z : Int) + 1 = iI ((z + 1 : Nat) : Int) := by rw [iI_1, iI_add]; rfl
      obtain ⟨W, g1, g2⟩ := ih fu (z + 1) (A ||| (z_sl B (iI z) ||| z_usl B (iI z))) (by omega) (by omega) (by omega) (fun i hi => by
        rw [bt_or, bt_or, bt_sl _ (by omega), bt_usl _ (by omega), Bool.or_eq_true_iff, Bool.or_eq_true_iff, hA i hi]
        constructor
        · rintro (⟨j, j1, j2, j3⟩ | q | q)
          · exact ⟨j, j1, j2, by omega⟩
          · simp at q
            exact ⟨i - z, by omega, q.2.2, by omega⟩
          · have : i + z < 64 := by
              rcases Nat.lt_or_ge (i + z) 64 with w | w
              · exact w
              · unfold bt at q
                rw [BitVec.getLsbD_of_ge _ _ w] at q
                exact absurd q (by decide)
            exact ⟨i + z, this, q, by omega⟩
        · rintro ⟨j, j1, j2, j3⟩
          by_cases e : ((i : Int) - j).natAbs < z
          · exact Or.inl ⟨j, j1, j2, e⟩
          · by_cases e2 : j ≤ i
            · refine Or.inr (Or.inl ?_)
              rw [show i - z = j by omega, j2]
              simp
              omega
            · refine Or.inr (Or.inr ?_)
              rw [show i + z = j by omega]; exact j2)
      refine ⟨W, g1, ?_⟩
      show b_Reach_widened_5 N (f_Reach_widened_5 N fu) (b + 12) _ _ _ _ = _
      unfold b_Reach_widened_5
      simp only [c_rd, Option.bind_some, hC.2.1.2.2.2.1, ez]
      rw [if_neg (fun q => by have := (iI_lt (by omega) (by omega) (by omega) (by omega)).mp q; omega)]
      exact g2
  have := loop (c.1 8).toNat N 1 B (by omega) (by omega) (by omega) (fun i hi => ⟨fun q => ⟨i, hi, q, by omega⟩, fun ⟨j, j1, j2, j3⟩ => by rw [show i = j by omega]; exact j2⟩)
  rw [show iI ((1 : Nat) : Int) = (1 : Int32) from iI_1.symm] at this
  exact this
theorem c_canStep (hc : cOK c) (hC : CC I J x c) {p l u : Nat} (hp : p < nn c) (hl : l ≤ mm c) (hu : u ≤ mm c) : f_Reach_canStep N (b + 12) (iI p) (iI l) (iI u) (CH h b x I J) = some (b1 (c_fit c ((u : Int) - l) && c_al c (p + 1) u), CH h b x I J) := by
  have hm := mm_r hc
  have ep : iI (p : Int) + 1 = iI ((p + 1 : Nat) : Int) := by rw [iI_1, iI_add]; rfl
  unfold f_Reach_canStep
  simp only [c_rd, Option.bind_some, zck_t, iI_sub, c_slopeFits (N := N) (h := h) (b := b) hc hC (s := (u : Int) - l) (by omega) (by omega), ep, c_allows (N := N) (h := h) (b := b) hc hC (p := p + 1) (l := (u : Int)) (by omega) ⟨by omega, by omega⟩, b1_0]
  by_cases e1 : c_fit c ((u : Int) - l) = true
  · rw [if_neg (by rw [e1]; decide), e1, Bool.true_and]
    by_cases e2 : c_al c (p + 1) u = true
    · rw [if_neg (by rw [e2]; decide), e2]; rfl
    · rw [if_pos ((Bool.not_eq_true _).mp e2), (Bool.not_eq_true _).mp e2]; rfl
  · rw [if_pos ((Bool.not_eq_true _).mp e1), (Bool.not_eq_true _).mp e1]; rfl
end CREACH
