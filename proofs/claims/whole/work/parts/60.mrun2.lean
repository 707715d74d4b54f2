/-! a table is there when the last place can be reached; the reference: run, move -/
section REACH
variable {c : cfg}
theorem Fr_back : ∀ (p : Nat) (l g : Int), Fr c p l g → p ≤ nn c → (∃ y, SV c 1024 1 p l g y) → ∃ v l, 0 ≤ l ∧ l < c.1 1 + 1 ∧ V0 c l v := by
  intro p
  induction p with
  | zero =>
    rintro l g ⟨h1, rfl⟩ - ⟨y, hy⟩
    have := c_ok_r h1
    exact ⟨_, l, by omega, by omega, h1, y, hy, rfl⟩
  | succ p ih =>
    rintro l g ⟨l0, g0, s, h1, h2, h3, h4, h5⟩ hp ⟨y, hy⟩
    subst h3; subst h4
    exact ih l0 g0 h1 (by omega) ⟨_, (SV_s (by omega)).mpr ⟨s, h2, Or.inl ⟨h5, y, hy, rfl⟩⟩⟩
theorem c_fol_self (hc : cOK c) {s g : Int} (h : c_fol c s g = true) : c_fol c s (s + 24) = true := by
  have h8 := hc.2.2.2.1
  unfold c_fol at h ⊢
  have := of_decide_eq_true h
  exact decide_eq_true ⟨this.1, this.2.1, Or.inr (by omega)⟩
theorem Fr_on (hc : cOK c) : ∀ (d p : Nat) (l g y : Int), nn c ≤ p + d → Fr c p l g → SV c 1024 1 p l g y → ∀ q, p ≤ q → q ≤ nn c → ∃ l g, Fr c q l g := by
  intro d
  induction d with
  | zero => intro p l g y h1 h2 h3 q h4 h5; exact ⟨l, g, by rw [show q = p by omega]; exact h2⟩
  | succ d ih =>
    intro p l g y h1 h2 h3 q h4 h5
    by_cases hq : q = p
    · subst hq; exact ⟨l, g, h2⟩
    · rw [SV_s (by omega)] at h3
      obtain ⟨s, hs, ⟨ho, y', hy', -⟩ | ⟨k, hk, hu, y', hy', -⟩⟩ := h3
      · exact ih (p + 1) (l + s) (s + 24) y' (by omega) ⟨l, g, s, h2, hs, rfl, rfl, ho⟩ hy' q (by omega) h5
      · obtain ⟨hk1, hk2, hk3⟩ := id hk
        obtain ⟨⟨r1, r2, r3⟩, -⟩ := hc.2.2.2.2.2.2.2.1 k hk1
        have walk : ∀ j : Nat, (j : Int) < c.2 7 k - p → Fr c (p + (j + 1)) (l + s * ((j : Int) + 1)) (s + 24) := by
          intro j
          have hok : (j : Int) < c.2 7 k - p → c_ok c (p + (j + 1)) (l + s * ((j : Int) + 1)) = true := by
            intro hj
            have hu1 := List.all_eq_true.mp (by rw [c_use_eq] at hu; exact hu) j (List.mem_range.mpr (by omega))
            have hu2 := (Bool.and_eq_true_iff.mp hu1).1
            rw [show (c.2 6 k).toNat = p by omega] at hu2
            exact hu2
          induction j with
          | zero => intro hj; exact ⟨l, g, s, h2, hs, by simp, rfl, hok hj⟩
          | succ j ihj =>
            intro hj
            refine ⟨_, _, s, ihj (fun hj' => ?_) (by omega), c_fol_self hc hs, ?_, rfl, hok hj⟩
            · have hu1 := List.all_eq_true.mp (by rw [c_use_eq] at hu; exact hu) j (List.mem_range.mpr (by omega))
              have hu2 := (Bool.and_eq_true_iff.mp hu1).1
              rw [show (c.2 6 k).toNat = p by omega] at hu2
              exact hu2
            · rw [show (((j + 1 : Nat) : Int) + 1) = ((j : Int) + 1) + 1 by omega, Int.mul_add, Int.mul_one, Int.add_assoc]
        by_cases hle : (q : Int) ≤ c.2 7 k
        · have := walk (q - p - 1) (by omega)
          rw [show p + (q - p - 1 + 1) = q by omega] at this
          exact ⟨_, _, this⟩
        · have := walk ((c.2 7 k).toNat - p - 1) (by omega)
          rw [show p + ((c.2 7 k).toNat - p - 1 + 1) = (c.2 7 k).toNat by omega, show (((c.2 7 k).toNat - p - 1 : Nat) : Int) + 1 = c.2 7 k - p by omega, Int.mul_comm] at this
          exact ih _ _ _ y' (by omega) this hy' q (by omega) h5
theorem Bar_neg (hc : cOK c) : Bar c (-1) ↔ ∃ v l, 0 ≤ l ∧ l < c.1 1 + 1 ∧ V0 c l v := by
  constructor
  · rintro (⟨-, h⟩ | ⟨q, h, -⟩)
    · obtain ⟨l, g, hf⟩ := h (nn c) (Nat.le_refl _)
      exact Fr_back _ _ _ hf (Nat.le_refl _) ⟨0, (SV_n (Nat.le_refl _)).mpr rfl⟩
    · omega
  · rintro ⟨v, l, h1, h2, ho, y, hy, -⟩
    exact Or.inl ⟨rfl, fun q hq => Fr_on hc (nn c) 0 l 49 y (by omega) ⟨ho, rfl⟩ hy q (by omega) hq⟩
end REACH
def SameC (I : Nat → Nat → Int32) (J : Nat → Nat → Int64) (I' : Nat → Nat → Int32) (J' : Nat → Nat → Int64) : Prop := (∀ k, k ≤ 10 → I' 0 k = I 0 k) ∧ (∀ i k, 1 ≤ i → i ≤ 8 → I' i k = I i k) ∧ ∀ k, J' 9 k = J 9 k
theorem MC.sameC {I I' : Nat → Nat → Int32} {J J' : Nat → Nat → Int64} {c : cfg} (h : MC I J c) (hS : SameC I J I' J') : MC I' J' c := by
  obtain ⟨⟨a1, a2, a3, a4, a5, a6⟩, hb, hk⟩ := h
  obtain ⟨s1, s2, s3⟩ := hS
  refine ⟨⟨?_, ?_, ?_, ?_, ?_, ?_⟩, fun p hp => ?_, fun k hkk => ?_⟩
  · rw [s1 0 (by omega)]; exact a1
  · rw [s1 1 (by omega)]; exact a2
  · rw [s1 7 (by omega)]; exact a3
  · rw [s1 8 (by omega)]; exact a4
  · rw [s1 9 (by omega)]; exact a5
  · rw [s1 10 (by omega)]; exact a6
  · rw [s2 1 p (by omega) (by omega), s2 2 p (by omega) (by omega), s2 3 p (by omega) (by omega), s2 4 p (by omega) (by omega), s2 5 p (by omega) (by omega)]; exact hb p hp
  · rw [s2 6 k (by omega) (by omega), s2 7 k (by omega) (by omega), s2 8 k (by omega) (by omega), s3]; exact hk k hkk
/-- how many of the first n bits are set -/
def popc (u : Nat) : Nat → Nat
  | 0 => 0
  | n + 1 => popc u n + (u.testBit n).toNat
theorem popc_le {u n : Nat} : popc u n ≤ n := by
  induction n with
  | zero => exact Nat.le_refl _
  | succ n ih =>
    show popc u n + (u.testBit n).toNat ≤ n + 1
    have : (u.testBit n).toNat ≤ 1 := Bool.toNat_le _
    omega
theorem b1_n (x : Bool) : b1 x = iI (x.toNat : Int) := by cases x <;> decide
section MRUN2
variable {h : zH} {b : Nat} {I : Nat → Nat → Int32} {J : Nat → Nat → Int64} {c : cfg} {N : Nat}
theorem m_usedSpans (hc : cOK c) (hM : MC I J c) (hN : 60 ≤ N) {u : Nat} (hu : I 0 26 = iI u) (hu2 : u < 64) : f_Model_usedSpans N b (MH h b I J) = some (iI (popc u (c.1 10).toNat), MH h b I J) := by
  have hK := hc.2.2.2.2.2.1
  have loop : ∀ (d fu k : Nat), k + d = (c.1 10).toNat → d < fu → f_Model_usedSpans_4 N fu b (iI (popc u k)) (iI k) (MH h b I J) = some (iI (popc u (c.1 10).toNat), MH h b I J) := by
    intro d
    induction d with
    | zero =>
      intro fu k hd hf
      obtain ⟨fu, rfl⟩ : ∃ q, fu = q + 1 := ⟨fu - 1, by omega⟩
      show b_Model_usedSpans_4 N (f_Model_usedSpans_4 N fu) b _ _ _ = _
      unfold b_Model_usedSpans_4
      simp only [m_rd, Option.bind_some, hM.1.2.2.2.2.2]
      rw [if_pos ((iI_le (by omega) (by omega) (by omega) (by omega)).mpr (by omega)), show k = (c.1 10).toNat by omega]
    | succ d ih =>
      intro fu k hd hf
      obtain ⟨fu, rfl⟩ : ∃ q, fu = q + 1 := ⟨fu - 1, by omega⟩
      show b_Model_usedSpans_4 N (f_Model_usedSpans_4 N fu) b _ _ _ = _
      unfold b_Model_usedSpans_4
      simp only [m_rd, Option.bind_some, hM.1.2.2.2.2.2, hu]
      rw [if_neg (fun z => by have := (iI_le (by omega) (by omega) (by omega) (by omega)).mp z; omega), bit_at ⟨u, hu2⟩ ⟨k, by omega⟩, b1_n, iI_add, iI_1, iI_add]
      exact ih fu (k + 1) (by omega) (by omega)
  have := loop (c.1 10).toNat N 0 (by omega) (by omega)
  unfold f_Model_usedSpans
  rw [show iI ((popc u 0 : Nat) : Int) = (0 : Int32) from iI_0.symm, show iI ((0 : Nat) : Int) = (0 : Int32) from iI_0.symm] at this
  exact this
end MRUN2
/-- a table is found -/
def withT (a : ast) (L K : Nat → Int) (uf : Nat) (cost : Int) : ast := (a.1, u1 (u1 (u1 a.2.1 0 1) 1 uf) 2 cost, fun i p => if i = 0 then L p else if i = 1 then K p else if i = 2 then 0 else a.2.2 i p)
theorem withT_ok {a : ast} {c : cfg} {L K : Nat → Int} {uf : Nat} {cost : Int} (h : aOK a) (hc : cOK c) (hT : Tab c L K uf cost) : aOK (withT (c, a.2) L K uf cost) := by
  obtain ⟨-, -, h3, -⟩ := h
  refine ⟨hc, Or.inr ⟨rfl, hT, Int.natCast_nonneg uf⟩, fun i a1 a2 => ?_, fun p => ⟨by show (0 : Int) ≤ 0 ∧ (0 : Int) ≤ 1000; omega, fun _ => rfl⟩⟩
  show 0 ≤ (if i = 2 then cost else if i = 1 then (uf : Int) else if i = 0 then 1 else a.2.1 i) ∧ (if i = 2 then cost else if i = 1 then (uf : Int) else if i = 0 then 1 else a.2.1 i) ≤ 1000
  rw [if_neg (by omega), if_neg (by omega), if_neg (by omega)]; exact h3 i a1 a2
def RunR (a a' : ast) (r : Int) : Prop := (∃ z, Bar a.1 z ∧ 0 ≤ z ∧ r = -1 - z ∧ a' = forg a) ∨ (Bar a.1 (-1) ∧ ∃ L K uf cost, Tab a.1 L K uf cost ∧ r = (popc uf (a.1.1 10).toNat : Nat) ∧ a' = withT a L K uf cost)
theorem RunR.ok {a a' : ast} {r : Int} (h : aOK a) (hr : RunR a a' r) : aOK a' := by
  rcases hr with ⟨z, -, -, -, rfl⟩ | ⟨-, L, K, uf, cost, hT, -, rfl⟩
  · exact forg_ok (c := a.1) h h.1
  · exact withT_ok (c := a.1) h h.1 hT
section MRUN3
variable {h : zH} {b : Nat} {I : Nat → Nat → Int32} {J : Nat → Nat → Int64} {a : ast} {N : Nat}
theorem TF.u64 {c : cfg} (hc : cOK c) {L K : Nat → Int} {uf : Nat} {cost : Int} (h : TF c L K uf cost) : uf < 64 := by
  have hK := hc.2.2.2.2.2.1
  exact Nat.lt_of_lt_of_le h.2.2.2.2.2.1 (show 2 ^ (c.1 10).toNat ≤ 2 ^ 6 from Nat.pow_le_pow_right (by omega) (by omega))
theorem m_run (hN : 2000 ≤ N) (hOK : aOK a) (hI : MI I J a) : ∃ I' J' a' r, RunR a a' r ∧ MI I' J' a' ∧ f_Model_run N b (MH h b I J) = some (iI r, MH h b I' J') := by
  obtain ⟨hM, h24, h1, h4, h18, h19⟩ := hI
  have hc := hOK.1
  obtain ⟨n1, n2, n3⟩ := nn_r hc
  obtain ⟨I1, hI1, -, hgo1⟩ := m_forget (h := h) (b := b) (N := N) (a := a) (by omega) hM h4
  have hM1 : MC I1 J a.1 := hI1.1
  obtain ⟨I2, r, hS2, hr, hgo2⟩ := m_barred (h := h) (b := b) (N := N) hc hN hM1
  have hM2 := hM1.sameB hS2
  have hrr := hr.r
  unfold f_Model_run
  simp only [m_rd, zck_t, hgo1, hgo2, Option.bind_some]
  by_cases hneg : r < 0
  · rw [if_pos ((iI_lz (by omega) (by omega)).mpr hneg)]
    have hr1 : r = -1 := by omega
    subst hr1
    obtain ⟨I3, J3, o, f, hS3, hT3, hD3, hF3, -, hgo3⟩ := m_search (h := h) (b := b) (N := N) hc hM2 (by omega)
    have hex := (Bar_neg hc).mp hr
    obtain ⟨v, l0, v1, v2, v3⟩ := hex
    obtain ⟨q, rfl⟩ := hF3.1.some_of ⟨l0, v1, v2, v3⟩
    have hM3 := hM2.same hS3
    have hM4 : MC (u2 I3 0 24 1) J3 a.1 := hM3.sameC ⟨fun k hk => u2_n (by omega), fun i k a1 a2 => u2_n (by omega), fun _ => rfl⟩
    have hT4 : TB (u2 I3 0 24 1) J3 a.1 0 := fun q' l' s' a1 a2 a3 a4 a5 a6 => by rw [u2_n (Or.inl (by decide))]; exact hT3 q' l' s' a1 a2 a3 a4 a5 a6
    have hD4 : ∀ l : Int, 0 ≤ l → l ≤ a.1.1 1 → Dn (u2 I3 0 24 1) J3 a.1 0 l 49 := fun l a1 a2 => by
      obtain ⟨o, e, d⟩ := hD3 l a1 a2
      exact ⟨o, by rw [u2_n (Or.inl (by decide))]; exact e, d⟩
    obtain ⟨I5, L, K, uf, cost, hS5, hL, hu, hTab, hgo5⟩ := m_goAlong (h := h) (b := b) (N := N) hc hM4 (by omega) hT4 hD4 ⟨v, l0, v1, v2, v3⟩
    have hM5 : MC I5 (u2 J3 0 27 (iJ cost)) a.1 := (hM4.sameG hS5).sameC ⟨fun _ _ => rfl, fun _ _ _ _ => rfl, fun k => u2_n (by omega)⟩
    have hus := m_usedSpans (h := h) (b := b) (N := N) hc hM5 (by omega) hu ((hTab.tf hc).u64 hc)
    have hE5 : ∀ i k, i ≠ 15 → i ≠ 16 → i ≠ 11 → i ≠ 17 → ¬ (i = 0 ∧ (k = 24 ∨ k = 26)) → I5 i k = I1 i k := fun i k a1 a2 a3 a4 a5 => by
      rw [hS5 i k a4 (by omega), u2_n (by omega), hS3.1 i k a3, hS2 i k a1 a2]
    refine ⟨I5, _, withT a L K uf cost, _, Or.inr ⟨hr, L, K, uf, cost, hTab, rfl, rfl⟩, ⟨hM5, ?_, fun _ => ⟨hL, hu, u2_s⟩, ?_, fun p hp => ?_, ?_⟩, ?_⟩
    · rw [hS5 0 24 (by decide) (by omega), u2_s]; exact iI_1
    · rw [hE5 0 29 (by omega) (by omega) (by omega) (by omega) (by omega), hE5 0 30 (by omega) (by omega) (by omega) (by omega) (by omega), hE5 0 31 (by omega) (by omega) (by omega) (by omega) (by omega), hE5 0 32 (by omega) (by omega) (by omega) (by omega) (by omega), hE5 0 33 (by omega) (by omega) (by omega) (by omega) (by omega)]
      exact hI1.2.2.2.1
    · rw [hE5 18 p (by omega) (by omega) (by omega) (by omega) (by omega)]; exact hI1.2.2.2.2.1 p hp
    · rw [hE5 0 19 (by omega) (by omega) (by omega) (by omega) (by omega)]
      rcases hI1.2.2.2.2.2 with z | ⟨z, M, ⟨⟨z1, z2, z3⟩, z4, z5⟩, z6⟩
      · exact Or.inl z
      · refine Or.inr ⟨z, M, ⟨⟨?_, z2, z3⟩, fun k x hk => ?_, z5⟩, z6⟩
        · rw [hE5 0 20 (by omega) (by omega) (by omega) (by omega) (by omega)]; exact z1
        · rw [u2_n (by omega), hS3.2 14 _ (by omega)]; exact z4 k x hk
    · simp only [hgo3, Option.bind_some, show b1 (some q).isSome = 1 from rfl, zp_24 (Or.inr rfl), m_rd, zck_t, hgo5, hus]
  · rw [if_neg (fun z => hneg ((iI_lz (by omega) (by omega)).mp z))]
    refine ⟨I2, J, forg a, -1 - r, Or.inl ⟨r, hr, by omega, rfl, rfl⟩, ⟨hM2, ?_, fun z => absurd z (show ¬ (0 : Int) = 1 by decide), ?_, fun p hp => ?_, ?_⟩, by rw [iI_m1, iI_sub]⟩
    · rw [hS2 0 24 (by omega) (by omega)]; exact hI1.2.1
    · rw [hS2 0 29 (by omega) (by omega), hS2 0 30 (by omega) (by omega), hS2 0 31 (by omega) (by omega), hS2 0 32 (by omega) (by omega), hS2 0 33 (by omega) (by omega)]
      exact hI1.2.2.2.1
    · rw [hS2 18 p (by omega) (by omega)]; exact hI1.2.2.2.2.1 p hp
    · rw [hS2 0 19 (by omega) (by omega)]
      rcases hI1.2.2.2.2.2 with z | ⟨z, M, ⟨⟨z1, z2, z3⟩, z4, z5⟩, z6⟩
      · exact Or.inl z
      · refine Or.inr ⟨z, M, ⟨⟨?_, z2, z3⟩, z4, z5⟩, z6⟩
        rw [hS2 0 20 (by omega) (by omega)]; exact z1
/-- a place is moved -/
def setC (c : cfg) (i p : Nat) (v : Int) : cfg := (c.1, u2 c.2 i p v)
theorem setC_ok {c : cfg} (hc : cOK c) {i p : Nat} {v : Int} (hi : i ≤ 5) (hi1 : 1 ≤ i) (hv : (i = 1 → 0 ≤ v ∧ v ≤ c.1 1) ∧ (i = 2 ∨ i = 3 → 0 ≤ v ∧ v ≤ 1000000) ∧ (i = 4 ∨ i = 5 → -1 ≤ v ∧ v ≤ c.1 1)) : cOK (setC c i p v) := by
  obtain ⟨c0, c1, c7, c8, c9, c10, cp, ck, cd⟩ := hc
  have e : ∀ j q, j ≠ i → (setC c i p v).2 j q = c.2 j q := fun j q hj => u2_n (Or.inl hj)
  refine ⟨c0, c1, c7, c8, c9, c10, fun q hq => ?_, fun k hk => ?_, fun j k hj hk hjk => ?_⟩
  · obtain ⟨p1, p2, p3, p4, p5⟩ := cp q hq
    have key : ∀ j, (setC c i p v).2 j q = if j = i ∧ q = p then v else c.2 j q := fun j => rfl
    show ((0 ≤ (setC c i p v).2 1 q ∧ (setC c i p v).2 1 q ≤ c.1 1) ∧ (0 ≤ (setC c i p v).2 2 q ∧ (setC c i p v).2 2 q ≤ 1000000) ∧ (0 ≤ (setC c i p v).2 3 q ∧ (setC c i p v).2 3 q ≤ 1000000) ∧ (-1 ≤ (setC c i p v).2 4 q ∧ (setC c i p v).2 4 q ≤ c.1 1) ∧ (-1 ≤ (setC c i p v).2 5 q ∧ (setC c i p v).2 5 q ≤ c.1 1))
    simp only [key]
    refine ⟨?_, ?_, ?_, ?_, ?_⟩
    · by_cases a : 1 = i ∧ q = p
      · rw [if_pos a]; exact hv.1 a.1.symm
      · rw [if_neg a]; exact p1
    · by_cases a : 2 = i ∧ q = p
      · rw [if_pos a]; exact hv.2.1 (Or.inl a.1.symm)
      · rw [if_neg a]; exact p2
    · by_cases a : 3 = i ∧ q = p
      · rw [if_pos a]; exact hv.2.1 (Or.inr a.1.symm)
      · rw [if_neg a]; exact p3
    · by_cases a : 4 = i ∧ q = p
      · rw [if_pos a]; exact hv.2.2 (Or.inl a.1.symm)
      · rw [if_neg a]; exact p4
    · by_cases a : 5 = i ∧ q = p
      · rw [if_pos a]; exact hv.2.2 (Or.inr a.1.symm)
      · rw [if_neg a]; exact p5
  · rw [e 6 k (by omega), e 7 k (by omega), e 8 k (by omega), e 9 k (by omega)]; exact ck k hk
  · rw [e 6 k (by omega), e 7 k (by omega), e 6 j (by omega), e 7 j (by omega)]; exact cd j k hj hk hjk
theorem MC.set {I : Nat → Nat → Int32} {J : Nat → Nat → Int64} {c : cfg} (h : MC I J c) {i p : Nat} {v : Int} (hi : i ≤ 5) (hi1 : 1 ≤ i) : MC (u2 I i p (iI v)) J (setC c i p v) := by
  obtain ⟨⟨a1, a2, a3, a4, a5, a6⟩, hb, hk⟩ := h
  have e : ∀ k, u2 I i p (iI v) 0 k = I 0 k := fun k => u2_n (by omega)
  refine ⟨⟨by rw [e]; exact a1, by rw [e]; exact a2, by rw [e]; exact a3, by rw [e]; exact a4, by rw [e]; exact a5, by rw [e]; exact a6⟩, fun q hq => ?_, fun k hkk => ?_⟩
  · obtain ⟨b1, b2, b3, b4, b5⟩ := hb q hq
    have key : ∀ j, I j q = iI (c.2 j q) → u2 I i p (iI v) j q = iI ((setC c i p v).2 j q) := fun j hj => by
      show (if _ then _ else _) = iI (if _ then _ else _)
      by_cases z : j = i ∧ q = p
      · rw [if_pos z, if_pos z]
      · rw [if_neg z, if_neg z]; exact hj
    exact ⟨key 1 b1, key 2 b2, key 3 b3, key 4 b4, key 5 b5⟩
  · obtain ⟨b1, b2, b3, b4⟩ := hk k hkk
    have key : ∀ j, 5 < j → I j k = iI (c.2 j k) → u2 I i p (iI v) j k = iI ((setC c i p v).2 j k) := fun j hj hh => by
      show (if _ then _ else _) = iI (if _ then _ else _)
      rw [if_neg (by omega), if_neg (by omega)]; exact hh
    refine ⟨key 6 (by omega) b1, key 7 (by omega) b2, key 8 (by omega) b3, ?_⟩
    show J 9 k = iJ (if _ then _ else _)
    rw [if_neg (by omega)]; exact b4
def MoveR (a a' : ast) (p z : Int) (r : Bool) : Prop :=
  ((a.2.1 0 = 0 ∨ ¬ (0 ≤ p ∧ p ≤ a.1.1 0) ∨ ¬ (z = -1 ∨ (0 ≤ z ∧ z ≤ a.1.1 1))) ∧ r = false ∧ a' = a) ∨
  ((a.2.1 0 = 1 ∧ (0 ≤ p ∧ p ≤ a.1.1 0) ∧ (z = -1 ∨ (0 ≤ z ∧ z ≤ a.1.1 1))) ∧ ((¬ Bar (setC a.1 5 p.toNat z) (-1) ∧ r = false ∧ a' = a) ∨ (Bar (setC a.1 5 p.toNat z) (-1) ∧ r = true ∧ ∃ L K uf cost, Tab (setC a.1 5 p.toNat z) L K uf cost ∧ a' = withT (setC a.1 5 p.toNat z, a.2) L K uf cost)))
theorem MoveR.ok {a a' : ast} {p z : Int} {r : Bool} (h : aOK a) (hr : MoveR a a' p z r) : aOK a' := by
  rcases hr with ⟨-, -, rfl⟩ | ⟨⟨-, h1, h2⟩, ⟨-, -, rfl⟩ | ⟨-, -, L, K, uf, cost, hT, rfl⟩⟩
  · exact h
  · exact h
  · exact withT_ok h (setC_ok h.1 (by omega) (by omega) ⟨by omega, by omega, by have := h.1.2.1; omega⟩) hT
end MRUN3
