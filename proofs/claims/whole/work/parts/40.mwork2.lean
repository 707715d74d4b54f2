/-! the reference: workOut, its loop -/
section MWORK2
variable {h : zH} {b : Nat} {I : Nat → Nat → Int32} {J : Nat → Nat → Int64} {c : cfg} {N : Nat}
/-- what a state's loop hands on -/
abbrev woR : Type := Nat → Int32 → Int32 → Int32 → Int64 → Int32 → Int32 → Int32 → zH → Option (Unit × zH)
theorem nn_r (hc : cOK c) : (nn c : Int) = c.1 0 ∧ 2 ≤ nn c ∧ nn c ≤ 24 := by
  have := hc.1
  unfold nn; omega
theorem ix_in {p : Nat} {l g : Int} (hp : p ≤ 24) (l1 : 0 ≤ l) (l2 : l ≤ 24) (g1 : 0 ≤ g) (g2 : g ≤ 49) : vp_in (iI ((25 * (p : Int) + l) * 50 + g)) 31250 ∧ (iI ((25 * (p : Int) + l) * 50 + g)).toNatClampNeg = ix p l g := by
  have := ix_r hp l1 l2 g1 g2
  exact ⟨iI_in (by omega) (by omega) (by omega), by rw [iI_cl (by omega) (by omega)]; rfl⟩
theorem mul_r {s : Int} {m : Int} (h1 : -24 ≤ s) (h2 : s ≤ 24) (h3 : 0 ≤ m) (h4 : m ≤ 24) : -576 ≤ m * s ∧ m * s ≤ 576 := by
  constructor
  · have := Int.mul_le_mul_of_nonneg_left h1 h3; omega
  · have := Int.mul_le_mul_of_nonneg_left h2 h3; omega
theorem iI_lz {a : Int} (h1 : -2147483648 ≤ a) (h2 : a < 2147483648) : iI a < 0 ↔ a < 0 := by rw [iI_0]; exact iI_lt h1 h2 (by omega) (by omega)
theorem iI_ez {a : Int} (h1 : -2147483648 ≤ a) (h2 : a < 2147483648) : iI a = 0 ↔ a = 0 := by rw [iI_0]; exact iI_eq h1 h2 (by omega) (by omega)
theorem wo_159 (hc : cOK c) (hM : MC I J c) (hN : 30 ≤ N) (rc : woR) {p : Nat} {l g s : Int} (hp : p < nn c) (hl1 : 0 ≤ l) (hl2 : l ≤ c.1 1) (hs1 : -(c.1 7) ≤ s) (hs2 : s ≤ c.1 7) (hT : TB I J c p) {S : Int → Prop} {o : Option (Int × Int)} {x4 : Int64} {x6 : Int32} (e : enc1 o x4 x6) (hb : best1 S o (nn c - p)) :
    ∃ o' x' y', enc1 o' x' y' ∧ best1 (fun v => S v ∨ ∃ k, c_at c k p ∧ SVk c 1024 1 k p l s v) o' (nn c - p) ∧ f_Model_workOut_159 N rc b (iI p) (iI l) (iI g) x4 x6 (iI (c_sp c p)) (iI s) (MH h b I J) = rc b (iI p) (iI l) (iI g) x' y' (iI (c_sp c p)) (iI (s + 1)) (MH h b I J) := by
  obtain ⟨n1, n2, n3⟩ := nn_r hc
  have hmo := hc.2.2.1
  have hm := hc.2.1
  have hK := hc.2.2.2.2.2.1
  have hskip : ∀ (S' : Int → Prop), (∀ v, S' v ↔ S v) → best1 S' o (nn c - p) ∧ f_Model_workOut_313 N rc b (iI p) (iI l) (iI g) x4 x6 (iI (c_sp c p)) (iI s) (MH h b I J) = rc b (iI p) (iI l) (iI g) x4 x6 (iI (c_sp c p)) (iI (s + 1)) (MH h b I J) := by
    intro S' hS
    refine ⟨hb.congr (fun v => (hS v).symm), ?_⟩
    unfold f_Model_workOut_313
    rw [iI_1, iI_add]
  rcases c_sp_spec hc (p := p) with ⟨es, hno⟩ | ⟨k, es, hk, huniq⟩
  · obtain ⟨q1, q2⟩ := hskip (fun v => S v ∨ ∃ k, c_at c k p ∧ SVk c 1024 1 k p l s v) (fun v => ⟨fun z => z.elim id (fun ⟨k, hk, _⟩ => absurd hk (hno k)), Or.inl⟩)
    refine ⟨o, x4, x6, e, q1, ?_⟩
    unfold f_Model_workOut_159
    rw [es] at q2 ⊢
    rw [if_pos ((iI_lz (by omega) (by omega)).mpr (by omega))]
    exact q2
  · obtain ⟨hk1, hk2, hk3⟩ := hk
    obtain ⟨⟨r1, r2, r3⟩, r8, r9⟩ := hc.2.2.2.2.2.2.2.1 k hk1
    obtain ⟨e6, e7, e8, e9⟩ := hM.2.2 k hk1
    have hin : vp_in (iI k) 6 := iI_in (by omega) (by omega) (by omega)
    have hcl : (iI k).toNatClampNeg = k := by rw [iI_cl (by omega) (by omega)]; rfl
    have hiff : ∀ v, (∃ k, c_at c k p ∧ SVk c 1024 1 k p l s v) ↔ SVk c 1024 1 k p l s v := fun v => ⟨fun ⟨k', hk', hv⟩ => by rw [huniq k' hk'] at hv; exact hv, fun hv => ⟨k, ⟨hk1, hk2, hk3⟩, hv⟩⟩
    unfold f_Model_workOut_159
    rw [es]
    rw [es] at hskip
    rw [if_neg (fun z => by have := (iI_lz (by omega) (by omega)).mp z; omega)]
    simp only [m_rd, zck_t, m_mayUse hc hM hN hk1 hl1 (by omega) (show -24 ≤ s by omega) (show s ≤ 24 by omega), Option.bind_some, b1_0]
    by_cases hu : c_use c k l s = true
    · have hend := c_use_end hc ⟨hk1, hk2, hk3⟩ hu
      obtain ⟨v1, v2⟩ := c_ok_r hend
      rw [if_neg (by simp [hu])]
      have hto : (c.2 7 k) = (((c.2 7 k).toNat : Nat) : Int) := by omega
      obtain ⟨hix, hixc⟩ := ix_in (p := (c.2 7 k).toNat) (l := l + (c.2 7 k - p) * s) (g := s + 24) (by omega) v1 (by omega) (by omega) (by omega)
      obtain ⟨ot, et, bt⟩ := hT (c.2 7 k).toNat (l + (c.2 7 k - p) * s) s (by omega) (by omega) v1 v2 hs1 hs2
      obtain ⟨pc1, pc2⟩ := c_pc_r hc (p := (c.2 7 k).toNat) (by omega) v1 v2
      have hlen : 0 ≤ c.2 7 k - p ∧ c.2 7 k - p ≤ 24 := by omega
      have hsz : 0 ≤ (c.2 7 k - p) * (s.natAbs : Int) ∧ (c.2 7 k - p) * (s.natAbs : Int) ≤ 24 * (c.2 7 k - p) := by
        constructor
        · exact Int.mul_nonneg (by omega) (by omega)
        · have := Int.mul_le_mul_of_nonneg_left (show (s.natAbs : Int) ≤ 24 by omega) hlen.1
          rw [Int.mul_comm 24]; exact this
      have hsh := best1.shift (r' := nn c - p) (d1 := c_pc c (c.2 7 k).toNat (l + (c.2 7 k - p) * s) + c.2 9 k) (d2 := (c.2 7 k - p) * (s.natAbs : Int)) bt (by omega) (by omega) (by omega) hsz.1 (by omega)
      have hB := hb.bnd (by omega)
      have hBt := bt.bnd (by omega)
      have hent := wo_entry (d1 := c_pc c (c.2 7 k).toNat (l + (c.2 7 k - p) * s) + c.2 9 k) (d2 := (c.2 7 k - p) * (s.natAbs : Int)) et hBt
      obtain ⟨x', y', he', hgo⟩ := wo_pick (N := N) (b := b) (q := MH h b I J) (fun x y q => rc b (iI p) (iI l) (iI g) x y (iI k) (iI (s + 1)) q) hB (hsh.bnd (by omega)) e hent
      refine ⟨_, x', y', he', ?_, ?_⟩
      · refine (best1.union (by omega) hb hsh).congr (fun v => ?_)
        rw [hiff]
        constructor
        · rintro (z | ⟨y, hy, hv⟩)
          · exact Or.inl z
          · exact Or.inr ⟨hu, y, hy, hv⟩
        · rintro (z | ⟨-, y, hy, hv⟩)
          · exact Or.inl z
          · exact Or.inr ⟨y, hy, hv⟩
      · rw [← hgo]
        have e24 : (24 : Int32) = iI 24 := by decide
        have h263 : ∀ s0 : Int64, f_Model_workOut_263 N rc b (iI p) (iI l) (iI g) x4 x6 (iI k) (iI s) (iI (c.2 7 k - p)) (iI ((25 * ((c.2 7 k).toNat : Int) + (l + (c.2 7 k - p) * s)) * 50 + (s + 24))) s0 (MH h b I J) = (if lg_cmp s0 (0 : Int64) < 0 then rc b (iI p) (iI l) (iI g) x4 x6 (iI k) (iI (s + 1)) (MH h b I J) else Option.bind (zck true (f_Model_isLess N b s0 (I 11 (ix (c.2 7 k).toNat (l + (c.2 7 k - p) * s) (s + 24)) + iI ((c.2 7 k - p) * (s.natAbs : Int))) x4 x6 (MH h b I J))) fun p_1 => if p_1.1 = 0 then rc b (iI p) (iI l) (iI g) x4 x6 (iI k) (iI (s + 1)) p_1.2 else rc b (iI p) (iI l) (iI g) s0 (I 11 (ix (c.2 7 k).toNat (l + (c.2 7 k - p) * s) (s + 24)) + iI ((c.2 7 k - p) * (s.natAbs : Int))) (iI k) (iI (s + 1)) p_1.2) := by
          intro s0
          unfold f_Model_workOut_263 f_Model_workOut_313
          simp only [m_rd, Option.bind_some, ma_11 hix, hixc, m_size (N := N) (show (-2147483648 : Int) < s by omega) (show s < 2147483648 by omega), iI_mul, iI_1, iI_add]
        have htoe : iI (c.2 7 k) = iI (((c.2 7 k).toNat : Nat) : Int) := by rw [← hto]
        simp only [ma_7 hin, hcl, e7, Option.bind_some, e24, iI_sub, iI_mul, iI_add, m_at]
        rw [show (25 * c.2 7 k + (l + (c.2 7 k - p) * s)) * 50 + (s + 24) = (25 * ((c.2 7 k).toNat : Int) + (l + (c.2 7 k - p) * s)) * 50 + (s + 24) by rw [← hto]]
        simp only [m_rd, Option.bind_some, ma_10 hix, hixc, ma_7 hin, ma_9 hin, hcl, e7, e9, zck_t]
        rw [htoe, m_placeCost hc hM (by omega) v1 (by omega)]
        simp only [Option.bind_some, ma_9 hin, m_rd, hcl, e9, h263, iJ_m1]
        by_cases hx : 0 ≤ lg_cmp (J 10 (ix (c.2 7 k).toNat (l + (c.2 7 k - p) * s) (s + 24))) 0
        · simp only [if_pos hx, h263, Int64.add_assoc, iJ_add, zck_t]
        · simp only [if_neg hx, h263, zck_t]
    · have hu' : c_use c k l s = false := by simpa using hu
      rw [if_pos hu']
      obtain ⟨q1, q2⟩ := hskip (fun v => S v ∨ ∃ k, c_at c k p ∧ SVk c 1024 1 k p l s v) (fun v => by rw [hiff]; exact ⟨fun z => z.elim id (fun z => absurd z.1 hu), Or.inl⟩)
      exact ⟨o, x4, x6, e, q1, q2⟩
end MWORK2
