/-! the reference: goAlong -/
/-- m levels are laid behind place p -/
def layI (I : Nat → Nat → Int32) (p : Nat) (l s : Int) (m : Nat) : Nat → Nat → Int32 := fun i k => if i = 17 ∧ p < k ∧ k ≤ p + m then iI (l + s * ((k : Int) - p)) else I i k
theorem layI_0 {I : Nat → Nat → Int32} {p : Nat} {l s : Int} : layI I p l s 0 = I := by
  funext i k
  exact if_neg (by omega)
theorem layI_s {I : Nat → Nat → Int32} {p m : Nat} {l s : Int} : u2 (layI I p l s m) 17 (p + m + 1) (iI (l + s * m + s)) = layI I p l s (m + 1) := by
  funext i k
  unfold u2 layI
  by_cases e : i = 17 ∧ k = p + m + 1
  · rw [if_pos e, if_pos (by omega), show ((k : Int) - p) = (m : Int) + 1 by omega, Int.mul_add, Int.mul_one, Int.add_assoc]
  · rw [if_neg e]
    by_cases e2 : i = 17 ∧ p < k ∧ k ≤ p + m
    · rw [if_pos e2, if_pos (by omega)]
    · rw [if_neg e2, if_neg (by omega)]
theorem u2_id {α : Type} {f : Nat → Nat → α} {i k : Nat} : u2 f i k (f i k) = f := by
  funext a d
  unfold u2
  by_cases e : a = i ∧ d = k
  · rw [if_pos e, e.1, e.2]
  · rw [if_neg e]
def SameG (I I' : Nat → Nat → Int32) : Prop := ∀ i k, i ≠ 17 → ¬ (i = 0 ∧ k = 26) → I' i k = I i k
theorem MC.sameG {I I' : Nat → Nat → Int32} {J : Nat → Nat → Int64} {c : cfg} (h : MC I J c) (hS : SameG I I') : MC I' J c := by
  obtain ⟨⟨a1, a2, a3, a4, a5, a6⟩, hb, hk⟩ := h
  refine ⟨⟨?_, ?_, ?_, ?_, ?_, ?_⟩, fun p hp => ?_, fun k hkk => ?_⟩
  · rw [hS 0 0 (by omega) (by omega)]; exact a1
  · rw [hS 0 1 (by omega) (by omega)]; exact a2
  · rw [hS 0 7 (by omega) (by omega)]; exact a3
  · rw [hS 0 8 (by omega) (by omega)]; exact a4
  · rw [hS 0 9 (by omega) (by omega)]; exact a5
  · rw [hS 0 10 (by omega) (by omega)]; exact a6
  · rw [hS 1 p (by omega) (by omega), hS 2 p (by omega) (by omega), hS 3 p (by omega) (by omega), hS 4 p (by omega) (by omega), hS 5 p (by omega) (by omega)]; exact hb p hp
  · rw [hS 6 k (by omega) (by omega), hS 7 k (by omega) (by omega), hS 8 k (by omega) (by omega)]; exact hk k hkk
abbrev gaR : Type := Nat → Int32 → Int32 → Int32 → zH → Option (Unit × zH)
abbrev gaS : Type := Nat → Int32 → Int32 → Int32 → Int32 → Int32 → Int32 → Int32 → zH → Option (Unit × zH)
section MGO
variable {h : zH} {b : Nat} {I : Nat → Nat → Int32} {J : Nat → Nat → Int64} {c : cfg} {N : Nat}
theorem ga_386 (r45 : gaR) (r78 : gaS) {p m : Nat} {l s : Int} {x3 x4 x5 : Int32} (hpm : p + m ≤ 24) (hs1 : -24 ≤ s) (hs2 : s ≤ 24) : ∀ (d fu j : Nat), j + d = m → d < fu →
    f_Model_goAlong_386 N r45 r78 fu b (iI (l + s * j)) (iI ((p + j : Nat) : Int)) x3 x4 x5 1 (iI s) (iI m) (iI j) (MH h b (layI I p l s j) J) = r78 b (iI (l + s * m)) (iI ((p + m : Nat) : Int)) (iI (s + 24)) x4 x5 1 (iI (s + 1)) (MH h b (layI I p l s m) J) := by
  intro d
  induction d with
  | zero =>
    intro fu j hd hf
    obtain ⟨fu, rfl⟩ : ∃ q, fu = q + 1 := ⟨fu - 1, by omega⟩
    have e : j = m := by omega
    subst e
    show b_Model_goAlong_386 N r45 r78 (f_Model_goAlong_386 N r45 r78 fu) b _ _ x3 x4 x5 1 (iI s) (iI j) (iI j) _ = _
    unfold b_Model_goAlong_386 f_Model_goAlong_420 f_Model_goAlong_434 f_Model_goAlong_435
    rw [if_pos ((iI_le (by omega) (by omega) (by omega) (by omega)).mpr (by omega)), if_neg (by decide), show (24 : Int32) = iI 24 by decide, iI_add, iI_1, iI_add]
  | succ d ih =>
    intro fu j hd hf
    obtain ⟨fu, rfl⟩ : ∃ q, fu = q + 1 := ⟨fu - 1, by omega⟩
    show b_Model_goAlong_386 N r45 r78 (f_Model_goAlong_386 N r45 r78 fu) b _ _ x3 x4 x5 1 (iI s) (iI m) (iI j) _ = _
    unfold b_Model_goAlong_386
    rw [if_neg (fun z => by have := (iI_le (by omega) (by omega) (by omega) (by omega)).mp z; omega), if_neg (by decide)]
    have hin : vp_in (iI ((p + j + 1 : Nat) : Int)) 25 := iI_in (by omega) (by omega) (by omega)
    have hcl : (iI ((p + j + 1 : Nat) : Int)).toNatClampNeg = p + j + 1 := by rw [iI_cl (by omega) (by omega)]; rfl
    have e1 : iI ((p + j : Nat) : Int) + 1 = iI ((p + j + 1 : Nat) : Int) := by rw [iI_1, iI_add]; rfl
    have e2 : iI (j : Int) + 1 = iI ((j + 1 : Nat) : Int) := by rw [iI_1, iI_add]; rfl
    have e3 : l + s * (j : Int) + s = l + s * ((j + 1 : Nat) : Int) := by rw [show ((j + 1 : Nat) : Int) = (j : Int) + 1 by omega, Int.mul_add, Int.mul_one, Int.add_assoc]
    simp only [m_rd, Option.bind_some, e1, e2, iI_add, ms_17 hin, hcl, layI_s]
    have := ih fu (j + 1) (by omega) (by omega)
    rw [e3]
    exact this
/-- nothing is found at this slope: on to the next -/
theorem ga_383n (hN : 1 ≤ N) (r45 : gaR) (r78 : gaS) {x1 x2 x3 x4 x5 x7 x8 : Int32} {q : zH} : f_Model_goAlong_383 N r45 r78 b x1 x2 x3 x4 x5 0 x7 x8 q = r78 b x1 x2 x3 x4 x5 0 (x7 + 1) q := by
  obtain ⟨M, rfl⟩ : ∃ M, N = M + 1 := ⟨N - 1, by omega⟩
  unfold f_Model_goAlong_383
  show b_Model_goAlong_386 (M + 1) r45 r78 (f_Model_goAlong_386 (M + 1) r45 r78 M) b x1 x2 x3 x4 x5 0 x7 x8 0 q = _
  unfold b_Model_goAlong_386 f_Model_goAlong_420 f_Model_goAlong_434 f_Model_goAlong_435
  simp
/-- a step or a span is found: it is laid -/
theorem ga_383f (hN : 30 ≤ N) (r45 : gaR) (r78 : gaS) {p m : Nat} {l s : Int} {x3 x4 x5 : Int32} (hpm : p + m ≤ 24) (hs1 : -24 ≤ s) (hs2 : s ≤ 24) : f_Model_goAlong_383 N r45 r78 b (iI l) (iI p) x3 x4 x5 1 (iI s) (iI m) (MH h b I J) = r78 b (iI (l + s * m)) (iI ((p + m : Nat) : Int)) (iI (s + 24)) x4 x5 1 (iI (s + 1)) (MH h b (layI I p l s m) J) := by
  unfold f_Model_goAlong_383
  have := ga_386 (h := h) (b := b) (I := I) (J := J) (N := N) r45 r78 (x3 := x3) (x4 := x4) (x5 := x5) (l := l) hpm hs1 hs2 m N 0 (by omega) (by omega)
  rw [layI_0, show l + s * ((0 : Nat) : Int) = l by simp, show p + 0 = p by omega] at this
  rw [show (0 : Int32) = iI ((0 : Nat) : Int) by decide]
  exact this
/-- what stands at a state on the way -/
def St0 (I : Nat → Nat → Int32) (J : Nat → Nat → Int64) (c : cfg) (p : Nat) (l g : Int) : Prop := (p < nn c ∧ (0 ≤ l ∧ l ≤ c.1 1) ∧ (0 ≤ g ∧ g ≤ 49)) ∧ TB I J c 0 ∧ ∃ q, enc1 (some q) (J 10 (ix p l g)) (I 11 (ix p l g)) ∧ best1 (SV c 1024 1 p l g) (some q) (nn c - p)
theorem ga_211 (hc : cOK c) (hM : MC I J c) (hN : 60 ≤ N) (r45 : gaR) (r78 : gaS) {p : Nat} {l g s : Int} {q : Int × Int} (hp : p < nn c) (hl1 : 0 ≤ l) (hl2 : l ≤ c.1 1) (hg1 : 0 ≤ g) (hg2 : g ≤ 49) (hT : TB I J c 0) (he : enc1 (some q) (J 10 (ix p l g)) (I 11 (ix p l g))) (hb : best1 (SV c 1024 1 p l g) (some q) (nn c - p)) (hf : c_fol c s g = true) {u : Nat} (hu : I 0 26 = iI u) (hu2 : u < 64) :
    (¬ Hit1 c p l g (1024 * q.1 + q.2) s ∧ f_Model_goAlong_211 N r45 r78 b (iI l) (iI p) (iI g) (iI ((25 * (p : Int) + l) * 50 + g)) (iI (c_sp c p)) 0 (iI s) 1 (MH h b I J) = r78 b (iI l) (iI p) (iI g) (iI ((25 * (p : Int) + l) * 50 + g)) (iI (c_sp c p)) 0 (iI (s + 1)) (MH h b I J)) ∨
    (Hit1 c p l g (1024 * q.1 + q.2) s ∧ ∃ k : Nat, c_at c k p ∧ f_Model_goAlong_211 N r45 r78 b (iI l) (iI p) (iI g) (iI ((25 * (p : Int) + l) * 50 + g)) (iI (c_sp c p)) 0 (iI s) 1 (MH h b I J) = r78 b (iI (l + (c.2 7 k - p) * s)) (iI (c.2 7 k)) (iI (s + 24)) (iI ((25 * (p : Int) + l) * 50 + g)) (iI (c_sp c p)) 1 (iI (s + 1)) (MH h b (layI (u2 I 0 26 (iI ((u ||| 2 ^ k : Nat) : Int))) p l s (c.2 7 k - p).toNat) J)) := by
  obtain ⟨n1, n2, n3⟩ := nn_r hc
  have hmo := hc.2.2.1
  have hm := hc.2.1
  have hK := hc.2.2.2.2.2.1
  have hs := c_fol_r hf
  have es1 : iI s + 1 = iI (s + 1) := by rw [iI_1, iI_add]
  rcases c_sp_spec hc (p := p) with ⟨es, hno⟩ | ⟨k, es, hk, huniq⟩
  · left
    refine ⟨fun ⟨_, k, hk, _⟩ => hno k hk, ?_⟩
    unfold f_Model_goAlong_211
    rw [es, if_pos rfl, if_pos ((iI_lz (by omega) (by omega)).mpr (by omega)), ga_383n (by omega), es1]
  · obtain ⟨hk1, hk2, hk3⟩ := id hk
    obtain ⟨⟨r1, r2, r3⟩, r8, r9⟩ := hc.2.2.2.2.2.2.2.1 k hk1
    obtain ⟨e6, e7, e8, e9⟩ := hM.2.2 k hk1
    have hin : vp_in (iI k) 6 := iI_in (by omega) (by omega) (by omega)
    have hcl : (iI k).toNatClampNeg = k := by rw [iI_cl (by omega) (by omega)]; rfl
    unfold f_Model_goAlong_211
    rw [es, if_pos rfl, if_neg (fun z => by have := (iI_lz (by omega) (by omega)).mp z; omega)]
    simp only [m_rd, zck_t, m_mayUse hc hM (show 30 ≤ N by omega) hk1 hl1 (by omega) (show -24 ≤ s by omega) (show s ≤ 24 by omega), Option.bind_some, b1_0]
    by_cases hus : c_use c k l s = true
    · have hend := c_use_end hc hk hus
      obtain ⟨v1, v2⟩ := c_ok_r hend
      rw [if_neg (by simp [hus])]
      have hto : (c.2 7 k) = (((c.2 7 k).toNat : Nat) : Int) := by omega
      have htoe : iI (c.2 7 k) = iI (((c.2 7 k).toNat : Nat) : Int) := by rw [← hto]
      obtain ⟨hix, hixc⟩ := ix_in (p := (c.2 7 k).toNat) (l := l + (c.2 7 k - p) * s) (g := s + 24) (by omega) v1 (by omega) (by omega) (by omega)
      obtain ⟨hix0, hixc0⟩ := ix_in (p := p) (l := l) (g := g) (by omega) hl1 (by omega) hg1 hg2
      obtain ⟨ot, et, bt⟩ := hT (c.2 7 k).toNat (l + (c.2 7 k - p) * s) s (by omega) (by omega) v1 v2 (by omega) (by omega)
      obtain ⟨pc1, pc2⟩ := c_pc_r hc (p := (c.2 7 k).toNat) (by omega) v1 v2
      have hiff := hit1_iff hc hp hk hb hf hus bt
      have hsz : 0 ≤ (c.2 7 k - p) * (s.natAbs : Int) ∧ (c.2 7 k - p) * (s.natAbs : Int) ≤ 24 * (c.2 7 k - p) := by
        constructor
        · exact Int.mul_nonneg (by omega) (by omega)
        · have := Int.mul_le_mul_of_nonneg_left (show (s.natAbs : Int) ≤ 24 by omega) (show 0 ≤ c.2 7 k - p by omega)
          rw [Int.mul_comm 24]; exact this
      have e24 : (24 : Int32) = iI 24 := by decide
      have hB := hb.bnd (by omega)
      have hBt := bt.bnd (by omega)
      obtain ⟨q1, q2⟩ := hB q rfl
      obtain ⟨he1, he2⟩ := he
      have h355 : f_Model_goAlong_355 N r45 r78 b (iI l) (iI p) (iI g) (iI ((25 * (p : Int) + l) * 50 + g)) (iI k) (iI s) (iI (c.2 7 k - p)) (MH h b I J) = r78 b (iI l) (iI p) (iI g) (iI ((25 * (p : Int) + l) * 50 + g)) (iI k) 0 (iI (s + 1)) (MH h b I J) := by
        unfold f_Model_goAlong_355 f_Model_goAlong_356 f_Model_goAlong_380
        simp only [m_rd, m_wr, Option.bind_some, if_true, u2_id]
        rw [ga_383n (by omega), es1]
      simp only [ma_7 hin, hcl, e7, Option.bind_some, e24, iI_sub, iI_mul, iI_add, m_at]
      rw [show (25 * c.2 7 k + (l + (c.2 7 k - p) * s)) * 50 + (s + 24) = (25 * ((c.2 7 k).toNat : Int) + (l + (c.2 7 k - p) * s)) * 50 + (s + 24) by rw [← hto]]
      simp only [m_rd, Option.bind_some, ma_10 hix, ma_11 hix, hixc, ma_10 hix0, ma_11 hix0, hixc0, ma_7 hin, ma_9 hin, hcl, e7, e9, zck_t, he1, he2]
      cases ot with
      | none =>
        have et' : J 10 (ix (c.2 7 k).toNat (l + (c.2 7 k - p) * s) (s + 24)) = iJ (-1) := et
        rw [et', iJ_0, if_pos ((lgc_neg (by omega) (by omega) (by omega) (by omega)).mpr (by omega))]
        exact Or.inl ⟨(fun z => by obtain ⟨w, hw, -⟩ := hiff.mp z; exact absurd hw (by simp)), h355⟩
      | some w =>
        obtain ⟨et1, et2⟩ := et
        obtain ⟨w1, w2⟩ := hBt w rfl
        rw [et1, iJ_0, if_neg (fun z => by have := (lgc_neg (by omega) (by omega) (by omega) (by omega)).mp z; omega)]
        rw [htoe, m_placeCost hc hM (by omega) v1 (by omega)]
        simp only [Option.bind_some, ma_9 hin, m_rd, hcl, e9, et2, ma_10 hix0, ma_11 hix, ma_11 hix0, hixc, hixc0, he1, he2, m_size (N := N) (show (-2147483648 : Int) < s by omega) (show s < 2147483648 by omega), iI_mul, iI_add, iJ_add]
        by_cases hx : w.1 + c_pc c (c.2 7 k).toNat (l + (c.2 7 k - p) * s) + c.2 9 k = q.1
        · rw [if_pos ((lgc_0 (by omega) (by omega) (by omega) (by omega)).mpr hx)]
          by_cases hy : w.2 + (c.2 7 k - p) * (s.natAbs : Int) = q.2
          · rw [if_pos ((iI_eq (by omega) (by omega) (by omega) (by omega)).mpr hy)]
            refine Or.inr ⟨hiff.mpr ⟨w, rfl, by omega, hy⟩, k, hk, ?_⟩
            unfold f_Model_goAlong_356 f_Model_goAlong_380
            simp only [m_rd, m_wr, Option.bind_some, hu]
            have hmm : iI (c.2 7 k - p) = iI (((c.2 7 k - p).toNat : Nat) : Int) := by rw [show (((c.2 7 k - p).toNat : Nat) : Int) = c.2 7 k - p by omega]
            rw [if_neg (by decide), bit_or ⟨u, hu2⟩ ⟨k, by omega⟩, hmm]
            rw [ga_383f (by omega) r45 r78 (by omega) (by omega) (by omega), show s * (((c.2 7 k - p).toNat : Nat) : Int) = (c.2 7 k - p) * s by rw [show (((c.2 7 k - p).toNat : Nat) : Int) = c.2 7 k - p by omega, Int.mul_comm], show ((p + (c.2 7 k - p).toNat : Nat) : Int) = c.2 7 k by omega]
          · rw [if_neg (fun z => hy ((iI_eq (by omega) (by omega) (by omega) (by omega)).mp z))]
            exact Or.inl ⟨fun z => by obtain ⟨w', hw, -, hz⟩ := hiff.mp z; cases hw; exact hy hz, h355⟩
        · rw [if_neg (fun z => hx ((lgc_0 (by omega) (by omega) (by omega) (by omega)).mp z))]
          exact Or.inl ⟨fun z => by obtain ⟨w', hw, hz, -⟩ := hiff.mp z; cases hw; omega, h355⟩
    · have hu' : c_use c k l s = false := by simpa using hus
      rw [if_pos hu', ga_383n (by omega), es1]
      refine Or.inl ⟨fun ⟨_, k', hk', hv⟩ => ?_, rfl⟩
      rw [huniq k' hk'] at hv
      exact hus hv.1
end MGO
