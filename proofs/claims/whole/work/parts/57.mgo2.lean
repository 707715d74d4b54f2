/-! the reference: goAlong, its loops -/
section MGO2
variable {h : zH} {b : Nat} {J : Nat → Nat → Int64} {c : cfg} {N : Nat}
theorem ga_78f {I : Nat → Nat → Int32} (r45 : gaR) {fu : Nat} {x1 x2 x3 x4 x5 x7 : Int32} : f_Model_goAlong_78 N r45 (fu + 1) b x1 x2 x3 x4 x5 1 x7 (MH h b I J) = r45 b x1 x2 x3 (MH h b I J) := by
  show b_Model_goAlong_78 N r45 (f_Model_goAlong_78 N r45 fu) b x1 x2 x3 x4 x5 1 x7 (MH h b I J) = _
  unfold b_Model_goAlong_78 f_Model_goAlong_441
  simp only [m_rd, Option.bind_some]
  rw [if_neg (show ¬ ((1 : Int32) = 0) by decide), ite_self]
theorem ga_78 {I : Nat → Nat → Int32} (hc : cOK c) (hM : MC I J c) (hN : 60 ≤ N) (r45 : gaR) {p : Nat} {l g : Int} {q : Int × Int} (hp : p < nn c) (hl1 : 0 ≤ l) (hl2 : l ≤ c.1 1) (hg1 : 0 ≤ g) (hg2 : g ≤ 49) (hT : TB I J c 0) (he : enc1 (some q) (J 10 (ix p l g)) (I 11 (ix p l g))) (hb : best1 (SV c 1024 1 p l g) (some q) (nn c - p)) {u : Nat} (hu : I 0 26 = iI u) (hu2 : u < 64) :
    ∀ (d fu : Nat) (s : Int), s + d = c.1 7 + 1 → -(c.1 7) ≤ s → d + 1 < fu → (∀ s', s' < s → ¬ Hit0 c p l g (1024 * q.1 + q.2) s' ∧ ¬ Hit1 c p l g (1024 * q.1 + q.2) s') →
    ∃ s1 : Int, (Pick c p l g s1 false ∧ f_Model_goAlong_78 N r45 fu b (iI l) (iI p) (iI g) (iI ((25 * (p : Int) + l) * 50 + g)) (iI (c_sp c p)) 0 (iI s) (MH h b I J) = r45 b (iI (l + s1)) (iI ((p + 1 : Nat) : Int)) (iI (s1 + 24)) (MH h b (layI I p l s1 1) J)) ∨
      (∃ k : Nat, c_at c k p ∧ Pick c p l g s1 true ∧ f_Model_goAlong_78 N r45 fu b (iI l) (iI p) (iI g) (iI ((25 * (p : Int) + l) * 50 + g)) (iI (c_sp c p)) 0 (iI s) (MH h b I J) = r45 b (iI (l + (c.2 7 k - p) * s1)) (iI (c.2 7 k)) (iI (s1 + 24)) (MH h b (layI (u2 I 0 26 (iI ((u ||| 2 ^ k : Nat) : Int))) p l s1 (c.2 7 k - p).toNat) J)) := by
  obtain ⟨n1, n2, n3⟩ := nn_r hc
  have hmo := hc.2.2.1
  have hm := hc.2.1
  intro d
  induction d with
  | zero =>
    intro fu s hd hs hf hno
    exfalso
    have := hb.2.1
    rw [SV_s hp] at this
    obtain ⟨s', h1, h2⟩ := this
    have h3 := c_fol_r h1
    obtain ⟨h4, h5⟩ := hno s' (by omega)
    rcases h2 with h2 | h2
    · exact h4 ⟨h1, h2⟩
    · exact h5 ⟨h1, h2⟩
  | succ d ih =>
    intro fu s hd hs hf hno
    obtain ⟨fu, rfl⟩ : ∃ q, fu = q + 1 := ⟨fu - 1, by omega⟩
    have e24 : (24 : Int32) = iI 24 := by decide
    have hgo : ¬ Hit0 c p l g (1024 * q.1 + q.2) s → ¬ Hit1 c p l g (1024 * q.1 + q.2) s → ∃ s1 : Int, (Pick c p l g s1 false ∧ f_Model_goAlong_78 N r45 fu b (iI l) (iI p) (iI g) (iI ((25 * (p : Int) + l) * 50 + g)) (iI (c_sp c p)) 0 (iI (s + 1)) (MH h b I J) = r45 b (iI (l + s1)) (iI ((p + 1 : Nat) : Int)) (iI (s1 + 24)) (MH h b (layI I p l s1 1) J)) ∨
      (∃ k : Nat, c_at c k p ∧ Pick c p l g s1 true ∧ f_Model_goAlong_78 N r45 fu b (iI l) (iI p) (iI g) (iI ((25 * (p : Int) + l) * 50 + g)) (iI (c_sp c p)) 0 (iI (s + 1)) (MH h b I J) = r45 b (iI (l + (c.2 7 k - p) * s1)) (iI (c.2 7 k)) (iI (s1 + 24)) (MH h b (layI (u2 I 0 26 (iI ((u ||| 2 ^ k : Nat) : Int))) p l s1 (c.2 7 k - p).toNat) J)) := by
      intro a1 a2
      refine ih fu (s + 1) (by omega) (by omega) (by omega) (fun s' hs' => ?_)
      by_cases e : s' = s
      · subst e; exact ⟨a1, a2⟩
      · exact hno s' (by omega)
    show ∃ s1 : Int, (_ ∧ b_Model_goAlong_78 N r45 (f_Model_goAlong_78 N r45 fu) b (iI l) (iI p) (iI g) (iI ((25 * (p : Int) + l) * 50 + g)) (iI (c_sp c p)) 0 (iI s) (MH h b I J) = _) ∨ (∃ k : Nat, c_at c k p ∧ Pick c p l g s1 true ∧ b_Model_goAlong_78 N r45 (f_Model_goAlong_78 N r45 fu) b (iI l) (iI p) (iI g) (iI ((25 * (p : Int) + l) * 50 + g)) (iI (c_sp c p)) 0 (iI s) (MH h b I J) = _)
    have hp1 : iI (p : Int) + 1 = iI (((p + 1 : Nat) : Int)) := by rw [iI_1, iI_add]; rfl
    have es1 : iI s + 1 = iI (s + 1) := by rw [iI_1, iI_add]
    unfold b_Model_goAlong_78 f_Model_goAlong_435 f_Model_goAlong_208 f_Model_goAlong_209
    simp only [m_rd, Option.bind_some, hM.1.2.2.1, if_true, zck_t, m_follows (N := N) (b := b) (h := h) hc hM (show -1000 ≤ s by omega) (show s ≤ 1000 by omega) hg1 hg2, b1_0, hp1, es1, iI_add l s, m_may (N := N) (b := b) (h := h) hc hM (show p + 1 < 25 by omega) (show (-2147483648 : Int) ≤ l + s by omega) (show l + s < 2147483648 by omega)]
    rw [if_neg (fun z => by have := (iI_lt (by omega) (by omega) (by omega) (by omega)).mp z; omega)]
    by_cases hfo : c_fol c s g = true
    · rw [if_neg (by rw [hfo]; decide)]
      have hsp : ¬ Hit0 c p l g (1024 * q.1 + q.2) s → ∃ s1 : Int, (Pick c p l g s1 false ∧ f_Model_goAlong_211 N r45 (f_Model_goAlong_78 N r45 fu) b (iI l) (iI p) (iI g) (iI ((25 * (p : Int) + l) * 50 + g)) (iI (c_sp c p)) 0 (iI s) 1 (MH h b I J) = r45 b (iI (l + s1)) (iI ((p + 1 : Nat) : Int)) (iI (s1 + 24)) (MH h b (layI I p l s1 1) J)) ∨
          (∃ k : Nat, c_at c k p ∧ Pick c p l g s1 true ∧ f_Model_goAlong_211 N r45 (f_Model_goAlong_78 N r45 fu) b (iI l) (iI p) (iI g) (iI ((25 * (p : Int) + l) * 50 + g)) (iI (c_sp c p)) 0 (iI s) 1 (MH h b I J) = r45 b (iI (l + (c.2 7 k - p) * s1)) (iI (c.2 7 k)) (iI (s1 + 24)) (MH h b (layI (u2 I 0 26 (iI ((u ||| 2 ^ k : Nat) : Int))) p l s1 (c.2 7 k - p).toNat) J)) := by
        intro a1
        rcases ga_211 (h := h) (b := b) (N := N) hc hM hN r45 (f_Model_goAlong_78 N r45 fu) hp hl1 hl2 hg1 hg2 hT he hb hfo hu hu2 with ⟨a2, e⟩ | ⟨a2, k, hk, e⟩
        · rw [e]; exact hgo a1 a2
        · rw [e]
          obtain ⟨fu, rfl⟩ : ∃ q, fu = q + 1 := ⟨fu - 1, by omega⟩
          exact ⟨s, Or.inr ⟨k, hk, ⟨_, hb.isMin, ⟨a1, a2⟩, hno⟩, ga_78f r45⟩⟩
      by_cases ho : c_ok c (p + 1) (l + s) = true
      · rw [if_neg (by rw [ho]; decide)]
        obtain ⟨v1, v2⟩ := c_ok_r ho
        have hs7 := c_fol_r hfo
        obtain ⟨hix, hixc⟩ := ix_in (p := p + 1) (l := l + s) (g := s + 24) (by omega) v1 (by omega) (by omega) (by omega)
        obtain ⟨hix0, hixc0⟩ := ix_in (p := p) (l := l) (g := g) (by omega) hl1 (by omega) hg1 hg2
        obtain ⟨ot, et, bt⟩ := hT (p + 1) (l + s) s (by omega) (by omega) v1 v2 (by omega) (by omega)
        obtain ⟨pc1, pc2⟩ := c_pc_r hc (p := p + 1) (by omega) v1 v2
        have hiff := hit0_iff hc hp hb hfo ho bt
        have hB := hb.bnd (by omega)
        have hBt := bt.bnd (by omega)
        obtain ⟨q1, q2⟩ := hB q rfl
        obtain ⟨he1, he2⟩ := he
        simp only [e24, iI_add, m_at, Option.bind_some, m_rd, ma_10 hix, hixc, ma_11 hix, zck_t, m_placeCost (N := N) (b := b) (h := h) hc hM (show p + 1 < 25 by omega) v1 (show l + s ≤ 24 by omega), ma_10 hix0, ma_11 hix0, hixc0, he1, he2, m_size (N := N) (show (-2147483648 : Int) < s by omega) (show s < 2147483648 by omega)]
        cases ot with
        | none =>
          have et' : J 10 (ix (p + 1) (l + s) (s + 24)) = iJ (-1) := et
          rw [et', iJ_0, if_pos ((lgc_neg (by omega) (by omega) (by omega) (by omega)).mpr (by omega))]
          exact hsp (fun z => by obtain ⟨w, hw, -⟩ := hiff.mp z; exact absurd hw (by simp))
        | some w =>
          obtain ⟨et1, et2⟩ := et
          obtain ⟨w1, w2⟩ := hBt w rfl
          rw [et1, et2, iJ_0, if_neg (fun z => by have := (lgc_neg (by omega) (by omega) (by omega) (by omega)).mp z; omega)]
          simp only [iI_add, iJ_add]
          by_cases hx : w.1 + c_pc c (p + 1) (l + s) = q.1
          · rw [if_pos ((lgc_0 (by omega) (by omega) (by omega) (by omega)).mpr hx)]
            by_cases hy : w.2 + (s.natAbs : Int) = q.2
            · rw [if_pos ((iI_eq (by omega) (by omega) (by omega) (by omega)).mpr hy)]
              have hH := hiff.mpr ⟨w, rfl, hx, hy⟩
              refine ⟨s, Or.inl ⟨⟨_, hb.isMin, hH, hno⟩, ?_⟩⟩
              unfold f_Model_goAlong_211
              have e1 : (1 : Int32) = iI ((1 : Nat) : Int) := by decide
              rw [if_neg (by decide)]
              have := ga_383f (h := h) (b := b) (N := N) (I := I) (J := J) (show 30 ≤ N by omega) r45 (f_Model_goAlong_78 N r45 fu) (p := p) (m := 1) (l := l) (s := s) (x3 := iI g) (x4 := iI ((25 * (p : Int) + l) * 50 + g)) (x5 := iI (c_sp c p)) (by omega) (by omega) (by omega)
              rw [← e1] at this
              rw [this]
              obtain ⟨fu, rfl⟩ : ∃ q, fu = q + 1 := ⟨fu - 1, by omega⟩
              rw [ga_78f, show s * ((1 : Nat) : Int) = s by simp]
            · rw [if_neg (fun z => hy ((iI_eq (by omega) (by omega) (by omega) (by omega)).mp z))]
              exact hsp (fun z => by obtain ⟨w', hw, -, hz⟩ := hiff.mp z; cases hw; exact hy hz)
          · rw [if_neg (fun z => hx ((lgc_0 (by omega) (by omega) (by omega) (by omega)).mp z))]
            exact hsp (fun z => by obtain ⟨w', hw, hz, -⟩ := hiff.mp z; cases hw; exact hx hz)
      · have ho' : c_ok c (p + 1) (l + s) = false := by simpa using ho
        rw [if_pos ho']
        exact hsp (fun z => ho z.2.1)
    · have hfo' : c_fol c s g = false := by simpa using hfo
      rw [if_pos hfo']
      exact hgo (fun z => hfo z.1) (fun z => hfo z.1)
/-- the values of the next state are not none -/
theorem Pick.nx0 {p : Nat} {l g s : Int} (h : Pick c p l g s false) : c_fol c s g = true ∧ c_ok c (p + 1) (l + s) = true ∧ ∃ y, SV c 1024 1 (p + 1) (l + s) (s + 24) y := by
  obtain ⟨M, -, h2, -⟩ := h
  obtain ⟨h3, h4, y, h5, -⟩ := (show Hit0 c p l g M s from h2)
  exact ⟨h3, h4, y, h5⟩
theorem Pick.nx1 (hc : cOK c) {p k : Nat} {l g s : Int} (hk : c_at c k p) (h : Pick c p l g s true) : c_fol c s g = true ∧ c_use c k l s = true ∧ c_ok c (c.2 7 k).toNat (l + (c.2 7 k - p) * s) = true ∧ ∃ y, SV c 1024 1 (c.2 7 k).toNat (l + (c.2 7 k - p) * s) (s + 24) y := by
  obtain ⟨M, -, h2, -⟩ := h
  obtain ⟨h3, k', hk', h4, y, h5, -⟩ := (show ¬ Hit0 c p l g M s ∧ Hit1 c p l g M s from h2).2
  have e := hk'.uniq hc hk
  subst e
  exact ⟨h3, h4, c_use_end hc hk h4, y, h5⟩
theorem best1.some_of {S : Int → Prop} {o : Option (Int × Int)} {r : Nat} {y : Int} (h : best1 S o r) (hy : S y) : ∃ q, o = some q := by
  cases o with
  | none => exact absurd hy (h y)
  | some q => exact ⟨q, rfl⟩
theorem ga_45 (hc : cOK c) (hN : 60 ≤ N) : ∀ (d fu p : Nat) (l g : Int) (u : Nat) (I : Nat → Nat → Int32), p ≤ nn c → nn c ≤ p + d → d < fu → 0 ≤ l → l ≤ c.1 1 → 0 ≤ g → g ≤ 49 → u < 64 → I 0 26 = iI u → MC I J c → TB I J c 0 → (p < nn c → ∃ q, enc1 (some q) (J 10 (ix p l g)) (I 11 (ix p l g)) ∧ best1 (SV c 1024 1 p l g) (some q) (nn c - p)) →
    ∃ (I' : Nat → Nat → Int32) (L K : Nat → Int) (uf : Nat), SameG I I' ∧ (∀ q, q ≤ p → I' 17 q = I 17 q) ∧ (∀ q, p < q → q ≤ nn c → I' 17 q = iI (L q)) ∧ I' 0 26 = iI uf ∧ Wa c L K uf d p l g u ∧ f_Model_goAlong_45 N fu b (iI l) (iI p) (iI g) (MH h b I J) = some ((), MH h b I' J) := by
  obtain ⟨n1, n2, n3⟩ := nn_r hc
  have hmo := hc.2.2.1
  have hm := hc.2.1
  have hK := hc.2.2.2.2.2.1
  have hend : ∀ (d fu p : Nat) (l g : Int) (u : Nat) (I : Nat → Nat → Int32), p ≤ nn c → nn c ≤ p → 0 < fu → I 0 26 = iI u → MC I J c → ∃ (I' : Nat → Nat → Int32) (L K : Nat → Int) (uf : Nat), SameG I I' ∧ (∀ q, q ≤ p → I' 17 q = I 17 q) ∧ (∀ q, p < q → q ≤ nn c → I' 17 q = iI (L q)) ∧ I' 0 26 = iI uf ∧ Wa c L K uf d p l g u ∧ f_Model_goAlong_45 N fu b (iI l) (iI p) (iI g) (MH h b I J) = some ((), MH h b I' J) := by
    intro d fu p l g u I h1 h2 hf hu hM
    obtain ⟨fu, rfl⟩ : ∃ q, fu = q + 1 := ⟨fu - 1, by omega⟩
    refine ⟨I, fun _ => 0, fun _ => 0, u, fun _ _ _ _ => rfl, fun _ _ => rfl, fun q a d => by omega, hu, ?_, ?_⟩
    · cases d with
      | zero => exact ⟨h2, rfl⟩
      | succ d => exact Or.inl ⟨h2, rfl⟩
    · show b_Model_goAlong_45 N (f_Model_goAlong_45 N fu) b (iI l) (iI p) (iI g) (MH h b I J) = _
      unfold b_Model_goAlong_45
      simp only [m_rd, Option.bind_some, hM.1.1]
      rw [if_pos ((iI_le (by omega) (by omega) (by omega) (by omega)).mpr (by omega))]
  intro d
  induction d with
  | zero =>
    intro fu p l g u I hp1 hp2 hf hl1 hl2 hg1 hg2 hu2 hu hM hT hD
    exact hend 0 fu p l g u I hp1 (by omega) (by omega) hu hM
  | succ d ih =>
    intro fu p l g u I hp1 hp2 hf hl1 hl2 hg1 hg2 hu2 hu hM hT hD
    by_cases hp : nn c ≤ p
    · exact hend (d + 1) fu p l g u I hp1 hp (by omega) hu hM
    · have hp' : p < nn c := by omega
      obtain ⟨fu, rfl⟩ : ∃ q, fu = q + 1 := ⟨fu - 1, by omega⟩
      obtain ⟨q, he, hb⟩ := hD hp'
      have hstep : f_Model_goAlong_45 N (fu + 1) b (iI l) (iI p) (iI g) (MH h b I J) = f_Model_goAlong_78 N (f_Model_goAlong_45 N fu) N b (iI l) (iI p) (iI g) (iI ((25 * (p : Int) + l) * 50 + g)) (iI (c_sp c p)) 0 (iI (-(c.1 7))) (MH h b I J) := by
        show b_Model_goAlong_45 N (f_Model_goAlong_45 N fu) b (iI l) (iI p) (iI g) (MH h b I J) = _
        unfold b_Model_goAlong_45
        simp only [m_rd, Option.bind_some, hM.1.1, hM.1.2.2.1, m_at, zck_t, m_spanAt hc hM (show 10 ≤ N by omega) (show p < 25 by omega), iI_neg]
        rw [if_neg (fun z => by have := (iI_le (by omega) (by omega) (by omega) (by omega)).mp z; omega)]
      rw [hstep]
      obtain ⟨s1, ⟨hpk, hgo⟩ | ⟨k, hk, hpk, hgo⟩⟩ := ga_78 (h := h) (b := b) (N := N) hc hM hN (f_Model_goAlong_45 N fu) hp' hl1 hl2 hg1 hg2 hT he hb hu hu2 (2 * c.1 7 + 1).toNat N (-(c.1 7)) (by omega) (by omega) (by omega) (fun s' hs' => ⟨fun z => by have := c_fol_r z.1; omega, fun z => by have := c_fol_r z.1; omega⟩)
      · rw [hgo]
        obtain ⟨hfo, hok, y, hy⟩ := hpk.nx0
        obtain ⟨v1, v2⟩ := c_ok_r hok
        have hs7 := c_fol_r hfo
        have hS : SameG I (layI I p l s1 1) := fun i k a1 _ => if_neg (by omega)
        have hT' : TB (layI I p l s1 1) J c 0 := fun q' l' s' a1 a2 a3 a4 a5 a6 => by rw [hS 11 _ (by decide) (by omega)]; exact hT q' l' s' a1 a2 a3 a4 a5 a6
        obtain ⟨I', L, K, uf, hS', hL0, hL1, huf, hW, hgo'⟩ := ih fu (p + 1) (l + s1) (s1 + 24) u (layI I p l s1 1) (by omega) (by omega) (by omega) v1 v2 (by omega) (by omega) hu2 (by rw [← hu]; exact if_neg (by omega)) (hM.sameG hS) hT' (fun hq => by
          obtain ⟨o, eo, bo⟩ := hT' (p + 1) (l + s1) s1 (by omega) (by omega) v1 v2 (by omega) (by omega)
          obtain ⟨q', rfl⟩ := bo.some_of hy
          exact ⟨q', eo, bo⟩)
        refine ⟨I', fun q => if q = p + 1 then l + s1 else L q, fun q => if q = p then -1 else K q, uf, ?_, ?_, ?_, huf, ?_, hgo'⟩
        · exact fun i k a1 a2 => (hS' i k a1 a2).trans (hS i k a1 a2)
        · intro q hq
          rw [hL0 q (by omega)]
          exact if_neg (by omega)
        · intro q hq1 hq2
          show I' 17 q = iI (if q = p + 1 then l + s1 else L q)
          by_cases e : q = p + 1
          · rw [if_pos e, hL0 q (by omega)]
            show (if 17 = 17 ∧ p < q ∧ q ≤ p + 1 then _ else _) = _
            rw [if_pos (by omega), show ((q : Int) - p) = 1 by omega, Int.mul_one]
          · rw [if_neg e]; exact hL1 q (by omega) hq2
        · exact Or.inr ⟨hp', s1, Or.inl ⟨hpk, if_pos rfl, if_pos rfl, hW.congr _ _ _ _ _ (fun q hq => if_neg (by omega)) (fun q hq => if_neg (by omega))⟩⟩
      · rw [hgo]
        obtain ⟨hfo, hus, hok, y, hy⟩ := hpk.nx1 hc hk
        obtain ⟨hk1, hk2, hk3⟩ := id hk
        obtain ⟨⟨r1, r2, r3⟩, r8, r9⟩ := hc.2.2.2.2.2.2.2.1 k hk1
        obtain ⟨v1, v2⟩ := c_ok_r hok
        have hs7 := c_fol_r hfo
        have hto : (c.2 7 k) = (((c.2 7 k).toNat : Nat) : Int) := by omega
        have htoe : iI (c.2 7 k) = iI (((c.2 7 k).toNat : Nat) : Int) := by rw [← hto]
        have hS : SameG I (layI (u2 I 0 26 (iI ((u ||| 2 ^ k : Nat) : Int))) p l s1 (c.2 7 k - p).toNat) := fun i k a1 a2 => by
          show (if _ then _ else _) = _
          rw [if_neg (by omega), u2_n (by omega)]
        have hT' : TB (layI (u2 I 0 26 (iI ((u ||| 2 ^ k : Nat) : Int))) p l s1 (c.2 7 k - p).toNat) J c 0 := fun q' l' s' a1 a2 a3 a4 a5 a6 => by rw [hS 11 _ (by decide) (by omega)]; exact hT q' l' s' a1 a2 a3 a4 a5 a6
        rw [htoe]
        obtain ⟨I', L, K, uf, hS', hL0, hL1, huf, hW, hgo'⟩ := ih fu (c.2 7 k).toNat (l + (c.2 7 k - p) * s1) (s1 + 24) (u ||| 2 ^ k) (layI (u2 I 0 26 (iI ((u ||| 2 ^ k : Nat) : Int))) p l s1 (c.2 7 k - p).toNat) (by omega) (by omega) (by omega) v1 v2 (by omega) (by omega) (bit_lt ⟨u, hu2⟩ ⟨k, by omega⟩) (by
            show (if _ then _ else _) = _
            rw [if_neg (by omega), u2_s]) (hM.sameG hS) hT' (fun hq => by
          obtain ⟨o, eo, bo⟩ := hT' (c.2 7 k).toNat (l + (c.2 7 k - p) * s1) s1 (by omega) (by omega) v1 v2 (by omega) (by omega)
          obtain ⟨q', rfl⟩ := bo.some_of hy
          exact ⟨q', eo, bo⟩)
        refine ⟨I', fun q => if (q : Int) ≤ c.2 7 k then l + s1 * ((q : Int) - p) else L q, fun q => if (q : Int) < c.2 7 k then k else K q, uf, ?_, ?_, ?_, huf, ?_, hgo'⟩
        · exact fun i k a1 a2 => (hS' i k a1 a2).trans (hS i k a1 a2)
        · intro q hq
          rw [hL0 q (by omega)]
          show (if _ then _ else _) = _
          rw [if_neg (by omega), u2_n (by omega)]
        · intro q hq1 hq2
          show I' 17 q = iI (if (q : Int) ≤ c.2 7 k then l + s1 * ((q : Int) - p) else L q)
          by_cases e : (q : Int) ≤ c.2 7 k
          · rw [if_pos e, hL0 q (by omega)]
            show (if 17 = 17 ∧ p < q ∧ q ≤ p + (c.2 7 k - p).toNat then _ else _) = _
            rw [if_pos (by omega)]
          · rw [if_neg e]; exact hL1 q (by omega) hq2
        · refine Or.inr ⟨hp', s1, Or.inr ⟨k, hk, hpk, fun j hj => ⟨?_, if_pos (by omega)⟩, hW.congr _ _ _ _ _ (fun q hq => if_neg (by omega)) (fun q hq => if_neg (by omega))⟩⟩
          show (if _ then _ else _) = _
          rw [if_pos (by omega), show (((p + (j + 1) : Nat) : Int) - p) = (j : Int) + 1 by omega]
end MGO2
