/-! the reference: list, the six least costs of one state -/
theorem MC.sameL {I I' : Nat → Nat → Int32} {J J' : Nat → Nat → Int64} {c : cfg} {st : Nat} (h : MC I J c) (hS : SameL I J I' J' st) : MC I' J' c := by
  obtain ⟨⟨a1, a2, a3, a4, a5, a6⟩, hb, hk⟩ := h
  refine ⟨⟨?_, ?_, ?_, ?_, ?_, ?_⟩, fun p hp => ?_, fun k hkk => ?_⟩
  · rw [hS.1 0 0 (by omega)]; exact a1
  · rw [hS.1 0 1 (by omega)]; exact a2
  · rw [hS.1 0 7 (by omega)]; exact a3
  · rw [hS.1 0 8 (by omega)]; exact a4
  · rw [hS.1 0 9 (by omega)]; exact a5
  · rw [hS.1 0 10 (by omega)]; exact a6
  · rw [hS.1 1 p (by omega), hS.1 2 p (by omega), hS.1 3 p (by omega), hS.1 4 p (by omega), hS.1 5 p (by omega)]; exact hb p hp
  · rw [hS.1 6 k (by omega), hS.1 7 k (by omega), hS.1 8 k (by omega), hS.2 9 k (by omega)]; exact hk k hkk
/-- a state's six least costs stand in the tables -/
def Dl (I : Nat → Nat → Int32) (J : Nat → Nat → Int64) (c : cfg) (p : Nat) (l g : Int) : Prop := ∃ L, Rw I J (ix p l g) L ∧ FW 6 (SV c 1 0 p l g) L ∧ ∀ x ∈ L, 0 ≤ x ∧ x ≤ ((nn c - p : Nat) : Int) * 10000000000
def TL (I : Nat → Nat → Int32) (J : Nat → Nat → Int64) (c : cfg) (p : Nat) : Prop := ∀ (q : Nat) (l s : Int), p < q → q ≤ nn c → 0 ≤ l → l ≤ c.1 1 → -(c.1 7) ≤ s → s ≤ c.1 7 → Dl I J c q l (s + 24)
theorem Dl.other {I I' : Nat → Nat → Int32} {J J' : Nat → Nat → Int64} {c : cfg} {st q : Nat} {l g : Int} (h : Dl I J c q l g) (hS : SameL I J I' J' st) (hne : ix q l g ≠ st) : Dl I' J' c q l g := by
  obtain ⟨L, h1, h2⟩ := h
  exact ⟨L, h1.other hS hne, h2⟩
theorem TL.other {I I' : Nat → Nat → Int32} {J J' : Nat → Nat → Int64} {c : cfg} (hc : cOK c) {p : Nat} {l g : Int} (hT : TL I J c p) (hS : SameL I J I' J' (ix p l g)) (hl1 : 0 ≤ l) (hl2 : l ≤ c.1 1) (hg1 : 0 ≤ g) (hg2 : g ≤ 49) : TL I' J' c p := by
  have hmo := hc.2.2.1
  have hm := hc.2.1
  intro q l' s h1 h2 h3 h4 h5 h6
  refine (hT q l' s h1 h2 h3 h4 h5 h6).other hS (fun e => ?_)
  have := ix_inj h3 (by omega) (by omega) (by omega) hl1 (by omega) hg1 hg2 e
  omega
/-- the costs by slopes below s -/
def Ul (c : cfg) (p : Nat) (l g s v : Int) : Prop := ∃ s' : Int, s' < s ∧ c_fol c s' g = true ∧ (SVa c 1 0 p l s' v ∨ ∃ k, c_at c k p ∧ SVk c 1 0 k p l s' v)
theorem Ul_s {c : cfg} {p : Nat} {l g s v : Int} : Ul c p l g (s + 1) v ↔ Ul c p l g s v ∨ (c_fol c s g = true ∧ (SVa c 1 0 p l s v ∨ ∃ k, c_at c k p ∧ SVk c 1 0 k p l s v)) := by
  constructor
  · rintro ⟨s', h1, h2, h3⟩
    by_cases e : s' = s
    · subst e; exact Or.inr ⟨h2, h3⟩
    · exact Or.inl ⟨s', by omega, h2, h3⟩
  · rintro (⟨s', h1, h2, h3⟩ | ⟨h2, h3⟩)
    · exact ⟨s', by omega, h2, h3⟩
    · exact ⟨s, by omega, h2, h3⟩
/-- a row that holds the six least of S, of the state (p, l, g) -/
def Cur (I : Nat → Nat → Int32) (J : Nat → Nat → Int64) (c : cfg) (p : Nat) (l g : Int) (S : Int → Prop) : Prop := ∃ L, Rw I J (ix p l g) L ∧ FW 6 S L ∧ ∀ x ∈ L, 0 ≤ x ∧ x ≤ ((nn c - p : Nat) : Int) * 10000000000
theorem Cur.congr {I : Nat → Nat → Int32} {J : Nat → Nat → Int64} {c : cfg} {p : Nat} {l g : Int} {S S' : Int → Prop} (h : Cur I J c p l g S) (e : ∀ v, S v ↔ S' v) : Cur I J c p l g S' := by
  obtain ⟨L, h1, h2, h3⟩ := h
  exact ⟨L, h1, h2.congr e, h3⟩
section MLIST2
variable {h : zH} {b : Nat} {c : cfg} {N : Nat}
abbrev wlR : Type := Nat → Int32 → Int32 → Int32 → Int32 → Int32 → Int32 → zH → Option (Unit × zH)
/-- one join with an entry -/
theorem wl_join (hc : cOK c) (hN : 20 ≤ N) {I : Nat → Nat → Int32} {J : Nat → Nat → Int64} {p q : Nat} {l g l' s : Int} (hp : p < nn c) (hl1 : 0 ≤ l) (hl2 : l ≤ c.1 1) (hg1 : 0 ≤ g) (hg2 : g ≤ 49) (hq1 : p < q) (hq2 : q ≤ nn c) (hl1' : 0 ≤ l') (hl2' : l' ≤ c.1 1) (hs1 : -(c.1 7) ≤ s) (hs2 : s ≤ c.1 7) (hT : TL I J c p) {S : Int → Prop} (hC : Cur I J c p l g S) {d : Int} (hd1 : 0 ≤ d) (hd2 : d ≤ 10000000000) :
    ∃ I' J', SameL I J I' J' (ix p l g) ∧ Cur I' J' c p l g (fun v => S v ∨ ∃ y, SV c 1 0 q l' (s + 24) y ∧ v = y + d) ∧ f_Model_listFrom N b (iI (ix p l g)) (iI (ix q l' (s + 24))) (iJ d) (MH h b I J) = some ((), MH h b I' J') := by
  obtain ⟨n1, n2, n3⟩ := nn_r hc
  have hmo := hc.2.2.1
  have hm := hc.2.1
  have r1 := ix_r (p := p) (l := l) (g := g) (by omega) hl1 (by omega) hg1 hg2
  have r2 := ix_r (p := q) (l := l') (g := s + 24) (by omega) hl1' (by omega) (by omega) (by omega)
  obtain ⟨L, h1, h2, h3⟩ := hC
  obtain ⟨M, m1, m2, m3⟩ := hT q l' s hq1 hq2 hl1' hl2' hs1 hs2
  have hne : ix q l' (s + 24) ≠ ix p l g := fun e => by
    have := ix_inj hl1' (by omega) (by omega) (by omega) hl1 (by omega) hg1 hg2 e
    omega
  obtain ⟨I', J', hS, hR, hgo⟩ := m_listFrom (h := h) (b := b) (N := N) hN (st := ix p l g) (t := ix q l' (s + 24)) (by unfold ix; omega) (by unfold ix; omega) hne hd1 (by omega) m1 h1 (fun x hx => by have := m3 x hx; omega) (fun x hx => by have := h3 x hx; unfold inJ; omega)
  refine ⟨I', J', hS, ⟨_, hR, h2.union (m2.shift d), putL_in h3 (fun x hx => ?_)⟩, hgo⟩
  obtain ⟨y, hy, rfl⟩ := List.mem_map.mp hx
  have := m3 y hy
  omega
theorem wl_98 (hc : cOK c) (hN : 30 ≤ N) (rc : wlR) {I : Nat → Nat → Int32} {J : Nat → Nat → Int64} (hM : MC I J c) {p : Nat} {l g s : Int} (hp : p < nn c) (hl1 : 0 ≤ l) (hl2 : l ≤ c.1 1) (hg1 : 0 ≤ g) (hg2 : g ≤ 49) (hs1 : -(c.1 7) ≤ s) (hs2 : s ≤ c.1 7) (hT : TL I J c p) {S : Int → Prop} (hC : Cur I J c p l g S) :
    ∃ I' J', SameL I J I' J' (ix p l g) ∧ Cur I' J' c p l g (fun v => S v ∨ ∃ k, c_at c k p ∧ SVk c 1 0 k p l s v) ∧ f_Model_list_98 N rc b (iI p) (iI l) (iI g) (iI (ix p l g)) (iI (c_sp c p)) (iI s) (MH h b I J) = rc b (iI p) (iI l) (iI g) (iI (ix p l g)) (iI (c_sp c p)) (iI (s + 1)) (MH h b I' J') := by
  obtain ⟨n1, n2, n3⟩ := nn_r hc
  have hmo := hc.2.2.1
  have hm := hc.2.1
  have hK := hc.2.2.2.2.2.1
  have hskip : ∀ x5 : Int32, f_Model_list_180 N rc b (iI p) (iI l) (iI g) (iI (ix p l g)) x5 (iI s) (MH h b I J) = rc b (iI p) (iI l) (iI g) (iI (ix p l g)) x5 (iI (s + 1)) (MH h b I J) := by
    intro x5
    unfold f_Model_list_180
    rw [iI_1, iI_add]
  rcases c_sp_spec hc (p := p) with ⟨es, hno⟩ | ⟨k, es, hk, huniq⟩
  · refine ⟨I, J, SameL.rfl, hC.congr (fun v => ⟨Or.inl, fun z => z.elim id (fun ⟨k, hk, _⟩ => absurd hk (hno k))⟩), ?_⟩
    unfold f_Model_list_98
    rw [es, if_pos ((iI_lz (by omega) (by omega)).mpr (by omega))]
    exact hskip _
  · obtain ⟨hk1, hk2, hk3⟩ := hk
    obtain ⟨⟨r1, r2, r3⟩, r8, r9⟩ := hc.2.2.2.2.2.2.2.1 k hk1
    obtain ⟨e6, e7, e8, e9⟩ := hM.2.2 k hk1
    have hin : vp_in (iI k) 6 := iI_in (by omega) (by omega) (by omega)
    have hcl : (iI k).toNatClampNeg = k := by rw [iI_cl (by omega) (by omega)]; rfl
    have hiff : ∀ v, (∃ k, c_at c k p ∧ SVk c 1 0 k p l s v) ↔ SVk c 1 0 k p l s v := fun v => ⟨fun ⟨k', hk', hv⟩ => by rw [huniq k' hk'] at hv; exact hv, fun hv => ⟨k, ⟨hk1, hk2, hk3⟩, hv⟩⟩
    unfold f_Model_list_98
    rw [es, if_neg (fun z => by have := (iI_lz (by omega) (by omega)).mp z; omega)]
    simp only [m_rd, zck_t, m_mayUse hc hM hN hk1 hl1 (by omega) (show -24 ≤ s by omega) (show s ≤ 24 by omega), Option.bind_some, b1_0]
    by_cases hu : c_use c k l s = true
    · have hend := c_use_end hc ⟨hk1, hk2, hk3⟩ hu
      obtain ⟨v1, v2⟩ := c_ok_r hend
      rw [if_neg (by simp [hu])]
      have hto : (c.2 7 k) = (((c.2 7 k).toNat : Nat) : Int) := by omega
      have htoe : iI (c.2 7 k) = iI (((c.2 7 k).toNat : Nat) : Int) := by rw [← hto]
      obtain ⟨pc1, pc2⟩ := c_pc_r hc (p := (c.2 7 k).toNat) (by omega) v1 v2
      obtain ⟨I', J', hS, hC', hgo⟩ := wl_join (h := h) (b := b) (N := N) hc (by omega) (q := (c.2 7 k).toNat) (l' := l + (c.2 7 k - p) * s) (s := s) hp hl1 hl2 hg1 hg2 (by omega) (by omega) v1 v2 hs1 hs2 hT hC (d := c_pc c (c.2 7 k).toNat (l + (c.2 7 k - p) * s) + c.2 9 k) (by omega) (by omega)
      refine ⟨I', J', hS, hC'.congr (fun v => ?_), ?_⟩
      · rw [hiff]
        unfold SVk
        constructor
        · rintro (z | ⟨y, hy, hv⟩)
          · exact Or.inl z
          · exact Or.inr ⟨hu, y, hy, by rw [hv]; simp⟩
        · rintro (z | ⟨-, y, hy, hv⟩)
          · exact Or.inl z
          · exact Or.inr ⟨y, hy, by rw [hv]; simp⟩
      · have e24 : (24 : Int32) = iI 24 := by decide
        have hr := ix_r (p := (c.2 7 k).toNat) (l := l + (c.2 7 k - p) * s) (g := s + 24) (by omega) v1 (by omega) (by omega) (by omega)
        have hixe : (25 * c.2 7 k + (l + (c.2 7 k - p) * s)) * 50 + (s + 24) = ((ix (c.2 7 k).toNat (l + (c.2 7 k - p) * s) (s + 24) : Nat) : Int) := by unfold ix; omega
        simp only [ma_7 hin, hcl, e7, Option.bind_some, e24, iI_sub, iI_mul, iI_add, m_at, m_rd, zck_t]
        rw [hixe, htoe, m_placeCost hc hM (by omega) v1 (by omega)]
        simp only [Option.bind_some, ma_9 hin, m_rd, hcl, e9, iJ_add, hgo, zck_t]
        unfold f_Model_list_180
        rw [iI_1, iI_add]
    · have hu' : c_use c k l s = false := by simpa using hu
      rw [if_pos hu']
      exact ⟨I, J, SameL.rfl, hC.congr (fun v => by rw [hiff]; exact ⟨Or.inl, fun z => z.elim id (fun z => absurd z.1 hu)⟩), hskip _⟩
end MLIST2
