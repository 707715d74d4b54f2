/-! the reference: barred, from place to place -/
section MBARRED2
variable {h : zH} {b : Nat} {J : Nat → Nat → Int64} {c : cfg} {N : Nat}
theorem BA.other {I I' : Nat → Nat → Int32} {i : Nat} {P : Nat → Prop} {K : Nat} (h : BA I i P K) (e : ∀ k, I' i k = I i k) : BA I' i P K := fun k hk => by rw [e k]; exact h k hk
/-- 'next' is cleared -/
theorem mb_114 (r60 : Nat → Int32 → zH → Option (Int32 × zH)) {x1 : Int32} : ∀ (d fu k : Nat) (I : Nat → Nat → Int32), k + d = 1250 → d < fu → BA I 16 (fun _ => False) k →
    ∃ I', (∀ i q, i ≠ 16 → I' i q = I i q) ∧ BA I' 16 (fun _ => False) 1250 ∧ f_Model_barred_114 N r60 fu b x1 (iI k) (MH h b I J) = f_Model_barred_136 N r60 N b x1 (0 : Int32) (MH h b I' J) := by
  have e1250 : (1250 : Int32) = iI 1250 := by decide
  intro d
  induction d with
  | zero =>
    intro fu k I hd hf hB
    obtain ⟨fu, rfl⟩ : ∃ q, fu = q + 1 := ⟨fu - 1, by omega⟩
    refine ⟨I, fun _ _ _ => rfl, by rw [show 1250 = k by omega]; exact hB, ?_⟩
    show b_Model_barred_114 N r60 (f_Model_barred_114 N r60 fu) b x1 (iI k) (MH h b I J) = _
    unfold b_Model_barred_114
    rw [e1250, if_pos ((iI_le (by omega) (by omega) (by omega) (by omega)).mpr (by omega))]
  | succ d ih =>
    intro fu k I hd hf hB
    obtain ⟨fu, rfl⟩ : ∃ q, fu = q + 1 := ⟨fu - 1, by omega⟩
    obtain ⟨I', hS, hB', hgo⟩ := ih fu (k + 1) (u2 I 16 k 0) (by omega) (by omega) (hB.put (Or.inr ⟨rfl, id⟩))
    refine ⟨I', fun i q hi => by rw [hS i q hi, u2_n (Or.inl hi)], hB', ?_⟩
    show b_Model_barred_114 N r60 (f_Model_barred_114 N r60 fu) b x1 (iI k) (MH h b I J) = _
    unfold b_Model_barred_114
    rw [e1250, if_neg (fun z => by have := (iI_le (by omega) (by omega) (by omega) (by omega)).mp z; omega)]
    simp only [m_rd, Option.bind_some, zs_16 (show k < 1250 by omega) (Or.inl rfl), iI_1, iI_add]
    exact hgo
/-- 'next' is copied -/
theorem mb_233 (r60 : Nat → Int32 → zH → Option (Int32 × zH)) {p : Nat} {P : Nat → Prop} : ∀ (d fu k : Nat) (I : Nat → Nat → Int32), k + d = 1250 → d < fu → BA I 16 P 1250 → BA I 15 P k →
    ∃ I', SameB I I' ∧ BA I' 15 P 1250 ∧ f_Model_barred_233 N r60 fu b (iI p) (iI k) (MH h b I J) = r60 b (iI ((p + 1 : Nat) : Int)) (MH h b I' J) := by
  have e1250 : (1250 : Int32) = iI 1250 := by decide
  intro d
  induction d with
  | zero =>
    intro fu k I hd hf hN hB
    obtain ⟨fu, rfl⟩ : ∃ q, fu = q + 1 := ⟨fu - 1, by omega⟩
    refine ⟨I, SameB.rfl, by rw [show 1250 = k by omega]; exact hB, ?_⟩
    show b_Model_barred_233 N r60 (f_Model_barred_233 N r60 fu) b (iI p) (iI k) (MH h b I J) = _
    unfold b_Model_barred_233
    rw [e1250, if_pos ((iI_le (by omega) (by omega) (by omega) (by omega)).mpr (by omega)), iI_1, iI_add]
    rfl
  | succ d ih =>
    intro fu k I hd hf hN hB
    obtain ⟨fu, rfl⟩ : ∃ q, fu = q + 1 := ⟨fu - 1, by omega⟩
    have hk : k < 1250 := by omega
    have hv := hN k hk
    obtain ⟨I', hS, hB', hgo⟩ := ih fu (k + 1) (u2 I 15 k (I 16 k)) (by omega) (by omega) (hN.other (fun q => u2_n (Or.inl (by decide)))) (hB.put hv)
    refine ⟨I', SameB.u15.trans hS, hB', ?_⟩
    show b_Model_barred_233 N r60 (f_Model_barred_233 N r60 fu) b (iI p) (iI k) (MH h b I J) = _
    unfold b_Model_barred_233
    rw [e1250, if_neg (fun z => by have := (iI_le (by omega) (by omega) (by omega) (by omega)).mp z; omega)]
    simp only [m_rd, Option.bind_some, ma_16 (k_in hk).1, (k_in hk).2, zs_15 hk (show I 16 k = 0 ∨ I 16 k = 1 by rcases hv with ⟨e, -⟩ | ⟨e, -⟩ <;> simp [e]), iI_1, iI_add]
    exact hgo
/-- state k leads by slope s to state q -/
def Go (c : cfg) (p k : Nat) (s : Int) (q : Nat) : Prop := c_fol c s ((k % 50 : Nat) : Int) = true ∧ c_ok c (p + 1) (((k / 50 : Nat) : Int) + s) = true ∧ (q : Int) = 50 * (((k / 50 : Nat) : Int) + s) + s + 24
/-- the states reached by the states below K, and by state K with slopes below s -/
def Nx (c : cfg) (p : Nat) (P : Nat → Prop) (K : Nat) (s : Int) (q : Nat) : Prop := ∃ (k : Nat) (s' : Int), P k ∧ Go c p k s' q ∧ (k < K ∨ (k = K ∧ s' < s))
theorem Go.q {p k q : Nat} {s : Int} (hc : cOK c) (hg : Go c p k s q) : q < 1250 := by
  obtain ⟨h1, h2, h3⟩ := hg
  have := c_fol_r h1
  have := c_ok_r h2
  have := hc.2.2.1
  have := hc.2.1
  omega
theorem BA.congr {I : Nat → Nat → Int32} {i : Nat} {P P' : Nat → Prop} {K : Nat} (h : BA I i P K) (e : ∀ k, k < K → (P k ↔ P' k)) : BA I i P' K := fun k hk => by
  rcases h k hk with ⟨a, d⟩ | ⟨a, d⟩
  · exact Or.inl ⟨a, (e k hk).mp d⟩
  · exact Or.inr ⟨a, fun z => d ((e k hk).mpr z)⟩
theorem mb_150 (hc : cOK c) (r60 : Nat → Int32 → zH → Option (Int32 × zH)) (r136 : Nat → Int32 → Int32 → zH → Option (Int32 × zH)) {p : Nat} (hp : p < nn c) {P : Nat → Prop} {k : Nat} (hk : k < 1250) : ∀ (d fu : Nat) (s : Int) (I : Nat → Nat → Int32), s + d = c.1 7 + 1 → -(c.1 7) ≤ s → d < fu → MC I J c → BA I 15 P 1250 → BA I 16 (Nx c p P k s) 1250 →
    ∃ I', (∀ i q, i ≠ 16 → I' i q = I i q) ∧ BA I' 16 (Nx c p P (k + 1) (-(c.1 7))) 1250 ∧ f_Model_barred_150 N r60 r136 fu b (iI p) (iI k) (iI s) (MH h b I J) = r136 b (iI p) (iI ((k + 1 : Nat) : Int)) (MH h b I' J) := by
  obtain ⟨n1, n2, n3⟩ := nn_r hc
  have hmo := hc.2.2.1
  have hm := hc.2.1
  have hdone : ∀ (s : Int) (I : Nat → Nat → Int32), (s = c.1 7 + 1 ∨ ¬ P k) → BA I 16 (Nx c p P k s) 1250 → BA I 16 (Nx c p P (k + 1) (-(c.1 7))) 1250 := by
    intro s I hs hB
    refine hB.congr (fun q _ => ⟨fun ⟨k', s', a1, a2, a3⟩ => ⟨k', s', a1, a2, by omega⟩, fun ⟨k', s', a1, a2, a3⟩ => ⟨k', s', a1, a2, ?_⟩⟩)
    have h7 := c_fol_r a2.1
    by_cases e : k' = k
    · subst e
      rcases hs with hs | hs
      · exact Or.inr ⟨rfl, by omega⟩
      · exact absurd a1 hs
    · exact Or.inl (by omega)
  have ek : iI (k : Int) + (1 : Int32) = iI ((k + 1 : Nat) : Int) := by rw [iI_1, iI_add]; rfl
  intro d
  induction d with
  | zero =>
    intro fu s I hd hs hf hM hR hB
    obtain ⟨fu, rfl⟩ : ∃ q, fu = q + 1 := ⟨fu - 1, by omega⟩
    refine ⟨I, fun _ _ _ => rfl, hdone s I (Or.inl (by omega)) hB, ?_⟩
    show b_Model_barred_150 N r60 r136 (f_Model_barred_150 N r60 r136 fu) b (iI p) (iI k) (iI s) (MH h b I J) = _
    unfold b_Model_barred_150 f_Model_barred_225
    simp only [m_rd, Option.bind_some, hM.1.2.2.1]
    rw [if_pos ((iI_lt (by omega) (by omega) (by omega) (by omega)).mpr (by omega)), ek]
  | succ d ih =>
    intro fu s I hd hs hf hM hR hB
    obtain ⟨fu, rfl⟩ : ∃ q, fu = q + 1 := ⟨fu - 1, by omega⟩
    show ∃ I', _ ∧ _ ∧ b_Model_barred_150 N r60 r136 (f_Model_barred_150 N r60 r136 fu) b (iI p) (iI k) (iI s) (MH h b I J) = _
    unfold b_Model_barred_150 f_Model_barred_225 f_Model_barred_219
    simp only [m_rd, Option.bind_some, hM.1.2.2.1, ma_15 (k_in hk).1, (k_in hk).2]
    rw [if_neg (fun z => by have := (iI_lt (by omega) (by omega) (by omega) (by omega)).mp z; omega)]
    have hskip : (∀ q, q < 1250 → P k → ¬ Go c p k s q) → ∃ I', (∀ i q, i ≠ 16 → I' i q = I i q) ∧ BA I' 16 (Nx c p P (k + 1) (-(c.1 7))) 1250 ∧ f_Model_barred_150 N r60 r136 fu b (iI p) (iI k) (iI s + 1) (MH h b I J) = r136 b (iI p) (iI ((k + 1 : Nat) : Int)) (MH h b I' J) := by
      intro hno
      rw [iI_1, iI_add]
      refine ih fu (s + 1) I (by omega) (by omega) (by omega) hM hR (hB.congr (fun q hq => ⟨fun ⟨k', s', a1, a2, a3⟩ => ⟨k', s', a1, a2, by omega⟩, fun ⟨k', s', a1, a2, a3⟩ => ⟨k', s', a1, a2, ?_⟩⟩))
      by_cases e : k' = k ∧ s' = s
      · obtain ⟨rfl, rfl⟩ := e
        exact absurd a2 (hno q hq a1)
      · omega
    rcases hR k hk with ⟨e1, hPk⟩ | ⟨e1, hPk⟩
    · rw [e1, if_neg (by decide), k_rem hk, k_div hk]
      have hp1 : iI (p : Int) + 1 = iI (((p + 1 : Nat) : Int)) := by rw [iI_1, iI_add]; rfl
      rw [hp1, iI_add (((k / 50 : Nat) : Int)) s]
      simp only [zck_t, m_rd, m_follows (N := N) (b := b) (h := h) hc hM (show -1000 ≤ s by omega) (show s ≤ 1000 by omega) (show (0 : Int) ≤ ((k % 50 : Nat) : Int) by omega) (show ((k % 50 : Nat) : Int) ≤ 49 by omega), Option.bind_some, b1_0, m_may (N := N) (b := b) (h := h) hc hM (show p + 1 < 25 by omega) (show (-2147483648 : Int) ≤ ((k / 50 : Nat) : Int) + s by omega) (show ((k / 50 : Nat) : Int) + s < 2147483648 by omega)]
      by_cases hf1 : c_fol c s ((k % 50 : Nat) : Int) = true
      · rw [if_neg (by rw [hf1]; decide)]
        by_cases ho : c_ok c (p + 1) (((k / 50 : Nat) : Int) + s) = true
        · rw [if_neg (by rw [ho]; decide)]
          have hr := c_ok_r ho
          obtain ⟨q, hq⟩ : ∃ q : Nat, (q : Int) = 50 * (((k / 50 : Nat) : Int) + s) + s + 24 := ⟨(50 * (((k / 50 : Nat) : Int) + s) + s + 24).toNat, by omega⟩
          have hgo : Go c p k s q := ⟨hf1, ho, hq⟩
          have hq2 := hgo.q hc
          have e50 : (50 : Int32) = iI 50 := by decide
          have e24 : (24 : Int32) = iI 24 := by decide
          rw [e50, e24, iI_mul, iI_add, iI_add, ← hq, zs_16 hq2 (Or.inr rfl)]
          simp only [Option.bind_some, iI_1, iI_add]
          have hB1 : BA (u2 I 16 q 1) 16 (Nx c p P k (s + 1)) 1250 := by
            intro q' hq'
            by_cases e : q' = q
            · subst e
              rw [u2_s]
              exact Or.inl ⟨rfl, k, s, hPk, hgo, by omega⟩
            · rw [u2_n (Or.inr e)]
              rcases hB q' hq' with ⟨a, k', s', a1, a2, a3⟩ | ⟨a, a1⟩
              · exact Or.inl ⟨a, k', s', a1, a2, by omega⟩
              · refine Or.inr ⟨a, fun ⟨k', s', b1, b2, b3⟩ => a1 ⟨k', s', b1, b2, ?_⟩⟩
                by_cases e2 : k' = k ∧ s' = s
                · obtain ⟨rfl, rfl⟩ := e2
                  have := b2.2.2
                  omega
                · omega
          obtain ⟨I', hS, hB', hg⟩ := ih fu (s + 1) (u2 I 16 q 1) (by omega) (by omega) (by omega) (hM.sameB SameB.u16) (hR.other (fun q' => u2_n (Or.inl (by decide)))) hB1
          exact ⟨I', fun i q' hi => by rw [hS i q' hi, u2_n (Or.inl hi)], hB', hg⟩
        · have ho' : c_ok c (p + 1) (((k / 50 : Nat) : Int) + s) = false := by simpa using ho
          rw [if_pos ho']
          exact hskip (fun q _ _ z => ho z.2.1)
      · have hf1' : c_fol c s ((k % 50 : Nat) : Int) = false := by simpa using hf1
        rw [if_pos hf1']
        exact hskip (fun q _ _ z => hf1 z.1)
    · rw [e1, if_pos rfl, ek]
      exact ⟨I, fun _ _ _ => rfl, hdone s I (Or.inr hPk) hB, rfl⟩
end MBARRED2
