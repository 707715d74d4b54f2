/-! the reference: barred whole -/
/-- the first place that cannot be reached, or -1 -/
def Bar (c : cfg) (r : Int) : Prop := (r = -1 ∧ ∀ q, q ≤ nn c → ∃ l g, Fr c q l g) ∨ ∃ q : Nat, r = q ∧ q ≤ nn c ∧ (∀ l g, ¬ Fr c q l g) ∧ ∀ q', q' < q → ∃ l g, Fr c q' l g
theorem Bar.uniq {c : cfg} {r r' : Int} (h : Bar c r) (h' : Bar c r') : r = r' := by
  rcases h with ⟨e, a⟩ | ⟨q, e, a1, a2, a3⟩ <;> rcases h' with ⟨e', a'⟩ | ⟨q', e', b1, b2, b3⟩
  · omega
  · obtain ⟨l, g, hf⟩ := a q' b1; exact absurd hf (b2 l g)
  · obtain ⟨l, g, hf⟩ := a' q a1; exact absurd hf (a2 l g)
  · rcases Nat.lt_trichotomy q q' with z | z | z
    · obtain ⟨l, g, hf⟩ := b3 q z; exact absurd hf (a2 l g)
    · omega
    · obtain ⟨l, g, hf⟩ := a3 q' z; exact absurd hf (b2 l g)
theorem Bar.r {c : cfg} {r : Int} (h : Bar c r) : -1 ≤ r ∧ r ≤ nn c := by
  rcases h with ⟨e, -⟩ | ⟨q, e, a1, -⟩ <;> omega
theorem Fr.r {c : cfg} (hc : cOK c) {p : Nat} {l g : Int} (h : Fr c p l g) : (0 ≤ l ∧ l ≤ c.1 1) ∧ 0 ≤ g ∧ g ≤ 49 ∧ (p = 0 → g = 49) ∧ (0 < p → g ≤ 48) := by
  have hmo := hc.2.2.1
  cases p with
  | zero => exact ⟨c_ok_r h.1, by have := h.2; omega⟩
  | succ p =>
    obtain ⟨l0, g0, s, -, h2, -, h4, h5⟩ := h
    have := c_fol_r h2
    exact ⟨c_ok_r h5, by omega⟩
section MBARRED3
variable {h : zH} {b : Nat} {J : Nat → Nat → Int64} {c : cfg} {N : Nat}
theorem mb_136 (hc : cOK c) (hN : 60 ≤ N) (r60 : Nat → Int32 → zH → Option (Int32 × zH)) {p : Nat} (hp : p < nn c) {P : Nat → Prop} : ∀ (d fu k : Nat) (I : Nat → Nat → Int32), k + d = 1250 → d < fu → MC I J c → BA I 15 P 1250 → BA I 16 (Nx c p P k (-(c.1 7))) 1250 →
    ∃ I', (∀ i q, i ≠ 16 → I' i q = I i q) ∧ BA I' 16 (Nx c p P 1250 (-(c.1 7))) 1250 ∧ f_Model_barred_136 N r60 fu b (iI p) (iI k) (MH h b I J) = f_Model_barred_233 N r60 N b (iI p) (0 : Int32) (MH h b I' J) := by
  have hmo := hc.2.2.1
  have e1250 : (1250 : Int32) = iI 1250 := by decide
  intro d
  induction d with
  | zero =>
    intro fu k I hd hf hM hR hB
    obtain ⟨fu, rfl⟩ : ∃ q, fu = q + 1 := ⟨fu - 1, by omega⟩
    refine ⟨I, fun _ _ _ => rfl, by rw [show 1250 = k by omega] at hB ⊢; exact hB, ?_⟩
    show b_Model_barred_136 N r60 (f_Model_barred_136 N r60 fu) b (iI p) (iI k) (MH h b I J) = _
    unfold b_Model_barred_136
    rw [e1250, if_pos ((iI_le (by omega) (by omega) (by omega) (by omega)).mpr (by omega))]
  | succ d ih =>
    intro fu k I hd hf hM hR hB
    obtain ⟨fu, rfl⟩ : ∃ q, fu = q + 1 := ⟨fu - 1, by omega⟩
    obtain ⟨I1, hS1, hB1, hgo1⟩ := mb_150 (h := h) (b := b) (N := N) hc r60 (f_Model_barred_136 N r60 fu) hp (P := P) (show k < 1250 by omega) (2 * c.1 7 + 1).toNat N (-(c.1 7)) I (by omega) (by omega) (by omega) hM hR hB
    have hM1 : MC I1 J c := hM.sameB (fun i q _ a => hS1 i q a)
    obtain ⟨I2, hS2, hB2, hgo2⟩ := ih fu (k + 1) I1 (by omega) (by omega) hM1 (hR.other (fun q => hS1 15 q (by decide))) hB1
    refine ⟨I2, fun i q hi => (hS2 i q hi).trans (hS1 i q hi), hB2, ?_⟩
    show b_Model_barred_136 N r60 (f_Model_barred_136 N r60 fu) b (iI p) (iI k) (MH h b I J) = _
    unfold b_Model_barred_136
    rw [e1250, if_neg (fun z => by have := (iI_le (by omega) (by omega) (by omega) (by omega)).mp z; omega)]
    simp only [m_rd, Option.bind_some, hM.1.2.2.1, iI_neg]
    rw [hgo1, hgo2]
theorem Nx_all (hc : cOK c) {p q : Nat} (hq : q < 1250) : Nx c p (Fk c p) 1250 (-(c.1 7)) q ↔ Fk c (p + 1) q := by
  have hmo := hc.2.2.1
  have hm := hc.2.1
  constructor
  · rintro ⟨k, s, h1, ⟨h2, h3, h4⟩, -⟩
    have := c_fol_r h2
    refine ⟨_, _, s, h1, h2, by omega, by omega, ?_⟩
    rw [show ((q / 50 : Nat) : Int) = ((k / 50 : Nat) : Int) + s by omega]
    exact h3
  · rintro ⟨l0, g0, s, h1, h2, h3, h4, h5⟩
    obtain ⟨⟨r1, r2⟩, r3, r4, -⟩ := h1.r hc
    have := c_fol_r h2
    obtain ⟨k, hk⟩ : ∃ k : Nat, (k : Int) = 50 * l0 + g0 := ⟨(50 * l0 + g0).toNat, by omega⟩
    have e1 : ((k / 50 : Nat) : Int) = l0 := by omega
    have e2 : ((k % 50 : Nat) : Int) = g0 := by omega
    refine ⟨k, s, ?_, ⟨?_, ?_, ?_⟩, Or.inl (by omega)⟩
    · unfold Fk; rw [e1, e2]; exact h1
    · rw [e2]; exact h2
    · rw [e1, ← h3]; exact h5
    · rw [e1]; omega
theorem Fk_ex (hc : cOK c) {p : Nat} : (∃ q, q < 1250 ∧ Fk c p q) ↔ ∃ l g, Fr c p l g := by
  have hm := hc.2.1
  constructor
  · rintro ⟨q, -, h⟩; exact ⟨_, _, h⟩
  · rintro ⟨l, g, h⟩
    obtain ⟨⟨r1, r2⟩, r3, r4, -⟩ := h.r hc
    refine ⟨(50 * l + g).toNat, by omega, ?_⟩
    unfold Fk
    rw [show (((50 * l + g).toNat / 50 : Nat) : Int) = l by omega, show (((50 * l + g).toNat % 50 : Nat) : Int) = g by omega]
    exact h
theorem mb_60 (hc : cOK c) (hN : 2000 ≤ N) : ∀ (d fu p : Nat) (I : Nat → Nat → Int32), p + d = nn c → d < fu → MC I J c → BA I 15 (Fk c p) 1250 → (∀ q, q < p → ∃ l g, Fr c q l g) →
    ∃ I' r, SameB I I' ∧ Bar c r ∧ f_Model_barred_60 N fu b (iI p) (MH h b I J) = some (iI r, MH h b I' J) := by
  obtain ⟨n1, n2, n3⟩ := nn_r hc
  intro d
  induction d with
  | zero =>
    intro fu p I hd hf hM hB hpre
    obtain ⟨fu, rfl⟩ : ∃ q, fu = q + 1 := ⟨fu - 1, by omega⟩
    rcases mb_64 (h := h) (b := b) (N := N) hM hc (f_Model_barred_60 N fu) (show p ≤ nn c by omega) hB 1250 N 0 0 (by omega) (by omega) (Or.inr ⟨rfl, fun q hq => by omega⟩) with ⟨hq, hgo⟩ | ⟨hq, hgo⟩
    · refine ⟨I, -1, SameB.rfl, Or.inl ⟨rfl, fun q hqn => ?_⟩, ?_⟩
      · by_cases e : q = p
        · subst e; exact (Fk_ex hc).mp hq
        · exact hpre q (by omega)
      · rw [if_pos (by omega)] at hgo
        exact hgo
    · refine ⟨I, p, SameB.rfl, Or.inr ⟨p, rfl, by omega, fun l g hf => ?_, hpre⟩, hgo⟩
      obtain ⟨q, a1, a2⟩ := (Fk_ex hc).mpr ⟨l, g, hf⟩
      exact hq q a1 a2
  | succ d ih =>
    intro fu p I hd hf hM hB hpre
    obtain ⟨fu, rfl⟩ : ∃ q, fu = q + 1 := ⟨fu - 1, by omega⟩
    rcases mb_64 (h := h) (b := b) (N := N) hM hc (f_Model_barred_60 N fu) (show p ≤ nn c by omega) hB 1250 N 0 0 (by omega) (by omega) (Or.inr ⟨rfl, fun q hq => by omega⟩) with ⟨hq, hgo⟩ | ⟨hq, hgo⟩
    · rw [if_neg (by omega)] at hgo
      have z0 : iI ((0 : Nat) : Int) = (0 : Int32) := iI_0.symm
      obtain ⟨I1, hS1, hB1, hgo1⟩ := mb_114 (h := h) (b := b) (J := J) (N := N) (f_Model_barred_60 N fu) (x1 := iI p) 1250 N 0 I (by omega) (by omega) (fun k hk => by omega)
      rw [z0] at hgo1
      have hM1 : MC I1 J c := hM.sameB (fun i q _ a => hS1 i q a)
      obtain ⟨I2, hS2, hB2, hgo2⟩ := mb_136 (h := h) (b := b) (N := N) hc (by omega) (f_Model_barred_60 N fu) (show p < nn c by omega) (P := Fk c p) 1250 N 0 I1 (by omega) (by omega) hM1 (hB.other (fun q => hS1 15 q (by decide))) (hB1.congr (fun k _ => ⟨False.elim, fun ⟨k', s', a1, a2, a3⟩ => by have := c_fol_r a2.1; omega⟩))
      rw [z0] at hgo2
      have hB2' : BA I2 16 (Fk c (p + 1)) 1250 := hB2.congr (fun q hq => Nx_all hc hq)
      obtain ⟨I3, hS3, hB3, hgo3⟩ := mb_233 (h := h) (b := b) (J := J) (N := N) (f_Model_barred_60 N fu) (p := p) 1250 N 0 I2 (by omega) (by omega) hB2' (fun k hk => by omega)
      rw [z0] at hgo3
      have hM3 : MC I3 J c := (hM1.sameB (fun i q _ a => hS2 i q a)).sameB hS3
      obtain ⟨I4, r, hS4, hr, hgo4⟩ := ih fu (p + 1) I3 (by omega) (by omega) hM3 hB3 (fun q hq' => by
        by_cases e : q = p
        · subst e; exact (Fk_ex hc).mp hq
        · exact hpre q (by omega))
      refine ⟨I4, r, fun i q a1 a2 => ?_, hr, ?_⟩
      · rw [hS4 i q a1 a2, hS3 i q a1 a2, hS2 i q a2, hS1 i q a2]
      · show f_Model_barred_64 N (f_Model_barred_60 N fu) N b (iI p) 0 0 (MH h b I J) = _
        rw [← z0] at hgo ⊢
        rw [hgo, z0, hgo1, hgo2, hgo3, hgo4]
    · refine ⟨I, p, SameB.rfl, Or.inr ⟨p, rfl, by omega, fun l g hf => ?_, hpre⟩, hgo⟩
      obtain ⟨q, a1, a2⟩ := (Fk_ex hc).mpr ⟨l, g, hf⟩
      exact hq q a1 a2
theorem m_barred {I : Nat → Nat → Int32} (hc : cOK c) (hN : 2000 ≤ N) (hM : MC I J c) : ∃ I' r, SameB I I' ∧ Bar c r ∧ f_Model_barred N b (MH h b I J) = some (iI r, MH h b I' J) := by
  have z0 : iI ((0 : Nat) : Int) = (0 : Int32) := iI_0.symm
  obtain ⟨I1, hS1, hB1, hgo1⟩ := mb_2 (h := h) (b := b) (J := J) (N := N) hc 1250 N 0 I (by omega) (by omega) hM (fun k hk => by omega)
  obtain ⟨I2, r, hS2, hr, hgo2⟩ := mb_60 (h := h) (b := b) (N := N) hc hN (nn c) N 0 I1 (by omega) (by have := (nn_r hc).2.2; omega) (hM.sameB hS1) hB1 (fun q hq => by omega)
  refine ⟨I2, r, hS1.trans hS2, hr, ?_⟩
  unfold f_Model_barred
  rw [z0] at hgo1 hgo2
  rw [hgo1, hgo2]
end MBARRED3
