/-! the reference: goAlong whole; the whole state told apart from the program -/
section MGO3
variable {h : zH} {b : Nat} {I : Nat → Nat → Int32} {J : Nat → Nat → Int64} {c : cfg} {N : Nat}
theorem m_goAlong (hc : cOK c) (hM : MC I J c) (hN : 60 ≤ N) (hT : TB I J c 0) (hD : ∀ l : Int, 0 ≤ l → l ≤ c.1 1 → Dn I J c 0 l 49) (hex : ∃ v l, 0 ≤ l ∧ l < c.1 1 + 1 ∧ V0 c l v) :
    ∃ (I' : Nat → Nat → Int32) (L K : Nat → Int) (uf : Nat) (cost : Int), SameG I I' ∧ (∀ q, q ≤ nn c → I' 17 q = iI (L q)) ∧ I' 0 26 = iI uf ∧ Tab c L K uf cost ∧ f_Model_goAlong N b (MH h b I J) = some ((), MH h b I' (u2 J 0 27 (iJ cost))) := by
  obtain ⟨n1, n2, n3⟩ := nn_r hc
  have hm := hc.2.1
  obtain ⟨o, f, hF, hfl⟩ := m_firstLevel (h := h) (b := b) (N := N) hc hM hN hD
  obtain ⟨v, l0, v1, v2, v3⟩ := hex
  obtain ⟨q, rfl⟩ := hF.1.some_of ⟨l0, v1, v2, v3⟩
  obtain ⟨⟨f1, f2⟩, f3, f4⟩ := hF.2.2 q rfl
  obtain ⟨hix, hixc⟩ := ix_in (p := 0) (l := f) (g := 49) (by omega) f1 (by omega) (by omega) (by omega)
  obtain ⟨hok, y, hy, hyv⟩ := id f3
  obtain ⟨ow, ew, bw⟩ := hD f f1 (by omega)
  obtain ⟨w, rfl⟩ := bw.some_of hy
  obtain ⟨ew1, ew2⟩ := id ew
  obtain ⟨⟨⟨w1, w2⟩, w3, w4⟩, w5, w6⟩ := id bw
  obtain ⟨⟨⟨q1, q2⟩, q3, q4⟩, q5, q6⟩ := id hF.1
  have hmin := q6 (1024 * w.1 + w.2 + (1024 * c_pc c 0 f + 1 * 0)) ⟨f, f1, by omega, hok, _, w5, rfl⟩
  have hmin2 := w6 y hy
  have hcost : w.1 + c_pc c 0 f = q.1 := by omega
  have hS0 : SameG I (u2 (u2 I 17 0 (iI f)) 0 26 (iI ((0 : Nat) : Int))) := fun i k a1 a2 => by rw [u2_n (by omega), u2_n (Or.inl a1)]
  have hT0 : TB (u2 (u2 I 17 0 (iI f)) 0 26 (iI ((0 : Nat) : Int))) (u2 J 0 27 (iJ q.1)) c 0 := fun q' l' s' a1 a2 a3 a4 a5 a6 => by
    rw [hS0 11 _ (by decide) (by omega), u2_n (Or.inl (by decide))]; exact hT q' l' s' a1 a2 a3 a4 a5 a6
  have hM0 : MC I (u2 J 0 27 (iJ q.1)) c := ⟨hM.1, hM.2.1, fun k hk => by rw [u2_n (Or.inl (by decide))]; exact hM.2.2 k hk⟩
  obtain ⟨I', L, K, uf, hS', hL0, hL1, huf, hW, hgo⟩ := ga_45 (h := h) (b := b) (N := N) hc hN (nn c) N 0 f 49 0 (u2 (u2 I 17 0 (iI f)) 0 26 (iI ((0 : Nat) : Int))) (J := u2 J 0 27 (iJ q.1)) (by omega) (by omega) (by omega) f1 (by omega) (by omega) (by omega) (by omega) u2_s (hM0.sameG hS0) hT0 (fun _ => ⟨w, ⟨by rw [u2_n (Or.inl (by decide))]; exact ew1, by rw [hS0 11 _ (by decide) (by omega)]; exact ew2⟩, bw⟩)
  refine ⟨I', fun p => if p = 0 then f else L p, K, uf, q.1, fun i k a1 a2 => (hS' i k a1 a2).trans (hS0 i k a1 a2), ?_, huf, ⟨q, rfl, hF, hW.congr _ _ _ _ _ (fun q hq => if_neg (by omega)) (fun _ _ => rfl)⟩, ?_⟩
  · intro p hp
    show I' 17 p = iI (if p = 0 then f else L p)
    by_cases e : p = 0
    · subst e; rw [if_pos rfl, hL0 0 (by omega), u2_n (Or.inl (by decide)), u2_s]
    · rw [if_neg e]; exact hL1 p (by omega) hp
  · have z0 : iI ((0 : Nat) : Int) = (0 : Int32) := iI_0.symm
    have hin0 : vp_in (iI ((0 : Nat) : Int)) 25 := iI_in (by omega) (by omega) (by omega)
    have hcl0 : (iI ((0 : Nat) : Int)).toNatClampNeg = 0 := by decide
    rw [z0] at hin0 hcl0 hgo
    have hat : ∀ g : zH, f_Model_at N (0 : Int32) (iI f) (49 : Int32) g = some (iI ((25 * ((0 : Nat) : Int) + f) * 50 + 49), g) := fun g => by rw [← z0, show (49 : Int32) = iI 49 by decide]; exact m_at
    have hpc : f_Model_placeCost N b (0 : Int32) (iI f) (MH h b (u2 (u2 I 17 0 (iI f)) 0 26 0) J) = some (iJ (c_pc c 0 f), MH h b (u2 (u2 I 17 0 (iI f)) 0 26 0) J) := by
      have := m_placeCost (N := N) (b := b) (h := h) hc (hM.sameG hS0) (p := 0) (l := f) (by omega) f1 (by omega)
      rw [z0] at this; exact this
    unfold f_Model_goAlong
    simp only [m_rd, m_wr, zck_t, hfl, Option.bind_some, ms_17 hin0, hcl0, hat, ma_10 hix, hixc, ew1, hpc, iJ_add, hcost]
    rw [show (49 : Int32) = iI 49 by decide]
    exact hgo
end MGO3
/-- THE STATE: what is told (a.1); a.2.1: 0 has, 1 the used spans' bits, 2 cost, 3 speed, 4 top, 5 least, 6 loss, 7 gain; a.2.2: 0 levels, 1 spans of steps, 2 halves -/
abbrev ast : Type := cfg × (Nat → Int) × (Nat → Nat → Int)
def u1 (f : Nat → Int) (i : Nat) (v : Int) : Nat → Int := fun a => if a = i then v else f a
def aOK (a : ast) : Prop := cOK a.1 ∧ (a.2.1 0 = 0 ∨ (a.2.1 0 = 1 ∧ Tab a.1 (a.2.2 0) (a.2.2 1) (a.2.1 1).toNat (a.2.1 2) ∧ 0 ≤ a.2.1 1)) ∧
  (∀ i, 3 ≤ i → i ≤ 7 → 0 ≤ a.2.1 i ∧ a.2.1 i ≤ 1000) ∧ (∀ p : Nat, (0 ≤ a.2.2 2 p ∧ a.2.2 2 p ≤ 1000) ∧ (p = 0 ∨ nn a.1 ≤ p → a.2.2 2 p = 0))
/-- the reference holds the state -/
def MI (I : Nat → Nat → Int32) (J : Nat → Nat → Int64) (a : ast) : Prop := MC I J a.1 ∧ I 0 24 = iI (a.2.1 0) ∧
  (a.2.1 0 = 1 → (∀ p, p ≤ nn a.1 → I 17 p = iI (a.2.2 0 p)) ∧ I 0 26 = iI (a.2.1 1) ∧ J 0 27 = iJ (a.2.1 2)) ∧
  (I 0 29 = iI (a.2.1 3) ∧ I 0 30 = iI (a.2.1 4) ∧ I 0 31 = iI (a.2.1 5) ∧ I 0 32 = iI (a.2.1 6) ∧ I 0 33 = iI (a.2.1 7)) ∧
  (∀ p, p < 25 → I 18 p = iI (a.2.2 2 p)) ∧
  (I 0 19 = 0 ∨ (I 0 19 = 1 ∧ ∃ L, Ro I J L ∧ FW 6 (Uo a.1 (a.1.1 1 + 1)) L))
/-- nothing is known any more -/
def forg (a : ast) : ast := (a.1, u1 a.2.1 0 0, fun i p => if i = 2 then 0 else a.2.2 i p)
theorem forg_ok {a : ast} {c : cfg} (h : aOK a) (hc : cOK c) : aOK (forg (c, a.2)) := by
  obtain ⟨-, -, h3, -⟩ := h
  refine ⟨hc, Or.inl rfl, fun i a1 a2 => ?_, fun p => ⟨by show (0 : Int) ≤ 0 ∧ (0 : Int) ≤ 1000; omega, fun _ => rfl⟩⟩
  show 0 ≤ (if i = 0 then 0 else a.2.1 i) ∧ (if i = 0 then 0 else a.2.1 i) ≤ 1000
  rw [if_neg (by omega)]; exact h3 i a1 a2
section MFORGET
variable {h : zH} {b : Nat} {N : Nat}
theorem zp_24 {I : Nat → Nat → Int32} {J : Nat → Nat → Int64} {v : Int32} (hv : v = 0 ∨ v = 1) : zpZ (MH h b I J) b 0 24 v = some (MH h b (u2 I 0 24 v) J) := by
  unfold zpZ
  rw [if_pos hv]; exact m_wr.2.2.2.2.2.2.1 v
theorem zp_19 {I : Nat → Nat → Int32} {J : Nat → Nat → Int64} {v : Int32} (hv : v = 0 ∨ v = 1) : zpZ (MH h b I J) b 0 19 v = some (MH h b (u2 I 0 19 v) J) := by
  unfold zpZ
  rw [if_pos hv]; exact m_wr.2.2.2.2.1 v
theorem md_2 {J : Nat → Nat → Int64} : ∀ (d fu k : Nat) (I : Nat → Nat → Int32), k + d = 25 → d < fu → (∀ q, q < k → I 18 q = 0) → ∃ I', (∀ i q, i ≠ 18 → I' i q = I i q) ∧ (∀ q, q < 25 → I' 18 q = 0) ∧ f_Model_dropCurves_2 N fu b (iI k) (MH h b I J) = some ((), MH h b I' J) := by
  have e25 : (25 : Int32) = iI 25 := by decide
  intro d
  induction d with
  | zero =>
    intro fu k I hd hf hq
    obtain ⟨fu, rfl⟩ : ∃ q, fu = q + 1 := ⟨fu - 1, by omega⟩
    refine ⟨I, fun _ _ _ => rfl, fun q h => hq q (by omega), ?_⟩
    show b_Model_dropCurves_2 N (f_Model_dropCurves_2 N fu) b (iI k) (MH h b I J) = _
    unfold b_Model_dropCurves_2
    rw [e25, if_pos ((iI_le (by omega) (by omega) (by omega) (by omega)).mpr (by omega))]
  | succ d ih =>
    intro fu k I hd hf hq
    obtain ⟨fu, rfl⟩ : ∃ q, fu = q + 1 := ⟨fu - 1, by omega⟩
    have hin : vp_in (iI (k : Int)) 25 := iI_in (by omega) (by omega) (by omega)
    have hcl : (iI (k : Int)).toNatClampNeg = k := by rw [iI_cl (by omega) (by omega)]; rfl
    obtain ⟨I', hS, h0, hgo⟩ := ih fu (k + 1) (u2 I 18 k 0) (by omega) (by omega) (fun q h => by
      by_cases e : q = k
      · subst e; exact u2_s
      · rw [u2_n (Or.inr e)]; exact hq q (by omega))
    refine ⟨I', fun i q hi => by rw [hS i q hi, u2_n (Or.inl hi)], h0, ?_⟩
    show b_Model_dropCurves_2 N (f_Model_dropCurves_2 N fu) b (iI k) (MH h b I J) = _
    unfold b_Model_dropCurves_2
    rw [e25, if_neg (fun z => by have := (iI_le (by omega) (by omega) (by omega) (by omega)).mp z; omega)]
    simp only [m_rd, Option.bind_some, ms_18 hin, hcl, iI_1, iI_add]
    exact hgo
theorem m_dropCurves {I : Nat → Nat → Int32} {J : Nat → Nat → Int64} (hN : 60 ≤ N) : ∃ I', (∀ i q, i ≠ 18 → I' i q = I i q) ∧ (∀ q, q < 25 → I' 18 q = 0) ∧ f_Model_dropCurves N b (MH h b I J) = some ((), MH h b I' J) := by
  have := md_2 (h := h) (b := b) (N := N) (J := J) 25 N 0 I (by omega) (by omega) (fun q h => by omega)
  rw [show iI ((0 : Nat) : Int) = (0 : Int32) from iI_0.symm] at this
  exact this
/-- forget: whatever else the state holds, nothing is known then -/
theorem m_forget {I : Nat → Nat → Int32} {J : Nat → Nat → Int64} {a : ast} {c : cfg} (hN : 60 ≤ N) (hM : MC I J c) (h4 : I 0 29 = iI (a.2.1 3) ∧ I 0 30 = iI (a.2.1 4) ∧ I 0 31 = iI (a.2.1 5) ∧ I 0 32 = iI (a.2.1 6) ∧ I 0 33 = iI (a.2.1 7)) : ∃ I', MI I' J (forg (c, a.2)) ∧ (∀ i, i < 24 → i ≠ 19 → I' 0 i = I 0 i) ∧ f_Model_forget N b (MH h b I J) = some ((), MH h b I' J) := by
  obtain ⟨I', hS, h0, hgo⟩ := m_dropCurves (h := h) (b := b) (N := N) (I := u2 (u2 I 0 24 0) 0 19 0) (J := J) hN
  have hE : ∀ i q, i ≠ 18 → ¬ (i = 0 ∧ (q = 24 ∨ q = 19)) → I' i q = I i q := fun i q a1 a2 => by rw [hS i q a1, u2_n (by omega), u2_n (by omega)]
  refine ⟨I', ⟨?_, ?_, fun z => ?_, ?_, fun p hp => by rw [h0 p hp]; exact iI_0, Or.inl ?_⟩, fun i a1 a2 => hE 0 i (by omega) (by omega), ?_⟩
  · obtain ⟨⟨a1, a2, a3, a4, a5, a6⟩, hb, hk⟩ := hM
    refine ⟨⟨?_, ?_, ?_, ?_, ?_, ?_⟩, fun p hp => ?_, fun k hkk => ?_⟩
    · rw [hE 0 0 (by omega) (by omega)]; exact a1
    · rw [hE 0 1 (by omega) (by omega)]; exact a2
    · rw [hE 0 7 (by omega) (by omega)]; exact a3
    · rw [hE 0 8 (by omega) (by omega)]; exact a4
    · rw [hE 0 9 (by omega) (by omega)]; exact a5
    · rw [hE 0 10 (by omega) (by omega)]; exact a6
    · rw [hE 1 p (by omega) (by omega), hE 2 p (by omega) (by omega), hE 3 p (by omega) (by omega), hE 4 p (by omega) (by omega), hE 5 p (by omega) (by omega)]; exact hb p hp
    · rw [hE 6 k (by omega) (by omega), hE 7 k (by omega) (by omega), hE 8 k (by omega) (by omega)]; exact hk k hkk
  · rw [hS 0 24 (by omega), u2_n (Or.inr (by omega)), u2_s]; exact iI_0
  · exact absurd z (show ¬ (0 : Int) = 1 by decide)
  · rw [hE 0 29 (by omega) (by omega), hE 0 30 (by omega) (by omega), hE 0 31 (by omega) (by omega), hE 0 32 (by omega) (by omega), hE 0 33 (by omega) (by omega)]; exact h4
  · rw [hS 0 19 (by omega), u2_s]
  · unfold f_Model_forget
    simp only [zp_24 (Or.inl rfl), zp_19 (Or.inl rfl), Option.bind_some, m_rd, zck_t, hgo]
end MFORGET
