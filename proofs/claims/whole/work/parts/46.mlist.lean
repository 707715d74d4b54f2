/-! the reference: listFrom, a row joined with another's numbers, each and more -/
/-- nothing but one row and its length has changed -/
def SameL (I : Nat → Nat → Int32) (J : Nat → Nat → Int64) (I' : Nat → Nat → Int32) (J' : Nat → Nat → Int64) (st : Nat) : Prop := (∀ i k, (i ≠ 13 ∨ k ≠ st) → I' i k = I i k) ∧ ∀ i k, (i ≠ 12 ∨ k < 6 * st ∨ 6 * st + 6 ≤ k) → J' i k = J i k
theorem SameL.rfl {I : Nat → Nat → Int32} {J : Nat → Nat → Int64} {st : Nat} : SameL I J I J st := ⟨fun _ _ _ => Eq.refl _, fun _ _ _ => Eq.refl _⟩
theorem SameL.trans {I I' I2 : Nat → Nat → Int32} {J J' J2 : Nat → Nat → Int64} {st : Nat} (h : SameL I J I' J' st) (h2 : SameL I' J' I2 J2 st) : SameL I J I2 J2 st := ⟨fun i k hi => (h2.1 i k hi).trans (h.1 i k hi), fun i k hi => (h2.2 i k hi).trans (h.2 i k hi)⟩
/-- a state's row -/
def Rw (I : Nat → Nat → Int32) (J : Nat → Nat → Int64) (st : Nat) (L : List Int) : Prop := (I 13 st = iI L.length ∧ L.length ≤ 6 ∧ L.Pairwise (· < ·)) ∧ RowL J 12 (6 * st) L
theorem Rw.other {I I' : Nat → Nat → Int32} {J J' : Nat → Nat → Int64} {st t : Nat} {M : List Int} (h : Rw I J t M) (hS : SameL I J I' J' st) (hne : t ≠ st) : Rw I' J' t M := by
  obtain ⟨⟨h1, h2, h3⟩, h4⟩ := h
  refine ⟨⟨by rw [hS.1 13 t (Or.inr hne)]; exact h1, h2, h3⟩, fun k x hk => ?_⟩
  have hl := (List.getElem?_eq_some_iff.mp hk).1
  rw [hS.2 12 (6 * t + k) (by omega)]
  exact h4 k x hk
theorem putL_len {w : Nat} {L M : List Int} (h : L.length ≤ w) : (putL w L M).length ≤ w := by
  induction M generalizing L with
  | nil => exact h
  | cons x t ih => exact ih (by simp; omega)
theorem putL_in {w : Nat} {L M : List Int} {P : Int → Prop} (h : ∀ x ∈ L, P x) (h2 : ∀ x ∈ M, P x) : ∀ x ∈ putL w L M, P x := by
  induction M generalizing L with
  | nil => exact h
  | cons y t ih =>
    refine ih (fun x hx => ?_) (fun x hx => h2 x (List.mem_cons_of_mem _ hx))
    rcases (insr_mem y L x).mp (List.mem_of_mem_take hx) with e | e
    · subst e; exact h2 x List.mem_cons_self
    · exact h x e
section MLIST
variable {h : zH} {b : Nat} {N : Nat}
theorem ml_from (hN : 20 ≤ N) {st t : Nat} (hst : st < 31250) (ht : t < 31250) (hne : t ≠ st) {d : Int} (hd1 : 0 ≤ d) (hd2 : d ≤ 100000000000000000) : ∀ (B A : List Int) (fu : Nat) (I : Nat → Nat → Int32) (J : Nat → Nat → Int64) (L : List Int), Rw I J t (A ++ B) → Rw I J st L → (∀ x ∈ A ++ B, 0 ≤ x ∧ x ≤ 100000000000000000) → (∀ x ∈ L, inJ x) → B.length < fu →
    ∃ I' J', SameL I J I' J' st ∧ Rw I' J' st (putL 6 L (B.map (fun y => y + d))) ∧ f_Model_listFrom_3 N fu b (iI st) (iI t) (iJ d) (iI A.length) (MH h b I J) = some ((), MH h b I' J') := by
  have e6 : (6 : Int32) = iI 6 := by decide
  have hin1 : ∀ q : Nat, q < 31250 → vp_in (iI (q : Int)) 31250 ∧ (iI (q : Int)).toNatClampNeg = q := fun q hq => ⟨iI_in (by omega) (by omega) (by omega), by rw [iI_cl (by omega) (by omega)]; rfl⟩
  have hin2 : ∀ q : Nat, q < 187500 → vp_in (iI (q : Int)) 187500 ∧ (iI (q : Int)).toNatClampNeg = q := fun q hq => ⟨iI_in (by omega) (by omega) (by omega), by rw [iI_cl (by omega) (by omega)]; rfl⟩
  intro B
  induction B with
  | nil =>
    intro A fu I J L hT hL hM hLb hf
    obtain ⟨fu, rfl⟩ : ∃ q, fu = q + 1 := ⟨fu - 1, by omega⟩
    refine ⟨I, J, SameL.rfl, hL, ?_⟩
    show b_Model_listFrom_3 N (f_Model_listFrom_3 N fu) b (iI st) (iI t) (iJ d) (iI A.length) (MH h b I J) = _
    unfold b_Model_listFrom_3
    simp only [m_rd, Option.bind_some, ma_13 (hin1 t ht).1, (hin1 t ht).2, hT.1.1]
    rw [if_pos (by rw [List.append_nil]; exact Int32.le_refl _)]
  | cons y B ih =>
    intro A fu I J L hT hL hM hLb hf
    obtain ⟨fu, rfl⟩ : ∃ q, fu = q + 1 := ⟨fu - 1, by omega⟩
    have hlen : (A ++ y :: B).length = A.length + (B.length + 1) := by simp
    have h6 := hT.1.2.1
    have hy := hM y (by simp)
    have hJ := hT.2 A.length y (by simp)
    have hv : inJ (y + d) := ⟨by omega, by omega⟩
    obtain ⟨J1, hr1, ho1, hgo1⟩ := m_insert (h := h) (b := b) (I := I) (N := N) (i := 12) (m := 187500) (f := 6 * st) (v := y + d) (J := J) (L := L) (fun J x hx => ma_12 hx) (fun J x v hx => ms_12 hx) (by omega) (by omega) hN hL.1.2.1 hLb hv hL.1.2.2 hL.2
    have hL' : ((insr (y + d) L).take 6).length ≤ 6 := by simp; omega
    have hS1 : SameL I J (u2 I 13 st (iI ((insr (y + d) L).take 6).length)) J1 st := ⟨fun i k hi => u2_n (by omega), fun i k hi => ho1 i k hi⟩
    have hR1 : Rw (u2 I 13 st (iI ((insr (y + d) L).take 6).length)) J1 st ((insr (y + d) L).take 6) := ⟨⟨u2_s, hL', (insr_rising _ hL.1.2.2).sublist (List.take_sublist _ _)⟩, hr1⟩
    have hT1 := hT.other hS1 hne
    rw [show A ++ y :: B = (A ++ [y]) ++ B by simp] at hT1 hM
    obtain ⟨I2, J2, hS2, hR2, hgo2⟩ := ih (A ++ [y]) fu _ J1 _ hT1 hR1 hM (fun x hx => by
      rcases (insr_mem _ L x).mp (List.mem_of_mem_take hx) with e | e
      · subst e; exact hv
      · exact hLb x e) (by simp at hf; omega)
    refine ⟨I2, J2, hS1.trans hS2, hR2, ?_⟩
    show b_Model_listFrom_3 N (f_Model_listFrom_3 N fu) b (iI st) (iI t) (iJ d) (iI A.length) (MH h b I J) = _
    unfold b_Model_listFrom_3
    simp only [m_rd, Option.bind_some, ma_13 (hin1 t ht).1, ma_13 (hin1 st hst).1, (hin1 t ht).2, (hin1 st hst).2, hT.1.1, hL.1.1, e6, iI_mul, iI_add]
    rw [if_neg (fun z => by have := (iI_le (by omega) (by omega) (by omega) (by omega)).mp z; omega)]
    rw [show 6 * (t : Int) + (A.length : Int) = ((6 * t + A.length : Nat) : Int) by omega, show 6 * (st : Int) = ((6 * st : Nat) : Int) by omega]
    simp only [ma_12 (hin2 (6 * t + A.length) (by omega)).1, (hin2 (6 * t + A.length) (by omega)).2, Option.bind_some, hJ, iJ_add, hgo1, ms_13 (hin1 st hst).1, (hin1 st hst).2, iI_1, iI_add]
    rw [← hgo2]
    congr 1
    simp
theorem m_listFrom (hN : 20 ≤ N) {st t : Nat} (hst : st < 31250) (ht : t < 31250) (hne : t ≠ st) {d : Int} (hd1 : 0 ≤ d) (hd2 : d ≤ 100000000000000000) {I : Nat → Nat → Int32} {J : Nat → Nat → Int64} {L M : List Int} (hT : Rw I J t M) (hL : Rw I J st L) (hM : ∀ x ∈ M, 0 ≤ x ∧ x ≤ 100000000000000000) (hLb : ∀ x ∈ L, inJ x) :
    ∃ I' J', SameL I J I' J' st ∧ Rw I' J' st (putL 6 L (M.map (fun y => y + d))) ∧ f_Model_listFrom N b (iI st) (iI t) (iJ d) (MH h b I J) = some ((), MH h b I' J') := by
  unfold f_Model_listFrom
  rw [iI_0]
  exact ml_from (h := h) (b := b) hN hst ht hne hd1 hd2 M [] N I J L hT hL hM hLb (by have := hT.1.2.1; omega)
end MLIST
