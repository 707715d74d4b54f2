/-! the reference: workOut, the least value of one state out of those behind it -/
def bnd1 (o : Option (Int × Int)) : Prop := ∀ q, o = some q → (0 ≤ q.1 ∧ q.1 ≤ 1000000000000) ∧ 0 ≤ q.2 ∧ q.2 ≤ 10000
theorem best1.bnd {S : Int → Prop} {o : Option (Int × Int)} {r : Nat} (h : best1 S o r) (hr : r ≤ 40) : bnd1 o := by
  rintro q rfl
  obtain ⟨⟨⟨a1, a2⟩, a3, a4⟩, -⟩ := h
  omega
/-- the tables hold the least values of the places behind p -/
def TB (I : Nat → Nat → Int32) (J : Nat → Nat → Int64) (c : cfg) (p : Nat) : Prop := ∀ (q : Nat) (l s : Int), p < q → q ≤ nn c → 0 ≤ l → l ≤ c.1 1 → -(c.1 7) ≤ s → s ≤ c.1 7 → ∃ o, enc1 o (J 10 (ix q l (s + 24))) (I 11 (ix q l (s + 24))) ∧ best1 (SV c 1024 1 q l (s + 24)) o (nn c - q)
theorem c_pc_r {c : cfg} (hc : cOK c) {p : Nat} {l : Int} (hp : p < 25) (h1 : 0 ≤ l) (h2 : l ≤ c.1 1) : 0 ≤ c_pc c p l ∧ c_pc c p l ≤ 24000000 := by
  obtain ⟨r1, r2, r3, -⟩ := hc.2.2.2.2.2.2.1 p hp
  have hm := hc.2.1
  unfold c_pc
  by_cases a : l < c.2 1 p
  · rw [if_pos a]
    have e1 : 0 ≤ (c.2 1 p - l) * c.2 2 p := Int.mul_nonneg (by omega) (by omega)
    have e2 : (c.2 1 p - l) * c.2 2 p ≤ 24 * 1000000 := Int.mul_le_mul (by omega) (by omega) (by omega) (by omega)
    omega
  · rw [if_neg a]
    have e1 : 0 ≤ (l - c.2 1 p) * c.2 3 p := Int.mul_nonneg (by omega) (by omega)
    have e2 : (l - c.2 1 p) * c.2 3 p ≤ 24 * 1000000 := Int.mul_le_mul (by omega) (by omega) (by omega) (by omega)
    omega
theorem c_ok_r {c : cfg} {p : Nat} {l : Int} (h : c_ok c p l = true) : 0 ≤ l ∧ l ≤ c.1 1 := by
  unfold c_ok at h
  have := of_decide_eq_true h
  exact ⟨this.1, this.2.1⟩
theorem c_fol_r {c : cfg} {s g : Int} (h : c_fol c s g = true) : (s.natAbs : Int) ≤ c.1 7 := by
  unfold c_fol at h
  exact (of_decide_eq_true h).2.1
theorem c_use_end {c : cfg} (hc : cOK c) {k p : Nat} (hk : c_at c k p) {l s : Int} (h : c_use c k l s = true) : c_ok c (c.2 7 k).toNat (l + (c.2 7 k - p) * s) = true := by
  obtain ⟨hk1, hk2, hk3⟩ := hk
  obtain ⟨⟨r1, r2, r3⟩, -⟩ := hc.2.2.2.2.2.2.2.1 k hk1
  rw [c_use_eq] at h
  have := List.all_eq_true.mp h ((c.2 7 k - c.2 6 k).toNat - 1) (List.mem_range.mpr (by omega))
  unfold c_u1 at this
  have h1 := (Bool.and_eq_true_iff.mp this).1
  rw [show (c.2 6 k).toNat + ((c.2 7 k - c.2 6 k).toNat - 1 + 1) = (c.2 7 k).toNat by omega, show (((c.2 7 k - c.2 6 k).toNat - 1 : Nat) : Int) + 1 = c.2 7 k - p by omega, Int.mul_comm] at h1
  exact h1
section MWORK
variable {h : zH} {b : Nat} {I : Nat → Nat → Int32} {J : Nat → Nat → Int64} {c : cfg} {N : Nat}
theorem m_isLess0 {a : Int64} {s y : Int32} {q : zH} : f_Model_isLess N b a s (iJ (-1)) y q = some (1, q) := by
  unfold f_Model_isLess f_Model_isLess_27
  simp only [iJ_0, zrb_1]
  rw [if_pos ((lgc_neg (by omega) (by omega) (by omega) (by omega)).mpr (by omega))]
theorem wo_pick {R : Type} {o o2 : Option (Int × Int)} {x4 s0 : Int64} {x6 v : Int32} {q : zH} (A : Int64 → Int32 → zH → Option R) (B : bnd1 o) (B2 : bnd1 o2) (e : enc1 o x4 x6) (e2 : enc1 o2 s0 v) :
    ∃ x' y', enc1 (omin o o2) x' y' ∧ (if lg_cmp s0 (0 : Int64) < 0 then A x4 x6 q else Option.bind (zck true (f_Model_isLess N b s0 v x4 x6 q)) fun p => if p.1 = 0 then A x4 x6 p.2 else A s0 v p.2) = A x' y' q := by
  cases o2 with
  | none =>
    refine ⟨x4, x6, e, ?_⟩
    have e2' : s0 = iJ (-1) := e2
    rw [e2', iJ_0, if_pos ((lgc_neg (by omega) (by omega) (by omega) (by omega)).mpr (by omega))]
  | some w =>
    obtain ⟨e3, e4⟩ := e2
    obtain ⟨⟨w1, w2⟩, w3, w4⟩ := B2 w rfl
    subst e3; subst e4
    rw [iJ_0, if_neg (fun z => by have := (lgc_neg (by omega) (by omega) (by omega) (by omega)).mp z; omega), zck_t]
    cases o with
    | none =>
      have e' : x4 = iJ (-1) := e
      refine ⟨iJ w.1, iI w.2, ⟨rfl, rfl⟩, ?_⟩
      rw [e', m_isLess0]
      simp only [Option.bind_some]
      rw [if_neg (by decide)]
    | some w' =>
      obtain ⟨e5, e6⟩ := e
      obtain ⟨⟨u1, u2⟩, u3, u4⟩ := B w' rfl
      subst e5; subst e6
      rw [m_isLess (by omega) (by omega) (by omega) (by omega) (by omega) (by omega) (by omega) (by omega)]
      simp only [Option.bind_some, b1_0]
      by_cases hc : w.1 < w'.1 ∨ (w.1 = w'.1 ∧ w.2 < w'.2)
      · refine ⟨iJ w.1, iI w.2, ?_, ?_⟩
        · show enc1 (if _ then some w else some w') _ _
          rw [if_pos hc]; exact ⟨rfl, rfl⟩
        · rw [if_neg (by simp; omega)]
      · refine ⟨iJ w'.1, iI w'.2, ?_, ?_⟩
        · show enc1 (if _ then some w else some w') _ _
          rw [if_neg hc]; exact ⟨rfl, rfl⟩
        · rw [if_pos (by simp; omega)]
/-- the value of an entry, and more: as the program reckons it -/
theorem wo_entry {o : Option (Int × Int)} {x : Int64} {y : Int32} {d1 d2 : Int} (e : enc1 o x y) (B : bnd1 o) : enc1 (oadd o d1 d2) (if 0 ≤ lg_cmp x (0 : Int64) then x + iJ d1 else iJ (-1)) (y + iI d2) := by
  cases o with
  | none =>
    have e' : x = iJ (-1) := e
    show (if _ then _ else _) = _
    rw [e', iJ_0, if_neg (fun z => by have := (lgc_nn (by omega) (by omega) (by omega) (by omega)).mp z; omega)]
  | some w =>
    obtain ⟨e1, e2⟩ := e
    obtain ⟨⟨w1, w2⟩, w3, w4⟩ := B w rfl
    subst e1; subst e2
    refine ⟨?_, iI_add _ _⟩
    rw [iJ_0, if_pos ((lgc_nn (by omega) (by omega) (by omega) (by omega)).mpr (by omega)), iJ_add]
theorem bnd1.add {o : Option (Int × Int)} {d1 d2 : Int} {S : Int → Prop} {r : Nat} (h : best1 S (oadd o d1 d2) r) (hr : r ≤ 40) : bnd1 (oadd o d1 d2) := h.bnd hr
end MWORK
