/-! the reference: the earth's cost, the span at a place, whether it may be used -/
theorem iJ_t {z : Int} (h1 : -9223372036854775808 ≤ z) (h2 : z < 9223372036854775808) : (iJ z).toInt = z := Int64.toInt_ofInt_of_le (by simpa using h1) (by simpa using h2)
theorem iJ_add (a c : Int) : iJ a + iJ c = iJ (a + c) := (Int64.ofInt_add a c).symm
theorem iJ_sub (a c : Int) : iJ a - iJ c = iJ (a - c) := (Int64.ofInt_sub a c).symm
theorem iJ_mul (a c : Int) : iJ a * iJ c = iJ (a * c) := (Int64.ofInt_mul a c).symm
theorem iJ_lt {a c : Int} (h1 : -9223372036854775808 ≤ a) (h2 : a < 9223372036854775808) (h3 : -9223372036854775808 ≤ c) (h4 : c < 9223372036854775808) : iJ a < iJ c ↔ a < c := by
  rw [Int64.lt_iff_toInt_lt, iJ_t h1 h2, iJ_t h3 h4]
theorem iJ_eq {a c : Int} (h1 : -9223372036854775808 ≤ a) (h2 : a < 9223372036854775808) (h3 : -9223372036854775808 ≤ c) (h4 : c < 9223372036854775808) : iJ a = iJ c ↔ a = c := by
  constructor
  · intro h; rw [← iJ_t h1 h2, ← iJ_t h3 h4, h]
  · intro h; rw [h]
theorem iI_J {z : Int} (h1 : -2147483648 ≤ z) (h2 : z < 2147483648) : (iI z).toInt64 = iJ z := by
  apply Int64.toInt_inj.mp
  rw [Int32.toInt_toInt64, iI_t h1 h2, iJ_t (by omega) (by omega)]
theorem iJ_0 : (0 : Int64) = iJ 0 := by decide
theorem iJ_m1 : (-1 : Int64) = iJ (-1) := by decide
/-- the last span, of the first k, that begins at p -/
def spL (c : cfg) (p : Int) : Nat → Int
  | 0 => -1
  | k + 1 => if c.2 6 k = p then k else spL c p k
theorem spL_r (c : cfg) (p : Int) (k : Nat) : -1 ≤ spL c p k ∧ spL c p k < k := by
  induction k with
  | zero => exact ⟨Int.le_refl _, by show (-1 : Int) < 0; decide⟩
  | succ k ih =>
    unfold spL
    by_cases a : c.2 6 k = p
    · rw [if_pos a]; omega
    · rw [if_neg a]; omega
def c_sp (c : cfg) (p : Nat) : Int := spL c p (c.1 10).toNat
section MSPAN
variable {h : zH} {b : Nat} {I : Nat → Nat → Int32} {J : Nat → Nat → Int64} {c : cfg} {N : Nat}
theorem m_placeCost (hc : cOK c) (hM : MC I J c) {p : Nat} {l : Int} (hp : p < 25) (h1 : 0 ≤ l) (h2 : l ≤ 24) : f_Model_placeCost N b (iI p) (iI l) (MH h b I J) = some (iJ (c_pc c p l), MH h b I J) := by
  have hin : vp_in (iI p) 25 := iI_in (by omega) (by omega) (by omega)
  have hcl : (iI p).toNatClampNeg = p := by rw [iI_cl (by omega) (by omega)]; rfl
  obtain ⟨e1, e2, e3, -, -⟩ := hM.2.1 p hp
  obtain ⟨r1, r2, r3, -⟩ := hc.2.2.2.2.2.2.1 p hp
  have hm := hc.2.1
  unfold f_Model_placeCost
  simp only [m_rd, Option.bind_some, ma_1 hin, ma_2 hin, ma_3 hin, hcl, e1, e2, e3, iI_sub]
  simp (disch := omega) only [iI_le, iI_J, iJ_mul]
  unfold c_pc
  by_cases a : c.2 1 p ≤ l
  · rw [if_pos a, if_neg (by omega)]
  · rw [if_neg a, if_pos (by omega)]
theorem m_spanAt_l (hc : cOK c) (hM : MC I J c) {p : Nat} (hp : p < 25) : ∀ (d k fu : Nat), k + d = (c.1 10).toNat → d < fu → f_Model_spanAt_4 N fu b (iI p) (iI (spL c p k)) (iI k) (MH h b I J) = some (iI (c_sp c p), MH h b I J) := by
  have hK := hc.2.2.2.2.2.1
  intro d
  induction d with
  | zero =>
    intro k fu hk hf
    obtain ⟨fu, rfl⟩ : ∃ q, fu = q + 1 := ⟨fu - 1, by omega⟩
    show b_Model_spanAt_4 N (f_Model_spanAt_4 N fu) b (iI p) (iI (spL c p k)) (iI k) (MH h b I J) = _
    unfold b_Model_spanAt_4
    simp only [m_rd, Option.bind_some, hM.1.2.2.2.2.2]
    rw [if_pos ((iI_le (by omega) (by omega) (by omega) (by omega)).mpr (by omega))]
    unfold c_sp
    rw [show k = (c.1 10).toNat by omega]
  | succ d ih =>
    intro k fu hk hf
    obtain ⟨fu, rfl⟩ : ∃ q, fu = q + 1 := ⟨fu - 1, by omega⟩
    show b_Model_spanAt_4 N (f_Model_spanAt_4 N fu) b (iI p) (iI (spL c p k)) (iI k) (MH h b I J) = _
    have hin : vp_in (iI k) 6 := iI_in (by omega) (by omega) (by omega)
    have hcl : (iI k).toNatClampNeg = k := by rw [iI_cl (by omega) (by omega)]; rfl
    obtain ⟨e6, -⟩ := hM.2.2 k (by omega)
    obtain ⟨⟨r1, r2, r3⟩, -⟩ := hc.2.2.2.2.2.2.2.1 k (by omega)
    have hn := hc.1
    unfold b_Model_spanAt_4 f_Model_spanAt_27
    simp only [m_rd, Option.bind_some, hM.1.2.2.2.2.2, ma_6 hin, hcl, e6, iI_1, iI_add]
    rw [if_neg (fun q => by have := (iI_le (by omega) (by omega) (by omega) (by omega)).mp q; omega)]
    have hnext := ih (k + 1) fu (by omega) (by omega)
    rw [show ((k + 1 : Nat) : Int) = (k : Int) + 1 by omega] at hnext
    unfold spL at hnext
    by_cases a : c.2 6 k = p
    · rw [if_pos ((iI_eq (by omega) (by omega) (by omega) (by omega)).mpr a)]
      rw [if_pos a] at hnext
      exact hnext
    · rw [if_neg (fun q => a ((iI_eq (by omega) (by omega) (by omega) (by omega)).mp q))]
      rw [if_neg a] at hnext
      exact hnext
theorem m_spanAt (hc : cOK c) (hM : MC I J c) (hN : 10 ≤ N) {p : Nat} (hp : p < 25) : f_Model_spanAt N b (iI p) (MH h b I J) = some (iI (c_sp c p), MH h b I J) := by
  have hK := hc.2.2.2.2.2.1
  unfold f_Model_spanAt
  rw [iI_m1, iI_0]
  exact m_spanAt_l hc hM hp (c.1 10).toNat 0 N (by omega) (by omega)
end MSPAN
