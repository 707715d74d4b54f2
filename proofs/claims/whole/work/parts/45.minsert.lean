/-! the reference: insert, a number put into a row of at most six -/
/-- the row at f of array i holds L -/
def RowL (J : Nat → Nat → Int64) (i f : Nat) (L : List Int) : Prop := ∀ (k : Nat) (x : Int), L[k]? = some x → J i (f + k) = iJ x
def inJ (x : Int) : Prop := 0 ≤ x ∧ x < 1000000000000000000
def shJ (J : Nat → Nat → Int64) (i f k j : Nat) : Nat → Nat → Int64 := fun a q => if a = i ∧ f + k < q ∧ q ≤ f + j then J i (q - 1) else J a q
theorem shJ_0 {J : Nat → Nat → Int64} {i f k : Nat} : shJ J i f k k = J := by
  funext a q
  unfold shJ
  rw [if_neg (by omega)]
theorem shJ_s {J : Nat → Nat → Int64} {i f k j : Nat} (h : k ≤ j) : shJ (u2 J i (f + (j + 1)) (J i (f + j))) i f k j = shJ J i f k (j + 1) := by
  funext a q
  unfold shJ
  by_cases h1 : a = i ∧ f + k < q ∧ q ≤ f + j
  · rw [if_pos h1, if_pos (by omega), u2_n (Or.inr (by omega))]
  · rw [if_neg h1]
    by_cases h2 : a = i ∧ q = f + (j + 1)
    · obtain ⟨rfl, rfl⟩ := h2
      rw [u2_s, if_pos (by omega)]
      rfl
    · rw [u2_n (by omega), if_neg (by omega)]
theorem insr_app {x : Int} {A B : List Int} (h : ∀ y ∈ A, y < x) : insr x (A ++ B) = A ++ insr x B := by
  induction A with
  | nil => rfl
  | cons y t ih =>
    show (if x < y then _ else if x = y then _ else y :: insr x (t ++ B)) = _
    have := h y List.mem_cons_self
    rw [if_neg (by omega), if_neg (by omega), ih (fun z hz => h z (List.mem_cons_of_mem _ hz))]
    rfl
section MINSERT
variable {h : zH} {b : Nat} {I : Nat → Nat → Int32} {N : Nat} {i m : Nat}
theorem mi_shift (rd : ∀ (J : Nat → Nat → Int64) (x : Int32), vp_in x m → zaJ (MH h b I J) 1 (b + i) x = some (J i x.toNatClampNeg)) (wr : ∀ (J : Nat → Nat → Int64) (x : Int32) (v : Int64), vp_in x m → zsJ (MH h b I J) 1 (b + i) x v = some (MH h b I (u2 J i x.toNatClampNeg v))) {f k cnt : Nat} {v : Int64} (hm : f + 6 ≤ m) (hm2 : m < 1000000) (hcnt : cnt ≤ 6) : ∀ (d fu j : Nat) (J : Nat → Nat → Int64), j = k + d → j ≤ 5 → d < fu →
    f_Model_insert_69 N fu (b + i) (iI f) (iI cnt) v (iI k) (iI j) (MH h b I J) = some (iI ((if 6 ≤ cnt then 6 else cnt + 1 : Nat) : Int), MH h b I (u2 (shJ J i f k j) i (f + k) v)) := by
  have hin : ∀ q : Nat, q < m → vp_in (iI (q : Int)) m ∧ (iI (q : Int)).toNatClampNeg = q := fun q hq => ⟨iI_in (by omega) (by omega) (by omega), by rw [iI_cl (by omega) (by omega)]; rfl⟩
  have e6 : (6 : Int32) = iI 6 := by decide
  intro d
  induction d with
  | zero =>
    intro fu j J hj hj5 hf
    obtain ⟨fu, rfl⟩ : ∃ q, fu = q + 1 := ⟨fu - 1, by omega⟩
    have hjk : j = k := by omega
    subst hjk
    show b_Model_insert_69 N (f_Model_insert_69 N fu) (b + i) (iI f) (iI cnt) v (iI j) (iI j) (MH h b I J) = _
    unfold b_Model_insert_69
    rw [if_pos (Int32.le_refl _), iI_add, show (f : Int) + (j : Int) = ((f + j : Nat) : Int) by omega, wr _ _ _ (hin (f + j) (by omega)).1, (hin (f + j) (by omega)).2, shJ_0]
    simp only [Option.bind_some, e6, iI_1, iI_add]
    by_cases hc : 6 ≤ cnt
    · rw [if_pos ((iI_le (by omega) (by omega) (by omega) (by omega)).mpr (by omega)), if_pos hc]; rfl
    · rw [if_neg (fun z => hc (by have := (iI_le (by omega) (by omega) (by omega) (by omega)).mp z; omega)), if_neg hc]; rfl
  | succ d ih =>
    intro fu j J hj hj5 hf
    obtain ⟨fu, rfl⟩ : ∃ q, fu = q + 1 := ⟨fu - 1, by omega⟩
    obtain ⟨j, rfl⟩ : ∃ q, j = q + 1 := ⟨j - 1, by omega⟩
    show b_Model_insert_69 N (f_Model_insert_69 N fu) (b + i) (iI f) (iI cnt) v (iI k) (iI ((j + 1 : Nat) : Int)) (MH h b I J) = _
    unfold b_Model_insert_69
    rw [if_neg (fun z => by have := (iI_le (by omega) (by omega) (by omega) (by omega)).mp z; omega)]
    have em : iI ((j + 1 : Nat) : Int) + (-1 : Int32) = iI (j : Int) := by rw [iI_m1, iI_add]; congr 1; omega
    rw [em]
    rw [iI_add, iI_1, iI_sub, show (f : Int) + ((j + 1 : Nat) : Int) - 1 = ((f + j : Nat) : Int) by omega, show (f : Int) + ((j + 1 : Nat) : Int) = ((f + (j + 1) : Nat) : Int) by omega, rd _ _ (hin (f + j) (by omega)).1, (hin (f + j) (by omega)).2]
    simp only [Option.bind_some]
    rw [wr _ _ _ (hin (f + (j + 1)) (by omega)).1, (hin (f + (j + 1)) (by omega)).2]
    simp only [Option.bind_some]
    rw [ih fu j _ (by omega) (by omega) (by omega), shJ_s (by omega)]
theorem mi_find (rd : ∀ (J : Nat → Nat → Int64) (x : Int32), vp_in x m → zaJ (MH h b I J) 1 (b + i) x = some (J i x.toNatClampNeg)) {f : Nat} {v : Int} {J : Nat → Nat → Int64} {L : List Int} (hm : f + 6 ≤ m) (hm2 : m < 1000000) (hL6 : L.length ≤ 6) (hL : ∀ x ∈ L, inJ x) (hv : inJ v) (hR : RowL J i f L) : ∀ (B A : List Int) (fu : Nat), L = A ++ B → (∀ y ∈ A, y < v) → B.length < fu → L.Pairwise (· < ·) →
    ∃ A' B', L = A' ++ B' ∧ (∀ y ∈ A', y < v) ∧ (∀ y, B'.head? = some y → v ≤ y) ∧ f_Model_insert_3 N fu (b + i) (iI f) (iI L.length) (iJ v) (iI A.length) (MH h b I J) = f_Model_insert_26 N (b + i) (iI f) (iI L.length) (iJ v) (iI A'.length) (MH h b I J) := by
  have hin : ∀ q : Nat, q < m → vp_in (iI (q : Int)) m ∧ (iI (q : Int)).toNatClampNeg = q := fun q hq => ⟨iI_in (by omega) (by omega) (by omega), by rw [iI_cl (by omega) (by omega)]; rfl⟩
  unfold inJ at hL hv
  intro B
  induction B with
  | nil =>
    intro A fu hLe hA hf hp
    obtain ⟨fu, rfl⟩ : ∃ q, fu = q + 1 := ⟨fu - 1, by omega⟩
    refine ⟨A, [], hLe, hA, (fun y hy => by cases hy), ?_⟩
    show b_Model_insert_3 N (f_Model_insert_3 N fu) (b + i) (iI f) (iI L.length) (iJ v) (iI A.length) (MH h b I J) = _
    unfold b_Model_insert_3
    have : L.length = A.length := by rw [hLe]; simp
    rw [if_pos ((iI_le (by omega) (by omega) (by omega) (by omega)).mpr (by omega))]
  | cons y t ih =>
    intro A fu hLe hA hf hp
    obtain ⟨fu, rfl⟩ : ∃ q, fu = q + 1 := ⟨fu - 1, by simp at hf; omega⟩
    have hlen : L.length = A.length + (t.length + 1) := by rw [hLe]; simp
    have hget : L[A.length]? = some y := by rw [hLe]; simp
    have hy := hL y (by rw [hLe]; simp)
    have hJ := hR A.length y hget
    have hstep : f_Model_insert_3 N (fu + 1) (b + i) (iI f) (iI L.length) (iJ v) (iI A.length) (MH h b I J) = (if v ≤ y then f_Model_insert_26 N (b + i) (iI f) (iI L.length) (iJ v) (iI A.length) (MH h b I J) else f_Model_insert_3 N fu (b + i) (iI f) (iI L.length) (iJ v) (iI ((A.length + 1 : Nat) : Int)) (MH h b I J)) := by
      show b_Model_insert_3 N (f_Model_insert_3 N fu) (b + i) (iI f) (iI L.length) (iJ v) (iI A.length) (MH h b I J) = _
      unfold b_Model_insert_3
      rw [if_neg (fun z => by have := (iI_le (by omega) (by omega) (by omega) (by omega)).mp z; omega), iI_add, show (f : Int) + (A.length : Int) = ((f + A.length : Nat) : Int) by omega, rd _ _ (hin (f + A.length) (by omega)).1, (hin (f + A.length) (by omega)).2, hJ]
      simp only [Option.bind_some, iI_1, iI_add]
      simp only [lgc_nn (show (-9223372036854775808 : Int) ≤ y by omega) (show y < 9223372036854775808 by omega) (show (-9223372036854775808 : Int) ≤ v by omega) (show v < 9223372036854775808 by omega)]
      rfl
    by_cases hvy : v ≤ y
    · refine ⟨A, y :: t, hLe, hA, fun z hz => by simp at hz; omega, ?_⟩
      rw [hstep, if_pos hvy]
    · rw [hstep, if_neg hvy]
      have := ih (A ++ [y]) fu (by rw [hLe]; simp) (fun z hz => by
        rcases List.mem_append.mp hz with q | q
        · exact hA z q
        · rw [List.mem_singleton.mp q]; omega) (by simp at hf; omega) hp
      rw [List.length_append] at this
      exact this
theorem m_insert (rd : ∀ (J : Nat → Nat → Int64) (x : Int32), vp_in x m → zaJ (MH h b I J) 1 (b + i) x = some (J i x.toNatClampNeg)) (wr : ∀ (J : Nat → Nat → Int64) (x : Int32) (v : Int64), vp_in x m → zsJ (MH h b I J) 1 (b + i) x v = some (MH h b I (u2 J i x.toNatClampNeg v))) {f : Nat} {v : Int} {J : Nat → Nat → Int64} {L : List Int} (hm : f + 6 ≤ m) (hm2 : m < 1000000) (hN : 20 ≤ N) (hL6 : L.length ≤ 6) (hL : ∀ x ∈ L, inJ x) (hv : inJ v) (hp : L.Pairwise (· < ·)) (hR : RowL J i f L) :
    ∃ J', RowL J' i f ((insr v L).take 6) ∧ (∀ a q, (a ≠ i ∨ q < f ∨ f + 6 ≤ q) → J' a q = J a q) ∧ f_Model_insert N (b + i) (iI f) (iI L.length) (iJ v) (MH h b I J) = some (iI ((insr v L).take 6).length, MH h b I J') := by
  have hin : ∀ q : Nat, q < m → vp_in (iI (q : Int)) m ∧ (iI (q : Int)).toNatClampNeg = q := fun q hq => ⟨iI_in (by omega) (by omega) (by omega), by rw [iI_cl (by omega) (by omega)]; rfl⟩
  have e6 : (6 : Int32) = iI 6 := by decide
  have e5 : (5 : Int32) = iI 5 := by decide
  obtain ⟨A, B, hLe, hA, hB, hgo⟩ := mi_find (N := N) (h := h) (b := b) (I := I) rd hm hm2 hL6 hL hv hR L [] N rfl (fun y hy => absurd hy List.not_mem_nil) (by omega) hp
  have hlen : L.length = A.length + B.length := by rw [hLe]; simp
  have hi : insr v L = A ++ insr v B := by rw [hLe]; exact insr_app hA
  unfold f_Model_insert
  rw [iI_0]
  have hgo' : f_Model_insert_3 N N (b + i) (iI f) (iI L.length) (iJ v) (iI 0) (MH h b I J) = f_Model_insert_26 N (b + i) (iI f) (iI L.length) (iJ v) (iI A.length) (MH h b I J) := hgo
  rw [hgo']
  unfold inJ at hL hv
  unfold f_Model_insert_26 f_Model_insert_52 f_Model_insert_63
  rw [e6, e5]
  by_cases hA6 : A.length = 6
  · -- full, and all below v
    have hB0 : B = [] := List.length_eq_zero_iff.mp (by omega)
    have htk : (insr v L).take 6 = L := by
      rw [hi, hB0, List.take_append_of_le_length (by omega), List.take_of_length_le (by omega), hLe, hB0]; simp
    refine ⟨J, by rw [htk]; exact hR, fun _ _ _ => rfl, ?_⟩
    rw [htk, if_pos ((iI_eq (by omega) (by omega) (by omega) (by omega)).mpr (by omega))]
  · rw [if_neg (fun z => hA6 (by have := (iI_eq (by omega) (by omega) (by omega) (by omega)).mp z; omega))]
    have hins : ∀ (hne : insr v B = v :: B), ∃ J', RowL J' i f ((insr v L).take 6) ∧ (∀ a q, (a ≠ i ∨ q < f ∨ f + 6 ≤ q) → J' a q = J a q) ∧ (if iI 6 ≤ iI L.length then f_Model_insert_69 N N (b + i) (iI f) (iI L.length) (iJ v) (iI A.length) (iI 5) (MH h b I J) else f_Model_insert_69 N N (b + i) (iI f) (iI L.length) (iJ v) (iI A.length) (iI L.length) (MH h b I J)) = some (iI ((insr v L).take 6).length, MH h b I J') := by
      intro hne
      have hlist : (insr v L).take 6 = (A ++ v :: B).take 6 := by rw [hi, hne]
      have hlen' : ((A ++ v :: B).take 6).length = (if 6 ≤ L.length then 6 else L.length + 1) := by
        simp
        by_cases q : 6 ≤ L.length
        · rw [if_pos q]; omega
        · rw [if_neg q]; omega
      have hrow : ∀ j : Nat, j = (if 6 ≤ L.length then 5 else L.length) → RowL (u2 (shJ J i f A.length j) i (f + A.length) (iJ v)) i f ((A ++ v :: B).take 6) ∧ ∀ a q, (a ≠ i ∨ q < f ∨ f + 6 ≤ q) → (u2 (shJ J i f A.length j) i (f + A.length) (iJ v)) a q = J a q := by
        intro j hj
        have hj5 : j ≤ 5 ∧ A.length ≤ j := by
          by_cases q : 6 ≤ L.length
          · rw [if_pos q] at hj; omega
          · rw [if_neg q] at hj; omega
        refine ⟨fun k x hk => ?_, fun a q hq => ?_⟩
        · have hk6 : k < 6 := by
            have := (List.getElem?_eq_some_iff.mp hk).1
            simp at this; omega
          rw [List.getElem?_take, if_pos hk6] at hk
          by_cases k1 : k < A.length
          · rw [List.getElem?_append_left k1] at hk
            rw [u2_n (Or.inr (by omega))]
            unfold shJ
            rw [if_neg (by omega)]
            exact hR k x (by rw [hLe, List.getElem?_append_left k1]; exact hk)
          · rw [List.getElem?_append_right (by omega)] at hk
            by_cases k2 : k = A.length
            · subst k2
              simp at hk
              rw [u2_s, hk]
            · obtain ⟨k', rfl⟩ : ∃ q, k = A.length + (q + 1) := ⟨k - A.length - 1, by omega⟩
              rw [show A.length + (k' + 1) - A.length = k' + 1 by omega, List.getElem?_cons_succ] at hk
              have hkB : k' < B.length := (List.getElem?_eq_some_iff.mp hk).1
              rw [u2_n (Or.inr (by omega))]
              unfold shJ
              have hkj : A.length + (k' + 1) ≤ j := by
                by_cases q : 6 ≤ L.length
                · rw [if_pos q] at hj; omega
                · rw [if_neg q] at hj; omega
              rw [if_pos ⟨rfl, by omega, by omega⟩, show f + (A.length + (k' + 1)) - 1 = f + (A.length + k') by omega]
              exact hR (A.length + k') x (by rw [hLe, List.getElem?_append_right (by omega), show A.length + k' - A.length = k' by omega]; exact hk)
        · rw [u2_n (by omega)]
          unfold shJ
          rw [if_neg (by omega)]
      rw [hlist, hlen']
      by_cases q : 6 ≤ L.length
      · obtain ⟨h1, h2⟩ := hrow 5 (by rw [if_pos q])
        refine ⟨_, h1, h2, ?_⟩
        rw [if_pos ((iI_le (by omega) (by omega) (by omega) (by omega)).mpr (by omega))]
        have := mi_shift (N := N) (v := iJ v) (k := A.length) rd wr hm hm2 hL6 (5 - A.length) N 5 J (by omega) (by omega) (by omega)
        exact this
      · obtain ⟨h1, h2⟩ := hrow L.length (by rw [if_neg q])
        refine ⟨_, h1, h2, ?_⟩
        rw [if_neg (fun z => q (by have := (iI_le (by omega) (by omega) (by omega) (by omega)).mp z; omega))]
        exact mi_shift (N := N) (v := iJ v) (k := A.length) rd wr hm hm2 hL6 (L.length - A.length) N L.length J (by omega) (by omega) (by omega)
    cases B with
    | nil =>
      rw [if_pos ((iI_le (by omega) (by omega) (by omega) (by omega)).mpr (by simp at hlen; omega))]
      exact hins rfl
    | cons y t =>
      have hy := hL y (by rw [hLe]; simp)
      have hvy := hB y rfl
      have hget : L[A.length]? = some y := by rw [hLe]; simp
      simp at hlen
      rw [if_neg (fun z => by have := (iI_le (by omega) (by omega) (by omega) (by omega)).mp z; omega), iI_add, show (f : Int) + (A.length : Int) = ((f + A.length : Nat) : Int) by omega, rd _ _ (hin (f + A.length) (by omega)).1, (hin (f + A.length) (by omega)).2, hR _ _ hget]
      simp only [Option.bind_some]
      by_cases heq : y = v
      · subst heq
        have htk : (insr y L).take 6 = L := by
          have : insr y (y :: t) = y :: t := by
            show (if y < y then _ else if y = y then y :: t else _) = _
            rw [if_neg (by omega), if_pos rfl]
          rw [hi, this, ← hLe, List.take_of_length_le hL6]
        refine ⟨J, by rw [htk]; exact hR, fun _ _ _ => rfl, ?_⟩
        rw [htk, if_pos ((lgc_0 (by omega) (by omega) (by omega) (by omega)).mpr rfl)]
      · rw [if_neg (fun z => heq ((lgc_0 (by omega) (by omega) (by omega) (by omega)).mp z))]
        refine hins ?_
        show (if v < y then v :: y :: t else _) = _
        rw [if_pos (by omega)]
end MINSERT
