/-! the class: rows of the w least values, filled up with NO_WAY; insert, merge, fill -/
def pd (w : Nat) (L : List Int) : List Int := L ++ List.replicate (w - L.length) (1152921504606846976 : Int)
theorem pd_len {w : Nat} {L : List Int} (h : L.length ≤ w) : (pd w L).length = w := by
  unfold pd
  rw [List.length_append, List.length_replicate]; omega
theorem pd_in {w : Nat} {L : List Int} {x : Int} (h : x ∈ pd w L) : x ∈ L ∨ x = (1152921504606846976 : Int) := by
  unfold pd at h
  rcases List.mem_append.mp h with a | a
  · exact Or.inl a
  · exact Or.inr (List.eq_of_mem_replicate a)
theorem pd_last {w : Nat} {L : List Int} (hw : 1 ≤ w) (hL : L.length ≤ w) (hp : L.Pairwise (· < ·)) : ∃ y, (pd w L)[w - 1]? = some y ∧ ((y = (1152921504606846976 : Int) ∧ L.length < w) ∨ (L.length = w ∧ y ∈ L ∧ ∀ z ∈ L, z ≤ y)) := by
  by_cases c : L.length = w
  · have hlt : w - 1 < L.length := by omega
    refine ⟨L[w - 1], ?_, Or.inr ⟨c, List.getElem_mem hlt, fun z hz => ?_⟩⟩
    · unfold pd
      rw [List.getElem?_append_left hlt]
      exact List.getElem?_eq_getElem hlt
    · obtain ⟨k, hk, rfl⟩ := List.getElem_of_mem hz
      by_cases e : k = w - 1
      · subst e; exact Int.le_refl _
      · have := List.pairwise_iff_getElem.mp hp k (w - 1) hk hlt (by omega)
        omega
  · refine ⟨(1152921504606846976 : Int), ?_, Or.inl ⟨rfl, by omega⟩⟩
    unfold pd
    rw [List.getElem?_append_right (by omega), List.getElem?_replicate, if_pos (by omega)]
theorem pd_ins {w : Nat} {A B : List Int} {v : Int} (h : A.length + B.length ≤ w) : pd w ((A ++ v :: B).take w) = (A ++ v :: (B ++ List.replicate (w - (A ++ B).length) (1152921504606846976 : Int))).take w := by
  unfold pd
  rw [List.length_append]
  by_cases c : A.length + B.length = w
  · rw [show w - (A.length + B.length) = 0 by omega, List.length_take, List.length_append, List.length_cons, show w - min w (A.length + (B.length + 1)) = 0 by omega]
    simp
  · obtain ⟨n, hn⟩ : ∃ n, w - (A.length + B.length) = n + 1 := ⟨w - (A.length + B.length) - 1, by omega⟩
    rw [hn, List.take_of_length_le (by simp; omega), List.length_append, List.length_cons, show w - (A.length + (B.length + 1)) = n by omega, List.replicate_succ']
    rw [show A ++ v :: (B ++ (List.replicate n (1152921504606846976 : Int) ++ [(1152921504606846976 : Int)])) = (A ++ v :: B ++ List.replicate n (1152921504606846976 : Int)) ++ [(1152921504606846976 : Int)] by simp]
    rw [List.take_append_of_le_length (by simp; omega), List.take_of_length_le (by simp; omega)]
theorem row_ins {J : Nat → Nat → Int64} {i f w : Nat} {A B : List Int} {v : Int} (hR : RowL J i f (A ++ B)) (hl : A.length + B.length = w) (hA : A.length < w) : RowL (u2 (shJ J i f A.length (w - 1)) i (f + A.length) (iJ v)) i f ((A ++ v :: B).take w) := by
  intro k x hk
  have hk6 : k < w := by
    have := (List.getElem?_eq_some_iff.mp hk).1
    simp at this; omega
  rw [List.getElem?_take, if_pos hk6] at hk
  by_cases k1 : k < A.length
  · rw [List.getElem?_append_left k1] at hk
    rw [u2_n (Or.inr (by omega))]
    unfold shJ
    rw [if_neg (by omega)]
    exact hR k x (by rw [List.getElem?_append_left k1]; exact hk)
  · rw [List.getElem?_append_right (by omega)] at hk
    by_cases k2 : k = A.length
    · subst k2
      simp at hk
      rw [u2_s, hk]
    · obtain ⟨k', rfl⟩ : ∃ q, k = A.length + (q + 1) := ⟨k - A.length - 1, by omega⟩
      rw [show A.length + (k' + 1) - A.length = k' + 1 by omega, List.getElem?_cons_succ] at hk
      have hkB : k' < B.length := (List.getElem?_eq_some_iff.mp hk).1
      rw [u2_n (Or.inr (by omega))]
      unfold shJ
      rw [if_pos ⟨rfl, by omega, by omega⟩, show f + (A.length + (k' + 1)) - 1 = f + (A.length + k') by omega]
      exact hR (A.length + k') x (by rw [List.getElem?_append_right (by omega), show A.length + k' - A.length = k' by omega]; exact hk)
theorem putL_stop {w : Nat} {L : List Int} (hl : L.length = w) : ∀ M : List Int, (∀ y ∈ M, ∀ z ∈ L, z < y) → putL w L M = L := by
  intro M
  induction M with
  | nil => intro _; rfl
  | cons y t ih =>
    intro h
    show putL w ((insr y L).take w) t = L
    have e : insr y L = L ++ [y] := by
      have := insr_app (x := y) (A := L) (B := []) (fun z hz => h y List.mem_cons_self z hz)
      rw [List.append_nil] at this
      rw [this]; rfl
    rw [e, List.take_append_of_le_length (by omega), List.take_of_length_le (by omega)]
    exact ih (fun q hq => h q (List.mem_cons_of_mem _ hq))
/-- the w least of a set stand in a row -/
def RF (J : Nat → Nat → Int64) (i f w : Nat) (S : Int → Prop) : Prop := ∃ L, RowL J i f (pd w L) ∧ FW w S L
theorem RowL.congr {J J' : Nat → Nat → Int64} {i f : Nat} {L : List Int} (h : RowL J i f L) (e : ∀ k, k < L.length → J' i (f + k) = J i (f + k)) : RowL J' i f L := fun k x hk => by
  rw [e k (List.getElem?_eq_some_iff.mp hk).1]; exact h k x hk
theorem RF.congr {J : Nat → Nat → Int64} {i f w : Nat} {S S' : Int → Prop} (h : RF J i f w S) (e : ∀ x, S x ↔ S' x) : RF J i f w S' := by
  obtain ⟨L, h1, h2⟩ := h
  exact ⟨L, h1, h2.congr e⟩
theorem RF.same {J J' : Nat → Nat → Int64} {i f w : Nat} {S : Int → Prop} (h : RF J i f w S) (e : ∀ q, f ≤ q → q < f + w → J' i q = J i q) : RF J' i f w S := by
  obtain ⟨L, h1, h2⟩ := h
  exact ⟨L, h1.congr (fun k hk => e _ (by omega) (by rw [pd_len h2.2.1] at hk; omega)), h2⟩
theorem RF.copy {J J' : Nat → Nat → Int64} {i f w i' f' : Nat} {S : Int → Prop} (h : RF J i f w S) (e : ∀ q, q < w → J' i' (f' + q) = J i (f + q)) : RF J' i' f' w S := by
  obtain ⟨L, h1, h2⟩ := h
  refine ⟨L, fun k x hk => ?_, h2⟩
  have hk' := (List.getElem?_eq_some_iff.mp hk).1
  rw [pd_len h2.2.1] at hk'
  rw [e k hk']; exact h1 k x hk
theorem RF.nil {J : Nat → Nat → Int64} {i f w : Nat} (h : ∀ q, f ≤ q → q < f + w → J i q = iJ (1152921504606846976 : Int)) : RF J i f w (fun _ => False) := by
  refine ⟨[], fun k x hk => ?_, FW.nil⟩
  have hk' := (List.getElem?_eq_some_iff.mp hk).1
  rw [pd_len (by simp)] at hk'
  have : x ∈ pd w [] := List.mem_of_getElem? hk
  rcases pd_in this with a | a
  · exact absurd a List.not_mem_nil
  · rw [a]; exact h _ (by omega) (by omega)
section CROW
variable {Hp : (Nat → Nat → Int64) → zH} {s X X2 i i2 m m2 w : Nat} {N : Nat}
theorem s_shift (rd : ∀ (J : Nat → Nat → Int64) (v : Int32), vp_in v m → zaJ (Hp J) 1 X v = some (J i v.toNatClampNeg)) (wr : ∀ (J : Nat → Nat → Int64) (v : Int32) (u : Int64), vp_in v m → zsJ (Hp J) 1 X v u = some (Hp (u2 J i v.toNatClampNeg u))) {f k : Nat} {v : Int64} (hm : f + w ≤ m) (hm2 : m ≤ 1000000) : ∀ (d fu j : Nat) (J : Nat → Nat → Int64), j = k + d → j < w → d < fu →
    f_Search_insert_49 N fu X v (iI ((f + k : Nat) : Int)) (iI ((f + j : Nat) : Int)) (Hp J) = some ((), Hp (u2 (shJ J i f k j) i (f + k) v)) := by
  intro d
  induction d with
  | zero =>
    intro fu j J hj hjw hf
    obtain ⟨fu, rfl⟩ : ∃ q, fu = q + 1 := ⟨fu - 1, by omega⟩
    have hjk : j = k := by omega
    subst hjk
    obtain ⟨hin, hcl⟩ := nat_in (p := f + j) (n := m) (by omega) hm2
    show b_Search_insert_49 N (f_Search_insert_49 N fu) X v _ _ (Hp J) = _
    unfold b_Search_insert_49
    rw [if_pos (Int32.le_refl _), wr _ _ _ hin, hcl, shJ_0]; rfl
  | succ d ih =>
    intro fu j J hj hjw hf
    obtain ⟨fu, rfl⟩ : ∃ q, fu = q + 1 := ⟨fu - 1, by omega⟩
    obtain ⟨j, rfl⟩ : ∃ q, j = q + 1 := ⟨j - 1, by omega⟩
    obtain ⟨hin, hcl⟩ := nat_in (p := f + (j + 1)) (n := m) (by omega) hm2
    obtain ⟨hin', hcl'⟩ := nat_in (p := f + j) (n := m) (by omega) hm2
    have em : iI ((f + (j + 1) : Nat) : Int) + (-1 : Int32) = iI ((f + j : Nat) : Int) := by rw [iI_m1, iI_add]; congr 1; omega
    have em2 : iI ((f + (j + 1) : Nat) : Int) - 1 = iI ((f + j : Nat) : Int) := by rw [iI_1, iI_sub]; congr 1; omega
    show b_Search_insert_49 N (f_Search_insert_49 N fu) X v _ _ (Hp J) = _
    unfold b_Search_insert_49
    rw [if_neg (fun z => by have := (iI_le (by omega) (by omega) (by omega) (by omega)).mp z; omega), em, em2, rd _ _ hin', hcl', Option.bind_some, wr _ _ _ hin, hcl, Option.bind_some, ih fu j _ (by omega) (by omega) (by omega), shJ_s (by omega)]
theorem s_find (rd : ∀ (J : Nat → Nat → Int64) (v : Int32), vp_in v m → zaJ (Hp J) 1 X v = some (J i v.toNatClampNeg)) {f : Nat} {v : Int} {J : Nat → Nat → Int64} {P : List Int} (hm : f + w ≤ m) (hm2 : m ≤ 1000000) (hP : P.length = w) (hb : ∀ x ∈ P, 0 ≤ x ∧ x ≤ (1152921504606846976 : Int)) (hv : 0 ≤ v ∧ v ≤ (1152921504606846976 : Int)) (hlast : ∀ y, P[w - 1]? = some y → v ≤ y) (hR : RowL J i f P) : ∀ (B A : List Int) (fu : Nat), P = A ++ B → B ≠ [] → (∀ y ∈ A, y < v) → B.length < fu →
    ∃ A' y B', P = A' ++ y :: B' ∧ (∀ z ∈ A', z < v) ∧ v ≤ y ∧ f_Search_insert_13 N fu X (iJ v) (iI ((f + (w - 1) : Nat) : Int)) (iI ((f + A.length : Nat) : Int)) (Hp J) = f_Search_insert_35 N X (iJ v) (iI ((f + (w - 1) : Nat) : Int)) (iI ((f + A'.length : Nat) : Int)) (Hp J) := by
  intro B
  induction B with
  | nil => intro A fu _ hB; exact absurd rfl hB
  | cons y t ih =>
    intro A fu hPe _ hA hf
    obtain ⟨fu, rfl⟩ : ∃ q, fu = q + 1 := ⟨fu - 1, by omega⟩
    have hlen : w = A.length + (t.length + 1) := by rw [← hP, hPe]; simp
    have hget : P[A.length]? = some y := by rw [hPe]; simp
    have hy := hb y (by rw [hPe]; simp)
    obtain ⟨hin, hcl⟩ := nat_in (p := f + A.length) (n := m) (by omega) hm2
    have hJ := hR A.length y hget
    by_cases ht : t = []
    · subst ht
      simp at hlen
      refine ⟨A, y, [], hPe, hA, hlast y (by rw [show w - 1 = A.length by omega]; exact hget), ?_⟩
      show b_Search_insert_13 N (f_Search_insert_13 N fu) X (iJ v) _ _ (Hp J) = _
      unfold b_Search_insert_13
      rw [if_pos ((iI_le (by omega) (by omega) (by omega) (by omega)).mpr (by omega))]
    · have htl : 1 ≤ t.length := by
        cases t with
        | nil => exact absurd rfl ht
        | cons _ _ => simp
      have hstep : f_Search_insert_13 N (fu + 1) X (iJ v) (iI ((f + (w - 1) : Nat) : Int)) (iI ((f + A.length : Nat) : Int)) (Hp J) = (if v ≤ y then f_Search_insert_35 N X (iJ v) (iI ((f + (w - 1) : Nat) : Int)) (iI ((f + A.length : Nat) : Int)) (Hp J) else f_Search_insert_13 N fu X (iJ v) (iI ((f + (w - 1) : Nat) : Int)) (iI ((f + (A.length + 1) : Nat) : Int)) (Hp J)) := by
        show b_Search_insert_13 N (f_Search_insert_13 N fu) X (iJ v) _ _ (Hp J) = _
        unfold b_Search_insert_13
        have ea : iI ((f + A.length : Nat) : Int) + 1 = iI ((f + (A.length + 1) : Nat) : Int) := by rw [iI_1, iI_add]; congr 1
        rw [if_neg (fun z => by have := (iI_le (by omega) (by omega) (by omega) (by omega)).mp z; omega), rd _ _ hin, hcl, hJ, Option.bind_some, ea]
        simp only [lgc_nn (show (-9223372036854775808 : Int) ≤ y by omega) (show y < 9223372036854775808 by omega) (show (-9223372036854775808 : Int) ≤ v by omega) (show v < 9223372036854775808 by omega)]
      by_cases hvy : v ≤ y
      · refine ⟨A, y, t, hPe, hA, hvy, ?_⟩
        rw [hstep, if_pos hvy]
      · rw [hstep, if_neg hvy]
        have := ih (A ++ [y]) fu (by rw [hPe]; simp) ht (fun z hz => by
          rcases List.mem_append.mp hz with q | q
          · exact hA z q
          · rw [List.mem_singleton.mp q]; omega) (by simp at hf; omega)
        rw [List.length_append] at this
        exact this
theorem s_insert (rd : ∀ (J : Nat → Nat → Int64) (v : Int32), vp_in v m → zaJ (Hp J) 1 X v = some (J i v.toNatClampNeg)) (wr : ∀ (J : Nat → Nat → Int64) (v : Int32) (u : Int64), vp_in v m → zsJ (Hp J) 1 X v u = some (Hp (u2 J i v.toNatClampNeg u))) (r3 : ∀ J, zgI (Hp J) s 8 3 = some (iI w)) (hw : 1 ≤ w) (hw6 : w ≤ 6) (hN : 20 ≤ N) {f : Nat} {v : Int} {J : Nat → Nat → Int64} {L : List Int} (hm : f + w ≤ m) (hm2 : m ≤ 1000000) (hL : L.length ≤ w) (hp : L.Pairwise (· < ·)) (hb : ∀ x ∈ L, inJ x) (hv : inJ v) (hlast : ∀ y, (pd w L)[w - 1]? = some y → v ≤ y) (hR : RowL J i f (pd w L)) :
    ∃ J', RowL J' i f (pd w ((insr v L).take w)) ∧ (∀ a q, (a ≠ i ∨ q < f ∨ f + w ≤ q) → J' a q = J a q) ∧ f_Search_insert N s X (iI f) (iJ v) (Hp J) = some ((), Hp J') := by
  unfold inJ at hb hv
  have hbP : ∀ x ∈ pd w L, 0 ≤ x ∧ x ≤ (1152921504606846976 : Int) := fun x hx => by
    rcases pd_in hx with a | a
    · have := hb x a; omega
    · omega
  obtain ⟨A, y, B, hPe, hA, hvy, hgo⟩ := s_find (N := N) rd hm hm2 (pd_len hL) hbP (by omega) hlast hR (pd w L) [] N rfl (fun e => by have := pd_len hL; rw [e] at this; simp at this; omega) (fun y hy => absurd hy List.not_mem_nil) (by rw [pd_len hL]; omega)
  have hlen : w = A.length + (B.length + 1) := by rw [← pd_len hL, hPe]; simp
  have hy := hbP y (by rw [hPe]; simp)
  have hAL : A.length ≤ L.length := by
    rcases Nat.lt_or_ge L.length A.length with q | q
    · exfalso
      have hg : (pd w L)[L.length]? = some (1152921504606846976 : Int) := by
        unfold pd
        rw [List.getElem?_append_right (by omega), List.getElem?_replicate, if_pos (by omega)]
      rw [hPe, List.getElem?_append_left q] at hg
      have := hA (1152921504606846976 : Int) (List.mem_of_getElem? hg)
      omega
    · exact q
  have hAe : A = L.take A.length := by
    have : (pd w L).take A.length = A := by rw [hPe, List.take_append_of_le_length (Nat.le_refl _), List.take_of_length_le (Nat.le_refl _)]
    unfold pd at this
    rw [List.take_append_of_le_length hAL] at this
    exact this.symm
  have hLe : L = A ++ L.drop A.length := by
    have := (List.take_append_drop A.length L).symm
    rw [← hAe] at this; exact this
  have hBe : y :: B = L.drop A.length ++ List.replicate (w - L.length) (1152921504606846976 : Int) := by
    have : (pd w L).drop A.length = y :: B := by rw [hPe, List.drop_append_of_le_length (Nat.le_refl _), List.drop_of_length_le (Nat.le_refl _), List.nil_append]
    unfold pd at this
    rw [List.drop_append_of_le_length hAL] at this
    exact this.symm
  have hi : insr v L = A ++ insr v (L.drop A.length) := by
    have := insr_app (x := v) (A := A) (B := L.drop A.length) hA
    rw [← hLe] at this; exact this
  have hgo' : f_Search_insert N s X (iI f) (iJ v) (Hp J) = f_Search_insert_35 N X (iJ v) (iI ((f + (w - 1) : Nat) : Int)) (iI ((f + A.length : Nat) : Int)) (Hp J) := by
    unfold f_Search_insert
    rw [r3, Option.bind_some, ← hgo]
    rw [show iI (f : Int) + iI (w : Int) - 1 = iI ((f + (w - 1) : Nat) : Int) by rw [iI_1, iI_add, iI_sub]; congr 1; omega]
    rfl
  obtain ⟨hin, hcl⟩ := nat_in (p := f + A.length) (n := m) (by omega) hm2
  have hJ := hR A.length y (by rw [hPe]; simp)
  rw [hgo']
  unfold f_Search_insert_35
  rw [rd _ _ hin, hcl, hJ, Option.bind_some]
  by_cases heq : y = v
  · subst heq
    rw [if_pos ((lgc_0 (by omega) (by omega) (by omega) (by omega)).mpr rfl)]
    have hne : L.drop A.length ≠ [] := fun e => by
      rw [e, List.nil_append] at hBe
      have : y ∈ List.replicate (w - L.length) (1152921504606846976 : Int) := by rw [← hBe]; simp
      have := List.eq_of_mem_replicate this
      omega
    obtain ⟨z, t, hzt⟩ := List.exists_cons_of_ne_nil hne
    have hz : z = y := by rw [hzt] at hBe; simp at hBe; exact hBe.1.symm
    subst hz
    have htk : (insr z L).take w = L := by
      have : insr z (z :: t) = z :: t := by
        show (if z < z then _ else if z = z then z :: t else _) = _
        rw [if_neg (by omega), if_pos rfl]
      rw [hi, hzt, this, ← hzt, ← hLe, List.take_of_length_le hL]
    exact ⟨J, by rw [htk]; exact hR, fun _ _ _ => rfl, rfl⟩
  · rw [if_neg (fun z => heq ((lgc_0 (by omega) (by omega) (by omega) (by omega)).mp z))]
    have hins : insr v (L.drop A.length) = v :: L.drop A.length := by
      cases hd : L.drop A.length with
      | nil => rfl
      | cons z t =>
        have hz : z = y := by rw [hd] at hBe; simp at hBe; exact hBe.1.symm
        show (if v < z then v :: z :: t else _) = _
        rw [if_pos (by omega)]
    have hpd : pd w ((insr v L).take w) = (A ++ v :: (y :: B)).take w := by
      rw [hi, hins, pd_ins (by have := congrArg List.length hLe; rw [List.length_append] at this; omega), ← hLe, ← hBe]
    have hsh := s_shift (N := N) (v := iJ v) (k := A.length) (w := w) rd wr hm hm2 (w - 1 - A.length) N (w - 1) J (by omega) (by omega) (by omega)
    refine ⟨u2 (shJ J i f A.length (w - 1)) i (f + A.length) (iJ v), ?_, fun a q hq => ?_, hsh⟩
    · rw [hpd]
      exact row_ins (by rw [← hPe]; exact hR) (by simp; omega) (by omega)
    · rw [u2_n (by omega)]
      unfold shJ
      rw [if_neg (by omega)]
theorem s_merge (rd : ∀ (J : Nat → Nat → Int64) (v : Int32), vp_in v m → zaJ (Hp J) 1 X v = some (J i v.toNatClampNeg)) (wr : ∀ (J : Nat → Nat → Int64) (v : Int32) (u : Int64), vp_in v m → zsJ (Hp J) 1 X v u = some (Hp (u2 J i v.toNatClampNeg u))) (rd2 : ∀ (J : Nat → Nat → Int64) (v : Int32), vp_in v m2 → zaJ (Hp J) 1 X2 v = some (J i2 v.toNatClampNeg)) (r3 : ∀ J, zgI (Hp J) s 8 3 = some (iI w)) (r8 : ∀ J, zis (Hp J) s 8 = true) (hw : 1 ≤ w) (hw6 : w ≤ 6) (hN : 20 ≤ N) (hne : i2 ≠ i) {f f2 : Nat} {d : Int} (hm : f + w ≤ m) (hm1 : m ≤ 1000000) (hm2 : f2 + w ≤ m2) (hm3 : m2 ≤ 1000000) (hd1 : 0 ≤ d) (hd2 : d ≤ 100000000000000000) {M : List Int} (hMl : M.length ≤ w) (hMp : M.Pairwise (· < ·)) (hMb : ∀ x ∈ M, 0 ≤ x ∧ x ≤ 100000000000000000) :
    ∀ (B A : List Int) (fu : Nat) (J : Nat → Nat → Int64) (L : List Int), M = A ++ B → B.length + 1 < fu → RowL J i2 f2 (pd w M) → RowL J i f (pd w L) → L.length ≤ w → L.Pairwise (· < ·) → (∀ x ∈ L, inJ x) →
    ∃ J', RowL J' i f (pd w (putL w L (B.map (fun y => y + d)))) ∧ (∀ a q, (a ≠ i ∨ q < f ∨ f + w ≤ q) → J' a q = J a q) ∧ f_Search_merge_3 N fu s X (iI f) X2 (iI f2) (iJ d) (iI A.length) (Hp J) = some ((), Hp J') := by
  have eNOW : (1152921504606846976 : Int64) = iJ (1152921504606846976 : Int) := by decide
  intro B
  induction B with
  | nil =>
    intro A fu J L hMe hf hRM hR hL hp hb
    obtain ⟨fu, rfl⟩ : ∃ q, fu = q + 1 := ⟨fu - 1, by omega⟩
    refine ⟨J, hR, fun _ _ _ => rfl, ?_⟩
    have hAl : A.length = M.length := by rw [hMe]; simp
    show b_Search_merge_3 N (f_Search_merge_3 N fu) s X _ X2 _ _ _ (Hp J) = _
    unfold b_Search_merge_3
    rw [r3, Option.bind_some]
    by_cases c : w ≤ A.length
    · rw [if_pos ((iI_le (by omega) (by omega) (by omega) (by omega)).mpr (by omega))]
    · rw [if_neg (fun z => by have := (iI_le (by omega) (by omega) (by omega) (by omega)).mp z; omega)]
      obtain ⟨hin, hcl⟩ := nat_in (p := f2 + A.length) (n := m2) (by omega) hm3
      have hg : (pd w M)[A.length]? = some (1152921504606846976 : Int) := by
        unfold pd
        rw [List.getElem?_append_right (by omega), List.getElem?_replicate, if_pos (by omega)]
      rw [iI_add, show (f2 : Int) + (A.length : Int) = ((f2 + A.length : Nat) : Int) by omega, rd2 _ _ hin, hcl, hRM _ _ hg, Option.bind_some, eNOW, if_pos ((lgc_nn (by omega) (by omega) (by omega) (by omega)).mpr (Int.le_refl _))]
  | cons y t ih =>
    intro A fu J L hMe hf hRM hR hL hp hb
    obtain ⟨fu, rfl⟩ : ∃ q, fu = q + 1 := ⟨fu - 1, by omega⟩
    have hAl : M.length = A.length + (t.length + 1) := by rw [hMe]; simp
    have hy := hMb y (by rw [hMe]; simp)
    obtain ⟨hin, hcl⟩ := nat_in (p := f2 + A.length) (n := m2) (by omega) hm3
    have hg : (pd w M)[A.length]? = some y := by
      unfold pd
      rw [List.getElem?_append_left (by omega), hMe]; simp
    obtain ⟨z, hz, hzc⟩ := pd_last hw hL hp
    obtain ⟨hinl, hcll⟩ := nat_in (p := f + (w - 1)) (n := m) (by omega) hm1
    have hz2 : 0 ≤ z ∧ z ≤ (1152921504606846976 : Int) := by
      rcases hzc with ⟨e, -⟩ | ⟨-, e, -⟩
      · omega
      · have := hb z e; unfold inJ at this; omega
    have hstep : ∀ r : Unit × zH → Prop, (y + d ≤ z → ∃ q, (Option.bind (f_Search_insert N s X (iI f) (iJ (y + d)) (Hp J)) fun p5 => f_Search_merge_3 N fu s X (iI f) X2 (iI f2) (iJ d) (iI ((A.length + 1 : Nat) : Int)) p5.2) = some q ∧ r q) → (z < y + d → r ((), Hp J)) → ∃ q, f_Search_merge_3 N (fu + 1) s X (iI f) X2 (iI f2) (iJ d) (iI A.length) (Hp J) = some q ∧ r q := by
      intro r h1 h2
      show ∃ q, b_Search_merge_3 N (f_Search_merge_3 N fu) s X _ X2 _ _ _ (Hp J) = some q ∧ r q
      unfold b_Search_merge_3
      rw [r3, Option.bind_some, if_neg (fun z => by have := (iI_le (by omega) (by omega) (by omega) (by omega)).mp z; omega)]
      rw [iI_add, show (f2 : Int) + (A.length : Int) = ((f2 + A.length : Nat) : Int) by omega, rd2 _ _ hin, hcl, hRM _ _ hg, Option.bind_some, eNOW, if_neg (fun z => by have := (lgc_nn (by omega) (by omega) (by omega) (by omega)).mp z; omega)]
      rw [Option.bind_some, show iI (f : Int) + iI (w : Int) - 1 = iI ((f + (w - 1) : Nat) : Int) by rw [iI_1, iI_add, iI_sub]; congr 1; omega, rd _ _ hinl, hcll, hR _ _ hz, Option.bind_some, iJ_add, r8, zck_t]
      have ea : iI (A.length : Int) + 1 = iI ((A.length + 1 : Nat) : Int) := by rw [iI_1, iI_add]; rfl
      have el : lg_cmp (iJ (y + d)) (iJ z) ≤ 0 ↔ y + d ≤ z := by
        rw [lgc (by omega) (by omega) (by omega) (by omega)]
        by_cases a1 : z < y + d
        · rw [if_pos a1]; exact ⟨fun q => absurd q (by decide), fun q => by omega⟩
        · rw [if_neg a1]
          by_cases a2 : y + d = z
          · rw [if_pos a2]; exact ⟨fun _ => by omega, fun _ => by decide⟩
          · rw [if_neg a2]; exact ⟨fun _ => by omega, fun _ => by decide⟩
      rw [ea]
      simp only [el]
      by_cases c : y + d ≤ z
      · rw [if_pos c]; exact h1 c
      · rw [if_neg c]; exact ⟨_, rfl, h2 (by omega)⟩
    by_cases c : y + d ≤ z
    · obtain ⟨J1, hR1, hS1, hgo1⟩ := s_insert (N := N) rd wr r3 hw hw6 hN (v := y + d) hm hm1 hL hp hb (by unfold inJ; omega) (fun q hq => by rw [hz] at hq; cases hq; exact c) hR
      obtain ⟨J2, hR2, hS2, hgo2⟩ := ih (A ++ [y]) fu J1 ((insr (y + d) L).take w) (by rw [hMe]; simp) (by simp at hf; omega) (hRM.congr (fun k hk => hS1 _ _ (Or.inl hne))) hR1 (by rw [List.length_take]; omega) ((insr_rising _ hp).sublist (List.take_sublist _ _)) (fun q hq => by
        rcases (insr_mem _ _ _).mp (List.mem_of_mem_take hq) with a | a
        · unfold inJ; omega
        · exact hb q a)
      obtain ⟨q, hq, hqr⟩ := hstep (fun q => q = ((), Hp J2)) (fun _ => ⟨_, by
        rw [hgo1, Option.bind_some]
        rw [List.length_append] at hgo2
        exact hgo2, rfl⟩) (fun e => by omega)
      exact ⟨J2, hR2, fun a k hk => (hS2 a k hk).trans (hS1 a k hk), by rw [hq, hqr]⟩
    · obtain ⟨q, hq, hqr⟩ := hstep (fun q => q = ((), Hp J)) (fun e => absurd e c) (fun _ => rfl)
      refine ⟨J, ?_, fun _ _ _ => rfl, by rw [hq, hqr]⟩
      rcases hzc with ⟨e, -⟩ | ⟨e1, e2, e3⟩
      · omega
      · rw [putL_stop e1]
        · exact hR
        · intro v hv u hu
          obtain ⟨v0, hv0, rfl⟩ := List.mem_map.mp hv
          have h1 := e3 u hu
          have h2 : y ≤ v0 := by
            rcases List.mem_cons.mp hv0 with a | a
            · omega
            · rw [hMe, List.pairwise_append] at hMp
              have := (List.pairwise_cons.mp hMp.2.1).1 v0 a
              omega
          show u < v0 + d
          omega
theorem s_mergeF (rd : ∀ (J : Nat → Nat → Int64) (v : Int32), vp_in v m → zaJ (Hp J) 1 X v = some (J i v.toNatClampNeg)) (wr : ∀ (J : Nat → Nat → Int64) (v : Int32) (u : Int64), vp_in v m → zsJ (Hp J) 1 X v u = some (Hp (u2 J i v.toNatClampNeg u))) (rd2 : ∀ (J : Nat → Nat → Int64) (v : Int32), vp_in v m2 → zaJ (Hp J) 1 X2 v = some (J i2 v.toNatClampNeg)) (r3 : ∀ J, zgI (Hp J) s 8 3 = some (iI w)) (r8 : ∀ J, zis (Hp J) s 8 = true) (hw : 1 ≤ w) (hw6 : w ≤ 6) (hN : 20 ≤ N) (hne : i2 ≠ i) {f f2 : Nat} {d : Int} (hm : f + w ≤ m) (hm1 : m ≤ 1000000) (hm2 : f2 + w ≤ m2) (hm3 : m2 ≤ 1000000) (hd1 : 0 ≤ d) (hd2 : d ≤ 100000000000000000) {S S2 : Int → Prop} {J : Nat → Nat → Int64} (hS : RF J i f w S) (hS2 : RF J i2 f2 w S2) (bS : ∀ x, S x → 0 ≤ x ∧ x ≤ 100000000000000000) (bS2 : ∀ x, S2 x → 0 ≤ x ∧ x ≤ 100000000000000000) :
    ∃ J', RF J' i f w (fun z => S z ∨ ∃ y, S2 y ∧ z = y + d) ∧ (∀ a q, (a ≠ i ∨ q < f ∨ f + w ≤ q) → J' a q = J a q) ∧ f_Search_merge N s X (iI f) X2 (iI f2) (iJ d) (Hp J) = some ((), Hp J') := by
  obtain ⟨L, hR, hF⟩ := hS
  obtain ⟨M, hRM, hFM⟩ := hS2
  obtain ⟨J', h1, h2, h3⟩ := s_merge (N := N) rd wr rd2 r3 r8 hw hw6 hN hne hm hm1 hm2 hm3 hd1 hd2 hFM.2.1 hFM.1 (fun x hx => bS2 x (hFM.2.2.1 x hx)) M [] N J L rfl (by have := hFM.2.1; omega) hRM hR hF.2.1 hF.1 (fun x hx => by have := bS x (hF.2.2.1 x hx); unfold inJ; omega)
  exact ⟨J', ⟨_, h1, hF.union (hFM.shift d)⟩, h2, h3⟩
/-- a row is filled -/
theorem s_fill (wr : ∀ (J : Nat → Nat → Int64) (v : Int32) (u : Int64), vp_in v m → zsJ (Hp J) 1 X v u = some (Hp (u2 J i v.toNatClampNeg u))) (hm2 : m ≤ 1000000) {u : Int64} : ∀ (d fu k : Nat) (J : Nat → Nat → Int64), k + d = m → d < fu → ∃ J', (∀ q, k ≤ q → q < m → J' i q = u) ∧ (∀ a q, (a ≠ i ∨ q < k ∨ m ≤ q) → J' a q = J a q) ∧ f_Arrays_fill_AJJV_6 N fu X u (iI k) (iI m) (Hp J) = some ((), Hp J') := by
  intro d
  induction d with
  | zero =>
    intro fu k J hd hf
    obtain ⟨fu, rfl⟩ : ∃ q, fu = q + 1 := ⟨fu - 1, by omega⟩
    refine ⟨J, fun q h1 h2 => by omega, fun _ _ _ => rfl, ?_⟩
    show b_Arrays_fill_AJJV_6 N (f_Arrays_fill_AJJV_6 N fu) X u _ _ _ = _
    unfold b_Arrays_fill_AJJV_6
    rw [if_pos ((iI_le (by omega) (by omega) (by omega) (by omega)).mpr (by omega))]
  | succ d ih =>
    intro fu k J hd hf
    obtain ⟨fu, rfl⟩ : ∃ q, fu = q + 1 := ⟨fu - 1, by omega⟩
    obtain ⟨hin, hcl⟩ := nat_in (p := k) (n := m) (by omega) hm2
    obtain ⟨J', h1, h2, h3⟩ := ih fu (k + 1) (u2 J i k u) (by omega) (by omega)
    refine ⟨J', fun q a1 a2 => ?_, fun a q hq => by rw [h2 a q (by omega), u2_n (by omega)], ?_⟩
    · by_cases e : q = k
      · subst e; rw [h2 i q (by omega), u2_s]
      · exact h1 q (by omega) a2
    · show b_Arrays_fill_AJJV_6 N (f_Arrays_fill_AJJV_6 N fu) X u _ _ _ = _
      unfold b_Arrays_fill_AJJV_6
      have ek : iI (k : Int) + 1 = iI ((k + 1 : Nat) : Int) := by rw [iI_1, iI_add]; rfl
      rw [if_neg (fun z => by have := (iI_le (by omega) (by omega) (by omega) (by omega)).mp z; omega), wr _ _ _ hin, hcl, Option.bind_some, ek]
      exact h3
theorem s_fillA (rl : ∀ J, zlen (Hp J) 1 X = some (Int32.ofNat m)) (wr : ∀ (J : Nat → Nat → Int64) (v : Int32) (u : Int64), vp_in v m → zsJ (Hp J) 1 X v u = some (Hp (u2 J i v.toNatClampNeg u))) (hm2 : m ≤ 1000000) (hN : m < N) {u : Int64} {J : Nat → Nat → Int64} : ∃ J', (∀ q, q < m → J' i q = u) ∧ (∀ a q, (a ≠ i ∨ m ≤ q) → J' a q = J a q) ∧ f_Arrays_fill_AJJV N X u (Hp J) = some ((), Hp J') := by
  obtain ⟨J', h1, h2, h3⟩ := s_fill (N := N) (u := u) wr hm2 m N 0 J (by omega) hN
  refine ⟨J', fun q hq => h1 q (by omega) hq, fun a q hq => h2 a q (by omega), ?_⟩
  unfold f_Arrays_fill_AJJV
  rw [rl, Option.bind_some]
  rw [show iI ((0 : Nat) : Int) = (0 : Int32) from iI_0.symm] at h3
  exact h3
end CROW
