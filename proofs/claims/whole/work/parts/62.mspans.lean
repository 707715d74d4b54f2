/-! spans are told and dropped; the reference: span, drop -/
theorem lgc_pos {a d : Int} (h1 : -9223372036854775808 ≤ a) (h2 : a < 9223372036854775808) (h3 : -9223372036854775808 ≤ d) (h4 : d < 9223372036854775808) : 0 < lg_cmp (iJ a) (iJ d) ↔ d < a := by
  rw [lgc h1 h2 h3 h4]
  by_cases a1 : d < a
  · rw [if_pos a1]; exact ⟨fun _ => a1, fun _ => by decide⟩
  · rw [if_neg a1]
    by_cases a2 : a = d
    · rw [if_pos a2]; exact ⟨fun h => absurd h (by decide), fun h => by omega⟩
    · rw [if_neg a2]; exact ⟨fun h => absurd h (by decide), fun h => by omega⟩
/-- no step of a span's is shared -/
def c_free (c : cfg) (x y : Int) (k : Nat) : Bool := decide (c.2 7 k ≤ x ∨ y ≤ c.2 6 k)
def c_room (c : cfg) (x y : Int) : Bool := (List.range (c.1 10).toNat).all (c_free c x y)
def addS (c : cfg) (x y kd pr : Int) : cfg := (u1 c.1 10 (c.1 10 + 1), u2 (u2 (u2 (u2 c.2 6 (c.1 10).toNat x) 7 (c.1 10).toNat y) 8 (c.1 10).toNat kd) 9 (c.1 10).toNat pr)
abbrev spanOK (c : cfg) (x y kd pr : Int) : Prop := c.1 10 < 6 ∧ 0 ≤ x ∧ y ≤ c.1 0 ∧ x + 2 ≤ y ∧ (kd = 0 ∨ kd = 1) ∧ 0 ≤ pr ∧ pr ≤ 1000000000
def s_span (a : ast) (x y kd pr : Int) : Int × ast := if spanOK a.1 x y kd pr ∧ c_room a.1 x y = true then (a.1.1 10, forg (addS a.1 x y kd pr, a.2)) else (-1, a)
theorem addS_ok {c : cfg} (hc : cOK c) {x y kd pr : Int} (h : spanOK c x y kd pr) (hr : c_room c x y = true) : cOK (addS c x y kd pr) := by
  obtain ⟨c0, c1, c7, c8, c9, c10, cp, ck, cd⟩ := hc
  obtain ⟨h1, h2, h3, h4, h5, h6, h7⟩ := h
  have hroom : ∀ k : Nat, (k : Int) < c.1 10 → c.2 7 k ≤ x ∨ y ≤ c.2 6 k := fun k hk => by
    have := List.all_eq_true.mp hr k (List.mem_range.mpr (by omega))
    exact of_decide_eq_true this
  have e : ∀ i q, i < 6 ∨ q ≠ (c.1 10).toNat → (addS c x y kd pr).2 i q = c.2 i q := fun i q hq => by
    show u2 (u2 (u2 (u2 c.2 6 _ x) 7 _ y) 8 _ kd) 9 _ pr i q = _
    rw [u2_n (by omega), u2_n (by omega), u2_n (by omega), u2_n (by omega)]
  have e6 : (addS c x y kd pr).2 6 (c.1 10).toNat = x := by
    show u2 (u2 (u2 (u2 c.2 6 (c.1 10).toNat x) 7 (c.1 10).toNat y) 8 (c.1 10).toNat kd) 9 (c.1 10).toNat pr 6 (c.1 10).toNat = _
    rw [u2_n (by omega), u2_n (by omega), u2_n (by omega), u2_s]
  have e7 : (addS c x y kd pr).2 7 (c.1 10).toNat = y := by
    show u2 (u2 (u2 (u2 c.2 6 (c.1 10).toNat x) 7 (c.1 10).toNat y) 8 (c.1 10).toNat kd) 9 (c.1 10).toNat pr 7 (c.1 10).toNat = _
    rw [u2_n (by omega), u2_n (by omega), u2_s]
  have e8 : (addS c x y kd pr).2 8 (c.1 10).toNat = kd := by
    show u2 (u2 (u2 (u2 c.2 6 (c.1 10).toNat x) 7 (c.1 10).toNat y) 8 (c.1 10).toNat kd) 9 (c.1 10).toNat pr 8 (c.1 10).toNat = _
    rw [u2_n (by omega), u2_s]
  have e9 : (addS c x y kd pr).2 9 (c.1 10).toNat = pr := u2_s
  have e10 : (addS c x y kd pr).1 10 = c.1 10 + 1 := rfl
  refine ⟨c0, c1, c7, c8, c9, by rw [e10]; omega, fun q hq => ?_, fun k hk => ?_, fun j k hj hk hjk => ?_⟩
  · rw [e 1 q (by omega), e 2 q (by omega), e 3 q (by omega), e 4 q (by omega), e 5 q (by omega)]; exact cp q hq
  · rw [e10] at hk
    by_cases ek : k = (c.1 10).toNat
    · subst ek
      rw [e6, e7, e8, e9]
      exact ⟨⟨h2, h4, h3⟩, h5, h6, h7⟩
    · rw [e 6 k (Or.inr ek), e 7 k (Or.inr ek), e 8 k (Or.inr ek), e 9 k (Or.inr ek)]
      exact ck k (by omega)
  · rw [e10] at hj hk
    by_cases ej : j = (c.1 10).toNat
    · subst ej
      rw [e6, e7, e 6 k (by omega), e 7 k (by omega)]
      have := hroom k (by omega)
      omega
    · rw [e 6 j (Or.inr ej), e 7 j (Or.inr ej)]
      by_cases ek : k = (c.1 10).toNat
      · subst ek
        rw [e6, e7]
        have := hroom j (by omega)
        omega
      · rw [e 6 k (Or.inr ek), e 7 k (Or.inr ek)]
        exact cd j k (by omega) (by omega) hjk
def sk (k j : Nat) : Nat := if k ≤ j then j + 1 else j
def dropS (c : cfg) (k : Nat) : cfg := (u1 c.1 10 (c.1 10 - 1), fun i j => if 6 ≤ i ∧ i ≤ 9 then c.2 i (sk k j) else c.2 i j)
def s_drop (a : ast) (k : Int) : Bool × ast := if 0 ≤ k ∧ k < a.1.1 10 then (true, forg (dropS a.1 k.toNat, a.2)) else (false, a)
theorem sk_r {k j : Nat} : (k ≤ j ∧ sk k j = j + 1) ∨ (j < k ∧ sk k j = j) := by
  unfold sk
  by_cases h : k ≤ j
  · rw [if_pos h]; omega
  · rw [if_neg h]; omega
theorem dropS_ok {c : cfg} (hc : cOK c) {k : Nat} (hk : (k : Int) < c.1 10) : cOK (dropS c k) := by
  obtain ⟨c0, c1, c7, c8, c9, c10, cp, ck, cd⟩ := hc
  have e10 : (dropS c k).1 10 = c.1 10 - 1 := rfl
  refine ⟨c0, c1, c7, c8, c9, by rw [e10]; omega, fun q hq => cp q hq, fun j hj => ?_, fun i j hi hj hij => ?_⟩
  · rw [e10] at hj
    exact ck (sk k j) (by have := sk_r (k := k) (j := j); omega)
  · rw [e10] at hi hj
    have h1 := sk_r (k := k) (j := i)
    have h2 := sk_r (k := k) (j := j)
    exact cd (sk k i) (sk k j) (by omega) (by omega) (by omega)
section MSPANS
variable {h : zH} {b : Nat} {I : Nat → Nat → Int32} {J : Nat → Nat → Int64} {a : ast} {N : Nat}
theorem m_span (hN : 2000 ≤ N) (hOK : aOK a) (hI : MI I J a) {x y kd pr : Int} (hx : rg x) (hy : rg y) (hkd : rg kd) (hp1 : -9223372036854775808 ≤ pr) (hp2 : pr < 9223372036854775808) : ∃ I' J', MI I' J' (s_span a x y kd pr).2 ∧ f_Model_span N b (iI x) (iI y) (iI kd) (iJ pr) (MH h b I J) = some (iI (s_span a x y kd pr).1, MH h b I' J') := by
  obtain ⟨hM, h24, h1, h4, h18, h19⟩ := id hI
  obtain ⟨x1, x2⟩ := hx
  obtain ⟨y1, y2⟩ := hy
  obtain ⟨k1, k2⟩ := hkd
  have hc := hOK.1
  obtain ⟨n1, n2, n3⟩ := nn_r hc
  have hK := hc.2.2.2.2.2.1
  have e10 := hM.1.2.2.2.2.2
  -- the end: refused
  have hbad : ∀ {fu : Nat} {k : Int}, 0 < fu → ¬ (spanOK a.1 x y kd pr ∧ c_room a.1 x y = true) → ∃ I' J', MI I' J' (s_span a x y kd pr).2 ∧ f_Model_span_68 N fu b (iI x) (iI y) (iI kd) (iJ pr) (0 : Int32) (iI k) (MH h b I J) = some (iI (s_span a x y kd pr).1, MH h b I' J') := by
    intro fu k hf hno
    obtain ⟨fu, rfl⟩ : ∃ q, fu = q + 1 := ⟨fu - 1, by omega⟩
    rw [show s_span a x y kd pr = (-1, a) from if_neg hno]
    refine ⟨I, J, hI, ?_⟩
    show b_Model_span_68 N (f_Model_span_68 N fu) b (iI x) (iI y) (iI kd) (iJ pr) 0 (iI k) (MH h b I J) = _
    unfold b_Model_span_68 f_Model_span_117
    simp only [m_rd, Option.bind_some, if_true, ite_self]
    rw [iI_m1]
  have h62 : ¬ spanOK a.1 x y kd pr → ∃ I' J', MI I' J' (s_span a x y kd pr).2 ∧ f_Model_span_62 N b (iI x) (iI y) (iI kd) (iJ pr) (MH h b I J) = some (iI (s_span a x y kd pr).1, MH h b I' J') := by
    intro hno
    unfold f_Model_span_62 f_Model_span_63
    have := hbad (fu := N) (k := 0) (by omega) (fun z => hno z.1)
    rw [← iI_0] at this
    exact this
  have loop : spanOK a.1 x y kd pr → ∀ (d fu k : Nat), k + d = (a.1.1 10).toNat → d + 1 < fu → (List.range k).all (c_free a.1 x y) = true → ∃ I' J', MI I' J' (s_span a x y kd pr).2 ∧ f_Model_span_68 N fu b (iI x) (iI y) (iI kd) (iJ pr) (1 : Int32) (iI k) (MH h b I J) = some (iI (s_span a x y kd pr).1, MH h b I' J') := by
    intro hok d
    induction d with
    | zero =>
      intro fu k hd hf hall
      obtain ⟨fu, rfl⟩ : ∃ q, fu = q + 1 := ⟨fu - 1, by omega⟩
      have hroom : c_room a.1 x y = true := by unfold c_room; rw [← hall, show (a.1.1 10).toNat = k by omega]
      obtain ⟨o1, o2, o3, o4, o5, o6, o7⟩ := id hok
      rw [show s_span a x y kd pr = (a.1.1 10, forg (addS a.1 x y kd pr, a.2)) from if_pos ⟨hok, hroom⟩]
      show ∃ I' J', _ ∧ b_Model_span_68 N (f_Model_span_68 N fu) b (iI x) (iI y) (iI kd) (iJ pr) 1 (iI k) (MH h b I J) = _
      unfold b_Model_span_68 f_Model_span_117
      simp only [m_rd, Option.bind_some, e10]
      rw [if_pos ((iI_le (by omega) (by omega) (by omega) (by omega)).mpr (by omega)), if_neg (by decide)]
      obtain ⟨hin, hcl⟩ := p_in (p := a.1.1 10) (n := 6) (by omega) (by omega) (by omega)
      have hK10 : ∀ I' : Nat → Nat → Int32, I' 0 10 = iI (a.1.1 10) → zgI (MH h b I' J) b 0 10 = some (iI (a.1.1 10)) := fun I' hh => by rw [m_rd.2.2.2.2.2.2.2.2.2.2.1, hh]
      have hM' : MC (u2 (u2 (u2 (u2 I 6 (a.1.1 10).toNat (iI x)) 7 (a.1.1 10).toNat (iI y)) 8 (a.1.1 10).toNat (iI kd)) 0 10 (iI (a.1.1 10 + 1))) (u2 J 9 (a.1.1 10).toNat (iJ pr)) (addS a.1 x y kd pr) := by
        obtain ⟨⟨a1, a2, a3, a4, a5, a6⟩, hb, hk⟩ := hM
        refine ⟨⟨a1, a2, a3, a4, a5, rfl⟩, fun q hq => hb q hq, fun q hq => ?_⟩
        have hq' : (q : Int) < a.1.1 10 + 1 := hq
        by_cases ek : q = (a.1.1 10).toNat
        · subst ek
          refine ⟨?_, ?_, ?_, ?_⟩
          · show u2 (u2 (u2 (u2 I 6 (a.1.1 10).toNat (iI x)) 7 (a.1.1 10).toNat (iI y)) 8 (a.1.1 10).toNat (iI kd)) 0 10 (iI (a.1.1 10 + 1)) 6 (a.1.1 10).toNat = iI (u2 (u2 (u2 (u2 a.1.2 6 (a.1.1 10).toNat x) 7 (a.1.1 10).toNat y) 8 (a.1.1 10).toNat kd) 9 (a.1.1 10).toNat pr 6 (a.1.1 10).toNat)
            rw [u2_n (by omega), u2_n (by omega), u2_n (by omega), u2_s, u2_n (by omega), u2_n (by omega), u2_n (by omega), u2_s]
          · show u2 (u2 (u2 (u2 I 6 (a.1.1 10).toNat (iI x)) 7 (a.1.1 10).toNat (iI y)) 8 (a.1.1 10).toNat (iI kd)) 0 10 (iI (a.1.1 10 + 1)) 7 (a.1.1 10).toNat = iI (u2 (u2 (u2 (u2 a.1.2 6 (a.1.1 10).toNat x) 7 (a.1.1 10).toNat y) 8 (a.1.1 10).toNat kd) 9 (a.1.1 10).toNat pr 7 (a.1.1 10).toNat)
            rw [u2_n (by omega), u2_n (by omega), u2_s, u2_n (by omega), u2_n (by omega), u2_s]
          · show u2 (u2 (u2 (u2 I 6 (a.1.1 10).toNat (iI x)) 7 (a.1.1 10).toNat (iI y)) 8 (a.1.1 10).toNat (iI kd)) 0 10 (iI (a.1.1 10 + 1)) 8 (a.1.1 10).toNat = iI (u2 (u2 (u2 (u2 a.1.2 6 (a.1.1 10).toNat x) 7 (a.1.1 10).toNat y) 8 (a.1.1 10).toNat kd) 9 (a.1.1 10).toNat pr 8 (a.1.1 10).toNat)
            rw [u2_n (by omega), u2_s, u2_n (by omega), u2_s]
          · show u2 J 9 (a.1.1 10).toNat (iJ pr) 9 (a.1.1 10).toNat = iJ (u2 (u2 (u2 (u2 a.1.2 6 (a.1.1 10).toNat x) 7 (a.1.1 10).toNat y) 8 (a.1.1 10).toNat kd) 9 (a.1.1 10).toNat pr 9 (a.1.1 10).toNat)
            rw [u2_s, u2_s]
        · obtain ⟨b1, b2, b3, b4⟩ := hk q (by omega)
          have eI : ∀ i, 6 ≤ i → i ≤ 8 → u2 (u2 (u2 (u2 I 6 (a.1.1 10).toNat (iI x)) 7 (a.1.1 10).toNat (iI y)) 8 (a.1.1 10).toNat (iI kd)) 0 10 (iI (a.1.1 10 + 1)) i q = I i q := fun i _ _ => by rw [u2_n (by omega), u2_n (by omega), u2_n (by omega), u2_n (by omega)]
          have eC : ∀ i, 6 ≤ i → (addS a.1 x y kd pr).2 i q = a.1.2 i q := fun i _ => by
            show u2 (u2 (u2 (u2 a.1.2 6 _ x) 7 _ y) 8 _ kd) 9 _ pr i q = _
            rw [u2_n (by omega), u2_n (by omega), u2_n (by omega), u2_n (by omega)]
          rw [eI 6 (by omega) (by omega), eI 7 (by omega) (by omega), eI 8 (by omega) (by omega), eC 6 (by omega), eC 7 (by omega), eC 8 (by omega), eC 9 (by omega), u2_n (Or.inr ek)]
          exact ⟨b1, b2, b3, b4⟩
      obtain ⟨I1, hI1, hE1, hgo1⟩ := m_forget (h := h) (b := b) (N := N) (a := a) (by omega) hM' h4
      have hx10 : I1 0 10 = iI (a.1.1 10 + 1) := by rw [hE1 10 (by omega) (by omega)]; rfl
      refine ⟨I1, _, hI1, ?_⟩
      have ex1 : u2 (u2 (u2 I 6 (a.1.1 10).toNat (iI x)) 7 (a.1.1 10).toNat (iI y)) 8 (a.1.1 10).toNat (iI kd) 0 10 = iI (a.1.1 10) := e10
      have ex2 : u2 (u2 I 6 (a.1.1 10).toNat (iI x)) 7 (a.1.1 10).toNat (iI y) 0 10 = iI (a.1.1 10) := e10
      have ex3 : u2 I 6 (a.1.1 10).toNat (iI x) 0 10 = iI (a.1.1 10) := e10
      have e1a : iI (a.1.1 10) + 1 = iI (a.1.1 10 + 1) := by rw [iI_1, iI_add]
      simp only [ms_6 hin, ms_7 hin, ms_8 hin, ms_9 hin, hcl, Option.bind_some, m_rd, m_wr, ex1, ex2, ex3, e1a, zck_t, hgo1, hx10]
      rw [iI_1, iI_sub, show a.1.1 10 + 1 - 1 = a.1.1 10 by omega]
    | succ d ih =>
      intro fu k hd hf hall
      obtain ⟨fu, rfl⟩ : ∃ q, fu = q + 1 := ⟨fu - 1, by omega⟩
      have hkk : (k : Int) < a.1.1 10 := by omega
      obtain ⟨⟨r1, r2, r3⟩, -⟩ := hc.2.2.2.2.2.2.2.1 k hkk
      obtain ⟨e6, e7, -, -⟩ := hM.2.2 k hkk
      obtain ⟨hin, hcl⟩ := p_in (p := (k : Int)) (n := 6) (by omega) (by omega) (by omega)
      have hcl' : (iI (k : Int)).toNatClampNeg = k := by rw [hcl]; rfl
      have ek : iI (k : Int) + 1 = iI ((k + 1 : Nat) : Int) := by rw [iI_1, iI_add]; rfl
      show ∃ I' J', _ ∧ b_Model_span_68 N (f_Model_span_68 N fu) b (iI x) (iI y) (iI kd) (iJ pr) 1 (iI k) (MH h b I J) = _
      unfold b_Model_span_68 f_Model_span_104 f_Model_span_109
      simp only [m_rd, Option.bind_some, e10, ma_6 hin, ma_7 hin, hcl', e6, e7, ek]
      rw [if_neg (fun z => by have := (iI_le (by omega) (by omega) (by omega) (by omega)).mp z; omega), if_neg (show ¬ ((1 : Int32) = 0) by decide)]
      simp (disch := omega) only [iI_le, iI_lt]
      have hgood : c_free a.1 x y k = true → ∃ I' J', MI I' J' (s_span a x y kd pr).2 ∧ f_Model_span_68 N fu b (iI x) (iI y) (iI kd) (iJ pr) (1 : Int32) (iI ((k + 1 : Nat) : Int)) (MH h b I J) = some (iI (s_span a x y kd pr).1, MH h b I' J') := fun hh => ih fu (k + 1) (by omega) (by omega) (by rw [List.range_succ, List.all_append, hall]; simp [hh])
      by_cases c1 : a.1.2 7 k ≤ x
      · rw [if_pos c1]; exact hgood (decide_eq_true (Or.inl c1))
      · rw [if_neg c1]
        by_cases c2 : a.1.2 6 k < y
        · rw [if_pos c2]
          refine hbad (by omega) (fun z => ?_)
          have := List.all_eq_true.mp z.2 k (List.mem_range.mpr (by omega))
          have := of_decide_eq_true this
          omega
        · rw [if_neg c2]; exact hgood (decide_eq_true (Or.inr (by omega)))
  have h63 : spanOK a.1 x y kd pr → ∃ I' J', MI I' J' (s_span a x y kd pr).2 ∧ f_Model_span_63 N b (iI x) (iI y) (iI kd) (iJ pr) (1 : Int32) (MH h b I J) = some (iI (s_span a x y kd pr).1, MH h b I' J') := by
    intro hok
    have := loop hok (a.1.1 10).toNat N 0 (by omega) (by omega) rfl
    rw [show iI ((0 : Nat) : Int) = (0 : Int32) from iI_0.symm] at this
    exact this
  have h42 : (a.1.1 10 < 6 ∧ 0 ≤ x ∧ y ≤ a.1.1 0 ∧ x + 2 ≤ y ∧ (kd = 0 ∨ kd = 1)) → ∃ I' J', MI I' J' (s_span a x y kd pr).2 ∧ f_Model_span_42 N b (iI x) (iI y) (iI kd) (iJ pr) (MH h b I J) = some (iI (s_span a x y kd pr).1, MH h b I' J') := by
    rintro ⟨o1, o2, o3, o4, o5⟩
    unfold f_Model_span_42
    rw [iJ_0, show (1000000000 : Int64) = iJ 1000000000 by decide]
    by_cases c1 : pr < 0
    · rw [if_pos ((lgc_neg (by omega) (by omega) (by omega) (by omega)).mpr c1)]
      exact h62 (fun z => by have := z.2.2.2.2.2.1; omega)
    · rw [if_neg (fun z => c1 ((lgc_neg (by omega) (by omega) (by omega) (by omega)).mp z))]
      by_cases c2 : 1000000000 < pr
      · rw [if_pos ((lgc_pos (by omega) (by omega) (by omega) (by omega)).mpr c2)]
        exact h62 (fun z => by have := z.2.2.2.2.2.2; omega)
      · rw [if_neg (fun z => c2 ((lgc_pos (by omega) (by omega) (by omega) (by omega)).mp z))]
        exact h63 ⟨o1, o2, o3, o4, o5, by omega, by omega⟩
  unfold f_Model_span
  simp only [m_rd, Option.bind_some, e10, hM.1.1]
  rw [show (6 : Int32) = iI 6 by decide, show (2 : Int64) = iJ 2 by decide, iI_J y1 y2, iI_J x1 x2, iJ_sub]
  simp (disch := omega) only [iI_le, iI_lz, iI_lt, lgc_neg, iI_ez]
  by_cases c1 : 6 ≤ a.1.1 10
  · rw [if_pos c1]; exact h62 (fun z => by have := z.1; omega)
  rw [if_neg c1]
  by_cases c2 : x < 0
  · rw [if_pos c2]; exact h62 (fun z => by have := z.2.1; omega)
  rw [if_neg c2]
  by_cases c3 : a.1.1 0 < y
  · rw [if_pos c3]; exact h62 (fun z => by have := z.2.2.1; omega)
  rw [if_neg c3]
  by_cases c4 : y - 2 < x
  · rw [if_pos c4]; exact h62 (fun z => by have := z.2.2.2.1; omega)
  rw [if_neg c4]
  by_cases c5 : kd = 0
  · rw [if_pos c5]; exact h42 (by omega)
  rw [if_neg c5]
  have el : iI kd = (1 : Int32) ↔ kd = 1 := by rw [iI_1]; exact iI_eq (by omega) (by omega) (by omega) (by omega)
  by_cases c6 : kd = 1
  · rw [if_pos (el.mpr c6)]; exact h42 (by omega)
  · rw [if_neg (fun z => c6 (el.mp z))]; exact h62 (fun z => by have := z.2.2.2.2.1; omega)
theorem m_drop_l (hN : 2000 ≤ N) (hc : cOK a.1) (h4 : I 0 29 = iI (a.2.1 3) ∧ I 0 30 = iI (a.2.1 4) ∧ I 0 31 = iI (a.2.1 5) ∧ I 0 32 = iI (a.2.1 6) ∧ I 0 33 = iI (a.2.1 7)) (hM : MC I J a.1) {k : Nat} (hk : (k : Int) < a.1.1 10) : ∀ (d fu j : Nat) (I1 : Nat → Nat → Int32) (J1 : Nat → Nat → Int64), (j : Int) + d = a.1.1 10 - 1 → k ≤ j → d < fu → (∀ i q, ¬ (i = 0 ∧ q = 10) → I1 i q = if (6 ≤ i ∧ i ≤ 8) ∧ k ≤ q ∧ q < j then I i (q + 1) else I i q) → I1 0 10 = iI (a.1.1 10 - 1) → (∀ i q, J1 i q = if i = 9 ∧ k ≤ q ∧ q < j then J i (q + 1) else J i q) →
    ∃ I' J', MI I' J' (forg (dropS a.1 k, a.2)) ∧ f_Model_drop_26 N fu b (iI j) (MH h b I1 J1) = some (1, MH h b I' J') := by
  have hK := hc.2.2.2.2.2.1
  intro d
  induction d with
  | zero =>
    intro fu j I1 J1 hd hkj hf hI hI10 hJ
    obtain ⟨fu, rfl⟩ : ∃ q, fu = q + 1 := ⟨fu - 1, by omega⟩
    have hM1 : MC I1 J1 (dropS a.1 k) := by
      obtain ⟨⟨a1, a2, a3, a4, a5, a6⟩, hb, hkk⟩ := hM
      refine ⟨⟨?_, ?_, ?_, ?_, ?_, hI10⟩, fun q hq => ?_, fun q hq => ?_⟩
      · rw [hI 0 0 (by omega), if_neg (by omega)]; exact a1
      · rw [hI 0 1 (by omega), if_neg (by omega)]; exact a2
      · rw [hI 0 7 (by omega), if_neg (by omega)]; exact a3
      · rw [hI 0 8 (by omega), if_neg (by omega)]; exact a4
      · rw [hI 0 9 (by omega), if_neg (by omega)]; exact a5
      · rw [hI 1 q (by omega), hI 2 q (by omega), hI 3 q (by omega), hI 4 q (by omega), hI 5 q (by omega), if_neg (by omega), if_neg (by omega), if_neg (by omega), if_neg (by omega), if_neg (by omega)]
        exact hb q hq
      · have hq' : (q : Int) < a.1.1 10 - 1 := hq
        have hs := sk_r (k := k) (j := q)
        obtain ⟨b1, b2, b3, b4⟩ := hkk (sk k q) (by omega)
        have key : ∀ i, 6 ≤ i → i ≤ 8 → I1 i q = I i (sk k q) := fun i g1 g2 => by
          rw [hI i q (by omega)]
          rcases hs with ⟨s1, s2⟩ | ⟨s1, s2⟩
          · rw [if_pos (by omega), s2]
          · rw [if_neg (by omega), s2]
        have keyJ : J1 9 q = J 9 (sk k q) := by
          rw [hJ 9 q]
          rcases hs with ⟨s1, s2⟩ | ⟨s1, s2⟩
          · rw [if_pos (by omega), s2]
          · rw [if_neg (by omega), s2]
        rw [key 6 (by omega) (by omega), key 7 (by omega) (by omega), key 8 (by omega) (by omega), keyJ]
        exact ⟨b1, b2, b3, b4⟩
    obtain ⟨I2, hI2, -, hgo2⟩ := m_forget (h := h) (b := b) (N := N) (a := a) (by omega) hM1 (by
      rw [hI 0 29 (by omega), hI 0 30 (by omega), hI 0 31 (by omega), hI 0 32 (by omega), hI 0 33 (by omega), if_neg (by omega), if_neg (by omega), if_neg (by omega), if_neg (by omega), if_neg (by omega)]; exact h4)
    refine ⟨I2, J1, hI2, ?_⟩
    show b_Model_drop_26 N (f_Model_drop_26 N fu) b (iI j) (MH h b I1 J1) = _
    unfold b_Model_drop_26
    simp only [m_rd, Option.bind_some, hI10, zck_t, hgo2]
    rw [if_pos ((iI_le (by omega) (by omega) (by omega) (by omega)).mpr (by omega))]; rfl
  | succ d ih =>
    intro fu j I1 J1 hd hkj hf hI hI10 hJ
    obtain ⟨fu, rfl⟩ : ∃ q, fu = q + 1 := ⟨fu - 1, by omega⟩
    have hin : vp_in (iI (j : Int)) 6 := iI_in (by omega) (by omega) (by omega)
    have hcl : (iI (j : Int)).toNatClampNeg = j := by rw [iI_cl (by omega) (by omega)]; rfl
    have hin1 : vp_in (iI ((j + 1 : Nat) : Int)) 6 := iI_in (by omega) (by omega) (by omega)
    have hcl1 : (iI ((j + 1 : Nat) : Int)).toNatClampNeg = j + 1 := by rw [iI_cl (by omega) (by omega)]; rfl
    have ej : iI (j : Int) + 1 = iI ((j + 1 : Nat) : Int) := by rw [iI_1, iI_add]; rfl
    obtain ⟨I', J', hI', hgo⟩ := ih fu (j + 1) (u2 (u2 (u2 I1 6 j (I1 6 (j + 1))) 7 j (I1 7 (j + 1))) 8 j (I1 8 (j + 1))) (u2 J1 9 j (J1 9 (j + 1))) (by omega) (by omega) (by omega) (fun i q hq => by
        by_cases e : 6 ≤ i ∧ i ≤ 8 ∧ q = j
        · obtain ⟨e1, e2, rfl⟩ := e
          rw [if_pos (by omega)]
          have hv : ∀ i, 6 ≤ i → i ≤ 8 → I1 i (q + 1) = I i (q + 1) := fun i g1 g2 => by rw [hI i (q + 1) (by omega), if_neg (by omega)]
          by_cases e6 : i = 6
          · subst e6; rw [u2_n (by omega), u2_n (by omega), u2_s]; exact hv 6 (by omega) (by omega)
          · by_cases e7 : i = 7
            · subst e7; rw [u2_n (by omega), u2_s]; exact hv 7 (by omega) (by omega)
            · have e8 : i = 8 := by omega
              subst e8; rw [u2_s]; exact hv 8 (by omega) (by omega)
        · rw [u2_n (by omega), u2_n (by omega), u2_n (by omega), hI i q hq]
          by_cases e2 : (6 ≤ i ∧ i ≤ 8) ∧ k ≤ q ∧ q < j
          · rw [if_pos e2, if_pos (by omega)]
          · rw [if_neg e2, if_neg (by omega)]) (by rw [u2_n (by omega), u2_n (by omega), u2_n (by omega)]; exact hI10) (fun i q => by
        by_cases e : i = 9 ∧ q = j
        · obtain ⟨rfl, rfl⟩ := e
          rw [u2_s, if_pos (by omega), hJ 9 (q + 1), if_neg (by omega)]
        · rw [u2_n (by omega), hJ i q]
          by_cases e2 : i = 9 ∧ k ≤ q ∧ q < j
          · rw [if_pos e2, if_pos (by omega)]
          · rw [if_neg e2, if_neg (by omega)])
    refine ⟨I', J', hI', ?_⟩
    show b_Model_drop_26 N (f_Model_drop_26 N fu) b (iI j) (MH h b I1 J1) = _
    unfold b_Model_drop_26
    simp only [m_rd, Option.bind_some, hI10, ej]
    rw [if_neg (fun z => by have := (iI_le (by omega) (by omega) (by omega) (by omega)).mp z; omega)]
    have q1 : u2 I1 6 j (I1 6 (j + 1)) 7 (j + 1) = I1 7 (j + 1) := u2_n (by omega)
    have q2 : u2 (u2 I1 6 j (I1 6 (j + 1))) 7 j (I1 7 (j + 1)) 8 (j + 1) = I1 8 (j + 1) := by rw [u2_n (by omega), u2_n (by omega)]
    simp only [ma_6 hin1, ms_6 hin, ma_7 hin1, ms_7 hin, ma_8 hin1, ms_8 hin, ma_9 hin1, ms_9 hin, hcl, hcl1, Option.bind_some, m_rd, q1, q2]
    exact hgo
theorem m_drop (hN : 2000 ≤ N) (hOK : aOK a) (hI : MI I J a) {k : Int} (hk : rg k) : ∃ I' J', MI I' J' (s_drop a k).2 ∧ f_Model_drop N b (iI k) (MH h b I J) = some (b1 (s_drop a k).1, MH h b I' J') := by
  obtain ⟨hM, h24, h1, h4, h18, h19⟩ := id hI
  obtain ⟨k1, k2⟩ := hk
  have hc := hOK.1
  have hK := hc.2.2.2.2.2.1
  have e10 := hM.1.2.2.2.2.2
  unfold f_Model_drop
  simp only [m_rd, Option.bind_some, e10]
  simp (disch := omega) only [iI_lz, iI_lt]
  by_cases c1 : k < 0
  · rw [if_pos c1, show s_drop a k = (false, a) from if_neg (by omega)]; exact ⟨I, J, hI, rfl⟩
  rw [if_neg c1]
  by_cases c2 : k < a.1.1 10
  · rw [if_pos c2, show s_drop a k = (true, forg (dropS a.1 k.toNat, a.2)) from if_pos (by omega)]
    have := m_drop_l (h := h) (b := b) (N := N) (I := I) (J := J) hN hc h4 hM (k := k.toNat) (by omega) (a.1.1 10 - 1 - k).toNat N k.toNat (u2 I 0 10 (iI (a.1.1 10 - 1))) J (by omega) (by omega) (by omega) (fun i q hq => by rw [u2_n (by omega), if_neg (by omega)]) u2_s (fun i q => by rw [if_neg (by omega)])
    rw [show (((k.toNat : Nat)) : Int) = k by omega] at this
    simp only [m_wr, iI_1, iI_sub, Option.bind_some]
    exact this
  · rw [if_neg c2, show s_drop a k = (false, a) from if_neg (by omega)]; exact ⟨I, J, hI, rfl⟩
end MSPANS
