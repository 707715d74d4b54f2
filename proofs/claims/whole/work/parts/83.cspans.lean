/-! the class: span, drop -/
def shI (k j : Nat) (I : Nat → Nat → Int32) : Nat → Nat → Int32 := fun i q => if (8 ≤ i ∧ i ≤ 10) ∧ k ≤ q ∧ q < j then I i (q + 1) else I i q
def shK (k j : Nat) (J : Nat → Nat → Int64) : Nat → Nat → Int64 := fun i q => if i = 11 ∧ k ≤ q ∧ q < j then J i (q + 1) else J i q
theorem shI_0 {k : Nat} {I : Nat → Nat → Int32} : shI k k I = I := by
  funext i q
  unfold shI
  rw [if_neg (by omega)]
theorem shK_0 {k : Nat} {J : Nat → Nat → Int64} : shK k k J = J := by
  funext i q
  unfold shK
  rw [if_neg (by omega)]
theorem shI_n {k j i q : Nat} {I : Nat → Nat → Int32} (h : i < 8 ∨ 10 < i ∨ q < k ∨ j ≤ q) : shI k j I i q = I i q := if_neg (by omega)
theorem shK_n {k j i q : Nat} {J : Nat → Nat → Int64} (h : i ≠ 11 ∨ q < k ∨ j ≤ q) : shK k j J i q = J i q := if_neg (by omega)
theorem shI_s {k j : Nat} {I : Nat → Nat → Int32} (h : k ≤ j) : u2 (u2 (u2 (shI k j I) 8 j (I 8 (j + 1))) 9 j (I 9 (j + 1))) 10 j (I 10 (j + 1)) = shI k (j + 1) I := by
  funext i q
  by_cases e10 : i = 10 ∧ q = j
  · obtain ⟨rfl, rfl⟩ := e10
    rw [u2_s]
    unfold shI
    rw [if_pos (by omega)]
  · rw [u2_n (by omega)]
    by_cases e9 : i = 9 ∧ q = j
    · obtain ⟨rfl, rfl⟩ := e9
      rw [u2_s]
      unfold shI
      rw [if_pos (by omega)]
    · rw [u2_n (by omega)]
      by_cases e8 : i = 8 ∧ q = j
      · obtain ⟨rfl, rfl⟩ := e8
        rw [u2_s]
        unfold shI
        rw [if_pos (by omega)]
      · rw [u2_n (by omega)]
        unfold shI
        by_cases e : (8 ≤ i ∧ i ≤ 10) ∧ k ≤ q ∧ q < j
        · rw [if_pos e, if_pos (by omega)]
        · rw [if_neg e, if_neg (by omega)]
theorem shK_s {k j : Nat} {J : Nat → Nat → Int64} (h : k ≤ j) : u2 (shK k j J) 11 j (J 11 (j + 1)) = shK k (j + 1) J := by
  funext i q
  by_cases e11 : i = 11 ∧ q = j
  · obtain ⟨rfl, rfl⟩ := e11
    rw [u2_s]
    unfold shK
    rw [if_pos (by omega)]
  · rw [u2_n (by omega)]
    unfold shK
    by_cases e : i = 11 ∧ k ≤ q ∧ q < j
    · rw [if_pos e, if_pos (by omega)]
    · rw [if_neg e, if_neg (by omega)]
section CSPANS
variable {h : zH} {b : Nat} {x : cx} {I : Nat → Nat → Int32} {J : Nat → Nat → Int64} {a : ast} {N : Nat}
theorem c_takeOut {c : cfg} (hc : cOK c) (hC : CC I J x c) (hN : 60 ≤ N) {k : Nat} (hk : (k : Int) < c.1 10) : CC (u2 (shI k ((c.1 10).toNat - 1) I) 7 0 (iI (c.1 10 - 1))) (shK k ((c.1 10).toNat - 1) J) x (dropS c k) ∧ f_Spans_takeOut N (b + 7) (iI k) (CH h b x I J) = some ((), CH h b x (u2 (shI k ((c.1 10).toNat - 1) I) 7 0 (iI (c.1 10 - 1))) (shK k ((c.1 10).toNat - 1) J)) := by
  have hK := hc.2.2.2.2.2.1
  have e10 := hC.2.1.2.2.2.2.2
  have loop : ∀ (d fu j : Nat), j + d = (c.1 10).toNat - 1 → k ≤ j → d < fu → f_Spans_takeOut_2 N fu (b + 7) (iI j) (CH h b x (shI k j I) (shK k j J)) = some ((), CH h b x (u2 (shI k ((c.1 10).toNat - 1) I) 7 0 (iI (c.1 10 - 1))) (shK k ((c.1 10).toNat - 1) J)) := by
    intro d
    induction d with
    | zero =>
      intro fu j hd hkj hf
      obtain ⟨fu, rfl⟩ : ∃ q, fu = q + 1 := ⟨fu - 1, by omega⟩
      have ej : iI (j : Int) + 1 = iI ((j + 1 : Nat) : Int) := by rw [iI_1, iI_add]; rfl
      have e70 : shI k j I 7 0 = iI (c.1 10) := by rw [shI_n (by omega)]; exact e10
      show b_Spans_takeOut_2 N (f_Spans_takeOut_2 N fu) (b + 7) _ _ = _
      unfold b_Spans_takeOut_2
      have em : iI (c.1 10) - 1 = iI (c.1 10 - 1) := by rw [iI_1, iI_sub]
      simp only [c_rd, Option.bind_some, e70, ej, c_wr, em]
      rw [if_pos ((iI_le (by omega) (by omega) (by omega) (by omega)).mpr (by omega)), show (c.1 10).toNat - 1 = j by omega]
    | succ d ih =>
      intro fu j hd hkj hf
      obtain ⟨fu, rfl⟩ : ∃ q, fu = q + 1 := ⟨fu - 1, by omega⟩
      have ej : iI (j : Int) + 1 = iI ((j + 1 : Nat) : Int) := by rw [iI_1, iI_add]; rfl
      have e70 : shI k j I 7 0 = iI (c.1 10) := by rw [shI_n (by omega)]; exact e10
      obtain ⟨hin, hcl⟩ := nat_in (p := j) (n := 6) (by omega) (by omega)
      obtain ⟨hin1, hcl1⟩ := nat_in (p := j + 1) (n := 6) (by omega) (by omega)
      have hv8 : shI k j I 8 (j + 1) = I 8 (j + 1) := shI_n (by omega)
      have hv9 : u2 (shI k j I) 8 j (I 8 (j + 1)) 9 (j + 1) = I 9 (j + 1) := by rw [u2_n (by omega)]; exact shI_n (by omega)
      have hv10 : u2 (u2 (shI k j I) 8 j (I 8 (j + 1))) 9 j (I 9 (j + 1)) 10 (j + 1) = I 10 (j + 1) := by rw [u2_n (by omega), u2_n (by omega)]; exact shI_n (by omega)
      have hv11 : shK k j J 11 (j + 1) = J 11 (j + 1) := shK_n (by omega)
      show b_Spans_takeOut_2 N (f_Spans_takeOut_2 N fu) (b + 7) _ _ = _
      unfold b_Spans_takeOut_2
      simp only [c_rd, Option.bind_some, e70, ej, ca_8 hin1, ca_9 hin1, ca_10 hin1, ca_11 hin1, hcl1, cs_8 hin, cs_9 hin, cs_10 hin, cs_11 hin, hcl, hv8, hv9, hv10, hv11]
      rw [if_neg (fun z => by have := (iI_le (by omega) (by omega) (by omega) (by omega)).mp z; omega), shI_s hkj, shK_s hkj]
      exact ih fu (j + 1) (by omega) (by omega) (by omega)
  refine ⟨?_, ?_⟩
  · obtain ⟨h0, ⟨a1, a2, a3, a4, a5, a6⟩, hb, hkk⟩ := hC
    have e : ∀ i q, i < 8 → (i ≠ 7 ∨ q ≠ 0) → u2 (shI k ((c.1 10).toNat - 1) I) 7 0 (iI (c.1 10 - 1)) i q = I i q := fun i q i1 i2 => by rw [u2_n i2]; exact shI_n (by omega)
    refine ⟨h0, ⟨by rw [e 1 0 (by omega) (by omega)]; exact a1, by rw [e 1 1 (by omega) (by omega)]; exact a2, by rw [e 1 7 (by omega) (by omega)]; exact a3, by rw [e 1 8 (by omega) (by omega)]; exact a4, by rw [e 1 9 (by omega) (by omega)]; exact a5, u2_s⟩, fun p hp => ?_, fun q hq => ?_⟩
    · rw [e 2 p (by omega) (by omega), e 3 p (by omega) (by omega), e 4 p (by omega) (by omega), e 5 p (by omega) (by omega), e 6 p (by omega) (by omega)]; exact hb p hp
    · have hq' : (q : Int) < c.1 10 - 1 := hq
      have hs := sk_r (k := k) (j := q)
      obtain ⟨b1, b2, b3, b4⟩ := hkk (sk k q) (by omega)
      have key : ∀ i, 8 ≤ i → i ≤ 10 → u2 (shI k ((c.1 10).toNat - 1) I) 7 0 (iI (c.1 10 - 1)) i q = I i (sk k q) := fun i g1 g2 => by
        rw [u2_n (by omega)]
        unfold shI
        rcases hs with ⟨s1, s2⟩ | ⟨s1, s2⟩
        · rw [if_pos (by omega), s2]
        · rw [if_neg (by omega), s2]
      have keyJ : shK k ((c.1 10).toNat - 1) J 11 q = J 11 (sk k q) := by
        unfold shK
        rcases hs with ⟨s1, s2⟩ | ⟨s1, s2⟩
        · rw [if_pos (by omega), s2]
        · rw [if_neg (by omega), s2]
      rw [key 8 (by omega) (by omega), key 9 (by omega) (by omega), key 10 (by omega) (by omega), keyJ]
      exact ⟨b1, b2, b3, b4⟩
  · have := loop ((c.1 10).toNat - 1 - k) N k (by omega) (Nat.le_refl _) (by omega)
    rw [shI_0, shK_0] at this
    exact this
theorem k_drop (hN : 60 ≤ N) (hOK : aOK a) (hI : CI I J x a) {k : Int} (hk : rg k) : ∃ I' J', CI I' J' x (s_drop a k).2 ∧ OpR I I' a (s_drop a k).2 ∧ f_LT_drop N b (iI k) (CH h b x I J) = some (b1 (s_drop a k).1, CH h b x I' J') := by
  obtain ⟨k1, k2⟩ := hk
  have hc := hOK.1
  have hK := hc.2.2.2.2.2.1
  have hC := hI.1
  have e10 := hC.2.1.2.2.2.2.2
  unfold f_LT_drop
  simp only [c_rd, Option.bind_some, e10]
  have e1 : iI k < (0 : Int32) ↔ k < 0 := iI_lz k1 k2
  have e2 : iI k < iI (a.1.1 10) ↔ k < a.1.1 10 := iI_lt k1 k2 (by omega) (by omega)
  simp only [e1, e2]
  have hbad : ¬ (0 ≤ k ∧ k < a.1.1 10) → ∃ I' J', CI I' J' x (s_drop a k).2 ∧ OpR I I' a (s_drop a k).2 ∧ zrb 0 (CH h b x I J) = some (b1 (s_drop a k).1, CH h b x I' J') := fun q => by
    rw [show s_drop a k = (false, a) from if_neg q]; exact ⟨I, J, hI, hI.keep, rfl⟩
  by_cases c1 : k < 0
  · rw [if_pos c1]; exact hbad (by omega)
  rw [if_neg c1]
  by_cases c2 : k < a.1.1 10
  rotate_left
  · rw [if_neg c2]; exact hbad (by omega)
  rw [if_pos c2, show s_drop a k = (true, forg (dropS a.1 k.toNat, a.2)) from if_pos ⟨by omega, c2⟩]
  obtain ⟨kn, hkn⟩ : ∃ kn : Nat, k = kn := ⟨k.toNat, by omega⟩
  subst hkn
  obtain ⟨hC', hto⟩ := c_takeOut (h := h) (b := b) (N := N) hc hC hN c2
  have hc' := dropS_ok hc c2
  obtain ⟨I', f1, f2⟩ := c_forget (h := h) (b := b) (N := N) hc' hC' hN
  refine ⟨I', _, fg_ci hC' f1 (by
    rw [u2_n (by omega), u2_n (by omega), u2_n (by omega), u2_n (by omega), u2_n (by omega), shI_n (by omega), shI_n (by omega), shI_n (by omega), shI_n (by omega), shI_n (by omega)]
    exact hI.2.2.2.1), Or.inl f1.2.2.1, ?_⟩
  simp only [zck_t, hto, Option.bind_some, c_rd, f2]; rfl
theorem k_span (hN : 60 ≤ N) (hOK : aOK a) (hI : CI I J x a) {p q kd pr : Int} (hp : rg p) (hq : rg q) (hkd : rg kd) (hp1 : -9223372036854775808 ≤ pr) (hp2 : pr < 9223372036854775808) : ∃ I' J', CI I' J' x (s_span a p q kd pr).2 ∧ OpR I I' a (s_span a p q kd pr).2 ∧ f_LT_span N b (iI p) (iI q) (iI kd) (iJ pr) (CH h b x I J) = some (iI (s_span a p q kd pr).1, CH h b x I' J') := by
  obtain ⟨p1, p2⟩ := id hp
  obtain ⟨q1, q2⟩ := id hq
  obtain ⟨d1, d2⟩ := id hkd
  have hc := hOK.1
  have hn := nn_r hc
  have hK := hc.2.2.2.2.2.1
  have hC := hI.1
  have e10 := hC.2.1.2.2.2.2.2
  have hbad : ¬ (spanOK a.1 p q kd pr ∧ c_room a.1 p q = true) → ∃ I' J', CI I' J' x (s_span a p q kd pr).2 ∧ OpR I I' a (s_span a p q kd pr).2 ∧ some ((-1 : Int32), CH h b x I J) = some (iI (s_span a p q kd pr).1, CH h b x I' J') := fun z => by
    rw [show s_span a p q kd pr = (-1, a) from if_neg z, iI_m1]; exact ⟨I, J, hI, hI.keep, rfl⟩
  have h80 : (0 ≤ p ∧ q ≤ a.1.1 0 ∧ p + 2 ≤ q ∧ (kd = 0 ∨ kd = 1) ∧ 0 ≤ pr ∧ pr ≤ 1000000000) → ∃ I' J', CI I' J' x (s_span a p q kd pr).2 ∧ OpR I I' a (s_span a p q kd pr).2 ∧ f_LT_span_80 N b (iI p) (iI q) (iI kd) (iJ pr) (CH h b x I J) = some (iI (s_span a p q kd pr).1, CH h b x I' J') := by
    rintro ⟨o1, o2, o3, o4, o5, o6⟩
    unfold f_LT_span_80
    have e6 : (6 : Int32) ≤ iI (a.1.1 10) ↔ 6 ≤ a.1.1 10 := by rw [show (6 : Int32) = iI 6 by decide]; exact iI_le (by omega) (by omega) (by omega) (by omega)
    simp only [c_rd, Option.bind_some, e10, e6, zck_t, c_shares (h := h) (b := b) (N := N) hc hC hN hp hq, b1_0]
    by_cases c1 : 6 ≤ a.1.1 10
    · rw [if_pos c1]; exact hbad (fun z => by have := z.1.1; omega)
    rw [if_neg c1]
    by_cases c2 : c_room a.1 p q = true
    rotate_left
    · rw [if_neg (by rw [(Bool.not_eq_true _).mp c2]; decide)]; exact hbad (fun z => c2 z.2)
    rw [if_pos (by rw [c2]; rfl)]
    have hok : spanOK a.1 p q kd pr := ⟨by omega, o1, o2, o3, o4, o5, o6⟩
    rw [show s_span a p q kd pr = (a.1.1 10, forg (addS a.1 p q kd pr, a.2)) from if_pos ⟨hok, c2⟩]
    obtain ⟨I1, f1, f2⟩ := c_forget (h := h) (b := b) (N := N) hc hC hN
    have f10 : I1 7 0 = iI (a.1.1 10) := by rw [f1.1 7 0 (by omega) (by omega) (by omega) (by omega)]; exact e10
    obtain ⟨n, hnn⟩ : ∃ n : Nat, (n : Int) = a.1.1 10 := ⟨(a.1.1 10).toNat, by omega⟩
    obtain ⟨hin, hcl⟩ := nat_in (p := n) (n := 6) (by omega) (by omega)
    rw [hnn] at hin hcl
    have hC1 : CC I1 J x a.1 := hC.same ⟨rfl, rfl⟩ (fun i q i1 i2 => f1.1 i q (by omega) (by omega) (by omega) (by omega)) (fun _ => rfl)
    have hC' : CC (u2 (u2 (u2 (u2 I1 8 n (iI p)) 9 n (iI q)) 10 n (iI kd)) 7 0 (iI (a.1.1 10 + 1))) (u2 J 11 n (iJ pr)) x (addS a.1 p q kd pr) := by
      have hnt : (a.1.1 10).toNat = n := by omega
      have eC : ∀ i r, (i < 6 ∨ r ≠ n) → (addS a.1 p q kd pr).2 i r = a.1.2 i r := fun i r hr => by
        show u2 (u2 (u2 (u2 a.1.2 6 _ p) 7 _ q) 8 _ kd) 9 _ pr i r = _
        rw [hnt, u2_n (by omega), u2_n (by omega), u2_n (by omega), u2_n (by omega)]
      obtain ⟨h0, ⟨a1, a2, a3, a4, a5, a6⟩, hb, hkk⟩ := hC1
      refine ⟨h0, ⟨a1, a2, a3, a4, a5, rfl⟩, fun r hr => ?_, fun r hr => ?_⟩
      · rw [eC 1 r (by omega), eC 2 r (by omega), eC 3 r (by omega), eC 4 r (by omega), eC 5 r (by omega)]; exact hb r hr
      · have hr' : (r : Int) < a.1.1 10 + 1 := hr
        by_cases er : r = n
        · subst er
          refine ⟨?_, ?_, ?_, ?_⟩
          · show _ = iI (u2 (u2 (u2 (u2 a.1.2 6 (a.1.1 10).toNat p) 7 (a.1.1 10).toNat q) 8 (a.1.1 10).toNat kd) 9 (a.1.1 10).toNat pr 6 r)
            rw [u2_n (by omega), u2_n (by omega), u2_n (by omega), u2_s, hnt, u2_n (by omega), u2_n (by omega), u2_n (by omega), u2_s]
          · show _ = iI (u2 (u2 (u2 (u2 a.1.2 6 (a.1.1 10).toNat p) 7 (a.1.1 10).toNat q) 8 (a.1.1 10).toNat kd) 9 (a.1.1 10).toNat pr 7 r)
            rw [u2_n (by omega), u2_n (by omega), u2_s, hnt, u2_n (by omega), u2_n (by omega), u2_s]
          · show _ = iI (u2 (u2 (u2 (u2 a.1.2 6 (a.1.1 10).toNat p) 7 (a.1.1 10).toNat q) 8 (a.1.1 10).toNat kd) 9 (a.1.1 10).toNat pr 8 r)
            rw [u2_n (by omega), u2_s, hnt, u2_n (by omega), u2_s]
          · show _ = iJ (u2 (u2 (u2 (u2 a.1.2 6 (a.1.1 10).toNat p) 7 (a.1.1 10).toNat q) 8 (a.1.1 10).toNat kd) 9 (a.1.1 10).toNat pr 9 r)
            rw [u2_s, hnt, u2_s]
        · obtain ⟨b1, b2, b3, b4⟩ := hkk r (by omega)
          have eI : ∀ i, 8 ≤ i → i ≤ 10 → u2 (u2 (u2 (u2 I1 8 n (iI p)) 9 n (iI q)) 10 n (iI kd)) 7 0 (iI (a.1.1 10 + 1)) i r = I1 i r := fun i _ _ => by rw [u2_n (by omega), u2_n (by omega), u2_n (by omega), u2_n (by omega)]
          rw [eI 8 (by omega) (by omega), eI 9 (by omega) (by omega), eI 10 (by omega) (by omega), eC 6 r (by omega), eC 7 r (by omega), eC 8 r (by omega), eC 9 r (by omega), u2_n (Or.inr er)]
          exact ⟨b1, b2, b3, b4⟩
    have hci := fg_ci (a := a) hC f1 hI.2.2.2.1
    have x1 : u2 I1 8 n (iI p) 7 0 = iI (a.1.1 10) := f10
    have x2 : u2 (u2 I1 8 n (iI p)) 9 n (iI q) 7 0 = iI (a.1.1 10) := f10
    have x3 : u2 (u2 (u2 I1 8 n (iI p)) 9 n (iI q)) 10 n (iI kd) 7 0 = iI (a.1.1 10) := f10
    refine ⟨u2 (u2 (u2 (u2 I1 8 n (iI p)) 9 n (iI q)) 10 n (iI kd)) 7 0 (iI (a.1.1 10 + 1)), u2 J 11 n (iJ pr), ⟨hC', hci.2.1, fun z => absurd z (show ¬ (0 : Int) = 1 by decide), hci.2.2.2.1, hci.2.2.2.2.1, ?_⟩, Or.inl f1.2.2.1, ?_⟩
    · have := hci.2.2.2.2.2
      rw [s_nc_forg] at this ⊢
      exact this
    · unfold f_Spans_append
      simp only [f2, Option.bind_some, c_rd, zck_t, f10, cs_8 hin, cs_9 hin, cs_10 hin, cs_11 hin, hcl, x1, x2, x3, c_wr, iI_1, iI_add, u2_s, iI_sub]
      rw [show a.1.1 10 + 1 - 1 = a.1.1 10 by omega]
  have e57 : ∀ s6 s0 : Bool, (s6 = true → 0 ≤ p ∧ q ≤ a.1.1 0 ∧ p + 2 ≤ q) → (s0 = true → 0 ≤ pr ∧ pr ≤ 1000000000) → (s6 = false → ¬ (0 ≤ p ∧ q ≤ a.1.1 0 ∧ p + 2 ≤ q)) → (s0 = false → ¬ (0 ≤ pr ∧ pr ≤ 1000000000)) → ∃ I' J', CI I' J' x (s_span a p q kd pr).2 ∧ OpR I I' a (s_span a p q kd pr).2 ∧ f_LT_span_57 N b (iI p) (iI q) (iI kd) (iJ pr) (b1 s6) (b1 s0) (CH h b x I J) = some (iI (s_span a p q kd pr).1, CH h b x I' J') := by
    intro s6 s0 g1 g2 g3 g4
    unfold f_LT_span_57
    have ek0 : iI kd = (0 : Int32) ↔ kd = 0 := iI_ez d1 d2
    have ek1 : iI kd = (1 : Int32) ↔ kd = 1 := by rw [iI_1]; exact iI_eq d1 d2 (by omega) (by omega)
    simp only [b1_0, ek0, ek1]
    cases s6 with
    | false => rw [if_pos rfl]; exact hbad (fun z => g3 rfl ⟨z.1.2.1, z.1.2.2.1, z.1.2.2.2.1⟩)
    | true =>
      rw [if_neg (by decide)]
      cases s0 with
      | false => rw [if_pos rfl]; exact hbad (fun z => g4 rfl z.1.2.2.2.2.2)
      | true =>
        rw [if_neg (by decide)]
        obtain ⟨w1, w2, w3⟩ := g1 rfl
        obtain ⟨w4, w5⟩ := g2 rfl
        by_cases k0 : kd = 0
        · rw [if_pos k0]; exact h80 ⟨w1, w2, w3, Or.inl k0, w4, w5⟩
        · rw [if_neg k0]
          by_cases k1 : kd = 1
          · rw [if_pos k1]; exact h80 ⟨w1, w2, w3, Or.inr k1, w4, w5⟩
          · rw [if_neg k1]; exact hbad (fun z => by have := z.1.2.2.2.2.1; omega)
  have e34 : ∀ s6 : Bool, (s6 = true → 0 ≤ p ∧ q ≤ a.1.1 0 ∧ p + 2 ≤ q) → (s6 = false → ¬ (0 ≤ p ∧ q ≤ a.1.1 0 ∧ p + 2 ≤ q)) → ∃ I' J', CI I' J' x (s_span a p q kd pr).2 ∧ OpR I I' a (s_span a p q kd pr).2 ∧ f_LT_span_34 N b (iI p) (iI q) (iI kd) (iJ pr) (b1 s6) (CH h b x I J) = some (iI (s_span a p q kd pr).1, CH h b x I' J') := by
    intro s6 g1 g3
    unfold f_LT_span_34 f_LT_span_56
    rw [iJ_0, show (1000000000 : Int64) = iJ 1000000000 by decide]
    have l1 : lg_cmp (iJ pr) (iJ 0) < 0 ↔ pr < 0 := lgc_neg hp1 hp2 (by omega) (by omega)
    have l2 : 0 < lg_cmp (iJ pr) (iJ 1000000000) ↔ 1000000000 < pr := lgc_pos hp1 hp2 (by omega) (by omega)
    simp only [l1, l2]
    by_cases c1 : pr < 0
    · rw [if_pos c1]; exact e57 s6 false g1 (fun z => absurd z (by decide)) g3 (fun _ => by omega)
    · rw [if_neg c1]
      by_cases c2 : 1000000000 < pr
      · rw [if_pos c2]; exact e57 s6 false g1 (fun z => absurd z (by decide)) g3 (fun _ => by omega)
      · rw [if_neg c2]; exact e57 s6 true g1 (fun _ => by omega) g3 (fun z => absurd z (by decide))
  unfold f_LT_span f_LT_span_33
  simp only [c_rd, Option.bind_some, zck_t, c_isPlace (N := N) (h := h) (b := b) hc hC hp, c_isPlace (N := N) (h := h) (b := b) hc hC hq, b1_0, decide_eq_false_iff_not]
  have hf : ¬ (0 ≤ p ∧ q ≤ a.1.1 0 ∧ p + 2 ≤ q) → ∃ I' J', CI I' J' x (s_span a p q kd pr).2 ∧ OpR I I' a (s_span a p q kd pr).2 ∧ f_LT_span_34 N b (iI p) (iI q) (iI kd) (iJ pr) 0 (CH h b x I J) = some (iI (s_span a p q kd pr).1, CH h b x I' J') := fun z => e34 false (fun w => absurd w (by decide)) (fun _ => z)
  by_cases c1 : 0 ≤ p ∧ p ≤ a.1.1 0
  rotate_left
  · rw [if_pos c1]; exact hf (by omega)
  rw [if_neg (fun z => z c1)]
  by_cases c2 : 0 ≤ q ∧ q ≤ a.1.1 0
  rotate_left
  · rw [if_pos c2]; exact hf (by omega)
  rw [if_neg (fun z => z c2)]
  have e2 : iI q - iI p < (2 : Int32) ↔ q - p < 2 := by rw [show (2 : Int32) = iI 2 by decide, iI_sub]; exact iI_lt (by omega) (by omega) (by omega) (by omega)
  simp only [e2]
  by_cases c3 : q - p < 2
  · rw [if_pos c3]; exact hf (by omega)
  · rw [if_neg c3]; exact e34 true (fun _ => by omega) (fun z => absurd z (by decide))
end CSPANS
