/-! the class holds the state; its plain calls -/
def CI (I : Nat → Nat → Int32) (J : Nat → Nat → Int64) (x : cx) (a : ast) : Prop := CC I J x a.1 ∧ I 15 4 = iI (a.2.1 0) ∧
  (a.2.1 0 = 1 → (∀ p, p ≤ nn a.1 → I 16 p = iI (a.2.2 0 p)) ∧ (∀ p, p < nn a.1 → I 17 p = iI (a.2.2 1 p)) ∧ I 15 5 = iI (a.2.1 1) ∧ J 15 6 = iJ (a.2.1 2)) ∧
  (I 0 9 = iI (a.2.1 3) ∧ I 20 0 = iI (a.2.1 4) ∧ I 20 1 = iI (a.2.1 5) ∧ I 20 2 = iI (a.2.1 6) ∧ I 20 3 = iI (a.2.1 7)) ∧
  (∀ p, p ≤ nn a.1 → I 19 p = iI (a.2.2 2 p)) ∧ I 18 1 = iI (s_nc a)
/-- what forget does -/
def FG (I I' : Nat → Nat → Int32) (n : Nat) : Prop := (∀ i q, i ≠ 19 → ¬ (i = 15 ∧ q = 4) → ¬ (i = 0 ∧ q = 8) → ¬ (i = 18 ∧ q = 1) → I' i q = I i q) ∧ I' 15 4 = 0 ∧ I' 0 8 = 0 ∧ I' 18 1 = 0 ∧ ∀ q, q ≤ n → I' 19 q = 0
/-- the costs that are known are of this state -/
def OpR (I I' : Nat → Nat → Int32) (a a' : ast) : Prop := I' 0 8 = 0 ∨ (I' 0 8 = I 0 8 ∧ a'.1 = a.1)
theorem cnt_false {P : Nat → Bool} (h : ∀ q, P q = false) : ∀ n, cnt P n = 0 := by
  intro n
  induction n with
  | zero => rfl
  | succ n ih =>
    show cnt P n + (P n).toNat = 0
    rw [ih, h n]; rfl
theorem s_nc_forg {a : ast} : s_nc (forg a) = 0 := cnt_false (fun _ => rfl) _
theorem fg_ci {I I' : Nat → Nat → Int32} {J : Nat → Nat → Int64} {x : cx} {c : cfg} {a : ast} (hC : CC I J x c) (hF : FG I I' (nn c)) (h4 : I 0 9 = iI (a.2.1 3) ∧ I 20 0 = iI (a.2.1 4) ∧ I 20 1 = iI (a.2.1 5) ∧ I 20 2 = iI (a.2.1 6) ∧ I 20 3 = iI (a.2.1 7)) : CI I' J x (forg (c, a.2)) := by
  obtain ⟨f1, f2, f3, f4, f5⟩ := hF
  refine ⟨hC.same ⟨rfl, rfl⟩ (fun i q i1 i2 => f1 i q (by omega) (by omega) (by omega) (by omega)) (fun _ => rfl), by rw [f2]; exact iI_0, fun z => absurd z (show ¬ (0 : Int) = 1 by decide), ?_, fun p hp => by rw [f5 p hp]; exact iI_0, by rw [s_nc_forg, f4]; exact iI_0⟩
  rw [f1 0 9 (by omega) (by omega) (by omega) (by omega), f1 20 0 (by omega) (by omega) (by omega) (by omega), f1 20 1 (by omega) (by omega) (by omega) (by omega), f1 20 2 (by omega) (by omega) (by omega) (by omega), f1 20 3 (by omega) (by omega) (by omega) (by omega)]
  exact h4
theorem CC.set {I : Nat → Nat → Int32} {J : Nat → Nat → Int64} {x : cx} {c : cfg} (h : CC I J x c) {i p : Nat} {v : Int} (h1 : 1 ≤ i) (h5 : i ≤ 5) : CC (u2 I (i + 1) p (iI v)) J x (setC c i p v) := by
  obtain ⟨h0, ⟨a1, a2, a3, a4, a5, a6⟩, hb, hk⟩ := h
  refine ⟨h0, ⟨?_, ?_, ?_, ?_, ?_, ?_⟩, fun q hq => ?_, fun k hkk => ?_⟩
  · rw [u2_n (by omega)]; exact a1
  · rw [u2_n (by omega)]; exact a2
  · rw [u2_n (by omega)]; exact a3
  · rw [u2_n (by omega)]; exact a4
  · rw [u2_n (by omega)]; exact a5
  · rw [u2_n (by omega)]; exact a6
  · have key : ∀ j, 1 ≤ j → j ≤ 5 → I (j + 1) q = iI (c.2 j q) → u2 I (i + 1) p (iI v) (j + 1) q = iI ((setC c i p v).2 j q) := fun j j1 j2 e => by
      show _ = iI (u2 c.2 i p v j q)
      by_cases ee : j = i ∧ q = p
      · rw [ee.1, ee.2, u2_s, u2_s]
      · rw [u2_n (by omega), u2_n (by omega)]; exact e
    obtain ⟨b1, b2, b3, b4, b5⟩ := hb q hq
    exact ⟨key 1 (by omega) (by omega) b1, key 2 (by omega) (by omega) b2, key 3 (by omega) (by omega) b3, key 4 (by omega) (by omega) b4, key 5 (by omega) (by omega) b5⟩
  · have e : ∀ j, 6 ≤ j → (setC c i p v).2 j k = c.2 j k := fun j hj => u2_n (by omega)
    rw [u2_n (by omega), u2_n (by omega), u2_n (by omega), e 6 (by omega), e 7 (by omega), e 8 (by omega), e 9 (by omega)]
    exact hk k hkk
section COPS
variable {h : zH} {b : Nat} {x : cx} {I : Nat → Nat → Int32} {J : Nat → Nat → Int64} {a : ast} {N : Nat}
theorem c_within {z m : Int} (hz : rg z) (hm : rg m) {X : zH} : f_LT_within N (iI z) (iI m) X = some (b1 (decide (0 ≤ z ∧ z ≤ m)), X) := by
  obtain ⟨z1, z2⟩ := hz
  obtain ⟨m1, m2⟩ := hm
  unfold f_LT_within
  simp (disch := omega) only [iI_lz, iI_lt]
  by_cases e : z < 0
  · rw [if_pos e, decide_eq_false (by omega)]; rfl
  · rw [if_neg e]
    by_cases e2 : m < z
    · rw [if_pos e2, decide_eq_false (by omega)]; rfl
    · rw [if_neg e2, decide_eq_true (by omega)]; rfl
theorem c_fill19 {v : Int32} (hx : x.1 ≤ 24) : ∀ (d fu k : Nat) (I : Nat → Nat → Int32), k + d = x.1 + 1 → d < fu → ∃ I', (∀ i q, (i ≠ 19 ∨ q < k) → I' i q = I i q) ∧ (∀ q, k ≤ q → q < x.1 + 1 → I' 19 q = v) ∧ f_Arrays_fill_AIIV_5 N fu (b + 19) v (iI k) (iI ((x.1 + 1 : Nat) : Int)) (CH h b x I J) = some ((), CH h b x I' J) := by
  intro d
  induction d with
  | zero =>
    intro fu k I hd hf
    obtain ⟨fu, rfl⟩ : ∃ q, fu = q + 1 := ⟨fu - 1, by omega⟩
    refine ⟨I, fun _ _ _ => rfl, fun q q1 q2 => by omega, ?_⟩
    show b_Arrays_fill_AIIV_5 N (f_Arrays_fill_AIIV_5 N fu) _ _ _ _ _ = _
    unfold b_Arrays_fill_AIIV_5
    rw [if_pos ((iI_le (by omega) (by omega) (by omega) (by omega)).mpr (by omega))]
  | succ d ih =>
    intro fu k I hd hf
    obtain ⟨fu, rfl⟩ : ∃ q, fu = q + 1 := ⟨fu - 1, by omega⟩
    obtain ⟨hin, hcl⟩ := nat_in (p := k) (n := x.1 + 1) (by omega) (by omega)
    have ek : iI (k : Int) + 1 = iI ((k + 1 : Nat) : Int) := by rw [iI_1, iI_add]; rfl
    obtain ⟨I', h1, h2, h3⟩ := ih fu (k + 1) (u2 I 19 k v) (by omega) (by omega)
    refine ⟨I', fun i q hq => by rw [h1 i q (by omega), u2_n (by omega)], fun q q1 q2 => ?_, ?_⟩
    · by_cases e : q = k
      · subst e; rw [h1 19 q (by omega), u2_s]
      · exact h2 q (by omega) q2
    · show b_Arrays_fill_AIIV_5 N (f_Arrays_fill_AIIV_5 N fu) _ _ _ _ _ = _
      unfold b_Arrays_fill_AIIV_5
      rw [if_neg (fun z => by have := (iI_le (by omega) (by omega) (by omega) (by omega)).mp z; omega), cs_19 hin, hcl, Option.bind_some, ek]
      exact h3
theorem c_forget {c : cfg} (hc : cOK c) (hC : CC I J x c) (hN : 60 ≤ N) : ∃ I', FG I I' (nn c) ∧ f_LT_forget N b (CH h b x I J) = some ((), CH h b x I' J) := by
  have hn := nn_r hc
  have hx1 := hC.1.1
  obtain ⟨I', h1, h2, h3⟩ := c_fill19 (h := h) (b := b) (x := x) (J := J) (N := N) (v := 0) (by omega) (x.1 + 1) N 0 (u2 (u2 I 15 4 0) 0 8 0) (by omega) (by omega)
  refine ⟨u2 I' 18 1 0, ⟨fun i q a1 a2 a3 a4 => by rw [u2_n (by omega), h1 i q (by omega), u2_n (by omega), u2_n (by omega)], by rw [u2_n (by omega), h1 15 4 (by omega), u2_n (by omega), u2_s], by rw [u2_n (by omega), h1 0 8 (by omega), u2_s], u2_s, fun q hq => by rw [u2_n (by omega)]; exact h2 q (by omega) (by omega)⟩, ?_⟩
  have e4 : zpZ (CH h b x I J) (b + 15) 5 4 0 = some (CH h b x (u2 I 15 4 0) J) := by
    unfold zpZ
    rw [if_pos (Or.inl rfl)]
    simp only [c_wr]
  have e8 : zpZ (CH h b x (u2 I 15 4 0) J) b 1 8 0 = some (CH h b x (u2 (u2 I 15 4 0) 0 8 0) J) := by
    unfold zpZ
    rw [if_pos (Or.inl rfl)]
    simp only [c_wr]
  rw [show iI ((0 : Nat) : Int) = (0 : Int32) from iI_0.symm] at h3
  have h3' : f_Arrays_fill_AIIV_5 N N (b + 19) 0 0 (Int32.ofNat (x.1 + 1)) (CH h b x (u2 (u2 I 15 4 0) 0 8 0) J) = some ((), CH h b x I' J) := h3
  unfold f_LT_forget f_Curves_removeAll f_Arrays_fill_AIIV
  simp only [c_rd, Option.bind_some, e4, e8, zck_t, cl_19, h3', c_wr]
theorem CI.keep (_hI : CI I J x a) : OpR I I a a := Or.inr ⟨rfl, rfl⟩
theorem k_ground (hN : 60 ≤ N) (hOK : aOK a) (hI : CI I J x a) {p z : Int} (hp : rg p) (hz : rg z) : ∃ I' J', CI I' J' x (s_ground a p z).2 ∧ OpR I I' a (s_ground a p z).2 ∧ f_LT_ground N b (iI p) (iI z) (CH h b x I J) = some (b1 (s_ground a p z).1, CH h b x I' J') := by
  have hc := hOK.1
  have hn := nn_r hc
  have hC := hI.1
  unfold f_LT_ground
  simp only [c_rd, Option.bind_some, zck_t, c_isPlace (N := N) (h := h) (b := b) hc hC hp, c_isLevel (N := N) (h := h) (b := b) hc hC hz, b1_0, decide_eq_false_iff_not]
  have hbad : ¬ ((0 ≤ p ∧ p ≤ a.1.1 0) ∧ (0 ≤ z ∧ z ≤ a.1.1 1)) → ∃ I' J', CI I' J' x (s_ground a p z).2 ∧ OpR I I' a (s_ground a p z).2 ∧ zrb 0 (CH h b x I J) = some (b1 (s_ground a p z).1, CH h b x I' J') := fun q => by
    rw [show s_ground a p z = (false, a) from if_neg q]; exact ⟨I, J, hI, hI.keep, rfl⟩
  by_cases c1 : 0 ≤ p ∧ p ≤ a.1.1 0
  rotate_left
  · rw [if_pos c1]; exact hbad (fun q => c1 q.1)
  rw [if_neg (fun q => q c1)]
  by_cases c2 : 0 ≤ z ∧ z ≤ a.1.1 1
  rotate_left
  · rw [if_pos c2]; exact hbad (fun q => c2 q.2)
  rw [if_neg (fun q => q c2), show s_ground a p z = (true, forg (setC a.1 1 p.toNat z, a.2)) from if_pos ⟨c1, c2⟩]
  obtain ⟨hin, hcl⟩ := p_in (p := p) (n := x.1 + 1) c1.1 (by rw [hC.1.1]; omega) (by rw [hC.1.1]; omega)
  have hc' : cOK (setC a.1 1 p.toNat z) := setC_ok hc (by omega) (by omega) ⟨fun _ => c2, by omega, by omega⟩
  have hC' : CC (u2 I 2 p.toNat (iI z)) J x (setC a.1 1 p.toNat z) := hC.set (i := 1) (by omega) (by omega)
  obtain ⟨I', f1, f2⟩ := c_forget (h := h) (b := b) (N := N) hc' hC' hN
  refine ⟨I', J, fg_ci hC' f1 hI.2.2.2.1, Or.inl f1.2.2.1, ?_⟩
  simp only [cs_2 hin, hcl, Option.bind_some, c_rd, zck_t, f2]; rfl
theorem k_fixed (hN : 60 ≤ N) (hOK : aOK a) (hI : CI I J x a) {p z : Int} (hp : rg p) (hz : rg z) : ∃ I' J', CI I' J' x (s_fixed a p z).2 ∧ OpR I I' a (s_fixed a p z).2 ∧ f_LT_fixed N b (iI p) (iI z) (CH h b x I J) = some (b1 (s_fixed a p z).1, CH h b x I' J') := by
  have hc := hOK.1
  have hn := nn_r hc
  have hm := hc.2.1
  have hC := hI.1
  unfold f_LT_fixed
  simp only [c_rd, Option.bind_some, zck_t, c_isPlace (N := N) (h := h) (b := b) hc hC hp, c_isLevelOrNone (N := N) (h := h) (b := b) hc hC hz, b1_0, decide_eq_false_iff_not]
  have hbad : ¬ ((0 ≤ p ∧ p ≤ a.1.1 0) ∧ (z = -1 ∨ (0 ≤ z ∧ z ≤ a.1.1 1))) → ∃ I' J', CI I' J' x (s_fixed a p z).2 ∧ OpR I I' a (s_fixed a p z).2 ∧ zrb 0 (CH h b x I J) = some (b1 (s_fixed a p z).1, CH h b x I' J') := fun q => by
    rw [show s_fixed a p z = (false, a) from if_neg q]; exact ⟨I, J, hI, hI.keep, rfl⟩
  by_cases c1 : 0 ≤ p ∧ p ≤ a.1.1 0
  rotate_left
  · rw [if_pos c1]; exact hbad (fun q => c1 q.1)
  rw [if_neg (fun q => q c1)]
  by_cases c2 : z = -1 ∨ (0 ≤ z ∧ z ≤ a.1.1 1)
  rotate_left
  · rw [if_pos c2]; exact hbad (fun q => c2 q.2)
  rw [if_neg (fun q => q c2), show s_fixed a p z = (true, forg (setC a.1 4 p.toNat z, a.2)) from if_pos ⟨c1, c2⟩]
  obtain ⟨hin, hcl⟩ := p_in (p := p) (n := x.1 + 1) c1.1 (by rw [hC.1.1]; omega) (by rw [hC.1.1]; omega)
  have hc' : cOK (setC a.1 4 p.toNat z) := setC_ok hc (by omega) (by omega) ⟨by omega, by omega, by omega⟩
  have hC' : CC (u2 I 5 p.toNat (iI z)) J x (setC a.1 4 p.toNat z) := hC.set (i := 4) (by omega) (by omega)
  obtain ⟨I', f1, f2⟩ := c_forget (h := h) (b := b) (N := N) hc' hC' hN
  refine ⟨I', J, fg_ci hC' f1 hI.2.2.2.1, Or.inl f1.2.2.1, ?_⟩
  simp only [cs_5 hin, hcl, Option.bind_some, c_rd, zck_t, f2]; rfl
theorem k_prices (hN : 60 ≤ N) (hOK : aOK a) (hI : CI I J x a) {p z w : Int} (hp : rg p) (hz : rg z) (hw : rg w) : ∃ I' J', CI I' J' x (s_prices a p z w).2 ∧ OpR I I' a (s_prices a p z w).2 ∧ f_LT_prices N b (iI p) (iI z) (iI w) (CH h b x I J) = some (b1 (s_prices a p z w).1, CH h b x I' J') := by
  have hc := hOK.1
  have hn := nn_r hc
  have hC := hI.1
  unfold f_LT_prices
  have w1 : ∀ X : zH, f_LT_within N (iI z) (1000000 : Int32) X = some (b1 (decide (0 ≤ z ∧ z ≤ 1000000)), X) := fun X => by rw [show (1000000 : Int32) = iI 1000000 by decide]; exact c_within hz ⟨by omega, by omega⟩
  have w2 : ∀ X : zH, f_LT_within N (iI w) (1000000 : Int32) X = some (b1 (decide (0 ≤ w ∧ w ≤ 1000000)), X) := fun X => by rw [show (1000000 : Int32) = iI 1000000 by decide]; exact c_within hw ⟨by omega, by omega⟩
  simp only [c_rd, Option.bind_some, zck_t, c_isPlace (N := N) (h := h) (b := b) hc hC hp, w1, w2, b1_0, decide_eq_false_iff_not]
  have hbad : ¬ ((0 ≤ p ∧ p ≤ a.1.1 0) ∧ (0 ≤ z ∧ z ≤ 1000000) ∧ (0 ≤ w ∧ w ≤ 1000000)) → ∃ I' J', CI I' J' x (s_prices a p z w).2 ∧ OpR I I' a (s_prices a p z w).2 ∧ zrb 0 (CH h b x I J) = some (b1 (s_prices a p z w).1, CH h b x I' J') := fun q => by
    rw [show s_prices a p z w = (false, a) from if_neg q]; exact ⟨I, J, hI, hI.keep, rfl⟩
  by_cases c1 : 0 ≤ p ∧ p ≤ a.1.1 0
  rotate_left
  · rw [if_pos c1]; exact hbad (fun q => c1 q.1)
  rw [if_neg (fun q => q c1)]
  by_cases c2 : 0 ≤ z ∧ z ≤ 1000000
  rotate_left
  · rw [if_pos c2]; exact hbad (fun q => c2 q.2.1)
  rw [if_neg (fun q => q c2)]
  by_cases c3 : 0 ≤ w ∧ w ≤ 1000000
  rotate_left
  · rw [if_pos c3]; exact hbad (fun q => c3 q.2.2)
  rw [if_neg (fun q => q c3), show s_prices a p z w = (true, forg (setC (setC a.1 2 p.toNat z) 3 p.toNat w, a.2)) from if_pos ⟨c1, c2, c3⟩]
  obtain ⟨hin, hcl⟩ := p_in (p := p) (n := x.1 + 1) c1.1 (by rw [hC.1.1]; omega) (by rw [hC.1.1]; omega)
  have hc1 : cOK (setC a.1 2 p.toNat z) := setC_ok hc (by omega) (by omega) ⟨by omega, fun _ => c2, by omega⟩
  have hc' : cOK (setC (setC a.1 2 p.toNat z) 3 p.toNat w) := setC_ok hc1 (by omega) (by omega) ⟨by omega, fun _ => c3, by omega⟩
  have hC1 : CC (u2 I 3 p.toNat (iI z)) J x (setC a.1 2 p.toNat z) := hC.set (i := 2) (by omega) (by omega)
  have hC' : CC (u2 (u2 I 3 p.toNat (iI z)) 4 p.toNat (iI w)) J x (setC (setC a.1 2 p.toNat z) 3 p.toNat w) := hC1.set (i := 3) (by omega) (by omega)
  obtain ⟨I', f1, f2⟩ := c_forget (h := h) (b := b) (N := N) hc' hC' hN
  refine ⟨I', J, fg_ci hC' f1 hI.2.2.2.1, Or.inl f1.2.2.1, ?_⟩
  simp only [cs_3 hin, cs_4 hin, hcl, Option.bind_some, c_rd, zck_t, f2]; rfl
theorem k_slopes (hN : 60 ≤ N) (hOK : aOK a) (hI : CI I J x a) {p z w : Int} (hp : rg p) (hz : rg z) (hw : rg w) : ∃ I' J', CI I' J' x (s_slopes a p z w).2 ∧ OpR I I' a (s_slopes a p z w).2 ∧ f_LT_slopes N b (iI p) (iI z) (iI w) (CH h b x I J) = some (b1 (s_slopes a p z w).1, CH h b x I' J') := by
  have hc := hOK.1
  have hn := nn_r hc
  have hC := hI.1
  obtain ⟨p1, p2⟩ := id hp
  unfold f_LT_slopes
  have w1 : ∀ X : zH, f_LT_within N (iI z) (48 : Int32) X = some (b1 (decide (0 ≤ z ∧ z ≤ 48)), X) := fun X => by rw [show (48 : Int32) = iI 48 by decide]; exact c_within hz ⟨by omega, by omega⟩
  have w2 : ∀ X : zH, f_LT_within N (iI w) (iI p) X = some (b1 (decide (0 ≤ w ∧ w ≤ p)), X) := fun X => c_within hw hp
  have e1 : iI p < (1 : Int32) ↔ p < 1 := by rw [iI_1]; exact iI_lt p1 p2 (by omega) (by omega)
  have e24 : (24 : Int32) < iI p ↔ 24 < p := by rw [show (24 : Int32) = iI 24 by decide]; exact iI_lt (by omega) (by omega) p1 p2
  simp only [c_rd, Option.bind_some, zck_t, w1, w2, b1_0, decide_eq_false_iff_not, e1, e24]
  have hbad : ¬ ((1 ≤ p ∧ p ≤ 24) ∧ (0 ≤ z ∧ z ≤ 48) ∧ (0 ≤ w ∧ w ≤ p)) → ∃ I' J', CI I' J' x (s_slopes a p z w).2 ∧ OpR I I' a (s_slopes a p z w).2 ∧ zrb 0 (CH h b x I J) = some (b1 (s_slopes a p z w).1, CH h b x I' J') := fun q => by
    rw [show s_slopes a p z w = (false, a) from if_neg q]; exact ⟨I, J, hI, hI.keep, rfl⟩
  by_cases c1 : p < 1
  · rw [if_pos c1]; exact hbad (fun q => by have := q.1; omega)
  rw [if_neg c1]
  by_cases c2 : 24 < p
  · rw [if_pos c2]; exact hbad (fun q => by have := q.1; omega)
  rw [if_neg c2]
  by_cases c3 : 0 ≤ z ∧ z ≤ 48
  rotate_left
  · rw [if_pos c3]; exact hbad (fun q => c3 q.2.1)
  rw [if_neg (fun q => q c3)]
  by_cases c4 : 0 ≤ w ∧ w ≤ p
  rotate_left
  · rw [if_pos c4]; exact hbad (fun q => c4 q.2.2)
  rw [if_neg (fun q => q c4), show s_slopes a p z w = (true, forg ((u1 (u1 (u1 a.1.1 7 p) 8 z) 9 w, a.1.2), a.2)) from if_pos ⟨by omega, c3, c4⟩]
  have hc' : cOK (u1 (u1 (u1 a.1.1 7 p) 8 z) 9 w, a.1.2) := by
    obtain ⟨k0, k1, k7, k8, k9, k10, kp, kk, kd⟩ := hc
    exact ⟨k0, k1, ⟨by show 1 ≤ p; omega, by show p ≤ 24; omega⟩, c3, c4, k10, kp, kk, kd⟩
  have hC' : CC (u2 (u2 (u2 I 1 7 (iI p)) 1 8 (iI z)) 1 9 (iI w)) J x (u1 (u1 (u1 a.1.1 7 p) 8 z) 9 w, a.1.2) := by
    obtain ⟨h0, ⟨a1, a2, a3, a4, a5, a6⟩, hb, hk⟩ := hC
    exact ⟨h0, ⟨a1, a2, rfl, rfl, rfl, a6⟩, hb, hk⟩
  obtain ⟨I', f1, f2⟩ := c_forget (h := h) (b := b) (N := N) hc' hC' hN
  refine ⟨I', J, fg_ci hC' f1 hI.2.2.2.1, Or.inl f1.2.2.1, ?_⟩
  simp only [c_wr, Option.bind_some, c_rd, zck_t, f2]; rfl
theorem k_level (hOK : aOK a) (hI : CI I J x a) {p : Int} (hp : rg p) : f_LT_level N b (iI p) (CH h b x I J) = some (iI (s_level a p), CH h b x I J) := by
  have hc := hOK.1
  have hn := nn_r hc
  have hC := hI.1
  have hhas := hOK.has
  unfold f_LT_level
  have e0 : iI (a.2.1 0) = (0 : Int32) ↔ a.2.1 0 = 0 := iI_ez (by omega) (by omega)
  simp only [c_rd, Option.bind_some, zck_t, c_isPlace (N := N) (h := h) (b := b) hc hC hp, hI.2.1, e0, b1_0, decide_eq_false_iff_not]
  have hbad : ¬ (a.2.1 0 = 1 ∧ 0 ≤ p ∧ p ≤ a.1.1 0) → some ((-1 : Int32), CH h b x I J) = some (iI (s_level a p), CH h b x I J) := fun q => by rw [show s_level a p = -1 from if_neg q, iI_m1]
  by_cases c0 : a.2.1 0 = 0
  · rw [if_pos c0]; exact hbad (by omega)
  rw [if_neg c0]
  by_cases c1 : 0 ≤ p ∧ p ≤ a.1.1 0
  rotate_left
  · rw [if_pos c1]; exact hbad (fun q => c1 q.2)
  rw [if_neg (fun q => q c1), show s_level a p = a.2.2 0 p.toNat from if_pos ⟨hhas.resolve_left c0, c1⟩]
  obtain ⟨hin, hcl⟩ := p_in (p := p) (n := x.1 + 1) c1.1 (by rw [hC.1.1]; omega) (by rw [hC.1.1]; omega)
  rw [ca_16 hin, hcl, (hI.2.2.1 (hhas.resolve_left c0)).1 _ (by omega), Option.bind_some]
theorem k_cost (hOK : aOK a) (hI : CI I J x a) : f_LT_cost N b (CH h b x I J) = some (iJ (s_cost a), CH h b x I J) := by
  have hhas := hOK.has
  unfold f_LT_cost
  have e0 : iI (a.2.1 0) = (0 : Int32) ↔ a.2.1 0 = 0 := iI_ez (by omega) (by omega)
  simp only [c_rd, Option.bind_some, hI.2.1, e0]
  by_cases c0 : a.2.1 0 = 0
  · rw [if_pos c0, show s_cost a = -1 from if_neg (by omega), iJ_m1]
  · rw [if_neg c0, show s_cost a = a.2.1 2 from if_pos (hhas.resolve_left c0), (hI.2.2.1 (hhas.resolve_left c0)).2.2.2]
theorem k_speed (hI : CI I J x a) {v : Int} (hv : rg v) : ∃ I' J', CI I' J' x (s_speed a v).2 ∧ OpR I I' a (s_speed a v).2 ∧ f_LT_speed N b (iI v) (CH h b x I J) = some (b1 (s_speed a v).1, CH h b x I' J') := by
  have w1 : ∀ X : zH, f_LT_within N (iI v) (1000 : Int32) X = some (b1 (decide (0 ≤ v ∧ v ≤ 1000)), X) := fun X => by rw [show (1000 : Int32) = iI 1000 by decide]; exact c_within hv ⟨by omega, by omega⟩
  unfold f_LT_speed
  simp only [w1, Option.bind_some, b1_0, decide_eq_false_iff_not]
  by_cases c1 : 0 ≤ v ∧ v ≤ 1000
  · rw [if_neg (fun q => q c1), show s_speed a v = (true, (a.1, u1 a.2.1 3 v, a.2.2)) from if_pos c1]
    obtain ⟨h1, h2, h3, h4, h5, h6⟩ := hI
    refine ⟨u2 I 0 9 (iI v), J, ⟨h1.same ⟨rfl, rfl⟩ (fun i q _ _ => u2_n (by omega)) (fun _ => rfl), h2, h3, ⟨rfl, h4.2⟩, h5, h6⟩, Or.inr ⟨rfl, rfl⟩, ?_⟩
    simp only [c_wr, Option.bind_some]; rfl
  · rw [if_pos c1, show s_speed a v = (false, a) from if_neg c1]
    exact ⟨I, J, hI, hI.keep, rfl⟩
theorem k_lorry (hI : CI I J x a) {p z w v : Int} (hp : rg p) (hz : rg z) (hw : rg w) (hv : rg v) : ∃ I' J', CI I' J' x (s_lorry a p z w v).2 ∧ OpR I I' a (s_lorry a p z w v).2 ∧ f_LT_lorry N b (iI p) (iI z) (iI w) (iI v) (CH h b x I J) = some (b1 (s_lorry a p z w v).1, CH h b x I' J') := by
  have wi : ∀ (u : Int), rg u → ∀ X : zH, f_LT_within N (iI u) (1000 : Int32) X = some (b1 (decide (0 ≤ u ∧ u ≤ 1000)), X) := fun u hu X => by rw [show (1000 : Int32) = iI 1000 by decide]; exact c_within hu ⟨by omega, by omega⟩
  have hbad : ¬ (((0 ≤ p ∧ p ≤ 1000) ∧ (0 ≤ z ∧ z ≤ 1000)) ∧ (0 ≤ w ∧ w ≤ 1000) ∧ (0 ≤ v ∧ v ≤ 1000)) → ∃ I' J', CI I' J' x (s_lorry a p z w v).2 ∧ OpR I I' a (s_lorry a p z w v).2 ∧ zrb 0 (CH h b x I J) = some (b1 (s_lorry a p z w v).1, CH h b x I' J') := fun q => by
    rw [show s_lorry a p z w v = (false, a) from if_neg q]; exact ⟨I, J, hI, hI.keep, rfl⟩
  unfold f_LT_lorry f_LT_lorry_24 f_LT_lorry_25
  simp only [wi p hp, wi z hz, wi w hw, wi v hv, Option.bind_some, b1_0, decide_eq_false_iff_not, c_rd]
  rw [if_neg (show ¬ ((1 : Int32) = 0) by decide)]
  simp only [if_true]
  by_cases c1 : 0 ≤ p ∧ p ≤ 1000
  rotate_left
  · rw [if_pos c1]; exact hbad (fun q => c1 q.1.1)
  rw [if_neg (fun q => q c1)]
  by_cases c2 : 0 ≤ z ∧ z ≤ 1000
  rotate_left
  · rw [if_pos c2]; exact hbad (fun q => c2 q.1.2)
  rw [if_neg (fun q => q c2)]
  by_cases c3 : 0 ≤ w ∧ w ≤ 1000
  rotate_left
  · rw [if_pos c3]; exact hbad (fun q => c3 q.2.1)
  rw [if_neg (fun q => q c3)]
  by_cases c4 : 0 ≤ v ∧ v ≤ 1000
  rotate_left
  · rw [if_pos c4]; exact hbad (fun q => c4 q.2.2)
  rw [if_neg (fun q => q c4), show s_lorry a p z w v = (true, (a.1, u1 (u1 (u1 (u1 a.2.1 4 p) 5 z) 6 w) 7 v, a.2.2)) from if_pos ⟨⟨c1, c2⟩, c3, c4⟩]
  obtain ⟨h1, h2, h3, h4, h5, h6⟩ := hI
  refine ⟨u2 (u2 (u2 (u2 I 20 0 (iI p)) 20 1 (iI z)) 20 2 (iI w)) 20 3 (iI v), J, ⟨h1.same ⟨rfl, rfl⟩ (fun i q _ _ => by rw [u2_n (by omega), u2_n (by omega), u2_n (by omega), u2_n (by omega)]) (fun _ => rfl), h2, h3, ⟨h4.1, rfl, rfl, rfl, rfl⟩, h5, h6⟩, Or.inr ⟨rfl, rfl⟩, ?_⟩
  simp only [c_wr, c_rd, Option.bind_some]; rfl
end COPS
