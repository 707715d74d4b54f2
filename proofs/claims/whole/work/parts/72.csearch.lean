/-! more of blocks; A SEARCH'S BLOCK: 0 the object (class 8: 0 site, 1 spans, 2 width, 3 ways, 4 traced, 5 costUnit, 6 sizeUnit, 7 layers, 8 leaving, 9 least, 10 startLevel), 1 the row of layers, then the layers, leaving, least -/
section BLOCK2
variable {h : zH} {b n : Nat} {lay : Nat → zL} {σ : zS} {i c k : Nat} {ks : List Nat}
theorem bg_RO {y : Nat} (hl : lay i = .inl (c, ks)) (hi : i < n) (hk : ks[k]? = some 3) (ho : σ.2.2.2 i k = some y) : zgR (BH h b n lay σ) (b + i) c k = some y := by
  unfold zgR
  rw [bf_at hl hi]
  simp only [if_true]
  rw [bf_k hk]
  simp [bval, ho, va_rf]
theorem bg_Q (hl : lay i = .inl (c, ks)) (hi : i < n) (hk : ks[k]? = some 3) : zgQ (BH h b n lay σ) (b + i) c k = some (σ.2.2.2 i k) := by
  unfold zgQ
  rw [bf_at hl hi]
  simp only [if_true]
  rw [bf_k hk]
  cases ho : σ.2.2.2 i k with
  | none => simp [bval, ho, va_rf]
  | some y => simp [bval, ho, va_rf]
theorem bcell_cR {b : Nat} {σ : zS} {i k j : Nat} {v : Nat} {y : zL} (hj : j ≠ i) : bcell b (σ.1, σ.2.1, u2 σ.2.2.1 i k v, σ.2.2.2) j y = bcell b σ j y := by
  have e : ∀ c, u2 σ.2.2.1 i k v j c = σ.2.2.1 j c := fun c => u2_n (Or.inl hj)
  cases y with
  | inl o =>
    show (Sum.inr (o.1, _) : zE) = Sum.inr (o.1, _)
    congr 2
    refine List.map_congr_left (fun q _ => ?_)
    simp only [bval, e]
  | inr a => simp only [bcell, e]
theorem bcell_cO {b : Nat} {σ : zS} {i k j : Nat} {v : Option Nat} {y : zL} (hj : j ≠ i) : bcell b (σ.1, σ.2.1, σ.2.2.1, u2 σ.2.2.2 i k v) j y = bcell b σ j y := by
  have e : ∀ c, u2 σ.2.2.2 i k v j c = σ.2.2.2 j c := fun c => u2_n (Or.inl hj)
  cases y with
  | inl o =>
    show (Sum.inr (o.1, _) : zE) = Sum.inr (o.1, _)
    congr 2
    refine List.map_congr_left (fun q _ => ?_)
    simp only [bval, e]
  | inr a => simp only [bcell]
theorem bp_R (r : Nat) (hl : lay i = .inl (c, ks)) (hi : i < n) (hk : ks[k]? = some 2) : zp (BH h b n lay σ) (b + i) c k (.ref (b + r)) = some (BH h b n lay (σ.1, σ.2.1, u2 σ.2.2.1 i k r, σ.2.2.2)) := by
  have hlt : k < ks.length := (List.getElem?_eq_some_iff.mp hk).1
  unfold zp
  rw [bf_at hl hi]
  simp only [true_and, List.length_map, List.length_range, hlt, if_true]
  congr 1
  refine bh_set hi ?_ (fun j hj _ => bcell_cR hj)
  rw [hl]
  show (Sum.inr (c, _) : zE) = Sum.inr (c, _)
  congr 2
  refine bf_set hk (by simp [bval, u2]) (fun q hq d => ?_)
  simp [bval, u2, hq]
theorem bp_O (r : Nat) (hl : lay i = .inl (c, ks)) (hi : i < n) (hk : ks[k]? = some 3) : zp (BH h b n lay σ) (b + i) c k (.ref r) = some (BH h b n lay (σ.1, σ.2.1, σ.2.2.1, u2 σ.2.2.2 i k (some r))) := by
  have hlt : k < ks.length := (List.getElem?_eq_some_iff.mp hk).1
  unfold zp
  rw [bf_at hl hi]
  simp only [true_and, List.length_map, List.length_range, hlt, if_true]
  congr 1
  refine bh_set hi ?_ (fun j hj _ => bcell_cO hj)
  rw [hl]
  show (Sum.inr (c, _) : zE) = Sum.inr (c, _)
  congr 2
  refine bf_set hk (by simp [bval, u2, va_rf]) (fun q hq d => ?_)
  simp [bval, u2, hq]
theorem ba_R {len : Nat} {x : Int32} (hl : lay i = .inr (3, len)) (hi : i < n) (hx : vp_in x len) : zaR (BH h b n lay σ) 3 (b + i) x = some (b + σ.2.2.1 i x.toNatClampNeg) := by
  have hlt : x.toNatClampNeg < len := Nat.not_le.mp fun q => hx (Or.inr q)
  unfold zaR
  rw [bh_at hi, hl]
  simp only [bcell, show ¬ ((3 : Nat) = 1) by decide, if_false, if_true]
  rw [if_pos ⟨trivial, hx⟩, if_pos hlt]
/-- longs are copied -/
def cpJ (J : Nat → Nat → Int64) (i j sp dp m : Nat) : Nat → Nat → Int64 := fun a q => if a = j ∧ dp ≤ q ∧ q < dp + m then J i (sp + (q - dp)) else J a q
theorem bc_J {j n0 n1 sp dp m : Nat} (hl : lay i = .inr (1, n0)) (hi : i < n) (hl2 : lay j = .inr (1, n1)) (hj : j < n) (h1 : sp + m ≤ n0) (h2 : dp + m ≤ n1) (h3 : n0 ≤ 1000000) (h4 : n1 ≤ 1000000) : zcpJ (BH h b n lay σ) (b + i) (iI sp) (b + j) (iI dp) (iI m) = some (BH h b n lay (σ.1, cpJ σ.2.1 i j sp dp m, σ.2.2)) := by
  have e1 : ¬ iI (sp : Int) < 0 := fun z => by have := (iI_lz (by omega) (by omega)).mp z; omega
  have e2 : ¬ iI (dp : Int) < 0 := fun z => by have := (iI_lz (by omega) (by omega)).mp z; omega
  have e3 : ¬ iI (m : Int) < 0 := fun z => by have := (iI_lz (by omega) (by omega)).mp z; omega
  have q1 : (iI (sp : Int)).toNatClampNeg = sp := by rw [iI_cl (by omega) (by omega)]; rfl
  have q2 : (iI (dp : Int)).toNatClampNeg = dp := by rw [iI_cl (by omega) (by omega)]; rfl
  have q3 : (iI (m : Int)).toNatClampNeg = m := by rw [iI_cl (by omega) (by omega)]; rfl
  unfold zcpJ
  rw [bh_at hi, hl, bh_at hj, hl2]
  simp only [bcell, if_true]
  rw [q1, q2, q3, if_pos ⟨e1, e2, e3, h1, h2⟩]
  congr 1
  refine bh_set hj ?_ (fun k hk _ => ?_)
  · rw [hl2]
    simp only [bcell, if_true]
    congr 5
    funext q
    simp [va_cpy, cpJ]
  · have e : ∀ q, cpJ σ.2.1 i j sp dp m k q = σ.2.1 k q := fun q => by unfold cpJ; rw [if_neg (fun z => hk z.1)]
    cases hy : lay k with
    | inl o =>
      show (Sum.inr (o.1, _) : zE) = Sum.inr (o.1, _)
      congr 2
      refine List.map_congr_left (fun q _ => ?_)
      simp only [bval, e]
    | inr a =>
      have e' : cpJ σ.2.1 i j sp dp m k = σ.2.1 k := funext e
      simp only [bcell, e']
end BLOCK2
/-- a search's sizes: layers, width, ways; where the class lies -/
abbrev sx : Type := Nat × Nat × Nat × Nat
def slen (y : sx) (i : Nat) : Nat := if i < y.1 + 2 then y.2.1 * y.2.1 * y.2.2.1 else if i = y.1 + 2 then y.2.1 * y.2.2.1 else y.2.2.1
def layS (y : sx) : Nat → zL := fun i => if i = 0 then .inl (8, [3, 3, 0, 0, 0, 1, 1, 2, 2, 2, 0]) else if i = 1 then .inr (3, y.1) else .inr (1, slen y i)
def rS (y : sx) : Nat → Nat → Nat := fun i k => if i = 0 then (if k = 7 then 1 else if k = 8 then y.1 + 2 else y.1 + 3) else 2 + k
def oS (y : sx) : Nat → Nat → Option Nat := fun _ k => if k = 0 then some (y.2.2.2 + 1) else some (y.2.2.2 + 7)
abbrev SH (h : zH) (s : Nat) (y : sx) (I : Nat → Nat → Int32) (J : Nat → Nat → Int64) : zH := BH h s (y.1 + 4) (layS y) (I, J, rS y, oS y)
section SBLOCK
variable {h : zH} {s : Nat} {y : sx} {I : Nat → Nat → Int32} {J : Nat → Nat → Int64}
theorem s_rd : zgR (SH h s y I J) s 8 0 = some (y.2.2.2 + 1) ∧ zgR (SH h s y I J) s 8 1 = some (y.2.2.2 + 7) ∧ zgI (SH h s y I J) s 8 2 = some (I 0 2) ∧ zgI (SH h s y I J) s 8 3 = some (I 0 3) ∧ zgI (SH h s y I J) s 8 4 = some (I 0 4) ∧ zgJ (SH h s y I J) s 8 5 = some (J 0 5) ∧ zgJ (SH h s y I J) s 8 6 = some (J 0 6) ∧ zgR (SH h s y I J) s 8 7 = some (s + 1) ∧ zgR (SH h s y I J) s 8 8 = some (s + (y.1 + 2)) ∧ zgR (SH h s y I J) s 8 9 = some (s + (y.1 + 3)) ∧ zgI (SH h s y I J) s 8 10 = some (I 0 10) ∧ zis (SH h s y I J) s 8 = true :=
  ⟨bg_RO (i := 0) (k := 0) rfl (by omega) rfl rfl, bg_RO (i := 0) (k := 1) rfl (by omega) rfl rfl, bg_I (i := 0) (k := 2) rfl (by omega) rfl, bg_I (i := 0) (k := 3) rfl (by omega) rfl, bg_I (i := 0) (k := 4) rfl (by omega) rfl, bg_J (i := 0) (k := 5) rfl (by omega) rfl, bg_J (i := 0) (k := 6) rfl (by omega) rfl, bg_R (i := 0) (k := 7) rfl (by omega) rfl, bg_R (i := 0) (k := 8) rfl (by omega) rfl, bg_R (i := 0) (k := 9) rfl (by omega) rfl, bg_I (i := 0) (k := 10) rfl (by omega) rfl, bg_is (i := 0) rfl (by omega)⟩
theorem s_w10 (v : Int32) : zp (SH h s y I J) s 8 10 (.int v) = some (SH h s y (u2 I 0 10 v) J) := bp_I (i := 0) (k := 10) v rfl (by omega) rfl
theorem layS_a {i : Nat} (hi : 2 ≤ i) : layS y i = .inr (1, slen y i) := by
  unfold layS
  rw [if_neg (by omega), if_neg (by omega)]
theorem sa_J {i : Nat} {v : Int32} (hi : 2 ≤ i) (hi2 : i < y.1 + 4) (hv : vp_in v (slen y i)) : zaJ (SH h s y I J) 1 (s + i) v = some (J i v.toNatClampNeg) := ba_J (layS_a hi) hi2 hv
theorem ss_J {i : Nat} {v : Int32} {u : Int64} (hi : 2 ≤ i) (hi2 : i < y.1 + 4) (hv : vp_in v (slen y i)) : zsJ (SH h s y I J) 1 (s + i) v u = some (SH h s y I (u2 J i v.toNatClampNeg u)) := bs_J (layS_a hi) hi2 hv
theorem sl_J {i : Nat} (hi : 2 ≤ i) (hi2 : i < y.1 + 4) : zlen (SH h s y I J) 1 (s + i) = some (Int32.ofNat (slen y i)) := ba_len (layS_a hi) hi2
theorem sa_R {k : Nat} (hk : k < y.1) (hK : y.1 ≤ 1000000) : zaR (SH h s y I J) 3 (s + 1) (iI k) = some (s + (2 + k)) := by
  obtain ⟨hin, hcl⟩ := nat_in (p := k) (n := y.1) hk hK
  have := ba_R (h := h) (b := s) (n := y.1 + 4) (lay := layS y) (σ := (I, J, rS y, oS y)) (i := 1) (x := iI (k : Int)) (len := y.1) rfl (by omega) hin
  rw [hcl] at this
  exact this
theorem sc_J {i j sp dp m : Nat} (hi : 2 ≤ i) (hi2 : i < y.1 + 4) (hj : 2 ≤ j) (hj2 : j < y.1 + 4) (h1 : sp + m ≤ slen y i) (h2 : dp + m ≤ slen y j) (h3 : slen y i ≤ 1000000) (h4 : slen y j ≤ 1000000) : zcpJ (SH h s y I J) (s + i) (iI sp) (s + j) (iI dp) (iI m) = some (SH h s y I (cpJ J i j sp dp m)) := bc_J (layS_a hi) hi2 (layS_a hj) hj2 h1 h2 h3 h4
end SBLOCK
/-- a search and the class that it looks at -/
def World (h : zH) (s b : Nat) (y : sx) (x : cx) (I : Nat → Nat → Int32) (J : Nat → Nat → Int64) (c : cfg) : Prop :=
  (cOK c ∧ CC I J x c ∧ ∀ IS JS, CH (SH h s y IS JS) b x I J = SH h s y IS JS) ∧ y.2.2.2 = b ∧ y.2.1 = mm c + 1 ∧ (1 ≤ y.2.2.1 ∧ y.2.2.1 ≤ 6) ∧ 3 ≤ y.1 ∧ y.1 ≤ 25
/-- what stays of a search: traced, costUnit, sizeUnit -/
def Stat (IS : Nat → Nat → Int32) (JS : Nat → Nat → Int64) (y : sx) (tr : Bool) (cu su : Int) : Prop := IS 0 2 = iI y.2.1 ∧ IS 0 3 = iI y.2.2.1 ∧ IS 0 4 = b1 tr ∧ JS 0 5 = iJ cu ∧ JS 0 6 = iJ su
/-- the longs of the object stay -/
theorem Stat.same {IS : Nat → Nat → Int32} {JS JS' : Nat → Nat → Int64} {y : sx} {tr : Bool} {cu su : Int} (h : Stat IS JS y tr cu su) (e : ∀ k, JS' 0 k = JS 0 k) : Stat IS JS' y tr cu su := ⟨h.1, h.2.1, h.2.2.1, by rw [e]; exact h.2.2.2.1, by rw [e]; exact h.2.2.2.2⟩
section WORLD
variable {h : zH} {s b : Nat} {y : sx} {x : cx} {I : Nat → Nat → Int32} {J : Nat → Nat → Int64} {c : cfg} {N : Nat} {IS : Nat → Nat → Int32} {JS : Nat → Nat → Int64}
theorem w_allows (hW : World h s b y x I J c) {p : Nat} (hp : p ≤ nn c) {l : Int} (hl : rg l) : f_Site_allows N (b + 1) (iI p) (iI l) (SH h s y IS JS) = some (b1 (c_al c p l), SH h s y IS JS) := by
  have := c_allows (h := SH h s y IS JS) (b := b) (N := N) hW.1.1 hW.1.2.1 hp hl
  rw [hW.1.2.2] at this; exact this
theorem w_isLevel (hW : World h s b y x I J c) {z : Int} (hz : rg z) : f_Site_isLevel N (b + 1) (iI z) (SH h s y IS JS) = some (b1 (decide (0 ≤ z ∧ z ≤ c.1 1)), SH h s y IS JS) := by
  have := c_isLevel (h := SH h s y IS JS) (b := b) (N := N) hW.1.1 hW.1.2.1 hz
  rw [hW.1.2.2] at this; exact this
theorem w_slopeFits (hW : World h s b y x I J c) {t : Int} (h1 : -100000 ≤ t) (h2 : t ≤ 100000) : f_Site_slopeFits N (b + 1) (iI t) (SH h s y IS JS) = some (b1 (c_fit c t), SH h s y IS JS) := by
  have := c_slopeFits (h := SH h s y IS JS) (b := b) (N := N) hW.1.1 hW.1.2.1 h1 h2
  rw [hW.1.2.2] at this; exact this
theorem w_changeFits (hW : World h s b y x I J c) {t u : Int} (h1 : -100000 ≤ t) (h2 : t ≤ 100000) (h3 : -100000 ≤ u) (h4 : u ≤ 100000) : f_Site_changeFits N (b + 1) (iI t) (iI u) (SH h s y IS JS) = some (b1 (decide (((u - t).natAbs : Int) ≤ c.1 8)), SH h s y IS JS) := by
  have := c_changeFits (h := SH h s y IS JS) (b := b) (N := N) hW.1.1 hW.1.2.1 h1 h2 h3 h4
  rw [hW.1.2.2] at this; exact this
theorem w_lowest (hW : World h s b y x I J c) {l : Int} (h1 : 0 ≤ l) (h2 : l ≤ 24) : f_Site_lowestNear N (b + 1) (iI l) (SH h s y IS JS) = some (iI (max 0 (l - c.1 7)), SH h s y IS JS) := by
  have := c_lowest (h := SH h s y IS JS) (b := b) (N := N) hW.1.1 hW.1.2.1 h1 h2
  rw [hW.1.2.2] at this; exact this
theorem w_highest (hW : World h s b y x I J c) {l : Int} (h1 : 0 ≤ l) (h2 : l ≤ 24) : f_Site_highestNear N (b + 1) (iI l) (SH h s y IS JS) = some (iI (min (c.1 1) (l + c.1 7)), SH h s y IS JS) := by
  have := c_highest (h := SH h s y IS JS) (b := b) (N := N) hW.1.1 hW.1.2.1 h1 h2
  rw [hW.1.2.2] at this; exact this
theorem w_earth (hW : World h s b y x I J c) {p : Nat} (hp : p ≤ nn c) {l : Int} (h1 : 0 ≤ l) (h2 : l ≤ 24) : f_Site_earthCents N (b + 1) (iI p) (iI l) (SH h s y IS JS) = some (iJ (c_pc c p l), SH h s y IS JS) := by
  have := c_earth (h := SH h s y IS JS) (b := b) (N := N) hW.1.1 hW.1.2.1 hp h1 h2
  rw [hW.1.2.2] at this; exact this
theorem w_starting (hW : World h s b y x I J c) (hN : 60 ≤ N) {p : Nat} (hp : p ≤ nn c) : f_Spans_startingAt N (b + 7) (iI p) (SH h s y IS JS) = some (iI (c_sp c p), SH h s y IS JS) := by
  have := c_starting (h := SH h s y IS JS) (b := b) (N := N) hW.1.1 hW.1.2.1 hN hp
  rw [hW.1.2.2] at this; exact this
theorem w_anyEnds (hW : World h s b y x I J c) (hN : 60 ≤ N) {p : Nat} (hp : p ≤ nn c) : ∃ r : Bool, (r = true ↔ c_ends c p) ∧ f_Spans_anyEndsAt N (b + 7) (iI p) (SH h s y IS JS) = some (b1 r, SH h s y IS JS) := by
  have := c_anyEnds (h := SH h s y IS JS) (b := b) (N := N) hW.1.1 hW.1.2.1 hN hp
  rw [hW.1.2.2] at this; exact this
theorem w_suits (hW : World h s b y x I J c) (hN : 60 ≤ N) {k : Nat} (hk : (k : Int) < c.1 10) {l t : Int} (h1 : 0 ≤ l) (h2 : l ≤ 24) (h3 : -24 ≤ t) (h4 : t ≤ 24) : f_Spans_suits N (b + 7) (b + 1) (iI k) (iI l) (iI t) (SH h s y IS JS) = some (b1 (c_suit c k l t), SH h s y IS JS) := by
  have := c_suits (h := SH h s y IS JS) (b := b) (N := N) hW.1.1 hW.1.2.1 hN hk h1 h2 h3 h4
  rw [hW.1.2.2] at this; exact this
/-- what is read of the class from a search -/
theorem w_rd (hW : World h s b y x I J c) : zgI (SH h s y IS JS) (b + 1) 2 0 = some (iI (c.1 0)) ∧ zgI (SH h s y IS JS) (b + 1) 2 8 = some (iI (c.1 8)) ∧ zgR (SH h s y IS JS) (b + 7) 3 1 = some (b + 8) ∧ zgR (SH h s y IS JS) (b + 7) 3 2 = some (b + 9) ∧ zgR (SH h s y IS JS) (b + 7) 3 4 = some (b + 11) ∧ zis (SH h s y IS JS) (b + 1) 2 = true ∧ zis (SH h s y IS JS) (b + 7) 3 = true := by
  rw [← hW.1.2.2 IS JS]
  simp only [c_rd, hW.1.2.1.2.1.1, hW.1.2.1.2.1.2.2.2.1, and_self]
theorem w_sp (hW : World h s b y x I J c) {k : Nat} (hk : (k : Int) < c.1 10) : zaI (SH h s y IS JS) 0 (b + 8) (iI k) = some (iI (c.2 6 k)) ∧ zaI (SH h s y IS JS) 0 (b + 9) (iI k) = some (iI (c.2 7 k)) ∧ zaJ (SH h s y IS JS) 1 (b + 11) (iI k) = some (iJ (c.2 9 k)) := by
  have hK := hW.1.1.2.2.2.2.2.1
  obtain ⟨hin, hcl⟩ := nat_in (p := k) (n := 6) (by omega) (by omega)
  obtain ⟨e6, e7, -, e9⟩ := hW.1.2.1.2.2.2 k hk
  rw [← hW.1.2.2 IS JS]
  simp only [ca_8 hin, ca_9 hin, ca_11 hin, hcl, e6, e7, e9, and_self]
theorem w_index {tr : Bool} {cu su : Int} (hS : Stat IS JS y tr cu su) {l l' : Int} : f_Search_indexOf N s (iI l) (iI l') (SH h s y IS JS) = some (iI ((l * y.2.1 + l') * y.2.2.1), SH h s y IS JS) := by
  unfold f_Search_indexOf
  simp only [s_rd, Option.bind_some, hS.1, hS.2.1, iI_mul, iI_add]
theorem w_earthValue (hW : World h s b y x I J c) {tr : Bool} {cu su : Int} (hS : Stat IS JS y tr cu su) {p : Nat} (hp : p ≤ nn c) {l : Int} (h1 : 0 ≤ l) (h2 : l ≤ 24) : f_Search_earthValue N s (iI p) (iI l) (SH h s y IS JS) = some (iJ (cu * c_pc c p l), SH h s y IS JS) := by
  unfold f_Search_earthValue
  simp only [s_rd, Option.bind_some, hW.2.1, w_rd hW, zck_t, w_earth hW hp h1 h2, hS.2.2.2.1, iJ_mul]
end WORLD
