/-! THE CLASS'S BLOCK: 0 the object (class 1: 0 site, 1 spans, 2 reach, 3 table, 4 curves, 5 driven, 6 best, 7 cheapest, 8 cheapestKnown, 9 curveSpeed), 1 Site with rows 2-6, 7 Spans with rows 8-11, 12 Reach with rows 13, 14, 15 Table with rows 16, 17, 18 Curves with row 19, 20 Lorry -/
def layC (n m : Nat) : Nat → zL := fun i => match i with
  | 0 => .inl (1, [2, 2, 2, 2, 2, 2, 3, 3, 0, 0])
  | 1 => .inl (2, [0, 0, 2, 2, 2, 2, 2, 0, 0, 0])
  | 2 => .inr (0, n + 1)
  | 3 => .inr (0, n + 1)
  | 4 => .inr (0, n + 1)
  | 5 => .inr (0, n + 1)
  | 6 => .inr (0, n + 1)
  | 7 => .inl (3, [0, 2, 2, 2, 2])
  | 8 => .inr (0, 6)
  | 9 => .inr (0, 6)
  | 10 => .inr (0, 6)
  | 11 => .inr (1, 6)
  | 12 => .inl (4, [2, 2, 2])
  | 13 => .inr (1, m + 1)
  | 14 => .inr (1, m + 1)
  | 15 => .inl (5, [2, 2, 2, 2, 0, 0, 1])
  | 16 => .inr (0, n + 1)
  | 17 => .inr (0, n)
  | 18 => .inl (6, [2, 0])
  | 19 => .inr (0, n + 1)
  | _ => .inl (7, [0, 0, 0, 0])
/-- the references; s: Reach's rows have changed places -/
def rC (s : Bool) : Nat → Nat → Nat := fun i k => match i, k with
  | 0, 0 => 1
  | 0, 1 => 7
  | 0, 2 => 12
  | 0, 3 => 15
  | 0, 4 => 18
  | 0, 5 => 20
  | 1, 2 => 2
  | 1, 3 => 3
  | 1, 4 => 4
  | 1, 5 => 5
  | 1, 6 => 6
  | 7, 1 => 8
  | 7, 2 => 9
  | 7, 3 => 10
  | 7, 4 => 11
  | 12, 0 => 1
  | 15, 0 => 1
  | 15, 1 => 7
  | 15, 2 => 16
  | 15, 3 => 17
  | 18, 0 => 19
  | 12, 1 => if s = true then 14 else 13
  | 12, 2 => if s = true then 13 else 14
  | _, _ => 0
/-- what of the block is neither an int nor a long: the sizes, whether Reach's rows have changed places, best, cheapest -/
abbrev cx : Type := Nat × Nat × Bool × Option Nat × Option Nat
def oC (x : cx) : Nat → Nat → Option Nat := fun i k => if i = 0 ∧ k = 6 then x.2.2.2.1 else if i = 0 ∧ k = 7 then x.2.2.2.2 else none
abbrev CH (h : zH) (b : Nat) (x : cx) (I : Nat → Nat → Int32) (J : Nat → Nat → Int64) : zH := BH h b 21 (layC x.1 x.2.1) (I, J, rC x.2.2.1, oC x)
section CBLOCK
variable {h : zH} {b : Nat} {x : cx} {I : Nat → Nat → Int32} {J : Nat → Nat → Int64}
theorem c_rd : zgR (CH h b x I J) b 1 0 = some (b + 1) ∧ zgR (CH h b x I J) b 1 1 = some (b + 7) ∧ zgR (CH h b x I J) b 1 2 = some (b + 12) ∧ zgR (CH h b x I J) b 1 3 = some (b + 15) ∧ zgR (CH h b x I J) b 1 4 = some (b + 18) ∧ zgR (CH h b x I J) b 1 5 = some (b + 20) ∧ zgI (CH h b x I J) b 1 8 = some (I 0 8) ∧ zgI (CH h b x I J) b 1 9 = some (I 0 9) ∧ zis (CH h b x I J) b 1 = true ∧ zgI (CH h b x I J) (b + 1) 2 0 = some (I 1 0) ∧ zgI (CH h b x I J) (b + 1) 2 1 = some (I 1 1) ∧ zgR (CH h b x I J) (b + 1) 2 2 = some (b + 2) ∧ zgR (CH h b x I J) (b + 1) 2 3 = some (b + 3) ∧ zgR (CH h b x I J) (b + 1) 2 4 = some (b + 4) ∧ zgR (CH h b x I J) (b + 1) 2 5 = some (b + 5) ∧ zgR (CH h b x I J) (b + 1) 2 6 = some (b + 6) ∧ zgI (CH h b x I J) (b + 1) 2 7 = some (I 1 7) ∧ zgI (CH h b x I J) (b + 1) 2 8 = some (I 1 8) ∧ zgI (CH h b x I J) (b + 1) 2 9 = some (I 1 9) ∧ zis (CH h b x I J) (b + 1) 2 = true ∧ zgI (CH h b x I J) (b + 7) 3 0 = some (I 7 0) ∧ zgR (CH h b x I J) (b + 7) 3 1 = some (b + 8) ∧ zgR (CH h b x I J) (b + 7) 3 2 = some (b + 9) ∧ zgR (CH h b x I J) (b + 7) 3 3 = some (b + 10) ∧ zgR (CH h b x I J) (b + 7) 3 4 = some (b + 11) ∧ zis (CH h b x I J) (b + 7) 3 = true ∧ zgR (CH h b x I J) (b + 12) 4 0 = some (b + 1) ∧ zgR (CH h b x I J) (b + 12) 4 1 = some (b + if x.2.2.1 = true then 14 else 13) ∧ zgR (CH h b x I J) (b + 12) 4 2 = some (b + if x.2.2.1 = true then 13 else 14) ∧ zis (CH h b x I J) (b + 12) 4 = true ∧ zgR (CH h b x I J) (b + 15) 5 0 = some (b + 1) ∧ zgR (CH h b x I J) (b + 15) 5 1 = some (b + 7) ∧ zgR (CH h b x I J) (b + 15) 5 2 = some (b + 16) ∧ zgR (CH h b x I J) (b + 15) 5 3 = some (b + 17) ∧ zgI (CH h b x I J) (b + 15) 5 4 = some (I 15 4) ∧ zgI (CH h b x I J) (b + 15) 5 5 = some (I 15 5) ∧ zgJ (CH h b x I J) (b + 15) 5 6 = some (J 15 6) ∧ zis (CH h b x I J) (b + 15) 5 = true ∧ zgR (CH h b x I J) (b + 18) 6 0 = some (b + 19) ∧ zgI (CH h b x I J) (b + 18) 6 1 = some (I 18 1) ∧ zis (CH h b x I J) (b + 18) 6 = true ∧ zgI (CH h b x I J) (b + 20) 7 0 = some (I 20 0) ∧ zgI (CH h b x I J) (b + 20) 7 1 = some (I 20 1) ∧ zgI (CH h b x I J) (b + 20) 7 2 = some (I 20 2) ∧ zgI (CH h b x I J) (b + 20) 7 3 = some (I 20 3) ∧ zis (CH h b x I J) (b + 20) 7 = true :=
  ⟨bg_R (i := 0) (k := 0) rfl (by decide) rfl, bg_R (i := 0) (k := 1) rfl (by decide) rfl, bg_R (i := 0) (k := 2) rfl (by decide) rfl, bg_R (i := 0) (k := 3) rfl (by decide) rfl, bg_R (i := 0) (k := 4) rfl (by decide) rfl, bg_R (i := 0) (k := 5) rfl (by decide) rfl, bg_I (i := 0) (k := 8) rfl (by decide) rfl, bg_I (i := 0) (k := 9) rfl (by decide) rfl, bg_is (i := 0) rfl (by decide), bg_I (i := 1) (k := 0) rfl (by decide) rfl, bg_I (i := 1) (k := 1) rfl (by decide) rfl, bg_R (i := 1) (k := 2) rfl (by decide) rfl, bg_R (i := 1) (k := 3) rfl (by decide) rfl, bg_R (i := 1) (k := 4) rfl (by decide) rfl, bg_R (i := 1) (k := 5) rfl (by decide) rfl, bg_R (i := 1) (k := 6) rfl (by decide) rfl, bg_I (i := 1) (k := 7) rfl (by decide) rfl, bg_I (i := 1) (k := 8) rfl (by decide) rfl, bg_I (i := 1) (k := 9) rfl (by decide) rfl, bg_is (i := 1) rfl (by decide), bg_I (i := 7) (k := 0) rfl (by decide) rfl, bg_R (i := 7) (k := 1) rfl (by decide) rfl, bg_R (i := 7) (k := 2) rfl (by decide) rfl, bg_R (i := 7) (k := 3) rfl (by decide) rfl, bg_R (i := 7) (k := 4) rfl (by decide) rfl, bg_is (i := 7) rfl (by decide), bg_R (i := 12) (k := 0) rfl (by decide) rfl, bg_R (i := 12) (k := 1) rfl (by decide) rfl, bg_R (i := 12) (k := 2) rfl (by decide) rfl, bg_is (i := 12) rfl (by decide), bg_R (i := 15) (k := 0) rfl (by decide) rfl, bg_R (i := 15) (k := 1) rfl (by decide) rfl, bg_R (i := 15) (k := 2) rfl (by decide) rfl, bg_R (i := 15) (k := 3) rfl (by decide) rfl, bg_I (i := 15) (k := 4) rfl (by decide) rfl, bg_I (i := 15) (k := 5) rfl (by decide) rfl, bg_J (i := 15) (k := 6) rfl (by decide) rfl, bg_is (i := 15) rfl (by decide), bg_R (i := 18) (k := 0) rfl (by decide) rfl, bg_I (i := 18) (k := 1) rfl (by decide) rfl, bg_is (i := 18) rfl (by decide), bg_I (i := 20) (k := 0) rfl (by decide) rfl, bg_I (i := 20) (k := 1) rfl (by decide) rfl, bg_I (i := 20) (k := 2) rfl (by decide) rfl, bg_I (i := 20) (k := 3) rfl (by decide) rfl, bg_is (i := 20) rfl (by decide)⟩
theorem c_wr : (∀ v : Int32, zp (CH h b x I J) b 1 8 (.int v) = some (CH h b x (u2 I 0 8 v) J)) ∧ (∀ v : Int32, zp (CH h b x I J) b 1 9 (.int v) = some (CH h b x (u2 I 0 9 v) J)) ∧ (∀ v : Int32, zp (CH h b x I J) (b + 1) 2 0 (.int v) = some (CH h b x (u2 I 1 0 v) J)) ∧ (∀ v : Int32, zp (CH h b x I J) (b + 1) 2 1 (.int v) = some (CH h b x (u2 I 1 1 v) J)) ∧ (∀ v : Int32, zp (CH h b x I J) (b + 1) 2 7 (.int v) = some (CH h b x (u2 I 1 7 v) J)) ∧ (∀ v : Int32, zp (CH h b x I J) (b + 1) 2 8 (.int v) = some (CH h b x (u2 I 1 8 v) J)) ∧ (∀ v : Int32, zp (CH h b x I J) (b + 1) 2 9 (.int v) = some (CH h b x (u2 I 1 9 v) J)) ∧ (∀ v : Int32, zp (CH h b x I J) (b + 7) 3 0 (.int v) = some (CH h b x (u2 I 7 0 v) J)) ∧ (∀ v : Int32, zp (CH h b x I J) (b + 15) 5 4 (.int v) = some (CH h b x (u2 I 15 4 v) J)) ∧ (∀ v : Int32, zp (CH h b x I J) (b + 15) 5 5 (.int v) = some (CH h b x (u2 I 15 5 v) J)) ∧ (∀ v : Int64, zp (CH h b x I J) (b + 15) 5 6 (.long v) = some (CH h b x I (u2 J 15 6 v))) ∧ (∀ v : Int32, zp (CH h b x I J) (b + 18) 6 1 (.int v) = some (CH h b x (u2 I 18 1 v) J)) ∧ (∀ v : Int32, zp (CH h b x I J) (b + 20) 7 0 (.int v) = some (CH h b x (u2 I 20 0 v) J)) ∧ (∀ v : Int32, zp (CH h b x I J) (b + 20) 7 1 (.int v) = some (CH h b x (u2 I 20 1 v) J)) ∧ (∀ v : Int32, zp (CH h b x I J) (b + 20) 7 2 (.int v) = some (CH h b x (u2 I 20 2 v) J)) ∧ (∀ v : Int32, zp (CH h b x I J) (b + 20) 7 3 (.int v) = some (CH h b x (u2 I 20 3 v) J)) :=
  ⟨fun v => bp_I (i := 0) (k := 8) v rfl (by decide) rfl, fun v => bp_I (i := 0) (k := 9) v rfl (by decide) rfl, fun v => bp_I (i := 1) (k := 0) v rfl (by decide) rfl, fun v => bp_I (i := 1) (k := 1) v rfl (by decide) rfl, fun v => bp_I (i := 1) (k := 7) v rfl (by decide) rfl, fun v => bp_I (i := 1) (k := 8) v rfl (by decide) rfl, fun v => bp_I (i := 1) (k := 9) v rfl (by decide) rfl, fun v => bp_I (i := 7) (k := 0) v rfl (by decide) rfl, fun v => bp_I (i := 15) (k := 4) v rfl (by decide) rfl, fun v => bp_I (i := 15) (k := 5) v rfl (by decide) rfl, fun v => bp_J (i := 15) (k := 6) v rfl (by decide) rfl, fun v => bp_I (i := 18) (k := 1) v rfl (by decide) rfl, fun v => bp_I (i := 20) (k := 0) v rfl (by decide) rfl, fun v => bp_I (i := 20) (k := 1) v rfl (by decide) rfl, fun v => bp_I (i := 20) (k := 2) v rfl (by decide) rfl, fun v => bp_I (i := 20) (k := 3) v rfl (by decide) rfl⟩
theorem ca_2 {v : Int32} (hx : vp_in v (x.1 + 1)) : zaI (CH h b x I J) 0 (b + 2) v = some (I 2 v.toNatClampNeg) := ba_I (i := 2) rfl (by decide) (by decide) hx
theorem cs_2 {v w : Int32} (hx : vp_in v (x.1 + 1)) : zsI (CH h b x I J) 0 (b + 2) v w = some (CH h b x (u2 I 2 v.toNatClampNeg w) J) := bs_I (i := 2) rfl (by decide) (by decide) hx
theorem cl_2 : zlen (CH h b x I J) 0 (b + 2) = some (Int32.ofNat (x.1 + 1)) := ba_len (i := 2) rfl (by decide)
theorem ca_3 {v : Int32} (hx : vp_in v (x.1 + 1)) : zaI (CH h b x I J) 0 (b + 3) v = some (I 3 v.toNatClampNeg) := ba_I (i := 3) rfl (by decide) (by decide) hx
theorem cs_3 {v w : Int32} (hx : vp_in v (x.1 + 1)) : zsI (CH h b x I J) 0 (b + 3) v w = some (CH h b x (u2 I 3 v.toNatClampNeg w) J) := bs_I (i := 3) rfl (by decide) (by decide) hx
theorem cl_3 : zlen (CH h b x I J) 0 (b + 3) = some (Int32.ofNat (x.1 + 1)) := ba_len (i := 3) rfl (by decide)
theorem ca_4 {v : Int32} (hx : vp_in v (x.1 + 1)) : zaI (CH h b x I J) 0 (b + 4) v = some (I 4 v.toNatClampNeg) := ba_I (i := 4) rfl (by decide) (by decide) hx
theorem cs_4 {v w : Int32} (hx : vp_in v (x.1 + 1)) : zsI (CH h b x I J) 0 (b + 4) v w = some (CH h b x (u2 I 4 v.toNatClampNeg w) J) := bs_I (i := 4) rfl (by decide) (by decide) hx
theorem cl_4 : zlen (CH h b x I J) 0 (b + 4) = some (Int32.ofNat (x.1 + 1)) := ba_len (i := 4) rfl (by decide)
theorem ca_5 {v : Int32} (hx : vp_in v (x.1 + 1)) : zaI (CH h b x I J) 0 (b + 5) v = some (I 5 v.toNatClampNeg) := ba_I (i := 5) rfl (by decide) (by decide) hx
theorem cs_5 {v w : Int32} (hx : vp_in v (x.1 + 1)) : zsI (CH h b x I J) 0 (b + 5) v w = some (CH h b x (u2 I 5 v.toNatClampNeg w) J) := bs_I (i := 5) rfl (by decide) (by decide) hx
theorem cl_5 : zlen (CH h b x I J) 0 (b + 5) = some (Int32.ofNat (x.1 + 1)) := ba_len (i := 5) rfl (by decide)
theorem ca_6 {v : Int32} (hx : vp_in v (x.1 + 1)) : zaI (CH h b x I J) 0 (b + 6) v = some (I 6 v.toNatClampNeg) := ba_I (i := 6) rfl (by decide) (by decide) hx
theorem cs_6 {v w : Int32} (hx : vp_in v (x.1 + 1)) : zsI (CH h b x I J) 0 (b + 6) v w = some (CH h b x (u2 I 6 v.toNatClampNeg w) J) := bs_I (i := 6) rfl (by decide) (by decide) hx
theorem cl_6 : zlen (CH h b x I J) 0 (b + 6) = some (Int32.ofNat (x.1 + 1)) := ba_len (i := 6) rfl (by decide)
theorem ca_8 {v : Int32} (hx : vp_in v (6)) : zaI (CH h b x I J) 0 (b + 8) v = some (I 8 v.toNatClampNeg) := ba_I (i := 8) rfl (by decide) (by decide) hx
theorem cs_8 {v w : Int32} (hx : vp_in v (6)) : zsI (CH h b x I J) 0 (b + 8) v w = some (CH h b x (u2 I 8 v.toNatClampNeg w) J) := bs_I (i := 8) rfl (by decide) (by decide) hx
theorem cl_8 : zlen (CH h b x I J) 0 (b + 8) = some (Int32.ofNat (6)) := ba_len (i := 8) rfl (by decide)
theorem ca_9 {v : Int32} (hx : vp_in v (6)) : zaI (CH h b x I J) 0 (b + 9) v = some (I 9 v.toNatClampNeg) := ba_I (i := 9) rfl (by decide) (by decide) hx
theorem cs_9 {v w : Int32} (hx : vp_in v (6)) : zsI (CH h b x I J) 0 (b + 9) v w = some (CH h b x (u2 I 9 v.toNatClampNeg w) J) := bs_I (i := 9) rfl (by decide) (by decide) hx
theorem cl_9 : zlen (CH h b x I J) 0 (b + 9) = some (Int32.ofNat (6)) := ba_len (i := 9) rfl (by decide)
theorem ca_10 {v : Int32} (hx : vp_in v (6)) : zaI (CH h b x I J) 0 (b + 10) v = some (I 10 v.toNatClampNeg) := ba_I (i := 10) rfl (by decide) (by decide) hx
theorem cs_10 {v w : Int32} (hx : vp_in v (6)) : zsI (CH h b x I J) 0 (b + 10) v w = some (CH h b x (u2 I 10 v.toNatClampNeg w) J) := bs_I (i := 10) rfl (by decide) (by decide) hx
theorem cl_10 : zlen (CH h b x I J) 0 (b + 10) = some (Int32.ofNat (6)) := ba_len (i := 10) rfl (by decide)
theorem ca_11 {v : Int32} (hx : vp_in v (6)) : zaJ (CH h b x I J) 1 (b + 11) v = some (J 11 v.toNatClampNeg) := ba_J (i := 11) rfl (by decide) hx
theorem cs_11 {v : Int32} {w : Int64} (hx : vp_in v (6)) : zsJ (CH h b x I J) 1 (b + 11) v w = some (CH h b x I (u2 J 11 v.toNatClampNeg w)) := bs_J (i := 11) rfl (by decide) hx
theorem cl_11 : zlen (CH h b x I J) 1 (b + 11) = some (Int32.ofNat (6)) := ba_len (i := 11) rfl (by decide)
theorem ca_13 {v : Int32} (hx : vp_in v (x.2.1 + 1)) : zaJ (CH h b x I J) 1 (b + 13) v = some (J 13 v.toNatClampNeg) := ba_J (i := 13) rfl (by decide) hx
theorem cs_13 {v : Int32} {w : Int64} (hx : vp_in v (x.2.1 + 1)) : zsJ (CH h b x I J) 1 (b + 13) v w = some (CH h b x I (u2 J 13 v.toNatClampNeg w)) := bs_J (i := 13) rfl (by decide) hx
theorem cl_13 : zlen (CH h b x I J) 1 (b + 13) = some (Int32.ofNat (x.2.1 + 1)) := ba_len (i := 13) rfl (by decide)
theorem ca_14 {v : Int32} (hx : vp_in v (x.2.1 + 1)) : zaJ (CH h b x I J) 1 (b + 14) v = some (J 14 v.toNatClampNeg) := ba_J (i := 14) rfl (by decide) hx
theorem cs_14 {v : Int32} {w : Int64} (hx : vp_in v (x.2.1 + 1)) : zsJ (CH h b x I J) 1 (b + 14) v w = some (CH h b x I (u2 J 14 v.toNatClampNeg w)) := bs_J (i := 14) rfl (by decide) hx
theorem cl_14 : zlen (CH h b x I J) 1 (b + 14) = some (Int32.ofNat (x.2.1 + 1)) := ba_len (i := 14) rfl (by decide)
theorem ca_16 {v : Int32} (hx : vp_in v (x.1 + 1)) : zaI (CH h b x I J) 0 (b + 16) v = some (I 16 v.toNatClampNeg) := ba_I (i := 16) rfl (by decide) (by decide) hx
theorem cs_16 {v w : Int32} (hx : vp_in v (x.1 + 1)) : zsI (CH h b x I J) 0 (b + 16) v w = some (CH h b x (u2 I 16 v.toNatClampNeg w) J) := bs_I (i := 16) rfl (by decide) (by decide) hx
theorem cl_16 : zlen (CH h b x I J) 0 (b + 16) = some (Int32.ofNat (x.1 + 1)) := ba_len (i := 16) rfl (by decide)
theorem ca_17 {v : Int32} (hx : vp_in v (x.1)) : zaI (CH h b x I J) 0 (b + 17) v = some (I 17 v.toNatClampNeg) := ba_I (i := 17) rfl (by decide) (by decide) hx
theorem cs_17 {v w : Int32} (hx : vp_in v (x.1)) : zsI (CH h b x I J) 0 (b + 17) v w = some (CH h b x (u2 I 17 v.toNatClampNeg w) J) := bs_I (i := 17) rfl (by decide) (by decide) hx
theorem cl_17 : zlen (CH h b x I J) 0 (b + 17) = some (Int32.ofNat (x.1)) := ba_len (i := 17) rfl (by decide)
theorem ca_19 {v : Int32} (hx : vp_in v (x.1 + 1)) : zaI (CH h b x I J) 0 (b + 19) v = some (I 19 v.toNatClampNeg) := ba_I (i := 19) rfl (by decide) (by decide) hx
theorem cs_19 {v w : Int32} (hx : vp_in v (x.1 + 1)) : zsI (CH h b x I J) 0 (b + 19) v w = some (CH h b x (u2 I 19 v.toNatClampNeg w) J) := bs_I (i := 19) rfl (by decide) (by decide) hx
theorem cl_19 : zlen (CH h b x I J) 0 (b + 19) = some (Int32.ofNat (x.1 + 1)) := ba_len (i := 19) rfl (by decide)
end CBLOCK
