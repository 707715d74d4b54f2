/-! THE REFERENCE'S BLOCK: the object and its 19 arrays. Field numbers: 0 n, 1 m, 2 grounds, 3 cuts, 4 fills, 5 fixedAt, 6 movedAt, 7 most, 8 change, 9 falls, 10 spans, 11 froms, 12 tos, 13 kinds, 14 cents, 15 costs, 16 sums, 17 lists, 18 many, 19 knowsOthers, 20 otherCount, 21 others, 22 reached, 23 next, 24 has, 25 levels, 26 used, 27 cost, 28 halves, 29 speed, 30 top, 31 least, 32 loss, 33 gain, 34 speeds. Array numbers: 1 grounds, 2 cuts, 3 fills, 4 fixedAt, 5 movedAt, 6 froms, 7 tos, 8 kinds, 9 cents, 10 costs, 11 sums, 12 lists, 13 many, 14 others, 15 reached, 16 next, 17 levels, 18 halves, 19 speeds. -/
def layM : Nat → zL := fun i => match i with
  | 0 => .inl (0, [0, 0, 2, 2, 2, 2, 2, 0, 0, 0, 0, 2, 2, 2, 2, 2, 2, 2, 2, 0, 0, 2, 2, 2, 0, 2, 0, 1, 2, 0, 0, 0, 0, 0, 2])
  | 1 => .inr (0, 25)
  | 2 => .inr (0, 25)
  | 3 => .inr (0, 25)
  | 4 => .inr (0, 25)
  | 5 => .inr (0, 25)
  | 6 => .inr (0, 6)
  | 7 => .inr (0, 6)
  | 8 => .inr (0, 6)
  | 9 => .inr (1, 6)
  | 10 => .inr (1, 31250)
  | 11 => .inr (0, 31250)
  | 12 => .inr (1, 187500)
  | 13 => .inr (0, 31250)
  | 14 => .inr (1, 6)
  | 15 => .inr (2, 1250)
  | 16 => .inr (2, 1250)
  | 17 => .inr (0, 25)
  | 18 => .inr (0, 25)
  | _ => .inr (0, 25)
def rM : Nat → Nat → Nat := fun _ k => match k with
  | 2 => 1
  | 3 => 2
  | 4 => 3
  | 5 => 4
  | 6 => 5
  | 11 => 6
  | 12 => 7
  | 13 => 8
  | 14 => 9
  | 15 => 10
  | 16 => 11
  | 17 => 12
  | 18 => 13
  | 21 => 14
  | 22 => 15
  | 23 => 16
  | 25 => 17
  | 28 => 18
  | 34 => 19
  | _ => 0
abbrev MH (h : zH) (b : Nat) (I : Nat → Nat → Int32) (J : Nat → Nat → Int64) : zH := BH h b 20 layM (I, J, rM, fun _ _ => none)
section MBLOCK
variable {h : zH} {b : Nat} {I : Nat → Nat → Int32} {J : Nat → Nat → Int64}
theorem m_rd : zgI (MH h b I J) b 0 0 = some (I 0 0) ∧ zgI (MH h b I J) b 0 1 = some (I 0 1) ∧ zgR (MH h b I J) b 0 2 = some (b + 1) ∧ zgR (MH h b I J) b 0 3 = some (b + 2) ∧ zgR (MH h b I J) b 0 4 = some (b + 3) ∧ zgR (MH h b I J) b 0 5 = some (b + 4) ∧ zgR (MH h b I J) b 0 6 = some (b + 5) ∧ zgI (MH h b I J) b 0 7 = some (I 0 7) ∧ zgI (MH h b I J) b 0 8 = some (I 0 8) ∧ zgI (MH h b I J) b 0 9 = some (I 0 9) ∧ zgI (MH h b I J) b 0 10 = some (I 0 10) ∧ zgR (MH h b I J) b 0 11 = some (b + 6) ∧ zgR (MH h b I J) b 0 12 = some (b + 7) ∧ zgR (MH h b I J) b 0 13 = some (b + 8) ∧ zgR (MH h b I J) b 0 14 = some (b + 9) ∧ zgR (MH h b I J) b 0 15 = some (b + 10) ∧ zgR (MH h b I J) b 0 16 = some (b + 11) ∧ zgR (MH h b I J) b 0 17 = some (b + 12) ∧ zgR (MH h b I J) b 0 18 = some (b + 13) ∧ zgI (MH h b I J) b 0 19 = some (I 0 19) ∧ zgI (MH h b I J) b 0 20 = some (I 0 20) ∧ zgR (MH h b I J) b 0 21 = some (b + 14) ∧ zgR (MH h b I J) b 0 22 = some (b + 15) ∧ zgR (MH h b I J) b 0 23 = some (b + 16) ∧ zgI (MH h b I J) b 0 24 = some (I 0 24) ∧ zgR (MH h b I J) b 0 25 = some (b + 17) ∧ zgI (MH h b I J) b 0 26 = some (I 0 26) ∧ zgJ (MH h b I J) b 0 27 = some (J 0 27) ∧ zgR (MH h b I J) b 0 28 = some (b + 18) ∧ zgI (MH h b I J) b 0 29 = some (I 0 29) ∧ zgI (MH h b I J) b 0 30 = some (I 0 30) ∧ zgI (MH h b I J) b 0 31 = some (I 0 31) ∧ zgI (MH h b I J) b 0 32 = some (I 0 32) ∧ zgI (MH h b I J) b 0 33 = some (I 0 33) ∧ zgR (MH h b I J) b 0 34 = some (b + 19) ∧ zis (MH h b I J) b 0 = true :=
  ⟨bg_I (i := 0) (k := 0) rfl (by decide) rfl, bg_I (i := 0) (k := 1) rfl (by decide) rfl, bg_R (i := 0) (k := 2) rfl (by decide) rfl, bg_R (i := 0) (k := 3) rfl (by decide) rfl, bg_R (i := 0) (k := 4) rfl (by decide) rfl, bg_R (i := 0) (k := 5) rfl (by decide) rfl, bg_R (i := 0) (k := 6) rfl (by decide) rfl, bg_I (i := 0) (k := 7) rfl (by decide) rfl, bg_I (i := 0) (k := 8) rfl (by decide) rfl, bg_I (i := 0) (k := 9) rfl (by decide) rfl, bg_I (i := 0) (k := 10) rfl (by decide) rfl, bg_R (i := 0) (k := 11) rfl (by decide) rfl, bg_R (i := 0) (k := 12) rfl (by decide) rfl, bg_R (i := 0) (k := 13) rfl (by decide) rfl, bg_R (i := 0) (k := 14) rfl (by decide) rfl, bg_R (i := 0) (k := 15) rfl (by decide) rfl, bg_R (i := 0) (k := 16) rfl (by decide) rfl, bg_R (i := 0) (k := 17) rfl (by decide) rfl, bg_R (i := 0) (k := 18) rfl (by decide) rfl, bg_I (i := 0) (k := 19) rfl (by decide) rfl, bg_I (i := 0) (k := 20) rfl (by decide) rfl, bg_R (i := 0) (k := 21) rfl (by decide) rfl, bg_R (i := 0) (k := 22) rfl (by decide) rfl, bg_R (i := 0) (k := 23) rfl (by decide) rfl, bg_I (i := 0) (k := 24) rfl (by decide) rfl, bg_R (i := 0) (k := 25) rfl (by decide) rfl, bg_I (i := 0) (k := 26) rfl (by decide) rfl, bg_J (i := 0) (k := 27) rfl (by decide) rfl, bg_R (i := 0) (k := 28) rfl (by decide) rfl, bg_I (i := 0) (k := 29) rfl (by decide) rfl, bg_I (i := 0) (k := 30) rfl (by decide) rfl, bg_I (i := 0) (k := 31) rfl (by decide) rfl, bg_I (i := 0) (k := 32) rfl (by decide) rfl, bg_I (i := 0) (k := 33) rfl (by decide) rfl, bg_R (i := 0) (k := 34) rfl (by decide) rfl, bg_is (i := 0) rfl (by decide)⟩
theorem m_wr : (∀ v : Int32, zp (MH h b I J) b 0 7 (.int v) = some (MH h b (u2 I 0 7 v) J)) ∧ (∀ v : Int32, zp (MH h b I J) b 0 8 (.int v) = some (MH h b (u2 I 0 8 v) J)) ∧ (∀ v : Int32, zp (MH h b I J) b 0 9 (.int v) = some (MH h b (u2 I 0 9 v) J)) ∧ (∀ v : Int32, zp (MH h b I J) b 0 10 (.int v) = some (MH h b (u2 I 0 10 v) J)) ∧ (∀ v : Int32, zp (MH h b I J) b 0 19 (.int v) = some (MH h b (u2 I 0 19 v) J)) ∧ (∀ v : Int32, zp (MH h b I J) b 0 20 (.int v) = some (MH h b (u2 I 0 20 v) J)) ∧ (∀ v : Int32, zp (MH h b I J) b 0 24 (.int v) = some (MH h b (u2 I 0 24 v) J)) ∧ (∀ v : Int32, zp (MH h b I J) b 0 26 (.int v) = some (MH h b (u2 I 0 26 v) J)) ∧ (∀ v : Int64, zp (MH h b I J) b 0 27 (.long v) = some (MH h b I (u2 J 0 27 v))) ∧ (∀ v : Int32, zp (MH h b I J) b 0 29 (.int v) = some (MH h b (u2 I 0 29 v) J)) ∧ (∀ v : Int32, zp (MH h b I J) b 0 30 (.int v) = some (MH h b (u2 I 0 30 v) J)) ∧ (∀ v : Int32, zp (MH h b I J) b 0 31 (.int v) = some (MH h b (u2 I 0 31 v) J)) ∧ (∀ v : Int32, zp (MH h b I J) b 0 32 (.int v) = some (MH h b (u2 I 0 32 v) J)) ∧ (∀ v : Int32, zp (MH h b I J) b 0 33 (.int v) = some (MH h b (u2 I 0 33 v) J)) :=
  ⟨fun v => bp_I (i := 0) (k := 7) v rfl (by decide) rfl, fun v => bp_I (i := 0) (k := 8) v rfl (by decide) rfl, fun v => bp_I (i := 0) (k := 9) v rfl (by decide) rfl, fun v => bp_I (i := 0) (k := 10) v rfl (by decide) rfl, fun v => bp_I (i := 0) (k := 19) v rfl (by decide) rfl, fun v => bp_I (i := 0) (k := 20) v rfl (by decide) rfl, fun v => bp_I (i := 0) (k := 24) v rfl (by decide) rfl, fun v => bp_I (i := 0) (k := 26) v rfl (by decide) rfl, fun v => bp_J (i := 0) (k := 27) v rfl (by decide) rfl, fun v => bp_I (i := 0) (k := 29) v rfl (by decide) rfl, fun v => bp_I (i := 0) (k := 30) v rfl (by decide) rfl, fun v => bp_I (i := 0) (k := 31) v rfl (by decide) rfl, fun v => bp_I (i := 0) (k := 32) v rfl (by decide) rfl, fun v => bp_I (i := 0) (k := 33) v rfl (by decide) rfl⟩
theorem ma_1 {x : Int32} (hx : vp_in x 25) : zaI (MH h b I J) 0 (b + 1) x = some (I 1 x.toNatClampNeg) := ba_I (i := 1) rfl (by decide) (by decide) hx
theorem ms_1 {x v : Int32} (hx : vp_in x 25) : zsI (MH h b I J) 0 (b + 1) x v = some (MH h b (u2 I 1 x.toNatClampNeg v) J) := bs_I (i := 1) rfl (by decide) (by decide) hx
theorem ma_2 {x : Int32} (hx : vp_in x 25) : zaI (MH h b I J) 0 (b + 2) x = some (I 2 x.toNatClampNeg) := ba_I (i := 2) rfl (by decide) (by decide) hx
theorem ms_2 {x v : Int32} (hx : vp_in x 25) : zsI (MH h b I J) 0 (b + 2) x v = some (MH h b (u2 I 2 x.toNatClampNeg v) J) := bs_I (i := 2) rfl (by decide) (by decide) hx
theorem ma_3 {x : Int32} (hx : vp_in x 25) : zaI (MH h b I J) 0 (b + 3) x = some (I 3 x.toNatClampNeg) := ba_I (i := 3) rfl (by decide) (by decide) hx
theorem ms_3 {x v : Int32} (hx : vp_in x 25) : zsI (MH h b I J) 0 (b + 3) x v = some (MH h b (u2 I 3 x.toNatClampNeg v) J) := bs_I (i := 3) rfl (by decide) (by decide) hx
theorem ma_4 {x : Int32} (hx : vp_in x 25) : zaI (MH h b I J) 0 (b + 4) x = some (I 4 x.toNatClampNeg) := ba_I (i := 4) rfl (by decide) (by decide) hx
theorem ms_4 {x v : Int32} (hx : vp_in x 25) : zsI (MH h b I J) 0 (b + 4) x v = some (MH h b (u2 I 4 x.toNatClampNeg v) J) := bs_I (i := 4) rfl (by decide) (by decide) hx
theorem ma_5 {x : Int32} (hx : vp_in x 25) : zaI (MH h b I J) 0 (b + 5) x = some (I 5 x.toNatClampNeg) := ba_I (i := 5) rfl (by decide) (by decide) hx
theorem ms_5 {x v : Int32} (hx : vp_in x 25) : zsI (MH h b I J) 0 (b + 5) x v = some (MH h b (u2 I 5 x.toNatClampNeg v) J) := bs_I (i := 5) rfl (by decide) (by decide) hx
theorem ma_6 {x : Int32} (hx : vp_in x 6) : zaI (MH h b I J) 0 (b + 6) x = some (I 6 x.toNatClampNeg) := ba_I (i := 6) rfl (by decide) (by decide) hx
theorem ms_6 {x v : Int32} (hx : vp_in x 6) : zsI (MH h b I J) 0 (b + 6) x v = some (MH h b (u2 I 6 x.toNatClampNeg v) J) := bs_I (i := 6) rfl (by decide) (by decide) hx
theorem ma_7 {x : Int32} (hx : vp_in x 6) : zaI (MH h b I J) 0 (b + 7) x = some (I 7 x.toNatClampNeg) := ba_I (i := 7) rfl (by decide) (by decide) hx
theorem ms_7 {x v : Int32} (hx : vp_in x 6) : zsI (MH h b I J) 0 (b + 7) x v = some (MH h b (u2 I 7 x.toNatClampNeg v) J) := bs_I (i := 7) rfl (by decide) (by decide) hx
theorem ma_8 {x : Int32} (hx : vp_in x 6) : zaI (MH h b I J) 0 (b + 8) x = some (I 8 x.toNatClampNeg) := ba_I (i := 8) rfl (by decide) (by decide) hx
theorem ms_8 {x v : Int32} (hx : vp_in x 6) : zsI (MH h b I J) 0 (b + 8) x v = some (MH h b (u2 I 8 x.toNatClampNeg v) J) := bs_I (i := 8) rfl (by decide) (by decide) hx
theorem ma_9 {x : Int32} (hx : vp_in x 6) : zaJ (MH h b I J) 1 (b + 9) x = some (J 9 x.toNatClampNeg) := ba_J (i := 9) rfl (by decide) hx
theorem ms_9 {x : Int32} {v : Int64} (hx : vp_in x 6) : zsJ (MH h b I J) 1 (b + 9) x v = some (MH h b I (u2 J 9 x.toNatClampNeg v)) := bs_J (i := 9) rfl (by decide) hx
theorem ma_10 {x : Int32} (hx : vp_in x 31250) : zaJ (MH h b I J) 1 (b + 10) x = some (J 10 x.toNatClampNeg) := ba_J (i := 10) rfl (by decide) hx
theorem ms_10 {x : Int32} {v : Int64} (hx : vp_in x 31250) : zsJ (MH h b I J) 1 (b + 10) x v = some (MH h b I (u2 J 10 x.toNatClampNeg v)) := bs_J (i := 10) rfl (by decide) hx
theorem ma_11 {x : Int32} (hx : vp_in x 31250) : zaI (MH h b I J) 0 (b + 11) x = some (I 11 x.toNatClampNeg) := ba_I (i := 11) rfl (by decide) (by decide) hx
theorem ms_11 {x v : Int32} (hx : vp_in x 31250) : zsI (MH h b I J) 0 (b + 11) x v = some (MH h b (u2 I 11 x.toNatClampNeg v) J) := bs_I (i := 11) rfl (by decide) (by decide) hx
theorem ma_12 {x : Int32} (hx : vp_in x 187500) : zaJ (MH h b I J) 1 (b + 12) x = some (J 12 x.toNatClampNeg) := ba_J (i := 12) rfl (by decide) hx
theorem ms_12 {x : Int32} {v : Int64} (hx : vp_in x 187500) : zsJ (MH h b I J) 1 (b + 12) x v = some (MH h b I (u2 J 12 x.toNatClampNeg v)) := bs_J (i := 12) rfl (by decide) hx
theorem ma_13 {x : Int32} (hx : vp_in x 31250) : zaI (MH h b I J) 0 (b + 13) x = some (I 13 x.toNatClampNeg) := ba_I (i := 13) rfl (by decide) (by decide) hx
theorem ms_13 {x v : Int32} (hx : vp_in x 31250) : zsI (MH h b I J) 0 (b + 13) x v = some (MH h b (u2 I 13 x.toNatClampNeg v) J) := bs_I (i := 13) rfl (by decide) (by decide) hx
theorem ma_14 {x : Int32} (hx : vp_in x 6) : zaJ (MH h b I J) 1 (b + 14) x = some (J 14 x.toNatClampNeg) := ba_J (i := 14) rfl (by decide) hx
theorem ms_14 {x : Int32} {v : Int64} (hx : vp_in x 6) : zsJ (MH h b I J) 1 (b + 14) x v = some (MH h b I (u2 J 14 x.toNatClampNeg v)) := bs_J (i := 14) rfl (by decide) hx
theorem ma_15 {x : Int32} (hx : vp_in x 1250) : zaI (MH h b I J) 2 (b + 15) x = some (I 15 x.toNatClampNeg) := ba_I (i := 15) rfl (by decide) (by decide) hx
theorem ms_15 {x v : Int32} (hx : vp_in x 1250) : zsI (MH h b I J) 2 (b + 15) x v = some (MH h b (u2 I 15 x.toNatClampNeg v) J) := bs_I (i := 15) rfl (by decide) (by decide) hx
theorem ma_16 {x : Int32} (hx : vp_in x 1250) : zaI (MH h b I J) 2 (b + 16) x = some (I 16 x.toNatClampNeg) := ba_I (i := 16) rfl (by decide) (by decide) hx
theorem ms_16 {x v : Int32} (hx : vp_in x 1250) : zsI (MH h b I J) 2 (b + 16) x v = some (MH h b (u2 I 16 x.toNatClampNeg v) J) := bs_I (i := 16) rfl (by decide) (by decide) hx
theorem ma_17 {x : Int32} (hx : vp_in x 25) : zaI (MH h b I J) 0 (b + 17) x = some (I 17 x.toNatClampNeg) := ba_I (i := 17) rfl (by decide) (by decide) hx
theorem ms_17 {x v : Int32} (hx : vp_in x 25) : zsI (MH h b I J) 0 (b + 17) x v = some (MH h b (u2 I 17 x.toNatClampNeg v) J) := bs_I (i := 17) rfl (by decide) (by decide) hx
theorem ma_18 {x : Int32} (hx : vp_in x 25) : zaI (MH h b I J) 0 (b + 18) x = some (I 18 x.toNatClampNeg) := ba_I (i := 18) rfl (by decide) (by decide) hx
theorem ms_18 {x v : Int32} (hx : vp_in x 25) : zsI (MH h b I J) 0 (b + 18) x v = some (MH h b (u2 I 18 x.toNatClampNeg v) J) := bs_I (i := 18) rfl (by decide) (by decide) hx
theorem ma_19 {x : Int32} (hx : vp_in x 25) : zaI (MH h b I J) 0 (b + 19) x = some (I 19 x.toNatClampNeg) := ba_I (i := 19) rfl (by decide) (by decide) hx
theorem ms_19 {x v : Int32} (hx : vp_in x 25) : zsI (MH h b I J) 0 (b + 19) x v = some (MH h b (u2 I 19 x.toNatClampNeg v) J) := bs_I (i := 19) rfl (by decide) (by decide) hx
end MBLOCK
