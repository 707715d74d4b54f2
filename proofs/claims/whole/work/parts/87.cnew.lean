/-! the class: a search is made -/
def IS0 (wd w : Nat) (tr : Bool) : Nat → Nat → Int32 := fun i k => if i = 0 then (if k = 2 then iI wd else if k = 3 then iI w else if k = 4 then b1 tr else 0) else 0
def JS0 (cu su : Int64) : Nat → Nat → Int64 := fun i k => if i = 0 then (if k = 5 then cu else if k = 6 then su else 0) else 0
section GROW2
variable {g : Nat → Option zE} {b : Nat} {cs : List zE}
theorem gL_one {h : zH} {e : zE} : z_push h e = gL h.1 h.2 [e] := by
  refine bh_ext (fun q => ?_) rfl
  show (if q = h.2 then some e else h.1 q) = (if h.2 ≤ q ∧ q < h.2 + 1 then [e][q - h.2]? else h.1 q)
  by_cases c : q = h.2
  · subst c; rw [if_pos rfl, if_pos (by omega), Nat.sub_self]; rfl
  · rw [if_neg c, if_neg (by omega)]
theorem gL_oI {a ci k : Nat} (h : a < b) : zgI (gL g b cs) a ci k = zgI (g, 0) a ci k := by
  have e : (gL g b cs).1 a = g a := if_neg (by omega)
  unfold zgI
  rw [e]
theorem gL_gI0 {ci k : Nat} {fs : List Value} {v : Int32} (hi : cs[0]? = some (.inr (ci, fs))) (hk : fs[k]? = some (.int v)) : zgI (gL g b cs) b ci k = some v := by
  have hl : 0 < cs.length := (List.getElem?_eq_some_iff.mp hi).1
  unfold zgI
  have e := gL_at (g := g) (b := b) hl
  rw [Nat.add_zero] at e
  rw [e, hi]
  show (if ci = ci then (match fs[k]? with | some (.int x) => some x | _ => none) else none) = _
  rw [if_pos rfl, hk]
theorem gL_nG {m1 m2 : Nat} {x z : Int32} (len l1 l2 : Nat) (hl : cs.length = len) (h1 : ¬ x < 0) (h2 : x.toNatClampNeg = l1) (h3 : l1 ≤ m1) (k1 : ¬ z < 0) (k2 : z.toNatClampNeg = l2) (k3 : l2 ≤ m2) : znG (gL g b cs) m1 m2 x z = some (b + len, gL g b (cs ++ (.inl (3, l1, .inr (.inr (.inr (.inr (fun j => if j < l1 then some (b + len + 1 + j) else none))))) :: List.replicate l1 (.inl (1, l2, .inr (.inl (fun _ => 0))))))) := by
  subst h2; subst k2; subst hl
  unfold znG
  rw [if_pos ⟨⟨h1, h3⟩, k1, k3⟩]
  congr 2
  refine bh_ext (fun q => ?_) ?_
  · show (if q = b + cs.length then some _ else if b + cs.length < q ∧ q < b + cs.length + 1 + x.toNatClampNeg then some _ else (if b ≤ q ∧ q < b + cs.length then cs[q - b]? else g q)) = (if b ≤ q ∧ q < b + (cs ++ _).length then (cs ++ _)[q - b]? else g q)
    rw [List.length_append, List.length_cons, List.length_replicate]
    by_cases c1 : q = b + cs.length
    · subst c1
      rw [if_pos rfl, if_pos (by omega), show b + cs.length - b = cs.length by omega, List.getElem?_append_right (Nat.le_refl _), Nat.sub_self]; rfl
    · rw [if_neg c1]
      by_cases c2 : b + cs.length < q ∧ q < b + cs.length + 1 + x.toNatClampNeg
      · rw [if_pos c2, if_pos (by omega), List.getElem?_append_right (by omega)]
        obtain ⟨k, hk⟩ : ∃ k, q - b - cs.length = k + 1 := ⟨q - b - cs.length - 1, by omega⟩
        rw [hk, List.getElem?_cons_succ, List.getElem?_replicate, if_pos (by omega)]
      · rw [if_neg c2]
        by_cases c3 : b ≤ q ∧ q < b + cs.length
        · rw [if_pos c3, if_pos (by omega), List.getElem?_append_left (by omega)]
        · rw [if_neg c3, if_neg (by omega)]
  · show b + cs.length + 1 + x.toNatClampNeg = b + (cs ++ _).length
    rw [List.length_append, List.length_cons, List.length_replicate]; omega
end GROW2
section CNEWS
variable {b : Nat} {x : cx} {I : Nat → Nat → Int32} {J : Nat → Nat → Int64} {c : cfg} {N : Nat}
theorem k_new1 (hN : 60 ≤ N) (hc : cOK c) (hC : CC I J x c) {g : Nat → Option zE} {s : Nat} (hs : b + 21 ≤ s) (hX : ∀ n, CH (g, n) b x I J = (g, n)) : f_Search_init N s (b + 1) (b + 7) (1 : Int32) (gL g s [.inr (8, df_Search)]) = some ((), SH (g, s + (nn c + 1 + 4)) s (nn c + 1, mm c + 1, 1, b) (IS0 (mm c + 1) 1 true) (JS0 1024 1)) := by
  have hm := mm_r hc
  have hn := nn_r hc
  have hr1 : ∀ n : Nat, zgI (g, n) (b + 1) 2 1 = some (iI (c.1 1)) := fun n => by rw [← hX n]; simp only [c_rd, hC.2.1.2.1]
  have hr0 : ∀ n : Nat, zgI (g, n) (b + 1) 2 0 = some (iI (c.1 0)) := fun n => by rw [← hX n]; simp only [c_rd, hC.2.1.1]
  have ewd : iI (c.1 1) + 1 = iI ((mm c + 1 : Nat) : Int) := by rw [iI_1, iI_add]; congr 1; omega
  have ekn : iI (c.1 0) + 1 = iI ((nn c + 1 : Nat) : Int) := by rw [iI_1, iI_add]; congr 1; omega
  have k3 : (3 : Int32) = iI ((3 : Nat) : Int) := by decide
  have ew : (1 : Int32) = iI ((1 : Nat) : Int) := by decide
  have b1' : (mm c + 1) * (mm c + 1) ≤ 25 * 25 := Nat.mul_le_mul (by omega) (by omega)
  have esz : iI ((mm c + 1 : Nat) : Int) * iI ((mm c + 1 : Nat) : Int) * iI ((1 : Nat) : Int) = iI (((mm c + 1) * (mm c + 1) * 1 : Nat) : Int) := by rw [iI_mul, iI_mul]; congr 1
  have esl : iI ((mm c + 1 : Nat) : Int) * iI ((1 : Nat) : Int) = iI (((mm c + 1) * 1 : Nat) : Int) := by rw [iI_mul]; congr 1
  have hnn : ∀ q : Nat, q ≤ 1000000 → ¬ iI (q : Int) < 0 ∧ (iI (q : Int)).toNatClampNeg = q := fun q hq => ⟨fun z => by have := (iI_lz (by omega) (by omega)).mp z; omega, by rw [iI_cl (by omega) (by omega)]; rfl⟩
  unfold f_Search_init df_Search
  rw [gL_p0 [.inr (8, [.null, .null, .int 0, .int 0, .int 0, .long 0, .long 0, .null, .null, .null, .int 0])] rfl (Nat.le_of_ble_eq_true rfl) rfl, Option.bind_some]
  rw [gL_p0 [.inr (8, [.ref (b + 1), .null, .int 0, .int 0, .int 0, .long 0, .long 0, .null, .null, .null, .int 0])] rfl (Nat.le_of_ble_eq_true rfl) rfl, Option.bind_some]
  rw [gL_p0 [.inr (8, [.ref (b + 1), .ref (b + 7), .int 0, .int 0, .int 0, .long 0, .long 0, .null, .null, .null, .int 0])] rfl (Nat.le_of_ble_eq_true rfl) rfl, Option.bind_some]
  rw [gL_p0 [.inr (8, [.ref (b + 1), .ref (b + 7), .int 0, .int 1, .int 0, .long 0, .long 0, .null, .null, .null, .int 0])] rfl (Nat.le_of_ble_eq_true rfl) rfl, Option.bind_some]
  rw [gL_oI (by omega), hr1, Option.bind_some, ewd]
  rw [gL_p0 [.inr (8, [.ref (b + 1), .ref (b + 7), .int (iI ((mm c + 1 : Nat) : Int)), .int 1, .int 0, .long 0, .long 0, .null, .null, .null, .int 0])] rfl (Nat.le_of_ble_eq_true rfl) rfl, Option.bind_some]
  rw [if_pos rfl]
  unfold f_Search_init_45
  unfold zpZ
  rw [if_pos (by decide), gL_p0 [.inr (8, [.ref (b + 1), .ref (b + 7), .int (iI ((mm c + 1 : Nat) : Int)), .int 1, .int 1, .long 0, .long 0, .null, .null, .null, .int 0])] rfl (Nat.le_of_ble_eq_true rfl) rfl, Option.bind_some]
  rw [gL_gI0 (fs := [.ref (b + 1), .ref (b + 7), .int (iI ((mm c + 1 : Nat) : Int)), .int 1, .int 1, .long 0, .long 0, .null, .null, .null, .int 0]) (v := 1) rfl rfl, Option.bind_some, if_neg (by decide)]
  unfold f_Search_init_63
  rw [gL_p0 [.inr (8, [.ref (b + 1), .ref (b + 7), .int (iI ((mm c + 1 : Nat) : Int)), .int 1, .int 1, .long 1024, .long 0, .null, .null, .null, .int 0])] rfl (Nat.le_of_ble_eq_true rfl) rfl, Option.bind_some]
  rw [gL_gI0 (fs := [.ref (b + 1), .ref (b + 7), .int (iI ((mm c + 1 : Nat) : Int)), .int 1, .int 1, .long 1024, .long 0, .null, .null, .null, .int 0]) (v := 1) rfl rfl, Option.bind_some, if_neg (by decide)]
  unfold f_Search_init_79
  rw [gL_p0 [.inr (8, [.ref (b + 1), .ref (b + 7), .int (iI ((mm c + 1 : Nat) : Int)), .int 1, .int 1, .long 1024, .long 1, .null, .null, .null, .int 0])] rfl (Nat.le_of_ble_eq_true rfl) rfl, Option.bind_some]
  rw [gL_gI0 (fs := [.ref (b + 1), .ref (b + 7), .int (iI ((mm c + 1 : Nat) : Int)), .int 1, .int 1, .long 1024, .long 1, .null, .null, .null, .int 0]) (v := 1) rfl rfl, Option.bind_some, if_neg (by decide), gL_oI (by omega), hr0, Option.bind_some, ekn]
  unfold f_Search_init_100
  rw [gL_gI0 (fs := [.ref (b + 1), .ref (b + 7), .int (iI ((mm c + 1 : Nat) : Int)), .int 1, .int 1, .long 1024, .long 1, .null, .null, .null, .int 0]) (v := iI ((mm c + 1 : Nat) : Int)) rfl rfl, Option.bind_some, Option.bind_some, ew, esz]
  rw [gL_nG 1 (nn c + 1) ((mm c + 1) * (mm c + 1) * 1) rfl (hnn _ (by omega)).1 (hnn _ (by omega)).2 (by omega) (hnn _ (by omega)).1 (hnn _ (by omega)).2 (by omega), Option.bind_some]
  rw [gL_p0 (.inr (8, [.ref (b + 1), .ref (b + 7), .int (iI ((mm c + 1 : Nat) : Int)), .int 1, .int 1, .long 1024, .long 1, .ref (s + 1), .null, .null, .int 0]) :: (.inl (3, nn c + 1, .inr (.inr (.inr (.inr (fun j => if j < nn c + 1 then some (s + 1 + 1 + j) else none))))) :: List.replicate (nn c + 1) (.inl (1, (mm c + 1) * (mm c + 1) * 1, .inr (.inl (fun _ => 0)))))) rfl (Nat.le_of_ble_eq_true rfl) rfl, Option.bind_some]
  rw [gL_gI0 (fs := [.ref (b + 1), .ref (b + 7), .int (iI ((mm c + 1 : Nat) : Int)), .int 1, .int 1, .long 1024, .long 1, .ref (s + 1), .null, .null, .int 0]) (v := iI ((mm c + 1 : Nat) : Int)) rfl rfl, Option.bind_some, esl]
  rw [gL_nJ (nn c + 1 + 2) ((mm c + 1) * 1) (.inr (8, [.ref (b + 1), .ref (b + 7), .int (iI ((mm c + 1 : Nat) : Int)), .int 1, .int 1, .long 1024, .long 1, .ref (s + 1), .null, .null, .int 0]) :: ((.inl (3, nn c + 1, .inr (.inr (.inr (.inr (fun j => if j < nn c + 1 then some (s + 1 + 1 + j) else none))))) :: List.replicate (nn c + 1) (.inl (1, (mm c + 1) * (mm c + 1) * 1, .inr (.inl (fun _ => 0))))) ++ [.inl (1, (mm c + 1) * 1, .inr (.inl (fun _ => 0)))])) (by simp) (hnn _ (by omega)).1 (hnn _ (by omega)).2 (by omega) rfl, Option.bind_some]
  rw [gL_p0 (.inr (8, [.ref (b + 1), .ref (b + 7), .int (iI ((mm c + 1 : Nat) : Int)), .int 1, .int 1, .long 1024, .long 1, .ref (s + 1), .ref (s + (nn c + 1 + 2)), .null, .int 0]) :: ((.inl (3, nn c + 1, .inr (.inr (.inr (.inr (fun j => if j < nn c + 1 then some (s + 1 + 1 + j) else none))))) :: List.replicate (nn c + 1) (.inl (1, (mm c + 1) * (mm c + 1) * 1, .inr (.inl (fun _ => 0))))) ++ [.inl (1, (mm c + 1) * 1, .inr (.inl (fun _ => 0)))])) rfl (Nat.le_of_ble_eq_true rfl) rfl, Option.bind_some]
  rw [gL_nJ (nn c + 1 + 3) 1 (.inr (8, [.ref (b + 1), .ref (b + 7), .int (iI ((mm c + 1 : Nat) : Int)), .int 1, .int 1, .long 1024, .long 1, .ref (s + 1), .ref (s + (nn c + 1 + 2)), .null, .int 0]) :: ((.inl (3, nn c + 1, .inr (.inr (.inr (.inr (fun j => if j < nn c + 1 then some (s + 1 + 1 + j) else none))))) :: List.replicate (nn c + 1) (.inl (1, (mm c + 1) * (mm c + 1) * 1, .inr (.inl (fun _ => 0))))) ++ [.inl (1, (mm c + 1) * 1, .inr (.inl (fun _ => 0)))] ++ [.inl (1, 1, .inr (.inl (fun _ => 0)))])) (by simp) (hnn _ (by omega)).1 (hnn _ (by omega)).2 (by omega) rfl, Option.bind_some]
  rw [gL_p0 (.inr (8, [.ref (b + 1), .ref (b + 7), .int (iI ((mm c + 1 : Nat) : Int)), .int 1, .int 1, .long 1024, .long 1, .ref (s + 1), .ref (s + (nn c + 1 + 2)), .ref (s + (nn c + 1 + 3)), .int 0]) :: ((.inl (3, nn c + 1, .inr (.inr (.inr (.inr (fun j => if j < nn c + 1 then some (s + 1 + 1 + j) else none))))) :: List.replicate (nn c + 1) (.inl (1, (mm c + 1) * (mm c + 1) * 1, .inr (.inl (fun _ => 0))))) ++ [.inl (1, (mm c + 1) * 1, .inr (.inl (fun _ => 0)))] ++ [.inl (1, 1, .inr (.inl (fun _ => 0)))])) rfl (Nat.le_of_ble_eq_true rfl) rfl, Option.bind_some]
  rw [gL_BH (n := nn c + 1 + 4) (lay := layS (nn c + 1, mm c + 1, 1, b)) (σ := (IS0 (mm c + 1) 1 true, JS0 1024 1, rS (nn c + 1, mm c + 1, 1, b), oS (nn c + 1, mm c + 1, 1, b))) (by simp) (fun i hi => ?_)]
  by_cases i0 : i = 0
  · subst i0; rfl
  obtain ⟨i, rfl⟩ : ∃ q, i = q + 1 := ⟨i - 1, by omega⟩
  rw [List.getElem?_cons_succ]
  by_cases i1 : i = 0
  · subst i1
    have ef : (fun j => if j < nn c + 1 then some (s + 1 + 1 + j) else none) = (fun j => if j < nn c + 1 then some (s + (2 + j)) else none) := by
      funext j
      rw [show s + 1 + 1 + j = s + (2 + j) by omega]
    rw [ef]; rfl
  obtain ⟨i, rfl⟩ : ∃ q, i = q + 1 := ⟨i - 1, by omega⟩
  have hz : ∀ L : Nat, slen (nn c + 1, mm c + 1, 1, b) (i + 1 + 1) = L → bcell s (IS0 (mm c + 1) 1 true, JS0 1024 1, rS (nn c + 1, mm c + 1, 1, b), oS (nn c + 1, mm c + 1, 1, b)) (i + 1 + 1) (layS (nn c + 1, mm c + 1, 1, b) (i + 1 + 1)) = .inl (1, L, .inr (.inl (fun _ => 0))) := fun L hL => by
    rw [layS_a (by omega), hL]
    simp only [bcell, if_true]
    congr 5
  rw [List.append_assoc, List.cons_append, List.getElem?_cons_succ]
  by_cases i2 : i < nn c + 1
  · rw [List.getElem?_append_left (by simpa using i2), List.getElem?_replicate, if_pos i2, hz _ (by unfold slen; rw [if_pos (by show i + 1 + 1 < nn c + 1 + 2; omega)])]
  · rw [List.getElem?_append_right (by simpa using i2), List.length_replicate]
    by_cases i3 : i = nn c + 1
    · rw [i3, Nat.sub_self]
      rw [i3] at hz
      rw [hz ((mm c + 1) * 1) (by unfold slen; rw [if_neg (by show ¬ nn c + 1 + 1 + 1 < nn c + 1 + 2; omega), if_pos rfl])]; rfl
    · have i4 : i = nn c + 1 + 1 := by omega
      rw [i4, show nn c + 1 + 1 - (nn c + 1) = 1 by omega]
      rw [i4] at hz
      rw [hz 1 (by unfold slen; rw [if_neg (by show ¬ nn c + 1 + 1 + 1 + 1 < nn c + 1 + 2; omega), if_neg (by show ¬ nn c + 1 + 1 + 1 + 1 = nn c + 1 + 2; omega)])]; rfl
theorem k_new6 (hN : 60 ≤ N) (hc : cOK c) (hC : CC I J x c) {g : Nat → Option zE} {s : Nat} (hs : b + 21 ≤ s) (hX : ∀ n, CH (g, n) b x I J = (g, n)) : f_Search_init N s (b + 1) (b + 7) (6 : Int32) (gL g s [.inr (8, df_Search)]) = some ((), SH (g, s + (3 + 4)) s (3, mm c + 1, 6, b) (IS0 (mm c + 1) 6 false) (JS0 1 0)) := by
  have hm := mm_r hc
  have hn := nn_r hc
  have hr1 : ∀ n : Nat, zgI (g, n) (b + 1) 2 1 = some (iI (c.1 1)) := fun n => by rw [← hX n]; simp only [c_rd, hC.2.1.2.1]
  have hr0 : ∀ n : Nat, zgI (g, n) (b + 1) 2 0 = some (iI (c.1 0)) := fun n => by rw [← hX n]; simp only [c_rd, hC.2.1.1]
  have ewd : iI (c.1 1) + 1 = iI ((mm c + 1 : Nat) : Int) := by rw [iI_1, iI_add]; congr 1; omega
  have ekn : iI (c.1 0) + 1 = iI ((nn c + 1 : Nat) : Int) := by rw [iI_1, iI_add]; congr 1; omega
  have k3 : (3 : Int32) = iI ((3 : Nat) : Int) := by decide
  have ew : (6 : Int32) = iI ((6 : Nat) : Int) := by decide
  have b1' : (mm c + 1) * (mm c + 1) ≤ 25 * 25 := Nat.mul_le_mul (by omega) (by omega)
  have esz : iI ((mm c + 1 : Nat) : Int) * iI ((mm c + 1 : Nat) : Int) * iI ((6 : Nat) : Int) = iI (((mm c + 1) * (mm c + 1) * 6 : Nat) : Int) := by rw [iI_mul, iI_mul]; congr 1
  have esl : iI ((mm c + 1 : Nat) : Int) * iI ((6 : Nat) : Int) = iI (((mm c + 1) * 6 : Nat) : Int) := by rw [iI_mul]; congr 1
  have hnn : ∀ q : Nat, q ≤ 1000000 → ¬ iI (q : Int) < 0 ∧ (iI (q : Int)).toNatClampNeg = q := fun q hq => ⟨fun z => by have := (iI_lz (by omega) (by omega)).mp z; omega, by rw [iI_cl (by omega) (by omega)]; rfl⟩
  unfold f_Search_init df_Search
  rw [gL_p0 [.inr (8, [.null, .null, .int 0, .int 0, .int 0, .long 0, .long 0, .null, .null, .null, .int 0])] rfl (Nat.le_of_ble_eq_true rfl) rfl, Option.bind_some]
  rw [gL_p0 [.inr (8, [.ref (b + 1), .null, .int 0, .int 0, .int 0, .long 0, .long 0, .null, .null, .null, .int 0])] rfl (Nat.le_of_ble_eq_true rfl) rfl, Option.bind_some]
  rw [gL_p0 [.inr (8, [.ref (b + 1), .ref (b + 7), .int 0, .int 0, .int 0, .long 0, .long 0, .null, .null, .null, .int 0])] rfl (Nat.le_of_ble_eq_true rfl) rfl, Option.bind_some]
  rw [gL_p0 [.inr (8, [.ref (b + 1), .ref (b + 7), .int 0, .int 6, .int 0, .long 0, .long 0, .null, .null, .null, .int 0])] rfl (Nat.le_of_ble_eq_true rfl) rfl, Option.bind_some]
  rw [gL_oI (by omega), hr1, Option.bind_some, ewd]
  rw [gL_p0 [.inr (8, [.ref (b + 1), .ref (b + 7), .int (iI ((mm c + 1 : Nat) : Int)), .int 6, .int 0, .long 0, .long 0, .null, .null, .null, .int 0])] rfl (Nat.le_of_ble_eq_true rfl) rfl, Option.bind_some]
  rw [if_neg (by decide)]
  unfold f_Search_init_45
  unfold zpZ
  rw [if_pos (by decide), gL_p0 [.inr (8, [.ref (b + 1), .ref (b + 7), .int (iI ((mm c + 1 : Nat) : Int)), .int 6, .int 0, .long 0, .long 0, .null, .null, .null, .int 0])] rfl (Nat.le_of_ble_eq_true rfl) rfl, Option.bind_some]
  rw [gL_gI0 (fs := [.ref (b + 1), .ref (b + 7), .int (iI ((mm c + 1 : Nat) : Int)), .int 6, .int 0, .long 0, .long 0, .null, .null, .null, .int 0]) (v := 0) rfl rfl, Option.bind_some, if_pos rfl]
  unfold f_Search_init_63
  rw [gL_p0 [.inr (8, [.ref (b + 1), .ref (b + 7), .int (iI ((mm c + 1 : Nat) : Int)), .int 6, .int 0, .long 1, .long 0, .null, .null, .null, .int 0])] rfl (Nat.le_of_ble_eq_true rfl) rfl, Option.bind_some]
  rw [gL_gI0 (fs := [.ref (b + 1), .ref (b + 7), .int (iI ((mm c + 1 : Nat) : Int)), .int 6, .int 0, .long 1, .long 0, .null, .null, .null, .int 0]) (v := 0) rfl rfl, Option.bind_some, if_pos rfl]
  unfold f_Search_init_79
  rw [gL_p0 [.inr (8, [.ref (b + 1), .ref (b + 7), .int (iI ((mm c + 1 : Nat) : Int)), .int 6, .int 0, .long 1, .long 0, .null, .null, .null, .int 0])] rfl (Nat.le_of_ble_eq_true rfl) rfl, Option.bind_some]
  rw [gL_gI0 (fs := [.ref (b + 1), .ref (b + 7), .int (iI ((mm c + 1 : Nat) : Int)), .int 6, .int 0, .long 1, .long 0, .null, .null, .null, .int 0]) (v := 0) rfl rfl, Option.bind_some, if_pos rfl, k3]
  unfold f_Search_init_100
  rw [gL_gI0 (fs := [.ref (b + 1), .ref (b + 7), .int (iI ((mm c + 1 : Nat) : Int)), .int 6, .int 0, .long 1, .long 0, .null, .null, .null, .int 0]) (v := iI ((mm c + 1 : Nat) : Int)) rfl rfl, Option.bind_some, Option.bind_some, ew, esz]
  rw [gL_nG 1 (3) ((mm c + 1) * (mm c + 1) * 6) rfl (hnn _ (by omega)).1 (hnn _ (by omega)).2 (by omega) (hnn _ (by omega)).1 (hnn _ (by omega)).2 (by omega), Option.bind_some]
  rw [gL_p0 (.inr (8, [.ref (b + 1), .ref (b + 7), .int (iI ((mm c + 1 : Nat) : Int)), .int 6, .int 0, .long 1, .long 0, .ref (s + 1), .null, .null, .int 0]) :: (.inl (3, 3, .inr (.inr (.inr (.inr (fun j => if j < 3 then some (s + 1 + 1 + j) else none))))) :: List.replicate (3) (.inl (1, (mm c + 1) * (mm c + 1) * 6, .inr (.inl (fun _ => 0)))))) rfl (Nat.le_of_ble_eq_true rfl) rfl, Option.bind_some]
  rw [gL_gI0 (fs := [.ref (b + 1), .ref (b + 7), .int (iI ((mm c + 1 : Nat) : Int)), .int 6, .int 0, .long 1, .long 0, .ref (s + 1), .null, .null, .int 0]) (v := iI ((mm c + 1 : Nat) : Int)) rfl rfl, Option.bind_some, esl]
  rw [gL_nJ (3 + 2) ((mm c + 1) * 6) (.inr (8, [.ref (b + 1), .ref (b + 7), .int (iI ((mm c + 1 : Nat) : Int)), .int 6, .int 0, .long 1, .long 0, .ref (s + 1), .null, .null, .int 0]) :: ((.inl (3, 3, .inr (.inr (.inr (.inr (fun j => if j < 3 then some (s + 1 + 1 + j) else none))))) :: List.replicate (3) (.inl (1, (mm c + 1) * (mm c + 1) * 6, .inr (.inl (fun _ => 0))))) ++ [.inl (1, (mm c + 1) * 6, .inr (.inl (fun _ => 0)))])) (by simp) (hnn _ (by omega)).1 (hnn _ (by omega)).2 (by omega) rfl, Option.bind_some]
  rw [gL_p0 (.inr (8, [.ref (b + 1), .ref (b + 7), .int (iI ((mm c + 1 : Nat) : Int)), .int 6, .int 0, .long 1, .long 0, .ref (s + 1), .ref (s + (3 + 2)), .null, .int 0]) :: ((.inl (3, 3, .inr (.inr (.inr (.inr (fun j => if j < 3 then some (s + 1 + 1 + j) else none))))) :: List.replicate (3) (.inl (1, (mm c + 1) * (mm c + 1) * 6, .inr (.inl (fun _ => 0))))) ++ [.inl (1, (mm c + 1) * 6, .inr (.inl (fun _ => 0)))])) rfl (Nat.le_of_ble_eq_true rfl) rfl, Option.bind_some]
  rw [gL_nJ (3 + 3) 6 (.inr (8, [.ref (b + 1), .ref (b + 7), .int (iI ((mm c + 1 : Nat) : Int)), .int 6, .int 0, .long 1, .long 0, .ref (s + 1), .ref (s + (3 + 2)), .null, .int 0]) :: ((.inl (3, 3, .inr (.inr (.inr (.inr (fun j => if j < 3 then some (s + 1 + 1 + j) else none))))) :: List.replicate (3) (.inl (1, (mm c + 1) * (mm c + 1) * 6, .inr (.inl (fun _ => 0))))) ++ [.inl (1, (mm c + 1) * 6, .inr (.inl (fun _ => 0)))] ++ [.inl (1, 6, .inr (.inl (fun _ => 0)))])) (by simp) (hnn _ (by omega)).1 (hnn _ (by omega)).2 (by omega) rfl, Option.bind_some]
  rw [gL_p0 (.inr (8, [.ref (b + 1), .ref (b + 7), .int (iI ((mm c + 1 : Nat) : Int)), .int 6, .int 0, .long 1, .long 0, .ref (s + 1), .ref (s + (3 + 2)), .ref (s + (3 + 3)), .int 0]) :: ((.inl (3, 3, .inr (.inr (.inr (.inr (fun j => if j < 3 then some (s + 1 + 1 + j) else none))))) :: List.replicate (3) (.inl (1, (mm c + 1) * (mm c + 1) * 6, .inr (.inl (fun _ => 0))))) ++ [.inl (1, (mm c + 1) * 6, .inr (.inl (fun _ => 0)))] ++ [.inl (1, 6, .inr (.inl (fun _ => 0)))])) rfl (Nat.le_of_ble_eq_true rfl) rfl, Option.bind_some]
  rw [gL_BH (n := 3 + 4) (lay := layS (3, mm c + 1, 6, b)) (σ := (IS0 (mm c + 1) 6 false, JS0 1 0, rS (3, mm c + 1, 6, b), oS (3, mm c + 1, 6, b))) (by simp) (fun i hi => ?_)]
  by_cases i0 : i = 0
  · subst i0; rfl
  obtain ⟨i, rfl⟩ : ∃ q, i = q + 1 := ⟨i - 1, by omega⟩
  rw [List.getElem?_cons_succ]
  by_cases i1 : i = 0
  · subst i1
    have ef : (fun j => if j < 3 then some (s + 1 + 1 + j) else none) = (fun j => if j < 3 then some (s + (2 + j)) else none) := by
      funext j
      rw [show s + 1 + 1 + j = s + (2 + j) by omega]
    rw [ef]; rfl
  obtain ⟨i, rfl⟩ : ∃ q, i = q + 1 := ⟨i - 1, by omega⟩
  have hz : ∀ L : Nat, slen (3, mm c + 1, 6, b) (i + 1 + 1) = L → bcell s (IS0 (mm c + 1) 6 false, JS0 1 0, rS (3, mm c + 1, 6, b), oS (3, mm c + 1, 6, b)) (i + 1 + 1) (layS (3, mm c + 1, 6, b) (i + 1 + 1)) = .inl (1, L, .inr (.inl (fun _ => 0))) := fun L hL => by
    rw [layS_a (by omega), hL]
    simp only [bcell, if_true]
    congr 5
  rw [List.append_assoc, List.cons_append, List.getElem?_cons_succ]
  by_cases i2 : i < 3
  · rw [List.getElem?_append_left (by simpa using i2), List.getElem?_replicate, if_pos i2, hz _ (by unfold slen; rw [if_pos (by show i + 1 + 1 < 3 + 2; omega)])]
  · rw [List.getElem?_append_right (by simpa using i2), List.length_replicate]
    by_cases i3 : i = 3
    · rw [i3, Nat.sub_self]
      rw [i3] at hz
      rw [hz ((mm c + 1) * 6) (by unfold slen; rw [if_neg (by show ¬ 3 + 1 + 1 < 3 + 2; omega), if_pos rfl])]; rfl
    · have i4 : i = 3 + 1 := by omega
      rw [i4, show 3 + 1 - (3) = 1 by omega]
      rw [i4] at hz
      rw [hz 6 (by unfold slen; rw [if_neg (by show ¬ 3 + 1 + 1 + 1 < 3 + 2; omega), if_neg (by show ¬ 3 + 1 + 1 + 1 = 3 + 2; omega)])]; rfl
theorem stat1 {y : sx} (h : y.2.1 = mm c + 1) (h2 : y.2.2.1 = 1) : Stat (IS0 (mm c + 1) 1 true) (JS0 1024 1) y true 1024 1 := by
  refine ⟨?_, ?_, rfl, show (1024 : Int64) = iJ 1024 by decide, show (1 : Int64) = iJ 1 by decide⟩
  · rw [h]; rfl
  · rw [h2]; rfl
theorem stat6 {y : sx} (h : y.2.1 = mm c + 1) (h2 : y.2.2.1 = 6) : Stat (IS0 (mm c + 1) 6 false) (JS0 1 0) y false 1 0 := by
  refine ⟨?_, ?_, rfl, show (1 : Int64) = iJ 1 by decide, show (0 : Int64) = iJ 0 by decide⟩
  · rw [h]; rfl
  · rw [h2]; rfl
end CNEWS
