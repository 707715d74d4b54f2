/-! the state at the start; what is told keeps the bounds; the reference made -/
theorem s_ground_ok {a : ast} (h : aOK a) {p l : Int} : aOK (s_ground a p l).2 := by
  have hn := nn_r h.1
  unfold s_ground
  split
  · rename_i z
    exact forg_ok h (setC_ok h.1 (by omega) (by omega) ⟨by omega, by omega, by omega⟩)
  · exact h
theorem s_fixed_ok {a : ast} (h : aOK a) {p l : Int} : aOK (s_fixed a p l).2 := by
  have hn := nn_r h.1
  have hm := h.1.2.1
  unfold s_fixed
  split
  · rename_i z
    exact forg_ok h (setC_ok h.1 (by omega) (by omega) ⟨by omega, by omega, by omega⟩)
  · exact h
theorem s_prices_ok {a : ast} (h : aOK a) {p x y : Int} : aOK (s_prices a p x y).2 := by
  have hn := nn_r h.1
  unfold s_prices
  split
  · rename_i z
    exact forg_ok h (setC_ok (setC_ok h.1 (by omega) (by omega) ⟨by omega, by omega, by omega⟩) (by omega) (by omega) ⟨by omega, by omega, by omega⟩)
  · exact h
theorem s_slopes_ok {a : ast} (h : aOK a) {x y z : Int} : aOK (s_slopes a x y z).2 := by
  unfold s_slopes
  split
  · rename_i w
    obtain ⟨c0, c1, c7, c8, c9, c10, cp, ck, cd⟩ := h.1
    exact forg_ok h ⟨c0, c1, w.1, w.2.1, w.2.2, c10, cp, ck, cd⟩
  · exact h
theorem s_span_ok {a : ast} (h : aOK a) {x y kd pr : Int} : aOK (s_span a x y kd pr).2 := by
  unfold s_span
  split
  · rename_i w
    exact forg_ok h (addS_ok h.1 w.1 w.2)
  · exact h
theorem s_drop_ok {a : ast} (h : aOK a) {k : Int} : aOK (s_drop a k).2 := by
  unfold s_drop
  split
  · rename_i w
    exact forg_ok h (dropS_ok h.1 (by omega))
  · exact h
theorem s_speed_ok {a : ast} (h : aOK a) {v : Int} : aOK (s_speed a v).2 := by
  unfold s_speed
  split
  · rename_i w
    obtain ⟨h1, h2, h3, h4⟩ := h
    refine ⟨h1, h2, fun i a1 a2 => ?_, h4⟩
    show 0 ≤ (if i = 3 then v else a.2.1 i) ∧ (if i = 3 then v else a.2.1 i) ≤ 1000
    by_cases e : i = 3
    · rw [if_pos e]; exact w
    · rw [if_neg e]; exact h3 i a1 a2
  · exact h
theorem s_lorry_ok {a : ast} (h : aOK a) {x y z w : Int} : aOK (s_lorry a x y z w).2 := by
  unfold s_lorry
  split
  · rename_i q
    obtain ⟨h1, h2, h3, h4⟩ := h
    refine ⟨h1, h2, fun i a1 a2 => ?_, h4⟩
    show 0 ≤ (if i = 7 then w else if i = 6 then z else if i = 5 then y else if i = 4 then x else a.2.1 i) ∧ (if i = 7 then w else if i = 6 then z else if i = 5 then y else if i = 4 then x else a.2.1 i) ≤ 1000
    by_cases e : i = 7
    · rw [if_pos e]; exact q.2.2
    rw [if_neg e]
    by_cases e : i = 6
    · rw [if_pos e]; exact q.2.1
    rw [if_neg e]
    by_cases e : i = 5
    · rw [if_pos e]; exact q.1.2
    rw [if_neg e]
    by_cases e : i = 4
    · rw [if_pos e]; exact q.1.1
    rw [if_neg e]; exact h3 i a1 a2
  · exact h
def c0 (n m : Int) : cfg := (fun i => if i = 0 then n else if i = 1 then m else if i = 7 then 2 else if i = 8 then 1 else 0, fun i _ => if i = 2 ∨ i = 3 then 1 else if i = 4 ∨ i = 5 then -1 else 0)
def a0 (n m : Int) : ast := (c0 n m, fun i => if i = 4 then 80 else if i = 5 then 50 else if i = 6 then 10 else if i = 7 then 5 else 0, fun _ _ => 0)
def clN (x : Int) : Int := if 2 ≤ x then (if x ≤ 24 then x else 24) else 2
def clM (x : Int) : Int := if 1 ≤ x then (if x ≤ 24 then x else 24) else 1
theorem clN_r (x : Int) : 2 ≤ clN x ∧ clN x ≤ 24 := by unfold clN; split <;> (try split) <;> omega
theorem clM_r (x : Int) : 1 ≤ clM x ∧ clM x ≤ 24 := by unfold clM; split <;> (try split) <;> omega
theorem a0_ok {n m : Int} (hn : 2 ≤ n ∧ n ≤ 24) (hm : 1 ≤ m ∧ m ≤ 24) : aOK (a0 n m) := by
  refine ⟨⟨hn, hm, ?_, ?_, ?_, ?_, fun p hp => ?_, fun k hk => ?_, fun j k hj => ?_⟩, Or.inl rfl, fun i a1 a2 => ?_, fun p => ⟨⟨Int.le_refl 0, by show (0 : Int) ≤ 1000; omega⟩, fun _ => rfl⟩⟩
  · exact ⟨by show (1 : Int) ≤ 2; omega, by show (2 : Int) ≤ 24; omega⟩
  · exact ⟨by show (0 : Int) ≤ 1; omega, by show (1 : Int) ≤ 48; omega⟩
  · exact ⟨by show (0 : Int) ≤ 0; omega, by show (0 : Int) ≤ 2; omega⟩
  · exact ⟨by show (0 : Int) ≤ 0; omega, by show (0 : Int) ≤ 6; omega⟩
  · show ((0 : Int) ≤ 0 ∧ (0 : Int) ≤ m) ∧ ((0 : Int) ≤ 1 ∧ (1 : Int) ≤ 1000000) ∧ ((0 : Int) ≤ 1 ∧ (1 : Int) ≤ 1000000) ∧ (-1 ≤ (-1 : Int) ∧ (-1 : Int) ≤ m) ∧ (-1 ≤ (-1 : Int) ∧ (-1 : Int) ≤ m)
    omega
  · exact absurd (show (k : Int) < 0 from hk) (by omega)
  · exact absurd (show (j : Int) < 0 from hj) (by omega)
  · show 0 ≤ (if i = 4 then (80 : Int) else if i = 5 then 50 else if i = 6 then 10 else if i = 7 then 5 else 0) ∧ (if i = 4 then (80 : Int) else if i = 5 then 50 else if i = 6 then 10 else if i = 7 then 5 else 0) ≤ 1000
    split
    · omega
    · split
      · omega
      · split
        · omega
        · split <;> omega
/-! a block that grows -/
def gL (g : Nat → Option zE) (b : Nat) (cs : List zE) : zH := (fun q => if b ≤ q ∧ q < b + cs.length then cs[q - b]? else g q, b + cs.length)
section GROW
variable {g : Nat → Option zE} {b : Nat} {cs : List zE}
theorem gL_at {i : Nat} (hi : i < cs.length) : (gL g b cs).1 (b + i) = cs[i]? := by
  show (if b ≤ b + i ∧ b + i < b + cs.length then cs[b + i - b]? else g (b + i)) = _
  rw [if_pos (by omega), show b + i - b = i by omega]
theorem gL_push {e : zE} : z_push (gL g b cs) e = gL g b (cs ++ [e]) := by
  refine bh_ext (fun q => ?_) (by show b + cs.length + 1 = b + (cs ++ [e]).length; rw [List.length_append]; rfl)
  show (if q = b + cs.length then some e else if b ≤ q ∧ q < b + cs.length then cs[q - b]? else g q) = (if b ≤ q ∧ q < b + (cs ++ [e]).length then (cs ++ [e])[q - b]? else g q)
  rw [List.length_append, show [e].length = 1 from rfl]
  by_cases c1 : q = b + cs.length
  · subst c1
    rw [if_pos rfl, if_pos (by omega), show b + cs.length - b = cs.length by omega, List.getElem?_append_right (Nat.le_refl _), Nat.sub_self]; rfl
  · rw [if_neg c1]
    by_cases c2 : b ≤ q ∧ q < b + cs.length
    · rw [if_pos c2, if_pos (by omega), List.getElem?_append_left (by omega)]
    · rw [if_neg c2, if_neg (by omega)]
theorem gL_set {i : Nat} {e : zE} (hi : i < cs.length) : z_set (gL g b cs) (b + i) e = gL g b (cs.set i e) := by
  refine bh_ext (fun q => ?_) (by show b + cs.length = b + (cs.set i e).length; rw [List.length_set])
  show (if q = b + i then some e else if b ≤ q ∧ q < b + cs.length then cs[q - b]? else g q) = (if b ≤ q ∧ q < b + (cs.set i e).length then (cs.set i e)[q - b]? else g q)
  rw [List.length_set]
  by_cases c1 : q = b + i
  · subst c1
    rw [if_pos rfl, if_pos (by omega), show b + i - b = i by omega, List.getElem?_set_self hi]
  · rw [if_neg c1]
    by_cases c2 : b ≤ q ∧ q < b + cs.length
    · rw [if_pos c2, if_pos c2, List.getElem?_set_ne (by omega)]
    · rw [if_neg c2, if_neg c2]
theorem gL_p {i ci k : Nat} {fs : List Value} {v : Value} (cs' : List zE) (hi : cs[i]? = some (.inr (ci, fs))) (hk : k < fs.length) (he : cs.set i (.inr (ci, fs.set k v)) = cs') : zp (gL g b cs) (b + i) ci k v = some (gL g b cs') := by
  subst he
  have hl : i < cs.length := (List.getElem?_eq_some_iff.mp hi).1
  unfold zp
  rw [gL_at hl, hi]
  show (if ci = ci ∧ k < fs.length then some (z_set (gL g b cs) (b + i) (.inr (ci, fs.set k v))) else none) = _
  rw [if_pos ⟨rfl, hk⟩, gL_set hl]
theorem gL_p0 {ci k : Nat} {fs : List Value} {v : Value} (cs' : List zE) (hi : cs[0]? = some (.inr (ci, fs))) (hk : k < fs.length) (he : cs.set 0 (.inr (ci, fs.set k v)) = cs') : zp (gL g b cs) b ci k v = some (gL g b cs') := gL_p (i := 0) cs' hi hk he
theorem gL_nI {t m : Nat} {x : Int32} (len l2 : Nat) (cs' : List zE) (hl : cs.length = len) (h1 : ¬ x < 0) (h2 : x.toNatClampNeg = l2) (h3 : l2 ≤ m) (he : cs ++ [.inl (t, l2, .inl (fun _ => 0))] = cs') : znI (gL g b cs) t m x = some (b + len, gL g b cs') := by
  subst h2; subst hl; subst he
  unfold znI
  rw [if_pos ⟨h1, h3⟩, gL_push]; rfl
theorem gL_nJ {t m : Nat} {x : Int32} (len l2 : Nat) (cs' : List zE) (hl : cs.length = len) (h1 : ¬ x < 0) (h2 : x.toNatClampNeg = l2) (h3 : l2 ≤ m) (he : cs ++ [.inl (t, l2, .inr (.inl (fun _ => 0)))] = cs') : znJ (gL g b cs) t m x = some (b + len, gL g b cs') := by
  subst h2; subst hl; subst he
  unfold znJ
  rw [if_pos ⟨h1, h3⟩, gL_push]; rfl
theorem gL_nO {ci : Nat} {fs : List Value} (len : Nat) (cs' : List zE) (hl : cs.length = len) (he : cs ++ [.inr (ci, fs)] = cs') : znO (gL g b cs) ci fs = some (b + len, gL g b cs') := by
  subst hl; subst he
  unfold znO
  rw [gL_push]; rfl
/-- the block is a block of this layout -/
theorem gL_BH {n : Nat} {lay : Nat → zL} {σ : zS} (hl : cs.length = n) (h : ∀ i, i < n → cs[i]? = some (bcell b σ i (lay i))) : gL g b cs = BH (g, b + n) b n lay σ := by
  subst hl
  refine bh_ext (fun q => ?_) rfl
  show (if b ≤ q ∧ q < b + cs.length then cs[q - b]? else g q) = (if b ≤ q ∧ q < b + cs.length then some (bcell b σ (q - b) (lay (q - b))) else g q)
  by_cases c : b ≤ q ∧ q < b + cs.length
  · rw [if_pos c, if_pos c, h (q - b) (by omega)]
  · rw [if_neg c, if_neg c]
end GROW
