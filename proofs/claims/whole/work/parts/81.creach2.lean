/-! the class: Reach's advance, firstBarred -/
/-- a step of one slope, by its bit, leads from l to u -/
def Ed (c : cfg) (p : Nat) (H : Nat → Int64) (l u i : Nat) : Prop := (i : Int) = (u : Int) - l + 24 ∧ Wd c (H l) i ∧ c_fit c ((u : Int) - l) = true ∧ c_al c (p + 1) u = true
def EdB (c : cfg) (p : Nat) (H : Nat → Int64) (l z u i : Nat) : Prop := ∃ l0, l0 ≤ mm c ∧ (l0 < l ∨ (l0 = l ∧ u < z)) ∧ Ed c p H l0 u i
/-- the bits that are set before level l, and of level l before z; whether there is one -/
def PRF (c : cfg) (p : Nat) (H T : Nat → Int64) (r : Bool) (l z : Nat) : Prop := (∀ u i, u ≤ mm c → i < 64 → (bt (T u) i = true ↔ EdB c p H l z u i)) ∧ (r = true ↔ ∃ u i, u ≤ mm c ∧ i < 64 ∧ EdB c p H l z u i)
theorem PRF.congr {c : cfg} {p : Nat} {H T T' : Nat → Int64} {r : Bool} {l z l' z' : Nat} (h : PRF c p H T r l z) (e : ∀ u i, u ≤ mm c → i < 64 → (EdB c p H l z u i ↔ EdB c p H l' z' u i)) (eT : ∀ u, u ≤ mm c → T' u = T u) : PRF c p H T' r l' z' := by
  refine ⟨fun u i hu hi => by rw [eT u hu, h.1 u i hu hi, e u i hu hi], ?_⟩
  rw [h.2]
  exact ⟨fun ⟨u, i, a, d, q⟩ => ⟨u, i, a, d, (e u i a d).mp q⟩, fun ⟨u, i, a, d, q⟩ => ⟨u, i, a, d, (e u i a d).mpr q⟩⟩
theorem EdB_s {c : cfg} {p : Nat} {H : Nat → Int64} {l z u i : Nat} (hl : l ≤ mm c) : EdB c p H l (z + 1) u i ↔ EdB c p H l z u i ∨ (u = z ∧ Ed c p H l z i) := by
  constructor
  · rintro ⟨l0, a, hd, q⟩
    by_cases e : l0 = l ∧ u = z
    · obtain ⟨e1, e2⟩ := e
      subst e1; subst e2
      exact Or.inr ⟨rfl, q⟩
    · exact Or.inl ⟨l0, a, by clear q; omega, q⟩
  · rintro (⟨l0, a, hd, q⟩ | ⟨e, q⟩)
    · exact ⟨l0, a, by clear q; omega, q⟩
    · subst e; exact ⟨l, hl, Or.inr ⟨rfl, Nat.lt_succ_self _⟩, q⟩
theorem EdB_z {c : cfg} {p : Nat} {H : Nat → Int64} {l z z' u i : Nat} (h : z ≤ z') (hno : z ≤ u → u < z' → ¬ Ed c p H l u i) : EdB c p H l z u i ↔ EdB c p H l z' u i := by
  constructor
  · rintro ⟨l0, a, hd, q⟩
    exact ⟨l0, a, by clear q hno; omega, q⟩
  · rintro ⟨l0, a, hd, q⟩
    by_cases e : l0 = l ∧ z ≤ u ∧ u < z'
    · obtain ⟨e1, e2, e3⟩ := e
      subst e1
      exact absurd q (hno e2 e3)
    · exact ⟨l0, a, by clear q hno; omega, q⟩
theorem EdB_l {c : cfg} {p : Nat} {H : Nat → Int64} {l z u i : Nat} (hu : u ≤ mm c) (hl : l ≤ mm c) (hno : z ≤ u → ¬ Ed c p H l u i) : EdB c p H l z u i ↔ EdB c p H (l + 1) 0 u i := by
  constructor
  · rintro ⟨l0, a, hd, q⟩
    exact ⟨l0, a, by clear q hno; omega, q⟩
  · rintro ⟨l0, a, hd, q⟩
    by_cases e : l0 = l ∧ z ≤ u
    · obtain ⟨e1, e2⟩ := e
      subst e1
      exact absurd q (hno e2)
    · exact ⟨l0, a, by clear q hno; omega, q⟩
theorem PRF.no {c : cfg} {p : Nat} {H T : Nat → Int64} {r : Bool} {l z : Nat} (h : PRF c p H T r l z) (hl : l ≤ mm c) (hno : ∀ i, i < 64 → ¬ Ed c p H l z i) : PRF c p H T r l (z + 1) :=
  h.congr (fun u i _ hi => by
    rw [EdB_s hl]
    exact ⟨Or.inl, fun q => q.resolve_right (fun q => hno i hi q.2)⟩) (fun _ _ => rfl)
theorem PRF.hit {c : cfg} {p : Nat} {H T : Nat → Int64} {r : Bool} {l z n : Nat} (h : PRF c p H T r l z) (hl : l ≤ mm c) (hz : z ≤ mm c) (hn : n < 64) (he : Ed c p H l z n) : PRF c p H (fun u => if u = z then T z ||| z_sl 1 (iI n) else T u) true l (z + 1) := by
  have huq : ∀ i, Ed c p H l z i → i = n := fun i q => by
    have a1 := q.1
    have a2 := he.1
    clear q he h
    omega
  refine ⟨fun u i hu hi => ?_, ⟨fun _ => ⟨z, n, hz, hn, (EdB_s hl).mpr (Or.inr ⟨rfl, he⟩)⟩, fun _ => rfl⟩⟩
  show bt (if u = z then T z ||| z_sl 1 (iI n) else T u) i = true ↔ _
  rw [EdB_s hl]
  by_cases e : u = z
  · subst e
    rw [if_pos rfl, bt_or, bt_one hn, Bool.or_eq_true_iff, h.1 u i hu hi, decide_eq_true_iff]
    exact ⟨fun q => q.imp id (fun q => ⟨rfl, by rw [q]; exact he⟩), fun q => q.imp id (fun q => huq i q.2)⟩
  · rw [if_neg e, h.1 u i hu hi]
    exact ⟨Or.inl, fun q => q.resolve_right (fun q => e q.1)⟩
section CREACH2
variable {h : zH} {b : Nat} {x : cx} {I : Nat → Nat → Int32} {c : cfg} {N : Nat}
theorem adv_70 (hc : cOK c) {p l : Nat} (hp : p < nn c) (hl : l ≤ mm c) {H : Nat → Int64} {W : Int64} (hWd : ∀ i, i < 64 → (bt W i = true ↔ Wd c (H l) i)) {hi : Nat} (hhi : (hi : Int) = min (c.1 1) (l + c.1 7)) {rc : Nat → Int32 → Int32 → Int32 → zH → Option (Int32 × zH)} :
    ∀ (d fu z : Nat) (J : Nat → Nat → Int64) (r : Bool), z + d = hi + 1 → d < fu → CC I J x c → PRF c p H (J (tx x)) r l z →
    ∃ J' r', (∀ a q, a ≠ tx x → J' a q = J a q) ∧ PRF c p H (J' (tx x)) r' l (hi + 1) ∧ f_Reach_advance_70 N rc fu (b + 12) (iI p) (b1 r) (iI l) W (iI hi) (iI z) (CH h b x I J) = rc (b + 12) (iI p) (b1 r') (iI ((l + 1 : Nat) : Int)) (CH h b x I J') := by
  have hm := mm_r hc
  have el : iI (l : Int) + 1 = iI ((l + 1 : Nat) : Int) := by rw [iI_1, iI_add]; rfl
  intro d
  induction d with
  | zero =>
    intro fu z J r hd hf hC hR
    obtain ⟨fu, rfl⟩ : ∃ q, fu = q + 1 := ⟨fu - 1, by omega⟩
    refine ⟨J, r, fun _ _ _ => rfl, by rw [show hi + 1 = z by omega]; exact hR, ?_⟩
    show b_Reach_advance_70 N rc (f_Reach_advance_70 N rc fu) (b + 12) _ _ _ _ _ _ _ = _
    unfold b_Reach_advance_70
    rw [if_pos ((iI_lt (by omega) (by omega) (by omega) (by omega)).mpr (by omega)), el]
  | succ d ih =>
    intro fu z J r hd hf hC hR
    obtain ⟨fu, rfl⟩ : ∃ q, fu = q + 1 := ⟨fu - 1, by omega⟩
    have hz : z ≤ mm c := by omega
    have ez : iI (z : Int) + 1 = iI ((z + 1 : Nat) : Int) := by rw [iI_1, iI_add]; rfl
    obtain ⟨n, hn⟩ : ∃ n : Nat, (n : Int) = (z : Int) - l + 24 := ⟨z + 24 - l, by omega⟩
    have hn64 : n < 64 := by omega
    have eb : iI (z : Int) - iI (l : Int) + 24 = iI (n : Int) := by rw [show (24 : Int32) = iI 24 by decide, iI_sub, iI_add, hn]
    have hcs := c_canStep (N := N) (h := h) (b := b) hc hC hp hl hz
    have hstep : f_Reach_advance_70 N rc (fu + 1) (b + 12) (iI p) (b1 r) (iI l) W (iI hi) (iI z) (CH h b x I J) = (if bt W n = true ∧ c_fit c ((z : Int) - l) = true ∧ c_al c (p + 1) z = true then f_Reach_advance_70 N rc fu (b + 12) (iI p) (b1 true) (iI l) W (iI hi) (iI ((z + 1 : Nat) : Int)) (CH h b x I (u2 J (tx x) z (J (tx x) z ||| z_sl 1 (iI n)))) else f_Reach_advance_70 N rc fu (b + 12) (iI p) (b1 r) (iI l) W (iI hi) (iI ((z + 1 : Nat) : Int)) (CH h b x I J)) := by
      obtain ⟨hin, hcl⟩ := nat_in (p := z) (n := x.2.1 + 1) (by rw [hC.1.2]; omega) (by rw [hC.1.2]; omega)
      have h0 : lg_cmp (W &&& z_sl 1 (iI n)) 0 = 0 ↔ bt W n = false := by rw [lg_0, bt_hit hn64]
      show b_Reach_advance_70 N rc (f_Reach_advance_70 N rc fu) (b + 12) _ _ _ _ _ _ _ = _
      unfold b_Reach_advance_70 f_Reach_advance_123
      rw [if_neg (fun q => by have := (iI_lt (by omega) (by omega) (by omega) (by omega)).mp q; omega)]
      simp only [c_rd, tx_e, eb, h0, zck_t, hcs, Option.bind_some, b1_0, ca_b hx_or.2.1 hin, cs_b hx_or.2.1 hin, hcl, ez]
      by_cases c1 : bt W n = true
      · rw [if_neg (by rw [c1]; decide)]
        by_cases c2 : c_fit c ((z : Int) - l) = true
        · by_cases c3 : c_al c (p + 1) z = true
          · rw [if_neg (by rw [c2, c3]; decide), if_pos ⟨c1, c2, c3⟩]; rfl
          · rw [if_pos (by rw [(Bool.not_eq_true _).mp c3, Bool.and_false]), if_neg (fun q => c3 q.2.2)]
        · rw [if_pos (by rw [(Bool.not_eq_true _).mp c2, Bool.false_and]), if_neg (fun q => c2 q.2.1)]
      · rw [if_pos ((Bool.not_eq_true _).mp c1), if_neg (fun q => c1 q.1)]
    rw [hstep]
    by_cases hcond : bt W n = true ∧ c_fit c ((z : Int) - l) = true ∧ c_al c (p + 1) z = true
    · rw [if_pos hcond]
      have hE : Ed c p H l z n := ⟨hn, (hWd n hn64).mp hcond.1, hcond.2⟩
      have hC1 : CC I (u2 J (tx x) z (J (tx x) z ||| z_sl 1 (iI n))) x c := hC.sameJ (fun a q a1 a2 => u2_n (Or.inl (hx_ne a1 a2).2))
      obtain ⟨J', r', g1, g2, g3⟩ := ih fu (z + 1) (u2 J (tx x) z (J (tx x) z ||| z_sl 1 (iI n))) true (by omega) (by omega) hC1 ((hR.hit hl hz hn64 hE).congr (fun _ _ _ _ => Iff.rfl) (fun u _ => by
        show u2 J (tx x) z (J (tx x) z ||| z_sl 1 (iI n)) (tx x) u = if u = z then J (tx x) z ||| z_sl 1 (iI n) else J (tx x) u
        by_cases e : u = z
        · subst e; rw [u2_s, if_pos rfl]
        · rw [u2_n (Or.inr e), if_neg e]))
      exact ⟨J', r', fun a q ha => (g1 a q ha).trans (u2_n (Or.inl ha)), g2, g3⟩
    · rw [if_neg hcond]
      exact ih fu (z + 1) J r (by omega) (by omega) hC (hR.no hl (fun i hi' q => hcond (by
        have e : i = n := by have := q.1; clear q; omega
        subst e
        exact ⟨(hWd _ hn64).mpr q.2.1, q.2.2⟩)))
/-- Reach with its rows changed -/
abbrev swx (x : cx) : cx := (x.1, x.2.1, !x.2.2.1, x.2.2.2)
theorem swx_h : hx (swx x) = tx x := by
  unfold hx tx swx
  cases e : x.2.2.1 <;> simp [e]
theorem adv_12 (hc : cOK c) (hN : 60 ≤ N) {p : Nat} (hp : p < nn c) {H : Nat → Int64} :
    ∀ (d fu l : Nat) (J : Nat → Nat → Int64) (r : Bool), l + d = mm c + 1 → d < fu → CC I J x c → (∀ q, J (hx x) q = H q) → PRF c p H (J (tx x)) r l 0 →
    ∃ J' r', (∀ a q, a ≠ tx x → J' a q = J a q) ∧ PRF c p H (J' (tx x)) r' (mm c + 1) 0 ∧ f_Reach_advance_12 N fu (b + 12) (iI p) (b1 r) (iI l) (CH h b x I J) = some (b1 r', CH h b (swx x) I J') := by
  have hm := mm_r hc
  have h7 := hc.2.2.1
  intro d
  induction d with
  | zero =>
    intro fu l J r hd hf hC hH hR
    obtain ⟨fu, rfl⟩ : ∃ q, fu = q + 1 := ⟨fu - 1, by omega⟩
    refine ⟨J, r, fun _ _ _ => rfl, by rw [show mm c + 1 = l by omega]; exact hR, ?_⟩
    have hp1 : zp (CH h b x I J) (b + 12) 4 1 (.ref (b + tx x)) = some (BH h b 21 (layC x.1 x.2.1) (I, J, u2 (rC x.2.2.1) 12 1 (tx x), oC x)) := bp_R (i := 12) (k := 1) (tx x) rfl (by decide) rfl
    have hp2 : zp (BH h b 21 (layC x.1 x.2.1) (I, J, u2 (rC x.2.2.1) 12 1 (tx x), oC x)) (b + 12) 4 2 (.ref (b + hx x)) = some (BH h b 21 (layC x.1 x.2.1) (I, J, u2 (u2 (rC x.2.2.1) 12 1 (tx x)) 12 2 (hx x), oC x)) := bp_R (i := 12) (k := 2) (hx x) rfl (by decide) rfl
    have hp3 : u2 (u2 (rC x.2.2.1) 12 1 (tx x)) 12 2 (hx x) = rC (!x.2.2.1) := rC_sw x.2.2.1
    show b_Reach_advance_12 N (f_Reach_advance_12 N fu) (b + 12) _ _ _ _ = _
    unfold b_Reach_advance_12
    simp only [c_rd, hx_e, tx_e, Option.bind_some, hC.2.1.2.1, hp1, hp2, hp3]
    rw [if_pos ((iI_lt (by omega) (by omega) (by omega) (by omega)).mpr (by omega)), zrb_b]
    rfl
  | succ d ih =>
    intro fu l J r hd hf hC hH hR
    obtain ⟨fu, rfl⟩ : ∃ q, fu = q + 1 := ⟨fu - 1, by omega⟩
    have hl : l ≤ mm c := by omega
    obtain ⟨hi, hhi⟩ : ∃ hi : Nat, (hi : Int) = min (c.1 1) (l + c.1 7) := ⟨(min (c.1 1) (l + c.1 7)).toNat, by omega⟩
    obtain ⟨lo, hlo⟩ : ∃ lo : Nat, (lo : Int) = max 0 (l - c.1 7) := ⟨(max 0 (l - c.1 7)).toNat, by omega⟩
    obtain ⟨hin, hcl⟩ := nat_in (p := l) (n := x.2.1 + 1) (by rw [hC.1.2]; omega) (by rw [hC.1.2]; omega)
    have hno1 : ∀ u i, u < lo → ¬ Ed c p H l u i := fun u i hu q => by
      have := c_fit_r q.2.2.1
      clear q
      omega
    have hno2 : ∀ u i, hi + 1 ≤ u → u ≤ mm c → ¬ Ed c p H l u i := fun u i hu hu2 q => by
      have := c_fit_r q.2.2.1
      clear q
      omega
    have hR1 : PRF c p H (J (tx x)) r l lo := hR.congr (fun u i _ _ => EdB_z (Nat.zero_le _) (fun _ q => hno1 u i q)) (fun _ _ => rfl)
    have main : ∀ W, (∀ i, i < 64 → (bt W i = true ↔ Wd c (H l) i)) → ∃ J' r', (∀ a q, a ≠ tx x → J' a q = J a q) ∧ PRF c p H (J' (tx x)) r' (mm c + 1) 0 ∧ f_Reach_advance_48 N (f_Reach_advance_12 N fu) (b + 12) (iI p) (b1 r) (iI l) W (CH h b x I J) = some (b1 r', CH h b (swx x) I J') := by
      intro W hW
      obtain ⟨J1, r1, a1, a2, a3⟩ := adv_70 (h := h) (b := b) (N := N) (rc := f_Reach_advance_12 N fu) hc hp hl hW hhi (hi + 1 - lo) N lo J r (by omega) (by omega) hC hR1
      have hC1 : CC I J1 x c := hC.sameJ (fun a q q1 q2 => a1 a q (hx_ne q1 q2).2)
      obtain ⟨J2, r2, g1, g2, g3⟩ := ih fu (l + 1) J1 r1 (by omega) (by omega) hC1 (fun q => by rw [a1 _ q hx_or.2.2]; exact hH q) (a2.congr (fun u i hu _ => EdB_l hu hl (fun q => hno2 u i q hu)) (fun _ _ => rfl))
      refine ⟨J2, r2, fun a q ha => (g1 a q ha).trans (a1 a q ha), g2, ?_⟩
      unfold f_Reach_advance_48
      simp only [c_rd, Option.bind_some, zck_t, c_highest (N := N) (h := h) (b := b) hc hC (show 0 ≤ (l : Int) by omega) (show (l : Int) ≤ 24 by omega), c_lowest (N := N) (h := h) (b := b) hc hC (show 0 ≤ (l : Int) by omega) (show (l : Int) ≤ 24 by omega), ← hhi, ← hlo]
      rw [a3]; exact g3
    have hbody : ∀ W, f_Reach_widened N (b + 12) (H l) (CH h b x I J) = some (W, CH h b x I J) → f_Reach_advance_12 N (fu + 1) (b + 12) (iI p) (b1 r) (iI l) (CH h b x I J) = if H l = 0 then f_Reach_advance_48 N (f_Reach_advance_12 N fu) (b + 12) (iI p) (b1 r) (iI l) 0 (CH h b x I J) else f_Reach_advance_48 N (f_Reach_advance_12 N fu) (b + 12) (iI p) (b1 r) (iI l) W (CH h b x I J) := by
      intro W hW
      show b_Reach_advance_12 N (f_Reach_advance_12 N fu) (b + 12) _ _ _ _ = _
      unfold b_Reach_advance_12
      simp only [c_rd, hx_e, Option.bind_some, hC.2.1.2.1, ca_b hx_or.1 hin, hcl, hH, zck_t, hW, lg_0]
      rw [if_neg (fun q => by have := (iI_lt (by omega) (by omega) (by omega) (by omega)).mp q; omega)]
    obtain ⟨W, w1, w2⟩ := c_widened (N := N) (h := h) (b := b) hc hC hN (B := H l)
    rw [hbody W w2]
    by_cases e : H l = 0
    · rw [if_pos e]
      exact main 0 (fun i hi => by
        rw [bt_0]
        refine ⟨fun q => absurd q (by decide), fun ⟨j, _, q, _⟩ => ?_⟩
        rw [e, bt_0] at q
        exact absurd q (by decide))
    · rw [if_neg e]; exact main W w1
theorem c_advance {J : Nat → Nat → Int64} (hc : cOK c) (hC : CC I J x c) (hN : 60 ≤ N) {p : Nat} (hp : p < nn c) : ∃ J' r, (∀ a q, a ≠ tx x → J' a q = J a q) ∧ PRF c p (J (hx x)) (J' (tx x)) r (mm c + 1) 0 ∧ f_Reach_advance N (b + 12) (iI p) (CH h b x I J) = some (b1 r, CH h b (swx x) I J') := by
  have hm := mm_r hc
  have hx21 := hC.1.2
  obtain ⟨J1, f1, f2, f3⟩ := s_fillA (Hp := fun J => CH h b x I J) (X := b + tx x) (i := tx x) (m := x.2.1 + 1) (N := N) (u := (0 : Int64)) (J := J) (fun J => cl_b hx_or.2.1) (fun J v u hv => cs_b hx_or.2.1 hv) (by omega) (by omega)
  have hC1 : CC I J1 x c := hC.sameJ (fun a q q1 q2 => f2 a q (Or.inl (hx_ne q1 q2).2))
  have hE0 : ∀ u i, ¬ EdB c p (J (hx x)) 0 0 u i := fun u i ⟨l0, _, q, _⟩ => by
    rcases q with q | q
    · exact absurd q (Nat.not_lt_zero _)
    · exact absurd q.2 (Nat.not_lt_zero _)
  obtain ⟨J2, r, g1, g2, g3⟩ := adv_12 (h := h) (b := b) (N := N) hc hN hp (H := J (hx x)) (mm c + 1) N 0 J1 false (by omega) (by omega) hC1 (fun q => f2 _ q (Or.inl hx_or.2.2)) ⟨fun u i hu hi => by
    rw [f1 u (by omega), bt_0]
    exact ⟨fun q => absurd q (by decide), fun q => absurd q (hE0 u i)⟩, ⟨fun q => absurd q (by decide), fun ⟨u, i, _, _, q⟩ => absurd q (hE0 u i)⟩⟩
  refine ⟨J2, r, fun a q ha => (g1 a q ha).trans (f2 a q (Or.inl ha)), g2, ?_⟩
  rw [show iI ((0 : Nat) : Int) = (0 : Int32) from iI_0.symm] at g3
  unfold f_Reach_advance
  simp only [c_rd, tx_e, Option.bind_some]
  have f3' : f_Arrays_fill_AJJV N (b + tx x) 0 (CH h b x I J) = some ((), CH h b x I J1) := f3
  rw [f3', Option.bind_some]
  exact g3
/-- the bits are the slopes that lead there -/
def HB (c : cfg) (p : Nat) (T : Nat → Int64) : Prop := ∀ l i, l ≤ mm c → i < 64 → (bt (T l) i = true ↔ (p = 0 ∧ c_al c 0 l = true) ∨ (0 < p ∧ Fr c p l i))
theorem Ed_Fr (hc : cOK c) {p : Nat} {T : Nat → Int64} (hB : HB c p T) {u i : Nat} (hu : u ≤ mm c) (hi : i < 64) : EdB c p T (mm c + 1) 0 u i ↔ Fr c (p + 1) u i := by
  have hm := mm_r hc
  have h8 := hc.2.2.2.1
  constructor
  · rintro ⟨l0, a, -, e1, ⟨j, j1, j2, j3⟩, e3, e4⟩
    have ho : c_ok c (p + 1) u = true := by rw [c_ok_al (by omega) (by omega)]; exact e4
    rcases (hB l0 j a j1).mp j2 with ⟨q1, q2⟩ | ⟨q1, q2⟩
    · subst q1
      exact ⟨l0, 49, (u : Int) - l0, ⟨by rw [c_ok_al (by omega) (by omega)]; exact q2, rfl⟩, c_fol_fit.mpr ⟨e3, Or.inl rfl⟩, by omega, e1, ho⟩
    · exact ⟨l0, j, (u : Int) - l0, q2, c_fol_fit.mpr ⟨e3, Or.inr (by omega)⟩, by omega, e1, ho⟩
  · rintro ⟨l0, g0, s, hf, hfo, e1, e2, ho⟩
    have hr := hf.r hc
    obtain ⟨hft, hch⟩ := c_fol_fit.mp hfo
    obtain ⟨l, hl⟩ : ∃ l : Nat, (l : Int) = l0 := ⟨l0.toNat, by omega⟩
    subst hl
    have hal : c_al c (p + 1) u = true := by rw [← c_ok_al (by omega) (by omega)]; exact ho
    refine ⟨l, by omega, Or.inl (by omega), by omega, ?_, by rw [show (u : Int) - l = s by omega]; exact hft, hal⟩
    by_cases hp : p = 0
    · subst hp
      refine ⟨i, hi, (hB l i (by omega) hi).mpr (Or.inl ⟨rfl, ?_⟩), by omega⟩
      rw [← c_ok_al (by omega) (by omega)]; exact hf.1
    · have hg := hr.2.2.2.2 (by omega)
      obtain ⟨j, hj⟩ : ∃ j : Nat, (j : Int) = g0 := ⟨g0.toNat, by omega⟩
      subst hj
      refine ⟨j, by omega, (hB l j (by omega) (by omega)).mpr (Or.inr ⟨by omega, hf⟩), ?_⟩
      rcases hch with q | q <;> omega
theorem c_barred {J : Nat → Nat → Int64} (hc : cOK c) (hC : CC I J x c) (hN : 60 ≤ N) : ∃ J' sw z, (∀ a q, a ≠ 13 → a ≠ 14 → J' a q = J a q) ∧ Bar c z ∧ (-1 ≤ z ∧ z ≤ 24) ∧ f_Reach_firstBarred N (b + 12) (CH h b x I J) = some (iI z, CH h b (x.1, x.2.1, sw, x.2.2.2) I J') := by
  have hm := mm_r hc
  have hn := nn_r hc
  have loop : ∀ (d fu p : Nat) (x : cx) (J : Nat → Nat → Int64), p + d = nn c → d < fu → CC I J x c → HB c p (J (hx x)) → (∀ q, q ≤ p → ∃ l g, Fr c q l g) → ∃ J' sw z, (∀ a q, a ≠ 13 → a ≠ 14 → J' a q = J a q) ∧ Bar c z ∧ (-1 ≤ z ∧ z ≤ 24) ∧ f_Reach_firstBarred_11 N fu (b + 12) (iI p) (CH h b x I J) = some (iI z, CH h b (x.1, x.2.1, sw, x.2.2.2) I J') := by
    intro d
    induction d with
    | zero =>
      intro fu p x J hd hf hC hB hall
      obtain ⟨fu, rfl⟩ : ∃ q, fu = q + 1 := ⟨fu - 1, by omega⟩
      refine ⟨J, x.2.2.1, -1, fun _ _ _ _ => rfl, Or.inl ⟨rfl, fun q hq => hall q (by omega)⟩, by omega, ?_⟩
      show b_Reach_firstBarred_11 N (f_Reach_firstBarred_11 N fu) (b + 12) _ _ = _
      unfold b_Reach_firstBarred_11
      simp only [c_rd, Option.bind_some, hC.2.1.1]
      rw [if_pos ((iI_le (by omega) (by omega) (by omega) (by omega)).mpr (by omega)), iI_m1]
    | succ d ih =>
      intro fu p x J hd hf hC hB hall
      obtain ⟨fu, rfl⟩ : ∃ q, fu = q + 1 := ⟨fu - 1, by omega⟩
      obtain ⟨J1, r, a1, a2, a3⟩ := c_advance (N := N) (h := h) (b := b) hc hC hN (p := p) (by omega)
      have ep : iI (p : Int) + 1 = iI ((p + 1 : Nat) : Int) := by rw [iI_1, iI_add]; rfl
      have hbody : f_Reach_firstBarred_11 N (fu + 1) (b + 12) (iI p) (CH h b x I J) = if r = false then some (iI ((p + 1 : Nat) : Int), CH h b (swx x) I J1) else f_Reach_firstBarred_11 N fu (b + 12) (iI ((p + 1 : Nat) : Int)) (CH h b (swx x) I J1) := by
        show b_Reach_firstBarred_11 N (f_Reach_firstBarred_11 N fu) (b + 12) _ _ = _
        unfold b_Reach_firstBarred_11
        simp only [c_rd, Option.bind_some, hC.2.1.1, zck_t, a3, b1_0, ep]
        rw [if_neg (fun q => by have := (iI_le (by omega) (by omega) (by omega) (by omega)).mp q; omega)]
      have hrF : r = true ↔ ∃ l g, Fr c (p + 1) l g := by
        rw [a2.2]
        constructor
        · rintro ⟨u, i, hu, hi, q⟩
          exact ⟨u, i, (Ed_Fr hc hB hu hi).mp q⟩
        · rintro ⟨l, g, q⟩
          have hr := q.r hc
          obtain ⟨u, hu⟩ : ∃ u : Nat, (u : Int) = l := ⟨l.toNat, by omega⟩
          obtain ⟨i, hi⟩ : ∃ i : Nat, (i : Int) = g := ⟨g.toNat, by omega⟩
          subst hu; subst hi
          exact ⟨u, i, by omega, by omega, (Ed_Fr hc hB (by omega) (by omega)).mpr q⟩
      have hS : ∀ a q, a ≠ 13 → a ≠ 14 → J1 a q = J a q := fun a q q1 q2 => a1 a q (hx_ne q1 q2).2
      rw [hbody]
      by_cases hr : r = true
      · rw [if_neg (by rw [hr]; decide)]
        have hC1 : CC I J1 (swx x) c := hC.same ⟨rfl, rfl⟩ (fun _ _ _ _ => rfl) (fun q => hS 11 q (by decide) (by decide))
        have hF := hrF.mp hr
        obtain ⟨J2, sw, z, g1, g2, g3, g4⟩ := ih fu (p + 1) (swx x) J1 (by omega) (by omega) hC1 (fun l i hl hi => by
          rw [swx_h, a2.1 l i hl hi, Ed_Fr hc hB hl hi]
          exact ⟨fun q => Or.inr ⟨Nat.succ_pos _, q⟩, fun q => q.elim (fun q => absurd q.1 (Nat.succ_ne_zero _)) (fun q => q.2)⟩) (fun q hq => by
          by_cases e : q = p + 1
          · subst e; exact hF
          · exact hall q (by clear hrF hF; omega))
        exact ⟨J2, sw, z, fun a q q1 q2 => (g1 a q q1 q2).trans (hS a q q1 q2), g2, g3, g4⟩
      · have hnF : ∀ l g, ¬ Fr c (p + 1) l g := fun l g q => hr (hrF.mpr ⟨l, g, q⟩)
        clear hrF
        rw [if_pos ((Bool.not_eq_true _).mp hr)]
        exact ⟨J1, !x.2.2.1, ((p + 1 : Nat) : Int), hS, Or.inr ⟨p + 1, rfl, by omega, hnF, fun q hq => hall q (by omega)⟩, by omega, rfl⟩
  obtain ⟨J1, r, a1, a2, a3, a4⟩ := c_start (N := N) (h := h) (b := b) hc hC hN
  have hS : ∀ a q, a ≠ 13 → a ≠ 14 → J1 a q = J a q := fun a q q1 q2 => a1 a q (hx_ne q1 q2).1
  have hC1 : CC I J1 x c := hC.sameJ hS
  have hbody : f_Reach_firstBarred N (b + 12) (CH h b x I J) = if r = false then some (0, CH h b x I J1) else f_Reach_firstBarred_11 N N (b + 12) (0 : Int32) (CH h b x I J1) := by
    unfold f_Reach_firstBarred
    simp only [c_rd, zck_t, a4, Option.bind_some, b1_0]
  have hrF : r = true ↔ ∃ l g, Fr c 0 l g := by
    rw [a3]
    constructor
    · rintro ⟨l, hl, q⟩
      exact ⟨l, 49, by rw [c_ok_al (by omega) (by omega)]; exact q, rfl⟩
    · rintro ⟨l, g, q, -⟩
      have hr := c_ok_r q
      obtain ⟨u, hu⟩ : ∃ u : Nat, (u : Int) = l := ⟨l.toNat, by omega⟩
      subst hu
      exact ⟨u, by omega, by rw [← c_ok_al (by omega) (by omega)]; exact q⟩
  rw [hbody]
  by_cases hr : r = true
  · have hF := hrF.mp hr
    clear hrF a3
    rw [if_neg (by rw [hr]; decide)]
    obtain ⟨J2, sw, z, g1, g2, g3, g4⟩ := loop (nn c) N 0 x J1 (by omega) (by omega) hC1 (fun l i hl hi => by
      rw [a2 l hl]
      by_cases e : c_al c 0 l = true
      · rw [if_pos e, bt_m1 hi]
        exact ⟨fun _ => Or.inl ⟨rfl, e⟩, fun _ => rfl⟩
      · rw [if_neg e, bt_0]
        exact ⟨fun q => absurd q (by decide), fun q => q.elim (fun q => absurd q.2 e) (fun q => absurd q.1 (Nat.lt_irrefl _))⟩) (fun q hq => by
      have e : q = 0 := by clear hF; omega
      subst e; exact hF)
    rw [show iI ((0 : Nat) : Int) = (0 : Int32) from iI_0.symm] at g4
    exact ⟨J2, sw, z, fun a q q1 q2 => (g1 a q q1 q2).trans (hS a q q1 q2), g2, g3, g4⟩
  · have hnF : ∀ l g, ¬ Fr c 0 l g := fun l g q => hr (hrF.mpr ⟨l, g, q⟩)
    clear hrF a3
    rw [if_pos ((Bool.not_eq_true _).mp hr)]
    exact ⟨J1, x.2.2.1, 0, hS, Or.inr ⟨0, rfl, by omega, hnF, fun q hq => by omega⟩, by omega, by rw [iI_0]⟩
end CREACH2
