/-! the class: fillLeaving, gather, fillStates, fillLast -/
def LVr (JS : Nat → Nat → Int64) (y : sx) (c : cfg) (cu su : Int) (p l : Nat) : Prop := ∀ u : Nat, u ≤ mm c → RF JS (y.1 + 2) (u * y.2.2.1) y.2.2.1 (Lv c cu su p l ((u : Int) - l))
theorem LA.same {JS JS' : Nat → Nat → Int64} {y : sx} {c : cfg} {cu su : Int} {i q : Nat} (h : LA JS y c cu su i q) (e : ∀ k, JS' i k = JS i k) : LA JS' y c cu su i q := fun l f hl hf => (h l f hl hf).same (fun k _ _ => e k)
theorem LVr.same {JS JS' : Nat → Nat → Int64} {y : sx} {c : cfg} {cu su : Int} {p l : Nat} (h : LVr JS y c cu su p l) (e : ∀ k, JS' (y.1 + 2) k = JS (y.1 + 2) k) : LVr JS' y c cu su p l := fun u hu => (h u hu).same (fun k _ _ => e k)
theorem RF.single {J : Nat → Nat → Int64} {i f w : Nat} {v : Int} (hw : 1 ≤ w) (h : RF J i f w (fun _ => False)) : RF (u2 J i f (iJ v)) i f w (fun z => z = v) := by
  obtain ⟨L, h1, h2⟩ := h
  have hL : L = [] := by
    cases L with
    | nil => rfl
    | cons a t => exact (h2.2.2.1 a List.mem_cons_self).elim
  subst hL
  refine ⟨[v], fun k x hk => ?_, ⟨by simp, by simp; omega, fun z hz => by simpa using hz, fun z hz => Or.inl (by simpa using hz)⟩⟩
  by_cases e : k = 0
  · subst e
    have : (pd w [v])[0]? = some v := rfl
    rw [this] at hk
    cases hk
    rw [Nat.add_zero, u2_s]
  · rw [u2_n (Or.inr (by omega))]
    have hk' := (List.getElem?_eq_some_iff.mp hk).1
    rw [pd_len (by simp; omega)] at hk'
    have e1 : (pd w [v])[k]? = some (1152921504606846976 : Int) := by
      unfold pd
      rw [List.getElem?_append_right (by simp; omega), List.getElem?_replicate, if_pos (by simp; omega)]
    rw [e1] at hk
    cases hk
    refine h1 k _ ?_
    unfold pd
    rw [List.nil_append, List.getElem?_replicate, if_pos (by simp; omega)]
section CFILL
variable {h : zH} {s b : Nat} {y : sx} {x : cx} {I : Nat → Nat → Int32} {J : Nat → Nat → Int64} {c : cfg} {N : Nat} {IS : Nat → Nat → Int32} {tr : Bool} {cu su : Int}
theorem w_leave39 (hW : World h s b y x I J c) (hP : Par c y tr cu su) (hN : 60 ≤ N) {p l : Nat} (hp : p < nn c) (hl : l ≤ mm c) {hi : Nat} (hhi : (hi : Int) = min (c.1 1) (l + c.1 7)) :
    ∀ (d fu z : Nat) (JS : Nat → Nat → Int64), z + d = hi + 1 → d < fu → Stat IS JS y tr cu su → LA JS y c cu su (2 + slt tr (p + 1)) (p + 1) → (∀ k, c_at c k p → LA JS y c cu su (2 + slE tr (c.2 7 k).toNat) (c.2 7 k).toNat) → (∀ u : Nat, u ≤ mm c → RF JS (y.1 + 2) (u * y.2.2.1) y.2.2.1 (fun v => u < z ∧ Lv c cu su p l ((u : Int) - l) v)) →
    ∃ JS', (∀ u : Nat, u ≤ mm c → RF JS' (y.1 + 2) (u * y.2.2.1) y.2.2.1 (fun v => u < hi + 1 ∧ Lv c cu su p l ((u : Int) - l) v)) ∧ (∀ a q, a ≠ y.1 + 2 → JS' a q = JS a q) ∧ f_Search_fillLeaving_39 N fu s (iI p) (iI l) (iI (c_sp c p)) (iI hi) (iI z) (SH h s y IS JS) = some ((), SH h s y IS JS') := by
  have hc := hW.1.1
  have hm := mm_r hc
  have hn := nn_r hc
  have h7 := hc.2.2.1
  obtain ⟨hcu, hsu⟩ := hP.cs
  intro d
  induction d with
  | zero =>
    intro fu z JS hd hf hS hA hA2 hR
    obtain ⟨fu, rfl⟩ : ∃ q, fu = q + 1 := ⟨fu - 1, by omega⟩
    refine ⟨JS, fun u hu => by rw [show hi + 1 = z by omega]; exact hR u hu, fun _ _ _ => rfl, ?_⟩
    show b_Search_fillLeaving_39 N (f_Search_fillLeaving_39 N fu) s _ _ _ _ _ _ = _
    unfold b_Search_fillLeaving_39
    rw [if_pos ((iI_lt (by omega) (by omega) (by omega) (by omega)).mpr (by omega))]
  | succ d ih =>
    intro fu z JS hd hf hS hA hA2 hR
    obtain ⟨fu, rfl⟩ : ∃ q, fu = q + 1 := ⟨fu - 1, by omega⟩
    have ez : iI (z : Int) + 1 = iI ((z + 1 : Nat) : Int) := by rw [iI_1, iI_add]; rfl
    have hsf := w_slopeFits (N := N) (IS := IS) (JS := JS) hW (t := (z : Int) - l) (by omega) (by omega)
    by_cases hfit : c_fit c ((z : Int) - l) = true
    · have hR0 : RF JS (y.1 + 2) (z * y.2.2.1) y.2.2.1 (fun _ => False) := (hR z (by omega)).congr (fun v => ⟨fun q => by omega, fun q => q.elim⟩)
      obtain ⟨J1, a1, a2, a3⟩ := w_addStep (N := N) hW hS hP hN (p := p) (l := l) (u := z) hp hl (by omega) hfit hA hR0 (fun _ q => q.elim)
      have hS1 : Stat IS J1 y tr cu su := hS.same (fun k => a2 0 k (Or.inl (by omega)))
      obtain ⟨J2, d1, d2, d3⟩ := w_addSpan (N := N) hW hS1 hP hN (p := p) (l := l) (u := z) hp hl (by omega) hfit (fun k hk => (hA2 k hk).same (fun q => a2 _ q (Or.inl (by
        have hsl := (hP.sl (q := (c.2 7 k).toNat) (by have := (hc.2.2.2.2.2.2.2.1 k hk.1).1; omega)).2
        omega)))) a1 (fun v hv => Lv_bd hc hcu hsu hp (by omega) (by omega) (t := (z : Int) - l) ⟨hfit, Or.inl (hv.resolve_left (fun q => q))⟩)
      have hE : ∀ a q, (a ≠ y.1 + 2 ∨ q < z * y.2.2.1 ∨ z * y.2.2.1 + y.2.2.1 ≤ q) → J2 a q = JS a q := fun a q hq => (d2 a q hq).trans (a2 a q hq)
      obtain ⟨J3, g1, g2, g3⟩ := ih fu (z + 1) J2 (by omega) (by omega) (hS.same (fun k => hE 0 k (Or.inl (by omega)))) (hA.same (fun q => hE _ q (Or.inl (by
        have hsl := (hP.sl (q := p + 1) (by omega)).1
        omega)))) (fun k hk => (hA2 k hk).same (fun q => hE _ q (Or.inl (by
        have hsl := (hP.sl (q := (c.2 7 k).toNat) (by have := (hc.2.2.2.2.2.2.2.1 k hk.1).1; omega)).2
        omega)))) (fun u hu => by
        by_cases e : u = z
        · subst e
          refine d1.congr (fun v => ⟨fun q => ⟨by omega, hfit, ?_⟩, fun q => ?_⟩)
          · rcases q with (q | q) | q
            · exact q.elim
            · exact Or.inl q
            · exact Or.inr q
          · exact q.2.2.elim (fun z => Or.inl (Or.inr z)) Or.inr
        · refine ((hR u hu).same (fun q q1 q2 => hE _ q ?_)).congr (fun v => ⟨fun q => ⟨by omega, q.2⟩, fun q => ⟨by omega, q.2⟩⟩)
          have := row_ne (w := y.2.2.1) e
          omega)
      refine ⟨J3, g1, fun a q ha => (g2 a q ha).trans (hE a q (Or.inl ha)), ?_⟩
      show b_Search_fillLeaving_39 N (f_Search_fillLeaving_39 N fu) s _ _ _ _ _ _ = _
      unfold b_Search_fillLeaving_39 f_Search_fillLeaving_76
      rw [if_neg (fun q => by have := (iI_lt (by omega) (by omega) (by omega) (by omega)).mp q; omega)]
      simp only [s_rd, Option.bind_some, hW.2.1, w_rd hW, zck_t, iI_sub, hsf, hfit, a3, d3, ez]
      rw [if_neg (by decide)]
      exact g3
    · obtain ⟨J3, g1, g2, g3⟩ := ih fu (z + 1) JS (by omega) (by omega) hS hA hA2 (fun u hu => (hR u hu).congr (fun v => ⟨fun q => ⟨by omega, q.2⟩, fun q => ⟨by
        by_cases e : u = z
        · subst e; exact absurd q.2.1 hfit
        · omega, q.2⟩⟩))
      refine ⟨J3, g1, g2, ?_⟩
      show b_Search_fillLeaving_39 N (f_Search_fillLeaving_39 N fu) s _ _ _ _ _ _ = _
      unfold b_Search_fillLeaving_39 f_Search_fillLeaving_76
      rw [if_neg (fun q => by have := (iI_lt (by omega) (by omega) (by omega) (by omega)).mp q; omega)]
      simp only [s_rd, Option.bind_some, hW.2.1, w_rd hW, zck_t, iI_sub, hsf, (Bool.not_eq_true _).mp hfit, ez]
      rw [if_pos (by decide)]
      exact g3
theorem w_fillLeaving (hW : World h s b y x I J c) {JS : Nat → Nat → Int64} (hS : Stat IS JS y tr cu su) (hP : Par c y tr cu su) (hN : 4000 ≤ N) {p l : Nat} (hp : p < nn c) (hl : l ≤ mm c) (hA : LA JS y c cu su (2 + slt tr (p + 1)) (p + 1)) (hA2 : ∀ k, c_at c k p → LA JS y c cu su (2 + slE tr (c.2 7 k).toNat) (c.2 7 k).toNat) :
    ∃ JS', LVr JS' y c cu su p l ∧ (∀ a q, a ≠ y.1 + 2 → JS' a q = JS a q) ∧ f_Search_fillLeaving N s (iI p) (iI l) (SH h s y IS JS) = some ((), SH h s y IS JS') := by
  have hc := hW.1.1
  have hm := mm_r hc
  have hn := nn_r hc
  have h7 := hc.2.2.1
  obtain ⟨J1, f1, f2, f3⟩ := w_fill (IS := IS) (JS := JS) (N := N) hW hN (i := y.1 + 2) (by omega) (by omega)
  obtain ⟨hi, hhi⟩ : ∃ hi : Nat, (hi : Int) = min (c.1 1) (l + c.1 7) := ⟨(min (c.1 1) (l + c.1 7)).toNat, by omega⟩
  obtain ⟨lo, hlo⟩ : ∃ lo : Nat, (lo : Int) = max 0 (l - c.1 7) := ⟨(max 0 (l - c.1 7)).toNat, by omega⟩
  have hsl1 : slen y (y.1 + 2) = y.2.1 * y.2.2.1 := by unfold slen; rw [if_neg (by omega), if_pos rfl]
  have hwd := hW.2.2.1
  obtain ⟨J2, g1, g2, g3⟩ := w_leave39 (IS := IS) (N := N) hW hP (by omega) hp hl hhi (hi + 1 - lo) N lo J1 (by omega) (by omega) (hS.same (fun k => f2 0 k (Or.inl (by omega)))) (hA.same (fun q => f2 _ q (Or.inl (by
    have hsl := (hP.sl (q := p + 1) (by omega)).1
    omega)))) (fun k hk => (hA2 k hk).same (fun q => f2 _ q (Or.inl (by
    have hsl := (hP.sl (q := (c.2 7 k).toNat) (by have := (hc.2.2.2.2.2.2.2.1 k hk.1).1; omega)).2
    omega)))) (fun u hu => by
    refine (RF.nil (J := J1) (fun q q1 q2 => f1 q ?_)).congr (fun v => ⟨fun z => z.elim, fun z => ?_⟩)
    · rw [hsl1]
      have := row_in (a := u) (n := y.2.1) (w := y.2.2.1) (by omega)
      omega
    · have := c_fit_r z.2.1
      omega)
  refine ⟨J2, fun u hu => (g1 u hu).congr (fun v => ⟨fun z => z.2, fun z => ⟨?_, z⟩⟩), fun a q ha => (g2 a q ha).trans (f2 a q (Or.inl ha)), ?_⟩
  · have := c_fit_r z.1
    omega
  · unfold f_Search_fillLeaving
    simp only [s_rd, Option.bind_some, f3, hW.2.1, w_rd hW, zck_t, w_starting hW (show 60 ≤ N by omega) (show p ≤ nn c by omega), w_highest hW (show 0 ≤ (l : Int) by omega) (show (l : Int) ≤ 24 by omega), w_lowest hW (show 0 ≤ (l : Int) by omega) (show (l : Int) ≤ 24 by omega), ← hhi, ← hlo]
    exact g3
/-- the values behind a place by the levels next to it -/
def Ug (c : cfg) (cu su : Int) (p l : Nat) (fr to v : Int) : Prop := ∃ u : Nat, u ≤ mm c ∧ fr ≤ u ∧ (u : Int) ≤ to ∧ Lv c cu su p l ((u : Int) - l) v
theorem w_gather (hW : World h s b y x I J c) (hP : Par c y tr cu su) (hN : 60 ≤ N) {i f p l : Nat} (hi : 2 ≤ i) (hi2 : i < y.1 + 4) (hne : i ≠ y.1 + 2) (hf : f + y.2.2.1 ≤ slen y i) (hp : p < nn c) (hl : l ≤ mm c) {to : Int} (hto : to ≤ c.1 1) (hto2 : -100 ≤ to) :
    ∀ (d fu z : Nat) (JS : Nat → Nat → Int64) (S : Int → Prop), to + 1 - z ≤ d → z ≤ 100 → d < fu → Stat IS JS y tr cu su → LVr JS y c cu su p l → RF JS i f y.2.2.1 S → (∀ v, S v → 0 ≤ v ∧ v ≤ 100000000000000) →
    ∃ JS', RF JS' i f y.2.2.1 (fun v => S v ∨ Ug c cu su p l z to v) ∧ (∀ a q, (a ≠ i ∨ q < f ∨ f + y.2.2.1 ≤ q) → JS' a q = JS a q) ∧ f_Search_gather_3 N fu s (s + i) (iI f) (iI to) (iI z) (SH h s y IS JS) = some ((), SH h s y IS JS') := by
  have hc := hW.1.1
  have hm := mm_r hc
  have hwd := hW.2.2.1
  obtain ⟨hcu, hsu⟩ := hP.cs
  have hend : ∀ (fu z : Nat) (JS : Nat → Nat → Int64) (S : Int → Prop), to < z → z ≤ 100 → RF JS i f y.2.2.1 S → ∃ JS', RF JS' i f y.2.2.1 (fun v => S v ∨ Ug c cu su p l z to v) ∧ (∀ a q, (a ≠ i ∨ q < f ∨ f + y.2.2.1 ≤ q) → JS' a q = JS a q) ∧ f_Search_gather_3 N (fu + 1) s (s + i) (iI f) (iI to) (iI z) (SH h s y IS JS) = some ((), SH h s y IS JS') := by
    intro fu z JS S hz hz2 hR
    refine ⟨JS, hR.congr (fun v => ⟨Or.inl, fun q => q.resolve_right (fun ⟨u, _, u2, u3, _⟩ => by omega)⟩), fun _ _ _ => rfl, ?_⟩
    show b_Search_gather_3 N (f_Search_gather_3 N fu) s _ _ _ _ _ = _
    unfold b_Search_gather_3
    rw [if_pos ((iI_lt (by omega) (by omega) (by omega) (by omega)).mpr (by omega))]
  intro d
  induction d with
  | zero =>
    intro fu z JS S hd hz2 hf hS hV hR hb
    obtain ⟨fu, rfl⟩ : ∃ q, fu = q + 1 := ⟨fu - 1, by omega⟩
    exact hend fu z JS S (by omega) hz2 hR
  | succ d ih =>
    intro fu z JS S hd hz2 hfu hS hV hR hb
    obtain ⟨fu, rfl⟩ : ∃ q, fu = q + 1 := ⟨fu - 1, by omega⟩
    by_cases hz : to < z
    · exact hend fu z JS S hz hz2 hR
    · have hsl1 : slen y (y.1 + 2) = y.2.1 * y.2.2.1 := by unfold slen; rw [if_neg (by omega), if_pos rfl]
      obtain ⟨J1, a1, a2, a3⟩ := w_merge (N := N) (d := 0) hW hS hN (i := i) (i2 := y.1 + 2) (f := f) (f2 := z * y.2.2.1) hi hi2 (by omega) (by omega) (by omega) hf (by rw [hsl1]; exact row_in (by omega)) (by omega) (by omega) hR (hV z (by omega)) hb (fun v hv => Lv_bd hc hcu hsu hp (by omega) (by omega) hv)
      obtain ⟨J2, g1, g2, g3⟩ := ih fu (z + 1) J1 (fun v => S v ∨ Lv c cu su p l ((z : Int) - l) v) (by omega) (by omega) (by omega) (hS.same (fun k => a2 0 k (Or.inl (by omega)))) (hV.same (fun k => a2 _ k (Or.inl (by omega)))) (a1.congr (fun v => ⟨fun q => q.imp id (fun ⟨w, w1, w2⟩ => by rw [w2, Int.add_zero]; exact w1), fun q => q.imp id (fun w => ⟨v, w, by omega⟩)⟩)) (fun v hv => hv.elim (hb v) (fun q => Lv_bd hc hcu hsu hp (by omega) (by omega) q))
      refine ⟨J2, g1.congr (fun v => ⟨fun q => ?_, fun q => ?_⟩), fun a q hq => (g2 a q hq).trans (a2 a q hq), ?_⟩
      · rcases q with (q | q) | ⟨u, u1, u2, u3, u4⟩
        · exact Or.inl q
        · exact Or.inr ⟨z, by omega, by omega, by omega, q⟩
        · exact Or.inr ⟨u, u1, by omega, u3, u4⟩
      · rcases q with q | ⟨u, u1, u2, u3, u4⟩
        · exact Or.inl (Or.inl q)
        · by_cases e : u = z
          · subst e; exact Or.inl (Or.inr u4)
          · exact Or.inr ⟨u, u1, by omega, u3, u4⟩
      · have ez : iI (z : Int) + 1 = iI ((z + 1 : Nat) : Int) := by rw [iI_1, iI_add]; rfl
        have eu : iI (z : Int) * iI (y.2.2.1 : Int) = iI ((z * y.2.2.1 : Nat) : Int) := by rw [iI_mul]; congr 1
        have e0 : (0 : Int64) = iJ 0 := iJ_0
        show b_Search_gather_3 N (f_Search_gather_3 N fu) s _ _ _ _ _ = _
        unfold b_Search_gather_3
        rw [if_neg (fun q => by have := (iI_lt (by omega) (by omega) (by omega) (by omega)).mp q; omega)]
        simp only [s_rd, Option.bind_some, hS.2.1, eu, zck_t, e0, a3, ez]
        exact g3
/-- a layer's values by the levels next to a place -/
theorem Ly_U (hc : cOK c) {p l f : Nat} (hp : p < nn c) (hl : l ≤ mm c) (hf : f ≤ mm c) (ho : c_ok c p l = true) (hfit : c_fit c ((l : Int) - f) = true) {v : Int} : Ly c cu su p l f v ↔ Ug c cu su p l (max (max 0 ((l : Int) - c.1 7)) ((l : Int) + l - f - c.1 8)) (min (min (c.1 1) ((l : Int) + c.1 7)) ((l : Int) + l - f + c.1 8)) v := by
  have hm := mm_r hc
  have h7 := hc.2.2.1
  have h8 := hc.2.2.2.1
  unfold Ly Ug
  constructor
  · rintro ⟨-, -, q, hq, rfl⟩
    rw [SV_s hp] at hq
    obtain ⟨t, ht, hq⟩ := hq
    obtain ⟨t1, t2⟩ := c_fol_fit.mp ht
    have tr := c_fit_r t1
    have hu : 0 ≤ (l : Int) + t ∧ (l : Int) + t ≤ c.1 1 := by
      rcases hq with ⟨o, -⟩ | ⟨k, hk, hu, -⟩
      · exact c_ok_r o
      · obtain ⟨hk1, hk2, hk3⟩ := id hk
        have := (hc.2.2.2.2.2.2.2.1 k hk1).1
        rw [c_use_eq] at hu
        have h0 := List.all_eq_true.mp hu 0 (List.mem_range.mpr (by omega))
        have h1 := c_ok_r (Bool.and_eq_true_iff.mp h0).1
        simpa using h1
    obtain ⟨u, hue⟩ : ∃ u : Nat, (u : Int) = (l : Int) + t := ⟨((l : Int) + t).toNat, by omega⟩
    refine ⟨u, by omega, by omega, by omega, ?_⟩
    rw [show (u : Int) - l = t by omega]
    refine ⟨t1, ?_⟩
    rcases hq with hq | ⟨k, hk, hq⟩
    · exact Or.inl ⟨q, hq, rfl⟩
    · exact Or.inr ⟨k, hk, q, hq, rfl⟩
  · rintro ⟨u, u1, u2, u3, u4, u5⟩
    have hfo : c_fol c ((u : Int) - l) ((l : Int) - f + 24) = true := c_fol_fit.mpr ⟨u4, Or.inr (by omega)⟩
    refine ⟨ho, hfit, ?_⟩
    rcases u5 with ⟨q, hq, rfl⟩ | ⟨k, hk, q, hq, rfl⟩
    · exact ⟨q, (SV_s hp).mpr ⟨_, hfo, Or.inl hq⟩, rfl⟩
    · exact ⟨q, (SV_s hp).mpr ⟨_, hfo, Or.inr ⟨k, hk, hq⟩⟩, rfl⟩
end CFILL
