/-! the class: fillStates, fillLast, fillLayer -/
section CLAYER
variable {h : zH} {s b : Nat} {y : sx} {x : cx} {I : Nat → Nat → Int32} {J : Nat → Nat → Int64} {c : cfg} {N : Nat} {IS : Nat → Nat → Int32} {tr : Bool} {cu su : Int}
/-- the row that was filled last -/
def FT (JS : Nat → Nat → Int64) (y : sx) (c : cfg) (cu su : Int) (i p l z : Nat) (x5 x6 x7 : Int32) : Prop := x5 = iI (-1) ∨ ∃ (fr to : Int) (f0 : Nat), x5 = iI fr ∧ x6 = iI to ∧ x7 = iI (ixS y l f0 : Nat) ∧ (-200 ≤ fr ∧ fr ≤ 200) ∧ (-200 ≤ to ∧ to ≤ 200) ∧ (f0 < z ∧ f0 ≤ mm c) ∧ RF JS i (ixS y l f0) y.2.2.1 (Ug c cu su p l fr to)
/-- nothing but the rows of one level has changed -/
def SameR (JS JS' : Nat → Nat → Int64) (y : sx) (c : cfg) (i l : Nat) : Prop := (∀ a q, a ≠ i → JS' a q = JS a q) ∧ ∀ l' f' q, l' ≠ l → f' ≤ mm c → ixS y l' f' ≤ q → q < ixS y l' f' + y.2.2.1 → JS' i q = JS i q
theorem SameR.rfl {JS : Nat → Nat → Int64} {y : sx} {c : cfg} {i l : Nat} : SameR JS JS y c i l := ⟨fun _ _ _ => Eq.refl _, fun _ _ _ _ _ _ _ => Eq.refl _⟩
theorem SameR.trans {JS J1 J2 : Nat → Nat → Int64} {y : sx} {c : cfg} {i l : Nat} (h : SameR JS J1 y c i l) (h2 : SameR J1 J2 y c i l) : SameR JS J2 y c i l := ⟨fun a q ha => (h2.1 a q ha).trans (h.1 a q ha), fun l' f' q a1 a2 a3 a4 => (h2.2 l' f' q a1 a2 a3 a4).trans (h.2 l' f' q a1 a2 a3 a4)⟩
theorem SameR.row {JS J1 : Nat → Nat → Int64} {y : sx} {c : cfg} {i l z : Nat} (hwd : y.2.1 = mm c + 1) (hz : z ≤ mm c) (e : ∀ a q, (a ≠ i ∨ q < ixS y l z ∨ ixS y l z + y.2.2.1 ≤ q) → J1 a q = JS a q) : SameR JS J1 y c i l := ⟨fun a q ha => e a q (Or.inl ha), fun l' f' q a1 a2 a3 a4 => e i q (by
  have := ixS_ne (y := y) (l := l') (f := f') (l' := l) (f' := z) (by omega) (by omega) (Or.inl a1)
  omega)⟩
theorem w_states31 (hW : World h s b y x I J c) (hP : Par c y tr cu su) (hN : 60 ≤ N) {i p l : Nat} (hi1 : 2 ≤ i) (hi2 : i < y.1 + 2) (hp : p < nn c) (hl : l ≤ mm c) (ho : c_ok c p l = true) {lo hi : Nat} (hlo : (lo : Int) = max 0 (l - c.1 7)) (hhi : (hi : Int) = min (c.1 1) (l + c.1 7)) :
    ∀ (d fu z : Nat) (JS : Nat → Nat → Int64) (x5 x6 x7 : Int32), z + d = hi + 1 → d < fu → Stat IS JS y tr cu su → LVr JS y c cu su p l → (∀ f : Nat, f ≤ mm c → RF JS i (ixS y l f) y.2.2.1 (fun v => f < z ∧ Ly c cu su p l f v)) → FT JS y c cu su i p l z x5 x6 x7 →
    ∃ JS', (∀ f : Nat, f ≤ mm c → RF JS' i (ixS y l f) y.2.2.1 (fun v => f < hi + 1 ∧ Ly c cu su p l f v)) ∧ SameR JS JS' y c i l ∧ f_Search_fillStates_31 N fu s (s + i) (iI l) (iI lo) (iI hi) x5 x6 x7 (iI z) (SH h s y IS JS) = some ((), SH h s y IS JS') := by
  have hc := hW.1.1
  have hm := mm_r hc
  have hn := nn_r hc
  have h7 := hc.2.2.1
  have h8 := hc.2.2.2.1
  have hwd := hW.2.2.1
  have hw := hW.2.2.2.1
  have hslb := sl_bd hW (i := i)
  have hsl : slen y i = y.2.1 * y.2.1 * y.2.2.1 := by unfold slen; rw [if_pos (by omega)]
  intro d
  induction d with
  | zero =>
    intro fu z JS x5 x6 x7 hd hf hS hV hR hT
    obtain ⟨fu, rfl⟩ : ∃ q, fu = q + 1 := ⟨fu - 1, by omega⟩
    refine ⟨JS, fun f hf => by rw [show hi + 1 = z by omega]; exact hR f hf, SameR.rfl, ?_⟩
    show b_Search_fillStates_31 N (f_Search_fillStates_31 N fu) s _ _ _ _ _ _ _ _ _ = _
    unfold b_Search_fillStates_31
    rw [if_pos ((iI_lt (by omega) (by omega) (by omega) (by omega)).mpr (by omega))]
  | succ d ih =>
    intro fu z JS x5 x6 x7 hd hf hS hV hR hT
    obtain ⟨fu, rfl⟩ : ∃ q, fu = q + 1 := ⟨fu - 1, by omega⟩
    have hz : z ≤ mm c := by omega
    have ez : iI (z : Int) + 1 = iI ((z + 1 : Nat) : Int) := by rw [iI_1, iI_add]; rfl
    have hsf := w_slopeFits (N := N) (IS := IS) (JS := JS) hW (t := (l : Int) - z) (by omega) (by omega)
    by_cases hfit : c_fit c ((l : Int) - z) = true
    · obtain ⟨lw, hlw⟩ : ∃ lw : Nat, (lw : Int) = max (lo : Int) ((l : Int) + l - z - c.1 8) := ⟨(max (lo : Int) ((l : Int) + l - z - c.1 8)).toNat, by omega⟩
      obtain ⟨hg, hhg⟩ : ∃ hg : Int, hg = min (hi : Int) ((l : Int) + l - z + c.1 8) := ⟨_, rfl⟩
      have hgr : -100 ≤ hg ∧ hg ≤ c.1 1 ∧ lw ≤ 100 := by omega
      have hLU : ∀ v, Ly c cu su p l z v ↔ Ug c cu su p l lw hg v := fun v => by
        rw [Ly_U hc hp hl hz ho hfit, ← hlo, ← hhi, ← hlw, ← hhg]
      have hix := ixS_in (y := y) (l := l) (f := z) (by omega) (by omega)
      have hR0 : RF JS i (ixS y l z) y.2.2.1 (fun _ => False) := (hR z hz).congr (fun v => ⟨fun q => by omega, fun q => q.elim⟩)
      have hidx : iI (((l : Int) * (y.2.1 : Int) + (z : Int)) * (y.2.2.1 : Int)) = iI ((ixS y l z : Nat) : Int) := by unfold ixS; congr 1
      have hmx : zmax (iI (lo : Int)) (iI ((l : Int) + l - z - c.1 8)) = iI (lw : Int) := by rw [zmax_i ⟨by omega, by omega⟩ ⟨by omega, by omega⟩, ← hlw]
      have hmn : zmin (iI (hi : Int)) (iI ((l : Int) + l - z + c.1 8)) = iI hg := by rw [zmin_i ⟨by omega, by omega⟩ ⟨by omega, by omega⟩, ← hhg]
      have hcont : ∀ J1, RF J1 i (ixS y l z) y.2.2.1 (Ug c cu su p l lw hg) → (∀ a q, (a ≠ i ∨ q < ixS y l z ∨ ixS y l z + y.2.2.1 ≤ q) → J1 a q = JS a q) → ∃ JS', (∀ f : Nat, f ≤ mm c → RF JS' i (ixS y l f) y.2.2.1 (fun v => f < hi + 1 ∧ Ly c cu su p l f v)) ∧ SameR JS JS' y c i l ∧ f_Search_fillStates_31 N fu s (s + i) (iI l) (iI lo) (iI hi) (iI lw) (iI hg) (iI (ixS y l z : Nat)) (iI ((z + 1 : Nat) : Int)) (SH h s y IS J1) = some ((), SH h s y IS JS') := by
        intro J1 r1 r2
        obtain ⟨J2, g1, g2, g3⟩ := ih fu (z + 1) J1 (iI lw) (iI hg) (iI (ixS y l z : Nat)) (by omega) (by omega) (hS.same (fun k => r2 0 k (Or.inl (by omega)))) (hV.same (fun k => r2 _ k (Or.inl (by omega)))) (fun f hf => by
          by_cases e : f = z
          · subst e
            exact r1.congr (fun v => ⟨fun q => ⟨by omega, (hLU v).mpr q⟩, fun q => (hLU v).mp q.2⟩)
          · refine ((hR f hf).same (fun q q1 q2 => r2 _ q ?_)).congr (fun v => ⟨fun q => ⟨by omega, q.2⟩, fun q => ⟨by omega, q.2⟩⟩)
            have := ixS_ne (y := y) (l := l) (f := f) (l' := l) (f' := z) (by omega) (by omega) (Or.inr e)
            omega) (Or.inr ⟨lw, hg, z, rfl, rfl, rfl, by omega, by omega, ⟨by omega, hz⟩, r1⟩)
        exact ⟨J2, g1, (SameR.row hwd hz r2).trans g2, g3⟩
      -- the two ways
      have hgath : ∃ J1, RF J1 i (ixS y l z) y.2.2.1 (Ug c cu su p l lw hg) ∧ (∀ a q, (a ≠ i ∨ q < ixS y l z ∨ ixS y l z + y.2.2.1 ≤ q) → J1 a q = JS a q) ∧ f_Search_gather N s (s + i) (iI (ixS y l z : Nat)) (iI lw) (iI hg) (SH h s y IS JS) = some ((), SH h s y IS J1) := by
        obtain ⟨J1, r1, r2, r3⟩ := w_gather (IS := IS) (N := N) hW hP hN (i := i) (f := ixS y l z) (p := p) (l := l) (to := hg) hi1 (by omega) (by omega) (by rw [hsl]; exact hix) hp hl hgr.2.1 hgr.1 30 N lw JS (fun _ => False) (by omega) hgr.2.2 (by omega) hS hV hR0 (fun _ q => q.elim)
        exact ⟨J1, r1.congr (fun v => ⟨fun q => q.resolve_left (fun q => q), Or.inr⟩), r2, r3⟩
      have e0 : ¬ ((1 : Int32) = 0) := by decide
      obtain ⟨Jg, q1, q2, q3⟩ := hgath
      obtain ⟨Jr, c1, c2, c3⟩ := hcont Jg q1 q2
      have hG : f_Search_fillStates_135 N (f_Search_fillStates_31 N fu) s (s + i) (iI l) (iI lo) (iI hi) (iI z) (iI (ixS y l z : Nat)) (iI lw) (iI hg) (SH h s y IS JS) = some ((), SH h s y IS Jr) := by
        unfold f_Search_fillStates_135 f_Search_fillStates_146 f_Search_fillStates_158
        simp only [s_rd, zck_t, q3, Option.bind_some, ez]
        exact c3
      have hbody : f_Search_fillStates_31 N (fu + 1) s (s + i) (iI l) (iI lo) (iI hi) x5 x6 x7 (iI z) (SH h s y IS JS) = (if iI (lw : Int) = x5 then (if iI hg = x6 then Option.bind (zcpJ (SH h s y IS JS) (s + i) x7 (s + i) (iI (ixS y l z : Nat)) (iI (y.2.2.1 : Int))) fun (h10 : zH) => f_Search_fillStates_31 N fu s (s + i) (iI l) (iI lo) (iI hi) (iI lw) (iI hg) (iI (ixS y l z : Nat)) (iI ((z + 1 : Nat) : Int)) h10 else f_Search_fillStates_135 N (f_Search_fillStates_31 N fu) s (s + i) (iI l) (iI lo) (iI hi) (iI z) (iI (ixS y l z : Nat)) (iI lw) (iI hg) (SH h s y IS JS)) else f_Search_fillStates_135 N (f_Search_fillStates_31 N fu) s (s + i) (iI l) (iI lo) (iI hi) (iI z) (iI (ixS y l z : Nat)) (iI lw) (iI hg) (SH h s y IS JS)) := by
        show b_Search_fillStates_31 N (f_Search_fillStates_31 N fu) s _ _ _ _ _ _ _ _ _ = _
        unfold b_Search_fillStates_31
        rw [if_neg (fun q => by have := (iI_lt (by omega) (by omega) (by omega) (by omega)).mp q; omega)]
        simp only [s_rd, Option.bind_some, hW.2.1, w_rd hW, zck_t, iI_sub, iI_add, hsf, hfit, w_index hS, hS.2.1, hidx, hmx, hmn]
        rw [if_neg (by decide)]
        unfold f_Search_fillStates_146 f_Search_fillStates_158
        simp only [ez]
      by_cases hsame : iI (lw : Int) = x5 ∧ iI hg = x6
      · rcases hT with e | ⟨fr, to, f0, e5, e6, e7, r5, r6, ⟨f1, f2⟩, hT⟩
        · exfalso
          rw [e] at hsame
          have := (iI_eq (by omega) (by omega) (by omega) (by omega)).mp hsame.1
          omega
        · have w1 : (lw : Int) = fr := (iI_eq (by omega) (by omega) (by omega) (by omega)).mp (by rw [← e5]; exact hsame.1)
          have w2 : hg = to := (iI_eq (by omega) (by omega) (by omega) (by omega)).mp (by rw [← e6]; exact hsame.2)
          rw [← w1, ← w2] at hT
          have hix0 := ixS_in (y := y) (l := l) (f := f0) (by omega) (by omega)
          have hcp := sc_J (h := h) (s := s) (y := y) (I := IS) (J := JS) (i := i) (j := i) (sp := ixS y l f0) (dp := ixS y l z) (m := y.2.2.1) hi1 (by omega) hi1 (by omega) (by rw [hsl]; exact hix0) (by rw [hsl]; exact hix) (by omega) (by omega)
          obtain ⟨Jr2, c1', c2', c3'⟩ := hcont (cpJ JS i i (ixS y l f0) (ixS y l z) y.2.2.1) (hT.copy (fun q hq => by
            unfold cpJ
            rw [if_pos (by omega), show ixS y l f0 + (ixS y l z + q - ixS y l z) = ixS y l f0 + q by omega])) (fun a q hq => by
            unfold cpJ
            rw [if_neg (by omega)])
          refine ⟨Jr2, c1', c2', ?_⟩
          rw [hbody, if_pos hsame.1, if_pos hsame.2, e7, hcp, Option.bind_some]
          exact c3'
      · refine ⟨Jr, c1, c2, ?_⟩
        rw [hbody, hG]
        by_cases g1 : iI (lw : Int) = x5
        · rw [if_pos g1, if_neg (fun g2 => hsame ⟨g1, g2⟩)]
        · rw [if_neg g1]
    · obtain ⟨J3, g1, g2, g3⟩ := ih fu (z + 1) JS x5 x6 x7 (by omega) (by omega) hS hV (fun f hf => (hR f hf).congr (fun v => ⟨fun q => ⟨by omega, q.2⟩, fun q => ⟨by
        by_cases e : f = z
        · subst e; exact absurd q.2.2.1 hfit
        · omega, q.2⟩⟩)) (by
        rcases hT with e | ⟨fr, to, f0, e5, e6, e7, r5, r6, ⟨f1, f2⟩, hT⟩
        · exact Or.inl e
        · exact Or.inr ⟨fr, to, f0, e5, e6, e7, r5, r6, ⟨by omega, f2⟩, hT⟩)
      refine ⟨J3, g1, g2, ?_⟩
      show b_Search_fillStates_31 N (f_Search_fillStates_31 N fu) s _ _ _ _ _ _ _ _ _ = _
      unfold b_Search_fillStates_31 f_Search_fillStates_158
      rw [if_neg (fun q => by have := (iI_lt (by omega) (by omega) (by omega) (by omega)).mp q; omega)]
      simp only [s_rd, Option.bind_some, hW.2.1, w_rd hW, zck_t, iI_sub, hsf, (Bool.not_eq_true _).mp hfit, ez]
      rw [if_pos (by decide)]
      exact g3
theorem w_fillStates (hW : World h s b y x I J c) (hP : Par c y tr cu su) (hN : 60 ≤ N) {i p l : Nat} (hi1 : 2 ≤ i) (hi2 : i < y.1 + 2) (hp : p < nn c) (hl : l ≤ mm c) (ho : c_ok c p l = true) {JS : Nat → Nat → Int64} (hS : Stat IS JS y tr cu su) (hV : LVr JS y c cu su p l) (hR : ∀ f : Nat, f ≤ mm c → RF JS i (ixS y l f) y.2.2.1 (fun _ => False)) :
    ∃ JS', (∀ f : Nat, f ≤ mm c → RF JS' i (ixS y l f) y.2.2.1 (Ly c cu su p l f)) ∧ SameR JS JS' y c i l ∧ f_Search_fillStates N s (s + i) (iI l) (SH h s y IS JS) = some ((), SH h s y IS JS') := by
  have hc := hW.1.1
  have hm := mm_r hc
  have h7 := hc.2.2.1
  obtain ⟨hi, hhi⟩ : ∃ hi : Nat, (hi : Int) = min (c.1 1) (l + c.1 7) := ⟨(min (c.1 1) (l + c.1 7)).toNat, by omega⟩
  obtain ⟨lo, hlo⟩ : ∃ lo : Nat, (lo : Int) = max 0 (l - c.1 7) := ⟨(max 0 (l - c.1 7)).toNat, by omega⟩
  obtain ⟨J2, g1, g2, g3⟩ := w_states31 (IS := IS) (N := N) hW hP hN hi1 hi2 hp hl ho hlo hhi (hi + 1 - lo) N lo JS (iI (-1)) (iI (-1)) (iI (-1)) (by omega) (by omega) hS hV (fun f hf => (hR f hf).congr (fun v => ⟨fun z => z.elim, fun z => by
    have := c_fit_r z.2.2.1
    omega⟩)) (Or.inl rfl)
  refine ⟨J2, fun f hf => (g1 f hf).congr (fun v => ⟨fun z => z.2, fun z => ⟨by
    have := c_fit_r z.2.1
    omega, z⟩⟩), g2, ?_⟩
  unfold f_Search_fillStates
  simp only [s_rd, Option.bind_some, hW.2.1, w_rd hW, zck_t, w_highest hW (show 0 ≤ (l : Int) by omega) (show (l : Int) ≤ 24 by omega), w_lowest hW (show 0 ≤ (l : Int) by omega) (show (l : Int) ≤ 24 by omega), ← hhi, ← hlo, iI_m1]
  exact g3
theorem w_last33 (hW : World h s b y x I J c) (hP : Par c y tr cu su) (hN : 60 ≤ N) {i l : Nat} (hi1 : 2 ≤ i) (hi2 : i < y.1 + 2) (hl : l ≤ mm c) (ho : c_ok c (nn c) l = true) {hi : Nat} (hhi : (hi : Int) = min (c.1 1) (l + c.1 7)) :
    ∀ (d fu z : Nat) (JS : Nat → Nat → Int64), z + d = hi + 1 → d < fu → Stat IS JS y tr cu su → (∀ f : Nat, f ≤ mm c → RF JS i (ixS y l f) y.2.2.1 (fun v => f < z ∧ Ly c cu su (nn c) l f v)) →
    ∃ JS', (∀ f : Nat, f ≤ mm c → RF JS' i (ixS y l f) y.2.2.1 (fun v => f < hi + 1 ∧ Ly c cu su (nn c) l f v)) ∧ SameR JS JS' y c i l ∧ f_Search_fillLast_33 N fu s (s + i) (iI l) (iJ (cu * c_pc c (nn c) l)) (iI hi) (iI z) (SH h s y IS JS) = some ((), SH h s y IS JS') := by
  have hc := hW.1.1
  have hm := mm_r hc
  have h7 := hc.2.2.1
  have hwd := hW.2.2.1
  have hw := hW.2.2.2.1
  have hslb := sl_bd hW (i := i)
  have hsl : slen y i = y.2.1 * y.2.1 * y.2.2.1 := by unfold slen; rw [if_pos (by omega)]
  intro d
  induction d with
  | zero =>
    intro fu z JS hd hf hS hR
    obtain ⟨fu, rfl⟩ : ∃ q, fu = q + 1 := ⟨fu - 1, by omega⟩
    refine ⟨JS, fun f hf => by rw [show hi + 1 = z by omega]; exact hR f hf, SameR.rfl, ?_⟩
    show b_Search_fillLast_33 N (f_Search_fillLast_33 N fu) s _ _ _ _ _ _ = _
    unfold b_Search_fillLast_33
    rw [if_pos ((iI_lt (by omega) (by omega) (by omega) (by omega)).mpr (by omega))]
  | succ d ih =>
    intro fu z JS hd hf hS hR
    obtain ⟨fu, rfl⟩ : ∃ q, fu = q + 1 := ⟨fu - 1, by omega⟩
    have hz : z ≤ mm c := by omega
    have ez : iI (z : Int) + 1 = iI ((z + 1 : Nat) : Int) := by rw [iI_1, iI_add]; rfl
    have hsf := w_slopeFits (N := N) (IS := IS) (JS := JS) hW (t := (l : Int) - z) (by omega) (by omega)
    by_cases hfit : c_fit c ((l : Int) - z) = true
    · have hix := ixS_in (y := y) (l := l) (f := z) (by omega) (by omega)
      have hR0 : RF JS i (ixS y l z) y.2.2.1 (fun _ => False) := (hR z hz).congr (fun v => ⟨fun q => by omega, fun q => q.elim⟩)
      have hidx : iI (((l : Int) * (y.2.1 : Int) + (z : Int)) * (y.2.2.1 : Int)) = iI ((ixS y l z : Nat) : Int) := by unfold ixS; congr 1
      obtain ⟨hin, hcl⟩ := nat_in (p := ixS y l z) (n := slen y i) (by rw [hsl]; omega) (by omega)
      have r2 : ∀ a q, (a ≠ i ∨ q < ixS y l z ∨ ixS y l z + y.2.2.1 ≤ q) → u2 JS i (ixS y l z) (iJ (cu * c_pc c (nn c) l)) a q = JS a q := fun a q hq => u2_n (by omega)
      obtain ⟨J2, g1, g2, g3⟩ := ih fu (z + 1) (u2 JS i (ixS y l z) (iJ (cu * c_pc c (nn c) l))) (by omega) (by omega) (hS.same (fun k => r2 0 k (Or.inl (by omega)))) (fun f hf => by
        by_cases e : f = z
        · subst e
          refine (hR0.single (v := cu * c_pc c (nn c) l) hw.1).congr (fun v => ⟨fun q => ⟨by omega, ho, hfit, 0, (SV_n (Nat.le_refl _)).mpr rfl, by omega⟩, fun q => ?_⟩)
          obtain ⟨-, -, -, w, hw1, hw2⟩ := q
          rw [SV_n (Nat.le_refl _)] at hw1
          omega
        · refine ((hR f hf).same (fun q q1 q2 => r2 _ q ?_)).congr (fun v => ⟨fun q => ⟨by omega, q.2⟩, fun q => ⟨by omega, q.2⟩⟩)
          have := ixS_ne (y := y) (l := l) (f := f) (l' := l) (f' := z) (by omega) (by omega) (Or.inr e)
          omega)
      refine ⟨J2, g1, (SameR.row hwd hz r2).trans g2, ?_⟩
      show b_Search_fillLast_33 N (f_Search_fillLast_33 N fu) s _ _ _ _ _ _ = _
      unfold b_Search_fillLast_33 f_Search_fillLast_64
      rw [if_neg (fun q => by have := (iI_lt (by omega) (by omega) (by omega) (by omega)).mp q; omega)]
      simp only [s_rd, Option.bind_some, hW.2.1, w_rd hW, zck_t, iI_sub, hsf, hfit, w_index hS, hidx, ss_J hi1 (show i < y.1 + 4 by omega) hin, hcl, ez]
      rw [if_neg (by decide)]
      exact g3
    · obtain ⟨J3, g1, g2, g3⟩ := ih fu (z + 1) JS (by omega) (by omega) hS (fun f hf => (hR f hf).congr (fun v => ⟨fun q => ⟨by omega, q.2⟩, fun q => ⟨by
        by_cases e : f = z
        · subst e; exact absurd q.2.2.1 hfit
        · omega, q.2⟩⟩))
      refine ⟨J3, g1, g2, ?_⟩
      show b_Search_fillLast_33 N (f_Search_fillLast_33 N fu) s _ _ _ _ _ _ = _
      unfold b_Search_fillLast_33 f_Search_fillLast_64
      rw [if_neg (fun q => by have := (iI_lt (by omega) (by omega) (by omega) (by omega)).mp q; omega)]
      simp only [s_rd, Option.bind_some, hW.2.1, w_rd hW, zck_t, iI_sub, hsf, (Bool.not_eq_true _).mp hfit, ez]
      rw [if_pos (by decide)]
      exact g3
theorem w_fillLast (hW : World h s b y x I J c) (hP : Par c y tr cu su) (hN : 60 ≤ N) {i l : Nat} (hi1 : 2 ≤ i) (hi2 : i < y.1 + 2) (hl : l ≤ mm c) (ho : c_ok c (nn c) l = true) {JS : Nat → Nat → Int64} (hS : Stat IS JS y tr cu su) (hR : ∀ f : Nat, f ≤ mm c → RF JS i (ixS y l f) y.2.2.1 (fun _ => False)) :
    ∃ JS', (∀ f : Nat, f ≤ mm c → RF JS' i (ixS y l f) y.2.2.1 (Ly c cu su (nn c) l f)) ∧ SameR JS JS' y c i l ∧ f_Search_fillLast N s (s + i) (iI l) (SH h s y IS JS) = some ((), SH h s y IS JS') := by
  have hc := hW.1.1
  have hm := mm_r hc
  have hn := nn_r hc
  have h7 := hc.2.2.1
  obtain ⟨hi, hhi⟩ : ∃ hi : Nat, (hi : Int) = min (c.1 1) (l + c.1 7) := ⟨(min (c.1 1) (l + c.1 7)).toNat, by omega⟩
  obtain ⟨lo, hlo⟩ : ∃ lo : Nat, (lo : Int) = max 0 (l - c.1 7) := ⟨(max 0 (l - c.1 7)).toNat, by omega⟩
  obtain ⟨J2, g1, g2, g3⟩ := w_last33 (IS := IS) (N := N) hW hP hN hi1 hi2 hl ho hhi (hi + 1 - lo) N lo JS (by omega) (by omega) hS (fun f hf => (hR f hf).congr (fun v => ⟨fun z => z.elim, fun z => by
    have := c_fit_r z.2.2.1
    omega⟩))
  refine ⟨J2, fun f hf => (g1 f hf).congr (fun v => ⟨fun z => z.2, fun z => ⟨by
    have := c_fit_r z.2.1
    omega, z⟩⟩), g2, ?_⟩
  have hn0 : iI (c.1 0) = iI ((nn c : Nat) : Int) := by congr 1; omega
  unfold f_Search_fillLast
  simp only [s_rd, Option.bind_some, hW.2.1, w_rd hW, zck_t, hn0, w_earthValue hW hS (Nat.le_refl (nn c)) (show 0 ≤ (l : Int) by omega) (show (l : Int) ≤ 24 by omega), w_highest hW (show 0 ≤ (l : Int) by omega) (show (l : Int) ≤ 24 by omega), w_lowest hW (show 0 ≤ (l : Int) by omega) (show (l : Int) ≤ 24 by omega), ← hhi, ← hlo]
  exact g3
theorem slt_ne (hP : Par c y tr cu su) {p : Nat} : slt tr (p + 1) ≠ slt tr p := by
  unfold slt
  cases tr with
  | true => rw [if_pos rfl, if_pos rfl]; omega
  | false => rw [if_neg (by decide), if_neg (by decide)]; omega
theorem slE_ne {p q : Nat} (h : p < q) : slE tr q ≠ slt tr p := by
  unfold slt slE
  cases tr with
  | true => rw [if_pos rfl, if_pos rfl]; omega
  | false => rw [if_neg (by decide), if_neg (by decide)]; omega
theorem w_layer20 (hW : World h s b y x I J c) (hP : Par c y tr cu su) (hN : 4000 ≤ N) {p : Nat} (hp0 : 1 ≤ p) (hp : p ≤ nn c) :
    ∀ (d fu z : Nat) (JS : Nat → Nat → Int64), z + d = mm c + 1 → d < fu → Stat IS JS y tr cu su → (p < nn c → LA JS y c cu su (2 + slt tr (p + 1)) (p + 1)) → (∀ k, c_at c k p → LA JS y c cu su (2 + slE tr (c.2 7 k).toNat) (c.2 7 k).toNat) → (∀ l f : Nat, l ≤ mm c → f ≤ mm c → RF JS (2 + slt tr p) (ixS y l f) y.2.2.1 (fun v => l < z ∧ Ly c cu su p l f v)) →
    ∃ JS', (∀ l f : Nat, l ≤ mm c → f ≤ mm c → RF JS' (2 + slt tr p) (ixS y l f) y.2.2.1 (fun v => l < mm c + 1 ∧ Ly c cu su p l f v)) ∧ (∀ a q, a ≠ y.1 + 2 → a ≠ 2 + slt tr p → JS' a q = JS a q) ∧ f_Search_fillLayer_20 N fu s (iI p) (s + (2 + slt tr p)) (iI z) (SH h s y IS JS) = some ((), SH h s y IS JS') := by
  have hc := hW.1.1
  have hm := mm_r hc
  have hn := nn_r hc
  have hwd := hW.2.2.1
  have hsl := (hP.sl hp).1
  intro d
  induction d with
  | zero =>
    intro fu z JS hd hf hS hA hA2 hR
    obtain ⟨fu, rfl⟩ : ∃ q, fu = q + 1 := ⟨fu - 1, by omega⟩
    refine ⟨JS, fun l f hl hf => by rw [show mm c + 1 = z by omega]; exact hR l f hl hf, fun _ _ _ _ => rfl, ?_⟩
    show b_Search_fillLayer_20 N (f_Search_fillLayer_20 N fu) s _ _ _ _ = _
    unfold b_Search_fillLayer_20
    simp only [s_rd, Option.bind_some, hS.1]
    rw [if_pos ((iI_le (by omega) (by omega) (by omega) (by omega)).mpr (by omega))]
  | succ d ih =>
    intro fu z JS hd hf hS hA hA2 hR
    obtain ⟨fu, rfl⟩ : ∃ q, fu = q + 1 := ⟨fu - 1, by omega⟩
    have hz : z ≤ mm c := by omega
    have ez : iI (z : Int) + 1 = iI ((z + 1 : Nat) : Int) := by rw [iI_1, iI_add]; rfl
    have hal := w_allows (N := N) (IS := IS) (JS := JS) hW (p := p) (l := (z : Int)) hp ⟨by omega, by omega⟩
    have hR0 : ∀ f : Nat, f ≤ mm c → RF JS (2 + slt tr p) (ixS y z f) y.2.2.1 (fun _ => False) := fun f hf => (hR z f hz hf).congr (fun v => ⟨fun q => by omega, fun q => q.elim⟩)
    -- what follows a level that is done
    have hnext : ∀ J1, (∀ f : Nat, f ≤ mm c → RF J1 (2 + slt tr p) (ixS y z f) y.2.2.1 (Ly c cu su p z f)) → (∀ a q, a ≠ y.1 + 2 → a ≠ 2 + slt tr p → J1 a q = JS a q) → (∀ l' f' q, l' ≠ z → f' ≤ mm c → ixS y l' f' ≤ q → q < ixS y l' f' + y.2.2.1 → J1 (2 + slt tr p) q = JS (2 + slt tr p) q) → ∃ JS', (∀ l f : Nat, l ≤ mm c → f ≤ mm c → RF JS' (2 + slt tr p) (ixS y l f) y.2.2.1 (fun v => l < mm c + 1 ∧ Ly c cu su p l f v)) ∧ (∀ a q, a ≠ y.1 + 2 → a ≠ 2 + slt tr p → JS' a q = JS a q) ∧ f_Search_fillLayer_20 N fu s (iI p) (s + (2 + slt tr p)) (iI ((z + 1 : Nat) : Int)) (SH h s y IS J1) = some ((), SH h s y IS JS') := by
      intro J1 r1 r2 r3
      obtain ⟨J2, g1, g2, g3⟩ := ih fu (z + 1) J1 (by omega) (by omega) (hS.same (fun k => r2 0 k (by omega) (by omega))) (fun hpn => (hA hpn).same (fun q => r2 _ q (by have := (hP.sl (q := p + 1) (by omega)).1; omega) (by have := slt_ne (p := p) hP; omega))) (fun k hk => (hA2 k hk).same (fun q => r2 _ q (by have := (hP.sl (q := (c.2 7 k).toNat) (by have := (hc.2.2.2.2.2.2.2.1 k hk.1).1; omega)).2; omega) (by have := slE_ne (tr := tr) (p := p) (q := (c.2 7 k).toNat) (by have := hk.2.2; omega); omega))) (fun l f hl hf => by
        by_cases e : l = z
        · subst e
          exact (r1 f hf).congr (fun v => ⟨fun q => ⟨by omega, q⟩, fun q => q.2⟩)
        · exact ((hR l f hl hf).same (fun q q1 q2 => r3 l f q e hf q1 q2)).congr (fun v => ⟨fun q => ⟨by omega, q.2⟩, fun q => ⟨by omega, q.2⟩⟩))
      exact ⟨J2, g1, fun a q a1 a2 => (g2 a q a1 a2).trans (r2 a q a1 a2), g3⟩
    by_cases hall : c_al c p z = true
    · have ho : c_ok c p z = true := by rw [c_ok_al (by omega) (by omega)]; exact hall
      by_cases hpn : p = nn c
      · subst hpn
        obtain ⟨J1, r1, r2, r3⟩ := w_fillLast (IS := IS) (N := N) hW hP (by omega) (i := 2 + slt tr (nn c)) (by omega) (by omega) hz ho hS hR0
        obtain ⟨J2, g1, g2, g3⟩ := hnext J1 r1 (fun a q _ a2 => r2.1 a q a2) r2.2
        refine ⟨J2, g1, g2, ?_⟩
        show b_Search_fillLayer_20 N (f_Search_fillLayer_20 N fu) s _ _ _ _ = _
        unfold b_Search_fillLayer_20 f_Search_fillLayer_75
        simp only [s_rd, Option.bind_some, hS.1, hW.2.1, w_rd hW, zck_t, hal, hall, r3, ez]
        rw [if_neg (fun q => by have := (iI_le (by omega) (by omega) (by omega) (by omega)).mp q; omega), if_neg (by decide), if_pos (by congr 1; omega)]
        exact g3
      · obtain ⟨J1, r1, r2, r3⟩ := w_fillLeaving (IS := IS) (N := N) hW hS hP hN (p := p) (l := z) (by omega) hz (hA (by omega)) hA2
        have hS1 : Stat IS J1 y tr cu su := hS.same (fun k => r2 0 k (by omega))
        obtain ⟨J2, t1, t2, t3⟩ := w_fillStates (IS := IS) (N := N) hW hP (by omega) (i := 2 + slt tr p) (p := p) (l := z) (by omega) (by omega) (by omega) hz ho hS1 r1 (fun f hf => (hR0 f hf).same (fun q _ _ => r2 _ q (by omega)))
        obtain ⟨J3, g1, g2, g3⟩ := hnext J2 t1 (fun a q a1 a2 => (t2.1 a q a2).trans (r2 a q a1)) (fun l' f' q a1 a2 a3 a4 => (t2.2 l' f' q a1 a2 a3 a4).trans (r2 _ q (by omega)))
        refine ⟨J3, g1, g2, ?_⟩
        show b_Search_fillLayer_20 N (f_Search_fillLayer_20 N fu) s _ _ _ _ = _
        unfold b_Search_fillLayer_20 f_Search_fillLayer_75
        simp only [s_rd, Option.bind_some, hS.1, hW.2.1, w_rd hW, zck_t, hal, hall, r3, t3, ez]
        rw [if_neg (fun q => by have := (iI_le (by omega) (by omega) (by omega) (by omega)).mp q; omega), if_neg (by decide), if_neg (fun q => by have := (iI_eq (by omega) (by omega) (by omega) (by omega)).mp q; omega)]
        exact g3
    · obtain ⟨J3, g1, g2, g3⟩ := hnext JS (fun f hf => (hR0 f hf).congr (fun v => ⟨fun q => q.elim, fun q => hall (by have := q.1; rw [c_ok_al (by omega) (by omega)] at this; exact this)⟩)) (fun _ _ _ _ => rfl) (fun _ _ _ _ _ _ _ => rfl)
      refine ⟨J3, g1, g2, ?_⟩
      show b_Search_fillLayer_20 N (f_Search_fillLayer_20 N fu) s _ _ _ _ = _
      unfold b_Search_fillLayer_20 f_Search_fillLayer_75
      simp only [s_rd, Option.bind_some, hS.1, hW.2.1, w_rd hW, zck_t, hal, (Bool.not_eq_true _).mp hall, ez]
      rw [if_neg (fun q => by have := (iI_le (by omega) (by omega) (by omega) (by omega)).mp q; omega), if_pos (by decide)]
      exact g3
theorem w_fillLayer (hW : World h s b y x I J c) (hP : Par c y tr cu su) (hN : 4000 ≤ N) {p : Nat} (hp0 : 1 ≤ p) (hp : p ≤ nn c) {JS : Nat → Nat → Int64} (hS : Stat IS JS y tr cu su) (hA : p < nn c → LA JS y c cu su (2 + slt tr (p + 1)) (p + 1)) (hA2 : ∀ k, c_at c k p → LA JS y c cu su (2 + slE tr (c.2 7 k).toNat) (c.2 7 k).toNat) :
    ∃ JS', LA JS' y c cu su (2 + slt tr p) p ∧ (∀ a q, a ≠ y.1 + 2 → a ≠ 2 + slt tr p → JS' a q = JS a q) ∧ f_Search_fillLayer N s (iI p) (SH h s y IS JS) = some ((), SH h s y IS JS') := by
  have hc := hW.1.1
  have hm := mm_r hc
  have hsl := (hP.sl hp).1
  have hwd := hW.2.2.1
  have hsle : slen y (2 + slt tr p) = y.2.1 * y.2.1 * y.2.2.1 := by unfold slen; rw [if_pos (by omega)]
  obtain ⟨J1, f1, f2, f3⟩ := w_fill (IS := IS) (JS := JS) (N := N) hW hN (i := 2 + slt tr p) (by omega) (by omega)
  obtain ⟨J2, g1, g2, g3⟩ := w_layer20 (IS := IS) (N := N) hW hP hN hp0 hp (mm c + 1) N 0 J1 (by omega) (by omega) (hS.same (fun k => f2 0 k (Or.inl (by omega)))) (fun hpn => (hA hpn).same (fun q => f2 _ q (Or.inl (by have := slt_ne (p := p) hP; omega)))) (fun k hk => (hA2 k hk).same (fun q => f2 _ q (Or.inl (by have := slE_ne (tr := tr) (p := p) (q := (c.2 7 k).toNat) (by have := hk.2.2; omega); omega)))) (fun l f hl hf => (RF.nil (fun q q1 q2 => f1 q (by
    rw [hsle]
    have := ixS_in (y := y) (l := l) (f := f) (by omega) (by omega)
    omega))).congr (fun v => ⟨fun z => z.elim, fun z => by omega⟩))
  refine ⟨J2, fun l f hl hf => (g1 l f hl hf).congr (fun v => ⟨fun z => z.2, fun z => ⟨by omega, z⟩⟩), fun a q a1 a2 => (g2 a q a1 a2).trans (f2 a q (Or.inl a2)), ?_⟩
  rw [show iI ((0 : Nat) : Int) = (0 : Int32) from iI_0.symm] at g3
  unfold f_Search_fillLayer
  simp only [s_rd, Option.bind_some, zck_t, w_slot hW hS hp, sa_R hsl (by have := hW.2.2.2.2.2; omega), f3]
  exact g3
end CLAYER
