/-! the class: traceFrom, trace -/
theorem slt_t {q : Nat} : slt true q = q := if_pos rfl
theorem slE_t {q : Nat} : slE true q = q := if_pos rfl
/-- steps are laid -/
def LayR (I I' : Nat → Nat → Int32) (p q : Nat) (l t kk : Int) : Prop := (∀ i r, ¬ (i = 16 ∧ p < r ∧ r ≤ q) → ¬ (i = 17 ∧ p ≤ r ∧ r < q) → I' i r = I i r) ∧ ∀ j : Nat, p + j < q → I' 16 (p + (j + 1)) = iI (l + t * (j + 1)) ∧ I' 17 (p + j) = iI kk
def LAall (JS : Nat → Nat → Int64) (y : sx) (c : cfg) : Prop := ∀ q, 0 < q → q ≤ nn c → LA JS y c 1024 1 (2 + q) q
theorem up_in {c : cfg} (hc : cOK c) {p : Nat} {l t q : Int} (h : SVa c 1024 1 p l t q ∨ ∃ k, c_at c k p ∧ SVk c 1024 1 k p l t q) : 0 ≤ l + t ∧ l + t ≤ c.1 1 := by
  rcases h with ⟨o, -⟩ | ⟨k, hk, hu, -⟩
  · exact c_ok_r o
  · obtain ⟨hk1, hk2, hk3⟩ := id hk
    have := (hc.2.2.2.2.2.2.2.1 k hk1).1
    rw [c_use_eq] at hu
    have h0 := List.all_eq_true.mp hu 0 (List.mem_range.mpr (by omega))
    have h1 := c_ok_r (Bool.and_eq_true_iff.mp h0).1
    simpa using h1
section CTRACE2
variable {h : zH} {s b : Nat} {y : sx} {x : cx} {I : Nat → Nat → Int32} {J : Nat → Nat → Int64} {c : cfg} {N : Nat} {IS : Nat → Nat → Int32}
theorem tr_55 (hc : cOK c) (hC : CC I J x c) (hA : Apart s b y c) (hP : Par c y true 1024 1) (hN : 4000 ≤ N) {p l : Nat} {g M : Int} (hp : p < nn c) (hT : TS I c p l g) (hMin : isMin (SV c 1024 1 p l g) M) {hi : Nat} (hhi : (hi : Int) = min (c.1 1) (l + c.1 7)) {u : Nat} (hu5 : I 15 5 = iI u) (hu64 : u < 64) :
    ∀ (d fu z : Nat) (JS : Nat → Nat → Int64), z + d = hi + 1 → d < fu → Stat IS JS y true 1024 1 → LAall JS y c → (∀ v : Nat, z ≤ v → v ≤ mm c → RF JS (y.1 + 2) (v * y.2.2.1) y.2.2.1 (fun _ => False)) → (∀ t : Int, (l : Int) + t < z → ¬ Hit0 c p l g M t ∧ ¬ Hit1 c p l g M t) →
    ∃ (t : Int) (q : Nat) (I' : Nat → Nat → Int32) (JS' : Nat → Nat → Int64), (∀ a r, a ≠ y.1 + 2 → JS' a r = JS a r) ∧ ((Pick c p l g t false ∧ q = p + 1 ∧ LayR I I' p (p + 1) l t (-1)) ∨ ∃ k, c_at c k p ∧ Pick c p l g t true ∧ q = (c.2 7 k).toNat ∧ LayR (u2 I 15 5 (iI ((u ||| 2 ^ k : Nat) : Int))) I' p q l t k) ∧
    f_Search_traceFrom_55 N fu s (b + 15) (iI p) (iI l) (iI (c_sp c p)) (iJ (M + 1024 * c_pc c p l)) (iI hi) (iI z) (TH h b x I J s y IS JS) = some (iI q, TH h b x I' J s y IS JS') := by
  have hn := nn_r hc
  have hm := mm_r hc
  have h7 := hc.2.2.1
  have hW := mkW (h := h) hc hC hA
  have hw1 : y.2.2.1 = 1 := by
    rcases hP with q | q
    · exact q.2.2.1
    · exact absurd q.1 (by decide)
  have hyn : y.1 = nn c + 1 := by
    rcases hP with q | q
    · exact q.2.1
    · exact absurd q.1 (by decide)
  obtain ⟨t1, t2, t3, -⟩ := id hT
  have hpc := c_pc_r hc (p := p) (l := (l : Int)) (by omega) (by omega) (by omega)
  have hMb := SV_bd hc (cu := 1024) (su := 1) (by omega) (by omega) (nn c) p l g M (by omega) (by omega) hMin.1
  have hsl1 : slen y (y.1 + 2) = y.2.1 * y.2.2.1 := by unfold slen; rw [if_neg (by omega), if_pos rfl]
  have hwd := hA.2.2.1
  intro d
  induction d with
  | zero =>
    intro fu z JS hd hf hS hL hR hno
    exfalso
    have hM := hMin.1
    rw [SV_s hp] at hM
    obtain ⟨t, ht, hM⟩ := hM
    have h1 := up_in hc hM
    have h2 := c_fol_r ht
    obtain ⟨n0, n1⟩ := hno t (by omega)
    rcases hM with q | q
    · exact n0 ⟨ht, q⟩
    · exact n1 ⟨ht, q⟩
  | succ d ih =>
    intro fu z JS hd hf hS hL hR hno
    obtain ⟨fu, rfl⟩ : ∃ q, fu = q + 1 := ⟨fu - 1, by omega⟩
    have hz : z ≤ mm c := by omega
    have ez : iI (z : Int) + 1 = iI ((z + 1 : Nat) : Int) := by rw [iI_1, iI_add]; rfl
    have hmay := tr_may (N := N) (h := h) (IS := IS) (JS := JS) hc hC hA hp hT hz
    have hlt : ¬ iI (hi : Int) < iI (z : Int) := fun q => by have := (iI_lt (by omega) (by omega) (by omega) (by omega)).mp q; omega
    -- on to the next level
    have hnext : ∀ J1, (∀ a r, (a ≠ y.1 + 2 ∨ r < z * y.2.2.1 ∨ z * y.2.2.1 + y.2.2.1 ≤ r) → J1 a r = JS a r) → ¬ Hit0 c p l g M ((z : Int) - l) → ¬ Hit1 c p l g M ((z : Int) - l) → ∃ (t : Int) (q : Nat) (I' : Nat → Nat → Int32) (JS' : Nat → Nat → Int64), (∀ a r, a ≠ y.1 + 2 → JS' a r = JS a r) ∧ ((Pick c p l g t false ∧ q = p + 1 ∧ LayR I I' p (p + 1) l t (-1)) ∨ ∃ k, c_at c k p ∧ Pick c p l g t true ∧ q = (c.2 7 k).toNat ∧ LayR (u2 I 15 5 (iI ((u ||| 2 ^ k : Nat) : Int))) I' p q l t k) ∧ f_Search_traceFrom_55 N fu s (b + 15) (iI p) (iI l) (iI (c_sp c p)) (iJ (M + 1024 * c_pc c p l)) (iI hi) (iI ((z + 1 : Nat) : Int)) (TH h b x I J s y IS J1) = some (iI q, TH h b x I' J s y IS JS') := by
      intro J1 r2 n0 n1
      obtain ⟨t, q, I', JS', g1, g2, g3⟩ := ih fu (z + 1) J1 (by omega) (by omega) (hS.same (fun k => r2 0 k (Or.inl (by omega)))) (fun q q1 q2 => (hL q q1 q2).same (fun k => r2 _ k (Or.inl (by omega)))) (fun v v1 v2 => (hR v (by omega) v2).same (fun r q1 q2 => r2 _ r (by
        have := row_ne (w := y.2.2.1) (a := v) (d := z) (by omega)
        omega))) (fun t ht => by
        by_cases e : (l : Int) + t = z
        · rw [show t = (z : Int) - l by omega]; exact ⟨n0, n1⟩
        · exact hno t (by omega))
      exact ⟨t, q, I', JS', fun a r ha => (g1 a r ha).trans (r2 a r (Or.inl ha)), g2, g3⟩
    by_cases hfo : c_fol c ((z : Int) - l) g = true
    · have hfit := (c_fol_fit.mp hfo).1
      have hup : ∀ q, (SVa c 1024 1 p l ((z : Int) - l) q ∨ ∃ k, c_at c k p ∧ SVk c 1024 1 k p l ((z : Int) - l) q) → M ≤ q := fun q hq => hMin.2 q ((SV_s hp).mpr ⟨_, hfo, hq⟩)
      obtain ⟨J1, a1, a2, a3⟩ := w_addStep (N := N) hW hS hP (by omega) (p := p) (l := l) (u := z) hp t2 hz hfit (by rw [slt_t]; exact hL (p + 1) (by omega) (by omega)) (hR z (Nat.le_refl _) hz) (fun _ q => q.elim)
      obtain ⟨m1, e1, c1⟩ := a1.first (by omega)
      rw [hw1, Nat.mul_one] at e1
      obtain ⟨hin, hcl⟩ := nat_in (p := z) (n := slen y (y.1 + 2)) (by rw [hsl1, hw1]; omega) (by rw [hsl1, hw1]; omega)
      have hb1 : 0 ≤ m1 ∧ m1 ≤ 1152921504606846976 := by
        rcases c1 with ⟨q, -⟩ | q
        · omega
        · rcases q.1 with w | w
          · exact w.elim
          · have := Lv_bd hc (cu := 1024) (su := 1) (by omega) (by omega) hp (by omega) (by omega) (t := (z : Int) - l) ⟨hfit, Or.inl w⟩; omega
      have hit0 : m1 = M + 1024 * c_pc c p l ↔ Hit0 c p l g M ((z : Int) - l) := by
        constructor
        · intro e
          rcases c1 with ⟨q, -⟩ | q
          · omega
          · rcases q.1 with w | ⟨v, hv, w⟩
            · exact w.elim
            · refine ⟨hfo, ?_⟩
              rw [show M = v by omega]; exact hv
        · rintro ⟨-, hv⟩
          rcases c1 with ⟨-, q⟩ | q
          · exact absurd (Or.inr ⟨M, hv, rfl⟩) (q (M + 1024 * c_pc c p l))
          · have w1 := q.2 (M + 1024 * c_pc c p l) (Or.inr ⟨M, hv, rfl⟩)
            rcases q.1 with w | ⟨v, hv2, w⟩
            · exact w.elim
            · have := hup v (Or.inl hv2); omega
      have hS1 : Stat IS J1 y true 1024 1 := hS.same (fun k => a2 0 k (Or.inl (by omega)))
      have hc1 : lg_cmp (iJ m1) (iJ (M + 1024 * c_pc c p l)) = 0 ↔ m1 = M + 1024 * c_pc c p l := lgc_0 (by omega) (by omega) (by omega) (by omega)
      have hrd := sa_J (h := CH h b x I J) (s := s) (y := y) (I := IS) (J := J1) (i := y.1 + 2) (v := iI (z : Int)) (by omega) (by omega) hin
      rw [hcl, e1] at hrd
      by_cases h0 : m1 = M + 1024 * c_pc c p l
      · obtain ⟨I', q1, q2, q3⟩ := tr_lay (N := N) (h := h) (IS := IS) (JS := J1) (J := J) (x := x) hc hA (to := p + 1) (by omega) (t := (z : Int) - l) (kk := -1) 1 N p I l (by omega) (by omega) hC t1
        refine ⟨(z : Int) - l, p + 1, I', J1, fun a r ha => a2 a r (Or.inl ha), Or.inl ⟨⟨M, hMin, hit0.mp h0, fun t ht => hno t (by omega)⟩, rfl, q1, fun j hj => q2 j (by omega)⟩, ?_⟩
        have ep : iI (p : Int) + 1 = iI ((p + 1 : Nat) : Int) := by rw [iI_1, iI_add]; rfl
        show b_Search_traceFrom_55 N (f_Search_traceFrom_55 N fu) s (b + 15) _ _ _ _ _ _ _ = _
        unfold b_Search_traceFrom_55 f_Search_lay
        rw [if_neg hlt]
        simp only [s_rd, zck_t, hmay, hfo, Option.bind_some, a3, hrd]
        rw [if_neg (by decide), if_pos (hc1.mpr h0), ep, iI_sub, iI_m1, q3]; rfl
      · obtain ⟨J2, b1', b2', b3'⟩ := w_addSpan (N := N) hW hS1 hP (by omega) (p := p) (l := l) (u := z) hp t2 hz hfit (fun k hk => by
          rw [slE_t]
          have := (hc.2.2.2.2.2.2.2.1 k hk.1).1
          exact (hL (c.2 7 k).toNat (by omega) (by omega)).same (fun q => a2 _ q (Or.inl (by omega)))) a1 (fun v hv => Lv_bd hc (cu := 1024) (su := 1) (by omega) (by omega) hp (by omega) (by omega) (t := (z : Int) - l) ⟨hfit, Or.inl (hv.resolve_left (fun q => q))⟩)
        have hE : ∀ a r, (a ≠ y.1 + 2 ∨ r < z * y.2.2.1 ∨ z * y.2.2.1 + y.2.2.1 ≤ r) → J2 a r = JS a r := fun a r hr => (b2' a r hr).trans (a2 a r hr)
        have n0 : ¬ Hit0 c p l g M ((z : Int) - l) := fun q => h0 (hit0.mpr q)
        rcases c_sp_spec hc (p := p) with ⟨esp, hnok⟩ | ⟨k, esp, hk, -⟩
        · obtain ⟨t, q, I', JS', g1, g2, g3⟩ := hnext J2 hE n0 (fun ⟨_, k, hk, _⟩ => hnok k hk)
          refine ⟨t, q, I', JS', g1, g2, ?_⟩
          show b_Search_traceFrom_55 N (f_Search_traceFrom_55 N fu) s (b + 15) _ _ _ _ _ _ _ = _
          unfold b_Search_traceFrom_55 f_Search_traceFrom_176
          rw [if_neg hlt]
          simp only [s_rd, zck_t, hmay, hfo, Option.bind_some, a3, hrd, hc1, h0, if_false, b3', ez]
          rw [if_neg (by decide), esp, iI_m1, if_pos rfl]
          rw [esp] at g3
          exact g3
        · obtain ⟨hk1, hk2, hk3⟩ := id hk
          have hK := hc.2.2.2.2.2.1
          obtain ⟨⟨r1, r2, r3⟩, -⟩ := hc.2.2.2.2.2.2.2.1 k hk1
          obtain ⟨m2, e2, c2⟩ := b1'.first (by omega)
          rw [hw1, Nat.mul_one] at e2
          have hb2 : 0 ≤ m2 ∧ m2 ≤ 1152921504606846976 := by
            rcases c2 with ⟨q, -⟩ | q
            · omega
            · have := Lv_bd hc (cu := 1024) (su := 1) (by omega) (by omega) hp (by omega) (by omega) (l := (l : Int)) (v := m2) (t := (z : Int) - l) ⟨hfit, by
                rcases q.1 with (w | w) | w
                · exact w.elim
                · exact Or.inl w
                · exact Or.inr w⟩
              omega
          have hit1 : m2 = M + 1024 * c_pc c p l ↔ Hit1 c p l g M ((z : Int) - l) := by
            constructor
            · intro e
              rcases c2 with ⟨q, -⟩ | q
              · omega
              · rcases q.1 with (w | ⟨v, hv, w⟩) | ⟨k', hk', v, hv, w⟩
                · exact w.elim
                · exact absurd ⟨hfo, by rw [show M = v by omega]; exact hv⟩ n0
                · exact ⟨hfo, k', hk', by rw [show M = v by omega]; exact hv⟩
            · rintro ⟨-, k', hk', hv⟩
              rcases c2 with ⟨-, q⟩ | q
              · exact absurd (Or.inr ⟨k', hk', M, hv, rfl⟩) (q (M + 1024 * c_pc c p l))
              · have w1 := q.2 (M + 1024 * c_pc c p l) (Or.inr ⟨k', hk', M, hv, rfl⟩)
                rcases q.1 with (w | ⟨v, hv2, w⟩) | ⟨k2, hk2', v, hv2, w⟩
                · exact w.elim
                · have := hup v (Or.inl hv2); omega
                · have := hup v (Or.inr ⟨k2, hk2', hv2⟩); omega
          have hc2 : lg_cmp (iJ m2) (iJ (M + 1024 * c_pc c p l)) = 0 ↔ m2 = M + 1024 * c_pc c p l := lgc_0 (by omega) (by omega) (by omega) (by omega)
          have hrd2 := sa_J (h := CH h b x I J) (s := s) (y := y) (I := IS) (J := J2) (i := y.1 + 2) (v := iI (z : Int)) (by omega) (by omega) hin
          rw [hcl, e2] at hrd2
          have hkm : ¬ iI (k : Int) = (-1 : Int32) := fun q => by rw [iI_m1] at q; have := (iI_eq (by omega) (by omega) (by omega) (by omega)).mp q; omega
          by_cases h1 : m2 = M + 1024 * c_pc c p l
          · have hC' : CC (u2 I 15 5 (iI ((u ||| 2 ^ k : Nat) : Int))) J x c := hC.same ⟨rfl, rfl⟩ (fun i q _ _ => u2_n (by omega)) (fun _ => rfl)
            have hW' := mkW (h := h) hc hC' hA
            obtain ⟨I', q1, q2, q3⟩ := tr_lay (N := N) (h := h) (IS := IS) (JS := J2) (J := J) (x := x) hc hA (to := (c.2 7 k).toNat) (by omega) (t := (z : Int) - l) (kk := k) ((c.2 7 k).toNat - p) N p (u2 I 15 5 (iI ((u ||| 2 ^ k : Nat) : Int))) l (by omega) (by omega) hC' (by rw [u2_n (by omega)]; exact t1)
            refine ⟨(z : Int) - l, (c.2 7 k).toNat, I', J2, fun a r ha => hE a r (Or.inl ha), Or.inr ⟨k, hk, ⟨M, hMin, ⟨n0, hit1.mp h1⟩, fun t ht => hno t (by omega)⟩, rfl, q1, fun j hj => q2 j (by omega)⟩, ?_⟩
            have hto : iI (c.2 7 k) = iI (((c.2 7 k).toNat : Nat) : Int) := by congr 1; omega
            have hbit := bit_or ⟨u, hu64⟩ ⟨k, by omega⟩
            show b_Search_traceFrom_55 N (f_Search_traceFrom_55 N fu) s (b + 15) _ _ _ _ _ _ _ = _
            unfold b_Search_traceFrom_55 f_Search_lay
            rw [if_neg hlt, esp]
            rw [esp] at b3'
            simp only [s_rd, zck_t, hmay, hfo, Option.bind_some, a3, hrd, hc1, h0, if_false, b3', if_neg hkm, hrd2]
            rw [if_neg (by decide), if_pos (hc2.mpr h1)]
            simp only [th_rd hA, hu5, hbit, Option.bind_some, t_w5 hA, s_rd, hW'.2.1, w_rd hW', w_sp hW' hk1, hto, iI_sub, zck_t, q3]
          · obtain ⟨t, q, I', JS', g1, g2, g3⟩ := hnext J2 hE n0 (fun q => h1 (hit1.mpr q))
            refine ⟨t, q, I', JS', g1, g2, ?_⟩
            show b_Search_traceFrom_55 N (f_Search_traceFrom_55 N fu) s (b + 15) _ _ _ _ _ _ _ = _
            unfold b_Search_traceFrom_55 f_Search_traceFrom_176
            rw [if_neg hlt]
            rw [esp] at b3' g3
            rw [esp]
            simp only [s_rd, zck_t, hmay, hfo, Option.bind_some, a3, hrd, hc1, h0, if_false, b3', if_neg hkm, hrd2, hc2, h1, ez]
            rw [if_neg (by decide)]
            exact g3
    · obtain ⟨t, q, I', JS', g1, g2, g3⟩ := hnext JS (fun _ _ _ => rfl) (fun q => hfo q.1) (fun q => hfo q.1)
      refine ⟨t, q, I', JS', g1, g2, ?_⟩
      show b_Search_traceFrom_55 N (f_Search_traceFrom_55 N fu) s (b + 15) _ _ _ _ _ _ _ = _
      unfold b_Search_traceFrom_55 f_Search_traceFrom_176
      rw [if_neg hlt]
      simp only [s_rd, zck_t, hmay, (Bool.not_eq_true _).mp hfo, Option.bind_some, ez]
      rw [if_pos (by decide)]
      exact g3
/-- what the trace needs of the search -/
def FdS (JS : Nat → Nat → Int64) (y : sx) (c : cfg) (f : Int) : Prop := LAall JS y c ∧ RF JS (y.1 + 3) 0 y.2.2.1 (U0 c 1024 1 (mm c + 1)) ∧ StL c 1024 1 (mm c + 1) f
theorem tr_want (hc : cOK c) (hC : CC I J x c) (hA : Apart s b y c) (hP : Par c y true 1024 1) {p l : Nat} {g f : Int} (hp : p < nn c) (hT : TS I c p l g) {JS : Nat → Nat → Int64} (hS : Stat IS JS y true 1024 1) (hF : FdS JS y c f) (hf : p = 0 → (l : Int) = f) (hex : ∃ q, SV c 1024 1 p l g q) :
    ∃ M, isMin (SV c 1024 1 p l g) M ∧ f_Search_wantedAt N s (b + 15) (iI p) (TH h b x I J s y IS JS) = some (iJ (M + 1024 * c_pc c p l), TH h b x I J s y IS JS) := by
  have hn := nn_r hc
  have hm := mm_r hc
  have hw1 : y.2.2.1 = 1 := by
    rcases hP with q | q
    · exact q.2.2.1
    · exact absurd q.1 (by decide)
  have hyn : y.1 = nn c + 1 := by
    rcases hP with q | q
    · exact q.2.1
    · exact absurd q.1 (by decide)
  obtain ⟨t1, t2, t3, t4⟩ := hT
  obtain ⟨q0, hq0⟩ := hex
  have hW := mkW (h := h) hc hC hA
  rcases t4 with ⟨e1, e2⟩ | ⟨l0, e1, e2, e3, e4, e5⟩
  · subst e1; subst e2
    obtain ⟨m0, hm0, hc0⟩ := hF.2.1.first (by omega)
    have hin0 : U0 c 1024 1 (mm c + 1) (q0 + 1024 * c_pc c 0 l) := ⟨l, by omega, t3, q0, hq0, rfl⟩
    have hmin := hc0.resolve_left (fun q => q.2 _ hin0)
    obtain ⟨-, ⟨-, M, hM, hMe⟩, -⟩ := hF.2.2 m0 hmin
    rw [← hf rfl] at hM hMe
    refine ⟨M, ⟨hM, fun v hv => ?_⟩, ?_⟩
    · have := hmin.2 (v + 1024 * c_pc c 0 l) ⟨l, by omega, t3, v, hv, rfl⟩
      omega
    · have hsl3 : slen y (y.1 + 3) = y.2.2.1 := by unfold slen; rw [if_neg (by omega), if_neg (by omega)]
      obtain ⟨hin, hcl⟩ := nat_in (p := 0) (n := slen y (y.1 + 3)) (by rw [hsl3]; omega) (by rw [hsl3]; omega)
      have e00 : iI ((0 : Nat) : Int) = (0 : Int32) := iI_0.symm
      rw [e00] at hin hcl
      unfold f_Search_wantedAt
      rw [if_pos (by decide)]
      simp only [s_rd, Option.bind_some, sa_J (show 2 ≤ y.1 + 3 by omega) (show y.1 + 3 < y.1 + 4 by omega) hin, hcl, hm0, hMe]
  · have hLA := hF.1 p e1 (by omega) l l0 t2 e3
    obtain ⟨m0, hm0, hc0⟩ := hLA.first (by omega)
    rw [e5] at hq0 ⊢
    have hmin := hc0.resolve_left (fun q => q.2 (q0 + 1024 * c_pc c p l) ⟨t3, e4, q0, hq0, rfl⟩)
    obtain ⟨-, -, M, hM, hMe⟩ := hmin.1
    refine ⟨M, ⟨hM, fun v hv => ?_⟩, ?_⟩
    · have := hmin.2 (v + 1024 * c_pc c p l) ⟨t3, e4, v, hv, rfl⟩
      omega
    · have hix := ixS_in (y := y) (l := l) (f := l0) (by have := hA.2.2.1; omega) (by have := hA.2.2.1; omega)
      have hsl : slen y (2 + p) = y.2.1 * y.2.1 * y.2.2.1 := by unfold slen; rw [if_pos (by omega)]
      have hslb := sl_bd hW (i := 2 + p)
      obtain ⟨hin, hcl⟩ := nat_in (p := ixS y l l0) (n := slen y (2 + p)) (by rw [hsl]; omega) (by omega)
      have em : iI (p : Int) - 1 = iI ((p - 1 : Nat) : Int) := by rw [iI_1, iI_sub]; congr 1; omega
      have ei : iI (((l : Int) * (y.2.1 : Int) + (l0 : Int)) * (y.2.2.1 : Int)) = iI ((ixS y l l0 : Nat) : Int) := by unfold ixS; congr 1
      unfold f_Search_wantedAt
      rw [if_neg (fun q => by have := (iI_ez (by omega) (by omega)).mp q; omega)]
      simp only [s_rd, Option.bind_some, sa_R (show p < y.1 by omega) (show y.1 ≤ 1000000 by omega), th_rd hA, t_a16 hC hA hc (show p ≤ nn c by omega), t1, em, t_a16 hC hA hc (show p - 1 ≤ nn c by omega), e2, zck_t, w_index hS, ei, sa_J (show 2 ≤ 2 + p by omega) (show 2 + p < y.1 + 4 by omega) hin, hcl, hm0, hMe]
end CTRACE2
