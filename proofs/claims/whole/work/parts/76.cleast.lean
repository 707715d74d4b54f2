/-! the class: fillLeast, fillLayers -/
def V0g (c : cfg) (cu su : Int) (l v : Int) : Prop := c_ok c 0 l = true ∧ ∃ q, SV c cu su 0 l 49 q ∧ v = q + cu * c_pc c 0 l
def U0 (c : cfg) (cu su : Int) (M : Nat) (v : Int) : Prop := ∃ l : Nat, l < M ∧ V0g c cu su l v
/-- f is the lowest level that has the least value -/
def StL (c : cfg) (cu su : Int) (M : Nat) (f : Int) : Prop := ∀ m0, isMin (U0 c cu su M) m0 → (0 ≤ f ∧ f < M) ∧ V0g c cu su f m0 ∧ ∀ l' : Nat, (l' : Int) < f → ∀ v, V0g c cu su l' v → m0 < v
theorem RF.first {J : Nat → Nat → Int64} {i f w : Nat} {S : Int → Prop} (hw : 1 ≤ w) (h : RF J i f w S) : ∃ m0, J i f = iJ m0 ∧ ((m0 = 1152921504606846976 ∧ ∀ v, ¬ S v) ∨ isMin S m0) := by
  obtain ⟨L, h1, h2⟩ := h
  cases L with
  | nil =>
    refine ⟨1152921504606846976, ?_, Or.inl ⟨rfl, fun v hv => ?_⟩⟩
    · have := h1 0 1152921504606846976 (by
        unfold pd
        rw [List.nil_append, List.getElem?_replicate, if_pos (by simp; omega)])
      rw [Nat.add_zero] at this
      exact this
    · rcases h2.2.2.2 v hv with a | ⟨a, -⟩
      · exact absurd a List.not_mem_nil
      · simp at a; omega
  | cons a t =>
    refine ⟨a, ?_, Or.inr ⟨h2.2.2.1 a List.mem_cons_self, fun v hv => ?_⟩⟩
    · have := h1 0 a rfl
      rw [Nat.add_zero] at this
      exact this
    · rcases h2.2.2.2 v hv with e | ⟨-, e⟩
      · rcases List.mem_cons.mp e with e | e
        · omega
        · have := (List.pairwise_cons.mp h2.1).1 v e; omega
      · have := e a List.mem_cons_self; omega
theorem SV_pair {c : cfg} (hc : cOK c) : ∀ (r p : Nat) (l g q : Int), nn c ≤ p + r → p ≤ nn c → SV c 1024 1 p l g q → ∃ a d : Int, q = 1024 * a + d ∧ (0 ≤ a ∧ a ≤ ((nn c - p : Nat) : Int) * 10000000000) ∧ 0 ≤ d ∧ d ≤ 24 * ((nn c - p : Nat) : Int) := by
  obtain ⟨n1, n2, n3⟩ := nn_r hc
  have h7 := hc.2.2.1
  intro r
  induction r with
  | zero =>
    intro p l g q h1 h2 h
    rw [SV_n (by omega)] at h
    exact ⟨0, 0, by omega, by omega, by omega⟩
  | succ r ih =>
    intro p l g q h1 h2 h
    by_cases hp : nn c ≤ p
    · rw [SV_n hp] at h
      exact ⟨0, 0, by omega, by omega, by omega⟩
    · rw [SV_s (by omega)] at h
      obtain ⟨t, ht, ⟨ho, z, hz, rfl⟩ | ⟨k, hk, hu, z, hz, rfl⟩⟩ := h
      · obtain ⟨a, d, e, r1, r2⟩ := ih _ _ _ _ (by omega) (by omega) hz
        have hl := c_ok_r ho
        have hpc := c_pc_r hc (p := p + 1) (l := l + t) (by omega) hl.1 hl.2
        have hft := c_fol_r ht
        exact ⟨a + c_pc c (p + 1) (l + t), d + t.natAbs, by omega, by omega, by omega⟩
      · obtain ⟨hk1, hk2, hk3⟩ := id hk
        obtain ⟨⟨k1, k2, k3⟩, -, kc1, kc2⟩ := hc.2.2.2.2.2.2.2.1 k hk1
        obtain ⟨a, d, e, r1, r2⟩ := ih _ _ _ _ (by omega) (by omega) hz
        have hl := c_ok_r (c_use_end hc hk hu)
        have hpc := c_pc_r hc (p := (c.2 7 k).toNat) (l := l + (c.2 7 k - p) * t) (by omega) hl.1 hl.2
        have hft := c_fol_r ht
        have b3 : 0 ≤ (c.2 7 k - p) * (t.natAbs : Int) ∧ (c.2 7 k - p) * (t.natAbs : Int) ≤ (c.2 7 k - p) * 24 := ⟨Int.mul_nonneg (by omega) (by omega), Int.mul_le_mul_of_nonneg_left (by omega) (by omega)⟩
        exact ⟨a + (c_pc c (c.2 7 k).toNat (l + (c.2 7 k - p) * t) + c.2 9 k), d + (c.2 7 k - p) * t.natAbs, by omega, by omega, by omega⟩
section CLEAST
variable {h : zH} {s b : Nat} {y : sx} {x : cx} {I : Nat → Nat → Int32} {J : Nat → Nat → Int64} {c : cfg} {N : Nat} {tr : Bool} {cu su : Int}
theorem V0g_bd (hc : cOK c) (hP : Par c y tr cu su) {l v : Int} (h : V0g c cu su l v) : 0 ≤ v ∧ v ≤ 100000000000000 := by
  obtain ⟨n1, n2, n3⟩ := nn_r hc
  obtain ⟨hcu, hsu⟩ := hP.cs
  obtain ⟨ho, q, hq, rfl⟩ := h
  have hr := SV_bd hc hcu hsu (nn c) 0 l _ q (by omega) (by omega) hq
  have hl := c_ok_r ho
  have hpc := c_pc_r hc (p := 0) (l := l) (by omega) hl.1 hl.2
  have b1 := mul_bd (show 0 ≤ cu by omega) hcu.2 hpc.1 hpc.2
  omega
theorem V0g_U (hc : cOK c) {l : Nat} (hl : l ≤ mm c) (ho : c_ok c 0 l = true) {v : Int} : V0g c cu su l v ↔ Ug c cu su 0 l (max 0 ((l : Int) - c.1 7)) (min (c.1 1) ((l : Int) + c.1 7)) v := by
  have hm := mm_r hc
  have hn := nn_r hc
  have h7 := hc.2.2.1
  unfold V0g Ug
  constructor
  · rintro ⟨-, q, hq, rfl⟩
    rw [SV_s (by omega)] at hq
    obtain ⟨t, ht, hq⟩ := hq
    obtain ⟨t1, -⟩ := c_fol_fit.mp ht
    have tr := c_fit_r t1
    have hu : 0 ≤ (l : Int) + t ∧ (l : Int) + t ≤ c.1 1 := by
      rcases hq with ⟨o, -⟩ | ⟨k, hk, hu, -⟩
      · exact c_ok_r o
      · obtain ⟨hk1, hk2, hk3⟩ := id hk
        have := (hc.2.2.2.2.2.2.2.1 k hk1).1
        rw [c_use_eq] at hu
        have h0 := List.all_eq_true.mp hu 0 (List.mem_range.mpr (by omega))
        have h1 := c_ok_r (Bool.and_eq_true_iff.mp h0).1
        simpa using h1
    obtain ⟨u, hue⟩ : ∃ u : Nat, (u : Int) = (l : Int) + t := ⟨((l : Int) + t).toNat, by omega⟩
    refine ⟨u, by omega, by omega, by omega, ?_⟩
    rw [show (u : Int) - l = t by omega]
    refine ⟨t1, ?_⟩
    rcases hq with hq | ⟨k, hk, hq⟩
    · exact Or.inl ⟨q, hq, rfl⟩
    · exact Or.inr ⟨k, hk, q, hq, rfl⟩
  · rintro ⟨u, u1, u2, u3, u4, u5⟩
    have hfo : c_fol c ((u : Int) - l) 49 = true := c_fol_fit.mpr ⟨u4, Or.inl rfl⟩
    refine ⟨ho, ?_⟩
    rcases u5 with ⟨q, hq, rfl⟩ | ⟨k, hk, q, hq, rfl⟩
    · exact ⟨q, (SV_s (by omega)).mpr ⟨_, hfo, Or.inl hq⟩, rfl⟩
    · exact ⟨q, (SV_s (by omega)).mpr ⟨_, hfo, Or.inr ⟨k, hk, hq⟩⟩, rfl⟩
theorem U0_s {M : Nat} {v : Int} : U0 c cu su (M + 1) v ↔ U0 c cu su M v ∨ V0g c cu su M v := by
  constructor
  · rintro ⟨l, h1, h2⟩
    by_cases e : l = M
    · subst e; exact Or.inr h2
    · exact Or.inl ⟨l, by omega, h2⟩
  · rintro (⟨l, h1, h2⟩ | h)
    · exact ⟨l, by omega, h2⟩
    · exact ⟨M, by omega, h⟩
/-- the start level alone may have changed -/
def SameI (IS IS' : Nat → Nat → Int32) : Prop := ∀ i k, i ≠ 0 ∨ k ≠ 10 → IS' i k = IS i k
theorem Stat.sameI {IS IS' : Nat → Nat → Int32} {JS : Nat → Nat → Int64} (hS : Stat IS JS y tr cu su) (h : SameI IS IS') : Stat IS' JS y tr cu su := ⟨by rw [h 0 2 (by omega)]; exact hS.1, by rw [h 0 3 (by omega)]; exact hS.2.1, by rw [h 0 4 (by omega)]; exact hS.2.2.1, hS.2.2.2.1, hS.2.2.2.2⟩
theorem w_least12 (hW : World h s b y x I J c) (hP : Par c y tr cu su) (hN : 4000 ≤ N) :
    ∀ (d fu z : Nat) (IS : Nat → Nat → Int32) (JS : Nat → Nat → Int64) (f : Int), z + d = mm c + 1 → d < fu → Stat IS JS y tr cu su → LA JS y c cu su (2 + slt tr 1) 1 → (∀ k, c_at c k 0 → LA JS y c cu su (2 + slE tr (c.2 7 k).toNat) (c.2 7 k).toNat) → RF JS (y.1 + 3) 0 y.2.2.1 (U0 c cu su z) → IS 0 10 = iI f → StL c cu su z f →
    ∃ IS' JS' f', SameI IS IS' ∧ (∀ a q, a ≠ y.1 + 2 → a ≠ y.1 + 3 → JS' a q = JS a q) ∧ RF JS' (y.1 + 3) 0 y.2.2.1 (U0 c cu su (mm c + 1)) ∧ IS' 0 10 = iI f' ∧ StL c cu su (mm c + 1) f' ∧ f_Search_fillLeast_12 N fu s (iI z) (SH h s y IS JS) = some ((), SH h s y IS' JS') := by
  have hc := hW.1.1
  have hm := mm_r hc
  have hn := nn_r hc
  have h7 := hc.2.2.1
  have hwd := hW.2.2.1
  have hw := hW.2.2.2.1
  have hsl3 : slen y (y.1 + 3) = y.2.2.1 := by unfold slen; rw [if_neg (by omega), if_neg (by omega)]
  intro d
  induction d with
  | zero =>
    intro fu z IS JS f hd hf hS hA hA2 hR hf10 hSt
    obtain ⟨fu, rfl⟩ : ∃ q, fu = q + 1 := ⟨fu - 1, by omega⟩
    have e : mm c + 1 = z := by omega
    refine ⟨IS, JS, f, fun _ _ _ => rfl, fun _ _ _ _ => rfl, by rw [e]; exact hR, hf10, by rw [e]; exact hSt, ?_⟩
    show b_Search_fillLeast_12 N (f_Search_fillLeast_12 N fu) s _ _ = _
    unfold b_Search_fillLeast_12
    simp only [s_rd, Option.bind_some, hS.1]
    rw [if_pos ((iI_le (by omega) (by omega) (by omega) (by omega)).mpr (by omega))]
  | succ d ih =>
    intro fu z IS JS f hd hf hS hA hA2 hR hf10 hSt
    obtain ⟨fu, rfl⟩ : ∃ q, fu = q + 1 := ⟨fu - 1, by omega⟩
    have hz : z ≤ mm c := by omega
    have ez : iI (z : Int) + 1 = iI ((z + 1 : Nat) : Int) := by rw [iI_1, iI_add]; rfl
    have hal : f_Site_allows N (b + 1) (0 : Int32) (iI z) (SH h s y IS JS) = some (b1 (c_al c 0 z), SH h s y IS JS) := w_allows (N := N) (IS := IS) (JS := JS) hW (p := 0) (l := (z : Int)) (by omega) ⟨by omega, by omega⟩
    have hbU : ∀ M v, U0 c cu su M v → 0 ≤ v ∧ v ≤ 100000000000000 := fun M v ⟨l, _, hv⟩ => V0g_bd hc hP hv
    by_cases hall : c_al c 0 z = true
    · have ho : c_ok c 0 z = true := by rw [c_ok_al (by omega) (by omega)]; exact hall
      obtain ⟨m0, hm0, hm0c⟩ := hR.first hw.1
      obtain ⟨J1, r1, r2, r3⟩ := w_fillLeaving (IS := IS) (N := N) hW hS hP hN (p := 0) (l := z) (by omega) hz hA hA2
      have hS1 : Stat IS J1 y tr cu su := hS.same (fun k => r2 0 k (by omega))
      obtain ⟨hi, hhi⟩ : ∃ hi : Int, hi = min (c.1 1) ((z : Int) + c.1 7) := ⟨_, rfl⟩
      obtain ⟨lo, hlo⟩ : ∃ lo : Nat, (lo : Int) = max 0 ((z : Int) - c.1 7) := ⟨(max 0 ((z : Int) - c.1 7)).toNat, by omega⟩
      obtain ⟨J2, t1, t2, t3⟩ := w_gather (IS := IS) (N := N) hW hP (by omega) (i := y.1 + 3) (f := 0) (p := 0) (l := z) (to := hi) (by omega) (by omega) (by omega) (by rw [hsl3]; omega) (by omega) hz (by omega) (by omega) 30 N lo J1 (U0 c cu su z) (by omega) (by omega) (by omega) hS1 r1 (hR.same (fun q _ _ => r2 _ q (by omega))) (hbU z)
      have t1' : RF J2 (y.1 + 3) 0 y.2.2.1 (U0 c cu su (z + 1)) := t1.congr (fun v => by
        rw [U0_s, V0g_U hc hz ho, ← hlo, ← hhi])
      have hE : ∀ a q, a ≠ y.1 + 2 → a ≠ y.1 + 3 → J2 a q = JS a q := fun a q a1 a2 => (t2 a q (Or.inl a2)).trans (r2 a q a1)
      obtain ⟨m1, hm1, hm1c⟩ := t1'.first hw.1
      obtain ⟨hin0, hcl0⟩ := nat_in (p := 0) (n := slen y (y.1 + 3)) (by rw [hsl3]; omega) (by rw [hsl3]; omega)
      have e00 : iI ((0 : Nat) : Int) = (0 : Int32) := iI_0.symm
      rw [e00] at hin0 hcl0
      have b0 : 0 ≤ m0 ∧ m0 ≤ 1152921504606846976 := by
        rcases hm0c with ⟨q, -⟩ | q
        · omega
        · have := hbU _ _ q.1; omega
      have b1' : 0 ≤ m1 ∧ m1 ≤ 1152921504606846976 := by
        rcases hm1c with ⟨q, -⟩ | q
        · omega
        · have := hbU _ _ q.1; omega
      have hS2 : Stat IS J2 y tr cu su := hS.same (fun k => hE 0 k (by omega) (by omega))
      have hA' : LA J2 y c cu su (2 + slt tr 1) 1 := hA.same (fun q => hE _ q (by have := (hP.sl (q := 1) (by omega)).1; omega) (by have := (hP.sl (q := 1) (by omega)).1; omega))
      have hA2' : ∀ k, c_at c k 0 → LA J2 y c cu su (2 + slE tr (c.2 7 k).toNat) (c.2 7 k).toNat := fun k hk => (hA2 k hk).same (fun q => by
        have := (hP.sl (q := (c.2 7 k).toNat) (by have := (hc.2.2.2.2.2.2.2.1 k hk.1).1; omega)).2
        exact hE _ q (by omega) (by omega))
      have hcmp : 0 ≤ lg_cmp (iJ m1) (iJ m0) ↔ m0 ≤ m1 := lgc_nn (by omega) (by omega) (by omega) (by omega)
      have hr3 : f_Search_fillLeaving N s (0 : Int32) (iI z) (SH h s y IS JS) = some ((), SH h s y IS J1) := by rw [← e00]; exact r3
      have ht3 : f_Search_gather N s (s + (y.1 + 3)) (0 : Int32) (iI lo) (iI hi) (SH h s y IS J1) = some ((), SH h s y IS J2) := by rw [← e00]; exact t3
      have hbody : f_Search_fillLeast_12 N (fu + 1) s (iI z) (SH h s y IS JS) = if m0 ≤ m1 then f_Search_fillLeast_12 N fu s (iI ((z + 1 : Nat) : Int)) (SH h s y IS J2) else f_Search_fillLeast_12 N fu s (iI ((z + 1 : Nat) : Int)) (SH h s y (u2 IS 0 10 (iI z)) J2) := by
        show b_Search_fillLeast_12 N (f_Search_fillLeast_12 N fu) s _ _ = _
        unfold b_Search_fillLeast_12 f_Search_fillLeast_89
        simp only [s_rd, Option.bind_some, hS.1, hW.2.1, w_rd hW, zck_t, hal, hall, sa_J (show 2 ≤ y.1 + 3 by omega) (show y.1 + 3 < y.1 + 4 by omega) hin0, hcl0, hm0, hr3, w_lowest hW (show 0 ≤ (z : Int) by omega) (show (z : Int) ≤ 24 by omega), w_highest hW (show 0 ≤ (z : Int) by omega) (show (z : Int) ≤ 24 by omega), ← hlo, ← hhi, ht3, hm1, hcmp, s_w10, ez]
        rw [if_neg (fun q => by have := (iI_le (by omega) (by omega) (by omega) (by omega)).mp q; omega), if_neg (by decide)]
      rw [hbody]
      by_cases hcm : m0 ≤ m1
      · rw [if_pos hcm]
        obtain ⟨IS3, JS3, f3, g1, g2, g3, g4, g5, g6⟩ := ih fu (z + 1) IS J2 f (by omega) (by omega) hS2 hA' hA2' t1' hf10 (fun mm0 hmm => by
          rcases hm1c with ⟨q, hq⟩ | hq
          · exact absurd hmm.1 (hq _)
          · have e1 := hmm.uniq hq
            subst e1
            rcases hm0c with ⟨q, hq0⟩ | hq0
            · have := hbU _ _ hq.1; omega
            · have := hq.2 _ (U0_s.mpr (Or.inl hq0.1))
              have e2 : mm0 = m0 := by omega
              subst e2
              obtain ⟨w1, w2, w3⟩ := hSt _ hq0
              exact ⟨⟨w1.1, by omega⟩, w2, w3⟩)
        exact ⟨IS3, JS3, f3, g1, fun a q a1 a2 => (g2 a q a1 a2).trans (hE a q a1 a2), g3, g4, g5, g6⟩
      · rw [if_neg hcm]
        have hI : SameI IS (u2 IS 0 10 (iI z)) := fun i k hik => u2_n (by omega)
        obtain ⟨IS3, JS3, f3, g1, g2, g3, g4, g5, g6⟩ := ih fu (z + 1) (u2 IS 0 10 (iI z)) J2 z (by omega) (by omega) (hS2.sameI hI) hA' hA2' t1' u2_s (fun mm0 hmm => by
          rcases hm1c with ⟨q, hq⟩ | hq
          · exact absurd hmm.1 (hq _)
          · have e1 := hmm.uniq hq
            subst e1
            refine ⟨by omega, ?_, fun l' hl' v hv => ?_⟩
            · rcases U0_s.mp hq.1 with w | w
              · rcases hm0c with ⟨q, hq0⟩ | hq0
                · exact absurd w (hq0 _)
                · have := hq0.2 _ w; omega
              · exact w
            · rcases hm0c with ⟨q, hq0⟩ | hq0
              · exact absurd ⟨l', by omega, hv⟩ (hq0 v)
              · have := hq0.2 v ⟨l', by omega, hv⟩; omega)
        exact ⟨IS3, JS3, f3, fun i k hik => (g1 i k hik).trans (hI i k hik), fun a q a1 a2 => (g2 a q a1 a2).trans (hE a q a1 a2), g3, g4, g5, g6⟩
    · have hno : ∀ v, ¬ V0g c cu su z v := fun v q => hall (by have := q.1; rw [c_ok_al (by omega) (by omega)] at this; exact this)
      have hiff : ∀ v, U0 c cu su z v ↔ U0 c cu su (z + 1) v := fun v => by
        rw [U0_s]
        exact ⟨Or.inl, fun q => q.resolve_right (hno v)⟩
      obtain ⟨IS3, JS3, f3, g1, g2, g3, g4, g5, g6⟩ := ih fu (z + 1) IS JS f (by omega) (by omega) hS hA hA2 (hR.congr hiff) hf10 (fun mm0 hmm => by
        obtain ⟨w1, w2, w3⟩ := hSt mm0 ⟨(hiff _).mpr hmm.1, fun v hv => hmm.2 v ((hiff v).mp hv)⟩
        exact ⟨⟨w1.1, by omega⟩, w2, w3⟩)
      refine ⟨IS3, JS3, f3, g1, g2, g3, g4, g5, ?_⟩
      show b_Search_fillLeast_12 N (f_Search_fillLeast_12 N fu) s _ _ = _
      unfold b_Search_fillLeast_12 f_Search_fillLeast_89
      simp only [s_rd, Option.bind_some, hS.1, hW.2.1, w_rd hW, zck_t, hal, (Bool.not_eq_true _).mp hall, ez]
      rw [if_neg (fun q => by have := (iI_le (by omega) (by omega) (by omega) (by omega)).mp q; omega), if_pos (by decide)]
      exact g6
theorem w_fillLeast (hW : World h s b y x I J c) (hP : Par c y tr cu su) (hN : 4000 ≤ N) {IS : Nat → Nat → Int32} {JS : Nat → Nat → Int64} (hS : Stat IS JS y tr cu su) (hA : LA JS y c cu su (2 + slt tr 1) 1) (hA2 : ∀ k, c_at c k 0 → LA JS y c cu su (2 + slE tr (c.2 7 k).toNat) (c.2 7 k).toNat) :
    ∃ IS' JS' f', SameI IS IS' ∧ (∀ a q, a ≠ y.1 + 2 → a ≠ y.1 + 3 → JS' a q = JS a q) ∧ RF JS' (y.1 + 3) 0 y.2.2.1 (U0 c cu su (mm c + 1)) ∧ IS' 0 10 = iI f' ∧ StL c cu su (mm c + 1) f' ∧ f_Search_fillLeast N s (SH h s y IS JS) = some ((), SH h s y IS' JS') := by
  have hc := hW.1.1
  have hm := mm_r hc
  have hn := nn_r hc
  have hw := hW.2.2.2.1
  have hsl3 : slen y (y.1 + 3) = y.2.2.1 := by unfold slen; rw [if_neg (by omega), if_neg (by omega)]
  obtain ⟨J1, f1, f2, f3⟩ := w_fill (IS := IS) (JS := JS) (N := N) hW hN (i := y.1 + 3) (by omega) (by omega)
  obtain ⟨IS2, J2, f, g1, g2, g3, g4, g5, g6⟩ := w_least12 (N := N) hW hP hN (mm c + 1) N 0 IS J1 (IS 0 10).toInt (by omega) (by omega) (hS.same (fun k => f2 0 k (Or.inl (by omega)))) (hA.same (fun q => f2 _ q (Or.inl (by have := (hP.sl (q := 1) (by omega)).1; omega)))) (fun k hk => (hA2 k hk).same (fun q => f2 _ q (Or.inl (by
    have := (hP.sl (q := (c.2 7 k).toNat) (by have := (hc.2.2.2.2.2.2.2.1 k hk.1).1; omega)).2
    omega)))) ((RF.nil (fun q q1 q2 => f1 q (by rw [hsl3]; omega))).congr (fun v => ⟨fun z => z.elim, fun ⟨l, hl, _⟩ => by omega⟩)) (iI_of _) (fun m0 hm0 => by
    obtain ⟨l, hl, -⟩ := hm0.1
    omega)
  refine ⟨IS2, J2, f, g1, fun a q a1 a2 => (g2 a q a1 a2).trans (f2 a q (Or.inl a2)), g3, g4, g5, ?_⟩
  rw [show iI ((0 : Nat) : Int) = (0 : Int32) from iI_0.symm] at g6
  unfold f_Search_fillLeast
  simp only [s_rd, Option.bind_some, f3]
  exact g6
/-- what is filled of the layers behind a place -/
def LInv (JS : Nat → Nat → Int64) (y : sx) (c : cfg) (tr : Bool) (cu su : Int) (p : Nat) : Prop := (p < nn c → LA JS y c cu su (2 + slt tr (p + 1)) (p + 1)) ∧
  (∀ e, p < e → e ≤ nn c → c_ends c e → (∀ e', p < e' → e' < e → ¬ c_ends c e') → LA JS y c cu su (2 + slE tr e) e) ∧ (tr = true → ∀ q, p < q → q ≤ nn c → LA JS y c cu su (2 + q) q)
theorem LInv.span (hc : cOK c) {JS : Nat → Nat → Int64} {p : Nat} (hI : LInv JS y c tr cu su p) : ∀ k, c_at c k p → LA JS y c cu su (2 + slE tr (c.2 7 k).toNat) (c.2 7 k).toNat := by
  have hn := nn_r hc
  intro k hk
  obtain ⟨hk1, hk2, hk3⟩ := id hk
  obtain ⟨⟨r1, r2, r3⟩, -⟩ := hc.2.2.2.2.2.2.2.1 k hk1
  refine hI.2.1 _ (by omega) (by omega) ⟨k, hk1, by omega⟩ (fun e' a1 a2 ⟨j, j1, j2⟩ => ?_)
  obtain ⟨⟨q1, q2, q3⟩, -⟩ := hc.2.2.2.2.2.2.2.1 j j1
  have := hc.2.2.2.2.2.2.2.2 j k j1 hk1 (fun e => by subst e; omega)
  omega
theorem w_layers8 (hW : World h s b y x I J c) (hP : Par c y tr cu su) (hN : 4000 ≤ N) {IS : Nat → Nat → Int32} :
    ∀ (p fu : Nat) (JS : Nat → Nat → Int64), p ≤ nn c → p < fu → Stat IS JS y tr cu su → LInv JS y c tr cu su p →
    ∃ IS' JS' f', SameI IS IS' ∧ Stat IS' JS' y tr cu su ∧ RF JS' (y.1 + 3) 0 y.2.2.1 (U0 c cu su (mm c + 1)) ∧ IS' 0 10 = iI f' ∧ StL c cu su (mm c + 1) f' ∧ (tr = true → ∀ q, 0 < q → q ≤ nn c → LA JS' y c cu su (2 + q) q) ∧ f_Search_fillLayers_8 N fu s (iI p) (SH h s y IS JS) = some ((), SH h s y IS' JS') := by
  have hc := hW.1.1
  have hm := mm_r hc
  have hn := nn_r hc
  have hw := hW.2.2.2.1
  have hk25 := hW.2.2.2.2
  intro p
  induction p with
  | zero =>
    intro fu JS hp hf hS hI
    obtain ⟨fu, rfl⟩ : ∃ q, fu = q + 1 := ⟨fu - 1, by omega⟩
    obtain ⟨IS', JS', f', g1, g2, g3, g4, g5, g6⟩ := w_fillLeast (N := N) hW hP hN hS (hI.1 (by omega)) (hI.span hc)
    refine ⟨IS', JS', f', g1, (hS.same (fun k => g2 0 k (by omega) (by omega))).sameI g1, g3, g4, g5, fun ht q q1 q2 => (hI.2.2 ht q q1 q2).same (fun k => ?_), ?_⟩
    · have := (hP.sl (q := q) q2).1
      unfold slt at this
      rw [if_pos ht] at this
      exact g2 _ k (by omega) (by omega)
    · show b_Search_fillLayers_8 N (f_Search_fillLayers_8 N fu) s _ _ = _
      unfold b_Search_fillLayers_8
      rw [if_pos (by decide)]
      simp only [s_rd, zck_t, g6, Option.bind_some]
  | succ p ih =>
    intro fu JS hp hf hS hI
    obtain ⟨fu, rfl⟩ : ∃ q, fu = q + 1 := ⟨fu - 1, by omega⟩
    obtain ⟨J1, r1, r2, r3⟩ := w_fillLayer (IS := IS) (N := N) hW hP hN (p := p + 1) (by omega) hp hS hI.1 (hI.span hc)
    have hS1 : Stat IS J1 y tr cu su := hS.same (fun k => r2 0 k (by omega) (by omega))
    have hsl := (hP.sl hp)
    have em : iI ((p + 1 : Nat) : Int) + (-1 : Int32) = iI (p : Int) := by rw [iI_m1, iI_add]; congr 1; omega
    obtain ⟨r, hr, hre⟩ := w_anyEnds (N := N) (IS := IS) (JS := J1) hW (by omega) (p := p + 1) hp
    have hlt : ¬ iI ((p + 1 : Nat) : Int) < (1 : Int32) := fun q => by rw [iI_1] at q; have := (iI_lt (by omega) (by omega) (by omega) (by omega)).mp q; omega
    -- without a kept layer
    have hplain : (tr = true ∨ ¬ c_ends c (p + 1)) → ∃ IS' JS' f', SameI IS IS' ∧ Stat IS' JS' y tr cu su ∧ RF JS' (y.1 + 3) 0 y.2.2.1 (U0 c cu su (mm c + 1)) ∧ IS' 0 10 = iI f' ∧ StL c cu su (mm c + 1) f' ∧ (tr = true → ∀ q, 0 < q → q ≤ nn c → LA JS' y c cu su (2 + q) q) ∧ f_Search_fillLayers_8 N fu s (iI p) (SH h s y IS J1) = some ((), SH h s y IS' JS') := by
      intro hcase
      have hthird : tr = true → ∀ q, p < q → q ≤ nn c → LA J1 y c cu su (2 + q) q := fun ht q q1 q2 => by
        by_cases e : q = p + 1
        · subst e
          have := r1
          unfold slt at this
          rw [if_pos ht] at this
          exact this
        · refine (hI.2.2 ht q (by omega) q2).same (fun k => r2 _ k ?_ ?_)
          · have := (hP.sl (q := q) q2).1
            unfold slt at this
            rw [if_pos ht] at this
            omega
          · unfold slt
            rw [if_pos ht]; omega
      refine ih fu J1 (by omega) (by omega) hS1 ⟨fun _ => r1, fun e e1 e2 e3 e4 => ?_, hthird⟩
      rcases hcase with ht | hno
      · unfold slE
        rw [if_pos ht]
        exact hthird ht e e1 e2
      · have hne : e ≠ p + 1 := fun q => by subst q; exact hno e3
        refine (hI.2.1 e (by omega) e2 e3 (fun e' a1 a2 => e4 e' (by omega) a2)).same (fun k => r2 _ k ?_ ?_)
        · have := (hP.sl (q := e) e2).2; omega
        · have := slE_ne (tr := tr) (p := p + 1) (q := e) (by omega); omega
    have hstep : f_Search_fillLayers_8 N (fu + 1) s (iI ((p + 1 : Nat) : Int)) (SH h s y IS JS) = (if tr = false then (if r = false then f_Search_fillLayers_8 N fu s (iI p) (SH h s y IS J1) else Option.bind (f_Search_keepLayer N s (iI ((p + 1 : Nat) : Int)) (SH h s y IS J1)) fun (p6 : Unit × zH) => f_Search_fillLayers_8 N fu s (iI p) p6.2) else f_Search_fillLayers_8 N fu s (iI p) (SH h s y IS J1)) := by
      show b_Search_fillLayers_8 N (f_Search_fillLayers_8 N fu) s _ _ = _
      unfold b_Search_fillLayers_8 f_Search_fillLayers_41
      rw [if_neg hlt]
      simp only [s_rd, Option.bind_some, zck_t, r3, hS1.2.2.1, b1_0, hW.2.1, w_rd hW, hre, em]
    rw [hstep]
    by_cases ht : tr = true
    · rw [if_neg (by rw [ht]; decide)]; exact hplain (Or.inl ht)
    · have htf : tr = false := (Bool.not_eq_true _).mp ht
      rw [if_pos htf]
      by_cases hrf : r = true
      · rw [if_neg (by rw [hrf]; decide)]
        have hend := hr.mp hrf
        have hsl2 : slen y (2 + slt tr (p + 1)) = y.2.1 * y.2.1 * y.2.2.1 := by unfold slen; rw [if_pos (by omega)]
        have hy3 : y.1 = 3 := by
          rcases hP with q | q
          · rw [htf] at q; exact absurd q.1 (by decide)
          · exact q.2.1
        have hsl4 : slen y 4 = y.2.1 * y.2.1 * y.2.2.1 := by unfold slen; rw [if_pos (by omega)]
        have hslb := sl_bd hW (i := 4)
        have hcp := sc_J (h := h) (s := s) (y := y) (I := IS) (J := J1) (i := 2 + slt tr (p + 1)) (j := 4) (sp := 0) (dp := 0) (m := slen y (2 + slt tr (p + 1))) (by omega) (by omega) (by omega) (by omega) (by omega) (by rw [hsl2, hsl4]; omega) (by rw [hsl2, ← hsl4]; omega) (by omega)
        have hkeep : f_Search_keepLayer N s (iI ((p + 1 : Nat) : Int)) (SH h s y IS J1) = some ((), SH h s y IS (cpJ J1 (2 + slt tr (p + 1)) 4 0 0 (slen y (2 + slt tr (p + 1))))) := by
          have e2 : (2 : Int32) = iI ((2 : Nat) : Int) := by decide
          have e00 : iI ((0 : Nat) : Int) = (0 : Int32) := iI_0.symm
          rw [e00] at hcp
          unfold f_Search_keepLayer
          rw [e2]
          simp only [s_rd, Option.bind_some, zck_t, w_slot hW hS1 hp, sa_R hsl.1 (show y.1 ≤ 1000000 by omega), sa_R (show 2 < y.1 by omega) (show y.1 ≤ 1000000 by omega), sl_J (show 2 ≤ 2 + slt tr (p + 1) by omega) (show 2 + slt tr (p + 1) < y.1 + 4 by omega)]
          have : zcpJ (SH h s y IS J1) (s + (2 + slt tr (p + 1))) 0 (s + (2 + 2)) 0 (Int32.ofNat (slen y (2 + slt tr (p + 1)))) = some (SH h s y IS (cpJ J1 (2 + slt tr (p + 1)) 4 0 0 (slen y (2 + slt tr (p + 1))))) := hcp
          rw [this]; rfl
        rw [hkeep, Option.bind_some]
        have hslt2 : slt tr (p + 1) < 2 := by unfold slt; rw [if_neg ht]; omega
        have hE : ∀ a q, a ≠ 4 → cpJ J1 (2 + slt tr (p + 1)) 4 0 0 (slen y (2 + slt tr (p + 1))) a q = J1 a q := fun a q ha => by unfold cpJ; rw [if_neg (by omega)]
        obtain ⟨IS', JS', f', g⟩ := ih fu (cpJ J1 (2 + slt tr (p + 1)) 4 0 0 (slen y (2 + slt tr (p + 1)))) (by omega) (by omega) (hS1.same (fun k => hE 0 k (by omega))) ⟨fun _ => r1.same (fun q => hE _ q (by omega)), fun e e1 e2 e3 e4 => by
          by_cases ee : e = p + 1
          · subst ee
            intro l f hl hf
            have := r1 l f hl hf
            unfold slE
            rw [if_neg ht]
            refine this.copy (fun q hq => ?_)
            have hix := ixS_in (y := y) (l := l) (f := f) (by have := hW.2.2.1; omega) (by have := hW.2.2.1; omega)
            show cpJ J1 (2 + slt tr (p + 1)) 4 0 0 (slen y (2 + slt tr (p + 1))) 4 (ixS y l f + q) = _
            unfold cpJ
            rw [if_pos (by rw [hsl2]; omega), show 0 + (ixS y l f + q - 0) = ixS y l f + q by omega]
          · exact absurd hend (e4 (p + 1) (by omega) (by omega)), fun q => absurd q ht⟩
        exact ⟨IS', JS', f', g⟩
      · rw [if_pos ((Bool.not_eq_true _).mp hrf)]
        exact hplain (Or.inr (fun q => hrf (hr.mpr q)))
theorem w_fillLayers (hW : World h s b y x I J c) (hP : Par c y tr cu su) (hN : 4000 ≤ N) {IS : Nat → Nat → Int32} {JS : Nat → Nat → Int64} (hS : Stat IS JS y tr cu su) :
    ∃ IS' JS' f', SameI IS IS' ∧ Stat IS' JS' y tr cu su ∧ RF JS' (y.1 + 3) 0 y.2.2.1 (U0 c cu su (mm c + 1)) ∧ IS' 0 10 = iI f' ∧ StL c cu su (mm c + 1) f' ∧ (tr = true → ∀ q, 0 < q → q ≤ nn c → LA JS' y c cu su (2 + q) q) ∧ f_Search_fillLayers N s (SH h s y IS JS) = some ((), SH h s y IS' JS') := by
  have hc := hW.1.1
  have hn := nn_r hc
  obtain ⟨IS', JS', f', g1, g2, g3, g4, g5, g6, g7⟩ := w_layers8 (N := N) hW hP hN (nn c) N JS (Nat.le_refl _) (by omega) hS ⟨fun q => by omega, fun e e1 e2 => by omega, fun _ q q1 q2 => by omega⟩
  refine ⟨IS', JS', f', g1, g2, g3, g4, g5, g6, ?_⟩
  have hn0 : iI (c.1 0) = iI ((nn c : Nat) : Int) := by congr 1; omega
  unfold f_Search_fillLayers
  simp only [s_rd, Option.bind_some, hW.2.1, w_rd hW, hn0]
  exact g7
end CLEAST
