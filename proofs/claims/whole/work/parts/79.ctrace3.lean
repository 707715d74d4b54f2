/-! the class: trace gives the table -/
theorem iJ_div {a : Int} (h1 : 0 ≤ a) (h2 : a < 9223372036854775808) : iJ a / (1024 : Int64) = iJ (a / 1024) := by
  have e : (1024 : Int64) = Int64.ofInt 1024 := by decide
  rw [e]
  unfold iJ
  have m1 : Int64.minValue.toInt = -9223372036854775808 := by decide
  have m2 : Int64.maxValue.toInt = 9223372036854775807 := by decide
  rw [← Int64.ofInt_tdiv (by rw [m1]; omega) (by rw [m2]; omega) (by rw [m1]; omega) (by rw [m2]; omega), Int.tdiv_eq_ediv_of_nonneg h1]
section CTRACE3
variable {h : zH} {s b : Nat} {y : sx} {x : cx} {J : Nat → Nat → Int64} {c : cfg} {N : Nat} {IS : Nat → Nat → Int32}
theorem tr_from {I : Nat → Nat → Int32} (hc : cOK c) (hC : CC I J x c) (hA : Apart s b y c) (hP : Par c y true 1024 1) (hN : 4000 ≤ N) {p l : Nat} {g f : Int} (hp : p < nn c) (hT : TS I c p l g) {JS : Nat → Nat → Int64} (hS : Stat IS JS y true 1024 1) (hF : FdS JS y c f) (hf : p = 0 → (l : Int) = f) (hex : ∃ q, SV c 1024 1 p l g q) {u : Nat} (hu5 : I 15 5 = iI u) (hu64 : u < 64) :
    ∃ (t : Int) (q : Nat) (I' : Nat → Nat → Int32) (JS' : Nat → Nat → Int64), (∀ a r, a ≠ y.1 + 2 → JS' a r = JS a r) ∧ ((Pick c p l g t false ∧ q = p + 1 ∧ LayR I I' p (p + 1) l t (-1)) ∨ ∃ k, c_at c k p ∧ Pick c p l g t true ∧ q = (c.2 7 k).toNat ∧ LayR (u2 I 15 5 (iI ((u ||| 2 ^ k : Nat) : Int))) I' p q l t k) ∧
    f_Search_traceFrom N s (b + 15) (iI p) (TH h b x I J s y IS JS) = some (iI q, TH h b x I' J s y IS JS') := by
  have hn := nn_r hc
  have hm := mm_r hc
  have h7 := hc.2.2.1
  have hW := mkW (h := h) hc hC hA
  have hw1 : y.2.2.1 = 1 := by
    rcases hP with q | q
    · exact q.2.2.1
    · exact absurd q.1 (by decide)
  have hwd := hA.2.2.1
  obtain ⟨M, hMin, hwant⟩ := tr_want (h := h) (N := N) hc hC hA hP hp hT hS hF hf hex
  obtain ⟨t1, t2, t3, -⟩ := id hT
  obtain ⟨J1, f1, f2, f3⟩ := w_fill (IS := IS) (JS := JS) (N := N) hW hN (i := y.1 + 2) (by omega) (by omega)
  obtain ⟨hi, hhi⟩ : ∃ hi : Nat, (hi : Int) = min (c.1 1) (l + c.1 7) := ⟨(min (c.1 1) (l + c.1 7)).toNat, by omega⟩
  obtain ⟨lo, hlo⟩ : ∃ lo : Nat, (lo : Int) = max 0 (l - c.1 7) := ⟨(max 0 (l - c.1 7)).toNat, by omega⟩
  have hsl1 : slen y (y.1 + 2) = y.2.1 * y.2.2.1 := by unfold slen; rw [if_neg (by omega), if_pos rfl]
  have hyn : y.1 = nn c + 1 := by
    rcases hP with q | q
    · exact q.2.1
    · exact absurd q.1 (by decide)
  obtain ⟨t, q, I', J2, g1, g2, g3⟩ := tr_55 (h := h) (IS := IS) (N := N) hc hC hA hP hN hp hT hMin hhi hu5 hu64 (hi + 1 - lo) N lo J1 (by omega) (by omega) (hS.same (fun k => f2 0 k (Or.inl (by omega)))) (fun q q1 q2 => (hF.1 q q1 q2).same (fun k => f2 _ k (Or.inl (by omega)))) (fun v v1 v2 => RF.nil (fun r r1 r2 => f1 r (by
    rw [hsl1]
    have := row_in (a := v) (n := y.2.1) (w := y.2.2.1) (by omega)
    omega))) (fun t ht => by
    constructor
    · rintro ⟨hfo, hq⟩
      have a1 := up_in hc (Or.inl hq)
      have a2 := c_fol_r hfo
      omega
    · rintro ⟨hfo, hq⟩
      have a1 := up_in hc (Or.inr hq)
      have a2 := c_fol_r hfo
      omega)
  refine ⟨t, q, I', J2, fun a r ha => (g1 a r ha).trans (f2 a r (Or.inl ha)), g2, ?_⟩
  unfold f_Search_traceFrom
  simp only [th_rd hA, s_rd, Option.bind_some, t_a16 hC hA hc (show p ≤ nn c by omega), t1, hW.2.1, w_rd hW, zck_t, w_starting hW (show 60 ≤ N by omega) (show p ≤ nn c by omega), hwant, f3, w_highest hW (show 0 ≤ (l : Int) by omega) (show (l : Int) ≤ 24 by omega), w_lowest hW (show 0 ≤ (l : Int) by omega) (show (l : Int) ≤ 24 by omega), ← hhi, ← hlo]
  exact g3
theorem tr_38 (hc : cOK c) (hA : Apart s b y c) (hP : Par c y true 1024 1) (hN : 4000 ≤ N) {f : Int} :
    ∀ (r fu p st : Nat) (I : Nat → Nat → Int32) (JS : Nat → Nat → Int64) (l : Nat) (g : Int) (u : Nat), nn c ≤ p + r → p ≤ nn c → r < fu → st ≤ p → CC I J x c → TS I c p l g → (p = 0 → (l : Int) = f) → I 15 5 = iI u → u < 64 → Stat IS JS y true 1024 1 → FdS JS y c f → (∃ q, SV c 1024 1 p l g q) →
    ∃ (I' : Nat → Nat → Int32) (JS' : Nat → Nat → Int64) (L K : Nat → Int) (uf : Nat), SameB1 I I' ∧ (∀ q, q ≤ p → I' 16 q = I 16 q) ∧ (∀ q, q < p → I' 17 q = I 17 q) ∧ (∀ q, p < q → q ≤ nn c → I' 16 q = iI (L q)) ∧ (∀ q, p ≤ q → q < nn c → I' 17 q = iI (K q)) ∧ I' 15 5 = iI uf ∧ Wa c L K uf r p l g u ∧ (∀ a q, a ≠ y.1 + 2 → JS' a q = JS a q) ∧ f_Search_trace_38 N fu s (b + 15) (iI p) (iI st) (TH h b x I J s y IS JS) = some ((), TH h b x I' J s y IS JS') := by
  have hn := nn_r hc
  have hm := mm_r hc
  have hyn : y.1 = nn c + 1 := by
    rcases hP with q | q
    · exact q.2.1
    · exact absurd q.1 (by decide)
  have hend : ∀ (fu p st : Nat) (I : Nat → Nat → Int32) (JS : Nat → Nat → Int64), nn c ≤ p → p ≤ nn c → st ≤ p → CC I J x c → f_Search_trace_38 N (fu + 1) s (b + 15) (iI p) (iI st) (TH h b x I J s y IS JS) = some ((), TH h b x I J s y IS JS) := by
    intro fu p st I JS h1 h2 h3 hC
    have hW := mkW (h := h) hc hC hA
    show b_Search_trace_38 N (f_Search_trace_38 N fu) s (b + 15) _ _ _ = _
    unfold b_Search_trace_38
    simp only [s_rd, Option.bind_some, hW.2.1, w_rd hW]
    rw [if_pos (show iI (c.1 0) ≤ iI (p : Int) from (iI_le (by omega) (by omega) (by omega) (by omega)).mpr (by omega)), ite_self]
  intro r
  induction r with
  | zero =>
    intro fu p st I JS l g u h1 h2 hf hst hC hT hf0 hu5 hu64 hS hF hex
    obtain ⟨fu, rfl⟩ : ∃ q, fu = q + 1 := ⟨fu - 1, by omega⟩
    exact ⟨I, JS, fun _ => 0, fun _ => 0, u, fun _ _ _ _ _ => rfl, fun _ _ => rfl, fun _ _ => rfl, fun q q1 q2 => by omega, fun q q1 q2 => by omega, hu5, ⟨by omega, rfl⟩, fun _ _ _ => rfl, hend fu p st I JS (by omega) h2 hst hC⟩
  | succ r ih =>
    intro fu p st I JS l g u h1 h2 hf hst hC hT hf0 hu5 hu64 hS hF hex
    obtain ⟨fu, rfl⟩ : ∃ q, fu = q + 1 := ⟨fu - 1, by omega⟩
    by_cases hpn : nn c ≤ p
    · exact ⟨I, JS, fun _ => 0, fun _ => 0, u, fun _ _ _ _ _ => rfl, fun _ _ => rfl, fun _ _ => rfl, fun q q1 q2 => by omega, fun q q1 q2 => by omega, hu5, Or.inl ⟨hpn, rfl⟩, fun _ _ _ => rfl, hend fu p st I JS hpn h2 hst hC⟩
    · obtain ⟨t, q, I1, J1, a1, a2, a3⟩ := tr_from (h := h) (IS := IS) (N := N) hc hC hA hP hN (by omega) hT hS hF hf0 hex hu5 hu64
      obtain ⟨t1, t2, t3, -⟩ := id hT
      -- what a step or a span gives
      have key : ∃ (kk : Int) (u1 : Nat) (l1 : Nat), p < q ∧ q ≤ nn c ∧ u1 < 64 ∧ I1 15 5 = iI u1 ∧ SameB1 I I1 ∧ (∀ r, r ≤ p → I1 16 r = I 16 r) ∧ (∀ r, r < p → I1 17 r = I 17 r) ∧ (∀ j : Nat, p + j < q → I1 16 (p + (j + 1)) = iI (l + t * (j + 1)) ∧ I1 17 (p + j) = iI kk) ∧ TS I1 c q l1 (t + 24) ∧ (∃ v, SV c 1024 1 q l1 (t + 24) v) ∧ ∀ (L K : Nat → Int) (uf : Nat), (∀ j : Nat, p + j < q → L (p + (j + 1)) = l + t * (j + 1) ∧ K (p + j) = kk) → Wa c L K uf r q l1 (t + 24) u1 → Wa c L K uf (r + 1) p l g u := by
        rcases a2 with ⟨hpk, rfl, hl1, hl2⟩ | ⟨k, hk, hpk, rfl, hl1, hl2⟩
        · obtain ⟨n1, n2, n3⟩ := hpk.nx0
          have hr := c_ok_r n2
          obtain ⟨l1, hl1e⟩ : ∃ l1 : Nat, (l1 : Int) = l + t := ⟨((l : Int) + t).toNat, by omega⟩
          refine ⟨-1, u, l1, by omega, by omega, hu64, by rw [hl1 15 5 (by omega) (by omega)]; exact hu5, fun i q b1 b2 b3 => hl1 i q (by omega) (by omega), fun r hr => hl1 16 r (by omega) (by omega), fun r hr => hl1 17 r (by omega) (by omega), hl2, ⟨?_, by omega, by rw [hl1e]; exact n2, Or.inr ⟨l, by omega, ?_, t2, ?_, by omega⟩⟩, by rw [hl1e]; exact n3, fun L K uf hLK hWa => ?_⟩
          · have := (hl2 0 (by omega)).1
            rw [show p + (0 + 1) = p + 1 by omega] at this
            rw [this, hl1e]; congr 1; simp
          · rw [show p + 1 - 1 = p by omega, hl1 16 p (by omega) (by omega)]; exact t1
          · rw [show (l1 : Int) - l = t by omega]; exact (c_fol_fit.mp n1).1
          · obtain ⟨e1, e2⟩ := hLK 0 (by omega)
            refine Or.inr ⟨by omega, t, Or.inl ⟨hpk, ?_, e2, ?_⟩⟩
            · rw [show p + (0 + 1) = p + 1 by omega] at e1
              rw [e1]; simp
            · rw [hl1e] at hWa; exact hWa
        · obtain ⟨n1, nu, n2, n3⟩ := hpk.nx1 hc hk
          obtain ⟨hk1, hk2, hk3⟩ := id hk
          have hK := hc.2.2.2.2.2.1
          obtain ⟨⟨r1, r2, r3⟩, -⟩ := hc.2.2.2.2.2.2.2.1 k hk1
          have hr := c_ok_r n2
          obtain ⟨l1, hl1e⟩ : ∃ l1 : Nat, (l1 : Int) = l + (c.2 7 k - p) * t := ⟨((l : Int) + (c.2 7 k - p) * t).toNat, by omega⟩
          have hcm : t * (c.2 7 k - p) = (c.2 7 k - p) * t := Int.mul_comm _ _
          have hbt := btw (l := (l : Int)) (s := t) (m := c.1 1) (j := (c.2 7 k).toNat - p - 1) (n := (c.2 7 k).toNat - p) (by omega) (by omega) (by omega) (by rw [show (((c.2 7 k).toNat - p : Nat) : Int) = c.2 7 k - p by omega, hcm]; omega) (by rw [show (((c.2 7 k).toNat - p : Nat) : Int) = c.2 7 k - p by omega, hcm]; omega)
          have hb2 : t * (((c.2 7 k).toNat - p - 1 : Nat) : Int) = (c.2 7 k - p) * t - t := by
            rw [show (((c.2 7 k).toNat - p - 1 : Nat) : Int) = c.2 7 k - p - 1 by omega, Int.mul_sub, Int.mul_one, hcm]
          obtain ⟨l0, hl0e⟩ : ∃ l0 : Nat, (l0 : Int) = l + ((c.2 7 k - p) * t - t) := ⟨((l : Int) + ((c.2 7 k - p) * t - t)).toNat, by omega⟩
          refine ⟨k, u ||| 2 ^ k, l1, by omega, by omega, bit_lt ⟨u, hu64⟩ ⟨k, by omega⟩, by rw [hl1 15 5 (by omega) (by omega), u2_s], fun i q b1 b2 b3 => by rw [hl1 i q (by omega) (by omega), u2_n (by omega)], fun r hr => by rw [hl1 16 r (by omega) (by omega), u2_n (by omega)], fun r hr => by rw [hl1 17 r (by omega) (by omega), u2_n (by omega)], hl2, ⟨?_, by omega, by rw [hl1e]; exact n2, Or.inr ⟨l0, by omega, ?_, by omega, ?_, by omega⟩⟩, by rw [hl1e]; exact n3, fun L K uf hLK hWa => ?_⟩
          · have := (hl2 ((c.2 7 k).toNat - p - 1) (by omega)).1
            rw [show p + ((c.2 7 k).toNat - p - 1 + 1) = (c.2 7 k).toNat by omega] at this
            rw [this, hl1e, show (((c.2 7 k).toNat - p - 1 : Nat) : Int) + 1 = c.2 7 k - p by omega, hcm]
          · have := (hl2 ((c.2 7 k).toNat - p - 2) (by omega)).1
            rw [show p + ((c.2 7 k).toNat - p - 2 + 1) = (c.2 7 k).toNat - 1 by omega] at this
            rw [this, hl0e, show (((c.2 7 k).toNat - p - 2 : Nat) : Int) + 1 = c.2 7 k - p - 1 by omega, Int.mul_sub, Int.mul_one, hcm]
          · rw [show (l1 : Int) - l0 = t by omega]; exact (c_fol_fit.mp n1).1
          · refine Or.inr ⟨by omega, t, Or.inr ⟨k, hk, hpk, fun j hj => hLK j (by omega), ?_⟩⟩
            rw [hl1e] at hWa; exact hWa
      obtain ⟨kk, u1, l1, k1, k2, k3, k4, k5, k6, k7, k8, k9, k10, k11⟩ := key
      have hC1 : CC I1 J x c := hC.same ⟨rfl, rfl⟩ (fun i q i1 i2 => k5 i q (by omega) (by omega) (by omega)) (fun _ => rfl)
      obtain ⟨I2, J2, L, K, uf, g1, g2, g3, g4, g5, g6, g7, g8, g9⟩ := ih fu q (st + 1) I1 J1 l1 (t + 24) u1 (by omega) k2 (by omega) (by omega) hC1 k9 (fun e => by omega) k4 k3 (hS.same (fun k => a1 0 k (by omega))) ⟨fun q q1 q2 => (hF.1 q q1 q2).same (fun k => a1 _ k (by omega)), hF.2.1.same (fun q _ _ => a1 _ q (by omega)), hF.2.2⟩ k10
      refine ⟨I2, J2, fun r => if r ≤ q then l + t * ((r : Int) - p) else L r, fun r => if r < q then kk else K r, uf, fun i q b1 b2 b3 => (g1 i q b1 b2 b3).trans (k5 i q b1 b2 b3), fun r hr => (g2 r (by omega)).trans (k6 r hr), fun r hr => (g3 r (by omega)).trans (k7 r hr), fun r r1 r2 => ?_, fun r r1 r2 => ?_, g6, ?_, fun a r ha => (g8 a r ha).trans (a1 a r ha), ?_⟩
      · show I2 16 r = iI (if r ≤ q then l + t * ((r : Int) - p) else L r)
        by_cases e : r ≤ q
        · have := (k8 (r - p - 1) (by omega)).1
          rw [show p + (r - p - 1 + 1) = r by omega, show ((r - p - 1 : Nat) : Int) + 1 = (r : Int) - p by omega] at this
          rw [if_pos e, g2 r e, this]
        · rw [if_neg e]; exact g4 r (by omega) r2
      · show I2 17 r = iI (if r < q then kk else K r)
        by_cases e : r < q
        · have := (k8 (r - p) (by omega)).2
          rw [show p + (r - p) = r by omega] at this
          rw [if_pos e, g3 r e, this]
        · rw [if_neg e]; exact g5 r (by omega) r2
      · refine k11 _ _ uf (fun j hj => ⟨?_, ?_⟩) (g7.congr _ _ _ _ _ (fun r hr => if_neg (by omega)) (fun r hr => if_neg (by omega)))
        · show (if p + (j + 1) ≤ q then (l : Int) + t * (((p + (j + 1) : Nat) : Int) - p) else L (p + (j + 1))) = _
          rw [if_pos (by omega), show (((p + (j + 1) : Nat) : Int) - p) = (j : Int) + 1 by omega]
        · exact if_pos (by omega)
      · have hW := mkW (h := h) hc hC hA
        have es : iI (st : Int) + 1 = iI ((st + 1 : Nat) : Int) := by rw [iI_1, iI_add]; rfl
        show b_Search_trace_38 N (f_Search_trace_38 N fu) s (b + 15) _ _ _ = _
        unfold b_Search_trace_38
        simp only [s_rd, Option.bind_some, hW.2.1, w_rd hW, zck_t, a3, es]
        rw [if_neg (fun z => by have := (iI_le (by omega) (by omega) (by omega) (by omega)).mp z; omega), if_neg (fun z => by have := (iI_le (by omega) (by omega) (by omega) (by omega)).mp z; omega)]
        exact g9
theorem tr_trace {I : Nat → Nat → Int32} (hc : cOK c) (hC : CC I J x c) (hA : Apart s b y c) (hP : Par c y true 1024 1) (hN : 4000 ≤ N) {f : Int} {JS : Nat → Nat → Int64} (hS : Stat IS JS y true 1024 1) (hF : FdS JS y c f) (h10 : IS 0 10 = iI f) (hex : ∃ v, U0 c 1024 1 (mm c + 1) v) :
    ∃ (I' : Nat → Nat → Int32) (JS' : Nat → Nat → Int64) (L K : Nat → Int) (uf : Nat) (cost : Int), Tab c L K uf cost ∧ (∀ i q, i ≠ 16 → i ≠ 17 → ¬ (i = 15 ∧ (q = 4 ∨ q = 5)) → I' i q = I i q) ∧ I' 15 4 = 1 ∧ I' 15 5 = iI uf ∧ (∀ q, q ≤ nn c → I' 16 q = iI (L q)) ∧ (∀ q, q < nn c → I' 17 q = iI (K q)) ∧ (∀ a q, a ≠ y.1 + 2 → JS' a q = JS a q) ∧ f_Search_trace N s (b + 15) (TH h b x I J s y IS JS) = some ((), TH h b x I' (u2 J 15 6 (iJ cost)) s y IS JS') := by
  have hn := nn_r hc
  have hm := mm_r hc
  have hw1 : y.2.2.1 = 1 := by
    rcases hP with q | q
    · exact q.2.2.1
    · exact absurd q.1 (by decide)
  obtain ⟨m0, hm0, hc0⟩ := hF.2.1.first (by omega)
  obtain ⟨v0, hv0⟩ := hex
  have hmin := hc0.resolve_left (fun q => q.2 _ hv0)
  obtain ⟨⟨f1, f2⟩, hVf, hfst⟩ := hF.2.2 m0 hmin
  obtain ⟨l, hl⟩ : ∃ l : Nat, (l : Int) = f := ⟨f.toNat, by omega⟩
  subst hl
  obtain ⟨ho, qv, hq, hqe⟩ := id hVf
  obtain ⟨a0', d0, e0, ra, rd⟩ := SV_pair hc (nn c) 0 l 49 qv (by omega) (by omega) hq
  have hpc := c_pc_r hc (p := 0) (l := (l : Int)) (by omega) f1 (by omega)
  obtain ⟨cost, hcoste⟩ : ∃ cost : Int, cost = a0' + c_pc c 0 l := ⟨_, rfl⟩
  have hcost : m0 / 1024 = cost := by omega
  have hm0e : 1024 * cost + d0 = m0 := by omega
  have hsl3 : slen y (y.1 + 3) = y.2.2.1 := by unfold slen; rw [if_neg (by omega), if_neg (by omega)]
  obtain ⟨hin, hcl⟩ := nat_in (p := 0) (n := slen y (y.1 + 3)) (by rw [hsl3]; omega) (by rw [hsl3]; omega)
  have e00 : iI ((0 : Nat) : Int) = (0 : Int32) := iI_0.symm
  rw [e00] at hin hcl
  have hC1 : CC (u2 (u2 (u2 I 16 0 (iI l)) 15 5 0) 15 4 1) (u2 J 15 6 (iJ cost)) x c := hC.same ⟨rfl, rfl⟩ (fun i q _ _ => by rw [u2_n (by omega), u2_n (by omega), u2_n (by omega)]) (fun q => u2_n (by omega))
  obtain ⟨I2, J2, L, K, uf, g1, g2, g3, g4, g5, g6, g7, g8, g9⟩ := tr_38 (h := h) (IS := IS) (N := N) hc hA hP hN (f := (l : Int)) (nn c) N 0 0 (u2 (u2 (u2 I 16 0 (iI l)) 15 5 0) 15 4 1) JS l 49 0 (by omega) (by omega) (by omega) (by omega) hC1 ⟨by rw [u2_n (by omega), u2_n (by omega), u2_s], by omega, ho, Or.inl ⟨rfl, rfl⟩⟩ (fun _ => rfl) (by rw [u2_n (by omega), u2_s]; exact iI_0) (by omega) hS hF ⟨qv, hq⟩
  have hV : ∀ l' v, V0 c l' v ↔ V0g c 1024 1 l' v := fun l' v => ⟨fun ⟨w1, w, w2, w3⟩ => ⟨w1, w, w2, by omega⟩, fun ⟨w1, w, w2, w3⟩ => ⟨w1, w, w2, by omega⟩⟩
  have hVl : V0 c l (1024 * cost + d0) := (hV l _).mpr (by rw [hm0e]; exact hVf)
  have hFL : FLs c (c.1 1 + 1) (some (cost, d0)) l := by
    refine ⟨⟨⟨?_, ?_⟩, ⟨l, f1, by omega, hVl⟩, ?_⟩, (fun q => by cases q), fun q hq' => ?_⟩
    · show 0 ≤ cost ∧ cost ≤ ((nn c + 1 : Nat) : Int) * 10000000000
      omega
    · show 0 ≤ d0 ∧ d0 ≤ 24 * ((nn c + 1 : Nat) : Int)
      omega
    · rintro v ⟨l', l1, l2, l3⟩
      show 1024 * cost + d0 ≤ v
      obtain ⟨l'', e⟩ : ∃ l'' : Nat, (l'' : Int) = l' := ⟨l'.toNat, by omega⟩
      rw [← e] at l3
      have := hmin.2 v ⟨l'', by omega, (hV l'' v).mp l3⟩
      omega
    · cases hq'
      refine ⟨⟨f1, by omega⟩, hVl, fun l' l1 l2 v hv => ?_⟩
      show 1024 * cost + d0 < v
      obtain ⟨l'', e⟩ : ∃ l'' : Nat, (l'' : Int) = l' := ⟨l'.toNat, by omega⟩
      rw [← e] at hv
      have := hfst l'' (by omega) v ((hV l'' v).mp hv)
      omega
  have hTab : Tab c (fun r => if r = 0 then (l : Int) else L r) K uf cost := ⟨(cost, d0), rfl, hFL, g7.congr _ _ _ _ _ (fun r hr => if_neg (by omega)) (fun _ _ => rfl)⟩
  refine ⟨I2, J2, _, K, uf, cost, hTab, fun i q b1 b2 b3 => ?_, ?_, g6, fun q hq => ?_, fun q hq => g5 q (by omega) hq, g8, ?_⟩
  · rw [g1 i q b1 b2 (by omega), u2_n (by omega), u2_n (by omega), u2_n (by omega)]
  · rw [g1 15 4 (by omega) (by omega) (by omega), u2_s]
  · show I2 16 q = iI (if q = 0 then (l : Int) else L q)
    by_cases e : q = 0
    · subst e
      rw [if_pos rfl, g2 0 (Nat.le_refl _), u2_n (by omega), u2_n (by omega), u2_s]
    · rw [if_neg e]; exact g4 q (by omega) hq
  · have hs16 := t_s16 (h := h) (IS := IS) (JS := JS) hC hA hc (q := 0) (by omega) (iI l)
    rw [e00] at hs16 g9
    unfold f_Search_trace
    simp only [th_rd hA, s_rd, Option.bind_some, h10, hs16, t_w5 hA, sa_J (show 2 ≤ y.1 + 3 by omega) (show y.1 + 3 < y.1 + 4 by omega) hin, hcl, hm0, iJ_div (show 0 ≤ m0 by omega) (show m0 < 9223372036854775808 by omega), hcost, t_w6 hA, t_w4 hA]
    exact g9
end CTRACE3
