/-! the class: run, move, other -/
section CRUN
variable {h : zH} {s b : Nat} {y : sx} {x : cx} {I : Nat → Nat → Int32} {J : Nat → Nat → Int64} {a : ast} {N : Nat} {IS : Nat → Nat → Int32} {JS : Nat → Nat → Int64}
theorem c_q6 : zgQ (CH h b x I J) b 1 6 = some x.2.2.2.1 := bg_Q (i := 0) (k := 6) rfl (by decide) rfl
theorem c_q7 : zgQ (CH h b x I J) b 1 7 = some x.2.2.2.2 := bg_Q (i := 0) (k := 7) rfl (by decide) rfl
theorem c_r6 (e : x.2.2.2.1 = some s) : zgR (CH h b x I J) b 1 6 = some s := bg_RO (i := 0) (k := 6) rfl (by decide) rfl e
theorem c_r7 (e : x.2.2.2.2 = some s) : zgR (CH h b x I J) b 1 7 = some s := bg_RO (i := 0) (k := 7) rfl (by decide) rfl e
theorem c_w6 : zp (CH h b x I J) b 1 6 (.ref s) = some (CH h b (x.1, x.2.1, x.2.2.1, some s, x.2.2.2.2) I J) := by
  have e : u2 (oC x) 0 6 (some s) = oC (x.1, x.2.1, x.2.2.1, some s, x.2.2.2.2) := by
    funext i k
    by_cases c : i = 0 ∧ k = 6
    · rw [c.1, c.2, u2_s]; rfl
    · rw [u2_n (by omega)]
      unfold oC
      rw [if_neg c, if_neg c]
  have := bp_O (h := h) (b := b) (n := 21) (lay := layC x.1 x.2.1) (σ := (I, J, rC x.2.2.1, oC x)) (i := 0) (k := 6) s rfl (by decide) rfl
  rw [e] at this
  exact this
theorem c_w7 : zp (CH h b x I J) b 1 7 (.ref s) = some (CH h b (x.1, x.2.1, x.2.2.1, x.2.2.2.1, some s) I J) := by
  have e : u2 (oC x) 0 7 (some s) = oC (x.1, x.2.1, x.2.2.1, x.2.2.2.1, some s) := by
    funext i k
    by_cases c : i = 0 ∧ k = 7
    · rw [c.1, c.2, u2_s]; rfl
    · rw [u2_n (by omega)]
      unfold oC
      by_cases c6 : i = 0 ∧ k = 6
      · rw [if_pos c6, if_pos c6]
      · rw [if_neg c6, if_neg c6, if_neg c, if_neg c]
  have := bp_O (h := h) (b := b) (n := 21) (lay := layC x.1 x.2.1) (σ := (I, J, rC x.2.2.1, oC x)) (i := 0) (k := 7) s rfl (by decide) rfl
  rw [e] at this
  exact this
theorem CI.sameJ {J' : Nat → Nat → Int64} {x' : cx} (hI : CI I J x a) (e : ∀ a q, a ≠ 13 → a ≠ 14 → J' a q = J a q) (hx : x'.1 = x.1 ∧ x'.2.1 = x.2.1) : CI I J' x' a := by
  obtain ⟨h1, h2, h3, h4, h5, h6⟩ := hI
  exact ⟨h1.same hx (fun _ _ _ _ => rfl) (fun q => e 11 q (by decide) (by decide)), h2, fun z => ⟨(h3 z).1, (h3 z).2.1, (h3 z).2.2.1, by rw [e 15 6 (by decide) (by decide)]; exact (h3 z).2.2.2⟩, h4, h5, h6⟩
/-- the table is laid down -/
theorem ci_withT {I' : Nat → Nat → Int32} {c : cfg} {L K : Nat → Int} {uf : Nat} {cost : Int} (hI : CI I J x (forg (c, a.2))) (e : ∀ i q, i ≠ 16 → i ≠ 17 → ¬ (i = 15 ∧ (q = 4 ∨ q = 5)) → I' i q = I i q) (h4 : I' 15 4 = 1) (h5 : I' 15 5 = iI uf) (hL : ∀ q, q ≤ nn c → I' 16 q = iI (L q)) (hK : ∀ q, q < nn c → I' 17 q = iI (K q)) : CI I' (u2 J 15 6 (iJ cost)) x (withT (c, a.2) L K uf cost) := by
  obtain ⟨g1, g2, g3, g4, g5, g6⟩ := hI
  refine ⟨g1.same ⟨rfl, rfl⟩ (fun i q i1 i2 => e i q (by omega) (by omega) (by omega)) (fun q => u2_n (by omega)), by rw [h4]; exact iI_1, fun _ => ⟨hL, hK, h5, u2_s⟩, ?_, fun p hp => ?_, ?_⟩
  · rw [e 0 9 (by omega) (by omega) (by omega), e 20 0 (by omega) (by omega) (by omega), e 20 1 (by omega) (by omega) (by omega), e 20 2 (by omega) (by omega) (by omega), e 20 3 (by omega) (by omega) (by omega)]; exact g4
  · rw [e 19 p (by omega) (by omega) (by omega)]; exact g5 p hp
  · rw [e 18 1 (by omega) (by omega) (by omega), g6, s_nc_forg, show s_nc (withT (c, a.2) L K uf cost) = 0 from cnt_false (fun _ => rfl) _]
theorem CI.tab {c : cfg} (hc : cOK c) {L K L' K' : Nat → Int} {uf uf' : Nat} {cost cost' : Int} (hT : Tab c L K uf cost) (hT' : Tab c L' K' uf' cost') (hI : CI I J x (withT (c, a.2) L K uf cost)) : CI I J x (withT (c, a.2) L' K' uf' cost') := by
  obtain ⟨u1', u2', u3, u4⟩ := hT.uniq hc hT'
  obtain ⟨g1, g2, g3, g4, g5, g6⟩ := hI
  obtain ⟨k1, k2, k3, k4⟩ := g3 rfl
  subst u1'; subst u2'
  refine ⟨g1, g2, fun _ => ⟨fun p hp => (k1 p hp).trans ?_, fun p hp => (k2 p hp).trans ?_, k3, k4⟩, g4, g5, g6⟩
  · exact congrArg iI (u3 p hp)
  · exact congrArg iI (u4 p hp)
theorem k_tail {c : cfg} (hc : cOK c) (hC : CC I J x c) (hA : Apart s b y c) (hP : Par c y true 1024 1) (hN : 4000 ≤ N) (hS : Stat IS JS y true 1024 1) (hbar : Bar c (-1)) :
    ∃ (I' IS' : Nat → Nat → Int32) (JS1 JS' : Nat → Nat → Int64) (L K : Nat → Int) (uf : Nat) (cost : Int), Tab c L K uf cost ∧ (∀ i q, i ≠ 16 → i ≠ 17 → ¬ (i = 15 ∧ (q = 4 ∨ q = 5)) → I' i q = I i q) ∧ I' 15 4 = 1 ∧ I' 15 5 = iI uf ∧ (∀ q, q ≤ nn c → I' 16 q = iI (L q)) ∧ (∀ q, q < nn c → I' 17 q = iI (K q)) ∧ Stat IS' JS' y true 1024 1 ∧
    f_Search_fillLayers N s (TH h b x I J s y IS JS) = some ((), TH h b x I J s y IS' JS1) ∧ f_Search_trace N s (b + 15) (TH h b x I J s y IS' JS1) = some ((), TH h b x I' (u2 J 15 6 (iJ cost)) s y IS' JS') := by
  have hm := mm_r hc
  have hW := mkW (h := h) hc hC hA
  obtain ⟨IS', JS1, f, g1, g2, g3, g4, g5, g6, g7⟩ := w_fillLayers (N := N) hW hP hN hS
  have hex : ∃ v, U0 c 1024 1 (mm c + 1) v := by
    obtain ⟨v, l, l1, l2, l3, w, w1, w2⟩ := (Bar_neg hc).mp hbar
    obtain ⟨l', e⟩ : ∃ l' : Nat, (l' : Int) = l := ⟨l.toNat, by omega⟩
    subst e
    exact ⟨v, l', by omega, l3, w, w1, by omega⟩
  obtain ⟨I', JS', L, K, uf, cost, t1, t2, t3, t4, t5, t6, t7, t8⟩ := tr_trace (h := h) (N := N) hc hC hA hP hN g2 ⟨g6 rfl, g3, g5⟩ g4 hex
  exact ⟨I', IS', JS1, JS', L, K, uf, cost, t1, t2, t3, t4, t5, t6, g2.same (fun k => t7 0 k (by omega)), g7, t8⟩
theorem k_runA_bar (hN : 60 ≤ N) (hOK : aOK a) (hI : CI I J x a) (hno : ¬ Bar a.1 (-1)) : ∃ sw I' J' a' r, RunR a a' r ∧ CI I' J' (x.1, x.2.1, sw, x.2.2.2) a' ∧ I' 0 8 = 0 ∧ a'.2.1 0 = 0 ∧ f_LT_runA N b (CH h b x I J) = some (iI r, CH h b (x.1, x.2.1, sw, x.2.2.2) I' J') := by
  have hc := hOK.1
  obtain ⟨I1, f1, f2⟩ := c_forget (h := h) (b := b) (N := N) hc hI.1 hN
  have hCI := fg_ci (a := a) hI.1 f1 hI.2.2.2.1
  obtain ⟨J1, sw, z, b1', b2, b3, b4⟩ := c_barred (h := h) (b := b) (N := N) hc hCI.1 hN
  have hz : z ≠ -1 := fun e => hno (by rw [e] at b2; exact b2)
  refine ⟨sw, I1, J1, forg a, -1 - z, Or.inl ⟨z, b2, by omega, rfl, rfl⟩, hCI.sameJ b1' ⟨rfl, rfl⟩, f1.2.2.1, rfl, ?_⟩
  have ez : iI z = (-1 : Int32) ↔ z = -1 := by rw [iI_m1]; exact iI_eq (by omega) (by omega) (by omega) (by omega)
  unfold f_LT_runA
  simp only [c_rd, zck_t, f2, Option.bind_some, b4, ez]
  rw [if_neg hz, iI_m1, iI_sub]
theorem k_runA (hN : 4000 ≤ N) (hOK : aOK a) (hI : CI I J x a) (ho : x.2.2.2.1 = some s) (hA : Apart s b y a.1) (hP : Par a.1 y true 1024 1) (hS : Stat IS JS y true 1024 1) (hb : Bar a.1 (-1)) : ∃ sw I' J' IS' JS' a' r, RunR a a' r ∧ CI I' J' (x.1, x.2.1, sw, x.2.2.2) a' ∧ I' 0 8 = 0 ∧ Stat IS' JS' y true 1024 1 ∧ f_LT_runA N b (TH h b x I J s y IS JS) = some (iI r, TH h b (x.1, x.2.1, sw, x.2.2.2) I' J' s y IS' JS') := by
  have hc := hOK.1
  obtain ⟨I1, f1, f2⟩ := c_forget (h := SH h s y IS JS) (b := b) (N := N) hc hI.1 (by omega)
  have hCI := fg_ci (a := a) hI.1 f1 hI.2.2.2.1
  obtain ⟨J1, sw, z, b1', b2, b3, b4⟩ := c_barred (h := SH h s y IS JS) (b := b) (N := N) hc hCI.1 (by omega)
  have hz := b2.uniq hb
  subst hz
  have hCI1 : CI I1 J1 (x.1, x.2.1, sw, x.2.2.2) (forg (a.1, a.2)) := hCI.sameJ b1' ⟨rfl, rfl⟩
  obtain ⟨I', IS', JS1, JS', L, K, uf, cost, t1, t2, t3, t4, t5, t6, t7, t8, t9⟩ := k_tail (h := h) (N := N) hc hCI1.1 hA hP hN hS hb
  refine ⟨sw, I', u2 J1 15 6 (iJ cost), IS', JS', withT a L K uf cost, (popc uf (a.1.1 10).toNat : Nat), Or.inr ⟨hb, L, K, uf, cost, t1, rfl, rfl⟩, ci_withT hCI1 t2 t3 t4 t5 t6, by rw [t2 0 8 (by omega) (by omega) (by omega)]; exact f1.2.2.1, t7, ?_⟩
  have hc1 : ∀ (x : cx) (I : Nat → Nat → Int32) (J : Nat → Nat → Int64) (IS : Nat → Nat → Int32) (JS : Nat → Nat → Int64), CH (SH h s y IS JS) b x I J = TH h b x I J s y IS JS := fun _ _ _ _ _ => (t_comm hA).symm
  have hr3 : ∀ (x : cx) (I : Nat → Nat → Int32) (J : Nat → Nat → Int64) (IS : Nat → Nat → Int32) (JS : Nat → Nat → Int64), zgR (TH h b x I J s y IS JS) b 1 3 = some (b + 15) := fun x I J IS JS => by rw [← hc1]; simp only [c_rd]
  unfold f_LT_runA f_LT_bestSearchA
  rw [t_comm hA]
  simp only [c_rd, zck_t, f2, Option.bind_some, b4, iI_m1, if_true, c_q6, ho, Option.isSome_some, c_r6 (x := (x.1, x.2.1, sw, x.2.2.2)) ho]
  rw [hc1]
  simp only [s_rd, zck_t, t8, Option.bind_some, hr3, t9, th_rd hA, t4, c_bitCount hc (t1.tf hc)]
theorem k_move_bad (hN : 60 ≤ N) (hOK : aOK a) (hI : CI I J x a) {p z : Int} (hp : rg p) (hz : rg z) (hno : ¬ ((a.2.1 0 = 1 ∧ (0 ≤ p ∧ p ≤ a.1.1 0) ∧ (z = -1 ∨ (0 ≤ z ∧ z ≤ a.1.1 1))) ∧ Bar (setC a.1 5 p.toNat z) (-1))) : ∃ sw I' J', MoveR a a p z false ∧ CI I' J' (x.1, x.2.1, sw, x.2.2.2) a ∧ I' 0 8 = I 0 8 ∧ f_LT_moveA N b (iI p) (iI z) (CH h b x I J) = some (b1 false, CH h b (x.1, x.2.1, sw, x.2.2.2) I' J') := by
  have hc := hOK.1
  have hn := nn_r hc
  have hm := hc.2.1
  have hC := hI.1
  have hhas := hOK.has
  have e0 : iI (a.2.1 0) = (0 : Int32) ↔ a.2.1 0 = 0 := iI_ez (by omega) (by omega)
  have hbad : (a.2.1 0 = 0 ∨ ¬ (0 ≤ p ∧ p ≤ a.1.1 0) ∨ ¬ (z = -1 ∨ (0 ≤ z ∧ z ≤ a.1.1 1))) → ∃ sw I' J', MoveR a a p z false ∧ CI I' J' (x.1, x.2.1, sw, x.2.2.2) a ∧ I' 0 8 = I 0 8 ∧ zrb 0 (CH h b x I J) = some (b1 false, CH h b (x.1, x.2.1, sw, x.2.2.2) I' J') := fun q => ⟨x.2.2.1, I, J, Or.inl ⟨q, rfl, rfl⟩, hI, rfl, rfl⟩
  unfold f_LT_moveA
  simp only [c_rd, Option.bind_some, hI.2.1, e0, zck_t, c_isPlace (N := N) (h := h) (b := b) hc hC hp, c_isLevelOrNone (N := N) (h := h) (b := b) hc hC hz, b1_0, decide_eq_false_iff_not]
  by_cases c0 : a.2.1 0 = 0
  · rw [if_pos c0]; exact hbad (Or.inl c0)
  rw [if_neg c0]
  by_cases c1 : 0 ≤ p ∧ p ≤ a.1.1 0
  rotate_left
  · rw [if_pos c1]; exact hbad (Or.inr (Or.inl c1))
  rw [if_neg (fun q => q c1)]
  by_cases c2 : z = -1 ∨ (0 ≤ z ∧ z ≤ a.1.1 1)
  rotate_left
  · rw [if_pos c2]; exact hbad (Or.inr (Or.inr c2))
  rw [if_neg (fun q => q c2)]
  have hh := hhas.resolve_left c0
  have hnb : ¬ Bar (setC a.1 5 p.toNat z) (-1) := fun q => hno ⟨⟨hh, c1, c2⟩, q⟩
  obtain ⟨hin, hcl⟩ := p_in (p := p) (n := x.1 + 1) c1.1 (by rw [hC.1.1]; omega) (by rw [hC.1.1]; omega)
  have hc' : cOK (setC a.1 5 p.toNat z) := setC_ok hc (by omega) (by omega) ⟨by omega, by omega, by omega⟩
  have hC' : CC (u2 I 6 p.toNat (iI z)) J x (setC a.1 5 p.toNat z) := hC.set (i := 5) (by omega) (by omega)
  obtain ⟨J1, sw, w, b1', b2, b3, b4⟩ := c_barred (h := h) (b := b) (N := N) hc' hC' hN
  have hw : w ≠ -1 := fun e => hnb (by rw [e] at b2; exact b2)
  have ew : iI w = (-1 : Int32) ↔ w = -1 := by rw [iI_m1]; exact iI_eq (by omega) (by omega) (by omega) (by omega)
  have hback : u2 (u2 I 6 p.toNat (iI z)) 6 p.toNat (I 6 p.toNat) = I := by
    funext i q
    by_cases e : i = 6 ∧ q = p.toNat
    · rw [e.1, e.2, u2_s]
    · rw [u2_n (by omega), u2_n (by omega)]
  refine ⟨sw, I, J1, Or.inr ⟨⟨hh, c1, c2⟩, Or.inl ⟨hnb, rfl, rfl⟩⟩, hI.sameJ b1' ⟨rfl, rfl⟩, rfl, ?_⟩
  simp only [ca_6 hin, cs_6 hin, hcl, Option.bind_some, c_rd, zck_t, b4, ew]
  rw [if_neg hw]
  have hs6 : zsI (CH h b (x.1, x.2.1, sw, x.2.2.2) (u2 I 6 p.toNat (iI z)) J1) 0 (b + 6) (iI p) (I 6 p.toNat) = some (CH h b (x.1, x.2.1, sw, x.2.2.2) I J1) := by
    have q := cs_6 (h := h) (b := b) (x := (x.1, x.2.1, sw, x.2.2.2)) (I := u2 I 6 p.toNat (iI z)) (J := J1) (v := iI p) (w := I 6 p.toNat) hin
    rw [hcl, hback] at q
    exact q
  rw [hs6]; rfl
theorem k_moveA (hN : 4000 ≤ N) (hOK : aOK a) (hI : CI I J x a) (ho : x.2.2.2.1 = some s) (hA : Apart s b y a.1) (hP : Par a.1 y true 1024 1) (hS : Stat IS JS y true 1024 1) {p z : Int} (hp : rg p) (hz : rg z) (hgood : a.2.1 0 = 1 ∧ (0 ≤ p ∧ p ≤ a.1.1 0) ∧ (z = -1 ∨ (0 ≤ z ∧ z ≤ a.1.1 1))) (hb : Bar (setC a.1 5 p.toNat z) (-1)) : ∃ sw I' J' IS' JS' a', MoveR a a' p z true ∧ CI I' J' (x.1, x.2.1, sw, x.2.2.2) a' ∧ I' 0 8 = 0 ∧ Stat IS' JS' y true 1024 1 ∧ f_LT_moveA N b (iI p) (iI z) (TH h b x I J s y IS JS) = some (b1 true, TH h b (x.1, x.2.1, sw, x.2.2.2) I' J' s y IS' JS') := by
  have hc := hOK.1
  have hn := nn_r hc
  have hm := hc.2.1
  have hC := hI.1
  obtain ⟨hh, c1, c2⟩ := hgood
  obtain ⟨hin, hcl⟩ := p_in (p := p) (n := x.1 + 1) c1.1 (by rw [hC.1.1]; omega) (by rw [hC.1.1]; omega)
  have hc' : cOK (setC a.1 5 p.toNat z) := setC_ok hc (by omega) (by omega) ⟨by omega, by omega, by omega⟩
  have hC' : CC (u2 I 6 p.toNat (iI z)) J x (setC a.1 5 p.toNat z) := hC.set (i := 5) (by omega) (by omega)
  obtain ⟨J1, sw, w, b1', b2, b3, b4⟩ := c_barred (h := SH h s y IS JS) (b := b) (N := N) hc' hC' (by omega)
  have hw := b2.uniq hb
  subst hw
  have hC1 : CC (u2 I 6 p.toNat (iI z)) J1 (x.1, x.2.1, sw, x.2.2.2) (setC a.1 5 p.toNat z) := hC'.same ⟨rfl, rfl⟩ (fun _ _ _ _ => rfl) (fun q => b1' 11 q (by decide) (by decide))
  obtain ⟨I1, f1, f2⟩ := c_forget (h := SH h s y IS JS) (b := b) (N := N) hc' hC1 (by omega)
  have hCI := fg_ci (a := a) hC1 f1 hI.2.2.2.1
  obtain ⟨I', IS', JS1, JS', L, K, uf, cost, t1, t2, t3, t4, t5, t6, t7, t8, t9⟩ := k_tail (h := h) (N := N) hc' hCI.1 hA hP hN hS hb
  refine ⟨sw, I', u2 J1 15 6 (iJ cost), IS', JS', withT (setC a.1 5 p.toNat z, a.2) L K uf cost, Or.inr ⟨⟨hh, c1, c2⟩, Or.inr ⟨hb, rfl, L, K, uf, cost, t1, rfl⟩⟩, ci_withT hCI t2 t3 t4 t5 t6, by rw [t2 0 8 (by omega) (by omega) (by omega)]; exact f1.2.2.1, t7, ?_⟩
  have hc1 : ∀ (x : cx) (I : Nat → Nat → Int32) (J : Nat → Nat → Int64) (IS : Nat → Nat → Int32) (JS : Nat → Nat → Int64), CH (SH h s y IS JS) b x I J = TH h b x I J s y IS JS := fun _ _ _ _ _ => (t_comm hA).symm
  have hr3 : ∀ (x : cx) (I : Nat → Nat → Int32) (J : Nat → Nat → Int64) (IS : Nat → Nat → Int32) (JS : Nat → Nat → Int64), zgR (TH h b x I J s y IS JS) b 1 3 = some (b + 15) := fun x I J IS JS => by rw [← hc1]; simp only [c_rd]
  unfold f_LT_moveA f_LT_bestSearchA
  rw [t_comm hA]
  simp only [c_rd, Option.bind_some, hI.2.1, hh, zck_t, c_isPlace (N := N) (h := SH h s y IS JS) (b := b) hc hC hp, c_isLevelOrNone (N := N) (h := SH h s y IS JS) (b := b) hc hC hz, decide_eq_true c1, decide_eq_true c2]
  rw [if_neg (by decide), if_neg (by decide), if_neg (by decide)]
  simp only [ca_6 hin, cs_6 hin, hcl, Option.bind_some, c_rd, zck_t, b4, iI_m1, if_true, f2, c_q6, ho, Option.isSome_some, c_r6 (x := (x.1, x.2.1, sw, x.2.2.2)) ho]
  rw [hc1]
  simp only [s_rd, zck_t, t8, Option.bind_some, hr3, t9]
  rfl
end CRUN
