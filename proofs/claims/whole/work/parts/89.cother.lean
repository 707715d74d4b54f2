/-! the class: other; run and other with a search to be made -/
section COTHER
variable {h : zH} {s b : Nat} {y : sx} {x : cx} {I : Nat → Nat → Int32} {J : Nat → Nat → Int64} {a : ast} {N : Nat} {IS : Nat → Nat → Int32} {JS : Nat → Nat → Int64}
theorem U0_Uo {c : cfg} (hc : cOK c) {v : Int} : U0 c 1 0 (mm c + 1) v ↔ Uo c (c.1 1 + 1) v := by
  have hm := mm_r hc
  constructor
  · rintro ⟨l, l1, l2, q, q1, q2⟩
    exact ⟨l, by omega, by omega, l2, q, q1, by omega⟩
  · rintro ⟨l, l1, l2, l3, q, q1, q2⟩
    obtain ⟨l', e⟩ : ∃ l' : Nat, (l' : Int) = l := ⟨l.toNat, by omega⟩
    subst e
    exact ⟨l', by omega, l3, q, q1, by omega⟩
/-- the known costs are answered -/
theorem k_least (hc : cOK a.1) (hA : Apart s b y a.1) (hP : Par a.1 y false 1 0) (hR : RF JS (y.1 + 3) 0 y.2.2.1 (U0 a.1 1 0 (mm a.1 + 1))) (hh : a.2.1 0 = 1) {k : Int} (k0 : 0 ≤ k) (k5 : k ≤ 5) : ∃ v, OtherR a k v ∧ f_Search_leastOrNone N s (iI k) (SH h s y IS JS) = some (iJ v, SH h s y IS JS) := by
  have hw6 : y.2.2.1 = 6 := by
    rcases hP with q | q
    · exact absurd q.1 (by decide)
    · exact q.2.2.1
  obtain ⟨L, h1, h2⟩ := hR
  rw [hw6] at h1 h2
  have hsl3 : slen y (y.1 + 3) = y.2.2.1 := by unfold slen; rw [if_neg (by omega), if_neg (by omega)]
  obtain ⟨n, rfl⟩ : ∃ n : Nat, k = n := ⟨k.toNat, by omega⟩
  obtain ⟨hin, hcl⟩ := nat_in (p := n) (n := slen y (y.1 + 3)) (by rw [hsl3, hw6]; omega) (by rw [hsl3, hw6]; omega)
  have hF : FW 6 (Uo a.1 (a.1.1 1 + 1)) L := h2.congr (fun v => U0_Uo hc)
  have eN : (1152921504606846976 : Int64) = iJ 1152921504606846976 := by decide
  have hrd : ∀ v : Int, (pd 6 L)[n]? = some v → JS (y.1 + 3) n = iJ v := fun v hv => by
    have := h1 n v hv
    rw [Nat.zero_add] at this
    exact this
  have hbody : ∀ v : Int, (pd 6 L)[n]? = some v → f_Search_leastOrNone N s (iI (n : Int)) (SH h s y IS JS) = if lg_cmp (iJ v) (iJ 1152921504606846976) < 0 then some (iJ v, SH h s y IS JS) else some (iJ (-1), SH h s y IS JS) := fun v hv => by
    unfold f_Search_leastOrNone
    simp only [s_rd, Option.bind_some, sa_J (show 2 ≤ y.1 + 3 by omega) (show y.1 + 3 < y.1 + 4 by omega) hin, hcl, hrd v hv, eN, iJ_m1]
  by_cases c : n < L.length
  · have hg : (pd 6 L)[n]? = some L[n] := by
      unfold pd
      rw [List.getElem?_append_left c]
      exact List.getElem?_eq_getElem c
    have hb : 0 ≤ L[n] ∧ L[n] ≤ 100000000000000 := by
      obtain ⟨l, _, hv⟩ := h2.2.2.1 _ (List.getElem_mem c)
      exact V0g_bd hc hP hv
    refine ⟨L[n], Or.inr ⟨⟨hh, k0, k5⟩, L, hF, ?_⟩, ?_⟩
    · show L[n] = (L[n]?).getD (-1)
      rw [List.getElem?_eq_getElem c]; rfl
    · rw [hbody _ hg, if_pos ((lgc_neg (by omega) (by omega) (by omega) (by omega)).mpr (by omega))]
  · have hg : (pd 6 L)[n]? = some (1152921504606846976 : Int) := by
      unfold pd
      rw [List.getElem?_append_right (by omega), List.getElem?_replicate, if_pos (by omega)]
    refine ⟨-1, Or.inr ⟨⟨hh, k0, k5⟩, L, hF, ?_⟩, ?_⟩
    · show (-1 : Int) = (L[n]?).getD (-1)
      rw [List.getElem?_eq_none (by omega)]; rfl
    · rw [hbody _ hg, if_neg (fun q => by have := (lgc_neg (by omega) (by omega) (by omega) (by omega)).mp q; omega)]
theorem k_other_bad (hOK : aOK a) (hI : CI I J x a) {k : Int} (hk : rg k) (hno : ¬ (a.2.1 0 = 1 ∧ 0 ≤ k ∧ k ≤ 5)) : OtherR a k (-1) ∧ f_LT_otherA N b (iI k) (CH h b x I J) = some (iJ (-1), CH h b x I J) := by
  obtain ⟨k1, k2⟩ := hk
  have hhas := hOK.has
  have e0 : iI (a.2.1 0) = (0 : Int32) ↔ a.2.1 0 = 0 := iI_ez (by omega) (by omega)
  have e1 : iI k < (0 : Int32) ↔ k < 0 := iI_lz k1 k2
  have e6 : iI k < (6 : Int32) ↔ k < 6 := by rw [show (6 : Int32) = iI 6 by decide]; exact iI_lt k1 k2 (by omega) (by omega)
  refine ⟨Or.inl ⟨by omega, rfl⟩, ?_⟩
  unfold f_LT_otherA
  simp only [c_rd, Option.bind_some, hI.2.1, e0, e1, e6, iJ_m1]
  by_cases c0 : a.2.1 0 = 0
  · rw [if_pos c0]
  rw [if_neg c0]
  by_cases c1 : k < 0
  · rw [if_pos c1]
  rw [if_neg c1, if_neg (by omega)]
/-- what other does once its search is there -/
theorem k_other52 (hN : 4000 ≤ N) (hOK : aOK a) (hI : CI I J x a) (ho : x.2.2.2.2 = some s) (hA : Apart s b y a.1) (hP : Par a.1 y false 1 0) (hS : Stat IS JS y false 1 0) (h08 : I 0 8 = 0 ∨ (I 0 8 = 1 ∧ RF JS (y.1 + 3) 0 y.2.2.1 (U0 a.1 1 0 (mm a.1 + 1)))) (hh : a.2.1 0 = 1) {k : Int} (k0 : 0 ≤ k) (k5 : k ≤ 5) : ∃ I' IS' JS' v, OtherR a k v ∧ CI I' J x a ∧ I' 0 8 = 1 ∧ RF JS' (y.1 + 3) 0 y.2.2.1 (U0 a.1 1 0 (mm a.1 + 1)) ∧ Stat IS' JS' y false 1 0 ∧ f_LT_other_52 N b (iI k) (TH h b x I J s y IS JS) = some (iJ v, TH h b x I' J s y IS' JS') ∧
    (Option.bind (zgI (TH h b x I J s y IS JS) b 1 8) fun (v5 : Int32) => (if v5 = 0 then Option.bind (zgR (TH h b x I J s y IS JS) b 1 7) fun (v6 : Nat) => Option.bind (zck (zis (TH h b x I J s y IS JS) v6 8) (f_Search_fillLayers N v6 (TH h b x I J s y IS JS))) fun (p7 : Unit × zH) => Option.bind (zpZ p7.2 b 1 8 (1 : Int32)) fun (h8 : zH) => f_LT_otherA_71 N b (iI k) h8 else f_LT_otherA_71 N b (iI k) (TH h b x I J s y IS JS))) = some (iJ v, TH h b x I' J s y IS' JS') := by
  have hc := hOK.1
  have hcm : ∀ (I : Nat → Nat → Int32) (IS : Nat → Nat → Int32) (JS : Nat → Nat → Int64), TH h b x I J s y IS JS = CH (SH h s y IS JS) b x I J := fun _ _ _ => t_comm hA
  have r8 : ∀ (I : Nat → Nat → Int32) (IS : Nat → Nat → Int32) (JS : Nat → Nat → Int64), zgI (TH h b x I J s y IS JS) b 1 8 = some (I 0 8) := fun I IS JS => by rw [hcm]; simp only [c_rd]
  have r7 : ∀ (I : Nat → Nat → Int32) (IS : Nat → Nat → Int32) (JS : Nat → Nat → Int64), zgR (TH h b x I J s y IS JS) b 1 7 = some s := fun I IS JS => by rw [hcm]; exact c_r7 ho
  have w8 : ∀ (IS : Nat → Nat → Int32) (JS : Nat → Nat → Int64), zpZ (TH h b x I J s y IS JS) b 1 8 1 = some (TH h b x (u2 I 0 8 1) J s y IS JS) := fun IS JS => by
    unfold zpZ
    rw [if_pos (Or.inr rfl), hcm, hcm]
    simp only [c_wr]
  rcases h08 with e8 | ⟨e8, hR⟩
  · have hW := mkW (h := h) hc hI.1 hA
    obtain ⟨IS', JS', f, g1, g2, g3, g4, g5, g6, g7⟩ := w_fillLayers (N := N) hW hP hN hS
    obtain ⟨v, hv, hlo⟩ := k_least (h := CH h b x (u2 I 0 8 1) J) (N := N) (IS := IS') hc hA hP g3 hh k0 k5
    obtain ⟨q1, q2, q3, q4, q5, q6⟩ := hI
    refine ⟨u2 I 0 8 1, IS', JS', v, hv, ⟨q1.same ⟨rfl, rfl⟩ (fun i q _ _ => u2_n (by omega)) (fun _ => rfl), q2, q3, q4, q5, q6⟩, u2_s, g3, g2, ?_, ?_⟩
    · unfold f_LT_other_52 f_LT_other_71
      simp only [r8, e8, if_true, Option.bind_some, r7, s_rd, zck_t, g7, w8, hlo]
    · unfold f_LT_otherA_71
      simp only [r8, e8, if_true, Option.bind_some, r7, s_rd, zck_t, g7, w8, hlo]
  · obtain ⟨v, hv, hlo⟩ := k_least (h := CH h b x I J) (N := N) (IS := IS) hc hA hP hR hh k0 k5
    refine ⟨I, IS, JS, v, hv, hI, e8, hR, hS, ?_, ?_⟩
    · unfold f_LT_other_52 f_LT_other_71
      simp only [r8, e8, Option.bind_some, r7, s_rd, zck_t, hlo]
      rw [if_neg (by decide)]
    · unfold f_LT_otherA_71
      simp only [r8, e8, Option.bind_some, r7, s_rd, zck_t, hlo]
      rw [if_neg (by decide)]
theorem k_otherA (hN : 4000 ≤ N) (hOK : aOK a) (hI : CI I J x a) (ho : x.2.2.2.2 = some s) (hA : Apart s b y a.1) (hP : Par a.1 y false 1 0) (hS : Stat IS JS y false 1 0) (h08 : I 0 8 = 0 ∨ (I 0 8 = 1 ∧ RF JS (y.1 + 3) 0 y.2.2.1 (U0 a.1 1 0 (mm a.1 + 1)))) (hh : a.2.1 0 = 1) {k : Int} (k0 : 0 ≤ k) (k5 : k ≤ 5) : ∃ I' IS' JS' v, OtherR a k v ∧ CI I' J x a ∧ I' 0 8 = 1 ∧ RF JS' (y.1 + 3) 0 y.2.2.1 (U0 a.1 1 0 (mm a.1 + 1)) ∧ Stat IS' JS' y false 1 0 ∧ f_LT_otherA N b (iI k) (TH h b x I J s y IS JS) = some (iJ v, TH h b x I' J s y IS' JS') := by
  obtain ⟨I', IS', JS', v, g1, g2, g3, g4, g5, g6, g7⟩ := k_other52 (h := h) (N := N) hN hOK hI ho hA hP hS h08 hh k0 k5
  refine ⟨I', IS', JS', v, g1, g2, g3, g4, g5, ?_⟩
  have e1 : iI k < (0 : Int32) ↔ k < 0 := iI_lz (by omega) (by omega)
  have e6 : iI k < (6 : Int32) ↔ k < 6 := by rw [show (6 : Int32) = iI 6 by decide]; exact iI_lt (by omega) (by omega) (by omega) (by omega)
  have r3 : zgR (TH h b x I J s y IS JS) b 1 3 = some (b + 15) := by rw [t_comm hA]; simp only [c_rd]
  have r4 : zgI (TH h b x I J s y IS JS) (b + 15) 5 4 = some (iI (a.2.1 0)) := by rw [t_comm hA]; simp only [c_rd, hI.2.1]
  have q7 : zgQ (TH h b x I J s y IS JS) b 1 7 = some (some s) := by rw [t_comm hA, c_q7, ho]
  unfold f_LT_otherA
  simp only [r3, r4, hh, Option.bind_some, e1, e6, q7, Option.isSome_some, if_true]
  rw [if_neg (by decide), if_neg (by omega), if_pos (by omega)]
  exact g7
theorem ch_next {n : Nat} : CH (h.1, n) b x I J = ((CH h b x I J).1, n) := rfl
theorem k_run_new (hN : 4000 ≤ N) (hOK : aOK a) (hI : CI I J x a) (ho : x.2.2.2.1 = none) (hs : b + 21 ≤ h.2) (hb : Bar a.1 (-1)) : ∃ sw I' J' IS' JS' a' r, RunR a a' r ∧ CI I' J' (x.1, x.2.1, sw, some h.2, x.2.2.2.2) a' ∧ I' 0 8 = 0 ∧ Stat IS' JS' (nn a.1 + 1, mm a.1 + 1, 1, b) true 1024 1 ∧ f_LT_run N b (CH h b x I J) = some (iI r, TH (h.1, h.2 + (nn a.1 + 1 + 4)) b (x.1, x.2.1, sw, some h.2, x.2.2.2.2) I' J' h.2 (nn a.1 + 1, mm a.1 + 1, 1, b) IS' JS') := by
  have hc := hOK.1
  have hn := nn_r hc
  obtain ⟨I1, f1, f2⟩ := c_forget (h := h) (b := b) (N := N) hc hI.1 (by omega)
  have hCI := fg_ci (a := a) hI.1 f1 hI.2.2.2.1
  obtain ⟨J1, sw, z, b1', b2, b3, b4⟩ := c_barred (h := h) (b := b) (N := N) hc hCI.1 (by omega)
  have hz := b2.uniq hb
  subst hz
  have hCI1 : CI I1 J1 (x.1, x.2.1, sw, x.2.2.2) (forg (a.1, a.2)) := hCI.sameJ b1' ⟨rfl, rfl⟩
  have hCI2 : CI I1 J1 (x.1, x.2.1, sw, some h.2, x.2.2.2.2) (forg (a.1, a.2)) := hCI.sameJ b1' ⟨rfl, rfl⟩
  have hA : Apart h.2 b (nn a.1 + 1, mm a.1 + 1, 1, b) a.1 := ⟨Or.inl hs, rfl, rfl, ⟨Nat.le_refl _, by show 1 ≤ 6; omega⟩, by show 3 ≤ nn a.1 + 1; omega, by show nn a.1 + 1 ≤ 25; omega⟩
  have hP : Par a.1 (nn a.1 + 1, mm a.1 + 1, 1, b) true 1024 1 := Or.inl ⟨rfl, rfl, rfl, rfl, rfl⟩
  have hS := stat1 (c := a.1) (y := (nn a.1 + 1, mm a.1 + 1, 1, b)) rfl rfl
  obtain ⟨I', IS', JS1, JS', L, K, uf, cost, t1, t2, t3, t4, t5, t6, t7, t8, t9⟩ := k_tail (h := (h.1, h.2 + (nn a.1 + 1 + 4))) (N := N) hc hCI2.1 hA hP hN hS hb
  refine ⟨sw, I', u2 J1 15 6 (iJ cost), IS', JS', withT a L K uf cost, (popc uf (a.1.1 10).toNat : Nat), Or.inr ⟨hb, L, K, uf, cost, t1, rfl, rfl⟩, ci_withT hCI2 t2 t3 t4 t5 t6, by rw [t2 0 8 (by omega) (by omega) (by omega)]; exact f1.2.2.1, t7, ?_⟩
  -- the search is made
  have hnew : f_Search_init N h.2 (b + 1) (b + 7) (1 : Int32) (z_push (CH h b (x.1, x.2.1, sw, x.2.2.2) I1 J1) (.inr (8, df_Search))) = some ((), TH (h.1, h.2 + (nn a.1 + 1 + 4)) b (x.1, x.2.1, sw, x.2.2.2) I1 J1 h.2 (nn a.1 + 1, mm a.1 + 1, 1, b) (IS0 (mm a.1 + 1) 1 true) (JS0 1024 1)) := by
    rw [gL_one]
    exact k_new1 (by omega) hc hCI1.1 (g := (CH h b (x.1, x.2.1, sw, x.2.2.2) I1 J1).1) (s := h.2) hs (fun n => by
      rw [← ch_next]; exact bh_idem)
  have hc1 : ∀ (x : cx) (I : Nat → Nat → Int32) (J : Nat → Nat → Int64) (IS : Nat → Nat → Int32) (JS : Nat → Nat → Int64), CH (SH (h.1, h.2 + (nn a.1 + 1 + 4)) h.2 (nn a.1 + 1, mm a.1 + 1, 1, b) IS JS) b x I J = TH (h.1, h.2 + (nn a.1 + 1 + 4)) b x I J h.2 (nn a.1 + 1, mm a.1 + 1, 1, b) IS JS := fun _ _ _ _ _ => (t_comm hA).symm
  have hr3 : ∀ (x : cx) (I : Nat → Nat → Int32) (J : Nat → Nat → Int64) (IS : Nat → Nat → Int32) (JS : Nat → Nat → Int64), zgR (TH (h.1, h.2 + (nn a.1 + 1 + 4)) b x I J h.2 (nn a.1 + 1, mm a.1 + 1, 1, b) IS JS) b 1 3 = some (b + 15) := fun x I J IS JS => by rw [← hc1]; simp only [c_rd]
  have hp0 : zgR (z_push (CH h b (x.1, x.2.1, sw, x.2.2.2) I1 J1) (.inr (8, df_Search))) b 1 0 = some (b + 1) := by
    have e : (z_push (CH h b (x.1, x.2.1, sw, x.2.2.2) I1 J1) (.inr (8, df_Search))).1 b = (CH h b (x.1, x.2.1, sw, x.2.2.2) I1 J1).1 b := if_neg (show ¬ b = h.2 by omega)
    have q : zgR (CH h b (x.1, x.2.1, sw, x.2.2.2) I1 J1) b 1 0 = some (b + 1) := by simp only [c_rd]
    unfold zgR at q ⊢
    rw [e]; exact q
  have hp1 : zgR (z_push (CH h b (x.1, x.2.1, sw, x.2.2.2) I1 J1) (.inr (8, df_Search))) b 1 1 = some (b + 7) := by
    have e : (z_push (CH h b (x.1, x.2.1, sw, x.2.2.2) I1 J1) (.inr (8, df_Search))).1 b = (CH h b (x.1, x.2.1, sw, x.2.2.2) I1 J1).1 b := if_neg (show ¬ b = h.2 by omega)
    have q : zgR (CH h b (x.1, x.2.1, sw, x.2.2.2) I1 J1) b 1 1 = some (b + 7) := by simp only [c_rd]
    unfold zgR at q ⊢
    rw [e]; exact q
  have hn2 : (CH h b (x.1, x.2.1, sw, x.2.2.2) I1 J1).2 = h.2 := rfl
  unfold f_LT_run f_LT_bestSearch f_LT_bestSearch_27 znO
  simp only [c_rd, zck_t, f2, Option.bind_some, b4, iI_m1, if_true, c_q6, ho, Option.isSome_none, hn2, hp0, hp1, hnew]
  rw [if_neg (by decide), ← hc1]
  simp only [c_w6, Option.bind_some, c_r6 (x := (x.1, x.2.1, sw, some h.2, x.2.2.2.2)) rfl]
  rw [hc1]
  simp only [s_rd, zck_t, t8, Option.bind_some, hr3, t9, th_rd hA, t4, c_bitCount hc (t1.tf hc)]
theorem k_other_new (hN : 4000 ≤ N) (hOK : aOK a) (hI : CI I J x a) (ho : x.2.2.2.2 = none) (hs : b + 21 ≤ h.2) (h08 : I 0 8 = 0) (hh : a.2.1 0 = 1) {k : Int} (k0 : 0 ≤ k) (k5 : k ≤ 5) : ∃ I' IS' JS' v, OtherR a k v ∧ CI I' J (x.1, x.2.1, x.2.2.1, x.2.2.2.1, some h.2) a ∧ I' 0 8 = 1 ∧ RF JS' (3 + 3) 0 6 (U0 a.1 1 0 (mm a.1 + 1)) ∧ Stat IS' JS' (3, mm a.1 + 1, 6, b) false 1 0 ∧ f_LT_other N b (iI k) (CH h b x I J) = some (iJ v, TH (h.1, h.2 + (3 + 4)) b (x.1, x.2.1, x.2.2.1, x.2.2.2.1, some h.2) I' J h.2 (3, mm a.1 + 1, 6, b) IS' JS') := by
  have hc := hOK.1
  have hn := nn_r hc
  have hCI : CI I J (x.1, x.2.1, x.2.2.1, x.2.2.2.1, some h.2) a := hI.sameJ (fun _ _ _ _ => rfl) ⟨rfl, rfl⟩
  have hA : Apart h.2 b (3, mm a.1 + 1, 6, b) a.1 := ⟨Or.inl hs, rfl, rfl, ⟨by show 1 ≤ 6; omega, Nat.le_refl _⟩, Nat.le_refl _, by show 3 ≤ 25; omega⟩
  have hP : Par a.1 (3, mm a.1 + 1, 6, b) false 1 0 := Or.inr ⟨rfl, rfl, rfl, rfl, rfl⟩
  have hS := stat6 (c := a.1) (y := (3, mm a.1 + 1, 6, b)) rfl rfl
  obtain ⟨I', IS', JS', v, g1, g2, g3, g4, g5, g6, -⟩ := k_other52 (h := (h.1, h.2 + (3 + 4))) (N := N) hN hOK hCI rfl hA hP hS (Or.inl h08) hh k0 k5
  refine ⟨I', IS', JS', v, g1, g2, g3, g4, g5, ?_⟩
  have hnew : f_Search_init N h.2 (b + 1) (b + 7) (6 : Int32) (z_push (CH h b x I J) (.inr (8, df_Search))) = some ((), TH (h.1, h.2 + (3 + 4)) b x I J h.2 (3, mm a.1 + 1, 6, b) (IS0 (mm a.1 + 1) 6 false) (JS0 1 0)) := by
    rw [gL_one]
    exact k_new6 (by omega) hc hI.1 (g := (CH h b x I J).1) (s := h.2) hs (fun n => by
      rw [← ch_next]; exact bh_idem)
  have hc1 : ∀ (x : cx) (I : Nat → Nat → Int32) (J : Nat → Nat → Int64) (IS : Nat → Nat → Int32) (JS : Nat → Nat → Int64), CH (SH (h.1, h.2 + (3 + 4)) h.2 (3, mm a.1 + 1, 6, b) IS JS) b x I J = TH (h.1, h.2 + (3 + 4)) b x I J h.2 (3, mm a.1 + 1, 6, b) IS JS := fun _ _ _ _ _ => (t_comm hA).symm
  have hp0 : zgR (z_push (CH h b x I J) (.inr (8, df_Search))) b 1 0 = some (b + 1) := by
    have e : (z_push (CH h b x I J) (.inr (8, df_Search))).1 b = (CH h b x I J).1 b := if_neg (show ¬ b = h.2 by omega)
    have q : zgR (CH h b x I J) b 1 0 = some (b + 1) := by simp only [c_rd]
    unfold zgR at q ⊢
    rw [e]; exact q
  have hp1 : zgR (z_push (CH h b x I J) (.inr (8, df_Search))) b 1 1 = some (b + 7) := by
    have e : (z_push (CH h b x I J) (.inr (8, df_Search))).1 b = (CH h b x I J).1 b := if_neg (show ¬ b = h.2 by omega)
    have q : zgR (CH h b x I J) b 1 1 = some (b + 7) := by simp only [c_rd]
    unfold zgR at q ⊢
    rw [e]; exact q
  have hn2 : (CH h b x I J).2 = h.2 := rfl
  have e1 : iI k < (0 : Int32) ↔ k < 0 := iI_lz (by omega) (by omega)
  have e6 : iI k < (6 : Int32) ↔ k < 6 := by rw [show (6 : Int32) = iI 6 by decide]; exact iI_lt (by omega) (by omega) (by omega) (by omega)
  unfold f_LT_other znO
  simp only [c_rd, Option.bind_some, hI.2.1, hh, e1, e6, c_q7, ho, Option.isSome_none, hn2, hp0, hp1, hnew]
  rw [if_neg (by decide), if_neg (by omega), if_pos (by omega), if_neg (by decide), ← hc1]
  simp only [c_w7, Option.bind_some]
  rw [hc1]
  exact g6
end COTHER
