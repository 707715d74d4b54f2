/-! the law's loop; the classes and the arrays that its words tell of -/
section LAWLOOP
variable {X : zX} {b L bl : Nat} {xs : Nat → Int32}
set_option maxHeartbeats 4000000 in
theorem law_step (C : zB X code 4 R_Law room_1) (S : zSc X b L xs) (hL0 : L ≤ 100000) (hend : ∀ (k n : Nat) (h : zH) (lv : List (Nat × Value)), k ≤ room_1.cells → n ≤ room_1.slots → Zt X 4 k n 750 lv [] h) {i k n : Nat} {a : ast} {x : cx} {h : zH} (hi : i ≤ 200000) (hL : LawI h bl a x) (hR : Rm k n x) (K : i + 6 ≤ L → zGo X b bl (iI i)) : Zt X 4 k n 38 (lvL b bl (iI i)) [] h := by
  refine z_iload_n C 0 d_law_38 rfl rfl ?_
  refine z_aload_n C 3 d_law_39 rfl rfl ?_
  refine z_slen C S d_law_40 ?_
  refine z_bipush C (v := (6 : Int32)) d_law_41 (by decide) ?_
  refine z_isub C d_law_43 ?_
  have e6 : Int32.ofNat L - (6 : Int32) = iI ((L : Int) - 6) := by
    rw [show Int32.ofNat L = iI (L : Int) from nI_iI L, show (6 : Int32) = iI 6 by decide, iI_sub]
  rw [e6]
  have hc : iI ((L : Int) - 6) < iI (i : Int) ↔ (L : Int) - 6 < i := iI_lt (by omega) (by omega) (by omega) (by omega)
  by_cases hgt : (L : Int) - 6 < i
  · exact z_ic_gt (tgt := 750) C d_law_44 (by decide) (A := some ()) (B := none) (r := ()) (if_pos (hc.mpr hgt)) (fun _ => hend k n h _ hR.le0.1 hR.le0.2) (fun q => by cases q)
  · have hle : i + 6 ≤ L := by omega
    refine z_ic_gt (tgt := 750) C d_law_44 (by decide) (A := none) (B := some ()) (r := ()) (if_neg (fun z => hgt (hc.mp z))) (fun q => by cases q) (fun _ => ?_)
    have Kg := K hle
    have hin : ∀ j : Nat, j ≤ 5 → vp_in (iI (i : Int) + iI (j : Int)) L := fun j hj => by
      rw [iI_add]; exact iI_in (by omega) (by omega) (by omega)
    have h0 : vp_in (iI (i : Int)) L := iI_in (by omega) (by omega) (by omega)
    have hz : zIn (iI (i : Int)) L := ⟨hin 1 (by omega), hin 2 (by omega), hin 3 (by omega), hin 4 (by omega), hin 5 (by omega)⟩
    refine z_aload_n C 3 d_law_47 rfl rfl ?_
    refine z_iload_n C 0 d_law_48 rfl rfl ?_
    refine z_sld C S h0 d_law_49 ?_
    refine z_bipush C (v := (31 : Int32)) d_law_50 (by decide) ?_
    refine z_iand C d_law_52 ?_
    generalize xs (iI (i : Int)).toNatClampNeg &&& (31 : Int32) = v
    by_cases v0 : v = 0
    · exact z_tabIn (tgt := 144) (off := 91) C 0 0 d_law_53 v0 (by decide) (by decide) (by decide) rfl (by decide) (lw_c0 C S hz hL hR Kg)
    by_cases v1 : v = 1
    · exact z_tabIn (tgt := 177) (off := 124) C 1 1 d_law_53 v1 (by decide) (by decide) (by decide) rfl (by decide) (lw_c1 C S hz hL hR Kg)
    by_cases v2 : v = 2
    · exact z_tabIn (tgt := 220) (off := 167) C 2 2 d_law_53 v2 (by decide) (by decide) (by decide) rfl (by decide) (lw_c2 C S hz hL hR Kg)
    by_cases v3 : v = 3
    · exact z_tabIn (tgt := 303) (off := 250) C 3 3 d_law_53 v3 (by decide) (by decide) (by decide) rfl (by decide) (lw_c3 C S hz hL hR Kg)
    by_cases v4 : v = 4
    · exact z_tabIn (tgt := 326) (off := 273) C 4 4 d_law_53 v4 (by decide) (by decide) (by decide) rfl (by decide) (lw_c4 C S hz hL hR Kg)
    by_cases v5 : v = 5
    · exact z_tabIn (tgt := 359) (off := 306) C 5 5 d_law_53 v5 (by decide) (by decide) (by decide) rfl (by decide) (lw_c5 C S hz hL hR Kg)
    by_cases v6 : v = 6
    · exact z_tabIn (tgt := 402) (off := 349) C 6 6 d_law_53 v6 (by decide) (by decide) (by decide) rfl (by decide) (lw_c6 C S hz hL hR Kg)
    by_cases v7 : v = 7
    · exact z_tabIn (tgt := 415) (off := 362) C 7 7 d_law_53 v7 (by decide) (by decide) (by decide) rfl (by decide) (lw_c7 C S hz hL hR Kg)
    by_cases v8 : v = 8
    · exact z_tabIn (tgt := 438) (off := 385) C 8 8 d_law_53 v8 (by decide) (by decide) (by decide) rfl (by decide) (lw_c8 C S hz hL hR Kg)
    by_cases v9 : v = 9
    · exact z_tabIn (tgt := 452) (off := 399) C 9 9 d_law_53 v9 (by decide) (by decide) (by decide) rfl (by decide) (lw_c9 C S hz hL hR Kg)
    by_cases v10 : v = 10
    · exact z_tabIn (tgt := 476) (off := 423) C 10 10 d_law_53 v10 (by decide) (by decide) (by decide) rfl (by decide) (lw_c10 C S hz hL hR Kg)
    by_cases v11 : v = 11
    · exact z_tabIn (tgt := 509) (off := 456) C 11 11 d_law_53 v11 (by decide) (by decide) (by decide) rfl (by decide) (lw_c11 C S hz hL hR Kg)
    by_cases v12 : v = 12
    · exact z_tabIn (tgt := 532) (off := 479) C 12 12 d_law_53 v12 (by decide) (by decide) (by decide) rfl (by decide) (lw_c12 C S hz hL hR Kg)
    by_cases v13 : v = 13
    · exact z_tabIn (tgt := 565) (off := 512) C 13 13 d_law_53 v13 (by decide) (by decide) (by decide) rfl (by decide) (lw_c13 C S hz hL hR Kg)
    by_cases v14 : v = 14
    · exact z_tabIn (tgt := 599) (off := 546) C 14 14 d_law_53 v14 (by decide) (by decide) (by decide) rfl (by decide) (lw_c14 C S hz hL hR Kg)
    by_cases v15 : v = 15
    · exact z_tabIn (tgt := 652) (off := 599) C 15 15 d_law_53 v15 (by decide) (by decide) (by decide) rfl (by decide) (lw_c15 C S hz hL hR Kg)
    by_cases v16 : v = 16
    · exact z_tabIn (tgt := 685) (off := 632) C 16 16 d_law_53 v16 (by decide) (by decide) (by decide) rfl (by decide) (lw_c16 C S hz hL hR Kg)
    by_cases v17 : v = 17
    · exact z_tabIn (tgt := 708) (off := 655) C 17 17 d_law_53 v17 (by decide) (by decide) (by decide) rfl (by decide) (lw_c17 C S hz hL hR Kg)
    by_cases v18 : v = 18
    · exact z_tabIn (tgt := 731) (off := 678) C 18 18 d_law_53 v18 (by decide) (by decide) (by decide) rfl (by decide) (lw_c18 C S hz hL hR Kg)
    have q0 := z_nev (w := 0) v0 (by decide)
    have q1 := z_nev (w := 1) v1 (by decide)
    have q2 := z_nev (w := 2) v2 (by decide)
    have q3 := z_nev (w := 3) v3 (by decide)
    have q4 := z_nev (w := 4) v4 (by decide)
    have q5 := z_nev (w := 5) v5 (by decide)
    have q6 := z_nev (w := 6) v6 (by decide)
    have q7 := z_nev (w := 7) v7 (by decide)
    have q8 := z_nev (w := 8) v8 (by decide)
    have q9 := z_nev (w := 9) v9 (by decide)
    have q10 := z_nev (w := 10) v10 (by decide)
    have q11 := z_nev (w := 11) v11 (by decide)
    have q12 := z_nev (w := 12) v12 (by decide)
    have q13 := z_nev (w := 13) v13 (by decide)
    have q14 := z_nev (w := 14) v14 (by decide)
    have q15 := z_nev (w := 15) v15 (by decide)
    have q16 := z_nev (w := 16) v16 (by decide)
    have q17 := z_nev (w := 17) v17 (by decide)
    have q18 := z_nev (w := 18) v18 (by decide)
    exact z_tabOut (tgt := 744) C d_law_53 (by omega) (by decide) (Kg k n h a x hL hR)
theorem law_loop (C : zB X code 4 R_Law room_1) (S : zSc X b L xs) (hL0 : L ≤ 100000) (hend : ∀ (k n : Nat) (h : zH) (lv : List (Nat × Value)), k ≤ room_1.cells → n ≤ room_1.slots → Zt X 4 k n 750 lv [] h) : ∀ (d i k n : Nat) (a : ast) (x : cx) (h : zH), L < i + d → i ≤ L + 6 → LawI h bl a x → Rm k n x → Zt X 4 k n 38 (lvL b bl (iI i)) [] h := by
  intro d
  induction d with
  | zero =>
    intro i k n a x h hd hi hL hR
    exact law_step C S hL0 hend (by omega) hL hR (fun z => by omega)
  | succ d ih =>
    intro i k n a x h hd hi hL hR
    refine law_step C S hL0 hend (by omega) hL hR (fun z k' n' h' a' x' hL' hR' => ?_)
    refine z_iinc (v := iI ((i + 6 : Nat) : Int)) (lv' := lvL b bl (iI ((i + 6 : Nat) : Int))) C 0 d_law_744 rfl (by rw [show Int32.ofInt 6 = iI 6 from rfl, iI_add]; rfl) (by decide) rfl ?_
    refine z_goto (tgt := 38) C d_law_747 (by decide) ?_
    exact ih (i + 6) k' n' a' x' h' (by omega) (by omega) hL' hR'
end LAWLOOP
theorem over_J {args : Array Value} {s : State} (h : (Cond.arrayOver (.array .long)).before args s = true) : ∃ comp c k, s.vm.findClass (FieldType.array .long).toString = some comp ∧ s.vm.classes[c]? = some k ∧ k.kind = .array comp (.array .long) ∧ s.vm.findClass ("[" ++ (FieldType.array .long).toString) = some c := by
  simp only [Cond.before, Cond.holds, Cond.value, beq_iff_eq] at h
  obtain ⟨comp, h1, h⟩ := Option.bind_eq_some_iff.mp h
  obtain ⟨c, h2, h⟩ := Option.bind_eq_some_iff.mp h
  obtain ⟨k, h3, h4⟩ := Option.map_eq_some_iff.mp h
  obtain ⟨hlt, hp, -⟩ := Array.findIdx?_eq_some_iff_getElem.mp h2
  rw [(Array.getElem?_eq_some_iff.mp h3).2] at hp
  refine ⟨comp, c, k, h1, h3, ?_⟩
  cases hk : k.kind with
  | array q t =>
    rw [hk] at hp h4
    simp only [beq_iff_eq, Bool.and_eq_true, decide_eq_true_eq] at hp h4
    exact ⟨by rw [hp, h4.1], h4.2⟩
  | _ => rw [hk] at h4; simp at h4
theorem law_K {args : Array Value} {s : State} (hts : ∀ w ∈ lw_tbl, w.before args s = true) : ∃ (D : va_G) (T : List (ClassId × FieldType)), va_K D zcl T s ∧ T.map (fun q => q.2) = ztl ∧ zN T s := by
  have hz : ∀ w ∈ zws, w.before args s = true := fun w hw => hts w (List.mem_filter.mp hw).1
  obtain ⟨c0, i0, k0⟩ := u_known (C := R_Model) (T := T_Model) (N := 35) (n := 35) hz in_Model (hz _ w_735)
  obtain ⟨c1, i1, k1⟩ := u_known (C := R_LT) (T := T_LT) (N := 10) (n := 10) hz in_LT (hz _ w_71)
  obtain ⟨c2, i2, k2⟩ := u_known (C := R_Site) (T := T_Site) (N := 10) (n := 10) hz in_Site (hz _ w_85)
  obtain ⟨c3, i3, k3⟩ := u_known (C := R_Spans) (T := T_Spans) (N := 5) (n := 5) hz in_Spans (hz _ w_144)
  obtain ⟨c4, i4, k4⟩ := u_known (C := R_Reach) (T := T_Reach) (N := 3) (n := 3) hz in_Reach (hz _ w_174)
  obtain ⟨c5, i5, k5⟩ := u_known (C := R_Table) (T := T_Table) (N := 7) (n := 7) hz in_Table (hz _ w_190)
  obtain ⟨c6, i6, k6⟩ := u_known (C := R_Curves) (T := T_Curves) (N := 2) (n := 2) hz in_Curves (hz _ w_229)
  obtain ⟨c7, i7, k7⟩ := u_known (C := R_Lorry) (T := T_Lorry) (N := 4) (n := 4) hz in_Lorry (hz _ w_244)
  obtain ⟨c8, i8, k8⟩ := u_known (C := R_Search) (T := T_Search) (N := 11) (n := 11) hz in_Search (hz _ w_414)
  obtain ⟨cI, kI, pI, fI, gI, eI⟩ := Cond.arrayClass_spec (hz _ w_142)
  obtain ⟨cJ, kJ, pJ, fJ, gJ, eJ⟩ := Cond.arrayClass_spec (hz _ w_172)
  obtain ⟨cZ, kZ, pZ, fZ, gZ, eZ⟩ := Cond.arrayClass_spec (hz _ w_847)
  obtain ⟨pA, cA, kA, fp, gA, eA, fA⟩ := over_J (hts _ (List.mem_of_getElem? (i := 421) (by decide +kernel)))
  have hp : pA = cJ := Option.some.inj (fp.symm.trans fJ)
  subst hp
  refine ⟨(fun k => if k = 0 then c0 else if k = 1 then c1 else if k = 2 then c2 else if k = 3 then c3 else if k = 4 then c4 else if k = 5 then c5 else if k = 6 then c6 else if k = 7 then c7 else c8, fun k => if k = 0 then i0 else if k = 1 then i1 else if k = 2 then i2 else if k = 3 then i3 else if k = 4 then i4 else if k = 5 then i5 else if k = 6 then i6 else if k = 7 then i7 else i8), [(cI, .int), (pA, .long), (cZ, .boolean), (cA, .array .long)], ⟨?_, ?_⟩, rfl, ?_, ?_⟩
  · intro k q hq
    match k, hq with
    | 0, hq => cases hq; exact k0
    | 1, hq => cases hq; exact k1
    | 2, hq => cases hq; exact k2
    | 3, hq => cases hq; exact k3
    | 4, hq => cases hq; exact k4
    | 5, hq => cases hq; exact k5
    | 6, hq => cases hq; exact k6
    | 7, hq => cases hq; exact k7
    | 8, hq => cases hq; exact k8
    | k + 9, hq => simp [zcl] at hq
  · intro k q hq
    match k, hq with
    | 0, hq => cases hq; exact ⟨fun n z => ⟨(fun k h => by cases h), kI, gI, pI, eI⟩, fI⟩
    | 1, hq => cases hq; exact ⟨fun n z => ⟨(fun k h => by cases h), kJ, gJ, pJ, eJ⟩, fJ⟩
    | 2, hq => cases hq; exact ⟨fun n z => ⟨(fun k h => by cases h), kZ, gZ, pZ, eZ⟩, fZ⟩
    | 3, hq => cases hq; exact ⟨fun n z => ⟨(fun k h => by cases h), kA, gA, pA, eA⟩, fA⟩
    | k + 4, hq => simp at hq
  · intro w hw
    have hm := List.mem_filter.mp hw
    have hn := hm.2
    have h0 := hts w hm.1
    cases w <;> first | exact va_Nw.of rfl h0 | (simp [z_nest] at hn)
  · intro q1 q3 h1 h3
    cases h1; cases h3
    exact ⟨kA, gA, eA⟩
