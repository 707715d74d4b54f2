/-! the law's move, other -/
theorem MoveR.no {a a' : ast} {p z : Int} (h : MoveR a a' p z false) : a' = a := by
  rcases h with ⟨-, -, e⟩ | ⟨-, ⟨-, -, e⟩ | ⟨-, e, -⟩⟩
  · exact e
  · exact e
  · cases e
section LAWMOVE
variable {h : zH} {bl : Nat} {a : ast} {x : cx} {N : Nat}
theorem law_move (hN : 4000 ≤ N) (hL : LawI h bl a x) (p z : Int32) : ∃ sw, Two (f_LT_moveA N bl p z) (f_Model_move N (bl + 21) p z) h bl x (x.1, x.2.1, sw, x.2.2.2) := by
  rw [iI_of p, iI_of z]
  generalize hp' : p.toInt = p'
  generalize hz' : z.toInt = z'
  have hp : rg p' := by rw [← hp']; exact rg_of p
  have hz : rg z' := by rw [← hz']; exact rg_of z
  clear hp' hz' p z
  obtain ⟨I, J, IM, JM, hOK, hCI, hMI, eC, eM, hb, hbest, h6, h7, hsep⟩ := hL
  have hset : 0 ≤ p' ∧ p' ≤ a.1.1 0 → z' = -1 ∨ (0 ≤ z' ∧ z' ≤ a.1.1 1) → cOK (setC a.1 5 p'.toNat z') := by
    intro q1 q2
    have hm := mm_r hOK.1
    exact setC_ok hOK.1 (by omega) (by omega) ⟨fun q => by omega, fun q => by omega, fun _ => by omega⟩
  by_cases hgood : (a.2.1 0 = 1 ∧ (0 ≤ p' ∧ p' ≤ a.1.1 0) ∧ (z' = -1 ∨ (0 ≤ z' ∧ z' ≤ a.1.1 1))) ∧ Bar (setC a.1 5 p'.toNat z') (-1)
  · obtain ⟨hgood, hbar⟩ := hgood
    have hne := hbest hgood.1
    cases hx : x.2.2.2.1 with
    | none => exact absurd hx hne
    | some s =>
      obtain ⟨IS, JS, eS, hSt, hs1, hs2⟩ := h6 s hx
      obtain ⟨⟨hA, hP⟩, -⟩ := law_par hOK hCI hs1
      obtain ⟨sw, I', J', IS', JS', a1, hR, hCI', h08, hSt', eF⟩ := k_moveA (h := h) (b := bl) (N := N) hN hOK hCI hx hA hP hSt hp hz hgood hbar
      rw [show TH h bl x I J s (y6 bl x) IS JS = h by unfold TH; rw [eC]; exact eS] at eF
      have eM1 : MH (TH h bl (x.1, x.2.1, sw, x.2.2.2) I' J' s (y6 bl x) IS' JS') (bl + 21) IM JM = TH h bl (x.1, x.2.1, sw, x.2.2.2) I' J' s (y6 bl x) IS' JS' := has_keep (has_keep eM (Or.inr (by omega))) (Or.inl (by omega))
      obtain ⟨IM', JM', a2, r2, hR2, hMI', eG⟩ := m_move (h := TH h bl (x.1, x.2.1, sw, x.2.2.2) I' J' s (y6 bl x) IS' JS') (b := bl + 21) (N := N) (by omega) hOK hMI hp hz
      rw [eM1] at eG
      obtain ⟨er, hto⟩ := hR.same hOK hset hR2
      subst er
      refine ⟨sw, _, _, _, a2, eF, by rw [← eC]; simp only [c_rd], eG, by rw [← eM1]; simp only [m_rd], law_close (hR2.ok hOK) (hto hCI') hMI' (has_keep bh_idem (Or.inl (by omega))) hb (fun _ => by show x.2.2.2.1 ≠ none; rw [hx]; simp) ?_ ?_ (hsep.to rfl rfl)⟩
      · intro s' e
        have : s' = s := Option.some.inj (e.symm.trans hx)
        subst this
        exact ⟨IS', JS', bh_idem, hSt', hs1, hs2⟩
      · rw [h08]
        refine ⟨Or.inl rfl, fun t et => ?_⟩
        obtain ⟨IT, JT, g1, g2, g3, g4, -⟩ := h7.2 t et
        have := hsep s t hx et
        refine ⟨IT, JT, has_keep (has_keep g1 (Or.inr (by omega))) (by show t + 7 ≤ s ∨ s + (x.1 + 1 + 4) ≤ t; omega), g2, g3, g4, fun z => absurd z (by decide)⟩
  · obtain ⟨sw, I', J', hR, hCI', h08, eF⟩ := k_move_bad (h := h) (b := bl) (N := N) (by omega) hOK hCI hp hz hgood
    rw [eC] at eF
    have eM1 : MH (CH h bl (x.1, x.2.1, sw, x.2.2.2) I' J') (bl + 21) IM JM = CH h bl (x.1, x.2.1, sw, x.2.2.2) I' J' := has_keep eM (Or.inr (by omega))
    obtain ⟨IM', JM', a2, r2, hR2, hMI', eG⟩ := m_move (h := CH h bl (x.1, x.2.1, sw, x.2.2.2) I' J') (b := bl + 21) (N := N) (by omega) hOK hMI hp hz
    rw [eM1] at eG
    obtain ⟨er, hto⟩ := hR.same hOK hset hR2
    subst er
    have ea := hR2.no
    subst ea
    refine ⟨sw, _, _, _, a2, eF, by rw [← eC]; simp only [c_rd], eG, by rw [← eM1]; simp only [m_rd], law_close hOK hCI' hMI' bh_idem hb hbest ?_ ?_ (hsep.to rfl rfl)⟩
    · exact (h6.to (x' := (x.1, x.2.1, sw, x.2.2.2)) rfl rfl rfl).below (by omega)
    · exact ((h7.to (x' := (x.1, x.2.1, sw, x.2.2.2)) rfl rfl).below (by omega)).one (Or.inr ⟨h08, rfl⟩)
theorem law_other (hN : 4000 ≤ N) (hL : LawI h bl a x) (p : Int32) : Two (f_LT_otherA N bl p) (f_Model_other N (bl + 21) p) h bl x x ∨ (x.2.2.2.2 = none ∧ ∃ s, Two (f_LT_other N bl p) (f_Model_other N (bl + 21) p) h bl x (x.1, x.2.1, x.2.2.1, x.2.2.2.1, some s)) := by
  rw [iI_of p]
  generalize hp' : p.toInt = p'
  have hp : rg p' := by rw [← hp']; exact rg_of p
  clear hp' p
  by_cases hgood : a.2.1 0 = 1 ∧ 0 ≤ p' ∧ p' ≤ 5
  · obtain ⟨I, J, IM, JM, hOK, hCI, hMI, eC, eM, hb, hbest, h6, h7, hsep⟩ := hL
    cases hx : x.2.2.2.2 with
    | some t =>
      left
      obtain ⟨IT, JT, eT, hSt, ht1, ht2, hRF⟩ := h7.2 t hx
      obtain ⟨-, hA, hP⟩ := law_par hOK hCI ht1
      obtain ⟨I', IS', JS', v, hR, hCI', h08, hRF', hSt', eF⟩ := k_otherA (h := h) (b := bl) (N := N) hN hOK hCI hx hA hP hSt (by
        rcases h7.1 with q | q
        · exact Or.inl q
        · exact Or.inr ⟨q.1, hRF q.1⟩) hgood.1 hgood.2.1 hgood.2.2
      rw [show TH h bl x I J t (y7 bl x) IT JT = h by unfold TH; rw [eC]; exact eT] at eF
      have eM1 : MH (TH h bl x I' J t (y7 bl x) IS' JS') (bl + 21) IM JM = TH h bl x I' J t (y7 bl x) IS' JS' := has_keep (has_keep eM (Or.inr (by omega))) (Or.inl (by omega))
      obtain ⟨IM', JM', v2, hR2, hMI', eG⟩ := m_other (h := TH h bl x I' J t (y7 bl x) IS' JS') (b := bl + 21) (N := N) (by omega) hOK hMI hp
      rw [eM1] at eG
      have er := hR.uniq hR2
      subst er
      refine ⟨_, _, _, a, eF, by rw [← eC]; simp only [c_rd], eG, by rw [← eM1]; simp only [m_rd], law_close hOK hCI' hMI' (has_keep bh_idem (Or.inl (by omega))) hb hbest ?_ ?_ hsep⟩
      · intro s e
        obtain ⟨IS, JS, g1, g2, g3, g4⟩ := h6 s e
        have := hsep s t e hx
        exact ⟨IS, JS, has_keep (has_keep g1 (Or.inr (by omega))) (by show s + (x.1 + 1 + 4) ≤ t ∨ t + 7 ≤ s; omega), g2, g3, g4⟩
      · rw [h08]
        refine ⟨Or.inr ⟨rfl, by rw [hx]; simp⟩, fun t' et => ?_⟩
        have : t' = t := Option.some.inj (et.symm.trans hx)
        subst this
        exact ⟨IS', JS', bh_idem, hSt', ht1, ht2, fun _ => hRF'⟩
    | none =>
      right
      refine ⟨rfl, h.2, ?_⟩
      obtain ⟨e1, e2⟩ := hCI.1.1
      have h080 : I 0 8 = 0 := by
        rcases h7.1 with q | q
        · exact q
        · exact absurd hx q.2
      obtain ⟨I', IS', JS', v, hR, hCI', h08, hRF', hSt', eF⟩ := k_other_new (h := h) (b := bl) (N := N) hN hOK hCI hx (by omega) h080 hgood.1 hgood.2.1 hgood.2.2
      rw [eC, ← e2] at eF
      rw [← e2] at hSt'
      have eM1 : MH (TH (h.1, h.2 + (3 + 4)) bl (x.1, x.2.1, x.2.2.1, x.2.2.2.1, some h.2) I' J h.2 (3, x.2.1 + 1, 6, bl) IS' JS') (bl + 21) IM JM = TH (h.1, h.2 + (3 + 4)) bl (x.1, x.2.1, x.2.2.1, x.2.2.2.1, some h.2) I' J h.2 (3, x.2.1 + 1, 6, bl) IS' JS' := has_keep (has_keep (bh_next eM) (Or.inr (by omega))) (Or.inl (by omega))
      obtain ⟨IM', JM', v2, hR2, hMI', eG⟩ := m_other (h := TH (h.1, h.2 + (3 + 4)) bl (x.1, x.2.1, x.2.2.1, x.2.2.2.1, some h.2) I' J h.2 (3, x.2.1 + 1, 6, bl) IS' JS') (b := bl + 21) (N := N) (by omega) hOK hMI hp
      rw [eM1] at eG
      have er := hR.uniq hR2
      subst er
      refine ⟨_, _, _, a, eF, by rw [← eC]; simp only [c_rd], eG, by rw [← eM1]; simp only [m_rd], law_close hOK hCI' hMI' (has_keep bh_idem (Or.inl (by omega))) (by show bl + 41 ≤ h.2 + _; omega) hbest ?_ ?_ ?_⟩
      · intro s e
        obtain ⟨IS, JS, g1, g2, g3, g4⟩ := h6 s e
        exact ⟨IS, JS, has_keep (has_keep (bh_next g1) (Or.inr (by omega))) (Or.inl (by show s + (x.1 + 1 + 4) ≤ h.2; omega)), g2, g3, by show s + (x.1 + 5) ≤ h.2 + _; omega⟩
      · rw [h08]
        refine ⟨Or.inr ⟨rfl, by simp⟩, fun t' et => ?_⟩
        have : t' = h.2 := (Option.some.inj et).symm
        subst this
        exact ⟨IS', JS', bh_idem, hSt', hb, by show h.2 + 7 ≤ h.2 + _; omega, fun _ => hRF'⟩
      · intro s t q1 q2
        obtain ⟨IS, JS, g1, g2, g3, g4⟩ := h6 s q1
        have : t = h.2 := (Option.some.inj q2).symm
        left; show s + (x.1 + 5) ≤ t; omega
  · left
    refine law_two hL (fun I J hI => ⟨I, J, hI, hI.keep, (k_other_bad hL.ok hI hp hgood).2⟩) (fun h I J hI => ?_) hL.ok (fun z => z)
    obtain ⟨I', J', v, q1, q2, q3⟩ := m_other (h := h) (b := bl + 21) (N := N) (by omega) hL.ok hI hp
    have hbad : OtherR a p' (-1) := by
      refine Or.inl ⟨?_, rfl⟩
      rcases hL.ok.has with q | q
      · exact Or.inl q
      · exact Or.inr (fun w => hgood ⟨q, w⟩)
    rw [← hbad.uniq q1] at q3
    exact ⟨I', J', q2, q3⟩
end LAWMOVE
