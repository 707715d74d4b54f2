/-! the law's run, move, other -/
theorem RunR.same {a a' a'' : ast} {r r' : Int} (hOK : aOK a) (h1 : RunR a a' r) (h2 : RunR a a'' r') : r = r' ∧ ∀ {I J x}, CI I J x a' → CI I J x a'' := by
  rcases h1 with ⟨z, b1, b2, b3, rfl⟩ | ⟨b1, L, K, uf, cost, hT, b3, rfl⟩
  · rcases h2 with ⟨w, c1, c2, c3, rfl⟩ | ⟨c1, -⟩
    · have := Bar.uniq b1 c1; exact ⟨by omega, fun q => q⟩
    · have := Bar.uniq b1 c1; omega
  · rcases h2 with ⟨w, c1, c2, c3, rfl⟩ | ⟨c1, L', K', uf', cost', hT', c3, rfl⟩
    · have := Bar.uniq b1 c1; omega
    · obtain ⟨e, -⟩ := Tab.uniq hOK.1 hT hT'
      exact ⟨by rw [b3, c3, e], fun q => CI.tab (c := a.1) (a := a) hOK.1 hT hT' q⟩
theorem RunR.cfg {a a' : ast} {r : Int} (h : RunR a a' r) : a'.1 = a.1 := by
  rcases h with ⟨z, -, -, -, rfl⟩ | ⟨-, L, K, uf, cost, -, -, rfl⟩ <;> rfl
theorem MoveR.same {a a' a'' : ast} {p z : Int} {r r' : Bool} (hOK : aOK a) (hc : 0 ≤ p ∧ p ≤ a.1.1 0 → z = -1 ∨ (0 ≤ z ∧ z ≤ a.1.1 1) → cOK (setC a.1 5 p.toNat z)) (h1 : MoveR a a' p z r) (h2 : MoveR a a'' p z r') : r = r' ∧ ∀ {I J x}, CI I J x a' → CI I J x a'' := by
  have hh := hOK.has
  rcases h1 with ⟨b1, rfl, rfl⟩ | ⟨⟨b1, b2, b3⟩, b4⟩
  · rcases h2 with ⟨c1, rfl, rfl⟩ | ⟨⟨c1, c2, c3⟩, c4⟩
    · exact ⟨rfl, fun q => q⟩
    · rcases b1 with q | q | q
      · omega
      · exact absurd c2 q
      · exact absurd c3 q
  · rcases h2 with ⟨c1, rfl, rfl⟩ | ⟨-, c4⟩
    · rcases c1 with q | q | q
      · omega
      · exact absurd b2 q
      · exact absurd b3 q
    · rcases b4 with ⟨b5, rfl, rfl⟩ | ⟨b5, rfl, L, K, uf, cost, hT, rfl⟩
      · rcases c4 with ⟨c5, rfl, rfl⟩ | ⟨c5, -⟩
        · exact ⟨rfl, fun q => q⟩
        · exact absurd c5 b5
      · rcases c4 with ⟨c5, -⟩ | ⟨c5, rfl, L', K', uf', cost', hT', rfl⟩
        · exact absurd b5 c5
        · exact ⟨rfl, fun q => CI.tab (a := a) (hc b2 b3) hT hT' q⟩
section LAWRUN
variable {h : zH} {bl : Nat} {a : ast} {x : cx} {N : Nat}
/-- the reference's call behind the class's -/
theorem law_close {h1 : zH} {a' : ast} {x' : cx} {I' IM' : Nat → Nat → Int32} {J' JM' : Nat → Nat → Int64} (hok : aOK a') (hCI : CI I' J' x' a') (hMI : MI IM' JM' a') (eC : CH h1 bl x' I' J' = h1) (hb : bl + 41 ≤ h1.2) (hbest : a'.2.1 0 = 1 → x'.2.2.2.1 ≠ none) (h6 : S6 h1 bl x') (h7 : S7 h1 bl x' a'.1 (I' 0 8)) (hsep : Sep x') : LawI (MH h1 (bl + 21) IM' JM') bl a' x' :=
  ⟨I', J', IM', JM', hok, hCI, hMI, has_keep eC (Or.inl (by omega)), bh_idem, hb, hbest, h6.below (by omega), h7.below (by omega), hsep⟩
theorem S6.to {x' : cx} (hS : S6 h bl x) (h1 : x'.1 = x.1) (h2 : x'.2.1 = x.2.1) (h3 : x'.2.2.2.1 = x.2.2.2.1) : S6 h bl x' := by
  intro s e
  show ∃ IS JS, SH h s (x'.1 + 1, x'.2.1 + 1, 1, bl) IS JS = h ∧ Stat IS JS (x'.1 + 1, x'.2.1 + 1, 1, bl) true 1024 1 ∧ bl + 41 ≤ s ∧ s + (x'.1 + 5) ≤ h.2
  rw [h1, h2]; exact hS s (by rw [← h3]; exact e)
theorem S7.to {x' : cx} {c : cfg} {v : Int32} (hS : S7 h bl x c v) (h2 : x'.2.1 = x.2.1) (h3 : x'.2.2.2.2 = x.2.2.2.2) : S7 h bl x' c v := by
  unfold S7
  rw [h3]
  refine ⟨hS.1, fun s e => ?_⟩
  show ∃ IS JS, SH h s (3, x'.2.1 + 1, 6, bl) IS JS = h ∧ Stat IS JS (3, x'.2.1 + 1, 6, bl) false 1 0 ∧ bl + 41 ≤ s ∧ s + 7 ≤ h.2 ∧ (v = 1 → RF JS 6 0 6 (U0 c 1 0 (mm c + 1)))
  rw [h2]; exact hS.2 s e
theorem Sep.to {x' : cx} (hS : Sep x) (h1 : x'.1 = x.1) (h3 : x'.2.2.2 = x.2.2.2) : Sep x' := by
  intro s t e1 e2
  rw [h1]; rw [h3] at e1 e2; exact hS s t e1 e2
theorem bh_next {b n m : Nat} {lay : Nat → zL} {σ : zS} (e : BH h b n lay σ = h) : BH (h.1, m) b n lay σ = (h.1, m) := by
  show ((BH h b n lay σ).1, m) = (h.1, m)
  rw [e]
theorem law_par (hOK : aOK a) {I J} (hCI : CI I J x a) {s : Nat} (hs : bl + 41 ≤ s) : (Apart s bl (y6 bl x) a.1 ∧ Par a.1 (y6 bl x) true 1024 1) ∧ Apart s bl (y7 bl x) a.1 ∧ Par a.1 (y7 bl x) false 1 0 := by
  obtain ⟨e1, e2⟩ := hCI.1.1
  have hn := nn_r hOK.1
  refine ⟨⟨⟨Or.inl (by omega), rfl, ?_, ?_, ?_, ?_⟩, Or.inl ⟨rfl, ?_, rfl, rfl, rfl⟩⟩, ⟨Or.inl (by omega), rfl, ?_, ?_, ?_, ?_⟩, Or.inr ⟨rfl, rfl, rfl, rfl, rfl⟩⟩
  · show x.2.1 + 1 = _; rw [e2]
  · show 1 ≤ 1 ∧ 1 ≤ 6; omega
  · show 3 ≤ x.1 + 1; omega
  · show x.1 + 1 ≤ 25; omega
  · show x.1 + 1 = nn a.1 + 1; rw [e1]
  · show x.2.1 + 1 = _; rw [e2]
  · show 1 ≤ 6 ∧ 6 ≤ 6; omega
  · show 3 ≤ 3; omega
  · show 3 ≤ 25; omega
/-- run: with the search that is made, or none needed; or with a new one -/
theorem law_run (hN : 4000 ≤ N) (hL : LawI h bl a x) : (∃ sw, Two (f_LT_runA N bl) (f_Model_run N (bl + 21)) h bl x (x.1, x.2.1, sw, x.2.2.2)) ∨ (x.2.2.2.1 = none ∧ ∃ sw s, Two (f_LT_run N bl) (f_Model_run N (bl + 21)) h bl x (x.1, x.2.1, sw, some s, x.2.2.2.2)) := by
  obtain ⟨I, J, IM, JM, hOK, hCI, hMI, eC, eM, hb, hbest, h6, h7, hsep⟩ := hL
  by_cases hbar : Bar a.1 (-1)
  · cases hx : x.2.2.2.1 with
    | some s =>
      left
      obtain ⟨IS, JS, eS, hSt, hs1, hs2⟩ := h6 s hx
      obtain ⟨⟨hA, hP⟩, -⟩ := law_par hOK hCI hs1
      obtain ⟨sw, I', J', IS', JS', a1, r, hR, hCI', h08, hSt', eF⟩ := k_runA (h := h) (b := bl) (N := N) hN hOK hCI hx hA hP hSt hbar
      rw [show TH h bl x I J s (y6 bl x) IS JS = h by unfold TH; rw [eC]; exact eS] at eF
      have eM1 : MH (TH h bl (x.1, x.2.1, sw, x.2.2.2) I' J' s (y6 bl x) IS' JS') (bl + 21) IM JM = TH h bl (x.1, x.2.1, sw, x.2.2.2) I' J' s (y6 bl x) IS' JS' := has_keep (has_keep eM (Or.inr (by omega))) (Or.inl (by omega))
      obtain ⟨IM', JM', a2, r2, hR2, hMI', eG⟩ := m_run (h := TH h bl (x.1, x.2.1, sw, x.2.2.2) I' J' s (y6 bl x) IS' JS') (b := bl + 21) (N := N) (by omega) hOK hMI
      rw [eM1] at eG
      obtain ⟨er, hto⟩ := hR.same hOK hR2
      subst er
      refine ⟨sw, iI r, _, _, a2, eF, by rw [← eC]; simp only [c_rd], eG, by rw [← eM1]; simp only [m_rd], law_close (hR2.ok hOK) (hto hCI') hMI' (has_keep bh_idem (Or.inl (by omega))) hb (fun _ => by show x.2.2.2.1 ≠ none; rw [hx]; simp) ?_ ?_ (hsep.to rfl rfl)⟩
      · intro s' e
        have : s' = s := Option.some.inj (e.symm.trans hx)
        subst this
        exact ⟨IS', JS', bh_idem, hSt', hs1, hs2⟩
      · rw [h08]
        refine ⟨Or.inl rfl, fun t et => ?_⟩
        obtain ⟨IT, JT, g1, g2, g3, g4, -⟩ := h7.2 t et
        have := hsep s t hx et
        refine ⟨IT, JT, has_keep (has_keep g1 (Or.inr (by omega))) (by show t + 7 ≤ s ∨ s + (x.1 + 1 + 4) ≤ t; omega), g2, g3, g4, fun z => absurd z (by decide)⟩
    | none =>
      right
      refine ⟨rfl, ?_⟩
      obtain ⟨e1, e2⟩ := hCI.1.1
      obtain ⟨sw, I', J', IS', JS', a1, r, hR, hCI', h08, hSt', eF⟩ := k_run_new (h := h) (b := bl) (N := N) hN hOK hCI hx (by omega) hbar
      rw [eC, ← e1, ← e2] at eF
      rw [← e1, ← e2] at hSt'
      have eM1 : MH (TH (h.1, h.2 + (x.1 + 1 + 4)) bl (x.1, x.2.1, sw, some h.2, x.2.2.2.2) I' J' h.2 (x.1 + 1, x.2.1 + 1, 1, bl) IS' JS') (bl + 21) IM JM = TH (h.1, h.2 + (x.1 + 1 + 4)) bl (x.1, x.2.1, sw, some h.2, x.2.2.2.2) I' J' h.2 (x.1 + 1, x.2.1 + 1, 1, bl) IS' JS' := has_keep (has_keep (bh_next eM) (Or.inr (by omega))) (Or.inl (by omega))
      obtain ⟨IM', JM', a2, r2, hR2, hMI', eG⟩ := m_run (h := TH (h.1, h.2 + (x.1 + 1 + 4)) bl (x.1, x.2.1, sw, some h.2, x.2.2.2.2) I' J' h.2 (x.1 + 1, x.2.1 + 1, 1, bl) IS' JS') (b := bl + 21) (N := N) (by omega) hOK hMI
      rw [eM1] at eG
      obtain ⟨er, hto⟩ := hR.same hOK hR2
      subst er
      refine ⟨sw, h.2, iI r, _, _, a2, eF, by rw [← eC]; simp only [c_rd], eG, by rw [← eM1]; simp only [m_rd], law_close (hR2.ok hOK) (hto hCI') hMI' (has_keep bh_idem (Or.inl (by omega))) (by show bl + 41 ≤ h.2 + _; omega) (fun _ => by show some h.2 ≠ none; simp) ?_ ?_ ?_⟩
      · intro s' e
        have : s' = h.2 := (Option.some.inj e).symm
        subst this
        exact ⟨IS', JS', bh_idem, hSt', by omega, by show h.2 + (x.1 + 5) ≤ h.2 + (x.1 + 1 + 4); omega⟩
      · rw [h08]
        refine ⟨Or.inl rfl, fun t et => ?_⟩
        obtain ⟨IT, JT, g1, g2, g3, g4, -⟩ := h7.2 t et
        refine ⟨IT, JT, has_keep (has_keep (bh_next g1) (Or.inr (by omega))) (Or.inl (by show t + 7 ≤ h.2; omega)), g2, g3, by show t + 7 ≤ h.2 + _; omega, fun z => absurd z (by decide)⟩
      · intro s t q1 q2
        obtain ⟨IT, JT, g1, g2, g3, g4, -⟩ := h7.2 t q2
        have : s = h.2 := (Option.some.inj q1).symm
        right; omega
  · left
    obtain ⟨sw, I', J', a1, r, hR, hCI', h08, h0, eF⟩ := k_runA_bar (h := h) (b := bl) (N := N) (by omega) hOK hCI hbar
    rw [eC] at eF
    have eM1 : MH (CH h bl (x.1, x.2.1, sw, x.2.2.2) I' J') (bl + 21) IM JM = CH h bl (x.1, x.2.1, sw, x.2.2.2) I' J' := has_keep eM (Or.inr (by omega))
    obtain ⟨IM', JM', a2, r2, hR2, hMI', eG⟩ := m_run (h := CH h bl (x.1, x.2.1, sw, x.2.2.2) I' J') (b := bl + 21) (N := N) (by omega) hOK hMI
    rw [eM1] at eG
    obtain ⟨er, hto⟩ := hR.same hOK hR2
    subst er
    refine ⟨sw, iI r, _, _, a2, eF, by rw [← eC]; simp only [c_rd], eG, by rw [← eM1]; simp only [m_rd], law_close (hR2.ok hOK) (hto hCI') hMI' bh_idem hb (fun z => ?_) ?_ ?_ (hsep.to rfl rfl)⟩
    · rcases hR2 with ⟨w, -, -, -, rfl⟩ | ⟨q, -⟩
      · exact absurd z (show ¬ (0 : Int) = 1 by decide)
      · exact absurd q hbar
    · exact (h6.to (x' := (x.1, x.2.1, sw, x.2.2.2)) rfl rfl rfl).below (by omega)
    · exact ((h7.to (x' := (x.1, x.2.1, sw, x.2.2.2)) rfl rfl).below (by omega)).one (Or.inl h08)
end LAWRUN
