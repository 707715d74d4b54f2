/-! THE LAW: both sides hold one state -/
theorem has_keep {h : zH} {b n b2 n2 : Nat} {lay lay2 : Nat → zL} {σ σ2 : zS} (e : BH h b n lay σ = h) (d : b + n ≤ b2 ∨ b2 + n2 ≤ b) : BH (BH h b2 n2 lay2 σ2) b n lay σ = BH h b2 n2 lay2 σ2 := by
  rw [← bh_comm d, e]
abbrev y6 (bl : Nat) (x : cx) : sx := (x.1 + 1, x.2.1 + 1, 1, bl)
abbrev y7 (bl : Nat) (x : cx) : sx := (3, x.2.1 + 1, 6, bl)
/-- the searches that are made -/
def S6 (h : zH) (bl : Nat) (x : cx) : Prop := ∀ s, x.2.2.2.1 = some s → ∃ IS JS, SH h s (y6 bl x) IS JS = h ∧ Stat IS JS (y6 bl x) true 1024 1 ∧ bl + 41 ≤ s ∧ s + (x.1 + 5) ≤ h.2
def S7 (h : zH) (bl : Nat) (x : cx) (c : cfg) (v : Int32) : Prop := (v = 0 ∨ (v = 1 ∧ x.2.2.2.2 ≠ none)) ∧ ∀ s, x.2.2.2.2 = some s → ∃ IS JS, SH h s (y7 bl x) IS JS = h ∧ Stat IS JS (y7 bl x) false 1 0 ∧ bl + 41 ≤ s ∧ s + 7 ≤ h.2 ∧ (v = 1 → RF JS 6 0 6 (U0 c 1 0 (mm c + 1)))
def Sep (x : cx) : Prop := ∀ s t, x.2.2.2.1 = some s → x.2.2.2.2 = some t → s + (x.1 + 5) ≤ t ∨ t + 7 ≤ s
def LawI (h : zH) (bl : Nat) (a : ast) (x : cx) : Prop := ∃ I J IM JM, aOK a ∧ CI I J x a ∧ MI IM JM a ∧ CH h bl x I J = h ∧ MH h (bl + 21) IM JM = h ∧ bl + 41 ≤ h.2 ∧ (a.2.1 0 = 1 → x.2.2.2.1 ≠ none) ∧ S6 h bl x ∧ S7 h bl x a.1 (I 0 8) ∧ Sep x
theorem S7.one {h : zH} {bl : Nat} {x : cx} {c c' : cfg} {v v' : Int32} (hS : S7 h bl x c v) (hv : v' = 0 ∨ (v' = v ∧ c' = c)) : S7 h bl x c' v' := by
  rcases hv with rfl | ⟨rfl, rfl⟩
  · refine ⟨Or.inl rfl, fun s e => ?_⟩
    obtain ⟨IS, JS, h1, h2, h3, h4, -⟩ := hS.2 s e
    exact ⟨IS, JS, h1, h2, h3, h4, fun z => absurd z (by decide)⟩
  · exact hS
/-- a block below the searches is written -/
theorem S6.below {h : zH} {bl : Nat} {x : cx} {b n : Nat} {lay : Nat → zL} {σ : zS} (hS : S6 h bl x) (hb : b + n ≤ bl + 41) : S6 (BH h b n lay σ) bl x := by
  intro s e
  obtain ⟨IS, JS, h1, h2, h3, h4⟩ := hS s e
  exact ⟨IS, JS, has_keep h1 (Or.inr (by omega)), h2, h3, h4⟩
theorem S7.below {h : zH} {bl : Nat} {x : cx} {c : cfg} {v : Int32} {b n : Nat} {lay : Nat → zL} {σ : zS} (hS : S7 h bl x c v) (hb : b + n ≤ bl + 41) : S7 (BH h b n lay σ) bl x c v := by
  refine ⟨hS.1, fun s e => ?_⟩
  obtain ⟨IS, JS, h1, h2, h3, h4, h5⟩ := hS.2 s e
  exact ⟨IS, JS, has_keep h1 (Or.inr (by omega)), h2, h3, h4, h5⟩
/-- behind both calls -/
theorem law_both {α : Type} {h : zH} {bl : Nat} {a a' : ast} {x : cx} {r : α} {F G : zH → Option (α × zH)} (hL : LawI h bl a x)
    (hF : ∀ I J, CI I J x a → ∃ I' J', CI I' J' x a' ∧ OpR I I' a a' ∧ F (CH h bl x I J) = some (r, CH h bl x I' J'))
    (hG : ∀ h I J, MI I J a → ∃ I' J', MI I' J' a' ∧ G (MH h (bl + 21) I J) = some (r, MH h (bl + 21) I' J'))
    (hok : aOK a') (hh : a'.2.1 0 = 1 → a.2.1 0 = 1) : ∃ h1 h2, F h = some (r, h1) ∧ zis h bl 1 = true ∧ G h1 = some (r, h2) ∧ zis h1 (bl + 21) 0 = true ∧ LawI h2 bl a' x := by
  obtain ⟨I, J, IM, JM, -, hCI, hMI, eC, eM, hb, hbest, h6, h7, hsep⟩ := hL
  obtain ⟨I', J', hCI', hO, eF⟩ := hF I J hCI
  rw [eC] at eF
  have eM1 : MH (CH h bl x I' J') (bl + 21) IM JM = CH h bl x I' J' := has_keep eM (Or.inr (by omega))
  obtain ⟨IM', JM', hMI', eG⟩ := hG (CH h bl x I' J') IM JM hMI
  rw [eM1] at eG
  refine ⟨_, _, eF, by rw [← eC]; simp only [c_rd], eG, by rw [← eM1]; simp only [m_rd], I', J', IM', JM', hok, hCI', hMI', has_keep bh_idem (Or.inl (by omega)), bh_idem, hb, fun z => hbest (hh z), ?_, ?_, hsep⟩
  · exact (h6.below (by omega)).below (by omega)
  · refine (((h7.below (by omega)).below (by omega)).one ?_)
    rcases hO with q | q
    · exact Or.inl q
    · exact Or.inr q
