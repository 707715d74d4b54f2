/-! the law's plain calls: both sides answer alike, and hold one state again -/
def Two {α : Type} (F G : zH → Option (α × zH)) (h : zH) (bl : Nat) (x x' : cx) : Prop := ∃ r h1 h2 a', F h = some (r, h1) ∧ zis h bl 1 = true ∧ G h1 = some (r, h2) ∧ zis h1 (bl + 21) 0 = true ∧ LawI h2 bl a' x'
theorem rg_of (v : Int32) : rg v.toInt := ⟨Int32.le_toInt v, Int32.toInt_lt v⟩
theorem iJ_of (v : Int64) : v = iJ v.toInt := (Int64.ofInt_toInt v).symm
theorem LawI.ok {h : zH} {bl : Nat} {a : ast} {x : cx} (hL : LawI h bl a x) : aOK a := by
  obtain ⟨I, J, IM, JM, hOK, -⟩ := hL
  exact hOK
theorem law_two {α : Type} {h : zH} {bl : Nat} {a a' : ast} {x : cx} {r : α} {F G : zH → Option (α × zH)} (hL : LawI h bl a x)
    (hF : ∀ I J, CI I J x a → ∃ I' J', CI I' J' x a' ∧ OpR I I' a a' ∧ F (CH h bl x I J) = some (r, CH h bl x I' J'))
    (hG : ∀ h I J, MI I J a → ∃ I' J', MI I' J' a' ∧ G (MH h (bl + 21) I J) = some (r, MH h (bl + 21) I' J'))
    (hok : aOK a') (hh : a'.2.1 0 = 1 → a.2.1 0 = 1) : Two F G h bl x x := by
  obtain ⟨h1, h2, e⟩ := law_both hL hF hG hok hh
  exact ⟨r, h1, h2, a', e⟩
theorem law_look {α : Type} {h : zH} {bl : Nat} {a : ast} {x : cx} {r : α} {F G : zH → Option (α × zH)} (hL : LawI h bl a x)
    (hF : ∀ I J, CI I J x a → F (CH h bl x I J) = some (r, CH h bl x I J))
    (hG : ∀ h I J, MI I J a → G (MH h (bl + 21) I J) = some (r, MH h (bl + 21) I J)) : Two F G h bl x x :=
  law_two hL (fun I J hI => ⟨I, J, hI, hI.keep, hF I J hI⟩) (fun h I J hI => ⟨I, J, hI, hG h I J hI⟩) hL.ok (fun z => z)
section LAWOPS
variable {h : zH} {bl : Nat} {a : ast} {x : cx} {N : Nat}
theorem law_ground (hN : 4000 ≤ N) (hL : LawI h bl a x) (p z : Int32) : Two (f_LT_ground N bl p z) (f_Model_ground N (bl + 21) p z) h bl x x := by
  rw [iI_of p, iI_of z]
  refine law_two hL (fun I J hI => k_ground (by omega) hL.ok hI (rg_of p) (rg_of z)) (fun h I J hI => m_ground (by omega) hL.ok hI (rg_of p) (rg_of z)) (s_ground_ok hL.ok) (fun z => ?_)
  unfold s_ground at z
  split at z
  · exact absurd z (show ¬ (0 : Int) = 1 by decide)
  · exact z
theorem law_fixed (hN : 4000 ≤ N) (hL : LawI h bl a x) (p z : Int32) : Two (f_LT_fixed N bl p z) (f_Model_fixed N (bl + 21) p z) h bl x x := by
  rw [iI_of p, iI_of z]
  refine law_two hL (fun I J hI => k_fixed (by omega) hL.ok hI (rg_of p) (rg_of z)) (fun h I J hI => m_fixed (by omega) hL.ok hI (rg_of p) (rg_of z)) (s_fixed_ok hL.ok) (fun z => ?_)
  unfold s_fixed at z
  split at z
  · exact absurd z (show ¬ (0 : Int) = 1 by decide)
  · exact z
theorem law_prices (hN : 4000 ≤ N) (hL : LawI h bl a x) (p z w : Int32) : Two (f_LT_prices N bl p z w) (f_Model_prices N (bl + 21) p z w) h bl x x := by
  rw [iI_of p, iI_of z, iI_of w]
  refine law_two hL (fun I J hI => k_prices (by omega) hL.ok hI (rg_of p) (rg_of z) (rg_of w)) (fun h I J hI => m_prices (by omega) hL.ok hI (rg_of p) (rg_of z) (rg_of w)) (s_prices_ok hL.ok) (fun z => ?_)
  unfold s_prices at z
  split at z
  · exact absurd z (show ¬ (0 : Int) = 1 by decide)
  · exact z
theorem law_slopes (hN : 4000 ≤ N) (hL : LawI h bl a x) (p z w : Int32) : Two (f_LT_slopes N bl p z w) (f_Model_slopes N (bl + 21) p z w) h bl x x := by
  rw [iI_of p, iI_of z, iI_of w]
  refine law_two hL (fun I J hI => k_slopes (by omega) hL.ok hI (rg_of p) (rg_of z) (rg_of w)) (fun h I J hI => m_slopes (by omega) hI (rg_of p) (rg_of z) (rg_of w)) (s_slopes_ok hL.ok) (fun z => ?_)
  unfold s_slopes at z
  split at z
  · exact absurd z (show ¬ (0 : Int) = 1 by decide)
  · exact z
theorem law_drop (hN : 4000 ≤ N) (hL : LawI h bl a x) (p : Int32) : Two (f_LT_drop N bl p) (f_Model_drop N (bl + 21) p) h bl x x := by
  rw [iI_of p]
  refine law_two hL (fun I J hI => k_drop (by omega) hL.ok hI (rg_of p)) (fun h I J hI => m_drop (by omega) hL.ok hI (rg_of p)) (s_drop_ok hL.ok) (fun z => ?_)
  unfold s_drop at z
  split at z
  · exact absurd z (show ¬ (0 : Int) = 1 by decide)
  · exact z
theorem law_span (hN : 4000 ≤ N) (hL : LawI h bl a x) (p z w : Int32) (v : Int64) : Two (f_LT_span N bl p z w v) (f_Model_span N (bl + 21) p z w v) h bl x x := by
  rw [iI_of p, iI_of z, iI_of w, iJ_of v]
  refine law_two hL (fun I J hI => k_span (by omega) hL.ok hI (rg_of p) (rg_of z) (rg_of w) (Int64.le_toInt v) (Int64.toInt_lt v)) (fun h I J hI => m_span (by omega) hL.ok hI (rg_of p) (rg_of z) (rg_of w) (Int64.le_toInt v) (Int64.toInt_lt v)) (s_span_ok hL.ok) (fun z => ?_)
  unfold s_span at z
  split at z
  · exact absurd z (show ¬ (0 : Int) = 1 by decide)
  · exact z
theorem law_speed (hN : 4000 ≤ N) (hL : LawI h bl a x) (p : Int32) : Two (f_LT_speed N bl p) (f_Model_speed N (bl + 21) p) h bl x x := by
  rw [iI_of p]
  refine law_two hL (fun I J hI => k_speed hI (rg_of p)) (fun h I J hI => by
    obtain ⟨I', q1, q2⟩ := m_speed hI (rg_of p) (h := h)
    exact ⟨I', J, q1, q2⟩) (s_speed_ok hL.ok) (fun z => ?_)
  unfold s_speed at z
  split at z
  · exact z
  · exact z
theorem law_lorry (hN : 4000 ≤ N) (hL : LawI h bl a x) (p z w v : Int32) : Two (f_LT_lorry N bl p z w v) (f_Model_lorry N (bl + 21) p z w v) h bl x x := by
  rw [iI_of p, iI_of z, iI_of w, iI_of v]
  refine law_two hL (fun I J hI => k_lorry hI (rg_of p) (rg_of z) (rg_of w) (rg_of v)) (fun h I J hI => by
    obtain ⟨I', q1, q2⟩ := m_lorry hI (rg_of p) (rg_of z) (rg_of w) (rg_of v) (h := h)
    exact ⟨I', J, q1, q2⟩) (s_lorry_ok hL.ok) (fun z => ?_)
  unfold s_lorry at z
  split at z
  · exact z
  · exact z
theorem law_level (hN : 4000 ≤ N) (hL : LawI h bl a x) (p : Int32) : Two (f_LT_level N bl p) (f_Model_level N (bl + 21) p) h bl x x := by
  rw [iI_of p]
  exact law_look hL (fun I J hI => k_level hL.ok hI (rg_of p)) (fun h I J hI => m_level hL.ok hI (rg_of p))
theorem law_cost (hN : 4000 ≤ N) (hL : LawI h bl a x) : Two (f_LT_cost N bl ) (f_Model_cost N (bl + 21) ) h bl x x := by
  exact law_look hL (fun I J hI => k_cost hL.ok hI ) (fun h I J hI => m_cost hL.ok hI )
theorem law_keeps (hN : 4000 ≤ N) (hL : LawI h bl a x) : Two (f_LT_keeps N bl ) (f_Model_keeps N (bl + 21) ) h bl x x := by
  exact law_look hL (fun I J hI => k_keeps (by omega) hL.ok hI ) (fun h I J hI => m_keeps hL.ok hI )
theorem law_told (hN : 4000 ≤ N) (hL : LawI h bl a x) (p : Int32) : Two (f_LT_told N bl p) (f_Model_told N (bl + 21) p) h bl x x := by
  rw [iI_of p]
  exact law_look hL (fun I J hI => k_told (by omega) hL.ok hI (rg_of p)) (fun h I J hI => m_told (by omega) hL.ok hI (rg_of p))
theorem law_order (hN : 4000 ≤ N) (hL : LawI h bl a x) (p : Int32) : Two (f_LT_order N bl p) (f_Model_order N (bl + 21) p) h bl x x := by
  rw [iI_of p]
  exact law_look hL (fun I J hI => k_order (by omega) hL.ok hI (rg_of p)) (fun h I J hI => m_order (by omega) hL.ok hI (rg_of p))
theorem law_curveAt (hN : 4000 ≤ N) (hL : LawI h bl a x) (p z : Int32) : Two (f_LT_curveAt N bl p z) (f_Model_curveAt N (bl + 21) p z) h bl x x := by
  rw [iI_of p, iI_of z]
  exact law_look hL (fun I J hI => k_curveAt hL.ok hI (rg_of p) (rg_of z)) (fun h I J hI => m_curveAt hL.ok hI (rg_of p) (rg_of z))
theorem law_lane (hN : 4000 ≤ N) (hL : LawI h bl a x) (p z : Int32) : Two (f_LT_lane N bl p z) (f_Model_lane N (bl + 21) p z) h bl x x := by
  rw [iI_of p, iI_of z]
  refine law_two hL (fun I J hI => ⟨I, J, hI, hI.keep, k_lane (by omega) hL.ok hI (rg_of p) (rg_of z)⟩) (fun h I J hI => ?_) hL.ok (fun z => z)
  obtain ⟨I', q1, q2⟩ := m_lane (h := h) (b := bl + 21) (N := N) (by omega) hL.ok hI (rg_of p) (rg_of z)
  exact ⟨I', J, q1, q2⟩
theorem law_curve (hN : 4000 ≤ N) (hL : LawI h bl a x) (p z : Int32) : Two (f_LT_curve N bl p z) (f_Model_curve N (bl + 21) p z) h bl x x := by
  rw [iI_of p, iI_of z]
  refine law_two hL (fun I J hI => k_curve hL.ok hI (rg_of p) (rg_of z)) (fun h I J hI => ?_) (s_curve_ok hL.ok) (fun w => ?_)
  · obtain ⟨I', q1, q2⟩ := m_curve (h := h) (b := bl + 21) (N := N) (by omega) hL.ok hI (rg_of p) (rg_of z)
    exact ⟨I', J, q1, q2⟩
  · unfold s_curve at w
    split at w
    · split at w
      · exact w
      · exact w
    · exact w
end LAWOPS
