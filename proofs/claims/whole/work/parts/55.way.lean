/-! THE BEST WAY: at each place the first slope, a step before a span, that keeps the least value -/
def isMin (S : Int → Prop) (M : Int) : Prop := S M ∧ ∀ v, S v → M ≤ v
theorem isMin.uniq {S : Int → Prop} {M M' : Int} (h : isMin S M) (h' : isMin S M') : M = M' := by
  have := h.2 _ h'.1
  have := h'.2 _ h.1
  omega
def Hit0 (c : cfg) (p : Nat) (l g M s : Int) : Prop := c_fol c s g = true ∧ SVa c 1024 1 p l s M
def Hit1 (c : cfg) (p : Nat) (l g M s : Int) : Prop := c_fol c s g = true ∧ ∃ k, c_at c k p ∧ SVk c 1024 1 k p l s M
def Pick (c : cfg) (p : Nat) (l g s : Int) (sp : Bool) : Prop := ∃ M, isMin (SV c 1024 1 p l g) M ∧ (if sp = true then ¬ Hit0 c p l g M s ∧ Hit1 c p l g M s else Hit0 c p l g M s) ∧ ∀ s', s' < s → ¬ Hit0 c p l g M s' ∧ ¬ Hit1 c p l g M s'
theorem Pick.uniq {c : cfg} {p : Nat} {l g s s' : Int} {sp sp' : Bool} (h : Pick c p l g s sp) (h' : Pick c p l g s' sp') : s = s' ∧ sp = sp' := by
  obtain ⟨M, m, a, d⟩ := h
  obtain ⟨M', m', a', d'⟩ := h'
  have e := m.uniq m'
  subst e
  have e : s = s' := by
    rcases Int.lt_trichotomy s s' with z | z | z
    · have := d' s z
      cases sp with
      | false => exact absurd a this.1
      | true => exact absurd a.2 this.2
    · exact z
    · have := d s' z
      cases sp' with
      | false => exact absurd a' this.1
      | true => exact absurd a'.2 this.2
  subst e
  refine ⟨rfl, ?_⟩
  cases sp <;> cases sp'
  · rfl
  · exact absurd a a'.1
  · exact absurd a' a.1
  · rfl
/-- L are the levels, K the spans of the steps (-1: none), uf the bits of the used spans, of the best way on from place p -/
def Wa (c : cfg) (L K : Nat → Int) (uf : Nat) : Nat → Nat → Int → Int → Nat → Prop
  | 0, p, _, _, u => nn c ≤ p ∧ u = uf
  | r + 1, p, l, g, u => (nn c ≤ p ∧ u = uf) ∨ (p < nn c ∧ ∃ s : Int,
      (Pick c p l g s false ∧ L (p + 1) = l + s ∧ K p = -1 ∧ Wa c L K uf r (p + 1) (l + s) (s + 24) u) ∨
      (∃ k : Nat, c_at c k p ∧ Pick c p l g s true ∧ (∀ j : Nat, (j : Int) < c.2 7 k - p → L (p + (j + 1)) = l + s * (j + 1) ∧ K (p + j) = k) ∧ Wa c L K uf r (c.2 7 k).toNat (l + (c.2 7 k - p) * s) (s + 24) (u ||| 2 ^ k)))
theorem Wa.congr {c : cfg} {L L' K K' : Nat → Int} {uf : Nat} : ∀ (r p : Nat) (l g : Int) (u : Nat), Wa c L K uf r p l g u → (∀ q, p < q → L' q = L q) → (∀ q, p ≤ q → K' q = K q) → Wa c L' K' uf r p l g u := by
  intro r
  induction r with
  | zero => exact fun p l g u h _ _ => h
  | succ r ih =>
    intro p l g u h hL hK
    rcases h with h | ⟨hp, s, ⟨h1, h2, h3, h4⟩ | ⟨k, h1, h2, h3, h4⟩⟩
    · exact Or.inl h
    · exact Or.inr ⟨hp, s, Or.inl ⟨h1, by rw [hL _ (by omega)]; exact h2, by rw [hK _ (by omega)]; exact h3, ih _ _ _ _ h4 (fun q hq => hL q (by omega)) (fun q hq => hK q (by omega))⟩⟩
    · have := h1.2.2
      exact Or.inr ⟨hp, s, Or.inr ⟨k, h1, h2, fun j hj => by rw [hL _ (by omega), hK _ (by omega)]; exact h3 j hj, ih _ _ _ _ h4 (fun q hq => hL q (by omega)) (fun q hq => hK q (by omega))⟩⟩
theorem c_at.uniq {c : cfg} (hc : cOK c) {k k' p : Nat} (h : c_at c k p) (h' : c_at c k' p) : k = k' := by
  rcases c_sp_spec hc (p := p) with ⟨-, hno⟩ | ⟨k0, -, -, hu⟩
  · exact absurd h (hno k)
  · rw [hu k h, hu k' h']
theorem Wa.uniq {c : cfg} (hc : cOK c) {L L' K K' : Nat → Int} {uf uf' : Nat} : ∀ (r r' p : Nat) (l g : Int) (u : Nat), nn c ≤ p + r → nn c ≤ p + r' → Wa c L K uf r p l g u → Wa c L' K' uf' r' p l g u → uf = uf' ∧ (∀ q, p < q → q ≤ nn c → L q = L' q) ∧ ∀ q, p ≤ q → q < nn c → K q = K' q := by
  intro r
  induction r with
  | zero =>
    intro r' p l g u h1 h2 h h'
    obtain ⟨a, a2⟩ := h
    have a' : u = uf' := by
      cases r' with
      | zero => exact h'.2
      | succ r' =>
        rcases h' with h' | ⟨hp, -⟩
        · exact h'.2
        · omega
    exact ⟨by omega, fun q _ _ => by omega, fun q _ _ => by omega⟩
  | succ r ih =>
    intro r' p l g u h1 h2 h h'
    by_cases hn : nn c ≤ p
    · have a : u = uf := by
        rcases h with h | ⟨hp, -⟩
        · exact h.2
        · omega
      have a' : u = uf' := by
        cases r' with
        | zero => exact h'.2
        | succ r' =>
          rcases h' with h' | ⟨hp, -⟩
          · exact h'.2
          · omega
      exact ⟨by omega, fun q _ _ => by omega, fun q _ _ => by omega⟩
    · cases r' with
      | zero => omega
      | succ r' =>
        rcases h with h | ⟨hp, s, h⟩
        · omega
        rcases h' with h' | ⟨-, s', h'⟩
        · omega
        rcases h with ⟨b1, b2, b3, b4⟩ | ⟨k, b1, b2, b3, b4⟩ <;> rcases h' with ⟨d1, d2, d3, d4⟩ | ⟨k', d1, d2, d3, d4⟩
        · obtain ⟨e, -⟩ := b1.uniq d1
          subst e
          obtain ⟨f1, f2, f3⟩ := ih r' _ _ _ _ (by omega) (by omega) b4 d4
          refine ⟨f1, fun q hq hq2 => ?_, fun q hq hq2 => ?_⟩
          · by_cases e : q = p + 1
            · subst e; rw [b2, d2]
            · exact f2 q (by omega) hq2
          · by_cases e : q = p
            · subst e; rw [b3, d3]
            · exact f3 q (by omega) hq2
        · exact absurd (b1.uniq d2).2 (by decide)
        · exact absurd (b2.uniq d1).2 (by decide)
        · obtain ⟨e, -⟩ := b2.uniq d2
          subst e
          have e := b1.uniq hc d1
          subst e
          have hk := b1.2.2
          obtain ⟨f1, f2, f3⟩ := ih r' _ _ _ _ (by omega) (by omega) b4 d4
          refine ⟨f1, fun q hq hq2 => ?_, fun q hq hq2 => ?_⟩
          · by_cases e : (q : Int) ≤ c.2 7 k
            · obtain ⟨j, rfl⟩ : ∃ j, q = p + (j + 1) := ⟨q - p - 1, by omega⟩
              rw [(b3 j (by omega)).1, (d3 j (by omega)).1]
            · exact f2 q (by omega) hq2
          · by_cases e : (q : Int) < c.2 7 k
            · obtain ⟨j, rfl⟩ : ∃ j, q = p + j := ⟨q - p, by omega⟩
              rw [(b3 j (by omega)).2, (d3 j (by omega)).2]
            · exact f3 q (by omega) hq2
/-- the least value by pairs: a step, a span keeps it -/
theorem hit0_iff {c : cfg} (hc : cOK c) {p : Nat} {l g s : Int} {q : Int × Int} {ot : Option (Int × Int)} (hp : p < nn c) (hb : best1 (SV c 1024 1 p l g) (some q) (nn c - p)) (hf : c_fol c s g = true) (ho : c_ok c (p + 1) (l + s) = true) (bt : best1 (SV c 1024 1 (p + 1) (l + s) (s + 24)) ot (nn c - (p + 1))) : Hit0 c p l g (1024 * q.1 + q.2) s ↔ ∃ w, ot = some w ∧ w.1 + c_pc c (p + 1) (l + s) = q.1 ∧ w.2 + (s.natAbs : Int) = q.2 := by
  obtain ⟨n1, n2, n3⟩ := nn_r hc
  obtain ⟨⟨⟨a1, a2⟩, a3, a4⟩, a5, a6⟩ := hb
  have hs := c_fol_r hf
  have hmo := hc.2.2.1
  constructor
  · rintro ⟨-, -, y, hy, e⟩
    cases ot with
    | none => exact absurd hy (bt y)
    | some w =>
      obtain ⟨⟨⟨w1, w2⟩, w3, w4⟩, w5, w6⟩ := bt
      refine ⟨w, rfl, ?_⟩
      have h1 := w6 y hy
      have h2 := a6 (1024 * w.1 + w.2 + (1024 * c_pc c (p + 1) (l + s) + 1 * (s.natAbs : Int))) ((SV_s hp).mpr ⟨s, hf, Or.inl ⟨ho, _, w5, rfl⟩⟩)
      omega
  · rintro ⟨w, rfl, e1, e2⟩
    exact ⟨hf, ho, _, bt.2.1, by omega⟩
theorem hit1_iff {c : cfg} (hc : cOK c) {p k : Nat} {l g s : Int} {q : Int × Int} {ot : Option (Int × Int)} (hp : p < nn c) (hk : c_at c k p) (hb : best1 (SV c 1024 1 p l g) (some q) (nn c - p)) (hf : c_fol c s g = true) (hu : c_use c k l s = true) (bt : best1 (SV c 1024 1 (c.2 7 k).toNat (l + (c.2 7 k - p) * s) (s + 24)) ot (nn c - (c.2 7 k).toNat)) : Hit1 c p l g (1024 * q.1 + q.2) s ↔ ∃ w, ot = some w ∧ w.1 + (c_pc c (c.2 7 k).toNat (l + (c.2 7 k - p) * s) + c.2 9 k) = q.1 ∧ w.2 + (c.2 7 k - p) * (s.natAbs : Int) = q.2 := by
  obtain ⟨n1, n2, n3⟩ := nn_r hc
  obtain ⟨⟨⟨a1, a2⟩, a3, a4⟩, a5, a6⟩ := hb
  have hs := c_fol_r hf
  have hmo := hc.2.2.1
  obtain ⟨hk1, hk2, hk3⟩ := id hk
  obtain ⟨⟨r1, r2, r3⟩, r8, r9⟩ := hc.2.2.2.2.2.2.2.1 k hk1
  have hsz : 0 ≤ (c.2 7 k - p) * (s.natAbs : Int) ∧ (c.2 7 k - p) * (s.natAbs : Int) ≤ 24 * (c.2 7 k - p) := by
    constructor
    · exact Int.mul_nonneg (by omega) (by omega)
    · have := Int.mul_le_mul_of_nonneg_left (show (s.natAbs : Int) ≤ 24 by omega) (show 0 ≤ c.2 7 k - p by omega)
      rw [Int.mul_comm 24]; exact this
  constructor
  · rintro ⟨-, k', hk', -, y, hy, e⟩
    have e' := hk'.uniq hc hk
    subst e'
    cases ot with
    | none => exact absurd hy (bt y)
    | some w =>
      obtain ⟨⟨⟨w1, w2⟩, w3, w4⟩, w5, w6⟩ := bt
      refine ⟨w, rfl, ?_⟩
      have h1 := w6 y hy
      have h2 := a6 (1024 * w.1 + w.2 + (1024 * (c_pc c (c.2 7 k').toNat (l + (c.2 7 k' - p) * s) + c.2 9 k') + 1 * ((c.2 7 k' - p) * (s.natAbs : Int)))) ((SV_s hp).mpr ⟨s, hf, Or.inr ⟨k', hk, hu, _, w5, rfl⟩⟩)
      omega
  · rintro ⟨w, rfl, e1, e2⟩
    exact ⟨hf, k, hk, hu, _, bt.2.1, by omega⟩
theorem best1.isMin {S : Int → Prop} {q : Int × Int} {r : Nat} (h : best1 S (some q) r) : isMin S (1024 * q.1 + q.2) := h.2
/-- the bits of used spans -/
theorem bit_or : ∀ u : Fin 64, ∀ k : Fin 6, iI ((u.val : Nat) : Int) ||| ((1 : Int32) <<< (iI ((k.val : Nat) : Int) &&& 31)) = iI (((u.val ||| 2 ^ k.val : Nat)) : Int) := by decide
theorem bit_lt : ∀ u : Fin 64, ∀ k : Fin 6, u.val ||| 2 ^ k.val < 64 := by decide
theorem bit_at : ∀ u : Fin 64, ∀ k : Fin 6, (iI ((u.val : Nat) : Int) >>> (iI ((k.val : Nat) : Int) &&& 31)) &&& 1 = b1 (u.val.testBit k.val) := by decide
