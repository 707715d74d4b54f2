/-! the reference: barred, the places that can be reached -/
/-- place p can be reached at level l by a step of the slope of number g (49: none) -/
def Fr (c : cfg) : Nat → Int → Int → Prop
  | 0, l, g => c_ok c 0 l = true ∧ g = 49
  | p + 1, l, g => ∃ l0 g0 s : Int, Fr c p l0 g0 ∧ c_fol c s g0 = true ∧ l = l0 + s ∧ g = s + 24 ∧ c_ok c (p + 1) l = true
def Fk (c : cfg) (p k : Nat) : Prop := Fr c p ((k / 50 : Nat) : Int) ((k % 50 : Nat) : Int)
def SameB (I I' : Nat → Nat → Int32) : Prop := ∀ i k, i ≠ 15 → i ≠ 16 → I' i k = I i k
/-- an array of booleans holds P, below K -/
def BA (I : Nat → Nat → Int32) (i : Nat) (P : Nat → Prop) (K : Nat) : Prop := ∀ k, k < K → (I i k = 1 ∧ P k) ∨ (I i k = 0 ∧ ¬ P k)
theorem SameB.rfl {I : Nat → Nat → Int32} : SameB I I := fun _ _ _ _ => Eq.refl _
theorem SameB.trans {I I' I2 : Nat → Nat → Int32} (h : SameB I I') (h2 : SameB I' I2) : SameB I I2 := fun i k a d => (h2 i k a d).trans (h i k a d)
theorem SameB.u15 {I : Nat → Nat → Int32} {k : Nat} {v : Int32} : SameB I (u2 I 15 k v) := fun i q a _ => u2_n (Or.inl a)
theorem SameB.u16 {I : Nat → Nat → Int32} {k : Nat} {v : Int32} : SameB I (u2 I 16 k v) := fun i q _ a => u2_n (Or.inl a)
theorem MC.sameB {I I' : Nat → Nat → Int32} {J : Nat → Nat → Int64} {c : cfg} (h : MC I J c) (hS : SameB I I') : MC I' J c := by
  obtain ⟨⟨a1, a2, a3, a4, a5, a6⟩, hb, hk⟩ := h
  refine ⟨⟨?_, ?_, ?_, ?_, ?_, ?_⟩, fun p hp => ?_, fun k hkk => ?_⟩
  · rw [hS 0 0 (by omega) (by omega)]; exact a1
  · rw [hS 0 1 (by omega) (by omega)]; exact a2
  · rw [hS 0 7 (by omega) (by omega)]; exact a3
  · rw [hS 0 8 (by omega) (by omega)]; exact a4
  · rw [hS 0 9 (by omega) (by omega)]; exact a5
  · rw [hS 0 10 (by omega) (by omega)]; exact a6
  · rw [hS 1 p (by omega) (by omega), hS 2 p (by omega) (by omega), hS 3 p (by omega) (by omega), hS 4 p (by omega) (by omega), hS 5 p (by omega) (by omega)]; exact hb p hp
  · rw [hS 6 k (by omega) (by omega), hS 7 k (by omega) (by omega), hS 8 k (by omega) (by omega)]; exact hk k hkk
section MBARRED
variable {h : zH} {b : Nat} {J : Nat → Nat → Int64} {c : cfg} {N : Nat}
theorem k_in {k : Nat} (hk : k < 1250) : vp_in (iI (k : Int)) 1250 ∧ (iI (k : Int)).toNatClampNeg = k := ⟨iI_in (by omega) (by omega) (by omega), by rw [iI_cl (by omega) (by omega)]; rfl⟩
theorem zs_15 {I : Nat → Nat → Int32} {k : Nat} {v : Int32} (hk : k < 1250) (hv : v = 0 ∨ v = 1) : zsZ (MH h b I J) (b + 15) (iI (k : Int)) v = some (MH h b (u2 I 15 k v) J) := by
  unfold zsZ
  rw [if_pos hv, ms_15 (k_in hk).1, (k_in hk).2]
theorem zs_16 {I : Nat → Nat → Int32} {k : Nat} {v : Int32} (hk : k < 1250) (hv : v = 0 ∨ v = 1) : zsZ (MH h b I J) (b + 16) (iI (k : Int)) v = some (MH h b (u2 I 16 k v) J) := by
  unfold zsZ
  rw [if_pos hv, ms_16 (k_in hk).1, (k_in hk).2]
theorem k_div {k : Nat} (hk : k < 1250) : iI (k : Int) / (50 : Int32) = iI ((k / 50 : Nat) : Int) := by
  rw [← nI_iI, ← nI_iI, show (50 : Int32) = nI 50 by decide]
  exact pk_div (by omega) (by omega) (by omega)
theorem k_rem {k : Nat} (hk : k < 1250) : iI (k : Int) - iI (k : Int) / (50 : Int32) * (50 : Int32) = iI ((k % 50 : Nat) : Int) := by
  rw [← nI_iI, ← nI_iI, show (50 : Int32) = nI 50 by decide]
  exact pk_rem (by omega) (by omega) (by omega)
theorem BA.put {I : Nat → Nat → Int32} {i : Nat} {P : Nat → Prop} {K : Nat} {v : Int32} (h : BA I i P K) (hv : (v = 1 ∧ P K) ∨ (v = 0 ∧ ¬ P K)) : BA (u2 I i K v) i P (K + 1) := by
  intro k hk
  by_cases e : k = K
  · subst e; rw [u2_s]; exact hv
  · rw [u2_n (Or.inr e)]; exact h k (by omega)
/-- the beginning: the levels of place 0 -/
theorem mb_2 (hc : cOK c) : ∀ (d fu k : Nat) (I : Nat → Nat → Int32), k + d = 1250 → d < fu → MC I J c → BA I 15 (Fk c 0) k →
    ∃ I', SameB I I' ∧ BA I' 15 (Fk c 0) 1250 ∧ f_Model_barred_2 N fu b (iI k) (MH h b I J) = f_Model_barred_60 N N b (0 : Int32) (MH h b I' J) := by
  have hm := hc.2.1
  have e1250 : (1250 : Int32) = iI 1250 := by decide
  have z0 : iI ((0 : Nat) : Int) = (0 : Int32) := iI_0.symm
  intro d
  induction d with
  | zero =>
    intro fu k I hd hf hM hB
    obtain ⟨fu, rfl⟩ : ∃ q, fu = q + 1 := ⟨fu - 1, by omega⟩
    refine ⟨I, SameB.rfl, by rw [show 1250 = k by omega]; exact hB, ?_⟩
    show b_Model_barred_2 N (f_Model_barred_2 N fu) b (iI k) (MH h b I J) = _
    unfold b_Model_barred_2
    rw [e1250, if_pos ((iI_le (by omega) (by omega) (by omega) (by omega)).mpr (by omega))]
  | succ d ih =>
    intro fu k I hd hf hM hB
    obtain ⟨fu, rfl⟩ : ∃ q, fu = q + 1 := ⟨fu - 1, by omega⟩
    have hk : k < 1250 := by omega
    have hnext : ∀ v : Int32, (v = 1 ∧ Fk c 0 k) ∨ (v = 0 ∧ ¬ Fk c 0 k) → ∃ I', SameB I I' ∧ BA I' 15 (Fk c 0) 1250 ∧ f_Model_barred_51 N (f_Model_barred_2 N fu) b (iI k) (b + 15) (iI k) v (MH h b I J) = f_Model_barred_60 N N b (0 : Int32) (MH h b I' J) := by
      intro v hv
      obtain ⟨I', hS, hB', hgo⟩ := ih fu (k + 1) (u2 I 15 k v) (by omega) (by omega) (hM.sameB SameB.u15) (hB.put hv)
      refine ⟨I', SameB.u15.trans hS, hB', ?_⟩
      unfold f_Model_barred_51
      rw [zs_15 hk (by rcases hv with ⟨e, -⟩ | ⟨e, -⟩ <;> simp [e])]
      simp only [Option.bind_some, iI_1, iI_add]
      exact hgo
    have hFk : Fk c 0 k ↔ (k % 50 = 49 ∧ c_ok c 0 ((k / 50 : Nat) : Int) = true) := by
      unfold Fk Fr
      constructor
      · rintro ⟨a, d⟩; exact ⟨by omega, a⟩
      · rintro ⟨a, d⟩; exact ⟨d, by omega⟩
    have hmay := m_may (N := N) (b := b) (h := h) hc hM (p := 0) (l := ((k / 50 : Nat) : Int)) (by omega) (by omega) (by omega)
    rw [z0] at hmay
    show ∃ I', _ ∧ _ ∧ b_Model_barred_2 N (f_Model_barred_2 N fu) b (iI k) (MH h b I J) = _
    unfold b_Model_barred_2 f_Model_barred_50
    rw [e1250, if_neg (fun z => by have := (iI_le (by omega) (by omega) (by omega) (by omega)).mp z; omega), k_rem hk, k_div hk]
    simp only [m_rd, Option.bind_some, hM.1.2.1, zck_t, hmay, b1_0]
    by_cases h49 : k % 50 = 49
    · rw [if_pos (by rw [show (49 : Int32) = iI 49 by decide]; exact (iI_eq (by omega) (by omega) (by omega) (by omega)).mpr (by omega))]
      by_cases hok : c_ok c 0 ((k / 50 : Nat) : Int) = true
      · have := c_ok_r hok
        rw [if_neg (fun z => by have := (iI_lt (by omega) (by omega) (by omega) (by omega)).mp z; omega), if_neg (by rw [hok]; decide)]
        exact hnext 1 (Or.inl ⟨rfl, hFk.mpr ⟨h49, hok⟩⟩)
      · have hok' : c_ok c 0 ((k / 50 : Nat) : Int) = false := by simpa using hok
        simp only [hok', if_true, ite_self]
        exact hnext 0 (Or.inr ⟨rfl, fun z => hok (hFk.mp z).2⟩)
    · rw [if_neg (by rw [show (49 : Int32) = iI 49 by decide]; exact fun z => h49 (by have := (iI_eq (by omega) (by omega) (by omega) (by omega)).mp z; omega))]
      exact hnext 0 (Or.inr ⟨rfl, fun z => h49 (hFk.mp z).1⟩)
/-- whether any state is reached -/
theorem mb_64 {I : Nat → Nat → Int32} (hM : MC I J c) (hc : cOK c) (r60 : Nat → Int32 → zH → Option (Int32 × zH)) {p : Nat} (hp : p ≤ nn c) {P : Nat → Prop} (hB : BA I 15 P 1250) : ∀ (d fu k : Nat) (v : Int32), k + d = 1250 → d < fu → (v = 1 ∧ (∃ q, q < 1250 ∧ P q)) ∨ (v = 0 ∧ ∀ q, q < k → ¬ P q) →
    ((∃ q, q < 1250 ∧ P q) ∧ f_Model_barred_64 N r60 fu b (iI p) v (iI k) (MH h b I J) = (if p = nn c then some ((-1 : Int32), MH h b I J) else f_Model_barred_114 N r60 N b (iI p) (0 : Int32) (MH h b I J))) ∨ ((∀ q, q < 1250 → ¬ P q) ∧ f_Model_barred_64 N r60 fu b (iI p) v (iI k) (MH h b I J) = some (iI p, MH h b I J)) := by
  obtain ⟨n1, n2, n3⟩ := nn_r hc
  have e1250 : (1250 : Int32) = iI 1250 := by decide
  intro d
  induction d with
  | zero =>
    intro fu k v hd hf hv
    obtain ⟨fu, rfl⟩ : ∃ q, fu = q + 1 := ⟨fu - 1, by omega⟩
    have hk : k = 1250 := by omega
    have hstep : f_Model_barred_64 N r60 (fu + 1) b (iI p) v (iI k) (MH h b I J) = (if v = 0 then some (iI p, MH h b I J) else if iI p = iI (nn c) then some ((-1 : Int32), MH h b I J) else f_Model_barred_114 N r60 N b (iI p) (0 : Int32) (MH h b I J)) := by
      show b_Model_barred_64 N r60 (f_Model_barred_64 N r60 fu) b (iI p) v (iI k) (MH h b I J) = _
      unfold b_Model_barred_64
      have hn0 : I 0 0 = iI (nn c) := by rw [n1]; exact hM.1.1
      rw [e1250, if_pos ((iI_le (by omega) (by omega) (by omega) (by omega)).mpr (by omega))]
      simp only [m_rd, Option.bind_some, hn0]
    rw [hstep]
    rcases hv with ⟨e, hq⟩ | ⟨e, hq⟩
    · refine Or.inl ⟨hq, ?_⟩
      rw [e, if_neg (by decide)]
      by_cases hpn : p = nn c
      · rw [if_pos (by rw [hpn]), if_pos hpn]
      · rw [if_neg (fun z => hpn (by have := (iI_eq (by omega) (by omega) (by omega) (by omega)).mp z; omega)), if_neg hpn]
    · refine Or.inr ⟨fun q hqk => hq q (by omega), ?_⟩
      rw [e, if_pos rfl]
  | succ d ih =>
    intro fu k v hd hf hv
    obtain ⟨fu, rfl⟩ : ∃ q, fu = q + 1 := ⟨fu - 1, by omega⟩
    have hk : k < 1250 := by omega
    have hstep : f_Model_barred_64 N r60 (fu + 1) b (iI p) v (iI k) (MH h b I J) = (if v = 0 then (if I 15 k = 0 then f_Model_barred_64 N r60 fu b (iI p) (0 : Int32) (iI ((k + 1 : Nat) : Int)) (MH h b I J) else f_Model_barred_64 N r60 fu b (iI p) (1 : Int32) (iI ((k + 1 : Nat) : Int)) (MH h b I J)) else f_Model_barred_64 N r60 fu b (iI p) (1 : Int32) (iI ((k + 1 : Nat) : Int)) (MH h b I J)) := by
      show b_Model_barred_64 N r60 (f_Model_barred_64 N r60 fu) b (iI p) v (iI k) (MH h b I J) = _
      unfold b_Model_barred_64 f_Model_barred_84 f_Model_barred_89
      rw [e1250, if_neg (fun z => by have := (iI_le (by omega) (by omega) (by omega) (by omega)).mp z; omega)]
      have ek : iI (k : Int) + (1 : Int32) = iI ((k + 1 : Nat) : Int) := by rw [iI_1, iI_add]; rfl
      simp only [m_rd, Option.bind_some, ma_15 (k_in hk).1, (k_in hk).2, ek]
    rw [hstep]
    rcases hv with ⟨e, hq⟩ | ⟨e, hq⟩
    · rw [e, if_neg (by decide)]
      exact ih fu (k + 1) 1 (by omega) (by omega) (Or.inl ⟨rfl, hq⟩)
    · rw [e, if_pos rfl]
      rcases hB k hk with ⟨e2, hP⟩ | ⟨e2, hP⟩
      · rw [e2, if_neg (by decide)]
        exact ih fu (k + 1) 1 (by omega) (by omega) (Or.inl ⟨rfl, k, hk, hP⟩)
      · rw [e2, if_pos rfl]
        refine ih fu (k + 1) 0 (by omega) (by omega) (Or.inr ⟨rfl, fun q hqk => ?_⟩)
        by_cases e3 : q = k
        · subst e3; exact hP
        · exact hq q (by omega)
end MBARRED
