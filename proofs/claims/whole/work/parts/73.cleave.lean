/-! the class: what leaves a place; addStep, addSpan, fillLeaving, gather -/
def Par (c : cfg) (y : sx) (tr : Bool) (cu su : Int) : Prop := (tr = true ∧ y.1 = nn c + 1 ∧ y.2.2.1 = 1 ∧ cu = 1024 ∧ su = 1) ∨ (tr = false ∧ y.1 = 3 ∧ y.2.2.1 = 6 ∧ cu = 1 ∧ su = 0)
def slt (tr : Bool) (q : Nat) : Nat := if tr = true then q else q % 2
def slE (tr : Bool) (q : Nat) : Nat := if tr = true then q else 2
theorem Par.cs {c : cfg} {y : sx} {tr : Bool} {cu su : Int} (h : Par c y tr cu su) : (1 ≤ cu ∧ cu ≤ 1024) ∧ 0 ≤ su ∧ su ≤ 1 := by
  rcases h with h | h <;> omega
theorem Par.sl {c : cfg} {y : sx} {tr : Bool} {cu su : Int} (h : Par c y tr cu su) {q : Nat} (hq : q ≤ nn c) : slt tr q < y.1 ∧ slE tr q < y.1 := by
  unfold slt slE
  rcases h with ⟨h1, h2, -⟩ | ⟨h1, h2, -⟩
  · rw [if_pos h1, if_pos h1]; omega
  · rw [if_neg (by rw [h1]; decide), if_neg (by rw [h1]; decide)]; omega
/-- the values of a layer: behind a place, its own earth with them -/
def Ly (c : cfg) (cu su : Int) (p : Nat) (l f v : Int) : Prop := c_ok c p l = true ∧ c_fit c (l - f) = true ∧ ∃ q, SV c cu su p l (l - f + 24) q ∧ v = q + cu * c_pc c p l
def La (c : cfg) (cu su : Int) (p : Nat) (l t v : Int) : Prop := ∃ q, SVa c cu su p l t q ∧ v = q + cu * c_pc c p l
def Lk (c : cfg) (cu su : Int) (p : Nat) (l t v : Int) : Prop := ∃ k, c_at c k p ∧ ∃ q, SVk c cu su k p l t q ∧ v = q + cu * c_pc c p l
def Lv (c : cfg) (cu su : Int) (p : Nat) (l t v : Int) : Prop := c_fit c t = true ∧ (La c cu su p l t v ∨ Lk c cu su p l t v)
theorem c_fit_r {c : cfg} {t : Int} (h : c_fit c t = true) : c.1 9 ≤ (t.natAbs : Int) ∧ (t.natAbs : Int) ≤ c.1 7 := of_decide_eq_true h
theorem c_fol_fit {c : cfg} {t g : Int} : c_fol c t g = true ↔ c_fit c t = true ∧ (g = 49 ∨ ((t - (g - 24)).natAbs : Int) ≤ c.1 8) := by
  unfold c_fol c_fit
  rw [decide_eq_true_iff, decide_eq_true_iff]
  exact ⟨fun z => ⟨⟨z.1, z.2.1⟩, z.2.2⟩, fun z => ⟨z.1.1, z.1.2, z.2⟩⟩
theorem mul_bd {a d A D : Int} (h1 : 0 ≤ a) (h2 : a ≤ A) (h3 : 0 ≤ d) (h4 : d ≤ D) : 0 ≤ a * d ∧ a * d ≤ A * D := ⟨Int.mul_nonneg h1 h3, Int.mul_le_mul h2 h4 h3 (by omega)⟩
theorem SV_bd {c : cfg} (hc : cOK c) {cu su : Int} (hcu : 1 ≤ cu ∧ cu ≤ 1024) (hsu : 0 ≤ su ∧ su ≤ 1) : ∀ (r p : Nat) (l g q : Int), nn c ≤ p + r → p ≤ nn c → SV c cu su p l g q → 0 ≤ q ∧ q ≤ ((nn c - p : Nat) : Int) * 2000000000000 := by
  obtain ⟨n1, n2, n3⟩ := nn_r hc
  have h7 := hc.2.2.1
  have hm := hc.2.1
  intro r
  induction r with
  | zero =>
    intro p l g q h1 h2 h
    rw [SV_n (by omega)] at h
    omega
  | succ r ih =>
    intro p l g q h1 h2 h
    by_cases hp : nn c ≤ p
    · rw [SV_n hp] at h; omega
    · rw [SV_s (by omega)] at h
      obtain ⟨t, ht, ⟨ho, z, hz, rfl⟩ | ⟨k, hk, hu, z, hz, rfl⟩⟩ := h
      · have hr := ih _ _ _ _ (by omega) (by omega) hz
        have hl := c_ok_r ho
        have hpc := c_pc_r hc (p := p + 1) (l := l + t) (by omega) hl.1 hl.2
        have hft := c_fol_r ht
        have b1 := mul_bd (show 0 ≤ cu by omega) hcu.2 hpc.1 hpc.2
        have b2 := mul_bd hsu.1 hsu.2 (show 0 ≤ (t.natAbs : Int) by omega) (show (t.natAbs : Int) ≤ 24 by omega)
        omega
      · obtain ⟨hk1, hk2, hk3⟩ := id hk
        obtain ⟨⟨r1, r2, r3⟩, -, rc1, rc2⟩ := hc.2.2.2.2.2.2.2.1 k hk1
        have hr := ih _ _ _ _ (by omega) (by omega) hz
        have hend := c_use_end hc hk hu
        have hl := c_ok_r hend
        have hpc := c_pc_r hc (p := (c.2 7 k).toNat) (l := l + (c.2 7 k - p) * t) (by omega) hl.1 hl.2
        have hft := c_fol_r ht
        have b1 := mul_bd (show 0 ≤ cu by omega) hcu.2 (show 0 ≤ c_pc c (c.2 7 k).toNat (l + (c.2 7 k - p) * t) + c.2 9 k by omega) (show _ ≤ 1024000000 by omega)
        have b3 := mul_bd (show 0 ≤ c.2 7 k - (p : Int) by omega) (show c.2 7 k - (p : Int) ≤ 24 by omega) (show 0 ≤ (t.natAbs : Int) by omega) (show (t.natAbs : Int) ≤ 24 by omega)
        have b2 := mul_bd hsu.1 hsu.2 b3.1 b3.2
        omega
theorem Ly_bd {c : cfg} (hc : cOK c) {cu su : Int} (hcu : 1 ≤ cu ∧ cu ≤ 1024) (hsu : 0 ≤ su ∧ su ≤ 1) {p : Nat} (hp : p ≤ nn c) {l f v : Int} (h : Ly c cu su p l f v) : 0 ≤ v ∧ v ≤ 100000000000000 := by
  obtain ⟨n1, n2, n3⟩ := nn_r hc
  have hm := hc.2.1
  obtain ⟨ho, -, q, hq, rfl⟩ := h
  have hr := SV_bd hc hcu hsu (nn c) p l _ q (by omega) hp hq
  have hl := c_ok_r ho
  have hpc := c_pc_r hc (p := p) (l := l) (by omega) hl.1 hl.2
  have b1 := mul_bd (show 0 ≤ cu by omega) hcu.2 hpc.1 hpc.2
  omega
theorem Lv_bd {c : cfg} (hc : cOK c) {cu su : Int} (hcu : 1 ≤ cu ∧ cu ≤ 1024) (hsu : 0 ≤ su ∧ su ≤ 1) {p : Nat} (hp : p < nn c) {l t v : Int} (h1 : 0 ≤ l) (h2 : l ≤ c.1 1) (h : Lv c cu su p l t v) : 0 ≤ v ∧ v ≤ 100000000000000 := by
  obtain ⟨n1, n2, n3⟩ := nn_r hc
  have hm := hc.2.1
  have hpc := c_pc_r hc (p := p) (l := l) (by omega) h1 h2
  have b1 := mul_bd (show 0 ≤ cu by omega) hcu.2 hpc.1 hpc.2
  obtain ⟨hf, h⟩ := h
  have hSV : ∃ q, SV c cu su p l 49 q ∧ v = q + cu * c_pc c p l := by
    rcases h with ⟨q, hq, e⟩ | ⟨k, hk, q, hq, e⟩
    · exact ⟨q, (SV_s hp).mpr ⟨t, c_fol_fit.mpr ⟨hf, Or.inl rfl⟩, Or.inl hq⟩, e⟩
    · exact ⟨q, (SV_s hp).mpr ⟨t, c_fol_fit.mpr ⟨hf, Or.inl rfl⟩, Or.inr ⟨k, hk, hq⟩⟩, e⟩
  obtain ⟨q, hq, rfl⟩ := hSV
  have hr := SV_bd hc hcu hsu (nn c) p l _ q (by omega) (by omega) hq
  omega
/-- where a row of a layer begins -/
def ixS (y : sx) (l f : Nat) : Nat := (l * y.2.1 + f) * y.2.2.1
theorem ixS_in {y : sx} {l f : Nat} (hl : l < y.2.1) (hf : f < y.2.1) : ixS y l f + y.2.2.1 ≤ y.2.1 * y.2.1 * y.2.2.1 := by
  unfold ixS
  obtain ⟨e, he⟩ : ∃ e, y.2.1 = e + 1 := ⟨y.2.1 - 1, by omega⟩
  have h1 : l * y.2.1 ≤ e * y.2.1 := Nat.mul_le_mul_right _ (by omega)
  have h2 : l * y.2.1 + f + 1 ≤ y.2.1 * y.2.1 := by
    have : y.2.1 * y.2.1 = e * y.2.1 + y.2.1 := by rw [he, Nat.add_mul, Nat.one_mul]
    omega
  have h3 : (l * y.2.1 + f + 1) * y.2.2.1 ≤ y.2.1 * y.2.1 * y.2.2.1 := Nat.mul_le_mul_right _ h2
  rw [Nat.add_mul, Nat.one_mul] at h3
  exact h3
theorem ixS_ne {y : sx} {l f l' f' : Nat} (hf : f < y.2.1) (hf' : f' < y.2.1) (hne : l ≠ l' ∨ f ≠ f') : ixS y l f + y.2.2.1 ≤ ixS y l' f' ∨ ixS y l' f' + y.2.2.1 ≤ ixS y l f := by
  unfold ixS
  have hlt : l * y.2.1 + f < l' * y.2.1 + f' ∨ l' * y.2.1 + f' < l * y.2.1 + f := by
    rcases Nat.lt_trichotomy l l' with z | z | z
    · have : (l + 1) * y.2.1 ≤ l' * y.2.1 := Nat.mul_le_mul_right _ z
      rw [Nat.add_mul, Nat.one_mul] at this
      omega
    · subst z; omega
    · have : (l' + 1) * y.2.1 ≤ l * y.2.1 := Nat.mul_le_mul_right _ z
      rw [Nat.add_mul, Nat.one_mul] at this
      omega
  rcases hlt with z | z
  · have := Nat.mul_le_mul_right y.2.2.1 (Nat.succ_le_of_lt z)
    rw [Nat.succ_mul] at this
    exact Or.inl this
  · have := Nat.mul_le_mul_right y.2.2.1 (Nat.succ_le_of_lt z)
    rw [Nat.succ_mul] at this
    exact Or.inr this
theorem row_in {a n w : Nat} (h : a < n) : a * w + w ≤ n * w := by
  have := Nat.mul_le_mul_right w (Nat.succ_le_of_lt h)
  rw [Nat.succ_mul] at this
  exact this
theorem row_ne {a d w : Nat} (h : a ≠ d) : a * w + w ≤ d * w ∨ d * w + w ≤ a * w := by
  rcases Nat.lt_or_gt_of_ne h with z | z
  · exact Or.inl (row_in z)
  · exact Or.inr (row_in z)
/-- array i holds the layer of place q -/
def LA (JS : Nat → Nat → Int64) (y : sx) (c : cfg) (cu su : Int) (i q : Nat) : Prop := ∀ l f : Nat, l ≤ mm c → f ≤ mm c → RF JS i (ixS y l f) y.2.2.1 (Ly c cu su q l f)
theorem and1_t : ∀ q : Fin 25, iI ((q.val : Nat) : Int) &&& 1 = iI ((q.val % 2 : Nat) : Int) := by decide
section CLEAVE
variable {h : zH} {s b : Nat} {y : sx} {x : cx} {I : Nat → Nat → Int32} {J : Nat → Nat → Int64} {c : cfg} {N : Nat} {IS : Nat → Nat → Int32} {JS : Nat → Nat → Int64} {tr : Bool} {cu su : Int}
theorem sl_bd (hW : World h s b y x I J c) {i : Nat} : slen y i ≤ 3750 := by
  have hm := mm_r hW.1.1
  obtain ⟨-, -, hwd, ⟨hw1, hw6⟩, -⟩ := hW
  have h1 : y.2.1 * y.2.1 ≤ 25 * 25 := Nat.mul_le_mul (by omega) (by omega)
  have h2 : y.2.1 * y.2.1 * y.2.2.1 ≤ 25 * 25 * 6 := Nat.mul_le_mul h1 hw6
  have h3 : y.2.1 * y.2.2.1 ≤ 25 * 6 := Nat.mul_le_mul (by omega) hw6
  unfold slen
  split
  · omega
  · split <;> omega
theorem w_slot (hW : World h s b y x I J c) (hS : Stat IS JS y tr cu su) {q : Nat} (hq : q ≤ nn c) : f_Search_slotOf N s (iI q) (SH h s y IS JS) = some (iI (slt tr q), SH h s y IS JS) := by
  have hn := nn_r hW.1.1
  unfold f_Search_slotOf slt
  simp only [s_rd, Option.bind_some, hS.2.2.1, b1_0]
  cases tr with
  | true => rw [if_neg (by decide), if_pos rfl]
  | false => rw [if_pos rfl, if_neg (by decide), and1_t ⟨q, by omega⟩]
theorem w_slotE (hS : Stat IS JS y tr cu su) {q : Nat} : f_Search_slotOfEnd N s (iI q) (SH h s y IS JS) = some (iI (slE tr q), SH h s y IS JS) := by
  unfold f_Search_slotOfEnd slE
  simp only [s_rd, Option.bind_some, hS.2.2.1, b1_0]
  cases tr with
  | true => rw [if_neg (by decide), if_pos rfl]
  | false => rw [if_pos rfl, if_neg (by decide)]; rfl
/-- the rows of a search -/
theorem w_merge (hW : World h s b y x I J c) (hS : Stat IS JS y tr cu su) (hN : 60 ≤ N) {i i2 f f2 : Nat} {d : Int} (hi : 2 ≤ i) (hi2 : i < y.1 + 4) (hj : 2 ≤ i2) (hj2 : i2 < y.1 + 4) (hne : i2 ≠ i) (hf : f + y.2.2.1 ≤ slen y i) (hf2 : f2 + y.2.2.1 ≤ slen y i2) (hd1 : 0 ≤ d) (hd2 : d ≤ 100000000000000000) {S S2 : Int → Prop} (h1 : RF JS i f y.2.2.1 S) (h2 : RF JS i2 f2 y.2.2.1 S2) (bS : ∀ x, S x → 0 ≤ x ∧ x ≤ 100000000000000) (bS2 : ∀ x, S2 x → 0 ≤ x ∧ x ≤ 100000000000000) :
    ∃ JS', RF JS' i f y.2.2.1 (fun z => S z ∨ ∃ q, S2 q ∧ z = q + d) ∧ (∀ a q, (a ≠ i ∨ q < f ∨ f + y.2.2.1 ≤ q) → JS' a q = JS a q) ∧ f_Search_merge N s (s + i) (iI f) (s + i2) (iI f2) (iJ d) (SH h s y IS JS) = some ((), SH h s y IS JS') := by
  have hb1 := sl_bd hW (i := i)
  have hb2 := sl_bd hW (i := i2)
  exact s_mergeF (Hp := fun JS => SH h s y IS JS) (N := N) (fun J v hv => sa_J hi hi2 hv) (fun J v u hv => ss_J hi hi2 hv) (fun J v hv => sa_J hj hj2 hv) (fun J => by simp only [s_rd, hS.2.1]) (fun J => by simp only [s_rd]) hW.2.2.2.1.1 hW.2.2.2.1.2 (by omega) hne hf (by omega) hf2 (by omega) hd1 hd2 h1 h2 (fun x hx => by have := bS x hx; omega) (fun x hx => by have := bS2 x hx; omega)
theorem w_fill (hW : World h s b y x I J c) (hN : 4000 ≤ N) {i : Nat} (hi : 2 ≤ i) (hi2 : i < y.1 + 4) : ∃ JS', (∀ q, q < slen y i → JS' i q = iJ 1152921504606846976) ∧ (∀ a q, (a ≠ i ∨ slen y i ≤ q) → JS' a q = JS a q) ∧ f_Arrays_fill_AJJV N (s + i) (1152921504606846976 : Int64) (SH h s y IS JS) = some ((), SH h s y IS JS') := by
  have hb1 := sl_bd hW (i := i)
  exact s_fillA (Hp := fun JS => SH h s y IS JS) (N := N) (fun J => sl_J hi hi2) (fun J v u hv => ss_J hi hi2 hv) (by omega) (by omega)
/-- the step's values -/
theorem La_of {p : Nat} {l t v : Int} (hf : c_fit c t = true) : La c cu su p l t v ↔ ∃ q, Ly c cu su (p + 1) (l + t) l q ∧ v = q + (cu * c_pc c p l + su * (t.natAbs : Int)) := by
  unfold La Ly SVa
  rw [show l + t - l = t by omega]
  constructor
  · rintro ⟨q, ⟨ho, z, hz, rfl⟩, rfl⟩
    exact ⟨_, ⟨ho, hf, z, hz, rfl⟩, by omega⟩
  · rintro ⟨q, ⟨ho, -, z, hz, rfl⟩, rfl⟩
    exact ⟨_, ⟨ho, z, hz, rfl⟩, by omega⟩
theorem w_addStep (hW : World h s b y x I J c) (hS : Stat IS JS y tr cu su) (hP : Par c y tr cu su) (hN : 60 ≤ N) {p l u : Nat} {S : Int → Prop} (hp : p < nn c) (hl : l ≤ mm c) (hu : u ≤ mm c) (hf : c_fit c ((u : Int) - l) = true) (hA : LA JS y c cu su (2 + slt tr (p + 1)) (p + 1)) (hR : RF JS (y.1 + 2) (u * y.2.2.1) y.2.2.1 S) (bS : ∀ x, S x → 0 ≤ x ∧ x ≤ 100000000000000) :
    ∃ JS', RF JS' (y.1 + 2) (u * y.2.2.1) y.2.2.1 (fun v => S v ∨ La c cu su p l ((u : Int) - l) v) ∧ (∀ a q, (a ≠ y.1 + 2 ∨ q < u * y.2.2.1 ∨ u * y.2.2.1 + y.2.2.1 ≤ q) → JS' a q = JS a q) ∧ f_Search_addStep N s (iI p) (iI l) (iI u) (SH h s y IS JS) = some ((), SH h s y IS JS') := by
  have hc := hW.1.1
  have hm := mm_r hc
  have hn := nn_r hc
  obtain ⟨hcu, hsu⟩ := hP.cs
  have hwd := hW.2.2.1
  have hsl := (hP.sl (q := p + 1) (by omega)).1
  have hpc := c_pc_r hc (p := p) (l := (l : Int)) (by omega) (by omega) (by omega)
  have b1 := mul_bd (show 0 ≤ cu by omega) hcu.2 hpc.1 hpc.2
  have hft := c_fit_r hf
  have h7 := hc.2.2.1
  have b2 := mul_bd hsu.1 hsu.2 (show 0 ≤ (((u : Int) - l).natAbs : Int) by omega) (show (((u : Int) - l).natAbs : Int) ≤ 24 by omega)
  have hix := ixS_in (y := y) (l := u) (f := l) (by omega) (by omega)
  have hsl1 : slen y (y.1 + 2) = y.2.1 * y.2.2.1 := by unfold slen; rw [if_neg (by omega), if_pos rfl]
  have hsl2 : slen y (2 + slt tr (p + 1)) = y.2.1 * y.2.1 * y.2.2.1 := by unfold slen; rw [if_pos (by omega)]
  obtain ⟨JS', h1, h2, h3⟩ := w_merge (N := N) (d := cu * c_pc c p l + su * (((u : Int) - l).natAbs : Int)) hW hS hN (i := y.1 + 2) (i2 := 2 + slt tr (p + 1)) (f := u * y.2.2.1) (f2 := ixS y u l) (by omega) (by omega) (by omega) (by omega) (by omega) (by rw [hsl1]; exact row_in (by omega)) (by rw [hsl2]; exact hix) (by omega) (by omega) hR (hA u l hu hl) bS (fun v hv => Ly_bd hc hcu hsu (by omega) hv)
  refine ⟨JS', h1.congr (fun v => ?_), h2, ?_⟩
  · rw [La_of hf, show (l : Int) + ((u : Int) - l) = u by omega]
  · have ep : iI (p : Int) + 1 = iI ((p + 1 : Nat) : Int) := by rw [iI_1, iI_add]; rfl
    have eu : iI (u : Int) * iI (y.2.2.1 : Int) = iI ((u * y.2.2.1 : Nat) : Int) := by rw [iI_mul]; congr 1
    have ei : iI (((u : Int) * (y.2.1 : Int) + (l : Int)) * (y.2.2.1 : Int)) = iI ((ixS y u l : Nat) : Int) := by unfold ixS; congr 1
    unfold f_Search_addStep
    simp only [s_rd, Option.bind_some, zck_t, w_earthValue hW hS (p := p) (by omega) (show 0 ≤ (l : Int) by omega) (show (l : Int) ≤ 24 by omega), ep, w_slot hW hS (q := p + 1) (by omega), sa_R hsl (by have := hW.2.2.2.2.2; omega), w_index hS, hS.2.1, hS.2.2.2.2, iI_sub, zabs_i (show -2147483648 < (u : Int) - l by omega) (show (u : Int) - l < 2147483648 by omega), eu, ei]
    rw [iI_J (z := (((u : Int) - l).natAbs : Int)) (by omega) (by omega), iJ_mul, iJ_add, h3]; rfl
/-- the span's values -/
theorem Lk_of (hc : cOK c) {k p : Nat} (hk : c_at c k p) {l t v : Int} (hf : c_fit c t = true) (h1 : 0 ≤ l) (h2 : l ≤ c.1 1) : Lk c cu su p l t v ↔ ((0 ≤ l + (c.2 7 k - p) * t ∧ l + (c.2 7 k - p) * t ≤ c.1 1) ∧ c_suit c k l t = true) ∧ ∃ q, Ly c cu su (c.2 7 k).toNat (l + (c.2 7 k - p) * t) (l + (c.2 7 k - p) * t - t) q ∧ v = q + (cu * c_pc c p l + cu * c.2 9 k + su * (c.2 7 k - p) * (t.natAbs : Int)) := by
  unfold Lk Ly SVk
  rw [show l + (c.2 7 k - p) * t - (l + (c.2 7 k - p) * t - t) = t by omega]
  have em : su * ((c.2 7 k - p) * (t.natAbs : Int)) = su * (c.2 7 k - p) * (t.natAbs : Int) := by rw [Int.mul_assoc]
  constructor
  · rintro ⟨k', hk', q, ⟨hu, z, hz, rfl⟩, rfl⟩
    have e := hk'.uniq hc hk
    subst e
    obtain ⟨e1, e2, e3⟩ := (c_use_suit hc hk h1 h2).mp hu
    refine ⟨⟨e1, e2⟩, _, ⟨e3, hf, z, hz, rfl⟩, ?_⟩
    rw [em, Int.mul_add]; omega
  · rintro ⟨⟨e1, e2⟩, q, ⟨e3, -, z, hz, rfl⟩, rfl⟩
    refine ⟨k, hk, _, ⟨(c_use_suit hc hk h1 h2).mpr ⟨e1, e2, e3⟩, z, hz, rfl⟩, ?_⟩
    rw [em, Int.mul_add]; omega
theorem w_addSpan (hW : World h s b y x I J c) (hS : Stat IS JS y tr cu su) (hP : Par c y tr cu su) (hN : 60 ≤ N) {p l u : Nat} {S : Int → Prop} (hp : p < nn c) (hl : l ≤ mm c) (hu : u ≤ mm c) (hf : c_fit c ((u : Int) - l) = true) (hA : ∀ k, c_at c k p → LA JS y c cu su (2 + slE tr (c.2 7 k).toNat) (c.2 7 k).toNat) (hR : RF JS (y.1 + 2) (u * y.2.2.1) y.2.2.1 S) (bS : ∀ x, S x → 0 ≤ x ∧ x ≤ 100000000000000) :
    ∃ JS', RF JS' (y.1 + 2) (u * y.2.2.1) y.2.2.1 (fun v => S v ∨ Lk c cu su p l ((u : Int) - l) v) ∧ (∀ a q, (a ≠ y.1 + 2 ∨ q < u * y.2.2.1 ∨ u * y.2.2.1 + y.2.2.1 ≤ q) → JS' a q = JS a q) ∧ f_Search_addSpan N s (iI (c_sp c p)) (iI l) (iI u) (SH h s y IS JS) = some ((), SH h s y IS JS') := by
  have hc := hW.1.1
  have hm := mm_r hc
  have hn := nn_r hc
  obtain ⟨hcu, hsu⟩ := hP.cs
  have hwd := hW.2.2.1
  have h7 := hc.2.2.1
  have hft := c_fit_r hf
  rcases c_sp_spec hc (p := p) with ⟨e, hno⟩ | ⟨k, e, hk, -⟩
  · refine ⟨JS, hR.congr (fun v => ⟨Or.inl, fun z => z.resolve_right (fun ⟨k, hk, _⟩ => hno k hk)⟩), fun _ _ _ => rfl, ?_⟩
    unfold f_Search_addSpan
    rw [e, iI_m1, if_pos rfl]
  · obtain ⟨hk1, hk2, hk3⟩ := id hk
    have hK := hc.2.2.2.2.2.1
    obtain ⟨⟨r1, r2, r3⟩, -, rc1, rc2⟩ := hc.2.2.2.2.2.2.2.1 k hk1
    have hLk := fun v => Lk_of (cu := cu) (su := su) (v := v) hc hk hf (show 0 ≤ (l : Int) by omega) (show (l : Int) ≤ c.1 1 by omega)
    have hlen1 : (c.2 7 k - c.2 6 k : Int) = c.2 7 k - p := by omega
    generalize ht : (u : Int) - l = t at *
    have hmul : -576 ≤ (c.2 7 k - p) * t ∧ (c.2 7 k - p) * t ≤ 576 := by
      have a1 := mul_bd (show 0 ≤ c.2 7 k - (p : Int) by omega) (show c.2 7 k - (p : Int) ≤ 24 by omega) (show 0 ≤ (t.natAbs : Int) by omega) (show (t.natAbs : Int) ≤ 24 by omega)
      rcases Int.le_total 0 t with q | q
      · rw [show (t.natAbs : Int) = t by omega] at a1; omega
      · rw [show (t.natAbs : Int) = -t by omega, Int.mul_neg] at a1; omega
    have hsp := fun IS JS => w_sp (h := h) (s := s) (b := b) (y := y) (IS := IS) (JS := JS) hW hk1
    have hcomm : t * (c.2 7 k - p) = (c.2 7 k - p) * t := Int.mul_comm _ _
    have hne : ¬ iI (k : Int) = (-1 : Int32) := fun z => by rw [iI_m1] at z; have := (iI_eq (by omega) (by omega) (by omega) (by omega)).mp z; omega
    have hlev := w_isLevel (N := N) (IS := IS) (JS := JS) hW (z := (l : Int) + (c.2 7 k - p) * t) ⟨by omega, by omega⟩
    have hsui := w_suits (N := N) (IS := IS) (JS := JS) hW (by omega) hk1 (l := (l : Int)) (t := t) (by omega) (by omega) (by omega) (by omega)
    have hEnd : f_Search_addSpan N s (iI (c_sp c p)) (iI l) (iI u) (SH h s y IS JS) = (if (0 ≤ (l : Int) + (c.2 7 k - p) * t ∧ (l : Int) + (c.2 7 k - p) * t ≤ c.1 1) ∧ c_suit c k l t = true then (Option.bind (f_Search_merge N s (s + (y.1 + 2)) (iI ((u * y.2.2.1 : Nat) : Int)) (s + (2 + slE tr (c.2 7 k).toNat)) (iI ((((l : Int) + (c.2 7 k - p) * t) * y.2.1 + ((l : Int) + (c.2 7 k - p) * t - t)) * y.2.2.1)) (iJ (cu * c_pc c p l + cu * c.2 9 k + su * (c.2 7 k - p) * (t.natAbs : Int))) (SH h s y IS JS)) fun p30 => some ((), p30.2)) else some ((), SH h s y IS JS)) := by
      have eu : iI (u : Int) * iI (y.2.2.1 : Int) = iI ((u * y.2.2.1 : Nat) : Int) := by rw [iI_mul]; congr 1
      have hslE := (hP.sl (q := (c.2 7 k).toNat) (by omega)).2
      have hto : iI (c.2 7 k) = iI (((c.2 7 k).toNat : Nat) : Int) := by congr 1; omega
      have hfr : iI (c.2 6 k) = iI (p : Int) := by congr 1
      have hslo : f_Search_slotOfEnd N s (iI (c.2 7 k)) (SH h s y IS JS) = some (iI (slE tr (c.2 7 k).toNat), SH h s y IS JS) := by rw [hto]; exact w_slotE hS
      have hev : f_Search_earthValue N s (iI (c.2 6 k)) (iI l) (SH h s y IS JS) = some (iJ (cu * c_pc c p l), SH h s y IS JS) := by rw [hfr]; exact w_earthValue hW hS (by omega) (by omega) (by omega)
      unfold f_Search_addSpan
      rw [e]
      simp only [s_rd, Option.bind_some, hW.2.1, w_rd hW, zck_t, hsp, if_neg hne, iI_sub, ht, hlen1, iI_mul, hcomm, iI_add, hlev, hsui, hev, hslo, sa_R hslE (by have := hW.2.2.2.2.2; omega), w_index hS, hS.2.1, hS.2.2.2.2, hS.2.2.2.1, zabs_i (show -2147483648 < t by omega) (show t < 2147483648 by omega), b1_0]
      rw [iI_J (z := (t.natAbs : Int)) (by omega) (by omega), iI_J (z := c.2 7 k - p) (by omega) (by omega), show iI ((u : Int) * (y.2.2.1 : Int)) = iI ((u * y.2.2.1 : Nat) : Int) from by congr 1]
      simp only [iJ_mul, iJ_add]
      by_cases d1 : 0 ≤ (l : Int) + (c.2 7 k - p) * t ∧ (l : Int) + (c.2 7 k - p) * t ≤ c.1 1
      · rw [if_neg (by simp [d1])]
        by_cases d2 : c_suit c k l t = true
        · rw [if_neg (by simp [d2]), if_pos ⟨d1, d2⟩]
        · rw [if_pos (by simpa using d2), if_neg (fun z => d2 z.2)]
      · rw [if_pos (by simpa using d1), if_neg (fun z => d1 z.1)]
    rw [hEnd]
    by_cases hcon : (0 ≤ (l : Int) + (c.2 7 k - p) * t ∧ (l : Int) + (c.2 7 k - p) * t ≤ c.1 1) ∧ c_suit c k l t = true
    · rw [if_pos hcon]
      obtain ⟨⟨e1, e2⟩, e3⟩ := hcon
      have hbt := btw (l := (l : Int)) (s := t) (m := c.1 1) (j := (c.2 7 k - p).toNat - 1) (n := (c.2 7 k - p).toNat) (by omega) (by omega) (by omega) (by rw [show (((c.2 7 k - p).toNat : Nat) : Int) = c.2 7 k - p by omega, hcomm]; exact e1) (by rw [show (((c.2 7 k - p).toNat : Nat) : Int) = c.2 7 k - p by omega, hcomm]; exact e2)
      rw [show (((c.2 7 k - p).toNat - 1 : Nat) : Int) = c.2 7 k - p - 1 by omega, Int.mul_sub, Int.mul_one, hcomm] at hbt
      obtain ⟨E, hE⟩ : ∃ E : Nat, (E : Int) = (l : Int) + (c.2 7 k - p) * t := ⟨((l : Int) + (c.2 7 k - p) * t).toNat, by omega⟩
      obtain ⟨F, hF⟩ : ∃ F : Nat, (F : Int) = (l : Int) + (c.2 7 k - p) * t - t := ⟨((l : Int) + (c.2 7 k - p) * t - t).toNat, by omega⟩
      have hpc := c_pc_r hc (p := p) (l := (l : Int)) (by omega) (by omega) (by omega)
      have b1 := mul_bd (show 0 ≤ cu by omega) hcu.2 hpc.1 hpc.2
      have b2 := mul_bd (show 0 ≤ cu by omega) hcu.2 rc1 rc2
      have b3 := mul_bd hsu.1 hsu.2 (show 0 ≤ c.2 7 k - (p : Int) by omega) (show c.2 7 k - (p : Int) ≤ 24 by omega)
      have b4 := mul_bd b3.1 b3.2 (show 0 ≤ (t.natAbs : Int) by omega) (show (t.natAbs : Int) ≤ 24 by omega)
      have hslE := (hP.sl (q := (c.2 7 k).toNat) (by omega)).2
      have hix := ixS_in (y := y) (l := E) (f := F) (by omega) (by omega)
      have hsl1 : slen y (y.1 + 2) = y.2.1 * y.2.2.1 := by unfold slen; rw [if_neg (by omega), if_pos rfl]
      have hsl2 : slen y (2 + slE tr (c.2 7 k).toNat) = y.2.1 * y.2.1 * y.2.2.1 := by unfold slen; rw [if_pos (by omega)]
      obtain ⟨JS', g1, g2, g3⟩ := w_merge (N := N) (d := cu * c_pc c p l + cu * c.2 9 k + su * (c.2 7 k - p) * (t.natAbs : Int)) hW hS hN (i := y.1 + 2) (i2 := 2 + slE tr (c.2 7 k).toNat) (f := u * y.2.2.1) (f2 := ixS y E F) (by omega) (by omega) (by omega) (by omega) (by omega) (by rw [hsl1]; exact row_in (by omega)) (by rw [hsl2]; exact hix) (by omega) (by omega) hR (hA k hk E F (by omega) (by omega)) bS (fun v hv => Ly_bd hc hcu hsu (by omega) hv)
      refine ⟨JS', g1.congr (fun v => ?_), g2, ?_⟩
      · rw [hLk v, ← hF, ← hE]
        exact ⟨fun z => z.imp id (fun z => ⟨⟨by omega, e3⟩, z⟩), fun z => z.imp id (fun z => z.2)⟩
      · rw [show iI ((((l : Int) + (c.2 7 k - p) * t) * y.2.1 + ((l : Int) + (c.2 7 k - p) * t - t)) * y.2.2.1) = iI ((ixS y E F : Nat) : Int) from by
          rw [← hF, ← hE]; unfold ixS; congr 1]
        rw [g3]; rfl
    · rw [if_neg hcon]
      exact ⟨JS, hR.congr (fun v => ⟨Or.inl, fun z => z.resolve_right (fun q => hcon ((hLk v).mp q).1)⟩), fun _ _ _ => rfl, rfl⟩
end CLEAVE
