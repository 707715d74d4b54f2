/-! the class: trace -/
theorem bh_idem {h : zH} {b n : Nat} {lay : Nat → zL} {σ σ' : zS} : BH (BH h b n lay σ) b n lay σ' = BH h b n lay σ' := by
  refine bh_ext (fun q => ?_) rfl
  by_cases c : b ≤ q ∧ q < b + n
  · show (if b ≤ q ∧ q < b + n then _ else _) = (if b ≤ q ∧ q < b + n then _ else _)
    rw [if_pos c, if_pos c]
  · show (if b ≤ q ∧ q < b + n then some (bcell b σ' (q - b) (lay (q - b))) else (if b ≤ q ∧ q < b + n then some (bcell b σ (q - b) (lay (q - b))) else h.1 q)) = (if b ≤ q ∧ q < b + n then some (bcell b σ' (q - b) (lay (q - b))) else h.1 q)
    rw [if_neg c, if_neg c, if_neg c]
theorem CC.same {I I' : Nat → Nat → Int32} {J J' : Nat → Nat → Int64} {x x' : cx} {c : cfg} (h : CC I J x c) (hx : x'.1 = x.1 ∧ x'.2.1 = x.2.1) (e : ∀ i q, 1 ≤ i → i ≤ 10 → I' i q = I i q) (e2 : ∀ q, J' 11 q = J 11 q) : CC I' J' x' c := by
  obtain ⟨⟨a1, a2⟩, ⟨b1, b2, b3, b4, b5, b6⟩, d, f⟩ := h
  refine ⟨⟨by rw [hx.1]; exact a1, by rw [hx.2]; exact a2⟩, ⟨?_, ?_, ?_, ?_, ?_, ?_⟩, fun p hp => ?_, fun k hk => ?_⟩
  · rw [e 1 0 (by omega) (by omega)]; exact b1
  · rw [e 1 1 (by omega) (by omega)]; exact b2
  · rw [e 1 7 (by omega) (by omega)]; exact b3
  · rw [e 1 8 (by omega) (by omega)]; exact b4
  · rw [e 1 9 (by omega) (by omega)]; exact b5
  · rw [e 7 0 (by omega) (by omega)]; exact b6
  · rw [e 2 p (by omega) (by omega), e 3 p (by omega) (by omega), e 4 p (by omega) (by omega), e 5 p (by omega) (by omega), e 6 p (by omega) (by omega)]; exact d p hp
  · rw [e 8 k (by omega) (by omega), e 9 k (by omega) (by omega), e 10 k (by omega) (by omega), e2]; exact f k hk
/-- the class below a search -/
abbrev TH (h : zH) (b : Nat) (x : cx) (I : Nat → Nat → Int32) (J : Nat → Nat → Int64) (s : Nat) (y : sx) (IS : Nat → Nat → Int32) (JS : Nat → Nat → Int64) : zH := SH (CH h b x I J) s y IS JS
/-- both blocks are apart, and of the sizes that are wanted -/
def Apart (s b : Nat) (y : sx) (c : cfg) : Prop := (b + 21 ≤ s ∨ s + (y.1 + 4) ≤ b) ∧ y.2.2.2 = b ∧ y.2.1 = mm c + 1 ∧ (1 ≤ y.2.2.1 ∧ y.2.2.1 ≤ 6) ∧ 3 ≤ y.1 ∧ y.1 ≤ 25
section CTRACE
variable {h : zH} {s b : Nat} {y : sx} {x : cx} {I : Nat → Nat → Int32} {J : Nat → Nat → Int64} {c : cfg} {N : Nat} {IS : Nat → Nat → Int32} {JS : Nat → Nat → Int64}
theorem t_comm (hA : Apart s b y c) : TH h b x I J s y IS JS = CH (SH h s y IS JS) b x I J := bh_comm (by rcases hA.1 with q | q <;> omega)
theorem mkW (hc : cOK c) (hC : CC I J x c) (hA : Apart s b y c) : World (CH h b x I J) s b y x I J c := by
  refine ⟨⟨hc, hC, fun IS JS => ?_⟩, hA.2.1, hA.2.2.1, hA.2.2.2.1, hA.2.2.2.2⟩
  show CH (TH h b x I J s y IS JS) b x I J = TH h b x I J s y IS JS
  rw [t_comm hA]
  exact bh_idem
theorem th_rd (hA : Apart s b y c) : zgR (TH h b x I J s y IS JS) (b + 15) 5 2 = some (b + 16) ∧ zgR (TH h b x I J s y IS JS) (b + 15) 5 3 = some (b + 17) ∧ zgI (TH h b x I J s y IS JS) (b + 15) 5 5 = some (I 15 5) ∧ zis (TH h b x I J s y IS JS) (b + 15) 5 = true := by
  rw [t_comm hA]
  simp only [c_rd, and_self]
theorem t_w5 (hA : Apart s b y c) (v : Int32) : zp (TH h b x I J s y IS JS) (b + 15) 5 5 (.int v) = some (TH h b x (u2 I 15 5 v) J s y IS JS) := by
  rw [t_comm hA, t_comm hA]
  simp only [c_wr]
theorem t_w6 (hA : Apart s b y c) (v : Int64) : zp (TH h b x I J s y IS JS) (b + 15) 5 6 (.long v) = some (TH h b x I (u2 J 15 6 v) s y IS JS) := by
  rw [t_comm hA, t_comm hA]
  simp only [c_wr]
theorem t_w4 (hA : Apart s b y c) : zpZ (TH h b x I J s y IS JS) (b + 15) 5 4 (1 : Int32) = some (TH h b x (u2 I 15 4 1) J s y IS JS) := by
  unfold zpZ
  rw [if_pos (Or.inr rfl), t_comm hA, t_comm hA]
  simp only [c_wr]
theorem t_a16 (hC : CC I J x c) (hA : Apart s b y c) (hc : cOK c) {q : Nat} (hq : q ≤ nn c) : zaI (TH h b x I J s y IS JS) 0 (b + 16) (iI q) = some (I 16 q) := by
  have hn := nn_r hc
  obtain ⟨hin, hcl⟩ := nat_in (p := q) (n := x.1 + 1) (by rw [hC.1.1]; omega) (by rw [hC.1.1]; omega)
  rw [t_comm hA, ca_16 hin, hcl]
theorem t_s16 (hC : CC I J x c) (hA : Apart s b y c) (hc : cOK c) {q : Nat} (hq : q ≤ nn c) (v : Int32) : zsI (TH h b x I J s y IS JS) 0 (b + 16) (iI q) v = some (TH h b x (u2 I 16 q v) J s y IS JS) := by
  have hn := nn_r hc
  obtain ⟨hin, hcl⟩ := nat_in (p := q) (n := x.1 + 1) (by rw [hC.1.1]; omega) (by rw [hC.1.1]; omega)
  rw [t_comm hA, t_comm hA, cs_16 hin, hcl]
theorem t_s17 (hC : CC I J x c) (hA : Apart s b y c) (hc : cOK c) {q : Nat} (hq : q < nn c) (v : Int32) : zsI (TH h b x I J s y IS JS) 0 (b + 17) (iI q) v = some (TH h b x (u2 I 17 q v) J s y IS JS) := by
  have hn := nn_r hc
  obtain ⟨hin, hcl⟩ := nat_in (p := q) (n := x.1) (by rw [hC.1.1]; omega) (by rw [hC.1.1]; omega)
  rw [t_comm hA, t_comm hA, cs_17 hin, hcl]
/-- only the table has changed -/
def SameB1 (I I' : Nat → Nat → Int32) : Prop := ∀ i q, i ≠ 16 → i ≠ 17 → (i ≠ 15 ∨ q ≠ 5) → I' i q = I i q
theorem tr_lay (hc : cOK c) (hA : Apart s b y c) {to : Nat} (hto : to ≤ nn c) {t kk : Int} :
    ∀ (d fu st : Nat) (I : Nat → Nat → Int32) (lv : Int), st + d = to → d < fu → CC I J x c → I 16 st = iI lv →
    ∃ I', (∀ i q, ¬ (i = 16 ∧ st < q ∧ q ≤ to) → ¬ (i = 17 ∧ st ≤ q ∧ q < to) → I' i q = I i q) ∧ (∀ j : Nat, j < d → I' 16 (st + (j + 1)) = iI (lv + t * (j + 1)) ∧ I' 17 (st + j) = iI kk) ∧ f_Search_lay_3 N fu (b + 15) (iI to) (iI t) (iI kk) (iI st) (TH h b x I J s y IS JS) = some (iI to, TH h b x I' J s y IS JS) := by
  have hn := nn_r hc
  intro d
  induction d with
  | zero =>
    intro fu st I lv hd hf hC hl
    obtain ⟨fu, rfl⟩ : ∃ q, fu = q + 1 := ⟨fu - 1, by omega⟩
    refine ⟨I, fun _ _ _ _ => rfl, fun j hj => by omega, ?_⟩
    show b_Search_lay_3 N (f_Search_lay_3 N fu) (b + 15) _ _ _ _ _ = _
    unfold b_Search_lay_3
    rw [if_pos ((iI_le (by omega) (by omega) (by omega) (by omega)).mpr (by omega))]
  | succ d ih =>
    intro fu st I lv hd hf hC hl
    obtain ⟨fu, rfl⟩ : ∃ q, fu = q + 1 := ⟨fu - 1, by omega⟩
    have es : iI (st : Int) + 1 = iI ((st + 1 : Nat) : Int) := by rw [iI_1, iI_add]; rfl
    have hC1 : CC (u2 I 16 (st + 1) (iI (lv + t))) J x c := hC.same ⟨rfl, rfl⟩ (fun i q _ _ => u2_n (by omega)) (fun _ => rfl)
    have hC2 : CC (u2 (u2 I 16 (st + 1) (iI (lv + t))) 17 st (iI kk)) J x c := hC1.same ⟨rfl, rfl⟩ (fun i q _ _ => u2_n (by omega)) (fun _ => rfl)
    obtain ⟨I', h1, h2, h3⟩ := ih fu (st + 1) (u2 (u2 I 16 (st + 1) (iI (lv + t))) 17 st (iI kk)) (lv + t) (by omega) (by omega) hC2 (by rw [u2_n (by omega), u2_s])
    refine ⟨I', fun i q a1 a2 => by rw [h1 i q (by omega) (by omega), u2_n (by omega), u2_n (by omega)], fun j hj => ?_, ?_⟩
    · cases j with
      | zero =>
        show I' 16 (st + 1) = iI (lv + t * (((0 : Nat) : Int) + 1)) ∧ I' 17 st = iI kk
        rw [h1 16 _ (by omega) (by omega), h1 17 _ (by omega) (by omega), u2_n (by omega), u2_s, u2_s]
        exact ⟨by congr 1; simp, rfl⟩
      | succ j =>
        obtain ⟨q1, q2⟩ := h2 j (by omega)
        rw [show st + (j + 1 + 1) = st + 1 + (j + 1) by omega, show st + (j + 1) = st + 1 + j by omega, q1, q2]
        refine ⟨?_, rfl⟩
        congr 1
        rw [show (((j + 1 : Nat) : Int) + 1) = ((j : Int) + 1) + 1 by omega, Int.mul_add t ((j : Int) + 1) 1, Int.mul_one]
        omega
    · show b_Search_lay_3 N (f_Search_lay_3 N fu) (b + 15) _ _ _ _ _ = _
      unfold b_Search_lay_3
      rw [if_neg (fun q => by have := (iI_le (by omega) (by omega) (by omega) (by omega)).mp q; omega)]
      simp only [th_rd hA, Option.bind_some, t_a16 hC hA hc (show st ≤ nn c by omega), hl, es, iI_add, t_s16 hC hA hc (show st + 1 ≤ nn c by omega), t_s17 hC1 hA hc (show st < nn c by omega)]
      exact h3
/-- where the trace stands -/
def TS (I : Nat → Nat → Int32) (c : cfg) (p l : Nat) (g : Int) : Prop := I 16 p = iI l ∧ l ≤ mm c ∧ c_ok c p l = true ∧ ((p = 0 ∧ g = 49) ∨ ∃ l0 : Nat, 0 < p ∧ I 16 (p - 1) = iI l0 ∧ l0 ≤ mm c ∧ c_fit c ((l : Int) - l0) = true ∧ g = (l : Int) - l0 + 24)
theorem tr_may (hc : cOK c) (hC : CC I J x c) (hA : Apart s b y c) {p l u : Nat} {g : Int} (hp : p < nn c) (hT : TS I c p l g) (hu : u ≤ mm c) : f_Search_mayFollow N s (b + 15) (iI p) (iI u) (TH h b x I J s y IS JS) = some (b1 (c_fol c ((u : Int) - l) g), TH h b x I J s y IS JS) := by
  have hn := nn_r hc
  have hm := mm_r hc
  have hW := mkW (h := h) hc hC hA
  obtain ⟨h1, h2, h3, h4⟩ := hT
  have hsf := w_slopeFits (N := N) (IS := IS) (JS := JS) hW (t := (u : Int) - l) (by omega) (by omega)
  have hiff := c_fol_fit (c := c) (t := (u : Int) - l) (g := g)
  unfold f_Search_mayFollow f_Search_mayFollow_47
  simp only [th_rd hA, s_rd, Option.bind_some, t_a16 hC hA hc (show p ≤ nn c by omega), h1, hW.2.1, w_rd hW, zck_t, iI_sub, hsf, b1_0]
  by_cases d1 : c_fit c ((u : Int) - l) = true
  · rw [if_neg (by rw [d1]; decide)]
    rcases h4 with ⟨e1, e2⟩ | ⟨l0, e1, e2, e3, e4, e5⟩
    · subst e1
      rw [if_pos (by decide), hiff.mpr ⟨d1, Or.inl e2⟩]; rfl
    · rw [if_neg (fun q => by have := (iI_ez (by omega) (by omega)).mp q; omega)]
      have em : iI (p : Int) - 1 = iI ((p - 1 : Nat) : Int) := by rw [iI_1, iI_sub]; congr 1; omega
      have ep : iI ((p - 1 : Nat) : Int) + 1 = iI (p : Int) := by rw [iI_1, iI_add]; congr 1; omega
      have hsl : f_Table_slopeOf N (b + 15) (iI ((p - 1 : Nat) : Int)) (TH h b x I J s y IS JS) = some (iI ((l : Int) - l0), TH h b x I J s y IS JS) := by
        unfold f_Table_slopeOf
        simp only [th_rd hA, Option.bind_some, ep, t_a16 hC hA hc (show p ≤ nn c by omega), t_a16 hC hA hc (show p - 1 ≤ nn c by omega), h1, e2, iI_sub]
      have hcf := w_changeFits (N := N) (IS := IS) (JS := JS) hW (t := (l : Int) - l0) (u := (u : Int) - l) (by omega) (by omega) (by omega) (by omega)
      rw [em]
      simp only [hsl, zck_t, Option.bind_some, hcf, w_rd hW, b1_0, decide_eq_false_iff_not]
      by_cases d2 : (((u : Int) - l - ((l : Int) - l0)).natAbs : Int) ≤ c.1 8
      · rw [if_neg (fun q => q d2), hiff.mpr ⟨d1, Or.inr (by omega)⟩]; rfl
      · rw [if_pos d2, show c_fol c ((u : Int) - l) g = false from by
          rw [← Bool.not_eq_true]
          intro q
          rcases (hiff.mp q).2 with w | w <;> omega]
        rfl
  · have d1' := (Bool.not_eq_true _).mp d1
    rw [if_pos d1', show c_fol c ((u : Int) - l) g = false from by
      rw [← Bool.not_eq_true]
      exact fun q => d1 (hiff.mp q).1]
    rfl
end CTRACE
