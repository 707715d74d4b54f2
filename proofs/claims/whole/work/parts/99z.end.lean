/-! THE CLAIM OUT OF ONE WALK OF THE LAW'S BODY. Your part is whole_start (and what it stands on); all else here is the same for every law, but numbers. -/
def R_law : String := "LevelTablesLaw"
def lw_P (b : Addr) (xs : List Int32) (args : Array Value) (s : State) : Prop := args = #[.ref b] ∧ s.IntsAt b xs ∧ xs.length ≤ 3074 ∧ (Jvm.Cond.and given_1 narrow_1).before args s = true
def lw_Q (_ : Array Value) (s : State) (o : Outcome) (t : State) : Prop := o = .returned (some (.int 1)) ∧ Framed s o t [] 600000 7302250
def lw_Z (below : List Frame) (a : Array Value) (s : State) : State → Prop := fun t => ∃ o, t.status = .running ∧ Ended t below o ∧ lw_Q a s o t
/-- the law's own end, with 1 on the stack, nothing written that was there before, its room as the claim has it -/
theorem lw_ret {p : Program} {l : Launch} {e : Env} {s : State} {m : MethodId} {below : List Frame} {meth : Method} {c : Code} {b : Nat} (hx : p.tables.exec = Jvm.exec) (hb : c.code = code) (hr : meth.sig.returnType = ret) (hlocks : meth.locks = false) {pc : Nat} {H : Heap} {ls : Array Slot} (hdg : decode code pc = .ok (.ireturn, 1)) : W p l e room_1 s m #[Value.ref b] below meth c H [] 600000 7302250 (lw_Z below #[Value.ref b] s) (F0 m pc ls [.int 1]) := by
  intro T hT X
  obtain ⟨fs, hret, hrun, hended, hW, hframe⟩ := X.leave (v := some (.int 1)) (hlocks := hlocks) (fun h => by rw [hr] at h; cases h)
  have hmeth' : T.vm.method? m = some meth := X.method'
  refine ⟨T.setFrames fs, ?_, .returned (some (.int 1)), hrun, hended, rfl, ⟨_, rfl⟩, hW, hframe⟩
  jvm_step X.here [X.here.top, hx, hb, hdg, hmeth', hr, ret, narrow_b1]
  (try refine ⟨rfl, ?_⟩); (try refine ⟨rfl, ?_⟩)
  first | (intro acts; rw [hret _ acts rfl rfl rfl]) | rw [hret _ _ rfl rfl rfl]
  exact Steps.refl _
/-- what holds at the law's entry: the machine, the code, the tables' words (any of lw_tbl by 'hts w (by decide +kernel)'), the script of L ints xs at the cell b, what the Statement gives of the start (any of its parts by flat_of_before) -/
def lw_At (p : Program) (s : State) (m : MethodId) (meth : Method) (c : Code) (b L : Nat) (xs : Nat → Int32) : Prop :=
  p.tables.exec = Jvm.exec ∧ c.code = code ∧ meth.sig.returnType = ret ∧ c.maxLocals = 4 ∧ s.vm.findClass R_law = some m.cls ∧ (∀ w ∈ lw_tbl, w.before #[Value.ref b] s = true) ∧ va_X b L xs s s.heap ∧ b < s.heap.size ∧ meth.locks = false ∧ (Jvm.Cond.and given_1 narrow_1).before #[Value.ref b] s = true
section LAWBEGIN
variable {X : zX} {b L : Nat} {xs : Nat → Int32}
set_option maxHeartbeats 4000000 in
set_option maxRecDepth 100000 in
theorem law_begin (C : zB X code 4 R_Law room_1) (S : zSc X b L xs) (hL0 : L ≤ 100000) (hend : ∀ (k n : Nat) (h : zH) (lv : List (Nat × Value)), k ≤ room_1.cells → n ≤ room_1.slots → Zt X 4 k n 750 lv [] h) {h : zH} : Zt X 4 0 0 0 [(0, .ref b)] [] h := by
  have r0 := clN_r (cellv L xs 0).toInt
  have r1 := clM_r (cellv L xs 1).toInt
  obtain ⟨n, hn⟩ : ∃ n : Nat, (n : Int) = clN (cellv L xs 0).toInt := ⟨(clN (cellv L xs 0).toInt).toNat, by omega⟩
  obtain ⟨m, hm⟩ : ∃ m : Nat, (m : Int) = clM (cellv L xs 1).toInt := ⟨(clM (cellv L xs 1).toInt).toNat, by omega⟩
  have e1 := k_init (N := 4000) (b := h.2) (by omega) (rg_of (cellv L xs 0)) (rg_of (cellv L xs 1)) (g := h.1) hn hm
  rw [← iI_of (cellv L xs 0), ← iI_of (cellv L xs 1)] at e1
  obtain ⟨IM, JM, hMI, e2⟩ := m_init (N := 4000) (b := h.2 + 21) (by omega) (rg_of (cellv L xs 0)) (rg_of (cellv L xs 1)) (g := (CH (h.1, h.2 + 21) h.2 (n, m, false, none, none) (IC0 n m) (fun _ _ => 0)).1)
  rw [← iI_of (cellv L xs 0), ← iI_of (cellv L xs 1)] at e2
  have hLaw : LawI (MH ((CH (h.1, h.2 + 21) h.2 (n, m, false, none, none) (IC0 n m) (fun _ _ => 0)).1, h.2 + 21 + 20) (h.2 + 21) IM JM) h.2 (a0 (clN (cellv L xs 0).toInt) (clM (cellv L xs 1).toInt)) (n, m, false, none, none) := by
    refine ⟨IC0 n m, fun _ _ => 0, IM, JM, a0_ok r0 r1, ?_, hMI, has_keep (bh_next bh_idem) (Or.inl (by omega)), bh_idem, ?_, fun z => absurd z (show ¬ (0 : Int) = 1 by decide), (fun s e => by cases e), ⟨Or.inl rfl, (fun s e => by cases e)⟩, (fun s t e => by cases e)⟩
    · rw [← hn, ← hm]
      exact ic0 (by omega)
    · show h.2 + 41 ≤ h.2 + 21 + 20
      omega
  have hRm : Rm 41 284330 (n, m, false, none, none) := by
    show 41 + 29 * 2 ≤ 600000 ∧ 284330 + 94086 * 2 ≤ 7302250
    omega
  refine z_new C 1 ty_LT rfl in_LT tyok_LT w_70 w_71 w_57 df_LT_ok (Nat.le_of_ble_eq_true rfl) (Nat.le_of_ble_eq_true rfl) d_law_0 ?_
  rw [gL_one]
  refine z_dup C d_law_3 rfl ?_
  refine z_aload_n C 0 d_law_4 rfl rfl ?_
  refine z_iconst C (v := nI 0) d_law_5 (by decide) ?_
  refine z_cell C S hL0 (by omega) (Nat.le_of_ble_eq_true rfl) (Nat.le_of_ble_eq_true rfl) (Nat.le_of_ble_eq_true rfl) d_law_6 ?_
  refine z_aload_n C 0 d_law_9 rfl rfl ?_
  refine z_iconst C (v := nI 1) d_law_10 (by decide) ?_
  refine z_cell C S hL0 (by omega) (Nat.le_of_ble_eq_true rfl) (Nat.le_of_ble_eq_true rfl) (Nat.le_of_ble_eq_true rfl) d_law_11 ?_
  refine z_callI C (c_LT_init 4000 C.2.2.1 e1) w_74 w_57 w_72 w_73 rfl pd_LT_init rfl ⟨Nat.le_of_ble_eq_true rfl, Nat.le_of_ble_eq_true rfl⟩ ⟨Nat.le_of_ble_eq_true rfl, Nat.le_of_ble_eq_true rfl⟩ rfl (Nat.le_of_ble_eq_true rfl) d_law_14 (k' := 21) (n' := 315) rfl rfl ?_
  refine z_astore_n (lv' := [(1, .ref h.2), (0, .ref b)]) C d_law_17 rfl (by decide) rfl ?_
  show Zt X 4 21 315 18 [(1, .ref h.2), (0, .ref b)] [] (CH (h.1, h.2 + 21) h.2 (n, m, false, none, none) (IC0 n m) (fun _ _ => 0))
  refine z_new C 0 ty_Model rfl in_Model tyok_Model w_734 w_735 w_66 df_Model_ok (Nat.le_of_ble_eq_true rfl) (Nat.le_of_ble_eq_true rfl) d_law_18 ?_
  rw [gL_one]
  refine z_dup C d_law_21 rfl ?_
  refine z_aload_n C 1 d_law_22 rfl rfl ?_
  refine z_iconst C (v := nI 0) d_law_23 (by decide) ?_
  refine z_cell C S hL0 (by omega) (Nat.le_of_ble_eq_true rfl) (Nat.le_of_ble_eq_true rfl) (Nat.le_of_ble_eq_true rfl) d_law_24 ?_
  refine z_aload_n C 1 d_law_27 rfl rfl ?_
  refine z_iconst C (v := nI 1) d_law_28 (by decide) ?_
  refine z_cell C S hL0 (by omega) (Nat.le_of_ble_eq_true rfl) (Nat.le_of_ble_eq_true rfl) (Nat.le_of_ble_eq_true rfl) d_law_29 ?_
  refine z_callI C (c_Model_init 4000 C.2.2.1 e2) w_738 w_66 w_736 w_737 rfl pd_Model_init rfl ⟨Nat.le_of_ble_eq_true rfl, Nat.le_of_ble_eq_true rfl⟩ ⟨Nat.le_of_ble_eq_true rfl, Nat.le_of_ble_eq_true rfl⟩ rfl (Nat.le_of_ble_eq_true rfl) d_law_32 (k' := 41) (n' := 284330) rfl rfl ?_
  refine z_astore_n (lv' := [(2, .ref (h.2 + 21)), (1, .ref h.2), (0, .ref b)]) C d_law_35 rfl (by decide) rfl ?_
  refine z_iconst C (v := iI ((2 : Nat) : Int)) d_law_36 (by decide) ?_
  refine z_istore_n (lv' := lvL b h.2 (iI ((2 : Nat) : Int))) C d_law_37 rfl (by decide) rfl ?_
  exact law_loop C S hL0 hend (L + 1) 2 41 284330 _ _ _ (by omega) (by omega) hLaw hRm
end LAWBEGIN
set_option maxHeartbeats 4000000 in
set_option maxRecDepth 100000 in
/-- from the entry, for every script of at most 3074 ints, the law comes to its end with true -/
theorem whole_start {p : Program} {e : Env} {s : State} {m : MethodId} {below : List Frame} {meth : Method} {c : Code} (l : Launch) {b L : Nat} {xs : Nat → Int32} (hL : L ≤ 3074) (C0 : lw_At p s m meth c b L xs) : W p l e room_1 s m #[Value.ref b] below meth c s.heap [] 0 0 (lw_Z below #[Value.ref b] s) (entryFrame m ([Value.ref b] : List Value).toArray 4) := by
  obtain ⟨hx, hb, hr, hml, hown, hts, hX, hbl, hlocks, hgv⟩ := id C0
  obtain ⟨D, T, hK, hT, hN⟩ := law_K hts
  have hl := lv_entry ([.ref b]) (n := 4) (Nat.le_of_ble_eq_true rfl)
  rw [lg_entry_eq]
  generalize (lg_sl ([.ref b]) ++ List.replicate (4 - (lg_sl ([.ref b])).length) Slot.unset).toArray = ls at hl ⊢
  have hl : lv_has ls 4 [(0, .ref b)] := hl
  have C : zB (p, l, e, room_1, s, m, #[Value.ref b], below, meth, c, D, T, (fun q : Nat => s.heap.size ≤ q), s.heap, lw_Z below #[Value.ref b] s) code 4 R_Law room_1 := ⟨⟨hx, hb, hml, hown, fun w hw => hts w (List.mem_filter.mp hw).1⟩, hK, hT, rfl, fun q h => h, hN⟩
  have S : zSc (p, l, e, room_1, s, m, #[Value.ref b], below, meth, c, D, T, (fun q : Nat => s.heap.size ≤ q), s.heap, lw_Z below #[Value.ref b] s) b L xs := ⟨hX, hbl, Nat.not_le.mpr hbl⟩
  refine law_begin C S (by omega) (fun k n h lv hk hn H locs ls hI hl => ?_) (h := ((fun _ => none), s.heap.size)) s.heap [] ls ⟨⟨rfl, (fun a e h => by cases h)⟩, (fun a h => by cases h), va_S.rf⟩ hl
  show W p l e room_1 s m #[Value.ref b] below meth c H locs k n (lw_Z below #[Value.ref b] s) (F0 m 750 ls [])
  refine lv_iconst (v := 1) hx hb d_law_750 (by decide) ?_
  refine W.widen (k := 600000) (n := 7302250) hk hn ?_
  refine va_forget (fun q hq => hI.2.2.2.2 q hq) ?_
  exact lw_ret hx hb hr hlocks d_law_751
set_option maxHeartbeats 4000000 in
theorem lw_walk (l : Launch) (b : Addr) (xs : List Int32) : MetFree l x (headSpec (Jvm.Cond.code x code maxLocals ret :: tables_1) room_1) (lw_P b xs) (fun _ _ _ _ _ => True) lw_Q := by
  refine MetFree.of_bodyS (code := code) (maxLocals := maxLocals) (ret := ret) (by decide) ?_ ?_
  · intro args s m h hn
    obtain ⟨meth, c, h1, h2, h3, h4, h5, h6, -, -⟩ := Cond.code_spec hn (atoms_spec (ws := Jvm.Cond.code x code maxLocals ret :: tables_1) h _ List.mem_cons_self)
    exact ⟨meth, c, h1, h2, h3, h4, h5, h6⟩
  · intro p e s m args below meth c s₁ B hml0 hP _
    obtain ⟨rfl, hx, hbd, hgv⟩ := hP
    obtain ⟨scr, harrAt, hlist, hof, hsmall⟩ := hx
    obtain ⟨hcb, hkn, -, -⟩ := State.arrayAt?_spec harrAt
    have hown : s.vm.findClass R_law = some m.cls := findClass_of_methodNamed B.named
    have hts0 : ∀ c ∈ (Jvm.Cond.code x code maxLocals ret :: tables_1), c.before #[Value.ref b] s = true := atoms_spec (ws := Jvm.Cond.code x code maxLocals ret :: tables_1) B.pre
    have hts : ∀ w ∈ lw_tbl, w.before #[Value.ref b] s = true := k2_hts_sels lw_privs (fun w hw => hts0 w (List.mem_cons_of_mem _ hw)) lw_privs_ok
    have hml : c.maxLocals = 4 := B.maxLocals_eq (hts0 _ List.mem_cons_self)
    have X₀ : Stand p l e room_1 s m #[Value.ref b] below meth c s₁ [] 0 0 := Stand.of_body B
    have hh0 : s₁.heap = s.heap := by rw [B.state]; rfl
    have hsz : scr.slots.size = xs.length := by rw [← Array.length_toList, hlist, List.length_map]
    have hval : ∀ j : Nat, j < xs.length → scr.slots[j]? = some (.int (xs.getD j 0)) := fun j hj => by
      rw [← Array.getElem?_toList, hlist]
      simp [hj]
    have hbl : b < s.heap.size := (Array.getElem?_eq_some_iff.mp hcb).1
    have hX : va_X b xs.length (fun j => xs.getD j 0) s s.heap := ⟨scr, hcb, hof, hkn, hsz, hval⟩
    have K : W p l e room_1 s m #[Value.ref b] below meth c s₁.heap [] 0 0 (lw_Z below #[Value.ref b] s) (entryFrame m ([Value.ref b] : List Value).toArray 4) := by
      rw [hh0]
      exact whole_start l hbd ⟨B.exec, B.bytes, B.returns, hml, hown, hts, hX, hbl, B.notSynchronized, hgv⟩
    obtain ⟨t, a1, o, b1, b2, b3⟩ := K s₁ rfl X₀
    exact ⟨t, o, a1, b1, b2, b3⟩
theorem lw_pre_spec {args : Array Value} {s : State} (h : (Jvm.Cond.and given_1 narrow_1).before args s = true) (hr : rest_1_c.before args s = true) : ∃ (b : Addr) (xs : List Int32), lw_P b xs args s := by
  have hs := flat_of_before _ h
  have hq := flat_of_before _ hr
  have hc : (Cond.count 1).before args s = true := hs _ (by decide +kernel)
  have harr : (Cond.arrayOf (.arg 0) .int).before args s = true := hs _ (by decide +kernel)
  have hle : (Cond.le (.length (.arg 0)) (.int 3074)).before args s = true := hs _ (by decide +kernel)
  have hlen : (Cond.isInt (.length (.arg 0))).before args s = true := hq _ (by decide +kernel)
  have hall : (Cond.all (.arg 0) (.isInt (.elem (.arg 0) (.index 0)))).before args s = true := hq _ (by decide +kernel)
  obtain ⟨b, xs, hb, hx⟩ := State.ints_of_pre rfl harr hlen hall
  have hsm : xs.length < 2 ^ 31 := hx.choose_spec.2.2.2
  have hev : (Term.length (.arg 0)).eval args s none [] s = some (.int xs.length.toInt32) := hx.length_eval hb
  have hv := Cond.le_ints hev (show (Term.int 3074).eval args s none [] s = some (.int 3074) from rfl)
  have hd : xs.length.toInt32 ≤ 3074 := by
    simpa [Cond.before, Cond.holds, hv] using hle
  have hN : xs.length ≤ 3074 := (Int32.ofNat_le_ofNat hsm (by decide)).mp (show Int32.ofNat xs.length ≤ Int32.ofNat 3074 from hd)
  exact ⟨b, xs, Cond.one_arg hc (show args[0]? = some (.ref b) from hb), hx, hN, h⟩
theorem lw_comes (l : Launch) : Comes l x (Jvm.Cond.code x code maxLocals ret :: tables_1) room_1 (fun tb e args s => Calls_1 tb e args s ∧ rest_1 tb e args s ∧ Pre_1 tb e args s)
    (fun _ _ args s o t => lw_Q args s o t) := by
  intro p e ha hc hk s m args below hf hfit hheap happ hpre
  obtain ⟨b, xs, hP⟩ := lw_pre_spec hpre.2.2 hpre.2.1
  obtain ⟨k, o, h1, h2, h3, hQ⟩ := lw_walk l b xs p e ha hc hk s m args below hf ((Spec.applies_iff_loose hf).mp happ).1 hP trivial
  exact ⟨k, o, h1, h2, h3, hQ⟩
theorem lw_frame {s t : State} {o : Outcome} {args : Array Value} (h : Framed s o t [] 600000 7302250) :
    Framed s o t (fieldLocs frame_1_writes args s ++ arrayLocs frame_1_arrays args s ++ staticLocs frame_1_statics s) 600000 7302250 := h
theorem lw_limb (L : Cond) (hL : ∀ (args : Array Value) (s t : State), L.after args s (.returned (some (.int 1))) t = true) :
    ArmFor flags0 classFile x code maxLocals ret World_1 tables_1 room_1 Calls_1 rest_1 Pre_1
      (fun tb e a s o t => postC L tb e a s o t ∧ Framed s o t (fieldLocs frame_1_writes a s ++ arrayLocs frame_1_arrays a s ++ staticLocs frame_1_statics s) 600000 7302250) := by
  intro l _ _ _ p e ha hc hk s m args below hf hfit hheap happ hpre
  obtain ⟨k, o, h1, h2, h3, rfl, hF⟩ := lw_comes l p e ha hc hk s m args below hf hfit hheap happ hpre
  exact ⟨k, _, h1, h2, h3, hL args s _, lw_frame hF⟩
theorem i_vc : Claimed_1_1 ∧ Claimed_1_2 := ⟨lw_limb limb_1_1 (fun args s t => by simp [limb_1_1, Cond.after, Cond.holds, Cond.value]), lw_limb limb_1_2 (fun args s t => Cond.after_iff.mpr (by
  first | (rw [show limb_1_2 = Cond.eq .result (.int 1) from rfl, Cond.eq_ints (x := 1) (y := 1) rfl rfl]; simp; done) | (simp [limb_1_2, Cond.value, Term.eval]; done)))⟩
