/-- the mathematics: on every script the law, as a function, answers 1 -/
theorem law_ok (n : Nat) (xs : Nat → Int32) (hn : n ≤ 3072) : ∃ w1, f_L_law n xs wE = some (1, w1) := law_main n xs hn (fun _ _ o oT _ x => st_near o oT x) (fun _ _ o oT _ x y => st_law o oT x y)
/-! THE CLAIM OUT OF ONE WALK OF THE LAW'S BODY. Your part is whole_start (and what it stands on); all else here is the same for every law, but numbers. -/
def R_law : String := "WordYearLaw"
def lw_P (b : Addr) (xs : List Int32) (args : Array Value) (s : State) : Prop := args = #[.ref b] ∧ s.IntsAt b xs ∧ xs.length ≤ 3072 ∧ (Jvm.Cond.and given_1 narrow_1).before args s = true
def lw_Q (_ : Array Value) (s : State) (o : Outcome) (t : State) : Prop := o = .returned (some (.int 1)) ∧ Framed s o t [] 600000 7302250
def lw_Z (below : List Frame) (a : Array Value) (s : State) : State → Prop := fun t => ∃ o, t.status = .running ∧ Ended t below o ∧ lw_Q a s o t
/-- the law's own end, with 1 on the stack, nothing written that was there before, its room as the claim has it -/
theorem lw_ret {p : Program} {l : Launch} {e : Env} {s : State} {m : MethodId} {below : List Frame} {meth : Method} {c : Code} {b : Nat} (hx : p.tables.exec = Jvm.exec) (hb : c.code = code) (hr : meth.sig.returnType = ret) (hlocks : meth.locks = false) {pc : Nat} {H : Heap} {ls : Array Slot} (hdg : decode code pc = .ok (.ireturn, 1)) : W p l e room_1 s m #[Value.ref b] below meth c H [] 600000 7302250 (lw_Z below #[Value.ref b] s) (F0 m pc ls [.int 1]) := by
  intro T hT X
  obtain ⟨fs, hret, hrun, hended, hW, hframe⟩ := X.leave (v := some (.int 1)) (hlocks := hlocks) (fun h => by rw [hr] at h; cases h)
  have hmeth' : T.vm.method? m = some meth := X.method'
  refine ⟨T.setFrames fs, ?_, .returned (some (.int 1)), hrun, hended, rfl, ⟨_, rfl⟩, hW, hframe⟩
  jvm_step X.here [X.here.top, hx, hb, hdg, hmeth', hr, ret, narrow_b1]
  (try refine ⟨rfl, ?_⟩); (try refine ⟨rfl, ?_⟩)
  first | (intro acts; rw [hret _ acts rfl rfl rfl]) | rw [hret _ _ rfl rfl rfl]
  exact Steps.refl _
/-- what holds at the law's entry: the machine, the code, the tables' words (any of lw_tbl by 'hts w (by decide +kernel)'), the script of L ints xs at the cell b, what the Statement gives of the start (any of its parts by flat_of_before) -/
def lw_At (p : Program) (s : State) (m : MethodId) (meth : Method) (c : Code) (b L : Nat) (xs : Nat → Int32) : Prop :=
  p.tables.exec = Jvm.exec ∧ c.code = code ∧ meth.sig.returnType = ret ∧ c.maxLocals = 4 ∧ s.vm.findClass R_law = some m.cls ∧ (∀ w ∈ lw_tbl, w.before #[Value.ref b] s = true) ∧ va_X b L xs s s.heap ∧ b < s.heap.size ∧ meth.locks = false ∧ (Jvm.Cond.and given_1 narrow_1).before #[Value.ref b] s = true ∧ meth.name = "law"
theorem okWord_arg {s : State} {A0 A : Array Value} (w : Cond) (ho : okWord w = true) (h : w.before A0 s = true) : w.before A s = true := by
  unfold okWord at ho
  split at ho
  · exact va_tabs rfl rfl h
  · exact va_AO.use (va_AO.of h)
  · exact word_at (State.WarmedH.refl s) (Or.inr ⟨_, rfl⟩) h
  · exact va_tabs ((Bool.and_eq_true _ _).mp ho).2 rfl h
theorem arr_known {s : State} {ty : FieldType} (h : (Cond.arrayClass ty).before #[] s = true) (hp : ∀ C, ty ≠ .object C) : ∃ cA : ClassId, ArrOfT s cA ty ∧ va_RA s cA ty := by
  obtain ⟨c, k, comp, h1, h2, h3⟩ := Cond.arrayClass_spec h
  refine ⟨c, fun n z => ⟨fun k h => (by cases h), k, h2, comp, h3⟩, ?_⟩
  cases ty <;> first | exact h1 | exact absurd rfl (hp _)
theorem arr_knownO {s : State} {C : String} (h : (Cond.arrayOver (.object C)).before #[] s = true) : ∃ cA : ClassId, ArrOfT s cA (.object C) ∧ va_RA s cA (.object C) := by
  obtain ⟨comp, c, k, h1, h2, h3, h4, h5⟩ := Cond.arrayOver_spec h
  exact ⟨c, fun n z => ⟨fun k h => (by cases h), k, h3, comp, h4⟩, k, comp, h3, h4, h1, h5⟩
theorem ins_0 : Cond.instantiable RX0 5 ∈ wtbl := tb_in (i := 287) (by decide +kernel) rfl
theorem ins_1 : Cond.instantiable RX1 7 ∈ wtbl := tb_in (i := 62) (by decide +kernel) rfl
theorem ins_2 : Cond.instantiable RX2 3 ∈ wtbl := tb_in (i := 323) (by decide +kernel) rfl
theorem ins_3 : Cond.instantiable RX3 7 ∈ wtbl := tb_in (i := 26) (by decide +kernel) rfl
theorem ins_4 : Cond.instantiable RX4 10 ∈ wtbl := tb_in (i := 134) (by decide +kernel) rfl
theorem ins_5 : Cond.instantiable RX5 2 ∈ wtbl := tb_in (i := 233) (by decide +kernel) rfl
theorem ins_6 : Cond.instantiable RX6 9 ∈ wtbl := tb_in (i := 250) (by decide +kernel) rfl
theorem ins_7 : Cond.instantiable RX7 10 ∈ wtbl := tb_in (i := 173) (by decide +kernel) rfl
theorem ins_8 : Cond.instantiable RX8 5 ∈ wtbl := tb_in (i := 101) (by decide +kernel) rfl
theorem ins_9 : Cond.instantiable RX9 6 ∈ wtbl := tb_in (i := 126) (by decide +kernel) rfl
theorem ins_10 : Cond.instantiable RX10 2 ∈ wtbl := tb_in (i := 310) (by decide +kernel) rfl
theorem ins_11 : Cond.instantiable RX11 10 ∈ wtbl := tb_in (i := 18) (by decide +kernel) rfl
theorem ins_12 : Cond.instantiable RX12 64 ∈ wtbl := tb_in (i := 947) (by decide +kernel) rfl
set_option maxHeartbeats 4000000 in
theorem kn_all {s : State} (l : Launch) (base : Nat) (hw : ∀ w ∈ wtbl, w.before #[] s = true) : ∃ g : Gx, g.1 = l ∧ g.2.1 = base ∧ Kn g s := by
  obtain ⟨c0, i0, h0⟩ := u_known (C := RX0) (T := TX0) (N := 5) (n := 5) hw ci_0.2.2.1 (hw _ ins_0)
  obtain ⟨c1, i1, h1⟩ := u_known (C := RX1) (T := TX1) (N := 7) (n := 7) hw ci_1.2.2.1 (hw _ ins_1)
  obtain ⟨c2, i2, h2⟩ := u_known (C := RX2) (T := TX2) (N := 3) (n := 3) hw ci_2.2.2.1 (hw _ ins_2)
  obtain ⟨c3, i3, h3⟩ := u_known (C := RX3) (T := TX3) (N := 7) (n := 7) hw ci_3.2.2.1 (hw _ ins_3)
  obtain ⟨c4, i4, h4⟩ := u_known (C := RX4) (T := TX4) (N := 10) (n := 10) hw ci_4.2.2.1 (hw _ ins_4)
  obtain ⟨c5, i5, h5⟩ := u_known (C := RX5) (T := TX5) (N := 2) (n := 2) hw ci_5.2.2.1 (hw _ ins_5)
  obtain ⟨c6, i6, h6⟩ := u_known (C := RX6) (T := TX6) (N := 9) (n := 9) hw ci_6.2.2.1 (hw _ ins_6)
  obtain ⟨c7, i7, h7⟩ := u_known (C := RX7) (T := TX7) (N := 10) (n := 10) hw ci_7.2.2.1 (hw _ ins_7)
  obtain ⟨c8, i8, h8⟩ := u_known (C := RX8) (T := TX8) (N := 5) (n := 5) hw ci_8.2.2.1 (hw _ ins_8)
  obtain ⟨c9, i9, h9⟩ := u_known (C := RX9) (T := TX9) (N := 6) (n := 6) hw ci_9.2.2.1 (hw _ ins_9)
  obtain ⟨c10, i10, h10⟩ := u_known (C := RX10) (T := TX10) (N := 2) (n := 2) hw ci_10.2.2.1 (hw _ ins_10)
  obtain ⟨c11, i11, h11⟩ := u_known (C := RX11) (T := TX11) (N := 10) (n := 10) hw ci_11.2.2.1 (hw _ ins_11)
  obtain ⟨c12, i12, h12⟩ := u_known (C := RX12) (T := TX12) (N := 64) (n := 64) hw ci_12.2.2.1 (hw _ ins_12)
  have hall : ∀ k : Nat, ∃ (c : ClassId) (iS : Nat → Nat), ∀ q : vw_C, vwCl[k]? = some q → u_Kn s q.1 q.2.1 q.2.2 c iS := by
    intro k
    match k with
    | 0 => exact ⟨c0, i0, fun q hq => by cases hq; exact h0⟩
    | 1 => exact ⟨c1, i1, fun q hq => by cases hq; exact h1⟩
    | 2 => exact ⟨c2, i2, fun q hq => by cases hq; exact h2⟩
    | 3 => exact ⟨c3, i3, fun q hq => by cases hq; exact h3⟩
    | 4 => exact ⟨c4, i4, fun q hq => by cases hq; exact h4⟩
    | 5 => exact ⟨c5, i5, fun q hq => by cases hq; exact h5⟩
    | 6 => exact ⟨c6, i6, fun q hq => by cases hq; exact h6⟩
    | 7 => exact ⟨c7, i7, fun q hq => by cases hq; exact h7⟩
    | 8 => exact ⟨c8, i8, fun q hq => by cases hq; exact h8⟩
    | 9 => exact ⟨c9, i9, fun q hq => by cases hq; exact h9⟩
    | 10 => exact ⟨c10, i10, fun q hq => by cases hq; exact h10⟩
    | 11 => exact ⟨c11, i11, fun q hq => by cases hq; exact h11⟩
    | 12 => exact ⟨c12, i12, fun q hq => by cases hq; exact h12⟩
    | k + 13 => exact ⟨c0, i0, fun q hq => by simp [vwCl] at hq⟩
  obtain ⟨aI, qI⟩ := arr_known (hw _ ac_int) (fun C h => by cases h)
  obtain ⟨aL, qL⟩ := arr_known (hw _ ac_long) (fun C h => by cases h)
  obtain ⟨aZ, qZ⟩ := arr_known (hw _ ac_boolean) (fun C h => by cases h)
  obtain ⟨aB, qB⟩ := arr_known (hw _ ac_byte) (fun C h => by cases h)
  obtain ⟨aS, qS⟩ := arr_knownO (hw _ ao_7)
  obtain ⟨aR, qR⟩ := arr_knownO (hw _ ao_6)
  refine ⟨(l, base, (fun k => (hall k).choose, fun k => (hall k).choose_spec.choose), fun t => if t = 20 then aI else if t = 21 then aL else if t = 22 then aZ else if t = 23 then aB else if t = 24 then aS else aR), rfl, rfl, ⟨fun k q hq => (hall k).choose_spec.choose_spec q hq, fun k q hq => ?_⟩, hw⟩
  match k, hq with
  | 0, hq => cases hq; exact qI
  | 1, hq => cases hq; exact qL
  | 2, hq => cases hq; exact qZ
  | 3, hq => cases hq; exact qB
  | 4, hq => cases hq; exact qS
  | 5, hq => cases hq; exact qR
  | k + 6, hq => simp [tysOf] at hq
set_option maxHeartbeats 4000000 in
set_option maxRecDepth 100000 in
theorem whole_start {p : Program} {e : Env} {s : State} {m : MethodId} {below : List Frame} {meth : Method} {c : Code} (l : Launch) {b L : Nat} {xs : Nat → Int32} (hL : L ≤ 3072) (C0 : lw_At p s m meth c b L xs) : W p l e room_1 s m #[Value.ref b] below meth c s.heap [] 0 0 (lw_Z below #[Value.ref b] s) (entryFrame m ([Value.ref b] : List Value).toArray 4) := by
  obtain ⟨hx, hb, hr, hml, hown, hts, hX, hbl, hlocks, hgv, hname⟩ := id C0
  obtain ⟨g, rfl, hgb, hkn⟩ := kn_all (s := s) l s.heap.size (fun w hw => okWord_arg w (tbl_okw hw) (hts w (List.mem_filter.mp hw).1))
  obtain ⟨w1, hf⟩ := law_ok L xs hL
  have hm0 : mlen wE = 0 := rfl
  have hs0 : mslots wE = 0 := rfl
  have S : MachB g yL_law cL_law 4 (0 + 204) (vq g p e room_1 s m #[Value.ref b] below meth c wE 4 (lw_Z below #[Value.ref b] s)) := ⟨p, e, room_1, s, m, _, below, meth, c, wE, _, rfl, hx, hb, hml, hown, hkn, by rw [hgb, hm0]; rfl, hname, by decide, by decide, by decide, by decide, rfl, rfl⟩
  have hScr : ScrX cL_law (vq g p e room_1 s m #[Value.ref b] below meth c wE 4 (lw_Z below #[Value.ref b] s)) b L xs := by
    refine ⟨fun hd hi k H locs ls hH hS hl hm => ?_, fun hd k H locs ls hH hS hl hm => ?_⟩
    · exact va_sld hx hb hX hbl (by rw [hgb]; exact Nat.not_le.mpr hbl) hS (inb_vp hi) hd (k H locs ls hH hS hl hm)
    · exact va_slen hx hb hX hbl (by rw [hgb]; exact Nat.not_le.mpr hbl) hS hd (k H locs ls hH hS hl hm)
  have h0 := c_L_law S hScr (fun pc L1 hd H locs ls hH hS hl hm => by
    refine va_forget (fun q hq => by have := hS.2.2 q hq; omega) ?_
    refine W.widen (k := 600000) (n := 7302250) (by have := hm.2.2.1; unfold CAP at this; omega) (by have := hm.2.2.2; unfold SCAP at this; omega) ?_
    exact lw_ret hx hb hr hlocks hd) hf s.heap [] _ ⟨fun k q h => by simp [wl, wE] at h, by rw [hgb, hm0]; exact Nat.le_refl _⟩ va_S.rf (lv_mono (lv_entry ([Value.ref b]) (n := 4) (Nat.le_of_ble_eq_true rfl)) (fun j v h => h)) (mono_rf (by decide) (by decide))
  rw [lg_entry_eq]
  exact h0
-- ===== YOUR PART ENDS =====
set_option maxHeartbeats 4000000 in
theorem lw_walk (l : Launch) (b : Addr) (xs : List Int32) : MetFree l x (headSpec (Jvm.Cond.code x code maxLocals ret :: tables_1) room_1) (lw_P b xs) (fun _ _ _ _ _ => True) lw_Q := by
  refine MetFree.of_bodyS (code := code) (maxLocals := maxLocals) (ret := ret) (by decide) ?_ ?_
  · intro args s m h hn
    obtain ⟨meth, c, h1, h2, h3, h4, h5, h6, -, -⟩ := Cond.code_spec hn (atoms_spec (ws := Jvm.Cond.code x code maxLocals ret :: tables_1) h _ List.mem_cons_self)
    exact ⟨meth, c, h1, h2, h3, h4, h5, h6⟩
  · intro p e s m args below meth c s₁ B hml0 hP _
    obtain ⟨rfl, hx, hbd, hgv⟩ := hP
    obtain ⟨scr, harrAt, hlist, hof, hsmall⟩ := hx
    obtain ⟨hcb, hkn, -, -⟩ := State.arrayAt?_spec harrAt
    have hown : s.vm.findClass R_law = some m.cls := findClass_of_methodNamed B.named
    have hts0 : ∀ c ∈ (Jvm.Cond.code x code maxLocals ret :: tables_1), c.before #[Value.ref b] s = true := atoms_spec (ws := Jvm.Cond.code x code maxLocals ret :: tables_1) B.pre
    have hts : ∀ w ∈ lw_tbl, w.before #[Value.ref b] s = true := k2_hts_sels lw_privs (fun w hw => hts0 w (List.mem_cons_of_mem _ hw)) lw_privs_ok
    have hml : c.maxLocals = 4 := B.maxLocals_eq (hts0 _ List.mem_cons_self)
    have X₀ : Stand p l e room_1 s m #[Value.ref b] below meth c s₁ [] 0 0 := Stand.of_body B
    have hh0 : s₁.heap = s.heap := by rw [B.state]; rfl
    have hsz : scr.slots.size = xs.length := by rw [← Array.length_toList, hlist, List.length_map]
    have hval : ∀ j : Nat, j < xs.length → scr.slots[j]? = some (.int (xs.getD j 0)) := fun j hj => by
      rw [← Array.getElem?_toList, hlist]
      simp [hj]
    have hbl : b < s.heap.size := (Array.getElem?_eq_some_iff.mp hcb).1
    have hX : va_X b xs.length (fun j => xs.getD j 0) s s.heap := ⟨scr, hcb, hof, hkn, hsz, hval⟩
    have K : W p l e room_1 s m #[Value.ref b] below meth c s₁.heap [] 0 0 (lw_Z below #[Value.ref b] s) (entryFrame m ([Value.ref b] : List Value).toArray 4) := by
      rw [hh0]
      exact whole_start l hbd ⟨B.exec, B.bytes, B.returns, hml, hown, hts, hX, hbl, B.notSynchronized, hgv, (name_of_methodNamed B.named B.method).1⟩
    obtain ⟨t, a1, o, b1, b2, b3⟩ := K s₁ rfl X₀
    exact ⟨t, o, a1, b1, b2, b3⟩
theorem lw_pre_spec {args : Array Value} {s : State} (h : (Jvm.Cond.and given_1 narrow_1).before args s = true) (hr : rest_1_c.before args s = true) : ∃ (b : Addr) (xs : List Int32), lw_P b xs args s := by
  have hs := flat_of_before _ h
  have hq := flat_of_before _ hr
  have hc : (Cond.count 1).before args s = true := hs _ (by decide +kernel)
  have harr : (Cond.arrayOf (.arg 0) .int).before args s = true := hs _ (by decide +kernel)
  have hle : (Cond.le (.length (.arg 0)) (.int 3072)).before args s = true := hs _ (by decide +kernel)
  have hlen : (Cond.isInt (.length (.arg 0))).before args s = true := hq _ (by decide +kernel)
  have hall : (Cond.all (.arg 0) (.isInt (.elem (.arg 0) (.index 0)))).before args s = true := hq _ (by decide +kernel)
  obtain ⟨b, xs, hb, hx⟩ := State.ints_of_pre rfl harr hlen hall
  have hsm : xs.length < 2 ^ 31 := hx.choose_spec.2.2.2
  have hev : (Term.length (.arg 0)).eval args s none [] s = some (.int xs.length.toInt32) := hx.length_eval hb
  have hv := Cond.le_ints hev (show (Term.int 3072).eval args s none [] s = some (.int 3072) from rfl)
  have hd : xs.length.toInt32 ≤ 3072 := by
    simpa [Cond.before, Cond.holds, hv] using hle
  have hN : xs.length ≤ 3072 := (Int32.ofNat_le_ofNat hsm (by decide)).mp (show Int32.ofNat xs.length ≤ Int32.ofNat 3072 from hd)
  exact ⟨b, xs, Cond.one_arg hc (show args[0]? = some (.ref b) from hb), hx, hN, h⟩
theorem lw_comes (l : Launch) : Comes l x (Jvm.Cond.code x code maxLocals ret :: tables_1) room_1 (fun tb e args s => Calls_1 tb e args s ∧ rest_1 tb e args s ∧ Pre_1 tb e args s)
    (fun _ _ args s o t => lw_Q args s o t) := by
  intro p e ha hc hk s m args below hf hfit hheap happ hpre
  obtain ⟨b, xs, hP⟩ := lw_pre_spec hpre.2.2 hpre.2.1
  obtain ⟨k, o, h1, h2, h3, hQ⟩ := lw_walk l b xs p e ha hc hk s m args below hf ((Spec.applies_iff_loose hf).mp happ).1 hP trivial
  exact ⟨k, o, h1, h2, h3, hQ⟩
theorem lw_frame {s t : State} {o : Outcome} {args : Array Value} (h : Framed s o t [] 600000 7302250) :
    Framed s o t (fieldLocs frame_1_writes args s ++ arrayLocs frame_1_arrays args s ++ staticLocs frame_1_statics s) 600000 7302250 := h
theorem lw_limb (L : Cond) (hL : ∀ (args : Array Value) (s t : State), L.after args s (.returned (some (.int 1))) t = true) :
    ArmFor flags0 classFile x code maxLocals ret World_1 tables_1 room_1 Calls_1 rest_1 Pre_1
      (fun tb e a s o t => postC L tb e a s o t ∧ Framed s o t (fieldLocs frame_1_writes a s ++ arrayLocs frame_1_arrays a s ++ staticLocs frame_1_statics s) 600000 7302250) := by
  intro l _ _ _ p e ha hc hk s m args below hf hfit hheap happ hpre
  obtain ⟨k, o, h1, h2, h3, rfl, hF⟩ := lw_comes l p e ha hc hk s m args below hf hfit hheap happ hpre
  exact ⟨k, _, h1, h2, h3, hL args s _, lw_frame hF⟩
theorem i_vc : Claimed_1_1 ∧ Claimed_1_2 := ⟨lw_limb limb_1_1 (fun args s t => by simp [limb_1_1, Cond.after, Cond.holds, Cond.value]), lw_limb limb_1_2 (fun args s t => Cond.after_iff.mpr (by
  first | (rw [show limb_1_2 = Cond.eq .result (.int 1) from rfl, Cond.eq_ints (x := 1) (y := 1) rfl rfl]; simp; done) | (simp [limb_1_2, Cond.value, Term.eval]; done)))⟩
