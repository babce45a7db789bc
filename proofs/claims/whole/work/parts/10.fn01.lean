/-! WordYear$Ballot.<init> -/
noncomputable def f_X0_init (o0 : Nat) (o1 : Nat) (o2 : Nat) (o3 : Nat) (w : Mm) : Option Mm := Option.bind (alq w 21 10) (fun p1 => if gK p1.2 o0 = some (0, 5) then (Option.bind (alq (sR p1.2 o0 3 (some p1.1)) 20 40) (fun p3 => some (sR (sR (sR (sR p3.2 o0 4 (some p3.1)) o0 0 (some o1)) o0 1 (some o2)) o0 2 (some o3)))) else none)
set_option maxHeartbeats 4000000 in
set_option maxRecDepth 100000 in
theorem c_X0_init (g : Gx) (d : Nat) {o0 : Nat} {o1 : Nat} {o2 : Nat} {o3 : Nat} {w : Mm} {p : Mm}  (h : f_X0_init o0 o1 o2 o3 w = some p) : Call g (d + 1) yX0_init cX0_init 4 none [rf g o0, rf g o1, rf g o2, rf g o3] w none p := by
  refine call_of (L0 := [some (rf g o0), some (rf g o1), some (rf g o2), some (rf g o3)]) (by decide) rfl (Nat.le_of_ble_eq_true rfl) (fun V S0 => ?_)
  have S := S0.b
  unfold f_X0_init at h
  refine i_aload_n S dX0_init_0 rfl ?_
  refine i_objInit S lk_X0_3 im_obj cd_obj dX0_init_1 (Nat.le_of_ble_eq_true rfl) ?_
  refine i_aload_n S dX0_init_4 rfl ?_
  refine i_bipush (v := 10) S dX0_init_5 bp_10 ?_
  obtain ⟨p1, e1, h⟩ := bn h
  refine i_newaqL (N := 10) S ac_long (by decide) (by decide) (by decide) e1 dX0_init_7 ?_
  obtain ⟨hk2, h⟩ := gd h
  refine i_putFR (x := some p1.1) S fl_X0_9 hk2 rfl rfl (fun C T h => ci_d0 h 3 (by decide)) rfl rfl dX0_init_9 ?_
  refine i_aload_n S dX0_init_12 rfl ?_
  refine i_bipush (v := 40) S dX0_init_13 bp_40 ?_
  obtain ⟨p3, e3, h⟩ := bn h
  refine i_newaqI (N := 40) S ac_int (by decide) (by decide) (by decide) e3 dX0_init_15 ?_
  refine i_putFR (x := some p3.1) S fl_X0_15 (alq_old e3 hk2) rfl rfl (fun C T h => ci_d0 h 4 (by decide)) rfl rfl dX0_init_17 ?_
  refine i_aload_n S dX0_init_20 rfl ?_
  refine i_aload_n S dX0_init_21 rfl ?_
  refine i_putFR (x := some o1) S fl_X0_19 (alq_old e3 hk2) rfl rfl (fun C T h => ci_d0 h 0 (by decide)) rfl rfl dX0_init_22 ?_
  refine i_aload_n S dX0_init_25 rfl ?_
  refine i_aload_n S dX0_init_26 rfl ?_
  refine i_putFR (x := some o2) S fl_X0_23 (alq_old e3 hk2) rfl rfl (fun C T h => ci_d0 h 1 (by decide)) rfl rfl dX0_init_27 ?_
  refine i_aload_n S dX0_init_30 rfl ?_
  refine i_aload_n S dX0_init_31 rfl ?_
  refine i_putFR (x := some o3) S fl_X0_27 (alq_old e3 hk2) rfl rfl (fun C T h => ci_d0 h 2 (by decide)) rfl rfl dX0_init_32 ?_
  cases h
  exact i_vret S0 dX0_init_35
/-! WordYear.contains -/
noncomputable def f_X11_contains (x0 : Int32) (x1 : Int32) : Int32 := if x1 < 0 then ((0 : Int32)) else (if (10 : Int32) ≤ x1 then ((0 : Int32)) else (if ((x0 >>> (x1 &&& 31)) &&& (1 : Int32)) = (1 : Int32) then ((1 : Int32)) else ((0 : Int32))))
set_option maxHeartbeats 4000000 in
set_option maxRecDepth 100000 in
theorem c_X11_contains (g : Gx) (d : Nat) {x0 : Int32} {x1 : Int32} {w : Mm} {p : Int32}  (h : f_X11_contains x0 x1 = p) : Call g (d + 1) yX11_contains cX11_contains 2 (some .boolean) [.int x0, .int x1] w (some (.int p)) w := by
  refine call_of (L0 := [some (.int x0), some (.int x1)]) (by decide) rfl (Nat.le_of_ble_eq_true rfl) (fun V S0 => ?_)
  have S := S0.b
  unfold f_X11_contains at h
  refine i_iload_n S dX11_contains_0 rfl ?_
  refine i_if_lt (tgt := 23) S dX11_contains_1 (by decide) (fun q1 => ?_) (fun q1 => ?_)
  · replace h := (if_pos q1).symm.trans h
    refine i_iconst (v := 0) S dX11_contains_23 ic_0 ?_
    subst h
    exact i_iret S0 rfl dX11_contains_24
  · replace h := (if_neg q1).symm.trans h
    refine i_iload_n S dX11_contains_4 rfl ?_
    refine i_bipush (v := 10) S dX11_contains_5 bp_10 ?_
    refine i_icmp_ge (tgt := 23) S dX11_contains_7 (by decide) (fun q2 => ?_) (fun q2 => ?_)
    · replace h := (if_pos q2).symm.trans h
      refine i_iconst (v := 0) S dX11_contains_23 ic_0 ?_
      subst h
      exact i_iret S0 rfl dX11_contains_24
    · replace h := (if_neg q2).symm.trans h
      refine i_iload_n S dX11_contains_10 rfl ?_
      refine i_iload_n S dX11_contains_11 rfl ?_
      refine i_ishr S dX11_contains_12 ?_
      refine i_iconst (v := 1) S dX11_contains_13 ic_1 ?_
      refine i_iand S dX11_contains_14 ?_
      refine i_iconst (v := 1) S dX11_contains_15 ic_1 ?_
      refine i_icmp_ne (tgt := 23) S dX11_contains_16 (by decide) (fun q3 => ?_) (fun q3 => ?_)
      · replace h := (if_neg q3).symm.trans h
        refine i_iconst (v := 0) S dX11_contains_23 ic_0 ?_
        subst h
        exact i_iret S0 rfl dX11_contains_24
      · replace h := (if_pos q3).symm.trans h
        refine i_iconst (v := 1) S dX11_contains_19 ic_1 ?_
        refine i_goto (tgt := 24) S dX11_contains_20 (by decide) ?_
        subst h
        exact i_iret S0 rfl dX11_contains_24
theorem b_X11_contains (x0 : Int32) (x1 : Int32) : isB (f_X11_contains x0 x1) = true := by
  unfold f_X11_contains
  repeat' split
  all_goals first | rfl
/-! WordYear.without -/
noncomputable def f_X11_without (x0 : Int32) (x1 : Int32) : Int32 := x0 &&& (((1 : Int32) <<< (x1 &&& 31)) ^^^ (-1 : Int32))
set_option maxHeartbeats 4000000 in
set_option maxRecDepth 100000 in
theorem c_X11_without (g : Gx) (d : Nat) {x0 : Int32} {x1 : Int32} {w : Mm} {p : Int32}  (h : f_X11_without x0 x1 = p) : Call g (d + 1) yX11_without cX11_without 2 (some .int) [.int x0, .int x1] w (some (.int p)) w := by
  refine call_of (L0 := [some (.int x0), some (.int x1)]) (by decide) rfl (Nat.le_of_ble_eq_true rfl) (fun V S0 => ?_)
  have S := S0.b
  unfold f_X11_without at h
  refine i_iload_n S dX11_without_0 rfl ?_
  refine i_iconst (v := 1) S dX11_without_1 ic_1 ?_
  refine i_iload_n S dX11_without_2 rfl ?_
  refine i_ishl S dX11_without_3 ?_
  refine i_iconst (v := -1) S dX11_without_4 ic_m1 ?_
  refine i_ixor S dX11_without_5 ?_
  refine i_iand S dX11_without_6 ?_
  subst h
  exact i_iret S0 rfl dX11_without_7
/-! WordYear$Speech.<init> -/
noncomputable def f_X7_init (o0 : Nat) (o1 : Nat) (w : Mm) : Option Mm := Option.bind (alq w 20 64) (fun p1 => if gK p1.2 o0 = some (7, 10) then (some (sR (sR (sR p1.2 o0 1 (some p1.1)) o0 6 (none)) o0 0 (some o1))) else none)
set_option maxHeartbeats 4000000 in
set_option maxRecDepth 100000 in
theorem c_X7_init (g : Gx) (d : Nat) {o0 : Nat} {o1 : Nat} {w : Mm} {p : Mm}  (h : f_X7_init o0 o1 w = some p) : Call g (d + 1) yX7_init cX7_init 2 none [rf g o0, rf g o1] w none p := by
  refine call_of (L0 := [some (rf g o0), some (rf g o1)]) (by decide) rfl (Nat.le_of_ble_eq_true rfl) (fun V S0 => ?_)
  have S := S0.b
  unfold f_X7_init at h
  refine i_aload_n S dX7_init_0 rfl ?_
  refine i_objInit S lk_X7_3 im_obj cd_obj dX7_init_1 (Nat.le_of_ble_eq_true rfl) ?_
  refine i_aload_n S dX7_init_4 rfl ?_
  refine i_bipush (v := 64) S dX7_init_5 bp_64 ?_
  obtain ⟨p1, e1, h⟩ := bn h
  refine i_newaqI (N := 64) S ac_int (by decide) (by decide) (by decide) e1 dX7_init_7 ?_
  obtain ⟨hk2, h⟩ := gd h
  refine i_putFR (x := some p1.1) S fl_X7_9 hk2 rfl rfl (fun C T h => ci_d7 h 1 (by decide)) rfl rfl dX7_init_9 ?_
  refine i_aload_n S dX7_init_12 rfl ?_
  refine i_null S dX7_init_13 ?_
  refine i_putR (x := none) S fl_X7_15 hk2 rfl rfl rfl dX7_init_14 ?_
  refine i_aload_n S dX7_init_17 rfl ?_
  refine i_aload_n S dX7_init_18 rfl ?_
  refine i_putFR (x := some o1) S fl_X7_18 hk2 rfl rfl (fun C T h => ci_d7 h 0 (by decide)) rfl rfl dX7_init_19 ?_
  cases h
  exact i_vret S0 dX7_init_22
/-! WordYear$Lexicon.all -/
noncomputable def f_X3_all  (w : Mm) : Option Int32 := some (((1 : Int32) <<< ((gI w 1 4) &&& 31)) - (1 : Int32))
set_option maxHeartbeats 4000000 in
set_option maxRecDepth 100000 in
theorem c_X3_all (g : Gx) (d : Nat)  {w : Mm} {p : Int32} (hL : Lay w) (h : f_X3_all w = some p) : Call g (d + 1) yX3_all cX3_all 1 (some .int) [rf g 1] w (some (.int p)) w := by
  refine call_of (L0 := [some (rf g 1)]) (by decide) rfl (Nat.le_of_ble_eq_true rfl) (fun V S0 => ?_)
  have S := S0.b
  unfold f_X3_all at h
  refine i_iconst (v := 1) S dX3_all_0 ic_1 ?_
  refine i_aload_n S dX3_all_1 rfl ?_
  refine i_getIv (v := gI w 1 4) S fl_X3_24 (k1 hL) rfl rfl dX3_all_2 ?_
  refine i_ishl S dX3_all_5 ?_
  refine i_iconst (v := 1) S dX3_all_6 ic_1 ?_
  refine i_isub S dX3_all_7 ?_
  cases h
  exact i_iret S0 rfl dX3_all_8
/-! WordYear$Lexicon.isPlain -/
noncomputable def f_X3_isPlain (x1 : Int32) (w : Mm) : Option Int32 := Option.bind (f_X3_all w) (fun p1 => if (f_X11_contains p1 x1) = 0 then (some (0 : Int32)) else (if inb x1 10 = true then (if (gI w 2 (ix x1)) = 0 then (some (1 : Int32)) else (some (0 : Int32))) else none))
set_option maxHeartbeats 4000000 in
set_option maxRecDepth 100000 in
theorem c_X3_isPlain (g : Gx) (d : Nat) {x1 : Int32} {w : Mm} {p : Int32} (hL : Lay w) (h : f_X3_isPlain x1 w = some p) : Call g (d + 2) yX3_isPlain cX3_isPlain 2 (some .boolean) [rf g 1, .int x1] w (some (.int p)) w := by
  refine call_of (L0 := [some (rf g 1), some (.int x1)]) (by decide) rfl (Nat.le_of_ble_eq_true rfl) (fun V S0 => ?_)
  have S := S0.b
  unfold f_X3_isPlain at h
  refine i_aload_n S dX3_isPlain_0 rfl ?_
  obtain ⟨p1, e1, h⟩ := bn h
  refine i_callV (As := []) (st1 := [.int p1]) S (c_X3_all g d hL e1) mw_X3_all lk_X3_42 im_X3_all se_X3_all ci_3.1 ci_3.2.1 (k1 hL) dX3_isPlain_1 rfl rfl (Nat.le_of_ble_eq_true rfl) rfl ?_
  refine i_iload_n S dX3_isPlain_4 rfl ?_
  refine i_callSN (As := [.int p1, .int x1]) (st1 := [.int (f_X11_contains p1 x1)]) S (c_X11_contains g d rfl) mw_X11_contains lk_X3_31 im_X11_contains dX3_isPlain_5 rfl rfl (Nat.le_of_ble_eq_true rfl) rfl ?_
  refine i_if_eq (tgt := 24) S dX3_isPlain_8 (by decide) (fun q2 => ?_) (fun q2 => ?_)
  · replace h := (if_pos q2).symm.trans h
    refine i_iconst (v := 0) S dX3_isPlain_24 ic_0 ?_
    cases h
    exact i_iret S0 rfl dX3_isPlain_25
  · replace h := (if_neg q2).symm.trans h
    refine i_aload_n S dX3_isPlain_11 rfl ?_
    refine i_getR S fl_X3_9 (k1 hL) (r1_0 hL) rfl dX3_isPlain_12 ?_
    refine i_iload_n S dX3_isPlain_15 rfl ?_
    obtain ⟨hi4, h⟩ := gd h
    refine i_ialdv (v := gI w 2 (ix x1)) S (k2 hL) hi4 rfl dX3_isPlain_16 ?_
    refine i_if_ne (tgt := 24) S dX3_isPlain_17 (by decide) (fun q5 => ?_) (fun q5 => ?_)
    · replace h := (if_neg q5).symm.trans h
      refine i_iconst (v := 0) S dX3_isPlain_24 ic_0 ?_
      cases h
      exact i_iret S0 rfl dX3_isPlain_25
    · replace h := (if_pos q5).symm.trans h
      refine i_iconst (v := 1) S dX3_isPlain_20 ic_1 ?_
      refine i_goto (tgt := 25) S dX3_isPlain_21 (by decide) ?_
      cases h
      exact i_iret S0 rfl dX3_isPlain_25
/-! WordYear$Lexicon.lengthOf -/
noncomputable def f_X3_lengthOf (x1 : Int32) (w : Mm) : Option Int32 := Option.bind (f_X3_all w) (fun p1 => if (f_X11_contains p1 x1) = 0 then (some (0 : Int32)) else (if inb x1 10 = true then (some (gI w 4 (ix x1))) else none))
set_option maxHeartbeats 4000000 in
set_option maxRecDepth 100000 in
theorem c_X3_lengthOf (g : Gx) (d : Nat) {x1 : Int32} {w : Mm} {p : Int32} (hL : Lay w) (h : f_X3_lengthOf x1 w = some p) : Call g (d + 2) yX3_lengthOf cX3_lengthOf 2 (some .int) [rf g 1, .int x1] w (some (.int p)) w := by
  refine call_of (L0 := [some (rf g 1), some (.int x1)]) (by decide) rfl (Nat.le_of_ble_eq_true rfl) (fun V S0 => ?_)
  have S := S0.b
  unfold f_X3_lengthOf at h
  refine i_aload_n S dX3_lengthOf_0 rfl ?_
  obtain ⟨p1, e1, h⟩ := bn h
  refine i_callV (As := []) (st1 := [.int p1]) S (c_X3_all g d hL e1) mw_X3_all lk_X3_42 im_X3_all se_X3_all ci_3.1 ci_3.2.1 (k1 hL) dX3_lengthOf_1 rfl rfl (Nat.le_of_ble_eq_true rfl) rfl ?_
  refine i_iload_n S dX3_lengthOf_4 rfl ?_
  refine i_callSN (As := [.int p1, .int x1]) (st1 := [.int (f_X11_contains p1 x1)]) S (c_X11_contains g d rfl) mw_X11_contains lk_X3_31 im_X11_contains dX3_lengthOf_5 rfl rfl (Nat.le_of_ble_eq_true rfl) rfl ?_
  refine i_if_eq (tgt := 20) S dX3_lengthOf_8 (by decide) (fun q2 => ?_) (fun q2 => ?_)
  · replace h := (if_pos q2).symm.trans h
    refine i_iconst (v := 0) S dX3_lengthOf_20 ic_0 ?_
    cases h
    exact i_iret S0 rfl dX3_lengthOf_21
  · replace h := (if_neg q2).symm.trans h
    refine i_aload_n S dX3_lengthOf_11 rfl ?_
    refine i_getR S fl_X3_18 (k1 hL) (r1_2 hL) rfl dX3_lengthOf_12 ?_
    refine i_iload_n S dX3_lengthOf_15 rfl ?_
    obtain ⟨hi4, h⟩ := gd h
    refine i_ialdv (v := gI w 4 (ix x1)) S (k4 hL) hi4 rfl dX3_lengthOf_16 ?_
    refine i_goto (tgt := 21) S dX3_lengthOf_17 (by decide) ?_
    cases h
    exact i_iret S0 rfl dX3_lengthOf_21
/-! WordYear$Lexicon.shortestOf -/
noncomputable def l_X3_shortestOf_9 (x1 : Int32) (x2 : Int32) (w : Mm) (s : Int32 × Int32 × Int32) : Option ((Int32 × Int32 × Int32) ⊕ (Int32)) := if (10 : Int32) ≤ s.2.2 then (some (.inr s.1)) else (Option.bind (if (f_X11_contains x2 s.2.2) = 0 then (some (s.1, s.2.1)) else (if inb s.2.2 10 = true then (if (gI w 2 (ix s.2.2)) = x1 then (if s.2.1 ≤ (gI w 4 (ix s.2.2)) then (some (s.1, s.2.1)) else (some (s.2.2, gI w 4 (ix s.2.2)))) else (some (s.1, s.2.1))) else none)) (fun p3 => some (.inl (p3.1, p3.2, s.2.2 + (1 : Int32)))))
noncomputable def f_X3_shortestOf (x1 : Int32) (x2 : Int32) (w : Mm) : Option Int32 := Option.bind (wh (l_X3_shortestOf_9 x1 x2 w) FUEL ((-1 : Int32), (268435456 : Int32), (0 : Int32))) (fun p1 => some p1)
set_option maxHeartbeats 4000000 in
set_option maxRecDepth 100000 in
theorem t_l_X3_shortestOf_9 {g : Gx} {V : Vt} {d : Nat} (S : MachB g yX3_shortestOf cX3_shortestOf 6 (d + 1) V) {x1 : Int32} {x2 : Int32} {w : Mm} (hL : Lay w) (s : Int32 × Int32 × Int32) (e : (Int32 × Int32 × Int32) ⊕ (Int32)) (h : l_X3_shortestOf_9 x1 x2 w s = some e) (hC : ∀ s2, e = .inl s2 → V 9 [some (rf g 1), some (.int x1), some (.int x2), some (.int s2.1), some (.int s2.2.1), some (.int s2.2.2)] [] w) (hE : ∀ x, e = .inr x → V 66 [none, none, none, some (.int x), none, none] [] w) : V 9 [some (rf g 1), some (.int x1), some (.int x2), some (.int s.1), some (.int s.2.1), some (.int s.2.2)] [] w := by
  unfold l_X3_shortestOf_9 at h
  refine i_iload S dX3_shortestOf_9 rfl ?_
  refine i_bipush (v := 10) S dX3_shortestOf_11 bp_10 ?_
  refine i_icmp_ge (tgt := 66) S dX3_shortestOf_13 (by decide) (fun q1 => ?_) (fun q1 => ?_)
  · replace h := (if_pos q1).symm.trans h
    refine i_mask (L1 := [none, none, none, some (.int s.1), none, none]) S [false, false, false, true, false, false] rfl ?_
    have hz := hE _ (Option.some.inj h).symm
    exact hz
  · replace h := (if_neg q1).symm.trans h
    refine i_iload_n S dX3_shortestOf_16 rfl ?_
    refine i_iload S dX3_shortestOf_17 rfl ?_
    refine i_callSN (As := [.int x2, .int s.2.2]) (st1 := [.int (f_X11_contains x2 s.2.2)]) S (c_X11_contains g d rfl) mw_X11_contains lk_X3_31 im_X11_contains dX3_shortestOf_19 rfl rfl (Nat.le_of_ble_eq_true rfl) rfl ?_
    obtain ⟨p3, e3, h⟩ := bn h
    have hj3 : ∀ q3, p3 = q3 → V 60 [some (rf g 1), some (.int x1), some (.int x2), some (.int q3.1), some (.int q3.2), some (.int s.2.2)] [] w := by
      intro q3 hq3
      subst hq3
      refine i_iinc (L1 := [some (rf g 1), some (.int x1), some (.int x2), some (.int p3.1), some (.int p3.2), some (.int (s.2.2 + (1 : Int32)))]) S dX3_shortestOf_60 rfl ic_1 (by decide) rfl ?_
      refine i_goto (tgt := 9) S dX3_shortestOf_63 (by decide) ?_
      have hz := hC _ (Option.some.inj h).symm
      exact hz
    replace h := e3
    clear e3
    refine i_if_eq (tgt := 60) S dX3_shortestOf_22 (by decide) (fun q2 => ?_) (fun q2 => ?_)
    · replace h := (if_pos q2).symm.trans h
      have hz := hj3 _ (Option.some.inj h).symm
      exact hz
    · replace h := (if_neg q2).symm.trans h
      refine i_aload_n S dX3_shortestOf_25 rfl ?_
      refine i_getR S fl_X3_9 (k1 hL) (r1_0 hL) rfl dX3_shortestOf_26 ?_
      refine i_iload S dX3_shortestOf_29 rfl ?_
      obtain ⟨hi5, h⟩ := gd h
      refine i_ialdv (v := gI w 2 (ix s.2.2)) S (k2 hL) hi5 rfl dX3_shortestOf_31 ?_
      refine i_iload_n S dX3_shortestOf_32 rfl ?_
      refine i_icmp_ne (tgt := 60) S dX3_shortestOf_33 (by decide) (fun q6 => ?_) (fun q6 => ?_)
      · replace h := (if_neg q6).symm.trans h
        have hz := hj3 _ (Option.some.inj h).symm
        exact hz
      · replace h := (if_pos q6).symm.trans h
        refine i_aload_n S dX3_shortestOf_36 rfl ?_
        refine i_getR S fl_X3_18 (k1 hL) (r1_2 hL) rfl dX3_shortestOf_37 ?_
        refine i_iload S dX3_shortestOf_40 rfl ?_
        refine i_ialdv (v := gI w 4 (ix s.2.2)) S (k4 hL) hi5 rfl dX3_shortestOf_42 ?_
        refine i_iload S dX3_shortestOf_43 rfl ?_
        refine i_icmp_ge (tgt := 60) S dX3_shortestOf_45 (by decide) (fun q8 => ?_) (fun q8 => ?_)
        · replace h := (if_pos q8).symm.trans h
          have hz := hj3 _ (Option.some.inj h).symm
          exact hz
        · replace h := (if_neg q8).symm.trans h
          refine i_iload S dX3_shortestOf_48 rfl ?_
          refine i_istore_n (L1 := [some (rf g 1), some (.int x1), some (.int x2), some (.int s.2.2), some (.int s.2.1), some (.int s.2.2)]) S dX3_shortestOf_50 (by decide) rfl ?_
          refine i_aload_n S dX3_shortestOf_51 rfl ?_
          refine i_getR S fl_X3_18 (k1 hL) (r1_2 hL) rfl dX3_shortestOf_52 ?_
          refine i_iload S dX3_shortestOf_55 rfl ?_
          refine i_ialdv (v := gI w 4 (ix s.2.2)) S (k4 hL) hi5 rfl dX3_shortestOf_57 ?_
          refine i_istore (L1 := [some (rf g 1), some (.int x1), some (.int x2), some (.int s.2.2), some (.int (gI w 4 (ix s.2.2))), some (.int s.2.2)]) S dX3_shortestOf_58 (by decide) rfl ?_
          have hz := hj3 _ (Option.some.inj h).symm
          exact hz
set_option maxHeartbeats 4000000 in
set_option maxRecDepth 100000 in
theorem c_X3_shortestOf (g : Gx) (d : Nat) {x1 : Int32} {x2 : Int32} {w : Mm} {p : Int32} (hL : Lay w) (h : f_X3_shortestOf x1 x2 w = some p) : Call g (d + 2) yX3_shortestOf cX3_shortestOf 6 (some .int) [rf g 1, .int x1, .int x2] w (some (.int p)) w := by
  refine call_of (L0 := [some (rf g 1), some (.int x1), some (.int x2), none, none, none]) (by decide) rfl (Nat.le_of_ble_eq_true rfl) (fun V S0 => ?_)
  have S := S0.b
  unfold f_X3_shortestOf at h
  refine i_iconst (v := -1) S dX3_shortestOf_0 ic_m1 ?_
  refine i_istore_n (L1 := [some (rf g 1), some (.int x1), some (.int x2), some (.int ((-1 : Int32))), none, none]) S dX3_shortestOf_1 (by decide) rfl ?_
  refine i_ldc S kc_X3_50 dX3_shortestOf_2 ?_
  refine i_istore (L1 := [some (rf g 1), some (.int x1), some (.int x2), some (.int ((-1 : Int32))), some (.int ((268435456 : Int32))), none]) S dX3_shortestOf_4 (by decide) rfl ?_
  refine i_iconst (v := 0) S dX3_shortestOf_6 ic_0 ?_
  refine i_istore (L1 := [some (rf g 1), some (.int x1), some (.int x2), some (.int ((-1 : Int32))), some (.int ((268435456 : Int32))), some (.int ((0 : Int32)))]) S dX3_shortestOf_7 (by decide) rfl ?_
  obtain ⟨p1, e1, h⟩ := bn h
  have hE1 : V 66 [none, none, none, some (.int p1), none, none] [] w := by
    refine i_iload_n S dX3_shortestOf_66 rfl ?_
    cases h
    exact i_iret S0 rfl dX3_shortestOf_67
  exact wh_V (P := fun sv1 => V 9 [some (rf g 1), some (.int x1), some (.int x2), some (.int sv1.1), some (.int sv1.2.1), some (.int sv1.2.2)] [] w) (E := fun xv1 => V 66 [none, none, none, some (.int xv1), none, none] [] w) (fun sv1 ev hb hc he => t_l_X3_shortestOf_9 (w := w)  S hL sv1 ev hb hc he) FUEL _ _ e1 hE1
/-! WordYear$Lexicon.joinLength -/
noncomputable def f_X3_joinLength (x1 : Int32) (x2 : Int32) (w : Mm) : Option Int32 := Option.bind (f_X3_shortestOf x1 x2 w) (fun p1 => Option.bind (f_X3_lengthOf p1 w) (fun p2 => some p2))
set_option maxHeartbeats 4000000 in
set_option maxRecDepth 100000 in
theorem c_X3_joinLength (g : Gx) (d : Nat) {x1 : Int32} {x2 : Int32} {w : Mm} {p : Int32} (hL : Lay w) (h : f_X3_joinLength x1 x2 w = some p) : Call g (d + 3) yX3_joinLength cX3_joinLength 3 (some .int) [rf g 1, .int x1, .int x2] w (some (.int p)) w := by
  refine call_of (L0 := [some (rf g 1), some (.int x1), some (.int x2)]) (by decide) rfl (Nat.le_of_ble_eq_true rfl) (fun V S0 => ?_)
  have S := S0.b
  unfold f_X3_joinLength at h
  refine i_aload_n S dX3_joinLength_0 rfl ?_
  refine i_aload_n S dX3_joinLength_1 rfl ?_
  refine i_iload_n S dX3_joinLength_2 rfl ?_
  refine i_iload_n S dX3_joinLength_3 rfl ?_
  obtain ⟨p1, e1, h⟩ := bn h
  refine i_callV (As := [.int x1, .int x2]) (st1 := [.int p1, rf g 1]) S (c_X3_shortestOf g d hL e1) mw_X3_shortestOf lk_X3_51 im_X3_shortestOf se_X3_shortestOf ci_3.1 ci_3.2.1 (k1 hL) dX3_joinLength_4 rfl rfl (Nat.le_of_ble_eq_true rfl) rfl ?_
  obtain ⟨p2, e2, h⟩ := bn h
  refine i_callV (As := [.int p1]) (st1 := [.int p2]) S (c_X3_lengthOf g d hL e2) mw_X3_lengthOf lk_X3_54 im_X3_lengthOf se_X3_lengthOf ci_3.1 ci_3.2.1 (k1 hL) dX3_joinLength_7 rfl rfl (Nat.le_of_ble_eq_true rfl) rfl ?_
  cases h
  exact i_iret S0 rfl dX3_joinLength_10
/-! WordYear$Lexicon.meaningOf -/
noncomputable def f_X3_meaningOf (x1 : Int32) (w : Mm) : Option Int32 := Option.bind (f_X3_all w) (fun p1 => if (f_X11_contains p1 x1) = 0 then (some (0 : Int32)) else (if inb x1 10 = true then (some ((gI w 3 (ix x1)) &&& (63 : Int32))) else none))
set_option maxHeartbeats 4000000 in
set_option maxRecDepth 100000 in
theorem c_X3_meaningOf (g : Gx) (d : Nat) {x1 : Int32} {w : Mm} {p : Int32} (hL : Lay w) (h : f_X3_meaningOf x1 w = some p) : Call g (d + 2) yX3_meaningOf cX3_meaningOf 2 (some .int) [rf g 1, .int x1] w (some (.int p)) w := by
  refine call_of (L0 := [some (rf g 1), some (.int x1)]) (by decide) rfl (Nat.le_of_ble_eq_true rfl) (fun V S0 => ?_)
  have S := S0.b
  unfold f_X3_meaningOf at h
  refine i_aload_n S dX3_meaningOf_0 rfl ?_
  obtain ⟨p1, e1, h⟩ := bn h
  refine i_callV (As := []) (st1 := [.int p1]) S (c_X3_all g d hL e1) mw_X3_all lk_X3_42 im_X3_all se_X3_all ci_3.1 ci_3.2.1 (k1 hL) dX3_meaningOf_1 rfl rfl (Nat.le_of_ble_eq_true rfl) rfl ?_
  refine i_iload_n S dX3_meaningOf_4 rfl ?_
  refine i_callSN (As := [.int p1, .int x1]) (st1 := [.int (f_X11_contains p1 x1)]) S (c_X11_contains g d rfl) mw_X11_contains lk_X3_31 im_X11_contains dX3_meaningOf_5 rfl rfl (Nat.le_of_ble_eq_true rfl) rfl ?_
  refine i_if_eq (tgt := 23) S dX3_meaningOf_8 (by decide) (fun q2 => ?_) (fun q2 => ?_)
  · replace h := (if_pos q2).symm.trans h
    refine i_iconst (v := 0) S dX3_meaningOf_23 ic_0 ?_
    cases h
    exact i_iret S0 rfl dX3_meaningOf_24
  · replace h := (if_neg q2).symm.trans h
    refine i_aload_n S dX3_meaningOf_11 rfl ?_
    refine i_getR S fl_X3_15 (k1 hL) (r1_1 hL) rfl dX3_meaningOf_12 ?_
    refine i_iload_n S dX3_meaningOf_15 rfl ?_
    obtain ⟨hi4, h⟩ := gd h
    refine i_ialdv (v := gI w 3 (ix x1)) S (k3 hL) hi4 rfl dX3_meaningOf_16 ?_
    refine i_bipush (v := 63) S dX3_meaningOf_17 bp_63 ?_
    refine i_iand S dX3_meaningOf_19 ?_
    refine i_goto (tgt := 24) S dX3_meaningOf_20 (by decide) ?_
    cases h
    exact i_iret S0 rfl dX3_meaningOf_24
/-! WordYear$Speech.offer -/
noncomputable def f_X7_offer (o0 : Nat) (x1 : Int32) (x2 : Int32) (w : Mm) : Option Mm := if inb (x1 &&& (63 : Int32)) 64 = true then (if (gI w (o0 + 1) (ix (x1 &&& (63 : Int32)))) ≤ x2 then (some w) else (some (sI w (o0 + 1) (ix (x1 &&& (63 : Int32))) x2))) else none
set_option maxHeartbeats 4000000 in
set_option maxRecDepth 100000 in
theorem c_X7_offer (g : Gx) (d : Nat) {o0 : Nat} {x1 : Int32} {x2 : Int32} {w : Mm} {p : Mm} (hL : Lay w) (ho0 : isSp w o0 = true) (h : f_X7_offer o0 x1 x2 w = some p) : Call g (d + 1) yX7_offer cX7_offer 3 none [rf g o0, .int x1, .int x2] w none p := by
  refine call_of (L0 := [some (rf g o0), some (.int x1), some (.int x2)]) (by decide) rfl (Nat.le_of_ble_eq_true rfl) (fun V S0 => ?_)
  have S := S0.b
  unfold f_X7_offer at h
  refine i_iload_n S dX7_offer_0 rfl ?_
  refine i_aload_n S dX7_offer_1 rfl ?_
  refine i_getR S fl_X7_9 (sp_k0 ho0) (sp_r1 ho0) rfl dX7_offer_2 ?_
  refine i_iload_n S dX7_offer_5 rfl ?_
  refine i_bipush (v := 63) S dX7_offer_6 bp_63 ?_
  refine i_iand S dX7_offer_8 ?_
  obtain ⟨hi2, h⟩ := gd h
  refine i_ialdv (v := gI w (o0 + 1) (ix (x1 &&& (63 : Int32)))) S (sp_k1 ho0) hi2 rfl dX7_offer_9 ?_
  refine i_icmp_ge (tgt := 23) S dX7_offer_10 (by decide) (fun q3 => ?_) (fun q3 => ?_)
  · replace h := (if_pos q3).symm.trans h
    cases h
    exact i_vret S0 dX7_offer_23
  · replace h := (if_neg q3).symm.trans h
    refine i_aload_n S dX7_offer_13 rfl ?_
    refine i_getR S fl_X7_9 (sp_k0 ho0) (sp_r1 ho0) rfl dX7_offer_14 ?_
    refine i_iload_n S dX7_offer_17 rfl ?_
    refine i_bipush (v := 63) S dX7_offer_18 bp_63 ?_
    refine i_iand S dX7_offer_20 ?_
    refine i_iload_n S dX7_offer_21 rfl ?_
    refine i_iast S (sp_k1 ho0) hi2 dX7_offer_22 ?_
    cases h
    exact i_vret S0 dX7_offer_23
/-! WordYear$Speech.settle -/
noncomputable def l_X7_settle_20 (o0 : Nat) (x1 : Int64) (x3 : Int32) (w : Mm) (s : Int32 × Int32 × Int32) : Option ((Int32 × Int32 × Int32) ⊕ (Int32 × Int32)) := if (64 : Int32) ≤ s.2.2 then (some (.inr (s.1, s.2.1))) else (if inb s.2.2 64 = true then (Option.bind (if s.2.1 ≤ (gI w (o0 + 1) (ix s.2.2)) then (some (s.1, s.2.1)) else (if ((x1 >>> (s.2.2.toInt64 &&& 63)) &&& (1 : Int64)) = (0 : Int64) then (some (s.2.2, gI w (o0 + 1) (ix s.2.2))) else (some (s.1, s.2.1)))) (fun p5 => some (.inl (p5.1, p5.2, s.2.2 + (1 : Int32))))) else none)
noncomputable def l_X7_settle_102 (o0 : Nat) (x1 : Int64) (x3 : Int32) (x4 : Int32) (x5 : Int32) (s : Int32 × Mm) : Option ((Int32 × Mm) ⊕ (Mm)) := if (64 : Int32) ≤ s.1 then (some (.inr s.2)) else (if isSp s.2 o0 = true then (if ((gI s.2 o0 4) + (gI s.2 o0 5)) ≤ 0 then (some (.inr s.2)) else (Option.bind (if ((x1 >>> (s.1.toInt64 &&& 63)) &&& (1 : Int64)) = (1 : Int64) then (if inb s.1 64 = true then (Option.bind (if (gI s.2 o0 4) ≤ 0 then (some (268435456 : Int32)) else (some ((x5 + (gI s.2 (o0 + 1) (ix s.1))) + (gI s.2 o0 4)))) (fun p9 => onL s.2 (Option.bind (f_X7_offer o0 (x4 &&& s.1) p9 s.2) (fun p11 => if isSp p11 o0 = true then (Option.bind (if (gI p11 o0 5) ≤ 0 then (some (268435456 : Int32)) else (some ((x5 + (gI s.2 (o0 + 1) (ix s.1))) + (gI p11 o0 5)))) (fun p14 => onL p11 (Option.bind (f_X7_offer o0 (x4 ||| s.1) p14 p11) (fun p16 => some p16)))) else none)))) else none) else (some s.2)) (fun p5 => some (.inl (s.1 + (1 : Int32), p5))))) else none)
noncomputable def l_X7_settle_4 (o0 : Nat) (s : Int64 × Int32 × Mm) : Option ((Int64 × Int32 × Mm) ⊕ (Nat × Mm)) := if (64 : Int32) ≤ s.2.1 then (some (.inr (0, s.2.2))) else (if isSp s.2.2 o0 = true then (onL s.2.2 (Option.bind (wh (l_X7_settle_20 o0 s.1 s.2.1 s.2.2) FUEL ((-1 : Int32), (268435456 : Int32), (0 : Int32))) (fun p4 => if p4.1 = (-1 : Int32) then (some (.inr (1, s.2.2))) else (Option.bind (if (gI s.2.2 o0 3) ≤ 0 then (some s.2.2) else (Option.bind (f_X7_offer o0 ((63 : Int32) ^^^ p4.1) (p4.2 + (gI s.2.2 o0 3)) s.2.2) (fun p9 => some p9))) (fun p7 => Option.bind (wh (l_X7_settle_102 o0 s.1 s.2.1 p4.1 p4.2) FUEL ((0 : Int32), p7)) (fun p8 => some (.inl (s.1 ||| ((1 : Int64) <<< (p4.1.toInt64 &&& 63)), s.2.1 + (1 : Int32), p8)))))))) else none)
noncomputable def f_X7_settle (o0 : Nat) (w : Mm) : Option Mm := Option.bind (wh (l_X7_settle_4 o0) FUEL ((0 : Int64), (0 : Int32), w)) (fun p1 => if p1.1 = 0 then (some p1.2) else (some p1.2))
set_option maxHeartbeats 4000000 in
set_option maxRecDepth 100000 in
theorem t_l_X7_settle_20 {g : Gx} {V : Vt} {d : Nat} (S : MachB g yX7_settle cX7_settle 8 (d + 1) V) {o0 : Nat} {x1 : Int64} {x3 : Int32} {w : Mm} (hL : Lay w) (ho0 : isSp w o0 = true) (s : Int32 × Int32 × Int32) (e : (Int32 × Int32 × Int32) ⊕ (Int32 × Int32)) (h : l_X7_settle_20 o0 x1 x3 w s = some e) (hC : ∀ s2, e = .inl s2 → V 20 [some (rf g o0), some (.long x1), none, some (.int x3), some (.int s2.1), some (.int s2.2.1), some (.int s2.2.2), none] [] w) (hE : ∀ x, e = .inr x → V 69 [some (rf g o0), some (.long x1), none, some (.int x3), some (.int x.1), some (.int x.2), none, none] [] w) : V 20 [some (rf g o0), some (.long x1), none, some (.int x3), some (.int s.1), some (.int s.2.1), some (.int s.2.2), none] [] w := by
  unfold l_X7_settle_20 at h
  refine i_iload S dX7_settle_20 rfl ?_
  refine i_bipush (v := 64) S dX7_settle_22 bp_64 ?_
  refine i_icmp_ge (tgt := 69) S dX7_settle_24 (by decide) (fun q1 => ?_) (fun q1 => ?_)
  · replace h := (if_pos q1).symm.trans h
    refine i_mask (L1 := [some (rf g o0), some (.long x1), none, some (.int x3), some (.int s.1), some (.int s.2.1), none, none]) S [true, true, false, true, true, true, false, false] rfl ?_
    have hz := hE _ (Option.some.inj h).symm
    exact hz
  · replace h := (if_neg q1).symm.trans h
    refine i_aload_n S dX7_settle_27 rfl ?_
    refine i_getR S fl_X7_9 (sp_k0 ho0) (sp_r1 ho0) rfl dX7_settle_28 ?_
    refine i_iload S dX7_settle_31 rfl ?_
    obtain ⟨hi3, h⟩ := gd h
    refine i_ialdv (v := gI w (o0 + 1) (ix s.2.2)) S (sp_k1 ho0) hi3 rfl dX7_settle_33 ?_
    refine i_iload S dX7_settle_34 rfl ?_
    obtain ⟨p5, e5, h⟩ := bn h
    have hj5 : ∀ q5, p5 = q5 → V 63 [some (rf g o0), some (.long x1), none, some (.int x3), some (.int q5.1), some (.int q5.2), some (.int s.2.2), none] [] w := by
      intro q5 hq5
      subst hq5
      refine i_iinc (L1 := [some (rf g o0), some (.long x1), none, some (.int x3), some (.int p5.1), some (.int p5.2), some (.int (s.2.2 + (1 : Int32))), none]) S dX7_settle_63 rfl ic_1 (by decide) rfl ?_
      refine i_goto (tgt := 20) S dX7_settle_66 (by decide) ?_
      have hz := hC _ (Option.some.inj h).symm
      exact hz
    replace h := e5
    clear e5
    refine i_icmp_ge (tgt := 63) S dX7_settle_36 (by decide) (fun q4 => ?_) (fun q4 => ?_)
    · replace h := (if_pos q4).symm.trans h
      have hz := hj5 _ (Option.some.inj h).symm
      exact hz
    · replace h := (if_neg q4).symm.trans h
      refine i_lload_n S dX7_settle_39 rfl ?_
      refine i_iload S dX7_settle_40 rfl ?_
      refine i_lshr S dX7_settle_42 ?_
      refine i_lconst (v := 1) S dX7_settle_43 lc_1 ?_
      refine i_land S dX7_settle_44 ?_
      refine i_lconst (v := 0) S dX7_settle_45 lc_0 ?_
      refine i_lc_ne (tgt := 63) S dX7_settle_46 dX7_settle_47 (by decide) (fun q6 => ?_) (fun q6 => ?_)
      · replace h := (if_neg q6).symm.trans h
        have hz := hj5 _ (Option.some.inj h).symm
        exact hz
      · replace h := (if_pos q6).symm.trans h
        refine i_iload S dX7_settle_50 rfl ?_
        refine i_istore (L1 := [some (rf g o0), some (.long x1), none, some (.int x3), some (.int s.2.2), some (.int s.2.1), some (.int s.2.2), none]) S dX7_settle_52 (by decide) rfl ?_
        refine i_aload_n S dX7_settle_54 rfl ?_
        refine i_getR S fl_X7_9 (sp_k0 ho0) (sp_r1 ho0) rfl dX7_settle_55 ?_
        refine i_iload S dX7_settle_58 rfl ?_
        refine i_ialdv (v := gI w (o0 + 1) (ix s.2.2)) S (sp_k1 ho0) hi3 rfl dX7_settle_60 ?_
        refine i_istore (L1 := [some (rf g o0), some (.long x1), none, some (.int x3), some (.int s.2.2), some (.int (gI w (o0 + 1) (ix s.2.2))), some (.int s.2.2), none]) S dX7_settle_61 (by decide) rfl ?_
        have hz := hj5 _ (Option.some.inj h).symm
        exact hz
set_option maxHeartbeats 4000000 in
set_option maxRecDepth 100000 in
theorem t_l_X7_settle_102 {g : Gx} {V : Vt} {d : Nat} (S : MachB g yX7_settle cX7_settle 8 (d + 1) V) {o0 : Nat} {x1 : Int64} {x3 : Int32} {x4 : Int32} {x5 : Int32}  (s : Int32 × Mm) (e : (Int32 × Mm) ⊕ (Mm)) (h : l_X7_settle_102 o0 x1 x3 x4 x5 s = some e) (hC : ∀ s2, e = .inl s2 → V 102 [some (rf g o0), some (.long x1), none, some (.int x3), some (.int x4), some (.int x5), some (.int s2.1), none] [] s2.2) (hE : ∀ x, e = .inr x → V 206 [some (rf g o0), some (.long x1), none, some (.int x3), some (.int x4), none, none, none] [] x) : V 102 [some (rf g o0), some (.long x1), none, some (.int x3), some (.int x4), some (.int x5), some (.int s.1), none] [] s.2 := by
  unfold l_X7_settle_102 at h
  refine i_iload S dX7_settle_102 rfl ?_
  refine i_bipush (v := 64) S dX7_settle_104 bp_64 ?_
  refine i_icmp_ge (tgt := 206) S dX7_settle_106 (by decide) (fun q1 => ?_) (fun q1 => ?_)
  · replace h := (if_pos q1).symm.trans h
    refine i_mask (L1 := [some (rf g o0), some (.long x1), none, some (.int x3), some (.int x4), none, none, none]) S [true, true, false, true, true, false, false, false] rfl ?_
    have hz := hE _ (Option.some.inj h).symm
    exact hz
  · replace h := (if_neg q1).symm.trans h
    refine i_aload_n S dX7_settle_109 rfl ?_
    obtain ⟨hs2, h⟩ := gd h
    refine i_getIv (v := gI s.2 o0 4) S fl_X7_59 (sp_k0 hs2) rfl rfl dX7_settle_110 ?_
    refine i_aload_n S dX7_settle_113 rfl ?_
    refine i_getIv (v := gI s.2 o0 5) S fl_X7_62 (sp_k0 hs2) rfl rfl dX7_settle_114 ?_
    refine i_iadd S dX7_settle_117 ?_
    refine i_if_le (tgt := 206) S dX7_settle_118 (by decide) (fun q3 => ?_) (fun q3 => ?_)
    · replace h := (if_pos q3).symm.trans h
      refine i_mask (L1 := [some (rf g o0), some (.long x1), none, some (.int x3), some (.int x4), none, none, none]) S [true, true, false, true, true, false, false, false] rfl ?_
      have hz := hE _ (Option.some.inj h).symm
      exact hz
    · replace h := (if_neg q3).symm.trans h
      refine i_lload_n S dX7_settle_121 rfl ?_
      refine i_iload S dX7_settle_122 rfl ?_
      refine i_lshr S dX7_settle_124 ?_
      refine i_lconst (v := 1) S dX7_settle_125 lc_1 ?_
      refine i_land S dX7_settle_126 ?_
      refine i_lconst (v := 1) S dX7_settle_127 lc_1 ?_
      obtain ⟨p5, e5, h⟩ := bn h
      have hj5 : ∀ q5, p5 = q5 → V 200 [some (rf g o0), some (.long x1), none, some (.int x3), some (.int x4), some (.int x5), some (.int s.1), none] [] q5 := by
        intro q5 hq5
        subst hq5
        refine i_iinc (L1 := [some (rf g o0), some (.long x1), none, some (.int x3), some (.int x4), some (.int x5), some (.int (s.1 + (1 : Int32))), none]) S dX7_settle_200 rfl ic_1 (by decide) rfl ?_
        refine i_goto (tgt := 102) S dX7_settle_203 (by decide) ?_
        have hz := hC _ (Option.some.inj h).symm
        exact hz
      replace h := e5
      clear e5
      refine i_lc_ne (tgt := 200) S dX7_settle_128 dX7_settle_129 (by decide) (fun q4 => ?_) (fun q4 => ?_)
      · replace h := (if_neg q4).symm.trans h
        have hz := hj5 _ (Option.some.inj h).symm
        exact hz
      · replace h := (if_pos q4).symm.trans h
        refine i_iload S dX7_settle_132 rfl ?_
        refine i_aload_n S dX7_settle_134 rfl ?_
        refine i_getR S fl_X7_9 (sp_k0 hs2) (sp_r1 hs2) rfl dX7_settle_135 ?_
        refine i_iload S dX7_settle_138 rfl ?_
        obtain ⟨hi7, h⟩ := gd h
        refine i_ialdv (v := gI s.2 (o0 + 1) (ix s.1)) S (sp_k1 hs2) hi7 rfl dX7_settle_140 ?_
        refine i_iadd S dX7_settle_141 ?_
        refine i_istore (L1 := [some (rf g o0), some (.long x1), none, some (.int x3), some (.int x4), some (.int x5), some (.int s.1), some (.int (x5 + (gI s.2 (o0 + 1) (ix s.1))))]) S dX7_settle_142 (by decide) rfl ?_
        refine i_aload_n S dX7_settle_144 rfl ?_
        refine i_iload S dX7_settle_145 rfl ?_
        refine i_iload S dX7_settle_147 rfl ?_
        refine i_iand S dX7_settle_149 ?_
        refine i_aload_n S dX7_settle_150 rfl ?_
        refine i_getIv (v := gI s.2 o0 4) S fl_X7_59 (sp_k0 hs2) rfl rfl dX7_settle_151 ?_
        obtain ⟨p9, e9, h⟩ := bn h
        have hj9 : ∀ q9, p9 = q9 → V 169 [some (rf g o0), some (.long x1), none, some (.int x3), some (.int x4), some (.int x5), some (.int s.1), some (.int (x5 + (gI s.2 (o0 + 1) (ix s.1))))] [.int q9, .int (x4 &&& s.1), rf g o0] s.2 := by
          intro q9 hq9
          subst hq9
          obtain ⟨hL10, h⟩ := onLn h
          obtain ⟨p11, e11, h⟩ := bn h
          refine i_callV (As := [.int (x4 &&& s.1), .int p9]) (st1 := []) S (c_X7_offer g d hL10 hs2 e11) mw_X7_offer lk_X7_48 im_X7_offer se_X7_offer ci_7.1 ci_7.2.1 (sp_k0 hs2) dX7_settle_169 rfl rfl (Nat.le_of_ble_eq_true rfl) rfl ?_
          refine i_aload_n S dX7_settle_172 rfl ?_
          refine i_iload S dX7_settle_173 rfl ?_
          refine i_iload S dX7_settle_175 rfl ?_
          refine i_ior S dX7_settle_177 ?_
          refine i_aload_n S dX7_settle_178 rfl ?_
          obtain ⟨hs12, h⟩ := gd h
          refine i_getIv (v := gI p11 o0 5) S fl_X7_62 (sp_k0 hs12) rfl rfl dX7_settle_179 ?_
          obtain ⟨p14, e14, h⟩ := bn h
          have hj14 : ∀ q14, p14 = q14 → V 197 [some (rf g o0), some (.long x1), none, some (.int x3), some (.int x4), some (.int x5), some (.int s.1), none] [.int q14, .int (x4 ||| s.1), rf g o0] p11 := by
            intro q14 hq14
            subst hq14
            obtain ⟨hL15, h⟩ := onLn h
            obtain ⟨p16, e16, h⟩ := bn h
            refine i_callV (As := [.int (x4 ||| s.1), .int p14]) (st1 := []) S (c_X7_offer g d hL15 hs12 e16) mw_X7_offer lk_X7_48 im_X7_offer se_X7_offer ci_7.1 ci_7.2.1 (sp_k0 hs12) dX7_settle_197 rfl rfl (Nat.le_of_ble_eq_true rfl) rfl ?_
            have hz := hj5 _ (Option.some.inj h).symm
            exact hz
          replace h := e14
          clear e14
          refine i_if_le (tgt := 195) S dX7_settle_182 (by decide) (fun q13 => ?_) (fun q13 => ?_)
          · replace h := (if_pos q13).symm.trans h
            refine i_ldc S kc_X7_30 dX7_settle_195 ?_
            refine i_mask (L1 := [some (rf g o0), some (.long x1), none, some (.int x3), some (.int x4), some (.int x5), some (.int s.1), none]) S [true, true, false, true, true, true, true, false] rfl ?_
            have hz := hj14 _ (Option.some.inj h).symm
            exact hz
          · replace h := (if_neg q13).symm.trans h
            refine i_iload S dX7_settle_185 rfl ?_
            refine i_aload_n S dX7_settle_187 rfl ?_
            refine i_getIv (v := gI p11 o0 5) S fl_X7_62 (sp_k0 hs12) rfl rfl dX7_settle_188 ?_
            refine i_iadd S dX7_settle_191 ?_
            refine i_goto (tgt := 197) S dX7_settle_192 (by decide) ?_
            refine i_mask (L1 := [some (rf g o0), some (.long x1), none, some (.int x3), some (.int x4), some (.int x5), some (.int s.1), none]) S [true, true, false, true, true, true, true, false] rfl ?_
            have hz := hj14 _ (Option.some.inj h).symm
            exact hz
        replace h := e9
        clear e9
        refine i_if_le (tgt := 167) S dX7_settle_154 (by decide) (fun q8 => ?_) (fun q8 => ?_)
        · replace h := (if_pos q8).symm.trans h
          refine i_ldc S kc_X7_30 dX7_settle_167 ?_
          have hz := hj9 _ (Option.some.inj h).symm
          exact hz
        · replace h := (if_neg q8).symm.trans h
          refine i_iload S dX7_settle_157 rfl ?_
          refine i_aload_n S dX7_settle_159 rfl ?_
          refine i_getIv (v := gI s.2 o0 4) S fl_X7_59 (sp_k0 hs2) rfl rfl dX7_settle_160 ?_
          refine i_iadd S dX7_settle_163 ?_
          refine i_goto (tgt := 169) S dX7_settle_164 (by decide) ?_
          have hz := hj9 _ (Option.some.inj h).symm
          exact hz
set_option maxHeartbeats 4000000 in
set_option maxRecDepth 100000 in
theorem t_l_X7_settle_4 {g : Gx} {V : Vt} {d : Nat} (S : MachB g yX7_settle cX7_settle 8 (d + 1) V) {o0 : Nat}  (s : Int64 × Int32 × Mm) (e : (Int64 × Int32 × Mm) ⊕ (Nat × Mm)) (h : l_X7_settle_4 o0 s = some e) (hC : ∀ s2, e = .inl s2 → V 4 [some (rf g o0), some (.long s2.1), none, some (.int s2.2.1), none, none, none, none] [] s2.2.2) (hE : ∀ x, e = .inr x → if x.1 = 0 then V 219 [none, none, none, none, none, none, none, none] [] x.2 else (V 75 [none, none, none, none, none, none, none, none] [] x.2)) : V 4 [some (rf g o0), some (.long s.1), none, some (.int s.2.1), none, none, none, none] [] s.2.2 := by
  unfold l_X7_settle_4 at h
  refine i_iload_n S dX7_settle_4 rfl ?_
  refine i_bipush (v := 64) S dX7_settle_5 bp_64 ?_
  refine i_icmp_ge (tgt := 219) S dX7_settle_7 (by decide) (fun q1 => ?_) (fun q1 => ?_)
  · replace h := (if_pos q1).symm.trans h
    refine i_mask (L1 := [none, none, none, none, none, none, none, none]) S [false, false, false, false, false, false, false, false] rfl ?_
    have hz := hE _ (Option.some.inj h).symm
    exact hz
  · replace h := (if_neg q1).symm.trans h
    refine i_iconst (v := -1) S dX7_settle_10 ic_m1 ?_
    refine i_istore (L1 := [some (rf g o0), some (.long s.1), none, some (.int s.2.1), some (.int ((-1 : Int32))), none, none, none]) S dX7_settle_11 (by decide) rfl ?_
    refine i_ldc S kc_X7_30 dX7_settle_13 ?_
    refine i_istore (L1 := [some (rf g o0), some (.long s.1), none, some (.int s.2.1), some (.int ((-1 : Int32))), some (.int ((268435456 : Int32))), none, none]) S dX7_settle_15 (by decide) rfl ?_
    refine i_iconst (v := 0) S dX7_settle_17 ic_0 ?_
    refine i_istore (L1 := [some (rf g o0), some (.long s.1), none, some (.int s.2.1), some (.int ((-1 : Int32))), some (.int ((268435456 : Int32))), some (.int ((0 : Int32))), none]) S dX7_settle_18 (by decide) rfl ?_
    obtain ⟨hs2, h⟩ := gd h
    obtain ⟨hL3, h⟩ := onLn h
    obtain ⟨p4, e4, h⟩ := bn h
    have hE4 : V 69 [some (rf g o0), some (.long s.1), none, some (.int s.2.1), some (.int p4.1), some (.int p4.2), none, none] [] s.2.2 := by
      refine i_iload S dX7_settle_69 rfl ?_
      refine i_iconst (v := -1) S dX7_settle_71 ic_m1 ?_
      refine i_icmp_ne (tgt := 76) S dX7_settle_72 (by decide) (fun q5 => ?_) (fun q5 => ?_)
      · replace h := (if_neg q5).symm.trans h
        refine i_aload_n S dX7_settle_76 rfl ?_
        refine i_getIv (v := gI s.2.2 o0 3) S fl_X7_56 (sp_k0 hs2) rfl rfl dX7_settle_77 ?_
        obtain ⟨p7, e7, h⟩ := bn h
        have hj7 : ∀ q7, p7 = q7 → V 99 [some (rf g o0), some (.long s.1), none, some (.int s.2.1), some (.int p4.1), some (.int p4.2), none, none] [] q7 := by
          intro q7 hq7
          subst hq7
          refine i_iconst (v := 0) S dX7_settle_99 ic_0 ?_
          refine i_istore (L1 := [some (rf g o0), some (.long s.1), none, some (.int s.2.1), some (.int p4.1), some (.int p4.2), some (.int ((0 : Int32))), none]) S dX7_settle_100 (by decide) rfl ?_
          obtain ⟨p8, e8, h⟩ := bn h
          have hE8 : V 206 [some (rf g o0), some (.long s.1), none, some (.int s.2.1), some (.int p4.1), none, none, none] [] p8 := by
            refine i_lload_n S dX7_settle_206 rfl ?_
            refine i_lconst (v := 1) S dX7_settle_207 lc_1 ?_
            refine i_iload S dX7_settle_208 rfl ?_
            refine i_lshl S dX7_settle_210 ?_
            refine i_lor S dX7_settle_211 ?_
            refine i_lstore_n (L1 := [some (rf g o0), some (.long (s.1 ||| ((1 : Int64) <<< (p4.1.toInt64 &&& 63)))), none, some (.int s.2.1), some (.int p4.1), none, none, none]) S dX7_settle_212 (by decide) rfl ?_
            refine i_iinc (L1 := [some (rf g o0), some (.long (s.1 ||| ((1 : Int64) <<< (p4.1.toInt64 &&& 63)))), none, some (.int (s.2.1 + (1 : Int32))), some (.int p4.1), none, none, none]) S dX7_settle_213 rfl ic_1 (by decide) rfl ?_
            refine i_goto (tgt := 4) S dX7_settle_216 (by decide) ?_
            refine i_mask (L1 := [some (rf g o0), some (.long (s.1 ||| ((1 : Int64) <<< (p4.1.toInt64 &&& 63)))), none, some (.int (s.2.1 + (1 : Int32))), none, none, none, none]) S [true, true, false, true, false, false, false, false] rfl ?_
            have hz := hC _ (Option.some.inj h).symm
            exact hz
          exact wh_V (P := fun sv8 => V 102 [some (rf g o0), some (.long s.1), none, some (.int s.2.1), some (.int p4.1), some (.int p4.2), some (.int sv8.1), none] [] sv8.2) (E := fun xv8 => V 206 [some (rf g o0), some (.long s.1), none, some (.int s.2.1), some (.int p4.1), none, none, none] [] xv8) (fun sv8 ev hb hc he => t_l_X7_settle_102   S  sv8 ev hb hc he) FUEL _ _ e8 hE8
        replace h := e7
        clear e7
        refine i_if_le (tgt := 99) S dX7_settle_80 (by decide) (fun q6 => ?_) (fun q6 => ?_)
        · replace h := (if_pos q6).symm.trans h
          have hz := hj7 _ (Option.some.inj h).symm
          exact hz
        · replace h := (if_neg q6).symm.trans h
          refine i_aload_n S dX7_settle_83 rfl ?_
          refine i_bipush (v := 63) S dX7_settle_84 bp_63 ?_
          refine i_iload S dX7_settle_86 rfl ?_
          refine i_ixor S dX7_settle_88 ?_
          refine i_iload S dX7_settle_89 rfl ?_
          refine i_aload_n S dX7_settle_91 rfl ?_
          refine i_getIv (v := gI s.2.2 o0 3) S fl_X7_56 (sp_k0 hs2) rfl rfl dX7_settle_92 ?_
          refine i_iadd S dX7_settle_95 ?_
          obtain ⟨p9, e9, h⟩ := bn h
          refine i_callV (As := [.int ((63 : Int32) ^^^ p4.1), .int (p4.2 + (gI s.2.2 o0 3))]) (st1 := []) S (c_X7_offer g d hL3 hs2 e9) mw_X7_offer lk_X7_48 im_X7_offer se_X7_offer ci_7.1 ci_7.2.1 (sp_k0 hs2) dX7_settle_96 rfl rfl (Nat.le_of_ble_eq_true rfl) rfl ?_
          have hz := hj7 _ (Option.some.inj h).symm
          exact hz
      · replace h := (if_pos q5).symm.trans h
        refine i_mask (L1 := [none, none, none, none, none, none, none, none]) S [false, false, false, false, false, false, false, false] rfl ?_
        have hz := hE _ (Option.some.inj h).symm
        exact hz
    exact wh_V (P := fun sv4 => V 20 [some (rf g o0), some (.long s.1), none, some (.int s.2.1), some (.int sv4.1), some (.int sv4.2.1), some (.int sv4.2.2), none] [] s.2.2) (E := fun xv4 => V 69 [some (rf g o0), some (.long s.1), none, some (.int s.2.1), some (.int xv4.1), some (.int xv4.2), none, none] [] s.2.2) (fun sv4 ev hb hc he => t_l_X7_settle_20 (w := s.2.2)  S hL3 hs2 sv4 ev hb hc he) FUEL _ _ e4 hE4
set_option maxHeartbeats 4000000 in
set_option maxRecDepth 100000 in
theorem c_X7_settle (g : Gx) (d : Nat) {o0 : Nat} {w : Mm} {p : Mm} (hL : Lay w) (ho0 : isSp w o0 = true) (h : f_X7_settle o0 w = some p) : Call g (d + 2) yX7_settle cX7_settle 8 none [rf g o0] w none p := by
  refine call_of (L0 := [some (rf g o0), none, none, none, none, none, none, none]) (by decide) rfl (Nat.le_of_ble_eq_true rfl) (fun V S0 => ?_)
  have S := S0.b
  unfold f_X7_settle at h
  refine i_lconst (v := 0) S dX7_settle_0 lc_0 ?_
  refine i_lstore_n (L1 := [some (rf g o0), some (.long ((0 : Int64))), none, none, none, none, none, none]) S dX7_settle_1 (by decide) rfl ?_
  refine i_iconst (v := 0) S dX7_settle_2 ic_0 ?_
  refine i_istore_n (L1 := [some (rf g o0), some (.long ((0 : Int64))), none, some (.int ((0 : Int32))), none, none, none, none]) S dX7_settle_3 (by decide) rfl ?_
  obtain ⟨p1, e1, h⟩ := bn h
  have hE1 : if p1.1 = 0 then V 219 [none, none, none, none, none, none, none, none] [] p1.2 else (V 75 [none, none, none, none, none, none, none, none] [] p1.2) := by
    by_cases hx1_0 : p1.1 = 0
    · rw [if_pos hx1_0]
      replace h := (if_pos hx1_0).symm.trans h
      cases h
      exact i_vret S0 dX7_settle_219
    · rw [if_neg hx1_0]
      replace h := (if_neg hx1_0).symm.trans h
      cases h
      exact i_vret S0 dX7_settle_75
  exact wh_V (P := fun sv1 => V 4 [some (rf g o0), some (.long sv1.1), none, some (.int sv1.2.1), none, none, none, none] [] sv1.2.2) (E := fun xv1 => if xv1.1 = 0 then V 219 [none, none, none, none, none, none, none, none] [] xv1.2 else (V 75 [none, none, none, none, none, none, none, none] [] xv1.2)) (fun sv1 ev hb hc he => t_l_X7_settle_4   S  sv1 ev hb hc he) FUEL _ _ e1 hE1
/-! WordYear$Speech.solve -/
noncomputable def l_X7_solve_13 (o0 : Nat) (x2 : Int32) (x3 : Int32) (s : Int32 × Mm) : Option ((Int32 × Mm) ⊕ (Mm)) := if (64 : Int32) ≤ s.1 then (some (.inr s.2)) else (if isSp s.2 o0 = true then (if inb s.1 64 = true then (some (.inl (s.1 + (1 : Int32), sI s.2 (o0 + 1) (ix s.1) (268435456 : Int32)))) else none) else none)
noncomputable def l_X7_solve_38 (o0 : Nat) (x2 : Int32) (x3 : Int32) (s : Int32 × Mm) : Option ((Int32 × Mm) ⊕ (Mm)) := if (10 : Int32) ≤ s.1 then (some (.inr s.2)) else (if isSp s.2 o0 = true then (Option.bind (if (f_X11_contains (gI s.2 o0 2) s.1) = 0 then (some s.2) else (onL s.2 (Option.bind (f_X3_isPlain s.1 s.2) (fun p6 => if p6 = 0 then (some s.2) else (Option.bind (f_X3_meaningOf s.1 s.2) (fun p8 => Option.bind (f_X3_lengthOf s.1 s.2) (fun p9 => Option.bind (f_X7_offer o0 p8 p9 s.2) (fun p10 => some p10)))))))) (fun p4 => some (.inl (s.1 + (1 : Int32), p4)))) else none)
noncomputable def f_X7_solve (o0 : Nat) (x1 : Int32) (x2 : Int32) (x3 : Int32) (w : Mm) : Option Mm := Option.bind (wh (l_X7_solve_13 o0 x2 x3) FUEL ((0 : Int32), sL (sI w o0 2 x1) o0 7 (0 : Int64))) (fun p1 => Option.bind (wh (l_X7_solve_38 o0 x2 x3) FUEL ((0 : Int32), p1)) (fun p2 => if isSp p2 o0 = true then (onL p2 (Option.bind (f_X7_offer o0 x2 x3 p2) (fun p5 => if isSp p5 o0 = true then (onL p5 (Option.bind (f_X3_joinLength (1 : Int32) (gI p5 o0 2) p5) (fun p8 => Option.bind (f_X3_joinLength (2 : Int32) (gI (sI p5 o0 3 p8) o0 2) (sI p5 o0 3 p8)) (fun p9 => Option.bind (f_X3_joinLength (3 : Int32) (gI (sI (sI p5 o0 3 p8) o0 4 p9) o0 2) (sI (sI p5 o0 3 p8) o0 4 p9)) (fun p10 => Option.bind (f_X7_settle o0 (sI (sI (sI p5 o0 3 p8) o0 4 p9) o0 5 p10)) (fun p11 => some p11)))))) else none))) else none))
set_option maxHeartbeats 4000000 in
set_option maxRecDepth 100000 in
theorem t_l_X7_solve_13 {g : Gx} {V : Vt} {d : Nat} (S : MachB g yX7_solve cX7_solve 5 (d + 3) V) {o0 : Nat} {x2 : Int32} {x3 : Int32}  (s : Int32 × Mm) (e : (Int32 × Mm) ⊕ (Mm)) (h : l_X7_solve_13 o0 x2 x3 s = some e) (hC : ∀ s2, e = .inl s2 → V 13 [some (rf g o0), none, some (.int x2), some (.int x3), some (.int s2.1)] [] s2.2) (hE : ∀ x, e = .inr x → V 35 [some (rf g o0), none, some (.int x2), some (.int x3), none] [] x) : V 13 [some (rf g o0), none, some (.int x2), some (.int x3), some (.int s.1)] [] s.2 := by
  unfold l_X7_solve_13 at h
  refine i_iload S dX7_solve_13 rfl ?_
  refine i_bipush (v := 64) S dX7_solve_15 bp_64 ?_
  refine i_icmp_ge (tgt := 35) S dX7_solve_17 (by decide) (fun q1 => ?_) (fun q1 => ?_)
  · replace h := (if_pos q1).symm.trans h
    refine i_mask (L1 := [some (rf g o0), none, some (.int x2), some (.int x3), none]) S [true, false, true, true, false] rfl ?_
    have hz := hE _ (Option.some.inj h).symm
    exact hz
  · replace h := (if_neg q1).symm.trans h
    refine i_aload_n S dX7_solve_20 rfl ?_
    obtain ⟨hs2, h⟩ := gd h
    refine i_getR S fl_X7_9 (sp_k0 hs2) (sp_r1 hs2) rfl dX7_solve_21 ?_
    refine i_iload S dX7_solve_24 rfl ?_
    refine i_ldc S kc_X7_30 dX7_solve_26 ?_
    obtain ⟨hi4, h⟩ := gd h
    refine i_iast S (sp_k1 hs2) hi4 dX7_solve_28 ?_
    refine i_iinc (L1 := [some (rf g o0), none, some (.int x2), some (.int x3), some (.int (s.1 + (1 : Int32)))]) S dX7_solve_29 rfl ic_1 (by decide) rfl ?_
    refine i_goto (tgt := 13) S dX7_solve_32 (by decide) ?_
    have hz := hC _ (Option.some.inj h).symm
    exact hz
set_option maxHeartbeats 4000000 in
set_option maxRecDepth 100000 in
theorem t_l_X7_solve_38 {g : Gx} {V : Vt} {d : Nat} (S : MachB g yX7_solve cX7_solve 5 (d + 3) V) {o0 : Nat} {x2 : Int32} {x3 : Int32}  (s : Int32 × Mm) (e : (Int32 × Mm) ⊕ (Mm)) (h : l_X7_solve_38 o0 x2 x3 s = some e) (hC : ∀ s2, e = .inl s2 → V 38 [some (rf g o0), none, some (.int x2), some (.int x3), some (.int s2.1)] [] s2.2) (hE : ∀ x, e = .inr x → V 97 [some (rf g o0), none, some (.int x2), some (.int x3), none] [] x) : V 38 [some (rf g o0), none, some (.int x2), some (.int x3), some (.int s.1)] [] s.2 := by
  unfold l_X7_solve_38 at h
  refine i_iload S dX7_solve_38 rfl ?_
  refine i_bipush (v := 10) S dX7_solve_40 bp_10 ?_
  refine i_icmp_ge (tgt := 97) S dX7_solve_42 (by decide) (fun q1 => ?_) (fun q1 => ?_)
  · replace h := (if_pos q1).symm.trans h
    refine i_mask (L1 := [some (rf g o0), none, some (.int x2), some (.int x3), none]) S [true, false, true, true, false] rfl ?_
    have hz := hE _ (Option.some.inj h).symm
    exact hz
  · replace h := (if_neg q1).symm.trans h
    refine i_aload_n S dX7_solve_45 rfl ?_
    obtain ⟨hs2, h⟩ := gd h
    refine i_getIv (v := gI s.2 o0 2) S fl_X7_22 (sp_k0 hs2) rfl rfl dX7_solve_46 ?_
    refine i_iload S dX7_solve_49 rfl ?_
    refine i_callSN (As := [.int (gI s.2 o0 2), .int s.1]) (st1 := [.int (f_X11_contains (gI s.2 o0 2) s.1)]) S (c_X11_contains g (d + 2) rfl) mw_X11_contains lk_X7_31 im_X11_contains dX7_solve_51 rfl rfl (Nat.le_of_ble_eq_true rfl) rfl ?_
    obtain ⟨p4, e4, h⟩ := bn h
    have hj4 : ∀ q4, p4 = q4 → V 91 [some (rf g o0), none, some (.int x2), some (.int x3), some (.int s.1)] [] q4 := by
      intro q4 hq4
      subst hq4
      refine i_iinc (L1 := [some (rf g o0), none, some (.int x2), some (.int x3), some (.int (s.1 + (1 : Int32)))]) S dX7_solve_91 rfl ic_1 (by decide) rfl ?_
      refine i_goto (tgt := 38) S dX7_solve_94 (by decide) ?_
      have hz := hC _ (Option.some.inj h).symm
      exact hz
    replace h := e4
    clear e4
    refine i_if_eq (tgt := 91) S dX7_solve_54 (by decide) (fun q3 => ?_) (fun q3 => ?_)
    · replace h := (if_pos q3).symm.trans h
      have hz := hj4 _ (Option.some.inj h).symm
      exact hz
    · replace h := (if_neg q3).symm.trans h
      refine i_aload_n S dX7_solve_57 rfl ?_
      refine i_getR S fl_X7_18 (sp_k0 hs2) (sp_r0 hs2) rfl dX7_solve_58 ?_
      refine i_iload S dX7_solve_61 rfl ?_
      obtain ⟨hL5, h⟩ := onLn h
      obtain ⟨p6, e6, h⟩ := bn h
      refine i_callV (As := [.int s.1]) (st1 := [.int p6]) S (c_X3_isPlain g (d + 1) hL5 e6) mw_X3_isPlain lk_X7_35 im_X3_isPlain se_X3_isPlain ci_3.1 ci_3.2.1 (k1 hL5) dX7_solve_63 rfl rfl (Nat.le_of_ble_eq_true rfl) rfl ?_
      refine i_if_eq (tgt := 91) S dX7_solve_66 (by decide) (fun q7 => ?_) (fun q7 => ?_)
      · replace h := (if_pos q7).symm.trans h
        have hz := hj4 _ (Option.some.inj h).symm
        exact hz
      · replace h := (if_neg q7).symm.trans h
        refine i_aload_n S dX7_solve_69 rfl ?_
        refine i_aload_n S dX7_solve_70 rfl ?_
        refine i_getR S fl_X7_18 (sp_k0 hs2) (sp_r0 hs2) rfl dX7_solve_71 ?_
        refine i_iload S dX7_solve_74 rfl ?_
        obtain ⟨p8, e8, h⟩ := bn h
        refine i_callV (As := [.int s.1]) (st1 := [.int p8, rf g o0]) S (c_X3_meaningOf g (d + 1) hL5 e8) mw_X3_meaningOf lk_X7_41 im_X3_meaningOf se_X3_meaningOf ci_3.1 ci_3.2.1 (k1 hL5) dX7_solve_76 rfl rfl (Nat.le_of_ble_eq_true rfl) rfl ?_
        refine i_aload_n S dX7_solve_79 rfl ?_
        refine i_getR S fl_X7_18 (sp_k0 hs2) (sp_r0 hs2) rfl dX7_solve_80 ?_
        refine i_iload S dX7_solve_83 rfl ?_
        obtain ⟨p9, e9, h⟩ := bn h
        refine i_callV (As := [.int s.1]) (st1 := [.int p9, .int p8, rf g o0]) S (c_X3_lengthOf g (d + 1) hL5 e9) mw_X3_lengthOf lk_X7_45 im_X3_lengthOf se_X3_lengthOf ci_3.1 ci_3.2.1 (k1 hL5) dX7_solve_85 rfl rfl (Nat.le_of_ble_eq_true rfl) rfl ?_
        obtain ⟨p10, e10, h⟩ := bn h
        refine i_callV (As := [.int p8, .int p9]) (st1 := []) S (c_X7_offer g (d + 2) hL5 hs2 e10) mw_X7_offer lk_X7_48 im_X7_offer se_X7_offer ci_7.1 ci_7.2.1 (sp_k0 hs2) dX7_solve_88 rfl rfl (Nat.le_of_ble_eq_true rfl) rfl ?_
        have hz := hj4 _ (Option.some.inj h).symm
        exact hz
set_option maxHeartbeats 4000000 in
set_option maxRecDepth 100000 in
theorem c_X7_solve (g : Gx) (d : Nat) {o0 : Nat} {x1 : Int32} {x2 : Int32} {x3 : Int32} {w : Mm} {p : Mm} (hL : Lay w) (ho0 : isSp w o0 = true) (h : f_X7_solve o0 x1 x2 x3 w = some p) : Call g (d + 4) yX7_solve cX7_solve 5 none [rf g o0, .int x1, .int x2, .int x3] w none p := by
  refine call_of (L0 := [some (rf g o0), some (.int x1), some (.int x2), some (.int x3), none]) (by decide) rfl (Nat.le_of_ble_eq_true rfl) (fun V S0 => ?_)
  have S := S0.b
  unfold f_X7_solve at h
  refine i_aload_n S dX7_solve_0 rfl ?_
  refine i_iload_n S dX7_solve_1 rfl ?_
  refine i_putI S fl_X7_22 (sp_k0 ho0) rfl rfl rfl dX7_solve_2 ?_
  refine i_aload_n S dX7_solve_5 rfl ?_
  refine i_lconst (v := 0) S dX7_solve_6 lc_0 ?_
  refine i_putL S fl_X7_26 (sp_k0 ho0) rfl rfl rfl dX7_solve_7 ?_
  refine i_iconst (v := 0) S dX7_solve_10 ic_0 ?_
  refine i_istore (L1 := [some (rf g o0), some (.int x1), some (.int x2), some (.int x3), some (.int ((0 : Int32)))]) S dX7_solve_11 (by decide) rfl ?_
  refine i_mask (L1 := [some (rf g o0), none, some (.int x2), some (.int x3), some (.int ((0 : Int32)))]) S [true, false, true, true, true] rfl ?_
  obtain ⟨p1, e1, h⟩ := bn h
  have hE1 : V 35 [some (rf g o0), none, some (.int x2), some (.int x3), none] [] p1 := by
    refine i_iconst (v := 0) S dX7_solve_35 ic_0 ?_
    refine i_istore (L1 := [some (rf g o0), none, some (.int x2), some (.int x3), some (.int ((0 : Int32)))]) S dX7_solve_36 (by decide) rfl ?_
    obtain ⟨p2, e2, h⟩ := bn h
    have hE2 : V 97 [some (rf g o0), none, some (.int x2), some (.int x3), none] [] p2 := by
      refine i_aload_n S dX7_solve_97 rfl ?_
      refine i_iload_n S dX7_solve_98 rfl ?_
      refine i_iload_n S dX7_solve_99 rfl ?_
      obtain ⟨hs3, h⟩ := gd h
      obtain ⟨hL4, h⟩ := onLn h
      obtain ⟨p5, e5, h⟩ := bn h
      refine i_callV (As := [.int x2, .int x3]) (st1 := []) S (c_X7_offer g (d + 2) hL4 hs3 e5) mw_X7_offer lk_X7_48 im_X7_offer se_X7_offer ci_7.1 ci_7.2.1 (sp_k0 hs3) dX7_solve_100 rfl rfl (Nat.le_of_ble_eq_true rfl) rfl ?_
      refine i_aload_n S dX7_solve_103 rfl ?_
      refine i_aload_n S dX7_solve_104 rfl ?_
      obtain ⟨hs6, h⟩ := gd h
      refine i_getR S fl_X7_18 (sp_k0 hs6) (sp_r0 hs6) rfl dX7_solve_105 ?_
      refine i_iconst (v := 1) S dX7_solve_108 ic_1 ?_
      refine i_aload_n S dX7_solve_109 rfl ?_
      refine i_getIv (v := gI p5 o0 2) S fl_X7_22 (sp_k0 hs6) rfl rfl dX7_solve_110 ?_
      obtain ⟨hL7, h⟩ := onLn h
      obtain ⟨p8, e8, h⟩ := bn h
      refine i_callV (As := [.int ((1 : Int32)), .int (gI p5 o0 2)]) (st1 := [.int p8, rf g o0]) S (c_X3_joinLength g d hL7 e8) mw_X3_joinLength lk_X7_52 im_X3_joinLength se_X3_joinLength ci_3.1 ci_3.2.1 (k1 hL7) dX7_solve_113 rfl rfl (Nat.le_of_ble_eq_true rfl) rfl ?_
      refine i_putI S fl_X7_56 (sp_k0 hs6) rfl rfl rfl dX7_solve_116 ?_
      refine i_aload_n S dX7_solve_119 rfl ?_
      refine i_aload_n S dX7_solve_120 rfl ?_
      refine i_getR S fl_X7_18 (sp_k0 hs6) (sp_r0 hs6) rfl dX7_solve_121 ?_
      refine i_iconst (v := 2) S dX7_solve_124 ic_2 ?_
      refine i_aload_n S dX7_solve_125 rfl ?_
      refine i_getIv (v := gI (sI p5 o0 3 p8) o0 2) S fl_X7_22 (sp_k0 hs6) rfl rfl dX7_solve_126 ?_
      obtain ⟨p9, e9, h⟩ := bn h
      refine i_callV (As := [.int ((2 : Int32)), .int (gI (sI p5 o0 3 p8) o0 2)]) (st1 := [.int p9, rf g o0]) S (c_X3_joinLength g d hL7 e9) mw_X3_joinLength lk_X7_52 im_X3_joinLength se_X3_joinLength ci_3.1 ci_3.2.1 (k1 hL7) dX7_solve_129 rfl rfl (Nat.le_of_ble_eq_true rfl) rfl ?_
      refine i_putI S fl_X7_59 (sp_k0 hs6) rfl rfl rfl dX7_solve_132 ?_
      refine i_aload_n S dX7_solve_135 rfl ?_
      refine i_aload_n S dX7_solve_136 rfl ?_
      refine i_getR S fl_X7_18 (sp_k0 hs6) (sp_r0 hs6) rfl dX7_solve_137 ?_
      refine i_iconst (v := 3) S dX7_solve_140 ic_3 ?_
      refine i_aload_n S dX7_solve_141 rfl ?_
      refine i_getIv (v := gI (sI (sI p5 o0 3 p8) o0 4 p9) o0 2) S fl_X7_22 (sp_k0 hs6) rfl rfl dX7_solve_142 ?_
      obtain ⟨p10, e10, h⟩ := bn h
      refine i_callV (As := [.int ((3 : Int32)), .int (gI (sI (sI p5 o0 3 p8) o0 4 p9) o0 2)]) (st1 := [.int p10, rf g o0]) S (c_X3_joinLength g d hL7 e10) mw_X3_joinLength lk_X7_52 im_X3_joinLength se_X3_joinLength ci_3.1 ci_3.2.1 (k1 hL7) dX7_solve_145 rfl rfl (Nat.le_of_ble_eq_true rfl) rfl ?_
      refine i_putI S fl_X7_62 (sp_k0 hs6) rfl rfl rfl dX7_solve_148 ?_
      refine i_aload_n S dX7_solve_151 rfl ?_
      obtain ⟨p11, e11, h⟩ := bn h
      refine i_callV (As := []) (st1 := []) S (c_X7_settle g (d + 1) hL7 hs6 e11) mw_X7_settle lk_X7_65 im_X7_settle se_X7_settle ci_7.1 ci_7.2.1 (sp_k0 hs6) dX7_solve_152 rfl rfl (Nat.le_of_ble_eq_true rfl) rfl ?_
      cases h
      exact i_vret S0 dX7_solve_155
    exact wh_V (P := fun sv2 => V 38 [some (rf g o0), none, some (.int x2), some (.int x3), some (.int sv2.1)] [] sv2.2) (E := fun xv2 => V 97 [some (rf g o0), none, some (.int x2), some (.int x3), none] [] xv2) (fun sv2 ev hb hc he => t_l_X7_solve_38   S  sv2 ev hb hc he) FUEL _ _ e2 hE2
  exact wh_V (P := fun sv1 => V 13 [some (rf g o0), none, some (.int x2), some (.int x3), some (.int sv1.1)] [] sv1.2) (E := fun xv1 => V 35 [some (rf g o0), none, some (.int x2), some (.int x3), none] [] xv1) (fun sv1 ev hb hc he => t_l_X7_solve_13   S  sv1 ev hb hc he) FUEL _ _ e1 hE1
/-! WordYear$Tongues.speech -/
noncomputable def f_X9_speech (x1 : Int32) (w : Mm) : Option (Nat × Mm) := if inb (x1 &&& (1023 : Int32)) 1024 = true then (onq (gR w 15 (ix (x1 &&& (1023 : Int32)))) (Option.bind (alq w 7 10) (fun p4 => Option.bind (f_X7_init p4.1 1 p4.2) (fun p5 => if isSp p5 p4.1 = true then (onL p5 (if gK p5 p4.1 = some (7, 10) then (Option.bind (f_X7_solve p4.1 (x1 &&& (1023 : Int32)) (0 : Int32) (268435456 : Int32) p5) (fun p9 => onL p9 (if gK p9 p4.1 = some (7, 10) then (some (p4.1, sR p9 15 (ix (x1 &&& (1023 : Int32))) (some p4.1))) else none))) else none)) else none))) (fun a3 => some (a3, w))) else none
set_option maxHeartbeats 4000000 in
set_option maxRecDepth 100000 in
theorem c_X9_speech (g : Gx) (d : Nat) {x1 : Int32} {w : Mm} {p : (Nat × Mm)} (hL : Lay w) (h : f_X9_speech x1 w = some p) : Call g (d + 5) yX9_speech cX9_speech 5 (some (.object "WordYear$Speech")) [rf g 14, .int x1] w (some (rf g p.1)) p.2 := by
  refine call_of (L0 := [some (rf g 14), some (.int x1), none, none, none]) (by decide) rfl (Nat.le_of_ble_eq_true rfl) (fun V S0 => ?_)
  have S := S0.b
  unfold f_X9_speech at h
  refine i_iload_n S dX9_speech_0 rfl ?_
  refine i_sipush (v := 1023) S dX9_speech_1 sp_1023 ?_
  refine i_iand S dX9_speech_4 ?_
  refine i_istore_n (L1 := [some (rf g 14), some (.int x1), some (.int (x1 &&& (1023 : Int32))), none, none]) S dX9_speech_5 (by decide) rfl ?_
  refine i_aload_n S dX9_speech_6 rfl ?_
  refine i_getR S fl_X9_11 (k14 hL) (r14_2 hL) rfl dX9_speech_7 ?_
  refine i_iload_n S dX9_speech_10 rfl ?_
  obtain ⟨hi2, h⟩ := gd h
  refine i_aald24 S (k15 hL) hi2 dX9_speech_11 (fun hq3 => ?_) (fun a3 hq3 => ?_)
  · replace h := onq_n hq3 h
    refine i_astore_nN (L1 := [some (rf g 14), some (.int x1), some (.int (x1 &&& (1023 : Int32))), some (.null), none]) S dX9_speech_12 (by decide) rfl ?_
    refine i_aload_nN S dX9_speech_13 rfl ?_
    refine i_ifnullN (tgt := 19) S dX9_speech_14 (by decide) ?_
    obtain ⟨p4, e4, h⟩ := bn h
    refine i_newq S CL_X9_9 e4 dX9_speech_19 ?_
    refine i_dup S dX9_speech_22 rfl ?_
    refine i_aload_n S dX9_speech_23 rfl ?_
    refine i_getR S fl_X9_24 (k14 (lay_alq e4 hL)) (r14_0 (lay_alq e4 hL)) rfl dX9_speech_24 ?_
    obtain ⟨p5, e5, h⟩ := bn h
    refine i_callI (As := [rf g 1]) (st1 := [rf g p4.1]) S (c_X7_init g (d + 3) e5) mw_X7_init rfl rfl lk_X9_32 im_X7_init dX9_speech_27 rfl rfl (Nat.le_of_ble_eq_true rfl) rfl ?_
    refine i_astore (L1 := [some (rf g 14), some (.int x1), some (.int (x1 &&& (1023 : Int32))), some (.null), some (rf g p4.1)]) S dX9_speech_30 (by decide) rfl ?_
    refine i_aload S dX9_speech_32 rfl ?_
    refine i_iload_n S dX9_speech_34 rfl ?_
    refine i_iconst (v := 0) S dX9_speech_35 ic_0 ?_
    refine i_ldc S kc_X9_47 dX9_speech_36 ?_
    obtain ⟨hs6, h⟩ := gd h
    obtain ⟨hL7, h⟩ := onLn h
    obtain ⟨hk8, h⟩ := gd h
    obtain ⟨p9, e9, h⟩ := bn h
    refine i_callV (As := [.int (x1 &&& (1023 : Int32)), .int ((0 : Int32)), .int ((268435456 : Int32))]) (st1 := []) S (c_X7_solve g d hL7 hs6 e9) mw_X7_solve lk_X9_48 im_X7_solve se_X7_solve ci_7.1 ci_7.2.1 hk8 dX9_speech_38 rfl rfl (Nat.le_of_ble_eq_true rfl) rfl ?_
    refine i_aload_n S dX9_speech_41 rfl ?_
    obtain ⟨hL10, h⟩ := onLn h
    refine i_getR S fl_X9_11 (k14 hL10) (r14_2 hL10) rfl dX9_speech_42 ?_
    refine i_iload_n S dX9_speech_45 rfl ?_
    refine i_aload S dX9_speech_46 rfl ?_
    obtain ⟨hk11, h⟩ := gd h
    refine i_aast24 S (k15 hL10) hk11 hi2 dX9_speech_48 ?_
    refine i_aload S dX9_speech_49 rfl ?_
    cases h
    exact i_aret S0 dX9_speech_51
  · replace h := onq_s hq3 h
    refine i_astore_n (L1 := [some (rf g 14), some (.int x1), some (.int (x1 &&& (1023 : Int32))), some (rf g a3), none]) S dX9_speech_12 (by decide) rfl ?_
    refine i_aload_n S dX9_speech_13 rfl ?_
    refine i_ifnull S dX9_speech_14 ?_
    refine i_aload_n S dX9_speech_17 rfl ?_
    cases h
    exact i_aret S0 dX9_speech_18
/-! java/lang/Integer.bitCount -/
noncomputable def f_J6_bitCount_0f7a4 (x0 : Int32) : Int32 := (((((((x0 - (((x0.toUInt32 >>> ((1 : Int32).toUInt32 &&& Int32.toUInt32 31)).toInt32) &&& (1431655765 : Int32))) &&& (858993459 : Int32)) + ((((x0 - (((x0.toUInt32 >>> ((1 : Int32).toUInt32 &&& Int32.toUInt32 31)).toInt32) &&& (1431655765 : Int32))).toUInt32 >>> ((2 : Int32).toUInt32 &&& Int32.toUInt32 31)).toInt32) &&& (858993459 : Int32))) + (((((x0 - (((x0.toUInt32 >>> ((1 : Int32).toUInt32 &&& Int32.toUInt32 31)).toInt32) &&& (1431655765 : Int32))) &&& (858993459 : Int32)) + ((((x0 - (((x0.toUInt32 >>> ((1 : Int32).toUInt32 &&& Int32.toUInt32 31)).toInt32) &&& (1431655765 : Int32))).toUInt32 >>> ((2 : Int32).toUInt32 &&& Int32.toUInt32 31)).toInt32) &&& (858993459 : Int32))).toUInt32 >>> ((4 : Int32).toUInt32 &&& Int32.toUInt32 31)).toInt32)) &&& (252645135 : Int32)) + (((((((x0 - (((x0.toUInt32 >>> ((1 : Int32).toUInt32 &&& Int32.toUInt32 31)).toInt32) &&& (1431655765 : Int32))) &&& (858993459 : Int32)) + ((((x0 - (((x0.toUInt32 >>> ((1 : Int32).toUInt32 &&& Int32.toUInt32 31)).toInt32) &&& (1431655765 : Int32))).toUInt32 >>> ((2 : Int32).toUInt32 &&& Int32.toUInt32 31)).toInt32) &&& (858993459 : Int32))) + (((((x0 - (((x0.toUInt32 >>> ((1 : Int32).toUInt32 &&& Int32.toUInt32 31)).toInt32) &&& (1431655765 : Int32))) &&& (858993459 : Int32)) + ((((x0 - (((x0.toUInt32 >>> ((1 : Int32).toUInt32 &&& Int32.toUInt32 31)).toInt32) &&& (1431655765 : Int32))).toUInt32 >>> ((2 : Int32).toUInt32 &&& Int32.toUInt32 31)).toInt32) &&& (858993459 : Int32))).toUInt32 >>> ((4 : Int32).toUInt32 &&& Int32.toUInt32 31)).toInt32)) &&& (252645135 : Int32)).toUInt32 >>> ((8 : Int32).toUInt32 &&& Int32.toUInt32 31)).toInt32)) + ((((((((x0 - (((x0.toUInt32 >>> ((1 : Int32).toUInt32 &&& Int32.toUInt32 31)).toInt32) &&& (1431655765 : Int32))) &&& (858993459 : Int32)) + ((((x0 - (((x0.toUInt32 >>> ((1 : Int32).toUInt32 &&& Int32.toUInt32 31)).toInt32) &&& (1431655765 : Int32))).toUInt32 >>> ((2 : Int32).toUInt32 &&& Int32.toUInt32 31)).toInt32) &&& (858993459 : Int32))) + (((((x0 - (((x0.toUInt32 >>> ((1 : Int32).toUInt32 &&& Int32.toUInt32 31)).toInt32) &&& (1431655765 : Int32))) &&& (858993459 : Int32)) + ((((x0 - (((x0.toUInt32 >>> ((1 : Int32).toUInt32 &&& Int32.toUInt32 31)).toInt32) &&& (1431655765 : Int32))).toUInt32 >>> ((2 : Int32).toUInt32 &&& Int32.toUInt32 31)).toInt32) &&& (858993459 : Int32))).toUInt32 >>> ((4 : Int32).toUInt32 &&& Int32.toUInt32 31)).toInt32)) &&& (252645135 : Int32)) + (((((((x0 - (((x0.toUInt32 >>> ((1 : Int32).toUInt32 &&& Int32.toUInt32 31)).toInt32) &&& (1431655765 : Int32))) &&& (858993459 : Int32)) + ((((x0 - (((x0.toUInt32 >>> ((1 : Int32).toUInt32 &&& Int32.toUInt32 31)).toInt32) &&& (1431655765 : Int32))).toUInt32 >>> ((2 : Int32).toUInt32 &&& Int32.toUInt32 31)).toInt32) &&& (858993459 : Int32))) + (((((x0 - (((x0.toUInt32 >>> ((1 : Int32).toUInt32 &&& Int32.toUInt32 31)).toInt32) &&& (1431655765 : Int32))) &&& (858993459 : Int32)) + ((((x0 - (((x0.toUInt32 >>> ((1 : Int32).toUInt32 &&& Int32.toUInt32 31)).toInt32) &&& (1431655765 : Int32))).toUInt32 >>> ((2 : Int32).toUInt32 &&& Int32.toUInt32 31)).toInt32) &&& (858993459 : Int32))).toUInt32 >>> ((4 : Int32).toUInt32 &&& Int32.toUInt32 31)).toInt32)) &&& (252645135 : Int32)).toUInt32 >>> ((8 : Int32).toUInt32 &&& Int32.toUInt32 31)).toInt32)).toUInt32 >>> ((16 : Int32).toUInt32 &&& Int32.toUInt32 31)).toInt32)) &&& (63 : Int32)
set_option maxHeartbeats 4000000 in
set_option maxRecDepth 100000 in
theorem c_J6_bitCount_0f7a4 (g : Gx) (d : Nat) {x0 : Int32} {w : Mm} {p : Int32}  (h : f_J6_bitCount_0f7a4 x0 = p) : Call g (d + 1) yJ6_bitCount_0f7a4 cJ6_bitCount_0f7a4 1 (some .int) [.int x0] w (some (.int p)) w := by
  refine call_of (L0 := [some (.int x0)]) (by decide) rfl (Nat.le_of_ble_eq_true rfl) (fun V S0 => ?_)
  have S := S0.b
  unfold f_J6_bitCount_0f7a4 at h
  refine i_iload_n S dJ6_bitCount_0f7a4_0 rfl ?_
  refine i_iload_n S dJ6_bitCount_0f7a4_1 rfl ?_
  refine i_iconst (v := 1) S dJ6_bitCount_0f7a4_2 ic_1 ?_
  refine i_iushr S dJ6_bitCount_0f7a4_3 ?_
  refine i_ldcw S kc_J6_265 dJ6_bitCount_0f7a4_4 ?_
  refine i_iand S dJ6_bitCount_0f7a4_7 ?_
  refine i_isub S dJ6_bitCount_0f7a4_8 ?_
  refine i_istore_n (L1 := [some (.int (x0 - (((x0.toUInt32 >>> ((1 : Int32).toUInt32 &&& Int32.toUInt32 31)).toInt32) &&& (1431655765 : Int32))))]) S dJ6_bitCount_0f7a4_9 (by decide) rfl ?_
  refine i_iload_n S dJ6_bitCount_0f7a4_10 rfl ?_
  refine i_ldcw S kc_J6_266 dJ6_bitCount_0f7a4_11 ?_
  refine i_iand S dJ6_bitCount_0f7a4_14 ?_
  refine i_iload_n S dJ6_bitCount_0f7a4_15 rfl ?_
  refine i_iconst (v := 2) S dJ6_bitCount_0f7a4_16 ic_2 ?_
  refine i_iushr S dJ6_bitCount_0f7a4_17 ?_
  refine i_ldcw S kc_J6_266 dJ6_bitCount_0f7a4_18 ?_
  refine i_iand S dJ6_bitCount_0f7a4_21 ?_
  refine i_iadd S dJ6_bitCount_0f7a4_22 ?_
  refine i_istore_n (L1 := [some (.int (((x0 - (((x0.toUInt32 >>> ((1 : Int32).toUInt32 &&& Int32.toUInt32 31)).toInt32) &&& (1431655765 : Int32))) &&& (858993459 : Int32)) + ((((x0 - (((x0.toUInt32 >>> ((1 : Int32).toUInt32 &&& Int32.toUInt32 31)).toInt32) &&& (1431655765 : Int32))).toUInt32 >>> ((2 : Int32).toUInt32 &&& Int32.toUInt32 31)).toInt32) &&& (858993459 : Int32))))]) S dJ6_bitCount_0f7a4_23 (by decide) rfl ?_
  refine i_iload_n S dJ6_bitCount_0f7a4_24 rfl ?_
  refine i_iload_n S dJ6_bitCount_0f7a4_25 rfl ?_
  refine i_iconst (v := 4) S dJ6_bitCount_0f7a4_26 ic_4 ?_
  refine i_iushr S dJ6_bitCount_0f7a4_27 ?_
  refine i_iadd S dJ6_bitCount_0f7a4_28 ?_
  refine i_ldcw S kc_J6_267 dJ6_bitCount_0f7a4_29 ?_
  refine i_iand S dJ6_bitCount_0f7a4_32 ?_
  refine i_istore_n (L1 := [some (.int (((((x0 - (((x0.toUInt32 >>> ((1 : Int32).toUInt32 &&& Int32.toUInt32 31)).toInt32) &&& (1431655765 : Int32))) &&& (858993459 : Int32)) + ((((x0 - (((x0.toUInt32 >>> ((1 : Int32).toUInt32 &&& Int32.toUInt32 31)).toInt32) &&& (1431655765 : Int32))).toUInt32 >>> ((2 : Int32).toUInt32 &&& Int32.toUInt32 31)).toInt32) &&& (858993459 : Int32))) + (((((x0 - (((x0.toUInt32 >>> ((1 : Int32).toUInt32 &&& Int32.toUInt32 31)).toInt32) &&& (1431655765 : Int32))) &&& (858993459 : Int32)) + ((((x0 - (((x0.toUInt32 >>> ((1 : Int32).toUInt32 &&& Int32.toUInt32 31)).toInt32) &&& (1431655765 : Int32))).toUInt32 >>> ((2 : Int32).toUInt32 &&& Int32.toUInt32 31)).toInt32) &&& (858993459 : Int32))).toUInt32 >>> ((4 : Int32).toUInt32 &&& Int32.toUInt32 31)).toInt32)) &&& (252645135 : Int32)))]) S dJ6_bitCount_0f7a4_33 (by decide) rfl ?_
  refine i_iload_n S dJ6_bitCount_0f7a4_34 rfl ?_
  refine i_iload_n S dJ6_bitCount_0f7a4_35 rfl ?_
  refine i_bipush (v := 8) S dJ6_bitCount_0f7a4_36 bp_8 ?_
  refine i_iushr S dJ6_bitCount_0f7a4_38 ?_
  refine i_iadd S dJ6_bitCount_0f7a4_39 ?_
  refine i_istore_n (L1 := [some (.int ((((((x0 - (((x0.toUInt32 >>> ((1 : Int32).toUInt32 &&& Int32.toUInt32 31)).toInt32) &&& (1431655765 : Int32))) &&& (858993459 : Int32)) + ((((x0 - (((x0.toUInt32 >>> ((1 : Int32).toUInt32 &&& Int32.toUInt32 31)).toInt32) &&& (1431655765 : Int32))).toUInt32 >>> ((2 : Int32).toUInt32 &&& Int32.toUInt32 31)).toInt32) &&& (858993459 : Int32))) + (((((x0 - (((x0.toUInt32 >>> ((1 : Int32).toUInt32 &&& Int32.toUInt32 31)).toInt32) &&& (1431655765 : Int32))) &&& (858993459 : Int32)) + ((((x0 - (((x0.toUInt32 >>> ((1 : Int32).toUInt32 &&& Int32.toUInt32 31)).toInt32) &&& (1431655765 : Int32))).toUInt32 >>> ((2 : Int32).toUInt32 &&& Int32.toUInt32 31)).toInt32) &&& (858993459 : Int32))).toUInt32 >>> ((4 : Int32).toUInt32 &&& Int32.toUInt32 31)).toInt32)) &&& (252645135 : Int32)) + (((((((x0 - (((x0.toUInt32 >>> ((1 : Int32).toUInt32 &&& Int32.toUInt32 31)).toInt32) &&& (1431655765 : Int32))) &&& (858993459 : Int32)) + ((((x0 - (((x0.toUInt32 >>> ((1 : Int32).toUInt32 &&& Int32.toUInt32 31)).toInt32) &&& (1431655765 : Int32))).toUInt32 >>> ((2 : Int32).toUInt32 &&& Int32.toUInt32 31)).toInt32) &&& (858993459 : Int32))) + (((((x0 - (((x0.toUInt32 >>> ((1 : Int32).toUInt32 &&& Int32.toUInt32 31)).toInt32) &&& (1431655765 : Int32))) &&& (858993459 : Int32)) + ((((x0 - (((x0.toUInt32 >>> ((1 : Int32).toUInt32 &&& Int32.toUInt32 31)).toInt32) &&& (1431655765 : Int32))).toUInt32 >>> ((2 : Int32).toUInt32 &&& Int32.toUInt32 31)).toInt32) &&& (858993459 : Int32))).toUInt32 >>> ((4 : Int32).toUInt32 &&& Int32.toUInt32 31)).toInt32)) &&& (252645135 : Int32)).toUInt32 >>> ((8 : Int32).toUInt32 &&& Int32.toUInt32 31)).toInt32)))]) S dJ6_bitCount_0f7a4_40 (by decide) rfl ?_
  refine i_iload_n S dJ6_bitCount_0f7a4_41 rfl ?_
  refine i_iload_n S dJ6_bitCount_0f7a4_42 rfl ?_
  refine i_bipush (v := 16) S dJ6_bitCount_0f7a4_43 bp_16 ?_
  refine i_iushr S dJ6_bitCount_0f7a4_45 ?_
  refine i_iadd S dJ6_bitCount_0f7a4_46 ?_
  refine i_istore_n (L1 := [some (.int (((((((x0 - (((x0.toUInt32 >>> ((1 : Int32).toUInt32 &&& Int32.toUInt32 31)).toInt32) &&& (1431655765 : Int32))) &&& (858993459 : Int32)) + ((((x0 - (((x0.toUInt32 >>> ((1 : Int32).toUInt32 &&& Int32.toUInt32 31)).toInt32) &&& (1431655765 : Int32))).toUInt32 >>> ((2 : Int32).toUInt32 &&& Int32.toUInt32 31)).toInt32) &&& (858993459 : Int32))) + (((((x0 - (((x0.toUInt32 >>> ((1 : Int32).toUInt32 &&& Int32.toUInt32 31)).toInt32) &&& (1431655765 : Int32))) &&& (858993459 : Int32)) + ((((x0 - (((x0.toUInt32 >>> ((1 : Int32).toUInt32 &&& Int32.toUInt32 31)).toInt32) &&& (1431655765 : Int32))).toUInt32 >>> ((2 : Int32).toUInt32 &&& Int32.toUInt32 31)).toInt32) &&& (858993459 : Int32))).toUInt32 >>> ((4 : Int32).toUInt32 &&& Int32.toUInt32 31)).toInt32)) &&& (252645135 : Int32)) + (((((((x0 - (((x0.toUInt32 >>> ((1 : Int32).toUInt32 &&& Int32.toUInt32 31)).toInt32) &&& (1431655765 : Int32))) &&& (858993459 : Int32)) + ((((x0 - (((x0.toUInt32 >>> ((1 : Int32).toUInt32 &&& Int32.toUInt32 31)).toInt32) &&& (1431655765 : Int32))).toUInt32 >>> ((2 : Int32).toUInt32 &&& Int32.toUInt32 31)).toInt32) &&& (858993459 : Int32))) + (((((x0 - (((x0.toUInt32 >>> ((1 : Int32).toUInt32 &&& Int32.toUInt32 31)).toInt32) &&& (1431655765 : Int32))) &&& (858993459 : Int32)) + ((((x0 - (((x0.toUInt32 >>> ((1 : Int32).toUInt32 &&& Int32.toUInt32 31)).toInt32) &&& (1431655765 : Int32))).toUInt32 >>> ((2 : Int32).toUInt32 &&& Int32.toUInt32 31)).toInt32) &&& (858993459 : Int32))).toUInt32 >>> ((4 : Int32).toUInt32 &&& Int32.toUInt32 31)).toInt32)) &&& (252645135 : Int32)).toUInt32 >>> ((8 : Int32).toUInt32 &&& Int32.toUInt32 31)).toInt32)) + ((((((((x0 - (((x0.toUInt32 >>> ((1 : Int32).toUInt32 &&& Int32.toUInt32 31)).toInt32) &&& (1431655765 : Int32))) &&& (858993459 : Int32)) + ((((x0 - (((x0.toUInt32 >>> ((1 : Int32).toUInt32 &&& Int32.toUInt32 31)).toInt32) &&& (1431655765 : Int32))).toUInt32 >>> ((2 : Int32).toUInt32 &&& Int32.toUInt32 31)).toInt32) &&& (858993459 : Int32))) + (((((x0 - (((x0.toUInt32 >>> ((1 : Int32).toUInt32 &&& Int32.toUInt32 31)).toInt32) &&& (1431655765 : Int32))) &&& (858993459 : Int32)) + ((((x0 - (((x0.toUInt32 >>> ((1 : Int32).toUInt32 &&& Int32.toUInt32 31)).toInt32) &&& (1431655765 : Int32))).toUInt32 >>> ((2 : Int32).toUInt32 &&& Int32.toUInt32 31)).toInt32) &&& (858993459 : Int32))).toUInt32 >>> ((4 : Int32).toUInt32 &&& Int32.toUInt32 31)).toInt32)) &&& (252645135 : Int32)) + (((((((x0 - (((x0.toUInt32 >>> ((1 : Int32).toUInt32 &&& Int32.toUInt32 31)).toInt32) &&& (1431655765 : Int32))) &&& (858993459 : Int32)) + ((((x0 - (((x0.toUInt32 >>> ((1 : Int32).toUInt32 &&& Int32.toUInt32 31)).toInt32) &&& (1431655765 : Int32))).toUInt32 >>> ((2 : Int32).toUInt32 &&& Int32.toUInt32 31)).toInt32) &&& (858993459 : Int32))) + (((((x0 - (((x0.toUInt32 >>> ((1 : Int32).toUInt32 &&& Int32.toUInt32 31)).toInt32) &&& (1431655765 : Int32))) &&& (858993459 : Int32)) + ((((x0 - (((x0.toUInt32 >>> ((1 : Int32).toUInt32 &&& Int32.toUInt32 31)).toInt32) &&& (1431655765 : Int32))).toUInt32 >>> ((2 : Int32).toUInt32 &&& Int32.toUInt32 31)).toInt32) &&& (858993459 : Int32))).toUInt32 >>> ((4 : Int32).toUInt32 &&& Int32.toUInt32 31)).toInt32)) &&& (252645135 : Int32)).toUInt32 >>> ((8 : Int32).toUInt32 &&& Int32.toUInt32 31)).toInt32)).toUInt32 >>> ((16 : Int32).toUInt32 &&& Int32.toUInt32 31)).toInt32)))]) S dJ6_bitCount_0f7a4_47 (by decide) rfl ?_
  refine i_iload_n S dJ6_bitCount_0f7a4_48 rfl ?_
  refine i_bipush (v := 63) S dJ6_bitCount_0f7a4_49 bp_63 ?_
  refine i_iand S dJ6_bitCount_0f7a4_51 ?_
  subst h
  exact i_iret S0 rfl dJ6_bitCount_0f7a4_52
/-! WordYear$NearLaw.joined -/
noncomputable def f_X4_joined (o0 : Nat) (x1 : Int32) (x2 : Int32) (x3 : Int32) (w : Mm) : Option (Int32 × Mm) := if x1 = 2 then (some (x2 + x3, w)) else (if x1 = 3 then (some (x2 - x3, w)) else (if x1 = 4 then (some (x2 * x3, w)) else (if x1 = 7 then (if x3 ≤ x2 then (some ((0 : Int32), w)) else (some ((1 : Int32), w))) else (if x1 = 8 then (if x2 ≤ x3 then (some ((0 : Int32), w)) else (some ((1 : Int32), w))) else (if x1 = 9 then (if x2 = x3 then (some ((1 : Int32), w)) else (some ((0 : Int32), w))) else (if x3 = 0 then (some ((0 : Int32), sI w o0 8 (1 : Int32))) else (if x1 = (5 : Int32) then (some (x2 / x3, w)) else (some (x2 - x2 / x3 * x3, w)))))))))
set_option maxHeartbeats 4000000 in
set_option maxRecDepth 100000 in
theorem c_X4_joined (g : Gx) (d : Nat) {o0 : Nat} {x1 : Int32} {x2 : Int32} {x3 : Int32} {w : Mm} {p : (Int32 × Mm)} (hL : Lay w) (ho0 : isNL o0 = true) (h : f_X4_joined o0 x1 x2 x3 w = some p) : Call g (d + 1) yX4_joined cX4_joined 4 (some .int) [rf g o0, .int x1, .int x2, .int x3] w (some (.int p.1)) p.2 := by
  refine call_of (L0 := [some (rf g o0), some (.int x1), some (.int x2), some (.int x3)]) (by decide) rfl (Nat.le_of_ble_eq_true rfl) (fun V S0 => ?_)
  have S := S0.b
  unfold f_X4_joined at h
  refine i_iload_n S dX4_joined_0 rfl ?_
  by_cases q1 : x1 = 2
  · replace h := (if_pos q1).symm.trans h
    refine i_tswIn (tgt := 48) (off := 47) S dX4_joined_1 (by rw [q1]; decide) (by rw [q1]; decide) (by rw [q1]; decide) (by decide) ?_
    refine i_iload_n S dX4_joined_48 rfl ?_
    refine i_iload_n S dX4_joined_49 rfl ?_
    refine i_iadd S dX4_joined_50 ?_
    cases h
    exact i_iret S0 rfl dX4_joined_51
  · replace h := (if_neg q1).symm.trans h
    by_cases q2 : x1 = 3
    · replace h := (if_pos q2).symm.trans h
      refine i_tswIn (tgt := 52) (off := 51) S dX4_joined_1 (by rw [q2]; decide) (by rw [q2]; decide) (by rw [q2]; decide) (by decide) ?_
      refine i_iload_n S dX4_joined_52 rfl ?_
      refine i_iload_n S dX4_joined_53 rfl ?_
      refine i_isub S dX4_joined_54 ?_
      cases h
      exact i_iret S0 rfl dX4_joined_55
    · replace h := (if_neg q2).symm.trans h
      by_cases q3 : x1 = 4
      · replace h := (if_pos q3).symm.trans h
        refine i_tswIn (tgt := 56) (off := 55) S dX4_joined_1 (by rw [q3]; decide) (by rw [q3]; decide) (by rw [q3]; decide) (by decide) ?_
        refine i_iload_n S dX4_joined_56 rfl ?_
        refine i_iload_n S dX4_joined_57 rfl ?_
        refine i_imul S dX4_joined_58 ?_
        cases h
        exact i_iret S0 rfl dX4_joined_59
      · replace h := (if_neg q3).symm.trans h
        by_cases q4 : x1 = 7
        · replace h := (if_pos q4).symm.trans h
          refine i_tswIn (tgt := 60) (off := 59) S dX4_joined_1 (by rw [q4]; decide) (by rw [q4]; decide) (by rw [q4]; decide) (by decide) ?_
          refine i_iload_n S dX4_joined_60 rfl ?_
          refine i_iload_n S dX4_joined_61 rfl ?_
          refine i_icmp_ge (tgt := 69) S dX4_joined_62 (by decide) (fun q5 => ?_) (fun q5 => ?_)
          · replace h := (if_pos q5).symm.trans h
            refine i_iconst (v := 0) S dX4_joined_69 ic_0 ?_
            cases h
            exact i_iret S0 rfl dX4_joined_70
          · replace h := (if_neg q5).symm.trans h
            refine i_iconst (v := 1) S dX4_joined_65 ic_1 ?_
            refine i_goto (tgt := 70) S dX4_joined_66 (by decide) ?_
            cases h
            exact i_iret S0 rfl dX4_joined_70
        · replace h := (if_neg q4).symm.trans h
          by_cases q6 : x1 = 8
          · replace h := (if_pos q6).symm.trans h
            refine i_tswIn (tgt := 71) (off := 70) S dX4_joined_1 (by rw [q6]; decide) (by rw [q6]; decide) (by rw [q6]; decide) (by decide) ?_
            refine i_iload_n S dX4_joined_71 rfl ?_
            refine i_iload_n S dX4_joined_72 rfl ?_
            refine i_icmp_le (tgt := 80) S dX4_joined_73 (by decide) (fun q7 => ?_) (fun q7 => ?_)
            · replace h := (if_pos q7).symm.trans h
              refine i_iconst (v := 0) S dX4_joined_80 ic_0 ?_
              cases h
              exact i_iret S0 rfl dX4_joined_81
            · replace h := (if_neg q7).symm.trans h
              refine i_iconst (v := 1) S dX4_joined_76 ic_1 ?_
              refine i_goto (tgt := 81) S dX4_joined_77 (by decide) ?_
              cases h
              exact i_iret S0 rfl dX4_joined_81
          · replace h := (if_neg q6).symm.trans h
            by_cases q8 : x1 = 9
            · replace h := (if_pos q8).symm.trans h
              refine i_tswIn (tgt := 82) (off := 81) S dX4_joined_1 (by rw [q8]; decide) (by rw [q8]; decide) (by rw [q8]; decide) (by decide) ?_
              refine i_iload_n S dX4_joined_82 rfl ?_
              refine i_iload_n S dX4_joined_83 rfl ?_
              refine i_icmp_ne (tgt := 91) S dX4_joined_84 (by decide) (fun q9 => ?_) (fun q9 => ?_)
              · replace h := (if_neg q9).symm.trans h
                refine i_iconst (v := 0) S dX4_joined_91 ic_0 ?_
                cases h
                exact i_iret S0 rfl dX4_joined_92
              · replace h := (if_pos q9).symm.trans h
                refine i_iconst (v := 1) S dX4_joined_87 ic_1 ?_
                refine i_goto (tgt := 92) S dX4_joined_88 (by decide) ?_
                cases h
                exact i_iret S0 rfl dX4_joined_92
            · replace h := (if_neg q8).symm.trans h
              refine i_tswD (tgt := 93) S dX4_joined_1 (by decide) (fun j hj => match j, hj with | 0, _ => Or.inr (tsne q1 (by decide)) | 1, _ => Or.inr (tsne q2 (by decide)) | 2, _ => Or.inr (tsne q3 (by decide)) | 3, _ => Or.inl rfl | 4, _ => Or.inl rfl | 5, _ => Or.inr (tsne q4 (by decide)) | 6, _ => Or.inr (tsne q6 (by decide)) | 7, _ => Or.inr (tsne q8 (by decide)) | j + 8, hj => absurd hj (by show ¬ j + 8 < 8; omega)) (by decide) ?_
              refine i_iload_n S dX4_joined_93 rfl ?_
              refine i_if_ne (tgt := 104) S dX4_joined_94 (by decide) (fun q10 => ?_) (fun q10 => ?_)
              · replace h := (if_neg q10).symm.trans h
                refine i_iload_n S dX4_joined_104 rfl ?_
                refine i_iconst (v := 5) S dX4_joined_105 ic_5 ?_
                refine i_icmp_ne (tgt := 115) S dX4_joined_106 (by decide) (fun q11 => ?_) (fun q11 => ?_)
                · replace h := (if_neg q11).symm.trans h
                  refine i_iload_n S dX4_joined_115 rfl ?_
                  refine i_iload_n S dX4_joined_116 rfl ?_
                  refine i_irem S dX4_joined_117 q10 ?_
                  cases h
                  exact i_iret S0 rfl dX4_joined_118
                · replace h := (if_pos q11).symm.trans h
                  refine i_iload_n S dX4_joined_109 rfl ?_
                  refine i_iload_n S dX4_joined_110 rfl ?_
                  refine i_idiv S dX4_joined_111 q10 ?_
                  refine i_goto (tgt := 118) S dX4_joined_112 (by decide) ?_
                  cases h
                  exact i_iret S0 rfl dX4_joined_118
              · replace h := (if_pos q10).symm.trans h
                refine i_aload_n S dX4_joined_97 rfl ?_
                refine i_iconst (v := 1) S dX4_joined_98 ic_1 ?_
                refine i_putI S fl_X4_56 (nl_k0 hL ho0) rfl rfl rfl dX4_joined_99 ?_
                refine i_iconst (v := 0) S dX4_joined_102 ic_0 ?_
                cases h
                exact i_iret S0 rfl dX4_joined_103
