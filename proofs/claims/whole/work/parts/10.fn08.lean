/-! WordYear$Years.cheapest -/
noncomputable def l_X10_cheapest_7 (x1 : Int32) (s : Int32 × Int64 × Int32 × Mm) : Option ((Int32 × Int64 × Int32 × Mm) ⊕ (Int32 × Mm)) := if (10 : Int32) ≤ s.2.2.1 then (some (.inr (s.1, s.2.2.2))) else (Option.bind (if (f_X11_contains x1 s.2.2.1) = 0 then (some (s.1, s.2.1, s.2.2.2)) else (onL s.2.2.2 (Option.bind (f_X9_speech (f_X11_without x1 s.2.2.1) s.2.2.2) (fun p5 => if isSp p5.2 p5.1 = true then (onL p5.2 (Option.bind (f_X9_yearly p5.1 (-1 : Int32) p5.2) (fun p8 => mg (if s.1 = (-1 : Int32) then (some (.inl ())) else (if s.2.1 ≤ p8.1 then (some (.inr (s.1, s.2.1, p8.2))) else (some (.inl ())))) (fun p10 => some (s.2.2.1, p8.1, p8.2))))) else none)))) (fun p3 => some (.inl (p3.1, p3.2.1, s.2.2.1 + (1 : Int32), p3.2.2))))
noncomputable def f_X10_cheapest (x1 : Int32) (w : Mm) : Option (Int32 × Mm) := Option.bind (wh (l_X10_cheapest_7 x1) FUEL ((-1 : Int32), (0 : Int64), (0 : Int32), w)) (fun p1 => some (p1.1, p1.2))
set_option maxHeartbeats 4000000 in
set_option maxRecDepth 100000 in
theorem t_l_X10_cheapest_7 {g : Gx} {V : Vt} {d : Nat} (S : MachB g yX10_cheapest cX10_cheapest 8 (d + 5) V) {x1 : Int32}  (s : Int32 × Int64 × Int32 × Mm) (e : (Int32 × Int64 × Int32 × Mm) ⊕ (Int32 × Mm)) (h : l_X10_cheapest_7 x1 s = some e) (hC : ∀ s2, e = .inl s2 → V 7 [some (rf g 44), some (.int x1), some (.int s2.1), some (.long s2.2.1), none, some (.int s2.2.2.1), none, none] [] s2.2.2.2) (hE : ∀ x, e = .inr x → V 70 [none, none, some (.int x.1), none, none, none, none, none] [] x.2) : V 7 [some (rf g 44), some (.int x1), some (.int s.1), some (.long s.2.1), none, some (.int s.2.2.1), none, none] [] s.2.2.2 := by
  unfold l_X10_cheapest_7 at h
  refine i_iload S dX10_cheapest_7 rfl ?_
  refine i_bipush (v := 10) S dX10_cheapest_9 bp_10 ?_
  refine i_icmp_ge (tgt := 70) S dX10_cheapest_11 (by decide) (fun q1 => ?_) (fun q1 => ?_)
  · replace h := (if_pos q1).symm.trans h
    refine i_mask (L1 := [none, none, some (.int s.1), none, none, none, none, none]) S [false, false, true, false, false, false, false, false] rfl ?_
    have hz := hE _ (Option.some.inj h).symm
    exact hz
  · replace h := (if_neg q1).symm.trans h
    refine i_iload_n S dX10_cheapest_14 rfl ?_
    refine i_iload S dX10_cheapest_15 rfl ?_
    refine i_callSN (As := [.int x1, .int s.2.2.1]) (st1 := [.int (f_X11_contains x1 s.2.2.1)]) S (c_X11_contains g (d + 4) rfl) mw_X11_contains lk_X10_19 im_X11_contains dX10_cheapest_17 rfl rfl (Nat.le_of_ble_eq_true rfl) rfl ?_
    obtain ⟨p3, e3, h⟩ := bn h
    have hj3 : ∀ q3, p3 = q3 → V 64 [some (rf g 44), some (.int x1), some (.int q3.1), some (.long q3.2.1), none, some (.int s.2.2.1), none, none] [] q3.2.2 := by
      intro q3 hq3
      subst hq3
      refine i_iinc (L1 := [some (rf g 44), some (.int x1), some (.int p3.1), some (.long p3.2.1), none, some (.int (s.2.2.1 + (1 : Int32))), none, none]) S dX10_cheapest_64 rfl ic_1 (by decide) rfl ?_
      refine i_goto (tgt := 7) S dX10_cheapest_67 (by decide) ?_
      have hz := hC _ (Option.some.inj h).symm
      exact hz
    replace h := e3
    clear e3
    refine i_if_eq (tgt := 64) S dX10_cheapest_20 (by decide) (fun q2 => ?_) (fun q2 => ?_)
    · replace h := (if_pos q2).symm.trans h
      have hz := hj3 _ (Option.some.inj h).symm
      exact hz
    · replace h := (if_neg q2).symm.trans h
      refine i_aload_n S dX10_cheapest_23 rfl ?_
      obtain ⟨hL4, h⟩ := onLn h
      refine i_getR S fl_X10_15 (k44 hL4) (r44_1 hL4) rfl dX10_cheapest_24 ?_
      refine i_aload_n S dX10_cheapest_27 rfl ?_
      refine i_getR S fl_X10_15 (k44 hL4) (r44_1 hL4) rfl dX10_cheapest_28 ?_
      refine i_iload_n S dX10_cheapest_31 rfl ?_
      refine i_iload S dX10_cheapest_32 rfl ?_
      refine i_callSN (As := [.int x1, .int s.2.2.1]) (st1 := [.int (f_X11_without x1 s.2.2.1), rf g 14, rf g 14]) S (c_X11_without g (d + 4) rfl) mw_X11_without lk_X10_23 im_X11_without dX10_cheapest_34 rfl rfl (Nat.le_of_ble_eq_true rfl) rfl ?_
      obtain ⟨p5, e5, h⟩ := bn h
      refine i_callV (As := [.int (f_X11_without x1 s.2.2.1)]) (st1 := [rf g p5.1, rf g 14]) S (c_X9_speech g d hL4 e5) mw_X9_speech lk_X10_27 im_X9_speech se_X9_speech ci_9.1 ci_9.2.1 (k14 hL4) dX10_cheapest_37 rfl rfl (Nat.le_of_ble_eq_true rfl) rfl ?_
      refine i_iconst (v := -1) S dX10_cheapest_40 ic_m1 ?_
      obtain ⟨hs6, h⟩ := gd h
      obtain ⟨hL7, h⟩ := onLn h
      obtain ⟨p8, e8, h⟩ := bn h
      refine i_callV (As := [rf g p5.1, .int ((-1 : Int32))]) (st1 := [.long p8.1]) S (c_X9_yearly g d hL7 hs6 e8) mw_X9_yearly lk_X10_33 im_X9_yearly se_X9_yearly ci_9.1 ci_9.2.1 (k14 hL7) dX10_cheapest_41 rfl rfl (Nat.le_of_ble_eq_true rfl) rfl ?_
      refine i_lstore (L1 := [some (rf g 44), some (.int x1), some (.int s.1), some (.long s.2.1), none, some (.int s.2.2.1), some (.long p8.1), none]) S dX10_cheapest_44 (by decide) rfl ?_
      refine i_iload_n S dX10_cheapest_46 rfl ?_
      refine i_iconst (v := -1) S dX10_cheapest_47 ic_m1 ?_
      obtain ⟨s10, e10, hm10, ho10⟩ := mgn h
      have hj10 : ∀ p10, s10 = .inl p10 → V 58 [some (rf g 44), some (.int x1), none, none, none, some (.int s.2.2.1), some (.long p8.1), none] [] p8.2 := by
        intro p10 ep10
        have h := hm10 p10 ep10
        refine i_iload S dX10_cheapest_58 rfl ?_
        refine i_istore_n (L1 := [some (rf g 44), some (.int x1), some (.int s.2.2.1), none, none, some (.int s.2.2.1), some (.long p8.1), none]) S dX10_cheapest_60 (by decide) rfl ?_
        refine i_lload S dX10_cheapest_61 rfl ?_
        refine i_lstore_n (L1 := [some (rf g 44), some (.int x1), some (.int s.2.2.1), some (.long p8.1), none, some (.int s.2.2.1), some (.long p8.1), none]) S dX10_cheapest_63 (by decide) rfl ?_
        refine i_mask (L1 := [some (rf g 44), some (.int x1), some (.int s.2.2.1), some (.long p8.1), none, some (.int s.2.2.1), none, none]) S [true, true, true, true, false, true, false, false] rfl ?_
        have hz := hj3 _ (Option.some.inj h).symm
        exact hz
      replace h := e10
      clear e10
      refine i_icmp_eq (tgt := 58) S dX10_cheapest_48 (by decide) (fun q9 => ?_) (fun q9 => ?_)
      · replace h := (if_pos q9).symm.trans h
        refine i_mask (L1 := [some (rf g 44), some (.int x1), none, none, none, some (.int s.2.2.1), some (.long p8.1), none]) S [true, true, false, false, false, true, true, false] rfl ?_
        have hz := hj10 _ (Option.some.inj h).symm
        exact hz
      · replace h := (if_neg q9).symm.trans h
        refine i_lload S dX10_cheapest_51 rfl ?_
        refine i_lload_n S dX10_cheapest_53 rfl ?_
        refine i_lc_ge (tgt := 64) S dX10_cheapest_54 dX10_cheapest_55 (by decide) (fun q11 => ?_) (fun q11 => ?_)
        · replace h := (if_pos q11).symm.trans h
          replace h := ho10 _ (Option.some.inj h).symm
          refine i_mask (L1 := [some (rf g 44), some (.int x1), some (.int s.1), some (.long s.2.1), none, some (.int s.2.2.1), none, none]) S [true, true, true, true, false, true, false, false] rfl ?_
          have hz := hj3 _ (Option.some.inj h).symm
          exact hz
        · replace h := (if_neg q11).symm.trans h
          refine i_mask (L1 := [some (rf g 44), some (.int x1), none, none, none, some (.int s.2.2.1), some (.long p8.1), none]) S [true, true, false, false, false, true, true, false] rfl ?_
          have hz := hj10 _ (Option.some.inj h).symm
          exact hz
set_option maxHeartbeats 4000000 in
set_option maxRecDepth 100000 in
theorem c_X10_cheapest (g : Gx) (d : Nat) {x1 : Int32} {w : Mm} {p : (Int32 × Mm)} (hL : Lay w) (h : f_X10_cheapest x1 w = some p) : Call g (d + 6) yX10_cheapest cX10_cheapest 8 (some .int) [rf g 44, .int x1] w (some (.int p.1)) p.2 := by
  refine call_of (L0 := [some (rf g 44), some (.int x1), none, none, none, none, none, none]) (by decide) rfl (Nat.le_of_ble_eq_true rfl) (fun V S0 => ?_)
  have S := S0.b
  unfold f_X10_cheapest at h
  refine i_iconst (v := -1) S dX10_cheapest_0 ic_m1 ?_
  refine i_istore_n (L1 := [some (rf g 44), some (.int x1), some (.int ((-1 : Int32))), none, none, none, none, none]) S dX10_cheapest_1 (by decide) rfl ?_
  refine i_lconst (v := 0) S dX10_cheapest_2 lc_0 ?_
  refine i_lstore_n (L1 := [some (rf g 44), some (.int x1), some (.int ((-1 : Int32))), some (.long ((0 : Int64))), none, none, none, none]) S dX10_cheapest_3 (by decide) rfl ?_
  refine i_iconst (v := 0) S dX10_cheapest_4 ic_0 ?_
  refine i_istore (L1 := [some (rf g 44), some (.int x1), some (.int ((-1 : Int32))), some (.long ((0 : Int64))), none, some (.int ((0 : Int32))), none, none]) S dX10_cheapest_5 (by decide) rfl ?_
  obtain ⟨p1, e1, h⟩ := bn h
  have hE1 : V 70 [none, none, some (.int p1.1), none, none, none, none, none] [] p1.2 := by
    refine i_iload_n S dX10_cheapest_70 rfl ?_
    cases h
    exact i_iret S0 rfl dX10_cheapest_71
  exact wh_V (P := fun sv1 => V 7 [some (rf g 44), some (.int x1), some (.int sv1.1), some (.long sv1.2.1), none, some (.int sv1.2.2.1), none, none] [] sv1.2.2.2) (E := fun xv1 => V 70 [none, none, some (.int xv1.1), none, none, none, none, none] [] xv1.2) (fun sv1 ev hb hc he => t_l_X10_cheapest_7   S  sv1 ev hb hc he) FUEL _ _ e1 hE1
/-! WordYear$Years.canStrike -/
noncomputable def f_X10_canStrike (x1 : Int32) (w : Mm) : Option Int32 := if (f_X11_within x1 (1 : Int32) (6 : Int32)) = 0 then (some (0 : Int32)) else (if (f_J6_bitCount_0f7a4 (gI w 1 5)) < x1 then (some (0 : Int32)) else (some (1 : Int32)))
set_option maxHeartbeats 4000000 in
set_option maxRecDepth 100000 in
theorem c_X10_canStrike (g : Gx) (d : Nat) {x1 : Int32} {w : Mm} {p : Int32} (hL : Lay w) (h : f_X10_canStrike x1 w = some p) : Call g (d + 2) yX10_canStrike cX10_canStrike 2 (some .boolean) [rf g 44, .int x1] w (some (.int p)) w := by
  refine call_of (L0 := [some (rf g 44), some (.int x1)]) (by decide) rfl (Nat.le_of_ble_eq_true rfl) (fun V S0 => ?_)
  have S := S0.b
  unfold f_X10_canStrike at h
  refine i_iload_n S dX10_canStrike_0 rfl ?_
  refine i_iconst (v := 1) S dX10_canStrike_1 ic_1 ?_
  refine i_bipush (v := 6) S dX10_canStrike_2 bp_6 ?_
  refine i_callSN (As := [.int x1, .int ((1 : Int32)), .int ((6 : Int32))]) (st1 := [.int (f_X11_within x1 (1 : Int32) (6 : Int32))]) S (c_X11_within g d rfl) mw_X11_within lk_X10_37 im_X11_within dX10_canStrike_4 rfl rfl (Nat.le_of_ble_eq_true rfl) rfl ?_
  refine i_if_eq (tgt := 28) S dX10_canStrike_7 (by decide) (fun q1 => ?_) (fun q1 => ?_)
  · replace h := (if_pos q1).symm.trans h
    refine i_iconst (v := 0) S dX10_canStrike_28 ic_0 ?_
    cases h
    exact i_iret S0 rfl dX10_canStrike_29
  · replace h := (if_neg q1).symm.trans h
    refine i_iload_n S dX10_canStrike_10 rfl ?_
    refine i_aload_n S dX10_canStrike_11 rfl ?_
    refine i_getR S fl_X10_9 (k44 hL) (r44_0 hL) rfl dX10_canStrike_12 ?_
    refine i_getIv (v := gI w 1 5) S fl_X10_41 (k1 hL) rfl rfl dX10_canStrike_15 ?_
    refine i_callS (As := [.int (gI w 1 5)]) (st1 := [.int (f_J6_bitCount_0f7a4 (gI w 1 5)), .int x1]) S (c_J6_bitCount_0f7a4 g d rfl) mw_J6_bitCount_0f7a4 lk_X10_47 im_J6_bitCount_0f7a4 dX10_canStrike_18 rfl rfl (Nat.le_of_ble_eq_true rfl) rfl ?_
    refine i_icmp_gt (tgt := 28) S dX10_canStrike_21 (by decide) (fun q2 => ?_) (fun q2 => ?_)
    · replace h := (if_pos q2).symm.trans h
      refine i_iconst (v := 0) S dX10_canStrike_28 ic_0 ?_
      cases h
      exact i_iret S0 rfl dX10_canStrike_29
    · replace h := (if_neg q2).symm.trans h
      refine i_iconst (v := 1) S dX10_canStrike_24 ic_1 ?_
      refine i_goto (tgt := 29) S dX10_canStrike_25 (by decide) ?_
      cases h
      exact i_iret S0 rfl dX10_canStrike_29
/-! WordYear$Years.bestNext -/
noncomputable def l_X10_bestNext_7 (x1 : Int32) (s : Int32 × Int64 × Int32 × Mm) : Option ((Int32 × Int64 × Int32 × Mm) ⊕ (Int32 × Mm)) := if (10 : Int32) ≤ s.2.2.1 then (some (.inr (s.1, s.2.2.2))) else (Option.bind (if (f_X11_contains x1 s.2.2.1) = 0 then (some (s.1, s.2.1, s.2.2.2)) else (onL s.2.2.2 (Option.bind (f_X9_speech (f_X11_without x1 s.2.2.1) s.2.2.2) (fun p5 => if isSp p5.2 p5.1 = true then (mg (if s.1 = (-1 : Int32) then (some (.inl ())) else (if s.2.1 ≤ (gL p5.2 p5.1 9) then (some (.inr (s.1, s.2.1, p5.2))) else (some (.inl ())))) (fun p8 => some (s.2.2.1, gL p5.2 p5.1 9, p5.2))) else none)))) (fun p3 => some (.inl (p3.1, p3.2.1, s.2.2.1 + (1 : Int32), p3.2.2))))
noncomputable def f_X10_bestNext (x1 : Int32) (w : Mm) : Option (Int32 × Mm) := Option.bind (wh (l_X10_bestNext_7 x1) FUEL ((-1 : Int32), (0 : Int64), (0 : Int32), w)) (fun p1 => some (p1.1, p1.2))
set_option maxHeartbeats 4000000 in
set_option maxRecDepth 100000 in
theorem t_l_X10_bestNext_7 {g : Gx} {V : Vt} {d : Nat} (S : MachB g yX10_bestNext cX10_bestNext 8 (d + 5) V) {x1 : Int32}  (s : Int32 × Int64 × Int32 × Mm) (e : (Int32 × Int64 × Int32 × Mm) ⊕ (Int32 × Mm)) (h : l_X10_bestNext_7 x1 s = some e) (hC : ∀ s2, e = .inl s2 → V 7 [some (rf g 44), some (.int x1), some (.int s2.1), some (.long s2.2.1), none, some (.int s2.2.2.1), none, none] [] s2.2.2.2) (hE : ∀ x, e = .inr x → V 65 [none, none, some (.int x.1), none, none, none, none, none] [] x.2) : V 7 [some (rf g 44), some (.int x1), some (.int s.1), some (.long s.2.1), none, some (.int s.2.2.1), none, none] [] s.2.2.2 := by
  unfold l_X10_bestNext_7 at h
  refine i_iload S dX10_bestNext_7 rfl ?_
  refine i_bipush (v := 10) S dX10_bestNext_9 bp_10 ?_
  refine i_icmp_ge (tgt := 65) S dX10_bestNext_11 (by decide) (fun q1 => ?_) (fun q1 => ?_)
  · replace h := (if_pos q1).symm.trans h
    refine i_mask (L1 := [none, none, some (.int s.1), none, none, none, none, none]) S [false, false, true, false, false, false, false, false] rfl ?_
    have hz := hE _ (Option.some.inj h).symm
    exact hz
  · replace h := (if_neg q1).symm.trans h
    refine i_iload_n S dX10_bestNext_14 rfl ?_
    refine i_iload S dX10_bestNext_15 rfl ?_
    refine i_callSN (As := [.int x1, .int s.2.2.1]) (st1 := [.int (f_X11_contains x1 s.2.2.1)]) S (c_X11_contains g (d + 4) rfl) mw_X11_contains lk_X10_19 im_X11_contains dX10_bestNext_17 rfl rfl (Nat.le_of_ble_eq_true rfl) rfl ?_
    obtain ⟨p3, e3, h⟩ := bn h
    have hj3 : ∀ q3, p3 = q3 → V 59 [some (rf g 44), some (.int x1), some (.int q3.1), some (.long q3.2.1), none, some (.int s.2.2.1), none, none] [] q3.2.2 := by
      intro q3 hq3
      subst hq3
      refine i_iinc (L1 := [some (rf g 44), some (.int x1), some (.int p3.1), some (.long p3.2.1), none, some (.int (s.2.2.1 + (1 : Int32))), none, none]) S dX10_bestNext_59 rfl ic_1 (by decide) rfl ?_
      refine i_goto (tgt := 7) S dX10_bestNext_62 (by decide) ?_
      have hz := hC _ (Option.some.inj h).symm
      exact hz
    replace h := e3
    clear e3
    refine i_if_eq (tgt := 59) S dX10_bestNext_20 (by decide) (fun q2 => ?_) (fun q2 => ?_)
    · replace h := (if_pos q2).symm.trans h
      have hz := hj3 _ (Option.some.inj h).symm
      exact hz
    · replace h := (if_neg q2).symm.trans h
      refine i_aload_n S dX10_bestNext_23 rfl ?_
      obtain ⟨hL4, h⟩ := onLn h
      refine i_getR S fl_X10_15 (k44 hL4) (r44_1 hL4) rfl dX10_bestNext_24 ?_
      refine i_iload_n S dX10_bestNext_27 rfl ?_
      refine i_iload S dX10_bestNext_28 rfl ?_
      refine i_callSN (As := [.int x1, .int s.2.2.1]) (st1 := [.int (f_X11_without x1 s.2.2.1), rf g 14]) S (c_X11_without g (d + 4) rfl) mw_X11_without lk_X10_23 im_X11_without dX10_bestNext_30 rfl rfl (Nat.le_of_ble_eq_true rfl) rfl ?_
      obtain ⟨p5, e5, h⟩ := bn h
      refine i_callV (As := [.int (f_X11_without x1 s.2.2.1)]) (st1 := [rf g p5.1]) S (c_X9_speech g d hL4 e5) mw_X9_speech lk_X10_27 im_X9_speech se_X9_speech ci_9.1 ci_9.2.1 (k14 hL4) dX10_bestNext_33 rfl rfl (Nat.le_of_ble_eq_true rfl) rfl ?_
      obtain ⟨hs6, h⟩ := gd h
      refine i_getLv (v := gL p5.2 p5.1 9) S fl_X10_53 (sp_k0 hs6) rfl rfl dX10_bestNext_36 ?_
      refine i_lstore (L1 := [some (rf g 44), some (.int x1), some (.int s.1), some (.long s.2.1), none, some (.int s.2.2.1), some (.long (gL p5.2 p5.1 9)), none]) S dX10_bestNext_39 (by decide) rfl ?_
      refine i_iload_n S dX10_bestNext_41 rfl ?_
      refine i_iconst (v := -1) S dX10_bestNext_42 ic_m1 ?_
      obtain ⟨s8, e8, hm8, ho8⟩ := mgn h
      have hj8 : ∀ p8, s8 = .inl p8 → V 53 [some (rf g 44), some (.int x1), none, none, none, some (.int s.2.2.1), some (.long (gL p5.2 p5.1 9)), none] [] p5.2 := by
        intro p8 ep8
        have h := hm8 p8 ep8
        refine i_iload S dX10_bestNext_53 rfl ?_
        refine i_istore_n (L1 := [some (rf g 44), some (.int x1), some (.int s.2.2.1), none, none, some (.int s.2.2.1), some (.long (gL p5.2 p5.1 9)), none]) S dX10_bestNext_55 (by decide) rfl ?_
        refine i_lload S dX10_bestNext_56 rfl ?_
        refine i_lstore_n (L1 := [some (rf g 44), some (.int x1), some (.int s.2.2.1), some (.long (gL p5.2 p5.1 9)), none, some (.int s.2.2.1), some (.long (gL p5.2 p5.1 9)), none]) S dX10_bestNext_58 (by decide) rfl ?_
        refine i_mask (L1 := [some (rf g 44), some (.int x1), some (.int s.2.2.1), some (.long (gL p5.2 p5.1 9)), none, some (.int s.2.2.1), none, none]) S [true, true, true, true, false, true, false, false] rfl ?_
        have hz := hj3 _ (Option.some.inj h).symm
        exact hz
      replace h := e8
      clear e8
      refine i_icmp_eq (tgt := 53) S dX10_bestNext_43 (by decide) (fun q7 => ?_) (fun q7 => ?_)
      · replace h := (if_pos q7).symm.trans h
        refine i_mask (L1 := [some (rf g 44), some (.int x1), none, none, none, some (.int s.2.2.1), some (.long (gL p5.2 p5.1 9)), none]) S [true, true, false, false, false, true, true, false] rfl ?_
        have hz := hj8 _ (Option.some.inj h).symm
        exact hz
      · replace h := (if_neg q7).symm.trans h
        refine i_lload S dX10_bestNext_46 rfl ?_
        refine i_lload_n S dX10_bestNext_48 rfl ?_
        refine i_lc_ge (tgt := 59) S dX10_bestNext_49 dX10_bestNext_50 (by decide) (fun q9 => ?_) (fun q9 => ?_)
        · replace h := (if_pos q9).symm.trans h
          replace h := ho8 _ (Option.some.inj h).symm
          refine i_mask (L1 := [some (rf g 44), some (.int x1), some (.int s.1), some (.long s.2.1), none, some (.int s.2.2.1), none, none]) S [true, true, true, true, false, true, false, false] rfl ?_
          have hz := hj3 _ (Option.some.inj h).symm
          exact hz
        · replace h := (if_neg q9).symm.trans h
          refine i_mask (L1 := [some (rf g 44), some (.int x1), none, none, none, some (.int s.2.2.1), some (.long (gL p5.2 p5.1 9)), none]) S [true, true, false, false, false, true, true, false] rfl ?_
          have hz := hj8 _ (Option.some.inj h).symm
          exact hz
set_option maxHeartbeats 4000000 in
set_option maxRecDepth 100000 in
theorem c_X10_bestNext (g : Gx) (d : Nat) {x1 : Int32} {w : Mm} {p : (Int32 × Mm)} (hL : Lay w) (h : f_X10_bestNext x1 w = some p) : Call g (d + 6) yX10_bestNext cX10_bestNext 8 (some .int) [rf g 44, .int x1] w (some (.int p.1)) p.2 := by
  refine call_of (L0 := [some (rf g 44), some (.int x1), none, none, none, none, none, none]) (by decide) rfl (Nat.le_of_ble_eq_true rfl) (fun V S0 => ?_)
  have S := S0.b
  unfold f_X10_bestNext at h
  refine i_iconst (v := -1) S dX10_bestNext_0 ic_m1 ?_
  refine i_istore_n (L1 := [some (rf g 44), some (.int x1), some (.int ((-1 : Int32))), none, none, none, none, none]) S dX10_bestNext_1 (by decide) rfl ?_
  refine i_lconst (v := 0) S dX10_bestNext_2 lc_0 ?_
  refine i_lstore_n (L1 := [some (rf g 44), some (.int x1), some (.int ((-1 : Int32))), some (.long ((0 : Int64))), none, none, none, none]) S dX10_bestNext_3 (by decide) rfl ?_
  refine i_iconst (v := 0) S dX10_bestNext_4 ic_0 ?_
  refine i_istore (L1 := [some (rf g 44), some (.int x1), some (.int ((-1 : Int32))), some (.long ((0 : Int64))), none, some (.int ((0 : Int32))), none, none]) S dX10_bestNext_5 (by decide) rfl ?_
  obtain ⟨p1, e1, h⟩ := bn h
  have hE1 : V 65 [none, none, some (.int p1.1), none, none, none, none, none] [] p1.2 := by
    refine i_iload_n S dX10_bestNext_65 rfl ?_
    cases h
    exact i_iret S0 rfl dX10_bestNext_66
  exact wh_V (P := fun sv1 => V 7 [some (rf g 44), some (.int x1), some (.int sv1.1), some (.long sv1.2.1), none, some (.int sv1.2.2.1), none, none] [] sv1.2.2.2) (E := fun xv1 => V 65 [none, none, some (.int xv1.1), none, none, none, none, none] [] xv1.2) (fun sv1 ev hb hc he => t_l_X10_bestNext_7   S  sv1 ev hb hc he) FUEL _ _ e1 hE1
/-! WordYear$Years.plan -/
noncomputable def l_X10_plan_18 (x2 : Int32) (x3 : Int32) (s : Int32 × Mm) : Option ((Int32 × Mm) ⊕ (Mm)) := if (1024 : Int32) ≤ s.1 then (some (.inr s.2)) else (if x2 < s.1 then (some (.inr s.2)) else (Option.bind (if (s.1 &&& x2) = s.1 then (if (f_J6_bitCount_0f7a4 s.1) < x3 then (some s.2) else (onL s.2 (Option.bind (f_X9_speech s.1 s.2) (fun p7 => Option.bind (if s.1 = x2 then (some ((0 : Int64), p7.2)) else (onL p7.2 (if isSp p7.2 p7.1 = true then (Option.bind (f_X9_yearly p7.1 (-1 : Int32) p7.2) (fun p21 => some (p21.1, p21.2))) else none))) (fun p9 => if isSp p9.2 p7.1 = true then (if (f_J6_bitCount_0f7a4 s.1) ≤ x3 then (some (sL p9.2 p7.1 9 p9.1)) else (onL (sL p9.2 p7.1 9 p9.1) (Option.bind (f_X10_bestNext s.1 (sL p9.2 p7.1 9 p9.1)) (fun p13 => if isSp p13.2 p7.1 = true then (onL p13.2 (Option.bind (f_X9_speech (f_X11_without s.1 p13.1) p13.2) (fun p16 => if isSp p16.2 p16.1 = true then (if isSp p16.2 p7.1 = true then (some (sL p16.2 p7.1 9 ((gL p13.2 p7.1 9) + (gL p16.2 p16.1 9)))) else none) else none))) else none)))) else none))))) else (some s.2)) (fun p4 => some (.inl (s.1 + (1 : Int32), p4)))))
noncomputable def f_X10_plan (x1 : Int32) (w : Mm) : Option (Int64 × Mm) := Option.bind (wh (l_X10_plan_18 (gI w 1 5) ((f_J6_bitCount_0f7a4 (gI w 1 5)) - x1)) FUEL ((0 : Int32), w)) (fun p1 => onL p1 (Option.bind (f_X9_speech (gI w 1 5) p1) (fun p3 => if isSp p3.2 p3.1 = true then (some (gL p3.2 p3.1 9, p3.2)) else none)))
set_option maxHeartbeats 4000000 in
set_option maxRecDepth 100000 in
theorem t_l_X10_plan_18 {g : Gx} {V : Vt} {d : Nat} (S : MachB g yX10_plan cX10_plan 8 (d + 6) V) {x2 : Int32} {x3 : Int32}  (s : Int32 × Mm) (e : (Int32 × Mm) ⊕ (Mm)) (h : l_X10_plan_18 x2 x3 s = some e) (hC : ∀ s2, e = .inl s2 → V 18 [some (rf g 44), none, some (.int x2), some (.int x3), some (.int s2.1), none, none, none] [] s2.2) (hE : ∀ x, e = .inr x → V 137 [some (rf g 44), none, some (.int x2), none, none, none, none, none] [] x) : V 18 [some (rf g 44), none, some (.int x2), some (.int x3), some (.int s.1), none, none, none] [] s.2 := by
  unfold l_X10_plan_18 at h
  refine i_iload S dX10_plan_18 rfl ?_
  refine i_sipush (v := 1024) S dX10_plan_20 sp_1024 ?_
  refine i_icmp_ge (tgt := 137) S dX10_plan_23 (by decide) (fun q1 => ?_) (fun q1 => ?_)
  · replace h := (if_pos q1).symm.trans h
    refine i_mask (L1 := [some (rf g 44), none, some (.int x2), none, none, none, none, none]) S [true, false, true, false, false, false, false, false] rfl ?_
    have hz := hE _ (Option.some.inj h).symm
    exact hz
  · replace h := (if_neg q1).symm.trans h
    refine i_iload S dX10_plan_26 rfl ?_
    refine i_iload_n S dX10_plan_28 rfl ?_
    refine i_icmp_gt (tgt := 137) S dX10_plan_29 (by decide) (fun q2 => ?_) (fun q2 => ?_)
    · replace h := (if_pos q2).symm.trans h
      refine i_mask (L1 := [some (rf g 44), none, some (.int x2), none, none, none, none, none]) S [true, false, true, false, false, false, false, false] rfl ?_
      have hz := hE _ (Option.some.inj h).symm
      exact hz
    · replace h := (if_neg q2).symm.trans h
      refine i_iload S dX10_plan_32 rfl ?_
      refine i_callS (As := [.int s.1]) (st1 := [.int (f_J6_bitCount_0f7a4 s.1)]) S (c_J6_bitCount_0f7a4 g (d + 5) rfl) mw_J6_bitCount_0f7a4 lk_X10_47 im_J6_bitCount_0f7a4 dX10_plan_34 rfl rfl (Nat.le_of_ble_eq_true rfl) rfl ?_
      refine i_istore (L1 := [some (rf g 44), none, some (.int x2), some (.int x3), some (.int s.1), some (.int (f_J6_bitCount_0f7a4 s.1)), none, none]) S dX10_plan_37 (by decide) rfl ?_
      refine i_iload S dX10_plan_39 rfl ?_
      refine i_iload_n S dX10_plan_41 rfl ?_
      refine i_iand S dX10_plan_42 ?_
      refine i_iload S dX10_plan_43 rfl ?_
      obtain ⟨p4, e4, h⟩ := bn h
      have hj4 : ∀ q4, p4 = q4 → V 131 [some (rf g 44), none, some (.int x2), some (.int x3), some (.int s.1), none, none, none] [] q4 := by
        intro q4 hq4
        subst hq4
        refine i_iinc (L1 := [some (rf g 44), none, some (.int x2), some (.int x3), some (.int (s.1 + (1 : Int32))), none, none, none]) S dX10_plan_131 rfl ic_1 (by decide) rfl ?_
        refine i_goto (tgt := 18) S dX10_plan_134 (by decide) ?_
        have hz := hC _ (Option.some.inj h).symm
        exact hz
      replace h := e4
      clear e4
      refine i_icmp_ne (tgt := 131) S dX10_plan_45 (by decide) (fun q3 => ?_) (fun q3 => ?_)
      · replace h := (if_neg q3).symm.trans h
        refine i_mask (L1 := [some (rf g 44), none, some (.int x2), some (.int x3), some (.int s.1), none, none, none]) S [true, false, true, true, true, false, false, false] rfl ?_
        have hz := hj4 _ (Option.some.inj h).symm
        exact hz
      · replace h := (if_pos q3).symm.trans h
        refine i_iload S dX10_plan_48 rfl ?_
        refine i_iload_n S dX10_plan_50 rfl ?_
        refine i_icmp_lt (tgt := 131) S dX10_plan_51 (by decide) (fun q5 => ?_) (fun q5 => ?_)
        · replace h := (if_pos q5).symm.trans h
          refine i_mask (L1 := [some (rf g 44), none, some (.int x2), some (.int x3), some (.int s.1), none, none, none]) S [true, false, true, true, true, false, false, false] rfl ?_
          have hz := hj4 _ (Option.some.inj h).symm
          exact hz
        · replace h := (if_neg q5).symm.trans h
          refine i_aload_n S dX10_plan_54 rfl ?_
          obtain ⟨hL6, h⟩ := onLn h
          refine i_getR S fl_X10_15 (k44 hL6) (r44_1 hL6) rfl dX10_plan_55 ?_
          refine i_iload S dX10_plan_58 rfl ?_
          obtain ⟨p7, e7, h⟩ := bn h
          refine i_callV (As := [.int s.1]) (st1 := [rf g p7.1]) S (c_X9_speech g (d + 1) hL6 e7) mw_X9_speech lk_X10_27 im_X9_speech se_X9_speech ci_9.1 ci_9.2.1 (k14 hL6) dX10_plan_60 rfl rfl (Nat.le_of_ble_eq_true rfl) rfl ?_
          refine i_astore (L1 := [some (rf g 44), none, some (.int x2), some (.int x3), some (.int s.1), some (.int (f_J6_bitCount_0f7a4 s.1)), some (rf g p7.1), none]) S dX10_plan_63 (by decide) rfl ?_
          refine i_aload S dX10_plan_65 rfl ?_
          refine i_iload S dX10_plan_67 rfl ?_
          refine i_iload_n S dX10_plan_69 rfl ?_
          obtain ⟨p9, e9, h⟩ := bn h
          have hj9 : ∀ q9, p9 = q9 → V 87 [some (rf g 44), none, some (.int x2), some (.int x3), some (.int s.1), some (.int (f_J6_bitCount_0f7a4 s.1)), some (rf g p7.1), none] [.long q9.1, rf g p7.1] q9.2 := by
            intro q9 hq9
            subst hq9
            obtain ⟨hs10, h⟩ := gd h
            refine i_putL S fl_X10_53 (sp_k0 hs10) rfl rfl rfl dX10_plan_87 ?_
            refine i_iload S dX10_plan_90 rfl ?_
            refine i_iload_n S dX10_plan_92 rfl ?_
            refine i_icmp_le (tgt := 131) S dX10_plan_93 (by decide) (fun q11 => ?_) (fun q11 => ?_)
            · replace h := (if_pos q11).symm.trans h
              refine i_mask (L1 := [some (rf g 44), none, some (.int x2), some (.int x3), some (.int s.1), none, none, none]) S [true, false, true, true, true, false, false, false] rfl ?_
              have hz := hj4 _ (Option.some.inj h).symm
              exact hz
            · replace h := (if_neg q11).symm.trans h
              refine i_aload_n S dX10_plan_96 rfl ?_
              refine i_iload S dX10_plan_97 rfl ?_
              obtain ⟨hL12, h⟩ := onLn h
              obtain ⟨p13, e13, h⟩ := bn h
              refine i_callV (As := [.int s.1]) (st1 := [.int p13.1]) S (c_X10_bestNext g d hL12 e13) mw_X10_bestNext lk_X10_59 im_X10_bestNext se_X10_bestNext ci_10.1 ci_10.2.1 (k44 hL12) dX10_plan_99 rfl rfl (Nat.le_of_ble_eq_true rfl) rfl ?_
              refine i_istore (L1 := [some (rf g 44), none, some (.int x2), some (.int x3), some (.int s.1), some (.int (f_J6_bitCount_0f7a4 s.1)), some (rf g p7.1), some (.int p13.1)]) S dX10_plan_102 (by decide) rfl ?_
              refine i_aload S dX10_plan_104 rfl ?_
              refine i_dup S dX10_plan_106 rfl ?_
              obtain ⟨hs14, h⟩ := gd h
              refine i_getLv (v := gL p13.2 p7.1 9) S fl_X10_53 (sp_k0 hs14) rfl rfl dX10_plan_107 ?_
              refine i_aload_n S dX10_plan_110 rfl ?_
              obtain ⟨hL15, h⟩ := onLn h
              refine i_getR S fl_X10_15 (k44 hL15) (r44_1 hL15) rfl dX10_plan_111 ?_
              refine i_iload S dX10_plan_114 rfl ?_
              refine i_iload S dX10_plan_116 rfl ?_
              refine i_callSN (As := [.int s.1, .int p13.1]) (st1 := [.int (f_X11_without s.1 p13.1), rf g 14, .long (gL p13.2 p7.1 9), rf g p7.1]) S (c_X11_without g (d + 5) rfl) mw_X11_without lk_X10_23 im_X11_without dX10_plan_118 rfl rfl (Nat.le_of_ble_eq_true rfl) rfl ?_
              obtain ⟨p16, e16, h⟩ := bn h
              refine i_callV (As := [.int (f_X11_without s.1 p13.1)]) (st1 := [rf g p16.1, .long (gL p13.2 p7.1 9), rf g p7.1]) S (c_X9_speech g (d + 1) hL15 e16) mw_X9_speech lk_X10_27 im_X9_speech se_X9_speech ci_9.1 ci_9.2.1 (k14 hL15) dX10_plan_121 rfl rfl (Nat.le_of_ble_eq_true rfl) rfl ?_
              obtain ⟨hs17, h⟩ := gd h
              refine i_getLv (v := gL p16.2 p16.1 9) S fl_X10_53 (sp_k0 hs17) rfl rfl dX10_plan_124 ?_
              refine i_ladd S dX10_plan_127 ?_
              obtain ⟨hs18, h⟩ := gd h
              refine i_putL S fl_X10_53 (sp_k0 hs18) rfl rfl rfl dX10_plan_128 ?_
              refine i_mask (L1 := [some (rf g 44), none, some (.int x2), some (.int x3), some (.int s.1), none, none, none]) S [true, false, true, true, true, false, false, false] rfl ?_
              have hz := hj4 _ (Option.some.inj h).symm
              exact hz
          replace h := e9
          clear e9
          refine i_icmp_ne (tgt := 77) S dX10_plan_70 (by decide) (fun q8 => ?_) (fun q8 => ?_)
          · replace h := (if_neg q8).symm.trans h
            refine i_aload_n S dX10_plan_77 rfl ?_
            obtain ⟨hL19, h⟩ := onLn h
            refine i_getR S fl_X10_15 (k44 hL19) (r44_1 hL19) rfl dX10_plan_78 ?_
            refine i_aload S dX10_plan_81 rfl ?_
            refine i_iconst (v := -1) S dX10_plan_83 ic_m1 ?_
            obtain ⟨hs20, h⟩ := gd h
            obtain ⟨p21, e21, h⟩ := bn h
            refine i_callV (As := [rf g p7.1, .int ((-1 : Int32))]) (st1 := [.long p21.1, rf g p7.1]) S (c_X9_yearly g (d + 1) hL19 hs20 e21) mw_X9_yearly lk_X10_33 im_X9_yearly se_X9_yearly ci_9.1 ci_9.2.1 (k14 hL19) dX10_plan_84 rfl rfl (Nat.le_of_ble_eq_true rfl) rfl ?_
            have hz := hj9 _ (Option.some.inj h).symm
            exact hz
          · replace h := (if_pos q8).symm.trans h
            refine i_lconst (v := 0) S dX10_plan_73 lc_0 ?_
            refine i_goto (tgt := 87) S dX10_plan_74 (by decide) ?_
            have hz := hj9 _ (Option.some.inj h).symm
            exact hz
set_option maxHeartbeats 4000000 in
set_option maxRecDepth 100000 in
theorem c_X10_plan (g : Gx) (d : Nat) {x1 : Int32} {w : Mm} {p : (Int64 × Mm)} (hL : Lay w) (h : f_X10_plan x1 w = some p) : Call g (d + 7) yX10_plan cX10_plan 8 (some .long) [rf g 44, .int x1] w (some (.long p.1)) p.2 := by
  refine call_of (L0 := [some (rf g 44), some (.int x1), none, none, none, none, none, none]) (by decide) rfl (Nat.le_of_ble_eq_true rfl) (fun V S0 => ?_)
  have S := S0.b
  unfold f_X10_plan at h
  refine i_aload_n S dX10_plan_0 rfl ?_
  refine i_getR S fl_X10_9 (k44 hL) (r44_0 hL) rfl dX10_plan_1 ?_
  refine i_getIv (v := gI w 1 5) S fl_X10_41 (k1 hL) rfl rfl dX10_plan_4 ?_
  refine i_istore_n (L1 := [some (rf g 44), some (.int x1), some (.int (gI w 1 5)), none, none, none, none, none]) S dX10_plan_7 (by decide) rfl ?_
  refine i_iload_n S dX10_plan_8 rfl ?_
  refine i_callS (As := [.int (gI w 1 5)]) (st1 := [.int (f_J6_bitCount_0f7a4 (gI w 1 5))]) S (c_J6_bitCount_0f7a4 g (d + 5) rfl) mw_J6_bitCount_0f7a4 lk_X10_47 im_J6_bitCount_0f7a4 dX10_plan_9 rfl rfl (Nat.le_of_ble_eq_true rfl) rfl ?_
  refine i_iload_n S dX10_plan_12 rfl ?_
  refine i_isub S dX10_plan_13 ?_
  refine i_istore_n (L1 := [some (rf g 44), some (.int x1), some (.int (gI w 1 5)), some (.int ((f_J6_bitCount_0f7a4 (gI w 1 5)) - x1)), none, none, none, none]) S dX10_plan_14 (by decide) rfl ?_
  refine i_iconst (v := 0) S dX10_plan_15 ic_0 ?_
  refine i_istore (L1 := [some (rf g 44), some (.int x1), some (.int (gI w 1 5)), some (.int ((f_J6_bitCount_0f7a4 (gI w 1 5)) - x1)), some (.int ((0 : Int32))), none, none, none]) S dX10_plan_16 (by decide) rfl ?_
  refine i_mask (L1 := [some (rf g 44), none, some (.int (gI w 1 5)), some (.int ((f_J6_bitCount_0f7a4 (gI w 1 5)) - x1)), some (.int ((0 : Int32))), none, none, none]) S [true, false, true, true, true, false, false, false] rfl ?_
  obtain ⟨p1, e1, h⟩ := bn h
  have hE1 : V 137 [some (rf g 44), none, some (.int (gI w 1 5)), none, none, none, none, none] [] p1 := by
    refine i_aload_n S dX10_plan_137 rfl ?_
    obtain ⟨hL2, h⟩ := onLn h
    refine i_getR S fl_X10_15 (k44 hL2) (r44_1 hL2) rfl dX10_plan_138 ?_
    refine i_iload_n S dX10_plan_141 rfl ?_
    obtain ⟨p3, e3, h⟩ := bn h
    refine i_callV (As := [.int (gI w 1 5)]) (st1 := [rf g p3.1]) S (c_X9_speech g (d + 1) hL2 e3) mw_X9_speech lk_X10_27 im_X9_speech se_X9_speech ci_9.1 ci_9.2.1 (k14 hL2) dX10_plan_142 rfl rfl (Nat.le_of_ble_eq_true rfl) rfl ?_
    obtain ⟨hs4, h⟩ := gd h
    refine i_getLv (v := gL p3.2 p3.1 9) S fl_X10_53 (sp_k0 hs4) rfl rfl dX10_plan_145 ?_
    cases h
    exact i_lret S0 dX10_plan_148
  exact wh_V (P := fun sv1 => V 18 [some (rf g 44), none, some (.int (gI w 1 5)), some (.int ((f_J6_bitCount_0f7a4 (gI w 1 5)) - x1)), some (.int sv1.1), none, none, none] [] sv1.2) (E := fun xv1 => V 137 [some (rf g 44), none, some (.int (gI w 1 5)), none, none, none, none, none] [] xv1) (fun sv1 ev hb hc he => t_l_X10_plan_18   S  sv1 ev hb hc he) FUEL _ _ e1 hE1
/-! WordYear$Years.planned -/
noncomputable def l_X10_planned_17 (x1 : Int32) (s : Int32 × Int32 × Int32 × Mm) : Option ((Int32 × Int32 × Int32 × Mm) ⊕ (Int32 × Mm)) := if x1 ≤ s.2.2.1 then (some (.inr (s.2.1, s.2.2.2))) else (if (6 : Int32) ≤ s.2.2.1 then (some (.inr (s.2.1, s.2.2.2))) else (if s.2.1 = (-1 : Int32) then (some (.inr (s.2.1, s.2.2.2))) else (onL s.2.2.2 (Option.bind (f_X10_bestNext (f_X11_without s.1 s.2.1) s.2.2.2) (fun p5 => some (.inl (f_X11_without s.1 s.2.1, p5.1, s.2.2.1 + (1 : Int32), p5.2)))))))
noncomputable def f_X10_planned (x1 : Int32) (w : Mm) : Option (Int32 × Mm) := Option.bind (f_X10_bestNext (gI w 1 5) w) (fun p1 => Option.bind (wh (l_X10_planned_17 x1) FUEL (gI w 1 5, p1.1, (0 : Int32), p1.2)) (fun p2 => some (p2.1, p2.2)))
set_option maxHeartbeats 4000000 in
set_option maxRecDepth 100000 in
theorem t_l_X10_planned_17 {g : Gx} {V : Vt} {d : Nat} (S : MachB g yX10_planned cX10_planned 5 (d + 6) V) {x1 : Int32}  (s : Int32 × Int32 × Int32 × Mm) (e : (Int32 × Int32 × Int32 × Mm) ⊕ (Int32 × Mm)) (h : l_X10_planned_17 x1 s = some e) (hC : ∀ s2, e = .inl s2 → V 17 [some (rf g 44), some (.int x1), some (.int s2.1), some (.int s2.2.1), some (.int s2.2.2.1)] [] s2.2.2.2) (hE : ∀ x, e = .inr x → V 53 [none, none, none, some (.int x.1), none] [] x.2) : V 17 [some (rf g 44), some (.int x1), some (.int s.1), some (.int s.2.1), some (.int s.2.2.1)] [] s.2.2.2 := by
  unfold l_X10_planned_17 at h
  refine i_iload S dX10_planned_17 rfl ?_
  refine i_iload_n S dX10_planned_19 rfl ?_
  refine i_icmp_ge (tgt := 53) S dX10_planned_20 (by decide) (fun q1 => ?_) (fun q1 => ?_)
  · replace h := (if_pos q1).symm.trans h
    refine i_mask (L1 := [none, none, none, some (.int s.2.1), none]) S [false, false, false, true, false] rfl ?_
    have hz := hE _ (Option.some.inj h).symm
    exact hz
  · replace h := (if_neg q1).symm.trans h
    refine i_iload S dX10_planned_23 rfl ?_
    refine i_bipush (v := 6) S dX10_planned_25 bp_6 ?_
    refine i_icmp_ge (tgt := 53) S dX10_planned_27 (by decide) (fun q2 => ?_) (fun q2 => ?_)
    · replace h := (if_pos q2).symm.trans h
      refine i_mask (L1 := [none, none, none, some (.int s.2.1), none]) S [false, false, false, true, false] rfl ?_
      have hz := hE _ (Option.some.inj h).symm
      exact hz
    · replace h := (if_neg q2).symm.trans h
      refine i_iload_n S dX10_planned_30 rfl ?_
      refine i_iconst (v := -1) S dX10_planned_31 ic_m1 ?_
      refine i_icmp_eq (tgt := 53) S dX10_planned_32 (by decide) (fun q3 => ?_) (fun q3 => ?_)
      · replace h := (if_pos q3).symm.trans h
        refine i_mask (L1 := [none, none, none, some (.int s.2.1), none]) S [false, false, false, true, false] rfl ?_
        have hz := hE _ (Option.some.inj h).symm
        exact hz
      · replace h := (if_neg q3).symm.trans h
        refine i_iload_n S dX10_planned_35 rfl ?_
        refine i_iload_n S dX10_planned_36 rfl ?_
        refine i_callSN (As := [.int s.1, .int s.2.1]) (st1 := [.int (f_X11_without s.1 s.2.1)]) S (c_X11_without g (d + 5) rfl) mw_X11_without lk_X10_23 im_X11_without dX10_planned_37 rfl rfl (Nat.le_of_ble_eq_true rfl) rfl ?_
        refine i_istore_n (L1 := [some (rf g 44), some (.int x1), some (.int (f_X11_without s.1 s.2.1)), some (.int s.2.1), some (.int s.2.2.1)]) S dX10_planned_40 (by decide) rfl ?_
        refine i_aload_n S dX10_planned_41 rfl ?_
        refine i_iload_n S dX10_planned_42 rfl ?_
        obtain ⟨hL4, h⟩ := onLn h
        obtain ⟨p5, e5, h⟩ := bn h
        refine i_callV (As := [.int (f_X11_without s.1 s.2.1)]) (st1 := [.int p5.1]) S (c_X10_bestNext g d hL4 e5) mw_X10_bestNext lk_X10_59 im_X10_bestNext se_X10_bestNext ci_10.1 ci_10.2.1 (k44 hL4) dX10_planned_43 rfl rfl (Nat.le_of_ble_eq_true rfl) rfl ?_
        refine i_istore_n (L1 := [some (rf g 44), some (.int x1), some (.int (f_X11_without s.1 s.2.1)), some (.int p5.1), some (.int s.2.2.1)]) S dX10_planned_46 (by decide) rfl ?_
        refine i_iinc (L1 := [some (rf g 44), some (.int x1), some (.int (f_X11_without s.1 s.2.1)), some (.int p5.1), some (.int (s.2.2.1 + (1 : Int32)))]) S dX10_planned_47 rfl ic_1 (by decide) rfl ?_
        refine i_goto (tgt := 17) S dX10_planned_50 (by decide) ?_
        have hz := hC _ (Option.some.inj h).symm
        exact hz
set_option maxHeartbeats 4000000 in
set_option maxRecDepth 100000 in
theorem c_X10_planned (g : Gx) (d : Nat) {x1 : Int32} {w : Mm} {p : (Int32 × Mm)} (hL : Lay w) (h : f_X10_planned x1 w = some p) : Call g (d + 7) yX10_planned cX10_planned 5 (some .int) [rf g 44, .int x1] w (some (.int p.1)) p.2 := by
  refine call_of (L0 := [some (rf g 44), some (.int x1), none, none, none]) (by decide) rfl (Nat.le_of_ble_eq_true rfl) (fun V S0 => ?_)
  have S := S0.b
  unfold f_X10_planned at h
  refine i_aload_n S dX10_planned_0 rfl ?_
  refine i_getR S fl_X10_9 (k44 hL) (r44_0 hL) rfl dX10_planned_1 ?_
  refine i_getIv (v := gI w 1 5) S fl_X10_41 (k1 hL) rfl rfl dX10_planned_4 ?_
  refine i_istore_n (L1 := [some (rf g 44), some (.int x1), some (.int (gI w 1 5)), none, none]) S dX10_planned_7 (by decide) rfl ?_
  refine i_aload_n S dX10_planned_8 rfl ?_
  refine i_iload_n S dX10_planned_9 rfl ?_
  obtain ⟨p1, e1, h⟩ := bn h
  refine i_callV (As := [.int (gI w 1 5)]) (st1 := [.int p1.1]) S (c_X10_bestNext g d hL e1) mw_X10_bestNext lk_X10_59 im_X10_bestNext se_X10_bestNext ci_10.1 ci_10.2.1 (k44 hL) dX10_planned_10 rfl rfl (Nat.le_of_ble_eq_true rfl) rfl ?_
  refine i_istore_n (L1 := [some (rf g 44), some (.int x1), some (.int (gI w 1 5)), some (.int p1.1), none]) S dX10_planned_13 (by decide) rfl ?_
  refine i_iconst (v := 0) S dX10_planned_14 ic_0 ?_
  refine i_istore (L1 := [some (rf g 44), some (.int x1), some (.int (gI w 1 5)), some (.int p1.1), some (.int ((0 : Int32)))]) S dX10_planned_15 (by decide) rfl ?_
  obtain ⟨p2, e2, h⟩ := bn h
  have hE2 : V 53 [none, none, none, some (.int p2.1), none] [] p2.2 := by
    refine i_iload_n S dX10_planned_53 rfl ?_
    cases h
    exact i_iret S0 rfl dX10_planned_54
  exact wh_V (P := fun sv2 => V 17 [some (rf g 44), some (.int x1), some (.int sv2.1), some (.int sv2.2.1), some (.int sv2.2.2.1)] [] sv2.2.2.2) (E := fun xv2 => V 53 [none, none, none, some (.int xv2.1), none] [] xv2.2) (fun sv2 ev hb hc he => t_l_X10_planned_17   S  sv2 ev hb hc he) FUEL _ _ e2 hE2
/-! WordYear$Years.greedy -/
noncomputable def l_X10_greedy_22 (x1 : Int32) (s : Int64 × Int32 × Int32 × Int32 × Mm) : Option ((Int64 × Int32 × Int32 × Int32 × Mm) ⊕ (Int64 × Mm)) := if x1 ≤ s.2.2.2.1 then (some (.inr (s.1, s.2.2.2.2))) else (if (6 : Int32) ≤ s.2.2.2.1 then (some (.inr (s.1, s.2.2.2.2))) else (if s.2.2.1 = (-1 : Int32) then (some (.inr (s.1, s.2.2.2.2))) else (onL s.2.2.2.2 (Option.bind (f_X9_speech (f_X11_without s.2.1 s.2.2.1) s.2.2.2.2) (fun p5 => if isSp p5.2 p5.1 = true then (onL p5.2 (Option.bind (f_X9_yearly p5.1 (-1 : Int32) p5.2) (fun p8 => onL p8.2 (Option.bind (f_X10_cheapest (f_X11_without s.2.1 s.2.2.1) p8.2) (fun p10 => some (.inl (s.1 + p8.1, f_X11_without s.2.1 s.2.2.1, p10.1, s.2.2.2.1 + (1 : Int32), p10.2))))))) else none)))))
noncomputable def f_X10_greedy (x1 : Int32) (w : Mm) : Option (Int64 × Mm) := Option.bind (f_X10_cheapest (gI w 1 5) w) (fun p1 => Option.bind (wh (l_X10_greedy_22 x1) FUEL ((0 : Int64), gI w 1 5, p1.1, (0 : Int32), p1.2)) (fun p2 => some (p2.1, p2.2)))
set_option maxHeartbeats 4000000 in
set_option maxRecDepth 100000 in
theorem t_l_X10_greedy_22 {g : Gx} {V : Vt} {d : Nat} (S : MachB g yX10_greedy cX10_greedy 7 (d + 6) V) {x1 : Int32}  (s : Int64 × Int32 × Int32 × Int32 × Mm) (e : (Int64 × Int32 × Int32 × Int32 × Mm) ⊕ (Int64 × Mm)) (h : l_X10_greedy_22 x1 s = some e) (hC : ∀ s2, e = .inl s2 → V 22 [some (rf g 44), some (.int x1), some (.long s2.1), none, some (.int s2.2.1), some (.int s2.2.2.1), some (.int s2.2.2.2.1)] [] s2.2.2.2.2) (hE : ∀ x, e = .inr x → V 84 [none, none, some (.long x.1), none, none, none, none] [] x.2) : V 22 [some (rf g 44), some (.int x1), some (.long s.1), none, some (.int s.2.1), some (.int s.2.2.1), some (.int s.2.2.2.1)] [] s.2.2.2.2 := by
  unfold l_X10_greedy_22 at h
  refine i_iload S dX10_greedy_22 rfl ?_
  refine i_iload_n S dX10_greedy_24 rfl ?_
  refine i_icmp_ge (tgt := 84) S dX10_greedy_25 (by decide) (fun q1 => ?_) (fun q1 => ?_)
  · replace h := (if_pos q1).symm.trans h
    refine i_mask (L1 := [none, none, some (.long s.1), none, none, none, none]) S [false, false, true, false, false, false, false] rfl ?_
    have hz := hE _ (Option.some.inj h).symm
    exact hz
  · replace h := (if_neg q1).symm.trans h
    refine i_iload S dX10_greedy_28 rfl ?_
    refine i_bipush (v := 6) S dX10_greedy_30 bp_6 ?_
    refine i_icmp_ge (tgt := 84) S dX10_greedy_32 (by decide) (fun q2 => ?_) (fun q2 => ?_)
    · replace h := (if_pos q2).symm.trans h
      refine i_mask (L1 := [none, none, some (.long s.1), none, none, none, none]) S [false, false, true, false, false, false, false] rfl ?_
      have hz := hE _ (Option.some.inj h).symm
      exact hz
    · replace h := (if_neg q2).symm.trans h
      refine i_iload S dX10_greedy_35 rfl ?_
      refine i_iconst (v := -1) S dX10_greedy_37 ic_m1 ?_
      refine i_icmp_eq (tgt := 84) S dX10_greedy_38 (by decide) (fun q3 => ?_) (fun q3 => ?_)
      · replace h := (if_pos q3).symm.trans h
        refine i_mask (L1 := [none, none, some (.long s.1), none, none, none, none]) S [false, false, true, false, false, false, false] rfl ?_
        have hz := hE _ (Option.some.inj h).symm
        exact hz
      · replace h := (if_neg q3).symm.trans h
        refine i_iload S dX10_greedy_41 rfl ?_
        refine i_iload S dX10_greedy_43 rfl ?_
        refine i_callSN (As := [.int s.2.1, .int s.2.2.1]) (st1 := [.int (f_X11_without s.2.1 s.2.2.1)]) S (c_X11_without g (d + 5) rfl) mw_X11_without lk_X10_23 im_X11_without dX10_greedy_45 rfl rfl (Nat.le_of_ble_eq_true rfl) rfl ?_
        refine i_istore (L1 := [some (rf g 44), some (.int x1), some (.long s.1), none, some (.int (f_X11_without s.2.1 s.2.2.1)), some (.int s.2.2.1), some (.int s.2.2.2.1)]) S dX10_greedy_48 (by decide) rfl ?_
        refine i_lload_n S dX10_greedy_50 rfl ?_
        refine i_aload_n S dX10_greedy_51 rfl ?_
        obtain ⟨hL4, h⟩ := onLn h
        refine i_getR S fl_X10_15 (k44 hL4) (r44_1 hL4) rfl dX10_greedy_52 ?_
        refine i_aload_n S dX10_greedy_55 rfl ?_
        refine i_getR S fl_X10_15 (k44 hL4) (r44_1 hL4) rfl dX10_greedy_56 ?_
        refine i_iload S dX10_greedy_59 rfl ?_
        obtain ⟨p5, e5, h⟩ := bn h
        refine i_callV (As := [.int (f_X11_without s.2.1 s.2.2.1)]) (st1 := [rf g p5.1, rf g 14, .long s.1]) S (c_X9_speech g (d + 1) hL4 e5) mw_X9_speech lk_X10_27 im_X9_speech se_X9_speech ci_9.1 ci_9.2.1 (k14 hL4) dX10_greedy_61 rfl rfl (Nat.le_of_ble_eq_true rfl) rfl ?_
        refine i_iconst (v := -1) S dX10_greedy_64 ic_m1 ?_
        obtain ⟨hs6, h⟩ := gd h
        obtain ⟨hL7, h⟩ := onLn h
        obtain ⟨p8, e8, h⟩ := bn h
        refine i_callV (As := [rf g p5.1, .int ((-1 : Int32))]) (st1 := [.long p8.1, .long s.1]) S (c_X9_yearly g (d + 1) hL7 hs6 e8) mw_X9_yearly lk_X10_33 im_X9_yearly se_X9_yearly ci_9.1 ci_9.2.1 (k14 hL7) dX10_greedy_65 rfl rfl (Nat.le_of_ble_eq_true rfl) rfl ?_
        refine i_ladd S dX10_greedy_68 ?_
        refine i_lstore_n (L1 := [some (rf g 44), some (.int x1), some (.long (s.1 + p8.1)), none, some (.int (f_X11_without s.2.1 s.2.2.1)), some (.int s.2.2.1), some (.int s.2.2.2.1)]) S dX10_greedy_69 (by decide) rfl ?_
        refine i_aload_n S dX10_greedy_70 rfl ?_
        refine i_iload S dX10_greedy_71 rfl ?_
        obtain ⟨hL9, h⟩ := onLn h
        obtain ⟨p10, e10, h⟩ := bn h
        refine i_callV (As := [.int (f_X11_without s.2.1 s.2.2.1)]) (st1 := [.int p10.1]) S (c_X10_cheapest g d hL9 e10) mw_X10_cheapest lk_X10_62 im_X10_cheapest se_X10_cheapest ci_10.1 ci_10.2.1 (k44 hL9) dX10_greedy_73 rfl rfl (Nat.le_of_ble_eq_true rfl) rfl ?_
        refine i_istore (L1 := [some (rf g 44), some (.int x1), some (.long (s.1 + p8.1)), none, some (.int (f_X11_without s.2.1 s.2.2.1)), some (.int p10.1), some (.int s.2.2.2.1)]) S dX10_greedy_76 (by decide) rfl ?_
        refine i_iinc (L1 := [some (rf g 44), some (.int x1), some (.long (s.1 + p8.1)), none, some (.int (f_X11_without s.2.1 s.2.2.1)), some (.int p10.1), some (.int (s.2.2.2.1 + (1 : Int32)))]) S dX10_greedy_78 rfl ic_1 (by decide) rfl ?_
        refine i_goto (tgt := 22) S dX10_greedy_81 (by decide) ?_
        have hz := hC _ (Option.some.inj h).symm
        exact hz
set_option maxHeartbeats 4000000 in
set_option maxRecDepth 100000 in
theorem c_X10_greedy (g : Gx) (d : Nat) {x1 : Int32} {w : Mm} {p : (Int64 × Mm)} (hL : Lay w) (h : f_X10_greedy x1 w = some p) : Call g (d + 7) yX10_greedy cX10_greedy 7 (some .long) [rf g 44, .int x1] w (some (.long p.1)) p.2 := by
  refine call_of (L0 := [some (rf g 44), some (.int x1), none, none, none, none, none]) (by decide) rfl (Nat.le_of_ble_eq_true rfl) (fun V S0 => ?_)
  have S := S0.b
  unfold f_X10_greedy at h
  refine i_lconst (v := 0) S dX10_greedy_0 lc_0 ?_
  refine i_lstore_n (L1 := [some (rf g 44), some (.int x1), some (.long ((0 : Int64))), none, none, none, none]) S dX10_greedy_1 (by decide) rfl ?_
  refine i_aload_n S dX10_greedy_2 rfl ?_
  refine i_getR S fl_X10_9 (k44 hL) (r44_0 hL) rfl dX10_greedy_3 ?_
  refine i_getIv (v := gI w 1 5) S fl_X10_41 (k1 hL) rfl rfl dX10_greedy_6 ?_
  refine i_istore (L1 := [some (rf g 44), some (.int x1), some (.long ((0 : Int64))), none, some (.int (gI w 1 5)), none, none]) S dX10_greedy_9 (by decide) rfl ?_
  refine i_aload_n S dX10_greedy_11 rfl ?_
  refine i_iload S dX10_greedy_12 rfl ?_
  obtain ⟨p1, e1, h⟩ := bn h
  refine i_callV (As := [.int (gI w 1 5)]) (st1 := [.int p1.1]) S (c_X10_cheapest g d hL e1) mw_X10_cheapest lk_X10_62 im_X10_cheapest se_X10_cheapest ci_10.1 ci_10.2.1 (k44 hL) dX10_greedy_14 rfl rfl (Nat.le_of_ble_eq_true rfl) rfl ?_
  refine i_istore (L1 := [some (rf g 44), some (.int x1), some (.long ((0 : Int64))), none, some (.int (gI w 1 5)), some (.int p1.1), none]) S dX10_greedy_17 (by decide) rfl ?_
  refine i_iconst (v := 0) S dX10_greedy_19 ic_0 ?_
  refine i_istore (L1 := [some (rf g 44), some (.int x1), some (.long ((0 : Int64))), none, some (.int (gI w 1 5)), some (.int p1.1), some (.int ((0 : Int32)))]) S dX10_greedy_20 (by decide) rfl ?_
  obtain ⟨p2, e2, h⟩ := bn h
  have hE2 : V 84 [none, none, some (.long p2.1), none, none, none, none] [] p2.2 := by
    refine i_lload_n S dX10_greedy_84 rfl ?_
    cases h
    exact i_lret S0 dX10_greedy_85
  exact wh_V (P := fun sv2 => V 22 [some (rf g 44), some (.int x1), some (.long sv2.1), none, some (.int sv2.2.1), some (.int sv2.2.2.1), some (.int sv2.2.2.2.1)] [] sv2.2.2.2.2) (E := fun xv2 => V 84 [none, none, some (.long xv2.1), none, none, none, none] [] xv2.2) (fun sv2 ev hb hc he => t_l_X10_greedy_22   S  sv2 ev hb hc he) FUEL _ _ e2 hE2
/-! WordYear$Years.follow -/
noncomputable def l_X10_follow_18 (x2 : Int32) (x3 : Int32) (s : Int64 × Int32 × Int32 × Int32 × Mm) : Option ((Int64 × Int32 × Int32 × Int32 × Mm) ⊕ (Nat × Int64 × Int32 × Mm)) := if x2 ≤ s.2.2.2.1 then (some (.inr (0, s.1, s.2.1, s.2.2.2.2))) else (if (10 : Int32) ≤ s.2.2.2.1 then (some (.inr (0, s.1, s.2.1, s.2.2.2.2))) else (onL s.2.2.2.2 (Option.bind (f_X8_byteAt s.2.2.2.1 s.2.2.2.2) (fun p4 => if (f_X11_contains s.2.2.1 p4) = 0 then (some (.inr (1, 0, 0, s.2.2.2.2))) else (Option.bind (f_X9_speech (f_X11_without s.2.2.1 p4) s.2.2.2.2) (fun p6 => if isSp p6.2 p6.1 = true then (onL p6.2 (Option.bind (f_X9_yearly p6.1 (-1 : Int32) p6.2) (fun p9 => Option.bind (if s.2.1 = (-1 : Int32) then (onL p9.2 (Option.bind (f_X9_missed (f_X11_without s.2.2.1 p4) p9.2) (fun p13 => if p13.1 = 0 then (some (s.2.1, p13.2)) else (some (s.2.2.2.1, p13.2))))) else (some (s.2.1, p9.2))) (fun p11 => some (.inl (s.1 + p9.1, p11.1, f_X11_without s.2.2.1 p4, s.2.2.2.1 + (1 : Int32), p11.2)))))) else none))))))
noncomputable def f_X10_follow (x2 : Int32) (x3 : Int32) (w : Mm) : Option (Int64 × Mm) := Option.bind (wh (l_X10_follow_18 x2 x3) FUEL ((0 : Int64), (-1 : Int32), gI w 1 5, (0 : Int32), w)) (fun p1 => if p1.1 = 0 then (if x3 = 0 then (some (p1.2.1, p1.2.2.2)) else (some (p1.2.2.1.toInt64, p1.2.2.2))) else (some ((-2 : Int64), p1.2.2.2)))
set_option maxHeartbeats 4000000 in
set_option maxRecDepth 100000 in
theorem t_l_X10_follow_18 {g : Gx} {V : Vt} {d : Nat} (S : MachB g yX10_follow cX10_follow 10 (d + 6) V) {x2 : Int32} {x3 : Int32}  (s : Int64 × Int32 × Int32 × Int32 × Mm) (e : (Int64 × Int32 × Int32 × Int32 × Mm) ⊕ (Nat × Int64 × Int32 × Mm)) (h : l_X10_follow_18 x2 x3 s = some e) (hC : ∀ s2, e = .inl s2 → V 18 [some (rf g 44), some (rf g 12), some (.int x2), some (.int x3), some (.long s2.1), none, some (.int s2.2.1), some (.int s2.2.2.1), some (.int s2.2.2.2.1), none] [] s2.2.2.2.2) (hE : ∀ x, e = .inr x → if x.1 = 0 then V 112 [none, none, none, some (.int x3), some (.long x.2.1), none, some (.int x.2.2.1), none, none, none] [] x.2.2.2 else (V 49 [none, none, none, none, none, none, none, none, none, none] [] x.2.2.2)) : V 18 [some (rf g 44), some (rf g 12), some (.int x2), some (.int x3), some (.long s.1), none, some (.int s.2.1), some (.int s.2.2.1), some (.int s.2.2.2.1), none] [] s.2.2.2.2 := by
  unfold l_X10_follow_18 at h
  refine i_iload S dX10_follow_18 rfl ?_
  refine i_iload_n S dX10_follow_20 rfl ?_
  refine i_icmp_ge (tgt := 112) S dX10_follow_21 (by decide) (fun q1 => ?_) (fun q1 => ?_)
  · replace h := (if_pos q1).symm.trans h
    refine i_mask (L1 := [none, none, none, some (.int x3), some (.long s.1), none, some (.int s.2.1), none, none, none]) S [false, false, false, true, true, false, true, false, false, false] rfl ?_
    have hz := hE _ (Option.some.inj h).symm
    exact hz
  · replace h := (if_neg q1).symm.trans h
    refine i_iload S dX10_follow_24 rfl ?_
    refine i_bipush (v := 10) S dX10_follow_26 bp_10 ?_
    refine i_icmp_ge (tgt := 112) S dX10_follow_28 (by decide) (fun q2 => ?_) (fun q2 => ?_)
    · replace h := (if_pos q2).symm.trans h
      refine i_mask (L1 := [none, none, none, some (.int x3), some (.long s.1), none, some (.int s.2.1), none, none, none]) S [false, false, false, true, true, false, true, false, false, false] rfl ?_
      have hz := hE _ (Option.some.inj h).symm
      exact hz
    · replace h := (if_neg q2).symm.trans h
      refine i_aload_n S dX10_follow_31 rfl ?_
      refine i_iload S dX10_follow_32 rfl ?_
      obtain ⟨hL3, h⟩ := onLn h
      obtain ⟨p4, e4, h⟩ := bn h
      refine i_callV (As := [.int s.2.2.2.1]) (st1 := [.int p4]) S (c_X8_byteAt g (d + 5) hL3 e4) mw_X8_byteAt lk_X10_65 im_X8_byteAt se_X8_byteAt ci_8.1 ci_8.2.1 (k12 hL3) dX10_follow_34 rfl rfl (Nat.le_of_ble_eq_true rfl) rfl ?_
      refine i_istore (L1 := [some (rf g 44), some (rf g 12), some (.int x2), some (.int x3), some (.long s.1), none, some (.int s.2.1), some (.int s.2.2.1), some (.int s.2.2.2.1), some (.int p4)]) S dX10_follow_37 (by decide) rfl ?_
      refine i_iload S dX10_follow_39 rfl ?_
      refine i_iload S dX10_follow_41 rfl ?_
      refine i_callSN (As := [.int s.2.2.1, .int p4]) (st1 := [.int (f_X11_contains s.2.2.1 p4)]) S (c_X11_contains g (d + 5) rfl) mw_X11_contains lk_X10_19 im_X11_contains dX10_follow_43 rfl rfl (Nat.le_of_ble_eq_true rfl) rfl ?_
      refine i_if_ne (tgt := 53) S dX10_follow_46 (by decide) (fun q5 => ?_) (fun q5 => ?_)
      · replace h := (if_neg q5).symm.trans h
        refine i_iload S dX10_follow_53 rfl ?_
        refine i_iload S dX10_follow_55 rfl ?_
        refine i_callSN (As := [.int s.2.2.1, .int p4]) (st1 := [.int (f_X11_without s.2.2.1 p4)]) S (c_X11_without g (d + 5) rfl) mw_X11_without lk_X10_23 im_X11_without dX10_follow_57 rfl rfl (Nat.le_of_ble_eq_true rfl) rfl ?_
        refine i_istore (L1 := [some (rf g 44), some (rf g 12), some (.int x2), some (.int x3), some (.long s.1), none, some (.int s.2.1), some (.int (f_X11_without s.2.2.1 p4)), some (.int s.2.2.2.1), some (.int p4)]) S dX10_follow_60 (by decide) rfl ?_
        refine i_lload S dX10_follow_62 rfl ?_
        refine i_aload_n S dX10_follow_64 rfl ?_
        refine i_getR S fl_X10_15 (k44 hL3) (r44_1 hL3) rfl dX10_follow_65 ?_
        refine i_aload_n S dX10_follow_68 rfl ?_
        refine i_getR S fl_X10_15 (k44 hL3) (r44_1 hL3) rfl dX10_follow_69 ?_
        refine i_iload S dX10_follow_72 rfl ?_
        obtain ⟨p6, e6, h⟩ := bn h
        refine i_callV (As := [.int (f_X11_without s.2.2.1 p4)]) (st1 := [rf g p6.1, rf g 14, .long s.1]) S (c_X9_speech g (d + 1) hL3 e6) mw_X9_speech lk_X10_27 im_X9_speech se_X9_speech ci_9.1 ci_9.2.1 (k14 hL3) dX10_follow_74 rfl rfl (Nat.le_of_ble_eq_true rfl) rfl ?_
        refine i_iconst (v := -1) S dX10_follow_77 ic_m1 ?_
        obtain ⟨hs7, h⟩ := gd h
        obtain ⟨hL8, h⟩ := onLn h
        obtain ⟨p9, e9, h⟩ := bn h
        refine i_callV (As := [rf g p6.1, .int ((-1 : Int32))]) (st1 := [.long p9.1, .long s.1]) S (c_X9_yearly g (d + 1) hL8 hs7 e9) mw_X9_yearly lk_X10_33 im_X9_yearly se_X9_yearly ci_9.1 ci_9.2.1 (k14 hL8) dX10_follow_78 rfl rfl (Nat.le_of_ble_eq_true rfl) rfl ?_
        refine i_ladd S dX10_follow_81 ?_
        refine i_lstore (L1 := [some (rf g 44), some (rf g 12), some (.int x2), some (.int x3), some (.long (s.1 + p9.1)), none, some (.int s.2.1), some (.int (f_X11_without s.2.2.1 p4)), some (.int s.2.2.2.1), some (.int p4)]) S dX10_follow_82 (by decide) rfl ?_
        refine i_iload S dX10_follow_84 rfl ?_
        refine i_iconst (v := -1) S dX10_follow_86 ic_m1 ?_
        obtain ⟨p11, e11, h⟩ := bn h
        have hj11 : ∀ q11, p11 = q11 → V 106 [some (rf g 44), some (rf g 12), some (.int x2), some (.int x3), some (.long (s.1 + p9.1)), none, some (.int q11.1), some (.int (f_X11_without s.2.2.1 p4)), some (.int s.2.2.2.1), none] [] q11.2 := by
          intro q11 hq11
          subst hq11
          refine i_iinc (L1 := [some (rf g 44), some (rf g 12), some (.int x2), some (.int x3), some (.long (s.1 + p9.1)), none, some (.int p11.1), some (.int (f_X11_without s.2.2.1 p4)), some (.int (s.2.2.2.1 + (1 : Int32))), none]) S dX10_follow_106 rfl ic_1 (by decide) rfl ?_
          refine i_goto (tgt := 18) S dX10_follow_109 (by decide) ?_
          have hz := hC _ (Option.some.inj h).symm
          exact hz
        replace h := e11
        clear e11
        refine i_icmp_ne (tgt := 106) S dX10_follow_87 (by decide) (fun q10 => ?_) (fun q10 => ?_)
        · replace h := (if_neg q10).symm.trans h
          refine i_mask (L1 := [some (rf g 44), some (rf g 12), some (.int x2), some (.int x3), some (.long (s.1 + p9.1)), none, some (.int s.2.1), some (.int (f_X11_without s.2.2.1 p4)), some (.int s.2.2.2.1), none]) S [true, true, true, true, true, false, true, true, true, false] rfl ?_
          have hz := hj11 _ (Option.some.inj h).symm
          exact hz
        · replace h := (if_pos q10).symm.trans h
          refine i_aload_n S dX10_follow_90 rfl ?_
          obtain ⟨hL12, h⟩ := onLn h
          refine i_getR S fl_X10_15 (k44 hL12) (r44_1 hL12) rfl dX10_follow_91 ?_
          refine i_iload S dX10_follow_94 rfl ?_
          obtain ⟨p13, e13, h⟩ := bn h
          refine i_callV (As := [.int (f_X11_without s.2.2.1 p4)]) (st1 := [.int p13.1]) S (c_X9_missed g d hL12 e13) mw_X9_missed lk_X10_72 im_X9_missed se_X9_missed ci_9.1 ci_9.2.1 (k14 hL12) dX10_follow_96 rfl rfl (Nat.le_of_ble_eq_true rfl) rfl ?_
          refine i_if_eq (tgt := 106) S dX10_follow_99 (by decide) (fun q14 => ?_) (fun q14 => ?_)
          · replace h := (if_pos q14).symm.trans h
            refine i_mask (L1 := [some (rf g 44), some (rf g 12), some (.int x2), some (.int x3), some (.long (s.1 + p9.1)), none, some (.int s.2.1), some (.int (f_X11_without s.2.2.1 p4)), some (.int s.2.2.2.1), none]) S [true, true, true, true, true, false, true, true, true, false] rfl ?_
            have hz := hj11 _ (Option.some.inj h).symm
            exact hz
          · replace h := (if_neg q14).symm.trans h
            refine i_iload S dX10_follow_102 rfl ?_
            refine i_istore (L1 := [some (rf g 44), some (rf g 12), some (.int x2), some (.int x3), some (.long (s.1 + p9.1)), none, some (.int s.2.2.2.1), some (.int (f_X11_without s.2.2.1 p4)), some (.int s.2.2.2.1), some (.int p4)]) S dX10_follow_104 (by decide) rfl ?_
            refine i_mask (L1 := [some (rf g 44), some (rf g 12), some (.int x2), some (.int x3), some (.long (s.1 + p9.1)), none, some (.int s.2.2.2.1), some (.int (f_X11_without s.2.2.1 p4)), some (.int s.2.2.2.1), none]) S [true, true, true, true, true, false, true, true, true, false] rfl ?_
            have hz := hj11 _ (Option.some.inj h).symm
            exact hz
      · replace h := (if_pos q5).symm.trans h
        refine i_mask (L1 := [none, none, none, none, none, none, none, none, none, none]) S [false, false, false, false, false, false, false, false, false, false] rfl ?_
        have hz := hE _ (Option.some.inj h).symm
        exact hz
set_option maxHeartbeats 4000000 in
set_option maxRecDepth 100000 in
theorem c_X10_follow (g : Gx) (d : Nat) {x2 : Int32} {x3 : Int32} {w : Mm} {p : (Int64 × Mm)} (hL : Lay w) (h : f_X10_follow x2 x3 w = some p) : Call g (d + 7) yX10_follow cX10_follow 10 (some .long) [rf g 44, rf g 12, .int x2, .int x3] w (some (.long p.1)) p.2 := by
  refine call_of (L0 := [some (rf g 44), some (rf g 12), some (.int x2), some (.int x3), none, none, none, none, none, none]) (by decide) rfl (Nat.le_of_ble_eq_true rfl) (fun V S0 => ?_)
  have S := S0.b
  unfold f_X10_follow at h
  refine i_lconst (v := 0) S dX10_follow_0 lc_0 ?_
  refine i_lstore (L1 := [some (rf g 44), some (rf g 12), some (.int x2), some (.int x3), some (.long ((0 : Int64))), none, none, none, none, none]) S dX10_follow_1 (by decide) rfl ?_
  refine i_iconst (v := -1) S dX10_follow_3 ic_m1 ?_
  refine i_istore (L1 := [some (rf g 44), some (rf g 12), some (.int x2), some (.int x3), some (.long ((0 : Int64))), none, some (.int ((-1 : Int32))), none, none, none]) S dX10_follow_4 (by decide) rfl ?_
  refine i_aload_n S dX10_follow_6 rfl ?_
  refine i_getR S fl_X10_9 (k44 hL) (r44_0 hL) rfl dX10_follow_7 ?_
  refine i_getIv (v := gI w 1 5) S fl_X10_41 (k1 hL) rfl rfl dX10_follow_10 ?_
  refine i_istore (L1 := [some (rf g 44), some (rf g 12), some (.int x2), some (.int x3), some (.long ((0 : Int64))), none, some (.int ((-1 : Int32))), some (.int (gI w 1 5)), none, none]) S dX10_follow_13 (by decide) rfl ?_
  refine i_iconst (v := 0) S dX10_follow_15 ic_0 ?_
  refine i_istore (L1 := [some (rf g 44), some (rf g 12), some (.int x2), some (.int x3), some (.long ((0 : Int64))), none, some (.int ((-1 : Int32))), some (.int (gI w 1 5)), some (.int ((0 : Int32))), none]) S dX10_follow_16 (by decide) rfl ?_
  obtain ⟨p1, e1, h⟩ := bn h
  have hE1 : if p1.1 = 0 then V 112 [none, none, none, some (.int x3), some (.long p1.2.1), none, some (.int p1.2.2.1), none, none, none] [] p1.2.2.2 else (V 49 [none, none, none, none, none, none, none, none, none, none] [] p1.2.2.2) := by
    by_cases hx1_0 : p1.1 = 0
    · rw [if_pos hx1_0]
      replace h := (if_pos hx1_0).symm.trans h
      refine i_iload_n S dX10_follow_112 rfl ?_
      refine i_if_ne (tgt := 121) S dX10_follow_113 (by decide) (fun q2 => ?_) (fun q2 => ?_)
      · replace h := (if_neg q2).symm.trans h
        refine i_iload S dX10_follow_121 rfl ?_
        refine i_i2l S dX10_follow_123 ?_
        cases h
        exact i_lret S0 dX10_follow_124
      · replace h := (if_pos q2).symm.trans h
        refine i_lload S dX10_follow_116 rfl ?_
        refine i_goto (tgt := 124) S dX10_follow_118 (by decide) ?_
        cases h
        exact i_lret S0 dX10_follow_124
    · rw [if_neg hx1_0]
      replace h := (if_neg hx1_0).symm.trans h
      refine i_ldc2 S kl_X10_70 dX10_follow_49 ?_
      cases h
      exact i_lret S0 dX10_follow_52
  exact wh_V (P := fun sv1 => V 18 [some (rf g 44), some (rf g 12), some (.int x2), some (.int x3), some (.long sv1.1), none, some (.int sv1.2.1), some (.int sv1.2.2.1), some (.int sv1.2.2.2.1), none] [] sv1.2.2.2.2) (E := fun xv1 => if xv1.1 = 0 then V 112 [none, none, none, some (.int x3), some (.long xv1.2.1), none, some (.int xv1.2.2.1), none, none, none] [] xv1.2.2.2 else (V 49 [none, none, none, none, none, none, none, none, none, none] [] xv1.2.2.2)) (fun sv1 ev hb hc he => t_l_X10_follow_18   S  sv1 ev hb hc he) FUEL _ _ e1 hE1
/-! WordYear$Years.bearable -/
noncomputable def l_X10_bearable_12  (s : Int32 × Int32 × Int32 × Mm) : Option ((Int32 × Int32 × Int32 × Mm) ⊕ (Nat × Int32 × Mm)) := if (10 : Int32) ≤ s.2.2.1 then (some (.inr (0, s.1, s.2.2.2))) else (if s.2.1 = 0 then (some (.inr (0, s.1, s.2.2.2))) else (onL s.2.2.2 (Option.bind (f_X10_cheapest s.2.1 s.2.2.2) (fun p4 => if p4.1 = (-1 : Int32) then (some (.inr (1, s.1, p4.2))) else (onL p4.2 (Option.bind (f_X9_missed (f_X11_without s.2.1 p4.1) p4.2) (fun p7 => if p7.1 = 0 then (some (.inl (s.1 + (1 : Int32), f_X11_without s.2.1 p4.1, s.2.2.1 + (1 : Int32), p7.2))) else (some (.inr (2, s.1, p7.2))))))))))
noncomputable def f_X10_bearable  (w : Mm) : Option (Int32 × Mm) := Option.bind (wh l_X10_bearable_12 FUEL ((0 : Int32), gI w 1 5, (0 : Int32), w)) (fun p1 => if p1.1 = 0 then (some (p1.2.1, p1.2.2)) else (if p1.1 = 1 then (some (p1.2.1, p1.2.2)) else (some (p1.2.1, p1.2.2))))
set_option maxHeartbeats 4000000 in
set_option maxRecDepth 100000 in
theorem t_l_X10_bearable_12 {g : Gx} {V : Vt} {d : Nat} (S : MachB g yX10_bearable cX10_bearable 5 (d + 6) V)   (s : Int32 × Int32 × Int32 × Mm) (e : (Int32 × Int32 × Int32 × Mm) ⊕ (Nat × Int32 × Mm)) (h : l_X10_bearable_12  s = some e) (hC : ∀ s2, e = .inl s2 → V 12 [some (rf g 44), some (.int s2.1), some (.int s2.2.1), some (.int s2.2.2.1), none] [] s2.2.2.2) (hE : ∀ x, e = .inr x → if x.1 = 0 then V 66 [none, some (.int x.2.1), none, none, none] [] x.2.2 else (if x.1 = 1 then V 35 [none, some (.int x.2.1), none, none, none] [] x.2.2 else (V 55 [none, some (.int x.2.1), none, none, none] [] x.2.2))) : V 12 [some (rf g 44), some (.int s.1), some (.int s.2.1), some (.int s.2.2.1), none] [] s.2.2.2 := by
  unfold l_X10_bearable_12 at h
  refine i_iload_n S dX10_bearable_12 rfl ?_
  refine i_bipush (v := 10) S dX10_bearable_13 bp_10 ?_
  refine i_icmp_ge (tgt := 66) S dX10_bearable_15 (by decide) (fun q1 => ?_) (fun q1 => ?_)
  · replace h := (if_pos q1).symm.trans h
    refine i_mask (L1 := [none, some (.int s.1), none, none, none]) S [false, true, false, false, false] rfl ?_
    have hz := hE _ (Option.some.inj h).symm
    exact hz
  · replace h := (if_neg q1).symm.trans h
    refine i_iload_n S dX10_bearable_18 rfl ?_
    refine i_if_eq (tgt := 66) S dX10_bearable_19 (by decide) (fun q2 => ?_) (fun q2 => ?_)
    · replace h := (if_pos q2).symm.trans h
      refine i_mask (L1 := [none, some (.int s.1), none, none, none]) S [false, true, false, false, false] rfl ?_
      have hz := hE _ (Option.some.inj h).symm
      exact hz
    · replace h := (if_neg q2).symm.trans h
      refine i_aload_n S dX10_bearable_22 rfl ?_
      refine i_iload_n S dX10_bearable_23 rfl ?_
      obtain ⟨hL3, h⟩ := onLn h
      obtain ⟨p4, e4, h⟩ := bn h
      refine i_callV (As := [.int s.2.1]) (st1 := [.int p4.1]) S (c_X10_cheapest g d hL3 e4) mw_X10_cheapest lk_X10_62 im_X10_cheapest se_X10_cheapest ci_10.1 ci_10.2.1 (k44 hL3) dX10_bearable_24 rfl rfl (Nat.le_of_ble_eq_true rfl) rfl ?_
      refine i_istore (L1 := [some (rf g 44), some (.int s.1), some (.int s.2.1), some (.int s.2.2.1), some (.int p4.1)]) S dX10_bearable_27 (by decide) rfl ?_
      refine i_iload S dX10_bearable_29 rfl ?_
      refine i_iconst (v := -1) S dX10_bearable_31 ic_m1 ?_
      refine i_icmp_ne (tgt := 37) S dX10_bearable_32 (by decide) (fun q5 => ?_) (fun q5 => ?_)
      · replace h := (if_neg q5).symm.trans h
        refine i_iload_n S dX10_bearable_37 rfl ?_
        refine i_iload S dX10_bearable_38 rfl ?_
        refine i_callSN (As := [.int s.2.1, .int p4.1]) (st1 := [.int (f_X11_without s.2.1 p4.1)]) S (c_X11_without g (d + 5) rfl) mw_X11_without lk_X10_23 im_X11_without dX10_bearable_40 rfl rfl (Nat.le_of_ble_eq_true rfl) rfl ?_
        refine i_istore_n (L1 := [some (rf g 44), some (.int s.1), some (.int (f_X11_without s.2.1 p4.1)), some (.int s.2.2.1), some (.int p4.1)]) S dX10_bearable_43 (by decide) rfl ?_
        refine i_aload_n S dX10_bearable_44 rfl ?_
        obtain ⟨hL6, h⟩ := onLn h
        refine i_getR S fl_X10_15 (k44 hL6) (r44_1 hL6) rfl dX10_bearable_45 ?_
        refine i_iload_n S dX10_bearable_48 rfl ?_
        obtain ⟨p7, e7, h⟩ := bn h
        refine i_callV (As := [.int (f_X11_without s.2.1 p4.1)]) (st1 := [.int p7.1]) S (c_X9_missed g d hL6 e7) mw_X9_missed lk_X10_72 im_X9_missed se_X9_missed ci_9.1 ci_9.2.1 (k14 hL6) dX10_bearable_49 rfl rfl (Nat.le_of_ble_eq_true rfl) rfl ?_
        refine i_if_eq (tgt := 57) S dX10_bearable_52 (by decide) (fun q8 => ?_) (fun q8 => ?_)
        · replace h := (if_pos q8).symm.trans h
          refine i_iinc (L1 := [some (rf g 44), some (.int (s.1 + (1 : Int32))), some (.int (f_X11_without s.2.1 p4.1)), some (.int s.2.2.1), some (.int p4.1)]) S dX10_bearable_57 rfl ic_1 (by decide) rfl ?_
          refine i_iinc (L1 := [some (rf g 44), some (.int (s.1 + (1 : Int32))), some (.int (f_X11_without s.2.1 p4.1)), some (.int (s.2.2.1 + (1 : Int32))), some (.int p4.1)]) S dX10_bearable_60 rfl ic_1 (by decide) rfl ?_
          refine i_goto (tgt := 12) S dX10_bearable_63 (by decide) ?_
          refine i_mask (L1 := [some (rf g 44), some (.int (s.1 + (1 : Int32))), some (.int (f_X11_without s.2.1 p4.1)), some (.int (s.2.2.1 + (1 : Int32))), none]) S [true, true, true, true, false] rfl ?_
          have hz := hC _ (Option.some.inj h).symm
          exact hz
        · replace h := (if_neg q8).symm.trans h
          refine i_mask (L1 := [none, some (.int s.1), none, none, none]) S [false, true, false, false, false] rfl ?_
          have hz := hE _ (Option.some.inj h).symm
          exact hz
      · replace h := (if_pos q5).symm.trans h
        refine i_mask (L1 := [none, some (.int s.1), none, none, none]) S [false, true, false, false, false] rfl ?_
        have hz := hE _ (Option.some.inj h).symm
        exact hz
set_option maxHeartbeats 4000000 in
set_option maxRecDepth 100000 in
theorem c_X10_bearable (g : Gx) (d : Nat)  {w : Mm} {p : (Int32 × Mm)} (hL : Lay w) (h : f_X10_bearable w = some p) : Call g (d + 7) yX10_bearable cX10_bearable 5 (some .int) [rf g 44] w (some (.int p.1)) p.2 := by
  refine call_of (L0 := [some (rf g 44), none, none, none, none]) (by decide) rfl (Nat.le_of_ble_eq_true rfl) (fun V S0 => ?_)
  have S := S0.b
  unfold f_X10_bearable at h
  refine i_iconst (v := 0) S dX10_bearable_0 ic_0 ?_
  refine i_istore_n (L1 := [some (rf g 44), some (.int ((0 : Int32))), none, none, none]) S dX10_bearable_1 (by decide) rfl ?_
  refine i_aload_n S dX10_bearable_2 rfl ?_
  refine i_getR S fl_X10_9 (k44 hL) (r44_0 hL) rfl dX10_bearable_3 ?_
  refine i_getIv (v := gI w 1 5) S fl_X10_41 (k1 hL) rfl rfl dX10_bearable_6 ?_
  refine i_istore_n (L1 := [some (rf g 44), some (.int ((0 : Int32))), some (.int (gI w 1 5)), none, none]) S dX10_bearable_9 (by decide) rfl ?_
  refine i_iconst (v := 0) S dX10_bearable_10 ic_0 ?_
  refine i_istore_n (L1 := [some (rf g 44), some (.int ((0 : Int32))), some (.int (gI w 1 5)), some (.int ((0 : Int32))), none]) S dX10_bearable_11 (by decide) rfl ?_
  obtain ⟨p1, e1, h⟩ := bn h
  have hE1 : if p1.1 = 0 then V 66 [none, some (.int p1.2.1), none, none, none] [] p1.2.2 else (if p1.1 = 1 then V 35 [none, some (.int p1.2.1), none, none, none] [] p1.2.2 else (V 55 [none, some (.int p1.2.1), none, none, none] [] p1.2.2)) := by
    by_cases hx1_0 : p1.1 = 0
    · rw [if_pos hx1_0]
      replace h := (if_pos hx1_0).symm.trans h
      refine i_iload_n S dX10_bearable_66 rfl ?_
      cases h
      exact i_iret S0 rfl dX10_bearable_67
    · rw [if_neg hx1_0]
      replace h := (if_neg hx1_0).symm.trans h
      by_cases hx1_1 : p1.1 = 1
      · rw [if_pos hx1_1]
        replace h := (if_pos hx1_1).symm.trans h
        refine i_iload_n S dX10_bearable_35 rfl ?_
        cases h
        exact i_iret S0 rfl dX10_bearable_36
      · rw [if_neg hx1_1]
        replace h := (if_neg hx1_1).symm.trans h
        refine i_iload_n S dX10_bearable_55 rfl ?_
        cases h
        exact i_iret S0 rfl dX10_bearable_56
  exact wh_V (P := fun sv1 => V 12 [some (rf g 44), some (.int sv1.1), some (.int sv1.2.1), some (.int sv1.2.2.1), none] [] sv1.2.2.2) (E := fun xv1 => if xv1.1 = 0 then V 66 [none, some (.int xv1.2.1), none, none, none] [] xv1.2.2 else (if xv1.1 = 1 then V 35 [none, some (.int xv1.2.1), none, none, none] [] xv1.2.2 else (V 55 [none, some (.int xv1.2.1), none, none, none] [] xv1.2.2))) (fun sv1 ev hb hc he => t_l_X10_bearable_12   S  sv1 ev hb hc he) FUEL _ _ e1 hE1
/-! WordYear$Years.bestOf -/
noncomputable def l_X10_bestOf_7 (x1 : Int32) (s : Int32 × Int64 × Int32 × Mm) : Option ((Int32 × Int64 × Int32 × Mm) ⊕ (Int32 × Mm)) := if (1024 : Int32) ≤ s.2.2.1 then (some (.inr (s.1, s.2.2.2))) else (onL s.2.2.2 (Option.bind (f_X3_isTongue s.2.2.1 s.2.2.2) (fun p3 => Option.bind (if p3 = 0 then (some (s.1, s.2.1, s.2.2.2)) else (if (f_J6_bitCount_0f7a4 s.2.2.1) = x1 then (Option.bind (f_X9_speech s.2.2.1 s.2.2.2) (fun p7 => if isSp p7.2 p7.1 = true then (onL p7.2 (Option.bind (f_X9_yearly p7.1 (-1 : Int32) p7.2) (fun p10 => mg (if s.1 = (-1 : Int32) then (some (.inl ())) else (if s.2.1 ≤ p10.1 then (some (.inr (s.1, s.2.1, p10.2))) else (some (.inl ())))) (fun p12 => some (s.2.2.1, p10.1, p10.2))))) else none)) else (some (s.1, s.2.1, s.2.2.2)))) (fun p5 => some (.inl (p5.1, p5.2.1, s.2.2.1 + (1 : Int32), p5.2.2))))))
noncomputable def f_X10_bestOf (x1 : Int32) (w : Mm) : Option (Int32 × Mm) := Option.bind (wh (l_X10_bestOf_7 x1) FUEL ((-1 : Int32), (0 : Int64), (0 : Int32), w)) (fun p1 => some (p1.1, p1.2))
set_option maxHeartbeats 4000000 in
set_option maxRecDepth 100000 in
theorem t_l_X10_bestOf_7 {g : Gx} {V : Vt} {d : Nat} (S : MachB g yX10_bestOf cX10_bestOf 8 (d + 5) V) {x1 : Int32}  (s : Int32 × Int64 × Int32 × Mm) (e : (Int32 × Int64 × Int32 × Mm) ⊕ (Int32 × Mm)) (h : l_X10_bestOf_7 x1 s = some e) (hC : ∀ s2, e = .inl s2 → V 7 [some (rf g 44), some (.int x1), some (.int s2.1), some (.long s2.2.1), none, some (.int s2.2.2.1), none, none] [] s2.2.2.2) (hE : ∀ x, e = .inr x → V 79 [none, none, some (.int x.1), none, none, none, none, none] [] x.2) : V 7 [some (rf g 44), some (.int x1), some (.int s.1), some (.long s.2.1), none, some (.int s.2.2.1), none, none] [] s.2.2.2 := by
  unfold l_X10_bestOf_7 at h
  refine i_iload S dX10_bestOf_7 rfl ?_
  refine i_sipush (v := 1024) S dX10_bestOf_9 sp_1024 ?_
  refine i_icmp_ge (tgt := 79) S dX10_bestOf_12 (by decide) (fun q1 => ?_) (fun q1 => ?_)
  · replace h := (if_pos q1).symm.trans h
    refine i_mask (L1 := [none, none, some (.int s.1), none, none, none, none, none]) S [false, false, true, false, false, false, false, false] rfl ?_
    have hz := hE _ (Option.some.inj h).symm
    exact hz
  · replace h := (if_neg q1).symm.trans h
    refine i_aload_n S dX10_bestOf_15 rfl ?_
    obtain ⟨hL2, h⟩ := onLn h
    refine i_getR S fl_X10_9 (k44 hL2) (r44_0 hL2) rfl dX10_bestOf_16 ?_
    refine i_iload S dX10_bestOf_19 rfl ?_
    obtain ⟨p3, e3, h⟩ := bn h
    refine i_callV (As := [.int s.2.2.1]) (st1 := [.int p3]) S (c_X3_isTongue g (d + 3) hL2 e3) mw_X3_isTongue lk_X10_75 im_X3_isTongue se_X3_isTongue ci_3.1 ci_3.2.1 (k1 hL2) dX10_bestOf_21 rfl rfl (Nat.le_of_ble_eq_true rfl) rfl ?_
    obtain ⟨p5, e5, h⟩ := bn h
    have hj5 : ∀ q5, p5 = q5 → V 73 [some (rf g 44), some (.int x1), some (.int q5.1), some (.long q5.2.1), none, some (.int s.2.2.1), none, none] [] q5.2.2 := by
      intro q5 hq5
      subst hq5
      refine i_iinc (L1 := [some (rf g 44), some (.int x1), some (.int p5.1), some (.long p5.2.1), none, some (.int (s.2.2.1 + (1 : Int32))), none, none]) S dX10_bestOf_73 rfl ic_1 (by decide) rfl ?_
      refine i_goto (tgt := 7) S dX10_bestOf_76 (by decide) ?_
      have hz := hC _ (Option.some.inj h).symm
      exact hz
    replace h := e5
    clear e5
    refine i_if_eq (tgt := 73) S dX10_bestOf_24 (by decide) (fun q4 => ?_) (fun q4 => ?_)
    · replace h := (if_pos q4).symm.trans h
      have hz := hj5 _ (Option.some.inj h).symm
      exact hz
    · replace h := (if_neg q4).symm.trans h
      refine i_iload S dX10_bestOf_27 rfl ?_
      refine i_callS (As := [.int s.2.2.1]) (st1 := [.int (f_J6_bitCount_0f7a4 s.2.2.1)]) S (c_J6_bitCount_0f7a4 g (d + 4) rfl) mw_J6_bitCount_0f7a4 lk_X10_47 im_J6_bitCount_0f7a4 dX10_bestOf_29 rfl rfl (Nat.le_of_ble_eq_true rfl) rfl ?_
      refine i_iload_n S dX10_bestOf_32 rfl ?_
      refine i_icmp_ne (tgt := 73) S dX10_bestOf_33 (by decide) (fun q6 => ?_) (fun q6 => ?_)
      · replace h := (if_neg q6).symm.trans h
        have hz := hj5 _ (Option.some.inj h).symm
        exact hz
      · replace h := (if_pos q6).symm.trans h
        refine i_aload_n S dX10_bestOf_36 rfl ?_
        refine i_getR S fl_X10_15 (k44 hL2) (r44_1 hL2) rfl dX10_bestOf_37 ?_
        refine i_aload_n S dX10_bestOf_40 rfl ?_
        refine i_getR S fl_X10_15 (k44 hL2) (r44_1 hL2) rfl dX10_bestOf_41 ?_
        refine i_iload S dX10_bestOf_44 rfl ?_
        obtain ⟨p7, e7, h⟩ := bn h
        refine i_callV (As := [.int s.2.2.1]) (st1 := [rf g p7.1, rf g 14]) S (c_X9_speech g d hL2 e7) mw_X9_speech lk_X10_27 im_X9_speech se_X9_speech ci_9.1 ci_9.2.1 (k14 hL2) dX10_bestOf_46 rfl rfl (Nat.le_of_ble_eq_true rfl) rfl ?_
        refine i_iconst (v := -1) S dX10_bestOf_49 ic_m1 ?_
        obtain ⟨hs8, h⟩ := gd h
        obtain ⟨hL9, h⟩ := onLn h
        obtain ⟨p10, e10, h⟩ := bn h
        refine i_callV (As := [rf g p7.1, .int ((-1 : Int32))]) (st1 := [.long p10.1]) S (c_X9_yearly g d hL9 hs8 e10) mw_X9_yearly lk_X10_33 im_X9_yearly se_X9_yearly ci_9.1 ci_9.2.1 (k14 hL9) dX10_bestOf_50 rfl rfl (Nat.le_of_ble_eq_true rfl) rfl ?_
        refine i_lstore (L1 := [some (rf g 44), some (.int x1), some (.int s.1), some (.long s.2.1), none, some (.int s.2.2.1), some (.long p10.1), none]) S dX10_bestOf_53 (by decide) rfl ?_
        refine i_iload_n S dX10_bestOf_55 rfl ?_
        refine i_iconst (v := -1) S dX10_bestOf_56 ic_m1 ?_
        obtain ⟨s12, e12, hm12, ho12⟩ := mgn h
        have hj12 : ∀ p12, s12 = .inl p12 → V 67 [some (rf g 44), some (.int x1), none, none, none, some (.int s.2.2.1), some (.long p10.1), none] [] p10.2 := by
          intro p12 ep12
          have h := hm12 p12 ep12
          refine i_iload S dX10_bestOf_67 rfl ?_
          refine i_istore_n (L1 := [some (rf g 44), some (.int x1), some (.int s.2.2.1), none, none, some (.int s.2.2.1), some (.long p10.1), none]) S dX10_bestOf_69 (by decide) rfl ?_
          refine i_lload S dX10_bestOf_70 rfl ?_
          refine i_lstore_n (L1 := [some (rf g 44), some (.int x1), some (.int s.2.2.1), some (.long p10.1), none, some (.int s.2.2.1), some (.long p10.1), none]) S dX10_bestOf_72 (by decide) rfl ?_
          refine i_mask (L1 := [some (rf g 44), some (.int x1), some (.int s.2.2.1), some (.long p10.1), none, some (.int s.2.2.1), none, none]) S [true, true, true, true, false, true, false, false] rfl ?_
          have hz := hj5 _ (Option.some.inj h).symm
          exact hz
        replace h := e12
        clear e12
        refine i_icmp_eq (tgt := 67) S dX10_bestOf_57 (by decide) (fun q11 => ?_) (fun q11 => ?_)
        · replace h := (if_pos q11).symm.trans h
          refine i_mask (L1 := [some (rf g 44), some (.int x1), none, none, none, some (.int s.2.2.1), some (.long p10.1), none]) S [true, true, false, false, false, true, true, false] rfl ?_
          have hz := hj12 _ (Option.some.inj h).symm
          exact hz
        · replace h := (if_neg q11).symm.trans h
          refine i_lload S dX10_bestOf_60 rfl ?_
          refine i_lload_n S dX10_bestOf_62 rfl ?_
          refine i_lc_ge (tgt := 73) S dX10_bestOf_63 dX10_bestOf_64 (by decide) (fun q13 => ?_) (fun q13 => ?_)
          · replace h := (if_pos q13).symm.trans h
            replace h := ho12 _ (Option.some.inj h).symm
            refine i_mask (L1 := [some (rf g 44), some (.int x1), some (.int s.1), some (.long s.2.1), none, some (.int s.2.2.1), none, none]) S [true, true, true, true, false, true, false, false] rfl ?_
            have hz := hj5 _ (Option.some.inj h).symm
            exact hz
          · replace h := (if_neg q13).symm.trans h
            refine i_mask (L1 := [some (rf g 44), some (.int x1), none, none, none, some (.int s.2.2.1), some (.long p10.1), none]) S [true, true, false, false, false, true, true, false] rfl ?_
            have hz := hj12 _ (Option.some.inj h).symm
            exact hz
set_option maxHeartbeats 4000000 in
set_option maxRecDepth 100000 in
theorem c_X10_bestOf (g : Gx) (d : Nat) {x1 : Int32} {w : Mm} {p : (Int32 × Mm)} (hL : Lay w) (h : f_X10_bestOf x1 w = some p) : Call g (d + 6) yX10_bestOf cX10_bestOf 8 (some .int) [rf g 44, .int x1] w (some (.int p.1)) p.2 := by
  refine call_of (L0 := [some (rf g 44), some (.int x1), none, none, none, none, none, none]) (by decide) rfl (Nat.le_of_ble_eq_true rfl) (fun V S0 => ?_)
  have S := S0.b
  unfold f_X10_bestOf at h
  refine i_iconst (v := -1) S dX10_bestOf_0 ic_m1 ?_
  refine i_istore_n (L1 := [some (rf g 44), some (.int x1), some (.int ((-1 : Int32))), none, none, none, none, none]) S dX10_bestOf_1 (by decide) rfl ?_
  refine i_lconst (v := 0) S dX10_bestOf_2 lc_0 ?_
  refine i_lstore_n (L1 := [some (rf g 44), some (.int x1), some (.int ((-1 : Int32))), some (.long ((0 : Int64))), none, none, none, none]) S dX10_bestOf_3 (by decide) rfl ?_
  refine i_iconst (v := 0) S dX10_bestOf_4 ic_0 ?_
  refine i_istore (L1 := [some (rf g 44), some (.int x1), some (.int ((-1 : Int32))), some (.long ((0 : Int64))), none, some (.int ((0 : Int32))), none, none]) S dX10_bestOf_5 (by decide) rfl ?_
  obtain ⟨p1, e1, h⟩ := bn h
  have hE1 : V 79 [none, none, some (.int p1.1), none, none, none, none, none] [] p1.2 := by
    refine i_iload_n S dX10_bestOf_79 rfl ?_
    cases h
    exact i_iret S0 rfl dX10_bestOf_80
  exact wh_V (P := fun sv1 => V 7 [some (rf g 44), some (.int x1), some (.int sv1.1), some (.long sv1.2.1), none, some (.int sv1.2.2.1), none, none] [] sv1.2.2.2) (E := fun xv1 => V 79 [none, none, some (.int xv1.1), none, none, none, none, none] [] xv1.2) (fun sv1 ev hb hc he => t_l_X10_bestOf_7   S  sv1 ev hb hc he) FUEL _ _ e1 hE1
