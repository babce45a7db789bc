/-! WordYear.spite -/
noncomputable def f_X11_spite (x1 : Int32) (w : Mm) : Option (Int32 × Mm) := if (f_X11_within x1 (0 : Int32) (3 : Int32)) = 0 then (some ((-1 : Int32), w)) else (Option.bind (f_X0_spiteful x1 w) (fun p2 => some (p2.1, p2.2)))
set_option maxHeartbeats 4000000 in
set_option maxRecDepth 100000 in
theorem c_X11_spite (g : Gx) (d : Nat) {x1 : Int32} {w : Mm} {p : (Int32 × Mm)} (hL : Lay w) (h : f_X11_spite x1 w = some p) : Call g (d + 7) yX11_spite cX11_spite 2 (some .int) [rf g 0, .int x1] w (some (.int p.1)) p.2 := by
  refine call_of (L0 := [some (rf g 0), some (.int x1)]) (by decide) rfl (Nat.le_of_ble_eq_true rfl) (fun V S0 => ?_)
  have S := S0.b
  unfold f_X11_spite at h
  refine i_iload_n S dX11_spite_0 rfl ?_
  refine i_iconst (v := 0) S dX11_spite_1 ic_0 ?_
  refine i_iconst (v := 3) S dX11_spite_2 ic_3 ?_
  refine i_callS (As := [.int x1, .int ((0 : Int32)), .int ((3 : Int32))]) (st1 := [.int (f_X11_within x1 (0 : Int32) (3 : Int32))]) S (c_X11_within g (d + 5) rfl) mw_X11_within lk_X11_86 im_X11_within dX11_spite_3 rfl rfl (Nat.le_of_ble_eq_true rfl) rfl ?_
  refine i_if_eq (tgt := 20) S dX11_spite_6 (by decide) (fun q1 => ?_) (fun q1 => ?_)
  · replace h := (if_pos q1).symm.trans h
    refine i_iconst (v := -1) S dX11_spite_20 ic_m1 ?_
    cases h
    exact i_iret S0 rfl dX11_spite_21
  · replace h := (if_neg q1).symm.trans h
    refine i_aload_n S dX11_spite_9 rfl ?_
    refine i_getR S fl_X11_66 (k0 hL) (r0_7 hL) rfl dX11_spite_10 ?_
    refine i_iload_n S dX11_spite_13 rfl ?_
    obtain ⟨p2, e2, h⟩ := bn h
    refine i_callV (As := [.int x1]) (st1 := [.int p2.1]) S (c_X0_spiteful g d hL e2) mw_X0_spiteful lk_X11_187 im_X0_spiteful se_X0_spiteful ci_0.1 ci_0.2.1 (k41 hL) dX11_spite_14 rfl rfl (Nat.le_of_ble_eq_true rfl) rfl ?_
    refine i_goto (tgt := 21) S dX11_spite_17 (by decide) ?_
    cases h
    exact i_iret S0 rfl dX11_spite_21
/-! WordYear.vote -/
noncomputable def f_X11_vote (x1 : Int32) (w : Mm) : Option (Int32 × Mm) := if (f_X11_within x1 (0 : Int32) (3 : Int32)) = 0 then (some ((-1 : Int32), w)) else (if (gI w 1 5) = 0 then (some ((-1 : Int32), w)) else (Option.bind (f_X1_voters w) (fun p3 => if p3 = 0 then (some ((-1 : Int32), w)) else (Option.bind (f_X0_elect x1 w) (fun p5 => some (p5.1, p5.2))))))
set_option maxHeartbeats 4000000 in
set_option maxRecDepth 100000 in
theorem c_X11_vote (g : Gx) (d : Nat) {x1 : Int32} {w : Mm} {p : (Int32 × Mm)} (hL : Lay w) (h : f_X11_vote x1 w = some p) : Call g (d + 8) yX11_vote cX11_vote 2 (some .int) [rf g 0, .int x1] w (some (.int p.1)) p.2 := by
  refine call_of (L0 := [some (rf g 0), some (.int x1)]) (by decide) rfl (Nat.le_of_ble_eq_true rfl) (fun V S0 => ?_)
  have S := S0.b
  unfold f_X11_vote at h
  refine i_iload_n S dX11_vote_0 rfl ?_
  refine i_iconst (v := 0) S dX11_vote_1 ic_0 ?_
  refine i_iconst (v := 3) S dX11_vote_2 ic_3 ?_
  refine i_callS (As := [.int x1, .int ((0 : Int32)), .int ((3 : Int32))]) (st1 := [.int (f_X11_within x1 (0 : Int32) (3 : Int32))]) S (c_X11_within g (d + 6) rfl) mw_X11_within lk_X11_86 im_X11_within dX11_vote_3 rfl rfl (Nat.le_of_ble_eq_true rfl) rfl ?_
  refine i_if_eq (tgt := 29) S dX11_vote_6 (by decide) (fun q1 => ?_) (fun q1 => ?_)
  · replace h := (if_pos q1).symm.trans h
    refine i_iconst (v := -1) S dX11_vote_29 ic_m1 ?_
    cases h
    exact i_iret S0 rfl dX11_vote_30
  · replace h := (if_neg q1).symm.trans h
    refine i_aload_n S dX11_vote_9 rfl ?_
    refine i_getR S fl_X11_10 (k0 hL) (r0_0 hL) rfl dX11_vote_10 ?_
    refine i_getIv (v := gI w 1 5) S fl_X11_171 (k1 hL) rfl rfl dX11_vote_13 ?_
    refine i_if_eq (tgt := 29) S dX11_vote_16 (by decide) (fun q2 => ?_) (fun q2 => ?_)
    · replace h := (if_pos q2).symm.trans h
      refine i_iconst (v := -1) S dX11_vote_29 ic_m1 ?_
      cases h
      exact i_iret S0 rfl dX11_vote_30
    · replace h := (if_neg q2).symm.trans h
      refine i_aload_n S dX11_vote_19 rfl ?_
      refine i_getR S fl_X11_19 (k0 hL) (r0_1 hL) rfl dX11_vote_20 ?_
      obtain ⟨p3, e3, h⟩ := bn h
      refine i_callV (As := []) (st1 := [.int p3]) S (c_X1_voters g (d + 6) hL e3) mw_X1_voters lk_X11_190 im_X1_voters se_X1_voters ci_1.1 ci_1.2.1 (k6 hL) dX11_vote_23 rfl rfl (Nat.le_of_ble_eq_true rfl) rfl ?_
      refine i_if_ne (tgt := 31) S dX11_vote_26 (by decide) (fun q4 => ?_) (fun q4 => ?_)
      · replace h := (if_neg q4).symm.trans h
        refine i_aload_n S dX11_vote_31 rfl ?_
        refine i_getR S fl_X11_66 (k0 hL) (r0_7 hL) rfl dX11_vote_32 ?_
        refine i_iload_n S dX11_vote_35 rfl ?_
        obtain ⟨p5, e5, h⟩ := bn h
        refine i_callV (As := [.int x1]) (st1 := [.int p5.1]) S (c_X0_elect g d hL e5) mw_X0_elect lk_X11_194 im_X0_elect se_X0_elect ci_0.1 ci_0.2.1 (k41 hL) dX11_vote_36 rfl rfl (Nat.le_of_ble_eq_true rfl) rfl ?_
        cases h
        exact i_iret S0 rfl dX11_vote_39
      · replace h := (if_pos q4).symm.trans h
        refine i_iconst (v := -1) S dX11_vote_29 ic_m1 ?_
        cases h
        exact i_iret S0 rfl dX11_vote_30
/-! WordYear.order -/
noncomputable def f_X11_order (x1 : Int32) (x2 : Int32) (w : Mm) : Option (Int64 × Mm) := Option.bind (f_X10_canStrike x1 w) (fun p1 => if p1 = 0 then (some ((-1 : Int64), w)) else (if (f_X11_within x2 (-1 : Int32) (x1 - (1 : Int32))) = 0 then (some ((-1 : Int64), w)) else (Option.bind (f_X10_plan x1 w) (fun p4 => if x2 = (-1 : Int32) then (some (p4.1, p4.2)) else (onL p4.2 (Option.bind (f_X10_planned x2 p4.2) (fun p7 => some (p7.1.toInt64, p7.2))))))))
set_option maxHeartbeats 4000000 in
set_option maxRecDepth 100000 in
theorem c_X11_order (g : Gx) (d : Nat) {x1 : Int32} {x2 : Int32} {w : Mm} {p : (Int64 × Mm)} (hL : Lay w) (h : f_X11_order x1 x2 w = some p) : Call g (d + 8) yX11_order cX11_order 5 (some .long) [rf g 0, .int x1, .int x2] w (some (.long p.1)) p.2 := by
  refine call_of (L0 := [some (rf g 0), some (.int x1), some (.int x2), none, none]) (by decide) rfl (Nat.le_of_ble_eq_true rfl) (fun V S0 => ?_)
  have S := S0.b
  unfold f_X11_order at h
  refine i_aload_n S dX11_order_0 rfl ?_
  refine i_getR S fl_X11_75 (k0 hL) (r0_8 hL) rfl dX11_order_1 ?_
  refine i_iload_n S dX11_order_4 rfl ?_
  obtain ⟨p1, e1, h⟩ := bn h
  refine i_callV (As := [.int x1]) (st1 := [.int p1]) S (c_X10_canStrike g (d + 5) hL e1) mw_X10_canStrike lk_X11_197 im_X10_canStrike se_X10_canStrike ci_10.1 ci_10.2.1 (k44 hL) dX11_order_5 rfl rfl (Nat.le_of_ble_eq_true rfl) rfl ?_
  refine i_if_eq (tgt := 22) S dX11_order_8 (by decide) (fun q2 => ?_) (fun q2 => ?_)
  · replace h := (if_pos q2).symm.trans h
    refine i_ldc2 S kl_X11_159 dX11_order_22 ?_
    cases h
    exact i_lret S0 dX11_order_25
  · replace h := (if_neg q2).symm.trans h
    refine i_iload_n S dX11_order_11 rfl ?_
    refine i_iconst (v := -1) S dX11_order_12 ic_m1 ?_
    refine i_iload_n S dX11_order_13 rfl ?_
    refine i_iconst (v := 1) S dX11_order_14 ic_1 ?_
    refine i_isub S dX11_order_15 ?_
    refine i_callS (As := [.int x2, .int ((-1 : Int32)), .int (x1 - (1 : Int32))]) (st1 := [.int (f_X11_within x2 (-1 : Int32) (x1 - (1 : Int32)))]) S (c_X11_within g (d + 6) rfl) mw_X11_within lk_X11_86 im_X11_within dX11_order_16 rfl rfl (Nat.le_of_ble_eq_true rfl) rfl ?_
    refine i_if_ne (tgt := 26) S dX11_order_19 (by decide) (fun q3 => ?_) (fun q3 => ?_)
    · replace h := (if_neg q3).symm.trans h
      refine i_aload_n S dX11_order_26 rfl ?_
      refine i_getR S fl_X11_75 (k0 hL) (r0_8 hL) rfl dX11_order_27 ?_
      refine i_iload_n S dX11_order_30 rfl ?_
      obtain ⟨p4, e4, h⟩ := bn h
      refine i_callV (As := [.int x1]) (st1 := [.long p4.1]) S (c_X10_plan g d hL e4) mw_X10_plan lk_X11_200 im_X10_plan se_X10_plan ci_10.1 ci_10.2.1 (k44 hL) dX11_order_31 rfl rfl (Nat.le_of_ble_eq_true rfl) rfl ?_
      refine i_lstore_n (L1 := [some (rf g 0), some (.int x1), some (.int x2), some (.long p4.1), none]) S dX11_order_34 (by decide) rfl ?_
      refine i_iload_n S dX11_order_35 rfl ?_
      refine i_iconst (v := -1) S dX11_order_36 ic_m1 ?_
      refine i_icmp_ne (tgt := 44) S dX11_order_37 (by decide) (fun q5 => ?_) (fun q5 => ?_)
      · replace h := (if_neg q5).symm.trans h
        refine i_aload_n S dX11_order_44 rfl ?_
        obtain ⟨hL6, h⟩ := onLn h
        refine i_getR S fl_X11_75 (k0 hL6) (r0_8 hL6) rfl dX11_order_45 ?_
        refine i_iload_n S dX11_order_48 rfl ?_
        obtain ⟨p7, e7, h⟩ := bn h
        refine i_callV (As := [.int x2]) (st1 := [.int p7.1]) S (c_X10_planned g d hL6 e7) mw_X10_planned lk_X11_204 im_X10_planned se_X10_planned ci_10.1 ci_10.2.1 (k44 hL6) dX11_order_49 rfl rfl (Nat.le_of_ble_eq_true rfl) rfl ?_
        refine i_i2l S dX11_order_52 ?_
        cases h
        exact i_lret S0 dX11_order_53
      · replace h := (if_pos q5).symm.trans h
        refine i_lload_n S dX11_order_40 rfl ?_
        refine i_goto (tgt := 53) S dX11_order_41 (by decide) ?_
        cases h
        exact i_lret S0 dX11_order_53
    · replace h := (if_pos q3).symm.trans h
      refine i_ldc2 S kl_X11_159 dX11_order_22 ?_
      cases h
      exact i_lret S0 dX11_order_25
/-! WordYear.gap -/
noncomputable def f_X11_gap (x1 : Int32) (w : Mm) : Option (Int64 × Mm) := Option.bind (f_X10_canStrike x1 w) (fun p1 => if p1 = 0 then (some ((-1 : Int64), w)) else (Option.bind (f_X10_greedy x1 w) (fun p3 => onL p3.2 (Option.bind (f_X10_plan x1 p3.2) (fun p5 => some (p3.1 - p5.1, p5.2))))))
set_option maxHeartbeats 4000000 in
set_option maxRecDepth 100000 in
theorem c_X11_gap (g : Gx) (d : Nat) {x1 : Int32} {w : Mm} {p : (Int64 × Mm)} (hL : Lay w) (h : f_X11_gap x1 w = some p) : Call g (d + 8) yX11_gap cX11_gap 2 (some .long) [rf g 0, .int x1] w (some (.long p.1)) p.2 := by
  refine call_of (L0 := [some (rf g 0), some (.int x1)]) (by decide) rfl (Nat.le_of_ble_eq_true rfl) (fun V S0 => ?_)
  have S := S0.b
  unfold f_X11_gap at h
  refine i_aload_n S dX11_gap_0 rfl ?_
  refine i_getR S fl_X11_75 (k0 hL) (r0_8 hL) rfl dX11_gap_1 ?_
  refine i_iload_n S dX11_gap_4 rfl ?_
  obtain ⟨p1, e1, h⟩ := bn h
  refine i_callV (As := [.int x1]) (st1 := [.int p1]) S (c_X10_canStrike g (d + 5) hL e1) mw_X10_canStrike lk_X11_197 im_X10_canStrike se_X10_canStrike ci_10.1 ci_10.2.1 (k44 hL) dX11_gap_5 rfl rfl (Nat.le_of_ble_eq_true rfl) rfl ?_
  refine i_if_ne (tgt := 15) S dX11_gap_8 (by decide) (fun q2 => ?_) (fun q2 => ?_)
  · replace h := (if_neg q2).symm.trans h
    refine i_aload_n S dX11_gap_15 rfl ?_
    refine i_getR S fl_X11_75 (k0 hL) (r0_8 hL) rfl dX11_gap_16 ?_
    refine i_iload_n S dX11_gap_19 rfl ?_
    obtain ⟨p3, e3, h⟩ := bn h
    refine i_callV (As := [.int x1]) (st1 := [.long p3.1]) S (c_X10_greedy g d hL e3) mw_X10_greedy lk_X11_207 im_X10_greedy se_X10_greedy ci_10.1 ci_10.2.1 (k44 hL) dX11_gap_20 rfl rfl (Nat.le_of_ble_eq_true rfl) rfl ?_
    refine i_aload_n S dX11_gap_23 rfl ?_
    obtain ⟨hL4, h⟩ := onLn h
    refine i_getR S fl_X11_75 (k0 hL4) (r0_8 hL4) rfl dX11_gap_24 ?_
    refine i_iload_n S dX11_gap_27 rfl ?_
    obtain ⟨p5, e5, h⟩ := bn h
    refine i_callV (As := [.int x1]) (st1 := [.long p5.1, .long p3.1]) S (c_X10_plan g d hL4 e5) mw_X10_plan lk_X11_200 im_X10_plan se_X10_plan ci_10.1 ci_10.2.1 (k44 hL4) dX11_gap_28 rfl rfl (Nat.le_of_ble_eq_true rfl) rfl ?_
    refine i_lsub S dX11_gap_31 ?_
    cases h
    exact i_lret S0 dX11_gap_32
  · replace h := (if_pos q2).symm.trans h
    refine i_ldc2 S kl_X11_159 dX11_gap_11 ?_
    cases h
    exact i_lret S0 dX11_gap_14
/-! WordYear.row -/
noncomputable def f_X11_row (x1 : Int32) (x2 : Int32) (w : Mm) : Option (Int64 × Mm) := if (f_X11_within x1 (1 : Int32) (10 : Int32)) = 0 then (some ((-1 : Int64), w)) else (if (f_X11_within x2 (0 : Int32) (1 : Int32)) = 0 then (some ((-1 : Int64), w)) else (if x1 ≤ (gI w 12 1) then (Option.bind (f_X10_follow x1 x2 w) (fun p4 => onL p4.2 (Option.bind (f_X8_wipe p4.2) (fun p6 => some (p4.1, p6))))) else (some ((-1 : Int64), w))))
set_option maxHeartbeats 4000000 in
set_option maxRecDepth 100000 in
theorem c_X11_row (g : Gx) (d : Nat) {x1 : Int32} {x2 : Int32} {w : Mm} {p : (Int64 × Mm)} (hL : Lay w) (h : f_X11_row x1 x2 w = some p) : Call g (d + 8) yX11_row cX11_row 5 (some .long) [rf g 0, .int x1, .int x2] w (some (.long p.1)) p.2 := by
  refine call_of (L0 := [some (rf g 0), some (.int x1), some (.int x2), none, none]) (by decide) rfl (Nat.le_of_ble_eq_true rfl) (fun V S0 => ?_)
  have S := S0.b
  unfold f_X11_row at h
  refine i_iload_n S dX11_row_0 rfl ?_
  refine i_iconst (v := 1) S dX11_row_1 ic_1 ?_
  refine i_bipush (v := 10) S dX11_row_2 bp_10 ?_
  refine i_callS (As := [.int x1, .int ((1 : Int32)), .int ((10 : Int32))]) (st1 := [.int (f_X11_within x1 (1 : Int32) (10 : Int32))]) S (c_X11_within g (d + 6) rfl) mw_X11_within lk_X11_86 im_X11_within dX11_row_4 rfl rfl (Nat.le_of_ble_eq_true rfl) rfl ?_
  refine i_if_eq (tgt := 30) S dX11_row_7 (by decide) (fun q1 => ?_) (fun q1 => ?_)
  · replace h := (if_pos q1).symm.trans h
    refine i_ldc2 S kl_X11_159 dX11_row_30 ?_
    cases h
    exact i_lret S0 dX11_row_33
  · replace h := (if_neg q1).symm.trans h
    refine i_iload_n S dX11_row_10 rfl ?_
    refine i_iconst (v := 0) S dX11_row_11 ic_0 ?_
    refine i_iconst (v := 1) S dX11_row_12 ic_1 ?_
    refine i_callS (As := [.int x2, .int ((0 : Int32)), .int ((1 : Int32))]) (st1 := [.int (f_X11_within x2 (0 : Int32) (1 : Int32))]) S (c_X11_within g (d + 6) rfl) mw_X11_within lk_X11_86 im_X11_within dX11_row_13 rfl rfl (Nat.le_of_ble_eq_true rfl) rfl ?_
    refine i_if_eq (tgt := 30) S dX11_row_16 (by decide) (fun q2 => ?_) (fun q2 => ?_)
    · replace h := (if_pos q2).symm.trans h
      refine i_ldc2 S kl_X11_159 dX11_row_30 ?_
      cases h
      exact i_lret S0 dX11_row_33
    · replace h := (if_neg q2).symm.trans h
      refine i_iload_n S dX11_row_19 rfl ?_
      refine i_aload_n S dX11_row_20 rfl ?_
      refine i_getR S fl_X11_26 (k0 hL) (r0_2 hL) rfl dX11_row_21 ?_
      refine i_getIv (v := gI w 12 1) S fl_X11_111 (k12 hL) rfl rfl dX11_row_24 ?_
      refine i_icmp_le (tgt := 34) S dX11_row_27 (by decide) (fun q3 => ?_) (fun q3 => ?_)
      · replace h := (if_pos q3).symm.trans h
        refine i_aload_n S dX11_row_34 rfl ?_
        refine i_getR S fl_X11_75 (k0 hL) (r0_8 hL) rfl dX11_row_35 ?_
        refine i_aload_n S dX11_row_38 rfl ?_
        refine i_getR S fl_X11_26 (k0 hL) (r0_2 hL) rfl dX11_row_39 ?_
        refine i_iload_n S dX11_row_42 rfl ?_
        refine i_iload_n S dX11_row_43 rfl ?_
        obtain ⟨p4, e4, h⟩ := bn h
        refine i_callV (As := [rf g 12, .int x1, .int x2]) (st1 := [.long p4.1]) S (c_X10_follow g d hL e4) mw_X10_follow lk_X11_210 im_X10_follow se_X10_follow ci_10.1 ci_10.2.1 (k44 hL) dX11_row_44 rfl rfl (Nat.le_of_ble_eq_true rfl) rfl ?_
        refine i_lstore_n (L1 := [some (rf g 0), some (.int x1), some (.int x2), some (.long p4.1), none]) S dX11_row_47 (by decide) rfl ?_
        refine i_aload_n S dX11_row_48 rfl ?_
        obtain ⟨hL5, h⟩ := onLn h
        refine i_getR S fl_X11_26 (k0 hL5) (r0_2 hL5) rfl dX11_row_49 ?_
        obtain ⟨p6, e6, h⟩ := bn h
        refine i_callV (As := []) (st1 := []) S (c_X8_wipe g (d + 6) hL5 e6) mw_X8_wipe lk_X11_120 im_X8_wipe se_X8_wipe ci_8.1 ci_8.2.1 (k12 hL5) dX11_row_52 rfl rfl (Nat.le_of_ble_eq_true rfl) rfl ?_
        refine i_lload_n S dX11_row_55 rfl ?_
        cases h
        exact i_lret S0 dX11_row_56
      · replace h := (if_neg q3).symm.trans h
        refine i_ldc2 S kl_X11_159 dX11_row_30 ?_
        cases h
        exact i_lret S0 dX11_row_33
/-! WordYear.till -/
noncomputable def f_X11_till  (w : Mm) : Option (Int32 × Mm) := Option.bind (f_X10_bearable w) (fun p1 => some (p1.1, p1.2))
set_option maxHeartbeats 4000000 in
set_option maxRecDepth 100000 in
theorem c_X11_till (g : Gx) (d : Nat)  {w : Mm} {p : (Int32 × Mm)} (hL : Lay w) (h : f_X11_till w = some p) : Call g (d + 8) yX11_till cX11_till 1 (some .int) [rf g 0] w (some (.int p.1)) p.2 := by
  refine call_of (L0 := [some (rf g 0)]) (by decide) rfl (Nat.le_of_ble_eq_true rfl) (fun V S0 => ?_)
  have S := S0.b
  unfold f_X11_till at h
  refine i_aload_n S dX11_till_0 rfl ?_
  refine i_getR S fl_X11_75 (k0 hL) (r0_8 hL) rfl dX11_till_1 ?_
  obtain ⟨p1, e1, h⟩ := bn h
  refine i_callV (As := []) (st1 := [.int p1.1]) S (c_X10_bearable g d hL e1) mw_X10_bearable lk_X11_214 im_X10_bearable se_X10_bearable ci_10.1 ci_10.2.1 (k44 hL) dX11_till_4 rfl rfl (Nat.le_of_ble_eq_true rfl) rfl ?_
  cases h
  exact i_iret S0 rfl dX11_till_7
/-! WordYear.kept -/
noncomputable def f_X11_kept (x1 : Int32) (x2 : Int32) (w : Mm) : Option (Int64 × Mm) := if (f_X11_within x1 (0 : Int32) (gI w 1 4)) = 0 then (some ((-1 : Int64), w)) else (if (f_X11_within x2 (0 : Int32) (1 : Int32)) = 0 then (some ((-1 : Int64), w)) else (Option.bind (f_X10_bestOf x1 w) (fun p3 => if x2 = 0 then (some (p3.1.toInt64, p3.2)) else (onL p3.2 (Option.bind (f_X9_speech p3.1 p3.2) (fun p6 => if isSp p6.2 p6.1 = true then (onL p6.2 (Option.bind (f_X9_yearly p6.1 (-1 : Int32) p6.2) (fun p9 => some (p9.1, p9.2)))) else none))))))
set_option maxHeartbeats 4000000 in
set_option maxRecDepth 100000 in
theorem c_X11_kept (g : Gx) (d : Nat) {x1 : Int32} {x2 : Int32} {w : Mm} {p : (Int64 × Mm)} (hL : Lay w) (h : f_X11_kept x1 x2 w = some p) : Call g (d + 7) yX11_kept cX11_kept 4 (some .long) [rf g 0, .int x1, .int x2] w (some (.long p.1)) p.2 := by
  refine call_of (L0 := [some (rf g 0), some (.int x1), some (.int x2), none]) (by decide) rfl (Nat.le_of_ble_eq_true rfl) (fun V S0 => ?_)
  have S := S0.b
  unfold f_X11_kept at h
  refine i_iload_n S dX11_kept_0 rfl ?_
  refine i_iconst (v := 0) S dX11_kept_1 ic_0 ?_
  refine i_aload_n S dX11_kept_2 rfl ?_
  refine i_getR S fl_X11_10 (k0 hL) (r0_0 hL) rfl dX11_kept_3 ?_
  refine i_getIv (v := gI w 1 4) S fl_X11_217 (k1 hL) rfl rfl dX11_kept_6 ?_
  refine i_callS (As := [.int x1, .int ((0 : Int32)), .int (gI w 1 4)]) (st1 := [.int (f_X11_within x1 (0 : Int32) (gI w 1 4))]) S (c_X11_within g (d + 5) rfl) mw_X11_within lk_X11_86 im_X11_within dX11_kept_9 rfl rfl (Nat.le_of_ble_eq_true rfl) rfl ?_
  refine i_if_eq (tgt := 24) S dX11_kept_12 (by decide) (fun q1 => ?_) (fun q1 => ?_)
  · replace h := (if_pos q1).symm.trans h
    refine i_ldc2 S kl_X11_159 dX11_kept_24 ?_
    cases h
    exact i_lret S0 dX11_kept_27
  · replace h := (if_neg q1).symm.trans h
    refine i_iload_n S dX11_kept_15 rfl ?_
    refine i_iconst (v := 0) S dX11_kept_16 ic_0 ?_
    refine i_iconst (v := 1) S dX11_kept_17 ic_1 ?_
    refine i_callS (As := [.int x2, .int ((0 : Int32)), .int ((1 : Int32))]) (st1 := [.int (f_X11_within x2 (0 : Int32) (1 : Int32))]) S (c_X11_within g (d + 5) rfl) mw_X11_within lk_X11_86 im_X11_within dX11_kept_18 rfl rfl (Nat.le_of_ble_eq_true rfl) rfl ?_
    refine i_if_ne (tgt := 28) S dX11_kept_21 (by decide) (fun q2 => ?_) (fun q2 => ?_)
    · replace h := (if_neg q2).symm.trans h
      refine i_aload_n S dX11_kept_28 rfl ?_
      refine i_getR S fl_X11_75 (k0 hL) (r0_8 hL) rfl dX11_kept_29 ?_
      refine i_iload_n S dX11_kept_32 rfl ?_
      obtain ⟨p3, e3, h⟩ := bn h
      refine i_callV (As := [.int x1]) (st1 := [.int p3.1]) S (c_X10_bestOf g d hL e3) mw_X10_bestOf lk_X11_218 im_X10_bestOf se_X10_bestOf ci_10.1 ci_10.2.1 (k44 hL) dX11_kept_33 rfl rfl (Nat.le_of_ble_eq_true rfl) rfl ?_
      refine i_istore_n (L1 := [some (rf g 0), some (.int x1), some (.int x2), some (.int p3.1)]) S dX11_kept_36 (by decide) rfl ?_
      refine i_iload_n S dX11_kept_37 rfl ?_
      refine i_if_ne (tgt := 46) S dX11_kept_38 (by decide) (fun q4 => ?_) (fun q4 => ?_)
      · replace h := (if_neg q4).symm.trans h
        refine i_aload_n S dX11_kept_46 rfl ?_
        obtain ⟨hL5, h⟩ := onLn h
        refine i_getR S fl_X11_35 (k0 hL5) (r0_3 hL5) rfl dX11_kept_47 ?_
        refine i_aload_n S dX11_kept_50 rfl ?_
        refine i_getR S fl_X11_35 (k0 hL5) (r0_3 hL5) rfl dX11_kept_51 ?_
        refine i_iload_n S dX11_kept_54 rfl ?_
        obtain ⟨p6, e6, h⟩ := bn h
        refine i_callV (As := [.int p3.1]) (st1 := [rf g p6.1, rf g 14]) S (c_X9_speech g (d + 1) hL5 e6) mw_X9_speech lk_X11_134 im_X9_speech se_X9_speech ci_9.1 ci_9.2.1 (k14 hL5) dX11_kept_55 rfl rfl (Nat.le_of_ble_eq_true rfl) rfl ?_
        refine i_iconst (v := -1) S dX11_kept_58 ic_m1 ?_
        obtain ⟨hs7, h⟩ := gd h
        obtain ⟨hL8, h⟩ := onLn h
        obtain ⟨p9, e9, h⟩ := bn h
        refine i_callV (As := [rf g p6.1, .int ((-1 : Int32))]) (st1 := [.long p9.1]) S (c_X9_yearly g (d + 1) hL8 hs7 e9) mw_X9_yearly lk_X11_161 im_X9_yearly se_X9_yearly ci_9.1 ci_9.2.1 (k14 hL8) dX11_kept_59 rfl rfl (Nat.le_of_ble_eq_true rfl) rfl ?_
        cases h
        exact i_lret S0 dX11_kept_62
      · replace h := (if_pos q4).symm.trans h
        refine i_iload_n S dX11_kept_41 rfl ?_
        refine i_i2l S dX11_kept_42 ?_
        refine i_goto (tgt := 62) S dX11_kept_43 (by decide) ?_
        cases h
        exact i_lret S0 dX11_kept_62
    · replace h := (if_pos q2).symm.trans h
      refine i_ldc2 S kl_X11_159 dX11_kept_24 ?_
      cases h
      exact i_lret S0 dX11_kept_27
/-! WordYear.back -/
noncomputable def f_X11_back (x1 : Int32) (w : Mm) : Option (Int64 × Mm) := if (f_X11_within x1 (0 : Int32) (3 : Int32)) = 0 then (some ((-1 : Int64), w)) else (Option.bind (f_X3_all w) (fun p2 => if (gI w 1 5) = p2 then (some ((-1 : Int64), w)) else (if (2 : Int32) ≤ (f_J6_bitCount_0f7a4 (gI w 1 5)) then (Option.bind (f_X10_exchange x1 w) (fun p5 => some (p5.1, p5.2))) else (some ((-1 : Int64), w)))))
set_option maxHeartbeats 4000000 in
set_option maxRecDepth 100000 in
theorem c_X11_back (g : Gx) (d : Nat) {x1 : Int32} {w : Mm} {p : (Int64 × Mm)} (hL : Lay w) (h : f_X11_back x1 w = some p) : Call g (d + 7) yX11_back cX11_back 2 (some .long) [rf g 0, .int x1] w (some (.long p.1)) p.2 := by
  refine call_of (L0 := [some (rf g 0), some (.int x1)]) (by decide) rfl (Nat.le_of_ble_eq_true rfl) (fun V S0 => ?_)
  have S := S0.b
  unfold f_X11_back at h
  refine i_iload_n S dX11_back_0 rfl ?_
  refine i_iconst (v := 0) S dX11_back_1 ic_0 ?_
  refine i_iconst (v := 3) S dX11_back_2 ic_3 ?_
  refine i_callS (As := [.int x1, .int ((0 : Int32)), .int ((3 : Int32))]) (st1 := [.int (f_X11_within x1 (0 : Int32) (3 : Int32))]) S (c_X11_within g (d + 5) rfl) mw_X11_within lk_X11_86 im_X11_within dX11_back_3 rfl rfl (Nat.le_of_ble_eq_true rfl) rfl ?_
  refine i_if_eq (tgt := 40) S dX11_back_6 (by decide) (fun q1 => ?_) (fun q1 => ?_)
  · replace h := (if_pos q1).symm.trans h
    refine i_ldc2 S kl_X11_159 dX11_back_40 ?_
    cases h
    exact i_lret S0 dX11_back_43
  · replace h := (if_neg q1).symm.trans h
    refine i_aload_n S dX11_back_9 rfl ?_
    refine i_getR S fl_X11_10 (k0 hL) (r0_0 hL) rfl dX11_back_10 ?_
    refine i_getIv (v := gI w 1 5) S fl_X11_171 (k1 hL) rfl rfl dX11_back_13 ?_
    refine i_aload_n S dX11_back_16 rfl ?_
    refine i_getR S fl_X11_10 (k0 hL) (r0_0 hL) rfl dX11_back_17 ?_
    obtain ⟨p2, e2, h⟩ := bn h
    refine i_callV (As := []) (st1 := [.int p2, .int (gI w 1 5)]) S (c_X3_all g (d + 5) hL e2) mw_X3_all lk_X11_221 im_X3_all se_X3_all ci_3.1 ci_3.2.1 (k1 hL) dX11_back_20 rfl rfl (Nat.le_of_ble_eq_true rfl) rfl ?_
    refine i_icmp_eq (tgt := 40) S dX11_back_23 (by decide) (fun q3 => ?_) (fun q3 => ?_)
    · replace h := (if_pos q3).symm.trans h
      refine i_ldc2 S kl_X11_159 dX11_back_40 ?_
      cases h
      exact i_lret S0 dX11_back_43
    · replace h := (if_neg q3).symm.trans h
      refine i_aload_n S dX11_back_26 rfl ?_
      refine i_getR S fl_X11_10 (k0 hL) (r0_0 hL) rfl dX11_back_27 ?_
      refine i_getIv (v := gI w 1 5) S fl_X11_171 (k1 hL) rfl rfl dX11_back_30 ?_
      refine i_callS (As := [.int (gI w 1 5)]) (st1 := [.int (f_J6_bitCount_0f7a4 (gI w 1 5))]) S (c_J6_bitCount_0f7a4 g (d + 5) rfl) mw_J6_bitCount_0f7a4 lk_X11_224 im_J6_bitCount_0f7a4 dX11_back_33 rfl rfl (Nat.le_of_ble_eq_true rfl) rfl ?_
      refine i_iconst (v := 2) S dX11_back_36 ic_2 ?_
      refine i_icmp_ge (tgt := 44) S dX11_back_37 (by decide) (fun q4 => ?_) (fun q4 => ?_)
      · replace h := (if_pos q4).symm.trans h
        refine i_aload_n S dX11_back_44 rfl ?_
        refine i_getR S fl_X11_75 (k0 hL) (r0_8 hL) rfl dX11_back_45 ?_
        refine i_iload_n S dX11_back_48 rfl ?_
        obtain ⟨p5, e5, h⟩ := bn h
        refine i_callV (As := [.int x1]) (st1 := [.long p5.1]) S (c_X10_exchange g d hL e5) mw_X10_exchange lk_X11_229 im_X10_exchange se_X10_exchange ci_10.1 ci_10.2.1 (k44 hL) dX11_back_49 rfl rfl (Nat.le_of_ble_eq_true rfl) rfl ?_
        cases h
        exact i_lret S0 dX11_back_52
      · replace h := (if_neg q4).symm.trans h
        refine i_ldc2 S kl_X11_159 dX11_back_40 ?_
        cases h
        exact i_lret S0 dX11_back_43
/-! WordYear.told -/
noncomputable def f_X11_told (x1 : Int32) (w : Mm) : Option (Int32 × Mm) := Option.bind (f_X3_isPlainInUse x1 w) (fun p1 => if p1 = 0 then (some ((-1 : Int32), w)) else (Option.bind (f_X9_speech (f_X11_without (gI w 1 5) x1) w) (fun p3 => onL p3.2 (Option.bind (f_X3_meaningOf x1 p3.2) (fun p5 => if isSp p3.2 p3.1 = true then (Option.bind (f_X7_shortest p3.1 p5 p3.2) (fun p7 => some (p7, p3.2))) else none)))))
set_option maxHeartbeats 4000000 in
set_option maxRecDepth 100000 in
theorem c_X11_told (g : Gx) (d : Nat) {x1 : Int32} {w : Mm} {p : (Int32 × Mm)} (hL : Lay w) (h : f_X11_told x1 w = some p) : Call g (d + 6) yX11_told cX11_told 2 (some .int) [rf g 0, .int x1] w (some (.int p.1)) p.2 := by
  refine call_of (L0 := [some (rf g 0), some (.int x1)]) (by decide) rfl (Nat.le_of_ble_eq_true rfl) (fun V S0 => ?_)
  have S := S0.b
  unfold f_X11_told at h
  refine i_aload_n S dX11_told_0 rfl ?_
  refine i_getR S fl_X11_10 (k0 hL) (r0_0 hL) rfl dX11_told_1 ?_
  refine i_iload_n S dX11_told_4 rfl ?_
  obtain ⟨p1, e1, h⟩ := bn h
  refine i_callV (As := [.int x1]) (st1 := [.int p1]) S (c_X3_isPlainInUse g (d + 3) hL e1) mw_X3_isPlainInUse lk_X11_232 im_X3_isPlainInUse se_X3_isPlainInUse ci_3.1 ci_3.2.1 (k1 hL) dX11_told_5 rfl rfl (Nat.le_of_ble_eq_true rfl) rfl ?_
  refine i_if_ne (tgt := 13) S dX11_told_8 (by decide) (fun q2 => ?_) (fun q2 => ?_)
  · replace h := (if_neg q2).symm.trans h
    refine i_aload_n S dX11_told_13 rfl ?_
    refine i_getR S fl_X11_35 (k0 hL) (r0_3 hL) rfl dX11_told_14 ?_
    refine i_aload_n S dX11_told_17 rfl ?_
    refine i_getR S fl_X11_10 (k0 hL) (r0_0 hL) rfl dX11_told_18 ?_
    refine i_getIv (v := gI w 1 5) S fl_X11_171 (k1 hL) rfl rfl dX11_told_21 ?_
    refine i_iload_n S dX11_told_24 rfl ?_
    refine i_callS (As := [.int (gI w 1 5), .int x1]) (st1 := [.int (f_X11_without (gI w 1 5) x1), rf g 14]) S (c_X11_without g (d + 4) rfl) mw_X11_without lk_X11_180 im_X11_without dX11_told_25 rfl rfl (Nat.le_of_ble_eq_true rfl) rfl ?_
    obtain ⟨p3, e3, h⟩ := bn h
    refine i_callV (As := [.int (f_X11_without (gI w 1 5) x1)]) (st1 := [rf g p3.1]) S (c_X9_speech g d hL e3) mw_X9_speech lk_X11_134 im_X9_speech se_X9_speech ci_9.1 ci_9.2.1 (k14 hL) dX11_told_28 rfl rfl (Nat.le_of_ble_eq_true rfl) rfl ?_
    refine i_aload_n S dX11_told_31 rfl ?_
    obtain ⟨hL4, h⟩ := onLn h
    refine i_getR S fl_X11_10 (k0 hL4) (r0_0 hL4) rfl dX11_told_32 ?_
    refine i_iload_n S dX11_told_35 rfl ?_
    obtain ⟨p5, e5, h⟩ := bn h
    refine i_callV (As := [.int x1]) (st1 := [.int p5, rf g p3.1]) S (c_X3_meaningOf g (d + 3) hL4 e5) mw_X3_meaningOf lk_X11_235 im_X3_meaningOf se_X3_meaningOf ci_3.1 ci_3.2.1 (k1 hL4) dX11_told_36 rfl rfl (Nat.le_of_ble_eq_true rfl) rfl ?_
    obtain ⟨hs6, h⟩ := gd h
    obtain ⟨p7, e7, h⟩ := bn h
    refine i_callV (As := [.int p5]) (st1 := [.int p7]) S (c_X7_shortest g (d + 4) hL4 hs6 e7) mw_X7_shortest lk_X11_138 im_X7_shortest se_X7_shortest ci_7.1 ci_7.2.1 (sp_k0 hs6) dX11_told_39 rfl rfl (Nat.le_of_ble_eq_true rfl) rfl ?_
    cases h
    exact i_iret S0 rfl dX11_told_42
  · replace h := (if_pos q2).symm.trans h
    refine i_iconst (v := -1) S dX11_told_11 ic_m1 ?_
    cases h
    exact i_iret S0 rfl dX11_told_12
/-! WordYear.leads -/
noncomputable def f_X11_leads (x1 : Int32) (w : Mm) : Option (Int32 × Mm) := Option.bind (f_X3_isPlainInUse x1 w) (fun p1 => if p1 = 0 then (some ((-1 : Int32), w)) else (Option.bind (f_X2_entry x1 w) (fun p3 => some (p3.1, p3.2))))
set_option maxHeartbeats 4000000 in
set_option maxRecDepth 100000 in
theorem c_X11_leads (g : Gx) (d : Nat) {x1 : Int32} {w : Mm} {p : (Int32 × Mm)} (hL : Lay w) (h : f_X11_leads x1 w = some p) : Call g (d + 7) yX11_leads cX11_leads 2 (some .int) [rf g 0, .int x1] w (some (.int p.1)) p.2 := by
  refine call_of (L0 := [some (rf g 0), some (.int x1)]) (by decide) rfl (Nat.le_of_ble_eq_true rfl) (fun V S0 => ?_)
  have S := S0.b
  unfold f_X11_leads at h
  refine i_aload_n S dX11_leads_0 rfl ?_
  refine i_getR S fl_X11_10 (k0 hL) (r0_0 hL) rfl dX11_leads_1 ?_
  refine i_iload_n S dX11_leads_4 rfl ?_
  obtain ⟨p1, e1, h⟩ := bn h
  refine i_callV (As := [.int x1]) (st1 := [.int p1]) S (c_X3_isPlainInUse g (d + 4) hL e1) mw_X3_isPlainInUse lk_X11_232 im_X3_isPlainInUse se_X3_isPlainInUse ci_3.1 ci_3.2.1 (k1 hL) dX11_leads_5 rfl rfl (Nat.le_of_ble_eq_true rfl) rfl ?_
  refine i_if_eq (tgt := 22) S dX11_leads_8 (by decide) (fun q2 => ?_) (fun q2 => ?_)
  · replace h := (if_pos q2).symm.trans h
    refine i_iconst (v := -1) S dX11_leads_22 ic_m1 ?_
    cases h
    exact i_iret S0 rfl dX11_leads_23
  · replace h := (if_neg q2).symm.trans h
    refine i_aload_n S dX11_leads_11 rfl ?_
    refine i_getR S fl_X11_82 (k0 hL) (r0_9 hL) rfl dX11_leads_12 ?_
    refine i_iload_n S dX11_leads_15 rfl ?_
    obtain ⟨p3, e3, h⟩ := bn h
    refine i_callV (As := [.int x1]) (st1 := [.int p3.1]) S (c_X2_entry g d hL e3) mw_X2_entry lk_X11_238 im_X2_entry se_X2_entry ci_2.1 ci_2.2.1 (k45 hL) dX11_leads_16 rfl rfl (Nat.le_of_ble_eq_true rfl) rfl ?_
    refine i_goto (tgt := 23) S dX11_leads_19 (by decide) ?_
    cases h
    exact i_iret S0 rfl dX11_leads_23
/-! WordYear.round -/
noncomputable def f_X11_round  (w : Mm) : Option (Int32 × Mm) := Option.bind (f_X2_circles w) (fun p1 => some (p1.1, p1.2))
set_option maxHeartbeats 4000000 in
set_option maxRecDepth 100000 in
theorem c_X11_round (g : Gx) (d : Nat)  {w : Mm} {p : (Int32 × Mm)} (hL : Lay w) (h : f_X11_round w = some p) : Call g (d + 8) yX11_round cX11_round 1 (some .int) [rf g 0] w (some (.int p.1)) p.2 := by
  refine call_of (L0 := [some (rf g 0)]) (by decide) rfl (Nat.le_of_ble_eq_true rfl) (fun V S0 => ?_)
  have S := S0.b
  unfold f_X11_round at h
  refine i_aload_n S dX11_round_0 rfl ?_
  refine i_getR S fl_X11_82 (k0 hL) (r0_9 hL) rfl dX11_round_1 ?_
  obtain ⟨p1, e1, h⟩ := bn h
  refine i_callV (As := []) (st1 := [.int p1.1]) S (c_X2_circles g d hL e1) mw_X2_circles lk_X11_241 im_X2_circles se_X2_circles ci_2.1 ci_2.2.1 (k45 hL) dX11_round_4 rfl rfl (Nat.le_of_ble_eq_true rfl) rfl ?_
  cases h
  exact i_iret S0 rfl dX11_round_7
/-! WordYear.fewest -/
noncomputable def f_X11_fewest  (w : Mm) : Option (Int32 × Mm) := Option.bind (f_X2_smallestKey w) (fun p1 => some (p1.1, p1.2))
set_option maxHeartbeats 4000000 in
set_option maxRecDepth 100000 in
theorem c_X11_fewest (g : Gx) (d : Nat)  {w : Mm} {p : (Int32 × Mm)} (hL : Lay w) (h : f_X11_fewest w = some p) : Call g (d + 8) yX11_fewest cX11_fewest 1 (some .int) [rf g 0] w (some (.int p.1)) p.2 := by
  refine call_of (L0 := [some (rf g 0)]) (by decide) rfl (Nat.le_of_ble_eq_true rfl) (fun V S0 => ?_)
  have S := S0.b
  unfold f_X11_fewest at h
  refine i_aload_n S dX11_fewest_0 rfl ?_
  refine i_getR S fl_X11_82 (k0 hL) (r0_9 hL) rfl dX11_fewest_1 ?_
  obtain ⟨p1, e1, h⟩ := bn h
  refine i_callV (As := []) (st1 := [.int p1.1]) S (c_X2_smallestKey g d hL e1) mw_X2_smallestKey lk_X11_244 im_X2_smallestKey se_X2_smallestKey ci_2.1 ci_2.2.1 (k45 hL) dX11_fewest_4 rfl rfl (Nat.le_of_ble_eq_true rfl) rfl ?_
  cases h
  exact i_iret S0 rfl dX11_fewest_7
/-! WordYear.law -/
noncomputable def f_X11_law (x1 : Int32) (x2 : Int32) (w : Mm) : Option (Int32 × Mm) := if (f_X11_within x1 (0 : Int32) (3 : Int32)) = 0 then (some ((-1 : Int32), w)) else (if (f_X11_within x2 (1 : Int32) (60 : Int32)) = 0 then (some ((-1 : Int32), w)) else (if x2 ≤ (gI w 12 1) then (Option.bind (f_X6_read 40 x2 w) (fun p4 => onL p4.2 (Option.bind (f_X8_wipe p4.2) (fun p6 => if p4.1 < 0 then (some (p4.1, p6)) else (onL p6 (if inb x1 4 = true then (onq (gR p6 35 (ix x1)) (some (p4.1, p6)) (fun a11 => onq (gR p6 35 (ix x1)) (none) (fun a13 => if isRl a13 = true then (Option.bind (f_X6_takeOver a13 40 p6) (fun p15 => some (p4.1, p15))) else none))) else none)))))) else (some ((-1 : Int32), w))))
set_option maxHeartbeats 4000000 in
set_option maxRecDepth 100000 in
theorem c_X11_law (g : Gx) (d : Nat) {x1 : Int32} {x2 : Int32} {w : Mm} {p : (Int32 × Mm)} (hL : Lay w) (h : f_X11_law x1 x2 w = some p) : Call g (d + 105) yX11_law cX11_law 4 (some .int) [rf g 0, .int x1, .int x2] w (some (.int p.1)) p.2 := by
  refine call_of (L0 := [some (rf g 0), some (.int x1), some (.int x2), none]) (by decide) rfl (Nat.le_of_ble_eq_true rfl) (fun V S0 => ?_)
  have S := S0.b
  unfold f_X11_law at h
  refine i_iload_n S dX11_law_0 rfl ?_
  refine i_iconst (v := 0) S dX11_law_1 ic_0 ?_
  refine i_iconst (v := 3) S dX11_law_2 ic_3 ?_
  refine i_callS (As := [.int x1, .int ((0 : Int32)), .int ((3 : Int32))]) (st1 := [.int (f_X11_within x1 (0 : Int32) (3 : Int32))]) S (c_X11_within g (d + 103) rfl) mw_X11_within lk_X11_86 im_X11_within dX11_law_3 rfl rfl (Nat.le_of_ble_eq_true rfl) rfl ?_
  refine i_if_eq (tgt := 30) S dX11_law_6 (by decide) (fun q1 => ?_) (fun q1 => ?_)
  · replace h := (if_pos q1).symm.trans h
    refine i_iconst (v := -1) S dX11_law_30 ic_m1 ?_
    cases h
    exact i_iret S0 rfl dX11_law_31
  · replace h := (if_neg q1).symm.trans h
    refine i_iload_n S dX11_law_9 rfl ?_
    refine i_iconst (v := 1) S dX11_law_10 ic_1 ?_
    refine i_bipush (v := 60) S dX11_law_11 bp_60 ?_
    refine i_callS (As := [.int x2, .int ((1 : Int32)), .int ((60 : Int32))]) (st1 := [.int (f_X11_within x2 (1 : Int32) (60 : Int32))]) S (c_X11_within g (d + 103) rfl) mw_X11_within lk_X11_86 im_X11_within dX11_law_13 rfl rfl (Nat.le_of_ble_eq_true rfl) rfl ?_
    refine i_if_eq (tgt := 30) S dX11_law_16 (by decide) (fun q2 => ?_) (fun q2 => ?_)
    · replace h := (if_pos q2).symm.trans h
      refine i_iconst (v := -1) S dX11_law_30 ic_m1 ?_
      cases h
      exact i_iret S0 rfl dX11_law_31
    · replace h := (if_neg q2).symm.trans h
      refine i_iload_n S dX11_law_19 rfl ?_
      refine i_aload_n S dX11_law_20 rfl ?_
      refine i_getR S fl_X11_26 (k0 hL) (r0_2 hL) rfl dX11_law_21 ?_
      refine i_getIv (v := gI w 12 1) S fl_X11_111 (k12 hL) rfl rfl dX11_law_24 ?_
      refine i_icmp_le (tgt := 32) S dX11_law_27 (by decide) (fun q3 => ?_) (fun q3 => ?_)
      · replace h := (if_pos q3).symm.trans h
        refine i_aload_n S dX11_law_32 rfl ?_
        refine i_getR S fl_X11_57 (k0 hL) (r0_6 hL) rfl dX11_law_33 ?_
        refine i_iload_n S dX11_law_36 rfl ?_
        obtain ⟨p4, e4, h⟩ := bn h
        refine i_callV (As := [.int x2]) (st1 := [.int p4.1]) S (c_X6_read g d hL (by decide) e4) mw_X6_read lk_X11_247 im_X6_read se_X6_read ci_6.1 ci_6.2.1 (k40 hL) dX11_law_37 rfl rfl (Nat.le_of_ble_eq_true rfl) rfl ?_
        refine i_istore_n (L1 := [some (rf g 0), some (.int x1), some (.int x2), some (.int p4.1)]) S dX11_law_40 (by decide) rfl ?_
        refine i_aload_n S dX11_law_41 rfl ?_
        obtain ⟨hL5, h⟩ := onLn h
        refine i_getR S fl_X11_26 (k0 hL5) (r0_2 hL5) rfl dX11_law_42 ?_
        obtain ⟨p6, e6, h⟩ := bn h
        refine i_callV (As := []) (st1 := []) S (c_X8_wipe g (d + 103) hL5 e6) mw_X8_wipe lk_X11_120 im_X8_wipe se_X8_wipe ci_8.1 ci_8.2.1 (k12 hL5) dX11_law_45 rfl rfl (Nat.le_of_ble_eq_true rfl) rfl ?_
        refine i_iload_n S dX11_law_48 rfl ?_
        refine i_if_lt (tgt := 74) S dX11_law_49 (by decide) (fun q7 => ?_) (fun q7 => ?_)
        · replace h := (if_pos q7).symm.trans h
          refine i_iload_n S dX11_law_74 rfl ?_
          cases h
          exact i_iret S0 rfl dX11_law_75
        · replace h := (if_neg q7).symm.trans h
          refine i_aload_n S dX11_law_52 rfl ?_
          obtain ⟨hL8, h⟩ := onLn h
          refine i_getR S fl_X11_50 (k0 hL8) (r0_5 hL8) rfl dX11_law_53 ?_
          refine i_iload_n S dX11_law_56 rfl ?_
          obtain ⟨hi10, h⟩ := gd h
          refine i_aald25 S (k35 hL8) hi10 dX11_law_57 (fun hq11 => ?_) (fun a11 hq11 => ?_)
          · replace h := onq_n hq11 h
            refine i_ifnullN (tgt := 74) S dX11_law_58 (by decide) ?_
            refine i_iload_n S dX11_law_74 rfl ?_
            cases h
            exact i_iret S0 rfl dX11_law_75
          · replace h := onq_s hq11 h
            refine i_ifnull S dX11_law_58 ?_
            refine i_aload_n S dX11_law_61 rfl ?_
            refine i_getR S fl_X11_50 (k0 hL8) (r0_5 hL8) rfl dX11_law_62 ?_
            refine i_iload_n S dX11_law_65 rfl ?_
            refine i_aald25 S (k35 hL8) hi10 dX11_law_66 (fun hq13 => ?_) (fun a13 hq13 => ?_)
            · replace h := onq_n hq13 h
              refine i_aload_n S dX11_law_67 rfl ?_
              refine i_getR S fl_X11_57 (k0 hL8) (r0_6 hL8) rfl dX11_law_68 ?_
              cases h
            · replace h := onq_s hq13 h
              refine i_aload_n S dX11_law_67 rfl ?_
              refine i_getR S fl_X11_57 (k0 hL8) (r0_6 hL8) rfl dX11_law_68 ?_
              obtain ⟨hn14, h⟩ := gd h
              obtain ⟨p15, e15, h⟩ := bn h
              refine i_callV (As := [rf g 40]) (st1 := []) S (c_X6_takeOver g (d + 103) hL8 hn14 (by decide) e15) mw_X6_takeOver lk_X11_248 im_X6_takeOver se_X6_takeOver ci_6.1 ci_6.2.1 (rl_k hL8 hn14) dX11_law_71 rfl rfl (Nat.le_of_ble_eq_true rfl) rfl ?_
              refine i_iload_n S dX11_law_74 rfl ?_
              cases h
              exact i_iret S0 rfl dX11_law_75
      · replace h := (if_neg q3).symm.trans h
        refine i_iconst (v := -1) S dX11_law_30 ic_m1 ?_
        cases h
        exact i_iret S0 rfl dX11_law_31
/-! WordYear.lawIs -/
noncomputable def f_X11_lawIs (x1 : Int32) (x2 : Int32) (w : Mm) : Option (Int32 × Mm) := if (f_X11_within x1 (0 : Int32) (3 : Int32)) = 0 then (some ((-1 : Int32), w)) else (if (f_X11_within x2 (0 : Int32) (3 : Int32)) = 0 then (some ((-1 : Int32), w)) else (if inb x1 4 = true then (onq (gR w 35 (ix x1)) (some ((-1 : Int32), w)) (fun a5 => if isRl a5 = true then (if (gI w a5 2) = 0 then (some ((-1 : Int32), w)) else (if x2 = 0 then (some (gI w a5 3, w)) else (if x2 = 1 then (Option.bind (f_X6_fullLength a5 w) (fun p10 => some (p10, w))) else (if x2 = 2 then (some ((gI w a5 4) &&& ((gI w 1 5) ^^^ (-1 : Int32)), w)) else (Option.bind (f_X9_speech (gI w 1 5) w) (fun p12 => onL p12.2 (if isSp p12.2 p12.1 = true then (Option.bind (f_X7_shortest p12.1 (gI p12.2 a5 3) p12.2) (fun p15 => some (p15, p12.2))) else none))))))) else none)) else none))
set_option maxHeartbeats 4000000 in
set_option maxRecDepth 100000 in
theorem c_X11_lawIs (g : Gx) (d : Nat) {x1 : Int32} {x2 : Int32} {w : Mm} {p : (Int32 × Mm)} (hL : Lay w) (h : f_X11_lawIs x1 x2 w = some p) : Call g (d + 6) yX11_lawIs cX11_lawIs 4 (some .int) [rf g 0, .int x1, .int x2] w (some (.int p.1)) p.2 := by
  refine call_of (L0 := [some (rf g 0), some (.int x1), some (.int x2), none]) (by decide) rfl (Nat.le_of_ble_eq_true rfl) (fun V S0 => ?_)
  have S := S0.b
  unfold f_X11_lawIs at h
  refine i_iload_n S dX11_lawIs_0 rfl ?_
  refine i_iconst (v := 0) S dX11_lawIs_1 ic_0 ?_
  refine i_iconst (v := 3) S dX11_lawIs_2 ic_3 ?_
  refine i_callS (As := [.int x1, .int ((0 : Int32)), .int ((3 : Int32))]) (st1 := [.int (f_X11_within x1 (0 : Int32) (3 : Int32))]) S (c_X11_within g (d + 4) rfl) mw_X11_within lk_X11_86 im_X11_within dX11_lawIs_3 rfl rfl (Nat.le_of_ble_eq_true rfl) rfl ?_
  refine i_if_eq (tgt := 18) S dX11_lawIs_6 (by decide) (fun q1 => ?_) (fun q1 => ?_)
  · replace h := (if_pos q1).symm.trans h
    refine i_iconst (v := -1) S dX11_lawIs_18 ic_m1 ?_
    cases h
    exact i_iret S0 rfl dX11_lawIs_19
  · replace h := (if_neg q1).symm.trans h
    refine i_iload_n S dX11_lawIs_9 rfl ?_
    refine i_iconst (v := 0) S dX11_lawIs_10 ic_0 ?_
    refine i_iconst (v := 3) S dX11_lawIs_11 ic_3 ?_
    refine i_callS (As := [.int x2, .int ((0 : Int32)), .int ((3 : Int32))]) (st1 := [.int (f_X11_within x2 (0 : Int32) (3 : Int32))]) S (c_X11_within g (d + 4) rfl) mw_X11_within lk_X11_86 im_X11_within dX11_lawIs_12 rfl rfl (Nat.le_of_ble_eq_true rfl) rfl ?_
    refine i_if_ne (tgt := 20) S dX11_lawIs_15 (by decide) (fun q2 => ?_) (fun q2 => ?_)
    · replace h := (if_neg q2).symm.trans h
      refine i_aload_n S dX11_lawIs_20 rfl ?_
      refine i_getR S fl_X11_50 (k0 hL) (r0_5 hL) rfl dX11_lawIs_21 ?_
      refine i_iload_n S dX11_lawIs_24 rfl ?_
      obtain ⟨hi4, h⟩ := gd h
      refine i_aald25 S (k35 hL) hi4 dX11_lawIs_25 (fun hq5 => ?_) (fun a5 hq5 => ?_)
      · replace h := onq_n hq5 h
        refine i_astore_nN (L1 := [some (rf g 0), some (.int x1), some (.int x2), some (.null)]) S dX11_lawIs_26 (by decide) rfl ?_
        refine i_aload_nN S dX11_lawIs_27 rfl ?_
        refine i_ifnullN (tgt := 38) S dX11_lawIs_28 (by decide) ?_
        refine i_iconst (v := -1) S dX11_lawIs_38 ic_m1 ?_
        cases h
        exact i_iret S0 rfl dX11_lawIs_39
      · replace h := onq_s hq5 h
        refine i_astore_n (L1 := [some (rf g 0), some (.int x1), some (.int x2), some (rf g a5)]) S dX11_lawIs_26 (by decide) rfl ?_
        refine i_aload_n S dX11_lawIs_27 rfl ?_
        refine i_ifnull S dX11_lawIs_28 ?_
        refine i_aload_n S dX11_lawIs_31 rfl ?_
        obtain ⟨hn6, h⟩ := gd h
        refine i_getIv (v := gI w a5 2) S fl_X11_252 (rl_k hL hn6) rfl rfl dX11_lawIs_32 ?_
        refine i_if_ne (tgt := 40) S dX11_lawIs_35 (by decide) (fun q7 => ?_) (fun q7 => ?_)
        · replace h := (if_neg q7).symm.trans h
          refine i_iload_n S dX11_lawIs_40 rfl ?_
          by_cases q8 : x2 = 0
          · replace h := (if_pos q8).symm.trans h
            refine i_tswIn (tgt := 68) (off := 27) S dX11_lawIs_41 (by rw [q8]; decide) (by rw [q8]; decide) (by rw [q8]; decide) (by decide) ?_
            refine i_aload_n S dX11_lawIs_68 rfl ?_
            refine i_getIv (v := gI w a5 3) S fl_X11_256 (rl_k hL hn6) rfl rfl dX11_lawIs_69 ?_
            cases h
            exact i_iret S0 rfl dX11_lawIs_72
          · replace h := (if_neg q8).symm.trans h
            by_cases q9 : x2 = 1
            · replace h := (if_pos q9).symm.trans h
              refine i_tswIn (tgt := 73) (off := 32) S dX11_lawIs_41 (by rw [q9]; decide) (by rw [q9]; decide) (by rw [q9]; decide) (by decide) ?_
              refine i_aload_n S dX11_lawIs_73 rfl ?_
              obtain ⟨p10, e10, h⟩ := bn h
              refine i_callV (As := []) (st1 := [.int p10]) S (c_X6_fullLength g (d + 1) hL hn6 e10) mw_X6_fullLength lk_X11_259 im_X6_fullLength se_X6_fullLength ci_6.1 ci_6.2.1 (rl_k hL hn6) dX11_lawIs_74 rfl rfl (Nat.le_of_ble_eq_true rfl) rfl ?_
              cases h
              exact i_iret S0 rfl dX11_lawIs_77
            · replace h := (if_neg q9).symm.trans h
              by_cases q11 : x2 = 2
              · replace h := (if_pos q11).symm.trans h
                refine i_tswIn (tgt := 78) (off := 37) S dX11_lawIs_41 (by rw [q11]; decide) (by rw [q11]; decide) (by rw [q11]; decide) (by decide) ?_
                refine i_aload_n S dX11_lawIs_78 rfl ?_
                refine i_getIv (v := gI w a5 4) S fl_X11_262 (rl_k hL hn6) rfl rfl dX11_lawIs_79 ?_
                refine i_aload_n S dX11_lawIs_82 rfl ?_
                refine i_getR S fl_X11_10 (k0 hL) (r0_0 hL) rfl dX11_lawIs_83 ?_
                refine i_getIv (v := gI w 1 5) S fl_X11_171 (k1 hL) rfl rfl dX11_lawIs_86 ?_
                refine i_iconst (v := -1) S dX11_lawIs_89 ic_m1 ?_
                refine i_ixor S dX11_lawIs_90 ?_
                refine i_iand S dX11_lawIs_91 ?_
                cases h
                exact i_iret S0 rfl dX11_lawIs_92
              · replace h := (if_neg q11).symm.trans h
                refine i_tswD (tgt := 93) S dX11_lawIs_41 (by decide) (fun j hj => match j, hj with | 0, _ => Or.inr (tsne q8 (by decide)) | 1, _ => Or.inr (tsne q9 (by decide)) | 2, _ => Or.inr (tsne q11 (by decide)) | j + 3, hj => absurd hj (by show ¬ j + 3 < 3; omega)) (by decide) ?_
                refine i_aload_n S dX11_lawIs_93 rfl ?_
                refine i_getR S fl_X11_35 (k0 hL) (r0_3 hL) rfl dX11_lawIs_94 ?_
                refine i_aload_n S dX11_lawIs_97 rfl ?_
                refine i_getR S fl_X11_10 (k0 hL) (r0_0 hL) rfl dX11_lawIs_98 ?_
                refine i_getIv (v := gI w 1 5) S fl_X11_171 (k1 hL) rfl rfl dX11_lawIs_101 ?_
                obtain ⟨p12, e12, h⟩ := bn h
                refine i_callV (As := [.int (gI w 1 5)]) (st1 := [rf g p12.1]) S (c_X9_speech g d hL e12) mw_X9_speech lk_X11_134 im_X9_speech se_X9_speech ci_9.1 ci_9.2.1 (k14 hL) dX11_lawIs_104 rfl rfl (Nat.le_of_ble_eq_true rfl) rfl ?_
                refine i_aload_n S dX11_lawIs_107 rfl ?_
                obtain ⟨hL13, h⟩ := onLn h
                refine i_getIv (v := gI p12.2 a5 3) S fl_X11_256 (rl_k hL13 hn6) rfl rfl dX11_lawIs_108 ?_
                obtain ⟨hs14, h⟩ := gd h
                obtain ⟨p15, e15, h⟩ := bn h
                refine i_callV (As := [.int (gI p12.2 a5 3)]) (st1 := [.int p15]) S (c_X7_shortest g (d + 4) hL13 hs14 e15) mw_X7_shortest lk_X11_138 im_X7_shortest se_X7_shortest ci_7.1 ci_7.2.1 (sp_k0 hs14) dX11_lawIs_111 rfl rfl (Nat.le_of_ble_eq_true rfl) rfl ?_
                cases h
                exact i_iret S0 rfl dX11_lawIs_114
        · replace h := (if_pos q7).symm.trans h
          refine i_iconst (v := -1) S dX11_lawIs_38 ic_m1 ?_
          cases h
          exact i_iret S0 rfl dX11_lawIs_39
    · replace h := (if_pos q2).symm.trans h
      refine i_iconst (v := -1) S dX11_lawIs_18 ic_m1 ?_
      cases h
      exact i_iret S0 rfl dX11_lawIs_19
/-! WordYear.madeUp -/
noncomputable def f_X11_madeUp (x1 : Int32) (x2 : Int32) (w : Mm) : Option (Int64 × Mm) := if (f_X11_within x1 (1 : Int32) (9 : Int32)) = 0 then (some ((-1 : Int64), w)) else (if (f_X11_within x2 (0 : Int32) (1 : Int32)) = 0 then (some ((-1 : Int64), w)) else (Option.bind (f_X9_childsWord x1 x2 w) (fun p3 => some (p3.1, p3.2))))
set_option maxHeartbeats 4000000 in
set_option maxRecDepth 100000 in
theorem c_X11_madeUp (g : Gx) (d : Nat) {x1 : Int32} {x2 : Int32} {w : Mm} {p : (Int64 × Mm)} (hL : Lay w) (h : f_X11_madeUp x1 x2 w = some p) : Call g (d + 7) yX11_madeUp cX11_madeUp 3 (some .long) [rf g 0, .int x1, .int x2] w (some (.long p.1)) p.2 := by
  refine call_of (L0 := [some (rf g 0), some (.int x1), some (.int x2)]) (by decide) rfl (Nat.le_of_ble_eq_true rfl) (fun V S0 => ?_)
  have S := S0.b
  unfold f_X11_madeUp at h
  refine i_iload_n S dX11_madeUp_0 rfl ?_
  refine i_iconst (v := 1) S dX11_madeUp_1 ic_1 ?_
  refine i_bipush (v := 9) S dX11_madeUp_2 bp_9 ?_
  refine i_callS (As := [.int x1, .int ((1 : Int32)), .int ((9 : Int32))]) (st1 := [.int (f_X11_within x1 (1 : Int32) (9 : Int32))]) S (c_X11_within g (d + 5) rfl) mw_X11_within lk_X11_86 im_X11_within dX11_madeUp_4 rfl rfl (Nat.le_of_ble_eq_true rfl) rfl ?_
  refine i_if_eq (tgt := 19) S dX11_madeUp_7 (by decide) (fun q1 => ?_) (fun q1 => ?_)
  · replace h := (if_pos q1).symm.trans h
    refine i_ldc2 S kl_X11_159 dX11_madeUp_19 ?_
    cases h
    exact i_lret S0 dX11_madeUp_22
  · replace h := (if_neg q1).symm.trans h
    refine i_iload_n S dX11_madeUp_10 rfl ?_
    refine i_iconst (v := 0) S dX11_madeUp_11 ic_0 ?_
    refine i_iconst (v := 1) S dX11_madeUp_12 ic_1 ?_
    refine i_callS (As := [.int x2, .int ((0 : Int32)), .int ((1 : Int32))]) (st1 := [.int (f_X11_within x2 (0 : Int32) (1 : Int32))]) S (c_X11_within g (d + 5) rfl) mw_X11_within lk_X11_86 im_X11_within dX11_madeUp_13 rfl rfl (Nat.le_of_ble_eq_true rfl) rfl ?_
    refine i_if_ne (tgt := 23) S dX11_madeUp_16 (by decide) (fun q2 => ?_) (fun q2 => ?_)
    · replace h := (if_neg q2).symm.trans h
      refine i_aload_n S dX11_madeUp_23 rfl ?_
      refine i_getR S fl_X11_35 (k0 hL) (r0_3 hL) rfl dX11_madeUp_24 ?_
      refine i_iload_n S dX11_madeUp_27 rfl ?_
      refine i_iload_n S dX11_madeUp_28 rfl ?_
      obtain ⟨p3, e3, h⟩ := bn h
      refine i_callV (As := [.int x1, .int x2]) (st1 := [.long p3.1]) S (c_X9_childsWord g d hL e3) mw_X9_childsWord lk_X11_265 im_X9_childsWord se_X9_childsWord ci_9.1 ci_9.2.1 (k14 hL) dX11_madeUp_29 rfl rfl (Nat.le_of_ble_eq_true rfl) rfl ?_
      cases h
      exact i_lret S0 dX11_madeUp_32
    · replace h := (if_pos q2).symm.trans h
      refine i_ldc2 S kl_X11_159 dX11_madeUp_19 ?_
      cases h
      exact i_lret S0 dX11_madeUp_22
/-! WordYear.check -/
noncomputable def l_X11_check_52 (x2 : Int32) (o3 : Nat) (w : Mm) (s : Int32 × Int32) : Option ((Int32 × Int32) ⊕ (Int32)) := if x2 ≤ s.2 then (some (.inr s.1)) else (if s.1 = (-1 : Int32) then (Option.bind (f_X8_numberAt s.2 w) (fun p3 => Option.bind (f_X7_shortest o3 s.2 w) (fun p4 => Option.bind (if p3 = p4 then (some s.1) else (some s.2)) (fun p6 => some (.inl (p6, s.2 + (1 : Int32))))))) else (some (.inr s.1)))
noncomputable def f_X11_check (x1 : Int32) (x2 : Int32) (w : Mm) : Option (Int32 × Mm) := Option.bind (f_X3_isTongue x1 w) (fun p1 => if p1 = 0 then (some ((-2 : Int32), w)) else (if (f_X11_within x2 (0 : Int32) (64 : Int32)) = 0 then (some ((-2 : Int32), w)) else (if ((4 : Int32) * x2) ≤ (gI w 12 1) then (Option.bind (f_X9_speech x1 w) (fun p5 => if isSp p5.2 p5.1 = true then (onL p5.2 (Option.bind (wh (l_X11_check_52 x2 p5.1 p5.2) FUEL ((-1 : Int32), (0 : Int32))) (fun p8 => Option.bind (f_X8_wipe p5.2) (fun p9 => some (p8, p9))))) else none)) else (some ((-2 : Int32), w)))))
set_option maxHeartbeats 4000000 in
set_option maxRecDepth 100000 in
theorem t_l_X11_check_52 {g : Gx} {V : Vt} {d : Nat} (S : MachB g yX11_check cX11_check 6 (d + 5) V) {x2 : Int32} {o3 : Nat} {w : Mm} (hL : Lay w) (ho3 : isSp w o3 = true) (s : Int32 × Int32) (e : (Int32 × Int32) ⊕ (Int32)) (h : l_X11_check_52 x2 o3 w s = some e) (hC : ∀ s2, e = .inl s2 → V 52 [some (rf g 0), none, some (.int x2), some (rf g o3), some (.int s2.1), some (.int s2.2)] [] w) (hE : ∀ x, e = .inr x → V 92 [some (rf g 0), none, none, none, some (.int x), none] [] w) : V 52 [some (rf g 0), none, some (.int x2), some (rf g o3), some (.int s.1), some (.int s.2)] [] w := by
  unfold l_X11_check_52 at h
  refine i_iload S dX11_check_52 rfl ?_
  refine i_iload_n S dX11_check_54 rfl ?_
  refine i_icmp_ge (tgt := 92) S dX11_check_55 (by decide) (fun q1 => ?_) (fun q1 => ?_)
  · replace h := (if_pos q1).symm.trans h
    refine i_mask (L1 := [some (rf g 0), none, none, none, some (.int s.1), none]) S [true, false, false, false, true, false] rfl ?_
    have hz := hE _ (Option.some.inj h).symm
    exact hz
  · replace h := (if_neg q1).symm.trans h
    refine i_iload S dX11_check_58 rfl ?_
    refine i_iconst (v := -1) S dX11_check_60 ic_m1 ?_
    refine i_icmp_ne (tgt := 92) S dX11_check_61 (by decide) (fun q2 => ?_) (fun q2 => ?_)
    · replace h := (if_neg q2).symm.trans h
      refine i_mask (L1 := [some (rf g 0), none, none, none, some (.int s.1), none]) S [true, false, false, false, true, false] rfl ?_
      have hz := hE _ (Option.some.inj h).symm
      exact hz
    · replace h := (if_pos q2).symm.trans h
      refine i_aload_n S dX11_check_64 rfl ?_
      refine i_getR S fl_X11_26 (k0 hL) (r0_2 hL) rfl dX11_check_65 ?_
      refine i_iload S dX11_check_68 rfl ?_
      obtain ⟨p3, e3, h⟩ := bn h
      refine i_callV (As := [.int s.2]) (st1 := [.int p3]) S (c_X8_numberAt g (d + 3) hL e3) mw_X8_numberAt lk_X11_269 im_X8_numberAt se_X8_numberAt ci_8.1 ci_8.2.1 (k12 hL) dX11_check_70 rfl rfl (Nat.le_of_ble_eq_true rfl) rfl ?_
      refine i_aload_n S dX11_check_73 rfl ?_
      refine i_iload S dX11_check_74 rfl ?_
      obtain ⟨p4, e4, h⟩ := bn h
      refine i_callV (As := [.int s.2]) (st1 := [.int p4, .int p3]) S (c_X7_shortest g (d + 4) hL ho3 e4) mw_X7_shortest lk_X11_138 im_X7_shortest se_X7_shortest ci_7.1 ci_7.2.1 (sp_k0 ho3) dX11_check_76 rfl rfl (Nat.le_of_ble_eq_true rfl) rfl ?_
      obtain ⟨p6, e6, h⟩ := bn h
      have hj6 : ∀ q6, p6 = q6 → V 86 [some (rf g 0), none, some (.int x2), some (rf g o3), some (.int q6), some (.int s.2)] [] w := by
        intro q6 hq6
        subst hq6
        refine i_iinc (L1 := [some (rf g 0), none, some (.int x2), some (rf g o3), some (.int p6), some (.int (s.2 + (1 : Int32)))]) S dX11_check_86 rfl ic_1 (by decide) rfl ?_
        refine i_goto (tgt := 52) S dX11_check_89 (by decide) ?_
        have hz := hC _ (Option.some.inj h).symm
        exact hz
      replace h := e6
      clear e6
      refine i_icmp_eq (tgt := 86) S dX11_check_79 (by decide) (fun q5 => ?_) (fun q5 => ?_)
      · replace h := (if_pos q5).symm.trans h
        have hz := hj6 _ (Option.some.inj h).symm
        exact hz
      · replace h := (if_neg q5).symm.trans h
        refine i_iload S dX11_check_82 rfl ?_
        refine i_istore (L1 := [some (rf g 0), none, some (.int x2), some (rf g o3), some (.int s.2), some (.int s.2)]) S dX11_check_84 (by decide) rfl ?_
        have hz := hj6 _ (Option.some.inj h).symm
        exact hz
set_option maxHeartbeats 4000000 in
set_option maxRecDepth 100000 in
theorem c_X11_check (g : Gx) (d : Nat) {x1 : Int32} {x2 : Int32} {w : Mm} {p : (Int32 × Mm)} (hL : Lay w) (h : f_X11_check x1 x2 w = some p) : Call g (d + 6) yX11_check cX11_check 6 (some .int) [rf g 0, .int x1, .int x2] w (some (.int p.1)) p.2 := by
  refine call_of (L0 := [some (rf g 0), some (.int x1), some (.int x2), none, none, none]) (by decide) rfl (Nat.le_of_ble_eq_true rfl) (fun V S0 => ?_)
  have S := S0.b
  unfold f_X11_check at h
  refine i_aload_n S dX11_check_0 rfl ?_
  refine i_getR S fl_X11_10 (k0 hL) (r0_0 hL) rfl dX11_check_1 ?_
  refine i_iload_n S dX11_check_4 rfl ?_
  obtain ⟨p1, e1, h⟩ := bn h
  refine i_callV (As := [.int x1]) (st1 := [.int p1]) S (c_X3_isTongue g (d + 3) hL e1) mw_X3_isTongue lk_X11_130 im_X3_isTongue se_X3_isTongue ci_3.1 ci_3.2.1 (k1 hL) dX11_check_5 rfl rfl (Nat.le_of_ble_eq_true rfl) rfl ?_
  refine i_if_eq (tgt := 34) S dX11_check_8 (by decide) (fun q2 => ?_) (fun q2 => ?_)
  · replace h := (if_pos q2).symm.trans h
    refine i_bipush (v := -2) S dX11_check_34 bp_m2 ?_
    cases h
    exact i_iret S0 rfl dX11_check_36
  · replace h := (if_neg q2).symm.trans h
    refine i_iload_n S dX11_check_11 rfl ?_
    refine i_iconst (v := 0) S dX11_check_12 ic_0 ?_
    refine i_bipush (v := 64) S dX11_check_13 bp_64 ?_
    refine i_callS (As := [.int x2, .int ((0 : Int32)), .int ((64 : Int32))]) (st1 := [.int (f_X11_within x2 (0 : Int32) (64 : Int32))]) S (c_X11_within g (d + 4) rfl) mw_X11_within lk_X11_86 im_X11_within dX11_check_15 rfl rfl (Nat.le_of_ble_eq_true rfl) rfl ?_
    refine i_if_eq (tgt := 34) S dX11_check_18 (by decide) (fun q3 => ?_) (fun q3 => ?_)
    · replace h := (if_pos q3).symm.trans h
      refine i_bipush (v := -2) S dX11_check_34 bp_m2 ?_
      cases h
      exact i_iret S0 rfl dX11_check_36
    · replace h := (if_neg q3).symm.trans h
      refine i_iconst (v := 4) S dX11_check_21 ic_4 ?_
      refine i_iload_n S dX11_check_22 rfl ?_
      refine i_imul S dX11_check_23 ?_
      refine i_aload_n S dX11_check_24 rfl ?_
      refine i_getR S fl_X11_26 (k0 hL) (r0_2 hL) rfl dX11_check_25 ?_
      refine i_getIv (v := gI w 12 1) S fl_X11_111 (k12 hL) rfl rfl dX11_check_28 ?_
      refine i_icmp_le (tgt := 37) S dX11_check_31 (by decide) (fun q4 => ?_) (fun q4 => ?_)
      · replace h := (if_pos q4).symm.trans h
        refine i_aload_n S dX11_check_37 rfl ?_
        refine i_getR S fl_X11_35 (k0 hL) (r0_3 hL) rfl dX11_check_38 ?_
        refine i_iload_n S dX11_check_41 rfl ?_
        obtain ⟨p5, e5, h⟩ := bn h
        refine i_callV (As := [.int x1]) (st1 := [rf g p5.1]) S (c_X9_speech g d hL e5) mw_X9_speech lk_X11_134 im_X9_speech se_X9_speech ci_9.1 ci_9.2.1 (k14 hL) dX11_check_42 rfl rfl (Nat.le_of_ble_eq_true rfl) rfl ?_
        refine i_astore_n (L1 := [some (rf g 0), some (.int x1), some (.int x2), some (rf g p5.1), none, none]) S dX11_check_45 (by decide) rfl ?_
        refine i_iconst (v := -1) S dX11_check_46 ic_m1 ?_
        refine i_istore (L1 := [some (rf g 0), some (.int x1), some (.int x2), some (rf g p5.1), some (.int ((-1 : Int32))), none]) S dX11_check_47 (by decide) rfl ?_
        refine i_iconst (v := 0) S dX11_check_49 ic_0 ?_
        refine i_istore (L1 := [some (rf g 0), some (.int x1), some (.int x2), some (rf g p5.1), some (.int ((-1 : Int32))), some (.int ((0 : Int32)))]) S dX11_check_50 (by decide) rfl ?_
        obtain ⟨hs6, h⟩ := gd h
        obtain ⟨hL7, h⟩ := onLn h
        refine i_mask (L1 := [some (rf g 0), none, some (.int x2), some (rf g p5.1), some (.int ((-1 : Int32))), some (.int ((0 : Int32)))]) S [true, false, true, true, true, true] rfl ?_
        obtain ⟨p8, e8, h⟩ := bn h
        have hE8 : V 92 [some (rf g 0), none, none, none, some (.int p8), none] [] p5.2 := by
          refine i_aload_n S dX11_check_92 rfl ?_
          refine i_getR S fl_X11_26 (k0 hL7) (r0_2 hL7) rfl dX11_check_93 ?_
          obtain ⟨p9, e9, h⟩ := bn h
          refine i_callV (As := []) (st1 := []) S (c_X8_wipe g (d + 4) hL7 e9) mw_X8_wipe lk_X11_120 im_X8_wipe se_X8_wipe ci_8.1 ci_8.2.1 (k12 hL7) dX11_check_96 rfl rfl (Nat.le_of_ble_eq_true rfl) rfl ?_
          refine i_iload S dX11_check_99 rfl ?_
          cases h
          exact i_iret S0 rfl dX11_check_101
        exact wh_V (P := fun sv8 => V 52 [some (rf g 0), none, some (.int x2), some (rf g p5.1), some (.int sv8.1), some (.int sv8.2)] [] p5.2) (E := fun xv8 => V 92 [some (rf g 0), none, none, none, some (.int xv8), none] [] p5.2) (fun sv8 ev hb hc he => t_l_X11_check_52 (w := p5.2)  S hL7 hs6 sv8 ev hb hc he) FUEL _ _ e8 hE8
      · replace h := (if_neg q4).symm.trans h
        refine i_bipush (v := -2) S dX11_check_34 bp_m2 ?_
        cases h
        exact i_iret S0 rfl dX11_check_36
/-! WordYear.toldLaws -/
noncomputable def l_X11_toldLaws_4 (w : Mm) (s : Int32 × Int32) : Option ((Int32 × Int32) ⊕ (Int32)) := if (4 : Int32) ≤ s.2 then (some (.inr s.1)) else (if inb s.2 4 = true then (onq (gR w 35 (ix s.2)) (some (.inl (s.1, s.2 + (1 : Int32)))) (fun a4 => if isRl a4 = true then (if (gI w a4 2) = 0 then (some (.inl (s.1, s.2 + (1 : Int32)))) else (some (.inl (s.1 ||| ((1 : Int32) <<< (s.2 &&& 31)), s.2 + (1 : Int32))))) else none)) else none)
noncomputable def f_X11_toldLaws  (w : Mm) : Option Int32 := Option.bind (wh (l_X11_toldLaws_4 w) FUEL ((0 : Int32), (0 : Int32))) (fun p1 => some p1)
set_option maxHeartbeats 4000000 in
set_option maxRecDepth 100000 in
theorem t_l_X11_toldLaws_4 {g : Gx} {V : Vt} {d : Nat} (S : MachB g yX11_toldLaws cX11_toldLaws 4 (d) V) {w : Mm} (hL : Lay w) (s : Int32 × Int32) (e : (Int32 × Int32) ⊕ (Int32)) (h : l_X11_toldLaws_4 w s = some e) (hC : ∀ s2, e = .inl s2 → V 4 [some (rf g 0), some (.int s2.1), some (.int s2.2), none] [] w) (hE : ∀ x, e = .inr x → V 39 [none, some (.int x), none, none] [] w) : V 4 [some (rf g 0), some (.int s.1), some (.int s.2), none] [] w := by
  unfold l_X11_toldLaws_4 at h
  refine i_iload_n S dX11_toldLaws_4 rfl ?_
  refine i_iconst (v := 4) S dX11_toldLaws_5 ic_4 ?_
  refine i_icmp_ge (tgt := 39) S dX11_toldLaws_6 (by decide) (fun q1 => ?_) (fun q1 => ?_)
  · replace h := (if_pos q1).symm.trans h
    refine i_mask (L1 := [none, some (.int s.1), none, none]) S [false, true, false, false] rfl ?_
    have hz := hE _ (Option.some.inj h).symm
    exact hz
  · replace h := (if_neg q1).symm.trans h
    refine i_aload_n S dX11_toldLaws_9 rfl ?_
    refine i_getR S fl_X11_50 (k0 hL) (r0_5 hL) rfl dX11_toldLaws_10 ?_
    refine i_iload_n S dX11_toldLaws_13 rfl ?_
    obtain ⟨hi3, h⟩ := gd h
    refine i_aald25 S (k35 hL) hi3 dX11_toldLaws_14 (fun hq4 => ?_) (fun a4 hq4 => ?_)
    · replace h := onq_n hq4 h
      refine i_astore_nN (L1 := [some (rf g 0), some (.int s.1), some (.int s.2), some (.null)]) S dX11_toldLaws_15 (by decide) rfl ?_
      refine i_aload_nN S dX11_toldLaws_16 rfl ?_
      refine i_ifnullN (tgt := 33) S dX11_toldLaws_17 (by decide) ?_
      refine i_iinc (L1 := [some (rf g 0), some (.int s.1), some (.int (s.2 + (1 : Int32))), some (.null)]) S dX11_toldLaws_33 rfl ic_1 (by decide) rfl ?_
      refine i_goto (tgt := 4) S dX11_toldLaws_36 (by decide) ?_
      refine i_mask (L1 := [some (rf g 0), some (.int s.1), some (.int (s.2 + (1 : Int32))), none]) S [true, true, true, false] rfl ?_
      have hz := hC _ (Option.some.inj h).symm
      exact hz
    · replace h := onq_s hq4 h
      refine i_astore_n (L1 := [some (rf g 0), some (.int s.1), some (.int s.2), some (rf g a4)]) S dX11_toldLaws_15 (by decide) rfl ?_
      refine i_aload_n S dX11_toldLaws_16 rfl ?_
      refine i_ifnull S dX11_toldLaws_17 ?_
      refine i_aload_n S dX11_toldLaws_20 rfl ?_
      obtain ⟨hn5, h⟩ := gd h
      refine i_getIv (v := gI w a4 2) S fl_X11_252 (rl_k hL hn5) rfl rfl dX11_toldLaws_21 ?_
      refine i_if_eq (tgt := 33) S dX11_toldLaws_24 (by decide) (fun q6 => ?_) (fun q6 => ?_)
      · replace h := (if_pos q6).symm.trans h
        refine i_iinc (L1 := [some (rf g 0), some (.int s.1), some (.int (s.2 + (1 : Int32))), some (rf g a4)]) S dX11_toldLaws_33 rfl ic_1 (by decide) rfl ?_
        refine i_goto (tgt := 4) S dX11_toldLaws_36 (by decide) ?_
        refine i_mask (L1 := [some (rf g 0), some (.int s.1), some (.int (s.2 + (1 : Int32))), none]) S [true, true, true, false] rfl ?_
        have hz := hC _ (Option.some.inj h).symm
        exact hz
      · replace h := (if_neg q6).symm.trans h
        refine i_iload_n S dX11_toldLaws_27 rfl ?_
        refine i_iconst (v := 1) S dX11_toldLaws_28 ic_1 ?_
        refine i_iload_n S dX11_toldLaws_29 rfl ?_
        refine i_ishl S dX11_toldLaws_30 ?_
        refine i_ior S dX11_toldLaws_31 ?_
        refine i_istore_n (L1 := [some (rf g 0), some (.int (s.1 ||| ((1 : Int32) <<< (s.2 &&& 31)))), some (.int s.2), some (rf g a4)]) S dX11_toldLaws_32 (by decide) rfl ?_
        refine i_iinc (L1 := [some (rf g 0), some (.int (s.1 ||| ((1 : Int32) <<< (s.2 &&& 31)))), some (.int (s.2 + (1 : Int32))), some (rf g a4)]) S dX11_toldLaws_33 rfl ic_1 (by decide) rfl ?_
        refine i_goto (tgt := 4) S dX11_toldLaws_36 (by decide) ?_
        refine i_mask (L1 := [some (rf g 0), some (.int (s.1 ||| ((1 : Int32) <<< (s.2 &&& 31)))), some (.int (s.2 + (1 : Int32))), none]) S [true, true, true, false] rfl ?_
        have hz := hC _ (Option.some.inj h).symm
        exact hz
set_option maxHeartbeats 4000000 in
set_option maxRecDepth 100000 in
theorem c_X11_toldLaws (g : Gx) (d : Nat)  {w : Mm} {p : Int32} (hL : Lay w) (h : f_X11_toldLaws w = some p) : Call g (d + 1) yX11_toldLaws cX11_toldLaws 4 (some .int) [rf g 0] w (some (.int p)) w := by
  refine call_of (L0 := [some (rf g 0), none, none, none]) (by decide) rfl (Nat.le_of_ble_eq_true rfl) (fun V S0 => ?_)
  have S := S0.b
  unfold f_X11_toldLaws at h
  refine i_iconst (v := 0) S dX11_toldLaws_0 ic_0 ?_
  refine i_istore_n (L1 := [some (rf g 0), some (.int ((0 : Int32))), none, none]) S dX11_toldLaws_1 (by decide) rfl ?_
  refine i_iconst (v := 0) S dX11_toldLaws_2 ic_0 ?_
  refine i_istore_n (L1 := [some (rf g 0), some (.int ((0 : Int32))), some (.int ((0 : Int32))), none]) S dX11_toldLaws_3 (by decide) rfl ?_
  obtain ⟨p1, e1, h⟩ := bn h
  have hE1 : V 39 [none, some (.int p1), none, none] [] w := by
    refine i_iload_n S dX11_toldLaws_39 rfl ?_
    cases h
    exact i_iret S0 rfl dX11_toldLaws_40
  exact wh_V (P := fun sv1 => V 4 [some (rf g 0), some (.int sv1.1), some (.int sv1.2), none] [] w) (E := fun xv1 => V 39 [none, some (.int xv1), none, none] [] w) (fun sv1 ev hb hc he => t_l_X11_toldLaws_4 (w := w)  S hL sv1 ev hb hc he) FUEL _ _ e1 hE1
/-! WordYear.count -/
noncomputable def f_X11_count (x1 : Int32) (w : Mm) : Option Int32 := if x1 = 0 then (some (gI w 1 4)) else (if x1 = 1 then (some (gI w 1 5)) else (if x1 = 2 then (some (gI w 1 6)) else (if x1 = 3 then (some (gI w 6 5)) else (if x1 = 4 then (some (gI w 16 9)) else (if x1 = 5 then (some (gI w 12 1)) else (if x1 = 6 then (some (gI w 6 6)) else (if x1 = 7 then (Option.bind (f_X11_toldLaws w) (fun p9 => some p9)) else (if (f_X11_within x1 (10 : Int32) (19 : Int32)) = 0 then (if (f_X11_within x1 (20 : Int32) (23 : Int32)) = 0 then (some (-1 : Int32)) else (if inb (x1 - (20 : Int32)) 4 = true then (some (gI w 7 (ix (x1 - (20 : Int32))))) else none)) else (Option.bind (f_X3_yearOf (x1 - (10 : Int32)) w) (fun p14 => some p14))))))))))
set_option maxHeartbeats 4000000 in
set_option maxRecDepth 100000 in
theorem c_X11_count (g : Gx) (d : Nat) {x1 : Int32} {w : Mm} {p : Int32} (hL : Lay w) (h : f_X11_count x1 w = some p) : Call g (d + 3) yX11_count cX11_count 2 (some .int) [rf g 0, .int x1] w (some (.int p)) w := by
  refine call_of (L0 := [some (rf g 0), some (.int x1)]) (by decide) rfl (Nat.le_of_ble_eq_true rfl) (fun V S0 => ?_)
  have S := S0.b
  unfold f_X11_count at h
  refine i_iload_n S dX11_count_0 rfl ?_
  by_cases q1 : x1 = 0
  · replace h := (if_pos q1).symm.trans h
    refine i_tswIn (tgt := 48) (off := 47) S dX11_count_1 (by rw [q1]; decide) (by rw [q1]; decide) (by rw [q1]; decide) (by decide) ?_
    refine i_aload_n S dX11_count_48 rfl ?_
    refine i_getR S fl_X11_10 (k0 hL) (r0_0 hL) rfl dX11_count_49 ?_
    refine i_getIv (v := gI w 1 4) S fl_X11_217 (k1 hL) rfl rfl dX11_count_52 ?_
    cases h
    exact i_iret S0 rfl dX11_count_55
  · replace h := (if_neg q1).symm.trans h
    by_cases q2 : x1 = 1
    · replace h := (if_pos q2).symm.trans h
      refine i_tswIn (tgt := 56) (off := 55) S dX11_count_1 (by rw [q2]; decide) (by rw [q2]; decide) (by rw [q2]; decide) (by decide) ?_
      refine i_aload_n S dX11_count_56 rfl ?_
      refine i_getR S fl_X11_10 (k0 hL) (r0_0 hL) rfl dX11_count_57 ?_
      refine i_getIv (v := gI w 1 5) S fl_X11_171 (k1 hL) rfl rfl dX11_count_60 ?_
      cases h
      exact i_iret S0 rfl dX11_count_63
    · replace h := (if_neg q2).symm.trans h
      by_cases q3 : x1 = 2
      · replace h := (if_pos q3).symm.trans h
        refine i_tswIn (tgt := 64) (off := 63) S dX11_count_1 (by rw [q3]; decide) (by rw [q3]; decide) (by rw [q3]; decide) (by decide) ?_
        refine i_aload_n S dX11_count_64 rfl ?_
        refine i_getR S fl_X11_10 (k0 hL) (r0_0 hL) rfl dX11_count_65 ?_
        refine i_getIv (v := gI w 1 6) S fl_X11_272 (k1 hL) rfl rfl dX11_count_68 ?_
        cases h
        exact i_iret S0 rfl dX11_count_71
      · replace h := (if_neg q3).symm.trans h
        by_cases q4 : x1 = 3
        · replace h := (if_pos q4).symm.trans h
          refine i_tswIn (tgt := 72) (off := 71) S dX11_count_1 (by rw [q4]; decide) (by rw [q4]; decide) (by rw [q4]; decide) (by decide) ?_
          refine i_aload_n S dX11_count_72 rfl ?_
          refine i_getR S fl_X11_19 (k0 hL) (r0_1 hL) rfl dX11_count_73 ?_
          refine i_getIv (v := gI w 6 5) S fl_X11_101 (k6 hL) rfl rfl dX11_count_76 ?_
          cases h
          exact i_iret S0 rfl dX11_count_79
        · replace h := (if_neg q4).symm.trans h
          by_cases q5 : x1 = 4
          · replace h := (if_pos q5).symm.trans h
            refine i_tswIn (tgt := 80) (off := 79) S dX11_count_1 (by rw [q5]; decide) (by rw [q5]; decide) (by rw [q5]; decide) (by decide) ?_
            refine i_aload_n S dX11_count_80 rfl ?_
            refine i_getR S fl_X11_35 (k0 hL) (r0_3 hL) rfl dX11_count_81 ?_
            refine i_getR S fl_X11_275 (k14 hL) (r14_4 hL) rfl dX11_count_84 ?_
            refine i_getIv (v := gI w 16 9) S fl_X11_278 (k16 hL) rfl rfl dX11_count_87 ?_
            cases h
            exact i_iret S0 rfl dX11_count_90
          · replace h := (if_neg q5).symm.trans h
            by_cases q6 : x1 = 5
            · replace h := (if_pos q6).symm.trans h
              refine i_tswIn (tgt := 91) (off := 90) S dX11_count_1 (by rw [q6]; decide) (by rw [q6]; decide) (by rw [q6]; decide) (by decide) ?_
              refine i_aload_n S dX11_count_91 rfl ?_
              refine i_getR S fl_X11_26 (k0 hL) (r0_2 hL) rfl dX11_count_92 ?_
              refine i_getIv (v := gI w 12 1) S fl_X11_111 (k12 hL) rfl rfl dX11_count_95 ?_
              cases h
              exact i_iret S0 rfl dX11_count_98
            · replace h := (if_neg q6).symm.trans h
              by_cases q7 : x1 = 6
              · replace h := (if_pos q7).symm.trans h
                refine i_tswIn (tgt := 99) (off := 98) S dX11_count_1 (by rw [q7]; decide) (by rw [q7]; decide) (by rw [q7]; decide) (by decide) ?_
                refine i_aload_n S dX11_count_99 rfl ?_
                refine i_getR S fl_X11_19 (k0 hL) (r0_1 hL) rfl dX11_count_100 ?_
                refine i_getIv (v := gI w 6 6) S fl_X11_108 (k6 hL) rfl rfl dX11_count_103 ?_
                cases h
                exact i_iret S0 rfl dX11_count_106
              · replace h := (if_neg q7).symm.trans h
                by_cases q8 : x1 = 7
                · replace h := (if_pos q8).symm.trans h
                  refine i_tswIn (tgt := 107) (off := 106) S dX11_count_1 (by rw [q8]; decide) (by rw [q8]; decide) (by rw [q8]; decide) (by decide) ?_
                  refine i_aload_n S dX11_count_107 rfl ?_
                  obtain ⟨p9, e9, h⟩ := bn h
                  refine i_callV (As := []) (st1 := [.int p9]) S (c_X11_toldLaws g (d + 1) hL e9) mw_X11_toldLaws lk_X11_283 im_X11_toldLaws se_X11_toldLaws ci_11.1 ci_11.2.1 (k0 hL) dX11_count_108 rfl rfl (Nat.le_of_ble_eq_true rfl) rfl ?_
                  cases h
                  exact i_iret S0 rfl dX11_count_111
                · replace h := (if_neg q8).symm.trans h
                  refine i_tswD (tgt := 112) S dX11_count_1 (by decide) (fun j hj => match j, hj with | 0, _ => Or.inr (tsne q1 (by decide)) | 1, _ => Or.inr (tsne q2 (by decide)) | 2, _ => Or.inr (tsne q3 (by decide)) | 3, _ => Or.inr (tsne q4 (by decide)) | 4, _ => Or.inr (tsne q5 (by decide)) | 5, _ => Or.inr (tsne q6 (by decide)) | 6, _ => Or.inr (tsne q7 (by decide)) | 7, _ => Or.inr (tsne q8 (by decide)) | j + 8, hj => absurd hj (by show ¬ j + 8 < 8; omega)) (by decide) ?_
                  refine i_iload_n S dX11_count_112 rfl ?_
                  refine i_bipush (v := 10) S dX11_count_113 bp_10 ?_
                  refine i_bipush (v := 19) S dX11_count_115 bp_19 ?_
                  refine i_callS (As := [.int x1, .int ((10 : Int32)), .int ((19 : Int32))]) (st1 := [.int (f_X11_within x1 (10 : Int32) (19 : Int32))]) S (c_X11_within g (d + 1) rfl) mw_X11_within lk_X11_86 im_X11_within dX11_count_117 rfl rfl (Nat.le_of_ble_eq_true rfl) rfl ?_
                  refine i_if_eq (tgt := 137) S dX11_count_120 (by decide) (fun q10 => ?_) (fun q10 => ?_)
                  · replace h := (if_pos q10).symm.trans h
                    refine i_iload_n S dX11_count_137 rfl ?_
                    refine i_bipush (v := 20) S dX11_count_138 bp_20 ?_
                    refine i_bipush (v := 23) S dX11_count_140 bp_23 ?_
                    refine i_callS (As := [.int x1, .int ((20 : Int32)), .int ((23 : Int32))]) (st1 := [.int (f_X11_within x1 (20 : Int32) (23 : Int32))]) S (c_X11_within g (d + 1) rfl) mw_X11_within lk_X11_86 im_X11_within dX11_count_142 rfl rfl (Nat.le_of_ble_eq_true rfl) rfl ?_
                    refine i_if_eq (tgt := 163) S dX11_count_145 (by decide) (fun q11 => ?_) (fun q11 => ?_)
                    · replace h := (if_pos q11).symm.trans h
                      refine i_iconst (v := -1) S dX11_count_163 ic_m1 ?_
                      cases h
                      exact i_iret S0 rfl dX11_count_164
                    · replace h := (if_neg q11).symm.trans h
                      refine i_aload_n S dX11_count_148 rfl ?_
                      refine i_getR S fl_X11_19 (k0 hL) (r0_1 hL) rfl dX11_count_149 ?_
                      refine i_getR S fl_X11_94 (k6 hL) (r6_0 hL) rfl dX11_count_152 ?_
                      refine i_iload_n S dX11_count_155 rfl ?_
                      refine i_bipush (v := 20) S dX11_count_156 bp_20 ?_
                      refine i_isub S dX11_count_158 ?_
                      obtain ⟨hi13, h⟩ := gd h
                      refine i_ialdv (v := gI w 7 (ix (x1 - (20 : Int32)))) S (k7 hL) hi13 rfl dX11_count_159 ?_
                      refine i_goto (tgt := 164) S dX11_count_160 (by decide) ?_
                      cases h
                      exact i_iret S0 rfl dX11_count_164
                  · replace h := (if_neg q10).symm.trans h
                    refine i_aload_n S dX11_count_123 rfl ?_
                    refine i_getR S fl_X11_10 (k0 hL) (r0_0 hL) rfl dX11_count_124 ?_
                    refine i_iload_n S dX11_count_127 rfl ?_
                    refine i_bipush (v := 10) S dX11_count_128 bp_10 ?_
                    refine i_isub S dX11_count_130 ?_
                    obtain ⟨p14, e14, h⟩ := bn h
                    refine i_callV (As := [.int (x1 - (10 : Int32))]) (st1 := [.int p14]) S (c_X3_yearOf g d hL e14) mw_X3_yearOf lk_X11_286 im_X3_yearOf se_X3_yearOf ci_3.1 ci_3.2.1 (k1 hL) dX11_count_131 rfl rfl (Nat.le_of_ble_eq_true rfl) rfl ?_
                    refine i_goto (tgt := 164) S dX11_count_134 (by decide) ?_
                    cases h
                    exact i_iret S0 rfl dX11_count_164
