/-! WordYear$NearReader.number -/
noncomputable def l_X5_number_4  (s : Int32 × Int32 × Mm) : Option ((Int32 × Int32 × Mm) ⊕ (Int32 × Mm)) := if (5 : Int32) ≤ s.2.1 then (some (.inr (s.1, s.2.2))) else (onL s.2.2 (Option.bind (f_X8_sign s.2.2) (fun p3 => if (f_X5_isDigit p3) = 0 then (some (.inr (s.1, s.2.2))) else (Option.bind (f_X8_sign s.2.2) (fun p5 => Option.bind (f_X8_step s.2.2) (fun p6 => some (.inl ((((10 : Int32) * s.1) + p5) - (48 : Int32), s.2.1 + (1 : Int32), p6))))))))
noncomputable def f_X5_number  (w : Mm) : Option Mm := Option.bind (wh l_X5_number_4 FUEL ((0 : Int32), (0 : Int32), w)) (fun p1 => onL p1.2 (Option.bind (f_X8_sign p1.2) (fun p3 => Option.bind (if (f_X5_isDigit p3) = 0 then (some p1.2) else (Option.bind (f_X8_fail (2 : Int32) p1.2) (fun p8 => some p8))) (fun p5 => onL p5 (Option.bind (f_X4_put 27 (0 : Int32) p1.1 p5) (fun p7 => some p7.2))))))
set_option maxHeartbeats 4000000 in
set_option maxRecDepth 100000 in
theorem t_l_X5_number_4 {g : Gx} {V : Vt} {d : Nat} (S : MachB g yX5_number cX5_number 3 (d + 1) V)   (s : Int32 × Int32 × Mm) (e : (Int32 × Int32 × Mm) ⊕ (Int32 × Mm)) (h : l_X5_number_4  s = some e) (hC : ∀ s2, e = .inl s2 → V 4 [some (rf g 26), some (.int s2.1), some (.int s2.2.1)] [] s2.2.2) (hE : ∀ x, e = .inr x → V 51 [some (rf g 26), some (.int x.1), none] [] x.2) : V 4 [some (rf g 26), some (.int s.1), some (.int s.2.1)] [] s.2.2 := by
  unfold l_X5_number_4 at h
  refine i_iload_n S dX5_number_4 rfl ?_
  refine i_iconst (v := 5) S dX5_number_5 ic_5 ?_
  refine i_icmp_ge (tgt := 51) S dX5_number_6 (by decide) (fun q1 => ?_) (fun q1 => ?_)
  · replace h := (if_pos q1).symm.trans h
    refine i_mask (L1 := [some (rf g 26), some (.int s.1), none]) S [true, true, false] rfl ?_
    have hz := hE _ (Option.some.inj h).symm
    exact hz
  · replace h := (if_neg q1).symm.trans h
    refine i_aload_n S dX5_number_9 rfl ?_
    obtain ⟨hL2, h⟩ := onLn h
    refine i_getR S fl_X5_18 (k26 hL2) (r26_0 hL2) rfl dX5_number_10 ?_
    obtain ⟨p3, e3, h⟩ := bn h
    refine i_callV (As := []) (st1 := [.int p3]) S (c_X8_sign g d hL2 e3) mw_X8_sign lk_X5_35 im_X8_sign se_X8_sign ci_8.1 ci_8.2.1 (k12 hL2) dX5_number_13 rfl rfl (Nat.le_of_ble_eq_true rfl) rfl ?_
    refine i_callS (As := [.int p3]) (st1 := [.int (f_X5_isDigit p3)]) S (c_X5_isDigit g d rfl) mw_X5_isDigit lk_X5_98 im_X5_isDigit dX5_number_16 rfl rfl (Nat.le_of_ble_eq_true rfl) rfl ?_
    refine i_if_eq (tgt := 51) S dX5_number_19 (by decide) (fun q4 => ?_) (fun q4 => ?_)
    · replace h := (if_pos q4).symm.trans h
      refine i_mask (L1 := [some (rf g 26), some (.int s.1), none]) S [true, true, false] rfl ?_
      have hz := hE _ (Option.some.inj h).symm
      exact hz
    · replace h := (if_neg q4).symm.trans h
      refine i_bipush (v := 10) S dX5_number_22 bp_10 ?_
      refine i_iload_n S dX5_number_24 rfl ?_
      refine i_imul S dX5_number_25 ?_
      refine i_aload_n S dX5_number_26 rfl ?_
      refine i_getR S fl_X5_18 (k26 hL2) (r26_0 hL2) rfl dX5_number_27 ?_
      obtain ⟨p5, e5, h⟩ := bn h
      refine i_callV (As := []) (st1 := [.int p5, .int ((10 : Int32) * s.1)]) S (c_X8_sign g d hL2 e5) mw_X8_sign lk_X5_35 im_X8_sign se_X8_sign ci_8.1 ci_8.2.1 (k12 hL2) dX5_number_30 rfl rfl (Nat.le_of_ble_eq_true rfl) rfl ?_
      refine i_iadd S dX5_number_33 ?_
      refine i_bipush (v := 48) S dX5_number_34 bp_48 ?_
      refine i_isub S dX5_number_36 ?_
      refine i_istore_n (L1 := [some (rf g 26), some (.int ((((10 : Int32) * s.1) + p5) - (48 : Int32))), some (.int s.2.1)]) S dX5_number_37 (by decide) rfl ?_
      refine i_aload_n S dX5_number_38 rfl ?_
      refine i_getR S fl_X5_18 (k26 hL2) (r26_0 hL2) rfl dX5_number_39 ?_
      obtain ⟨p6, e6, h⟩ := bn h
      refine i_callV (As := []) (st1 := []) S (c_X8_step g d hL2 e6) mw_X8_step lk_X5_74 im_X8_step se_X8_step ci_8.1 ci_8.2.1 (k12 hL2) dX5_number_42 rfl rfl (Nat.le_of_ble_eq_true rfl) rfl ?_
      refine i_iinc (L1 := [some (rf g 26), some (.int ((((10 : Int32) * s.1) + p5) - (48 : Int32))), some (.int (s.2.1 + (1 : Int32)))]) S dX5_number_45 rfl ic_1 (by decide) rfl ?_
      refine i_goto (tgt := 4) S dX5_number_48 (by decide) ?_
      have hz := hC _ (Option.some.inj h).symm
      exact hz
set_option maxHeartbeats 4000000 in
set_option maxRecDepth 100000 in
theorem c_X5_number (g : Gx) (d : Nat)  {w : Mm} {p : Mm} (hL : Lay w) (h : f_X5_number w = some p) : Call g (d + 2) yX5_number cX5_number 3 none [rf g 26] w none p := by
  refine call_of (L0 := [some (rf g 26), none, none]) (by decide) rfl (Nat.le_of_ble_eq_true rfl) (fun V S0 => ?_)
  have S := S0.b
  unfold f_X5_number at h
  refine i_iconst (v := 0) S dX5_number_0 ic_0 ?_
  refine i_istore_n (L1 := [some (rf g 26), some (.int ((0 : Int32))), none]) S dX5_number_1 (by decide) rfl ?_
  refine i_iconst (v := 0) S dX5_number_2 ic_0 ?_
  refine i_istore_n (L1 := [some (rf g 26), some (.int ((0 : Int32))), some (.int ((0 : Int32)))]) S dX5_number_3 (by decide) rfl ?_
  obtain ⟨p1, e1, h⟩ := bn h
  have hE1 : V 51 [some (rf g 26), some (.int p1.1), none] [] p1.2 := by
    refine i_aload_n S dX5_number_51 rfl ?_
    obtain ⟨hL2, h⟩ := onLn h
    refine i_getR S fl_X5_18 (k26 hL2) (r26_0 hL2) rfl dX5_number_52 ?_
    obtain ⟨p3, e3, h⟩ := bn h
    refine i_callV (As := []) (st1 := [.int p3]) S (c_X8_sign g d hL2 e3) mw_X8_sign lk_X5_35 im_X8_sign se_X8_sign ci_8.1 ci_8.2.1 (k12 hL2) dX5_number_55 rfl rfl (Nat.le_of_ble_eq_true rfl) rfl ?_
    refine i_callS (As := [.int p3]) (st1 := [.int (f_X5_isDigit p3)]) S (c_X5_isDigit g d rfl) mw_X5_isDigit lk_X5_98 im_X5_isDigit dX5_number_58 rfl rfl (Nat.le_of_ble_eq_true rfl) rfl ?_
    obtain ⟨p5, e5, h⟩ := bn h
    have hj5 : ∀ q5, p5 = q5 → V 72 [some (rf g 26), some (.int p1.1), none] [] q5 := by
      intro q5 hq5
      subst hq5
      refine i_aload_n S dX5_number_72 rfl ?_
      obtain ⟨hL6, h⟩ := onLn h
      refine i_getR S fl_X5_12 (k26 hL6) (r26_1 hL6) rfl dX5_number_73 ?_
      refine i_iconst (v := 0) S dX5_number_76 ic_0 ?_
      refine i_iload_n S dX5_number_77 rfl ?_
      obtain ⟨p7, e7, h⟩ := bn h
      refine i_callV (As := [.int ((0 : Int32)), .int p1.1]) (st1 := [.int p7.1]) S (c_X4_put g d hL6 (by decide) e7) mw_X4_put lk_X5_77 im_X4_put se_X4_put ci_4.1 ci_4.2.1 (k27 hL6) dX5_number_78 rfl rfl (Nat.le_of_ble_eq_true rfl) rfl ?_
      refine i_pop S dX5_number_81 rfl ?_
      cases h
      exact i_vret S0 dX5_number_82
    replace h := e5
    clear e5
    refine i_if_eq (tgt := 72) S dX5_number_61 (by decide) (fun q4 => ?_) (fun q4 => ?_)
    · replace h := (if_pos q4).symm.trans h
      have hz := hj5 _ (Option.some.inj h).symm
      exact hz
    · replace h := (if_neg q4).symm.trans h
      refine i_aload_n S dX5_number_64 rfl ?_
      refine i_getR S fl_X5_18 (k26 hL2) (r26_0 hL2) rfl dX5_number_65 ?_
      refine i_iconst (v := 2) S dX5_number_68 ic_2 ?_
      obtain ⟨p8, e8, h⟩ := bn h
      refine i_callV (As := [.int ((2 : Int32))]) (st1 := []) S (c_X8_fail g d hL2 e8) mw_X8_fail lk_X5_39 im_X8_fail se_X8_fail ci_8.1 ci_8.2.1 (k12 hL2) dX5_number_69 rfl rfl (Nat.le_of_ble_eq_true rfl) rfl ?_
      have hz := hj5 _ (Option.some.inj h).symm
      exact hz
  exact wh_V (P := fun sv1 => V 4 [some (rf g 26), some (.int sv1.1), some (.int sv1.2.1)] [] sv1.2.2) (E := fun xv1 => V 51 [some (rf g 26), some (.int xv1.1), none] [] xv1.2) (fun sv1 ev hb hc he => t_l_X5_number_4   S  sv1 ev hb hc he) FUEL _ _ e1 hE1
/-! WordYear$Tape.opens -/
noncomputable def f_X8_opens (x1 : Int32) (w : Mm) : Option (Int32 × Mm) := if x1 < (6 : Int32) then (some ((1 : Int32), sI w 12 3 ((gI w 12 3) + (1 : Int32)))) else (Option.bind (f_X8_fail (5 : Int32) w) (fun p2 => some ((0 : Int32), p2)))
set_option maxHeartbeats 4000000 in
set_option maxRecDepth 100000 in
theorem c_X8_opens (g : Gx) (d : Nat) {x1 : Int32} {w : Mm} {p : (Int32 × Mm)} (hL : Lay w) (h : f_X8_opens x1 w = some p) : Call g (d + 2) yX8_opens cX8_opens 2 (some .boolean) [rf g 12, .int x1] w (some (.int p.1)) p.2 := by
  refine call_of (L0 := [some (rf g 12), some (.int x1)]) (by decide) rfl (Nat.le_of_ble_eq_true rfl) (fun V S0 => ?_)
  have S := S0.b
  unfold f_X8_opens at h
  refine i_iload_n S dX8_opens_0 rfl ?_
  refine i_bipush (v := 6) S dX8_opens_1 bp_6 ?_
  refine i_icmp_lt (tgt := 13) S dX8_opens_3 (by decide) (fun q1 => ?_) (fun q1 => ?_)
  · replace h := (if_pos q1).symm.trans h
    refine i_aload_n S dX8_opens_13 rfl ?_
    refine i_dup S dX8_opens_14 rfl ?_
    refine i_getIv (v := gI w 12 3) S fl_X8_26 (k12 hL) rfl rfl dX8_opens_15 ?_
    refine i_iconst (v := 1) S dX8_opens_18 ic_1 ?_
    refine i_iadd S dX8_opens_19 ?_
    refine i_putI S fl_X8_26 (k12 hL) rfl rfl rfl dX8_opens_20 ?_
    refine i_iconst (v := 1) S dX8_opens_23 ic_1 ?_
    cases h
    exact i_iret S0 rfl dX8_opens_24
  · replace h := (if_neg q1).symm.trans h
    refine i_aload_n S dX8_opens_6 rfl ?_
    refine i_iconst (v := 5) S dX8_opens_7 ic_5 ?_
    obtain ⟨p2, e2, h⟩ := bn h
    refine i_callV (As := [.int ((5 : Int32))]) (st1 := []) S (c_X8_fail g d hL e2) mw_X8_fail lk_X8_36 im_X8_fail se_X8_fail ci_8.1 ci_8.2.1 (k12 hL) dX8_opens_8 rfl rfl (Nat.le_of_ble_eq_true rfl) rfl ?_
    refine i_iconst (v := 0) S dX8_opens_11 ic_0 ?_
    cases h
    exact i_iret S0 rfl dX8_opens_12
/-! WordYear$Tape.pass -/
noncomputable def f_X8_pass (x1 : Int32) (w : Mm) : Option Mm := Option.bind (f_X8_sign w) (fun p1 => if p1 = x1 then (some (sI w 12 3 ((gI w 12 3) + (1 : Int32)))) else (Option.bind (f_X8_fail (1 : Int32) w) (fun p3 => some p3)))
set_option maxHeartbeats 4000000 in
set_option maxRecDepth 100000 in
theorem c_X8_pass (g : Gx) (d : Nat) {x1 : Int32} {w : Mm} {p : Mm} (hL : Lay w) (h : f_X8_pass x1 w = some p) : Call g (d + 2) yX8_pass cX8_pass 2 none [rf g 12, .int x1] w none p := by
  refine call_of (L0 := [some (rf g 12), some (.int x1)]) (by decide) rfl (Nat.le_of_ble_eq_true rfl) (fun V S0 => ?_)
  have S := S0.b
  unfold f_X8_pass at h
  refine i_aload_n S dX8_pass_0 rfl ?_
  obtain ⟨p1, e1, h⟩ := bn h
  refine i_callV (As := []) (st1 := [.int p1]) S (c_X8_sign g d hL e1) mw_X8_sign lk_X8_32 im_X8_sign se_X8_sign ci_8.1 ci_8.2.1 (k12 hL) dX8_pass_1 rfl rfl (Nat.le_of_ble_eq_true rfl) rfl ?_
  refine i_iload_n S dX8_pass_4 rfl ?_
  refine i_icmp_ne (tgt := 21) S dX8_pass_5 (by decide) (fun q2 => ?_) (fun q2 => ?_)
  · replace h := (if_neg q2).symm.trans h
    refine i_aload_n S dX8_pass_21 rfl ?_
    refine i_iconst (v := 1) S dX8_pass_22 ic_1 ?_
    obtain ⟨p3, e3, h⟩ := bn h
    refine i_callV (As := [.int ((1 : Int32))]) (st1 := []) S (c_X8_fail g d hL e3) mw_X8_fail lk_X8_36 im_X8_fail se_X8_fail ci_8.1 ci_8.2.1 (k12 hL) dX8_pass_23 rfl rfl (Nat.le_of_ble_eq_true rfl) rfl ?_
    cases h
    exact i_vret S0 dX8_pass_26
  · replace h := (if_pos q2).symm.trans h
    refine i_aload_n S dX8_pass_8 rfl ?_
    refine i_dup S dX8_pass_9 rfl ?_
    refine i_getIv (v := gI w 12 3) S fl_X8_26 (k12 hL) rfl rfl dX8_pass_10 ?_
    refine i_iconst (v := 1) S dX8_pass_13 ic_1 ?_
    refine i_iadd S dX8_pass_14 ?_
    refine i_putI S fl_X8_26 (k12 hL) rfl rfl rfl dX8_pass_15 ?_
    refine i_goto (tgt := 26) S dX8_pass_18 (by decide) ?_
    cases h
    exact i_vret S0 dX8_pass_26
/-! WordYear$NearReader.productStep -/
noncomputable def f_X5_productStep (x0 : Int32) : Int32 := if x0 = (42 : Int32) then ((4 : Int32)) else (if x0 = (47 : Int32) then ((5 : Int32)) else (if x0 = (37 : Int32) then ((6 : Int32)) else ((-1 : Int32))))
set_option maxHeartbeats 4000000 in
set_option maxRecDepth 100000 in
theorem c_X5_productStep (g : Gx) (d : Nat) {x0 : Int32} {w : Mm} {p : Int32}  (h : f_X5_productStep x0 = p) : Call g (d + 1) yX5_productStep cX5_productStep 1 (some .int) [.int x0] w (some (.int p)) w := by
  refine call_of (L0 := [some (.int x0)]) (by decide) rfl (Nat.le_of_ble_eq_true rfl) (fun V S0 => ?_)
  have S := S0.b
  unfold f_X5_productStep at h
  refine i_iload_n S dX5_productStep_0 rfl ?_
  refine i_bipush (v := 42) S dX5_productStep_1 bp_42 ?_
  refine i_icmp_ne (tgt := 10) S dX5_productStep_3 (by decide) (fun q1 => ?_) (fun q1 => ?_)
  · replace h := (if_neg q1).symm.trans h
    refine i_iload_n S dX5_productStep_10 rfl ?_
    refine i_bipush (v := 47) S dX5_productStep_11 bp_47 ?_
    refine i_icmp_ne (tgt := 20) S dX5_productStep_13 (by decide) (fun q2 => ?_) (fun q2 => ?_)
    · replace h := (if_neg q2).symm.trans h
      refine i_iload_n S dX5_productStep_20 rfl ?_
      refine i_bipush (v := 37) S dX5_productStep_21 bp_37 ?_
      refine i_icmp_ne (tgt := 31) S dX5_productStep_23 (by decide) (fun q3 => ?_) (fun q3 => ?_)
      · replace h := (if_neg q3).symm.trans h
        refine i_iconst (v := -1) S dX5_productStep_31 ic_m1 ?_
        subst h
        exact i_iret S0 rfl dX5_productStep_32
      · replace h := (if_pos q3).symm.trans h
        refine i_bipush (v := 6) S dX5_productStep_26 bp_6 ?_
        refine i_goto (tgt := 32) S dX5_productStep_28 (by decide) ?_
        subst h
        exact i_iret S0 rfl dX5_productStep_32
    · replace h := (if_pos q2).symm.trans h
      refine i_iconst (v := 5) S dX5_productStep_16 ic_5 ?_
      refine i_goto (tgt := 32) S dX5_productStep_17 (by decide) ?_
      subst h
      exact i_iret S0 rfl dX5_productStep_32
  · replace h := (if_pos q1).symm.trans h
    refine i_iconst (v := 4) S dX5_productStep_6 ic_4 ?_
    refine i_goto (tgt := 32) S dX5_productStep_7 (by decide) ?_
    subst h
    exact i_iret S0 rfl dX5_productStep_32
/-! WordYear$NearReader.sumStep -/
noncomputable def f_X5_sumStep (x0 : Int32) : Int32 := if x0 = (43 : Int32) then ((2 : Int32)) else (if x0 = (45 : Int32) then ((3 : Int32)) else ((-1 : Int32)))
set_option maxHeartbeats 4000000 in
set_option maxRecDepth 100000 in
theorem c_X5_sumStep (g : Gx) (d : Nat) {x0 : Int32} {w : Mm} {p : Int32}  (h : f_X5_sumStep x0 = p) : Call g (d + 1) yX5_sumStep cX5_sumStep 1 (some .int) [.int x0] w (some (.int p)) w := by
  refine call_of (L0 := [some (.int x0)]) (by decide) rfl (Nat.le_of_ble_eq_true rfl) (fun V S0 => ?_)
  have S := S0.b
  unfold f_X5_sumStep at h
  refine i_iload_n S dX5_sumStep_0 rfl ?_
  refine i_bipush (v := 43) S dX5_sumStep_1 bp_43 ?_
  refine i_icmp_ne (tgt := 10) S dX5_sumStep_3 (by decide) (fun q1 => ?_) (fun q1 => ?_)
  · replace h := (if_neg q1).symm.trans h
    refine i_iload_n S dX5_sumStep_10 rfl ?_
    refine i_bipush (v := 45) S dX5_sumStep_11 bp_45 ?_
    refine i_icmp_ne (tgt := 20) S dX5_sumStep_13 (by decide) (fun q2 => ?_) (fun q2 => ?_)
    · replace h := (if_neg q2).symm.trans h
      refine i_iconst (v := -1) S dX5_sumStep_20 ic_m1 ?_
      subst h
      exact i_iret S0 rfl dX5_sumStep_21
    · replace h := (if_pos q2).symm.trans h
      refine i_iconst (v := 3) S dX5_sumStep_16 ic_3 ?_
      refine i_goto (tgt := 21) S dX5_sumStep_17 (by decide) ?_
      subst h
      exact i_iret S0 rfl dX5_sumStep_21
  · replace h := (if_pos q1).symm.trans h
    refine i_iconst (v := 2) S dX5_sumStep_6 ic_2 ?_
    refine i_goto (tgt := 21) S dX5_sumStep_7 (by decide) ?_
    subst h
    exact i_iret S0 rfl dX5_sumStep_21
/-! WordYear$NearReader.factor -/
noncomputable def gf_X5_factor (rec : Nat → Int32 → Int32 → Mm → Option Mm) (x1 : Int32) (w : Mm) : Option Mm := Option.bind (f_X8_sign w) (fun p1 => if p1 = (91 : Int32) then (Option.bind (f_X8_opens x1 w) (fun p10 => if p10.1 = 0 then (some p10.2) else (onL p10.2 (Option.bind (rec 1 (0 : Int32) (x1 + (1 : Int32)) p10.2) (fun p13 => onL p13 (Option.bind (f_X8_pass (93 : Int32) p13) (fun p15 => some p15))))))) else (if (f_X5_isDigit p1) = 0 then (if (f_X5_letterOf p1) = (-1 : Int32) then (Option.bind (f_X8_fail (1 : Int32) w) (fun p5 => some p5)) else (Option.bind (f_X8_step w) (fun p6 => onL p6 (Option.bind (f_X4_put 27 (1 : Int32) (f_X5_letterOf p1) p6) (fun p8 => some p8.2))))) else (Option.bind (f_X5_number w) (fun p9 => some p9))))
set_option maxHeartbeats 4000000 in
set_option maxRecDepth 100000 in
theorem cb_X5_factor (g : Gx) {dq : Nat} {rec : Nat → Int32 → Int32 → Mm → Option Mm} (hk0 : 2 ≤ dq) (hrec0 : ∀ (g : Gx) (x1 : Int32) (w : Mm) {p : Mm}, Lay w →  rec 0 x1 0 w = some p → Call g (dq) yX5_factor cX5_factor 4 none [rf g 26, .int x1] w none p) (hrec1 : ∀ (g : Gx) (x1 : Int32) (x2 : Int32) (w : Mm) {p : Mm}, Lay w →  rec 1 x1 x2 w = some p → Call g (dq) yX5_sum cX5_sum 6 none [rf g 26, .int x1, .int x2] w none p) {x1 : Int32} {w : Mm} {p : Mm} (hL : Lay w) (h : gf_X5_factor rec x1 w = some p) : Call g (dq + 1) yX5_factor cX5_factor 4 none [rf g 26, .int x1] w none p := by
  refine call_of (L0 := [some (rf g 26), some (.int x1), none, none]) (by decide) rfl (Nat.le_of_ble_eq_true rfl) (fun V S0 => ?_)
  have S := S0.b
  unfold gf_X5_factor at h
  refine i_aload_n S dX5_factor_0 rfl ?_
  refine i_getR S fl_X5_18 (k26 hL) (r26_0 hL) rfl dX5_factor_1 ?_
  obtain ⟨p1, e1, h⟩ := bn h
  refine i_callV (As := []) (st1 := [.int p1]) S (Call.lift (by omega) (c_X8_sign g ((dq - 1)) hL e1)) mw_X8_sign lk_X5_35 im_X8_sign se_X8_sign ci_8.1 ci_8.2.1 (k12 hL) dX5_factor_4 rfl rfl (Nat.le_of_ble_eq_true rfl) rfl ?_
  refine i_istore_n (L1 := [some (rf g 26), some (.int x1), some (.int p1), none]) S dX5_factor_7 (by decide) rfl ?_
  refine i_iload_n S dX5_factor_8 rfl ?_
  refine i_callS (As := [.int p1]) (st1 := [.int (f_X5_letterOf p1)]) S (Call.lift (by omega) (c_X5_letterOf g ((dq - 1)) rfl)) mw_X5_letterOf lk_X5_95 im_X5_letterOf dX5_factor_9 rfl rfl (Nat.le_of_ble_eq_true rfl) rfl ?_
  refine i_istore_n (L1 := [some (rf g 26), some (.int x1), some (.int p1), some (.int (f_X5_letterOf p1))]) S dX5_factor_12 (by decide) rfl ?_
  refine i_iload_n S dX5_factor_13 rfl ?_
  refine i_bipush (v := 91) S dX5_factor_14 bp_91 ?_
  refine i_icmp_ne (tgt := 50) S dX5_factor_16 (by decide) (fun q2 => ?_) (fun q2 => ?_)
  · replace h := (if_neg q2).symm.trans h
    refine i_iload_n S dX5_factor_50 rfl ?_
    refine i_callS (As := [.int p1]) (st1 := [.int (f_X5_isDigit p1)]) S (Call.lift (by omega) (c_X5_isDigit g ((dq - 1)) rfl)) mw_X5_isDigit lk_X5_98 im_X5_isDigit dX5_factor_51 rfl rfl (Nat.le_of_ble_eq_true rfl) rfl ?_
    refine i_if_eq (tgt := 64) S dX5_factor_54 (by decide) (fun q3 => ?_) (fun q3 => ?_)
    · replace h := (if_pos q3).symm.trans h
      refine i_iload_n S dX5_factor_64 rfl ?_
      refine i_iconst (v := -1) S dX5_factor_65 ic_m1 ?_
      refine i_icmp_eq (tgt := 89) S dX5_factor_66 (by decide) (fun q4 => ?_) (fun q4 => ?_)
      · replace h := (if_pos q4).symm.trans h
        refine i_aload_n S dX5_factor_89 rfl ?_
        refine i_getR S fl_X5_18 (k26 hL) (r26_0 hL) rfl dX5_factor_90 ?_
        refine i_iconst (v := 1) S dX5_factor_93 ic_1 ?_
        obtain ⟨p5, e5, h⟩ := bn h
        refine i_callV (As := [.int ((1 : Int32))]) (st1 := []) S (Call.lift (by omega) (c_X8_fail g ((dq - 1)) hL e5)) mw_X8_fail lk_X5_39 im_X8_fail se_X8_fail ci_8.1 ci_8.2.1 (k12 hL) dX5_factor_94 rfl rfl (Nat.le_of_ble_eq_true rfl) rfl ?_
        cases h
        exact i_vret S0 dX5_factor_97
      · replace h := (if_neg q4).symm.trans h
        refine i_aload_n S dX5_factor_69 rfl ?_
        refine i_getR S fl_X5_18 (k26 hL) (r26_0 hL) rfl dX5_factor_70 ?_
        obtain ⟨p6, e6, h⟩ := bn h
        refine i_callV (As := []) (st1 := []) S (Call.lift (by omega) (c_X8_step g ((dq - 1)) hL e6)) mw_X8_step lk_X5_74 im_X8_step se_X8_step ci_8.1 ci_8.2.1 (k12 hL) dX5_factor_73 rfl rfl (Nat.le_of_ble_eq_true rfl) rfl ?_
        refine i_aload_n S dX5_factor_76 rfl ?_
        obtain ⟨hL7, h⟩ := onLn h
        refine i_getR S fl_X5_12 (k26 hL7) (r26_1 hL7) rfl dX5_factor_77 ?_
        refine i_iconst (v := 1) S dX5_factor_80 ic_1 ?_
        refine i_iload_n S dX5_factor_81 rfl ?_
        obtain ⟨p8, e8, h⟩ := bn h
        refine i_callV (As := [.int ((1 : Int32)), .int (f_X5_letterOf p1)]) (st1 := [.int p8.1]) S (Call.lift (by omega) (c_X4_put g ((dq - 1)) hL7 (by decide) e8)) mw_X4_put lk_X5_77 im_X4_put se_X4_put ci_4.1 ci_4.2.1 (k27 hL7) dX5_factor_82 rfl rfl (Nat.le_of_ble_eq_true rfl) rfl ?_
        refine i_pop S dX5_factor_85 rfl ?_
        refine i_goto (tgt := 97) S dX5_factor_86 (by decide) ?_
        cases h
        exact i_vret S0 dX5_factor_97
    · replace h := (if_neg q3).symm.trans h
      refine i_aload_n S dX5_factor_57 rfl ?_
      obtain ⟨p9, e9, h⟩ := bn h
      refine i_callV (As := []) (st1 := []) S (Call.lift (by omega) (c_X5_number g ((dq - 2)) hL e9)) mw_X5_number lk_X5_101 im_X5_number se_X5_number ci_5.1 ci_5.2.1 (k26 hL) dX5_factor_58 rfl rfl (Nat.le_of_ble_eq_true rfl) rfl ?_
      refine i_goto (tgt := 97) S dX5_factor_61 (by decide) ?_
      cases h
      exact i_vret S0 dX5_factor_97
  · replace h := (if_pos q2).symm.trans h
    refine i_aload_n S dX5_factor_19 rfl ?_
    refine i_getR S fl_X5_18 (k26 hL) (r26_0 hL) rfl dX5_factor_20 ?_
    refine i_iload_n S dX5_factor_23 rfl ?_
    obtain ⟨p10, e10, h⟩ := bn h
    refine i_callV (As := [.int x1]) (st1 := [.int p10.1]) S (Call.lift (by omega) (c_X8_opens g ((dq - 2)) hL e10)) mw_X8_opens lk_X5_81 im_X8_opens se_X8_opens ci_8.1 ci_8.2.1 (k12 hL) dX5_factor_24 rfl rfl (Nat.le_of_ble_eq_true rfl) rfl ?_
    refine i_if_eq (tgt := 97) S dX5_factor_27 (by decide) (fun q11 => ?_) (fun q11 => ?_)
    · replace h := (if_pos q11).symm.trans h
      cases h
      exact i_vret S0 dX5_factor_97
    · replace h := (if_neg q11).symm.trans h
      refine i_aload_n S dX5_factor_30 rfl ?_
      refine i_iconst (v := 0) S dX5_factor_31 ic_0 ?_
      refine i_iload_n S dX5_factor_32 rfl ?_
      refine i_iconst (v := 1) S dX5_factor_33 ic_1 ?_
      refine i_iadd S dX5_factor_34 ?_
      obtain ⟨hL12, h⟩ := onLn h
      obtain ⟨p13, e13, h⟩ := bn h
      refine i_callV (As := [.int ((0 : Int32)), .int (x1 + (1 : Int32))]) (st1 := []) S (hrec1 _ _ _ _ hL12 e13) mw_X5_sum lk_X5_48 im_X5_sum se_X5_sum ci_5.1 ci_5.2.1 (k26 hL12) dX5_factor_35 rfl rfl (Nat.le_of_ble_eq_true rfl) rfl ?_
      refine i_aload_n S dX5_factor_38 rfl ?_
      obtain ⟨hL14, h⟩ := onLn h
      refine i_getR S fl_X5_18 (k26 hL14) (r26_0 hL14) rfl dX5_factor_39 ?_
      refine i_bipush (v := 93) S dX5_factor_42 bp_93 ?_
      obtain ⟨p15, e15, h⟩ := bn h
      refine i_callV (As := [.int ((93 : Int32))]) (st1 := []) S (Call.lift (by omega) (c_X8_pass g ((dq - 2)) hL14 e15)) mw_X8_pass lk_X5_42 im_X8_pass se_X8_pass ci_8.1 ci_8.2.1 (k12 hL14) dX5_factor_44 rfl rfl (Nat.le_of_ble_eq_true rfl) rfl ?_
      refine i_goto (tgt := 97) S dX5_factor_47 (by decide) ?_
      cases h
      exact i_vret S0 dX5_factor_97
/-! WordYear$NearReader.sum -/
noncomputable def l_X5_sum_8 (rec : Nat → Int32 → Int32 → Mm → Option Mm) (x1 : Int32) (x2 : Int32) (s : Int32 × Int32 × Int32 × Mm) : Option ((Int32 × Int32 × Int32 × Mm) ⊕ (Mm)) := if (160 : Int32) ≤ s.2.2.1 then (some (.inr s.2.2.2)) else (if s.2.1 = 0 then (some (.inr s.2.2.2)) else (Option.bind (if x1 = 0 then (onL s.2.2.2 (Option.bind (rec 1 (1 : Int32) x2 s.2.2.2) (fun p24 => some p24))) else (onL s.2.2.2 (Option.bind (rec 0 x2 0 s.2.2.2) (fun p22 => some p22)))) (fun p4 => Option.bind (if s.1 = (-1 : Int32) then (some p4) else (onL p4 (Option.bind (f_X4_put 27 s.1 (0 : Int32) p4) (fun p20 => some p20.2)))) (fun p6 => Option.bind (if x1 = 0 then (onL p6 (Option.bind (f_X8_sign p6) (fun p18 => some (f_X5_sumStep p18)))) else (onL p6 (Option.bind (f_X8_sign p6) (fun p16 => some (f_X5_productStep p16))))) (fun p8 => Option.bind (if p8 = (-1 : Int32) then (some (0 : Int32)) else (some (1 : Int32))) (fun p10 => Option.bind (if p10 = 0 then (some p6) else (onL p6 (Option.bind (f_X8_step p6) (fun p14 => some p14)))) (fun p12 => some (.inl (p8, p10, s.2.2.1 + (1 : Int32), p12)))))))))
noncomputable def gf_X5_sum (rec : Nat → Int32 → Int32 → Mm → Option Mm) (x1 : Int32) (x2 : Int32) (w : Mm) : Option Mm := Option.bind (wh (l_X5_sum_8 rec x1 x2) FUEL ((-1 : Int32), (1 : Int32), (0 : Int32), w)) (fun p1 => some p1)
set_option maxHeartbeats 4000000 in
set_option maxRecDepth 100000 in
theorem t_l_X5_sum_8 {g : Gx} {V : Vt} {dq : Nat} {rec : Nat → Int32 → Int32 → Mm → Option Mm} (hk0 : 2 ≤ dq) (hrec0 : ∀ (g : Gx) (x1 : Int32) (w : Mm) {p : Mm}, Lay w →  rec 0 x1 0 w = some p → Call g (dq) yX5_factor cX5_factor 4 none [rf g 26, .int x1] w none p) (hrec1 : ∀ (g : Gx) (x1 : Int32) (x2 : Int32) (w : Mm) {p : Mm}, Lay w →  rec 1 x1 x2 w = some p → Call g (dq) yX5_sum cX5_sum 6 none [rf g 26, .int x1, .int x2] w none p) (S : MachB g yX5_sum cX5_sum 6 (dq) V) {x1 : Int32} {x2 : Int32}  (s : Int32 × Int32 × Int32 × Mm) (e : (Int32 × Int32 × Int32 × Mm) ⊕ (Mm)) (h : l_X5_sum_8 rec x1 x2 s = some e) (hC : ∀ s2, e = .inl s2 → V 8 [some (rf g 26), some (.int x1), some (.int x2), some (.int s2.1), some (.int s2.2.1), some (.int s2.2.2.1)] [] s2.2.2.2) (hE : ∀ x, e = .inr x → V 112 [none, none, none, none, none, none] [] x) : V 8 [some (rf g 26), some (.int x1), some (.int x2), some (.int s.1), some (.int s.2.1), some (.int s.2.2.1)] [] s.2.2.2 := by
  unfold l_X5_sum_8 at h
  refine i_iload S dX5_sum_8 rfl ?_
  refine i_sipush (v := 160) S dX5_sum_10 sp_160 ?_
  refine i_icmp_ge (tgt := 112) S dX5_sum_13 (by decide) (fun q1 => ?_) (fun q1 => ?_)
  · replace h := (if_pos q1).symm.trans h
    refine i_mask (L1 := [none, none, none, none, none, none]) S [false, false, false, false, false, false] rfl ?_
    have hz := hE _ (Option.some.inj h).symm
    exact hz
  · replace h := (if_neg q1).symm.trans h
    refine i_iload S dX5_sum_16 rfl ?_
    refine i_if_eq (tgt := 112) S dX5_sum_18 (by decide) (fun q2 => ?_) (fun q2 => ?_)
    · replace h := (if_pos q2).symm.trans h
      refine i_mask (L1 := [none, none, none, none, none, none]) S [false, false, false, false, false, false] rfl ?_
      have hz := hE _ (Option.some.inj h).symm
      exact hz
    · replace h := (if_neg q2).symm.trans h
      refine i_iload_n S dX5_sum_21 rfl ?_
      obtain ⟨p4, e4, h⟩ := bn h
      have hj4 : ∀ q4, p4 = q4 → V 39 [some (rf g 26), some (.int x1), some (.int x2), some (.int s.1), none, some (.int s.2.2.1)] [] q4 := by
        intro q4 hq4
        subst hq4
        refine i_iload_n S dX5_sum_39 rfl ?_
        refine i_iconst (v := -1) S dX5_sum_40 ic_m1 ?_
        obtain ⟨p6, e6, h⟩ := bn h
        have hj6 : ∀ q6, p6 = q6 → V 54 [some (rf g 26), some (.int x1), some (.int x2), none, none, some (.int s.2.2.1)] [] q6 := by
          intro q6 hq6
          subst hq6
          refine i_iload_n S dX5_sum_54 rfl ?_
          obtain ⟨p8, e8, h⟩ := bn h
          have hj8 : ∀ q8, p8 = q8 → V 81 [some (rf g 26), some (.int x1), some (.int x2), none, none, some (.int s.2.2.1)] [.int q8] p6 := by
            intro q8 hq8
            subst hq8
            refine i_istore_n (L1 := [some (rf g 26), some (.int x1), some (.int x2), some (.int p8), none, some (.int s.2.2.1)]) S dX5_sum_81 (by decide) rfl ?_
            refine i_iload_n S dX5_sum_82 rfl ?_
            refine i_iconst (v := -1) S dX5_sum_83 ic_m1 ?_
            obtain ⟨p10, e10, h⟩ := bn h
            have hj10 : ∀ q10, p10 = q10 → V 92 [some (rf g 26), some (.int x1), some (.int x2), some (.int p8), none, some (.int s.2.2.1)] [.int q10] p6 := by
              intro q10 hq10
              subst hq10
              refine i_istore (L1 := [some (rf g 26), some (.int x1), some (.int x2), some (.int p8), some (.int p10), some (.int s.2.2.1)]) S dX5_sum_92 (by decide) rfl ?_
              refine i_iload S dX5_sum_94 rfl ?_
              obtain ⟨p12, e12, h⟩ := bn h
              have hj12 : ∀ q12, p12 = q12 → V 106 [some (rf g 26), some (.int x1), some (.int x2), some (.int p8), some (.int p10), some (.int s.2.2.1)] [] q12 := by
                intro q12 hq12
                subst hq12
                refine i_iinc (L1 := [some (rf g 26), some (.int x1), some (.int x2), some (.int p8), some (.int p10), some (.int (s.2.2.1 + (1 : Int32)))]) S dX5_sum_106 rfl ic_1 (by decide) rfl ?_
                refine i_goto (tgt := 8) S dX5_sum_109 (by decide) ?_
                have hz := hC _ (Option.some.inj h).symm
                exact hz
              replace h := e12
              clear e12
              refine i_if_eq (tgt := 106) S dX5_sum_96 (by decide) (fun q11 => ?_) (fun q11 => ?_)
              · replace h := (if_pos q11).symm.trans h
                have hz := hj12 _ (Option.some.inj h).symm
                exact hz
              · replace h := (if_neg q11).symm.trans h
                refine i_aload_n S dX5_sum_99 rfl ?_
                obtain ⟨hL13, h⟩ := onLn h
                refine i_getR S fl_X5_18 (k26 hL13) (r26_0 hL13) rfl dX5_sum_100 ?_
                obtain ⟨p14, e14, h⟩ := bn h
                refine i_callV (As := []) (st1 := []) S (Call.lift (by omega) (c_X8_step g ((dq - 1)) hL13 e14)) mw_X8_step lk_X5_74 im_X8_step se_X8_step ci_8.1 ci_8.2.1 (k12 hL13) dX5_sum_103 rfl rfl (Nat.le_of_ble_eq_true rfl) rfl ?_
                have hz := hj12 _ (Option.some.inj h).symm
                exact hz
            replace h := e10
            clear e10
            refine i_icmp_eq (tgt := 91) S dX5_sum_84 (by decide) (fun q9 => ?_) (fun q9 => ?_)
            · replace h := (if_pos q9).symm.trans h
              refine i_iconst (v := 0) S dX5_sum_91 ic_0 ?_
              have hz := hj10 _ (Option.some.inj h).symm
              exact hz
            · replace h := (if_neg q9).symm.trans h
              refine i_iconst (v := 1) S dX5_sum_87 ic_1 ?_
              refine i_goto (tgt := 92) S dX5_sum_88 (by decide) ?_
              have hz := hj10 _ (Option.some.inj h).symm
              exact hz
          replace h := e8
          clear e8
          refine i_if_ne (tgt := 71) S dX5_sum_55 (by decide) (fun q7 => ?_) (fun q7 => ?_)
          · replace h := (if_neg q7).symm.trans h
            refine i_aload_n S dX5_sum_71 rfl ?_
            obtain ⟨hL15, h⟩ := onLn h
            refine i_getR S fl_X5_18 (k26 hL15) (r26_0 hL15) rfl dX5_sum_72 ?_
            obtain ⟨p16, e16, h⟩ := bn h
            refine i_callV (As := []) (st1 := [.int p16]) S (Call.lift (by omega) (c_X8_sign g ((dq - 1)) hL15 e16)) mw_X8_sign lk_X5_35 im_X8_sign se_X8_sign ci_8.1 ci_8.2.1 (k12 hL15) dX5_sum_75 rfl rfl (Nat.le_of_ble_eq_true rfl) rfl ?_
            refine i_callS (As := [.int p16]) (st1 := [.int (f_X5_productStep p16)]) S (Call.lift (by omega) (c_X5_productStep g ((dq - 1)) rfl)) mw_X5_productStep lk_X5_92 im_X5_productStep dX5_sum_78 rfl rfl (Nat.le_of_ble_eq_true rfl) rfl ?_
            have hz := hj8 _ (Option.some.inj h).symm
            exact hz
          · replace h := (if_pos q7).symm.trans h
            refine i_aload_n S dX5_sum_58 rfl ?_
            obtain ⟨hL17, h⟩ := onLn h
            refine i_getR S fl_X5_18 (k26 hL17) (r26_0 hL17) rfl dX5_sum_59 ?_
            obtain ⟨p18, e18, h⟩ := bn h
            refine i_callV (As := []) (st1 := [.int p18]) S (Call.lift (by omega) (c_X8_sign g ((dq - 1)) hL17 e18)) mw_X8_sign lk_X5_35 im_X8_sign se_X8_sign ci_8.1 ci_8.2.1 (k12 hL17) dX5_sum_62 rfl rfl (Nat.le_of_ble_eq_true rfl) rfl ?_
            refine i_callS (As := [.int p18]) (st1 := [.int (f_X5_sumStep p18)]) S (Call.lift (by omega) (c_X5_sumStep g ((dq - 1)) rfl)) mw_X5_sumStep lk_X5_88 im_X5_sumStep dX5_sum_65 rfl rfl (Nat.le_of_ble_eq_true rfl) rfl ?_
            refine i_goto (tgt := 81) S dX5_sum_68 (by decide) ?_
            have hz := hj8 _ (Option.some.inj h).symm
            exact hz
        replace h := e6
        clear e6
        refine i_icmp_eq (tgt := 54) S dX5_sum_41 (by decide) (fun q5 => ?_) (fun q5 => ?_)
        · replace h := (if_pos q5).symm.trans h
          refine i_mask (L1 := [some (rf g 26), some (.int x1), some (.int x2), none, none, some (.int s.2.2.1)]) S [true, true, true, false, false, true] rfl ?_
          have hz := hj6 _ (Option.some.inj h).symm
          exact hz
        · replace h := (if_neg q5).symm.trans h
          refine i_aload_n S dX5_sum_44 rfl ?_
          obtain ⟨hL19, h⟩ := onLn h
          refine i_getR S fl_X5_12 (k26 hL19) (r26_1 hL19) rfl dX5_sum_45 ?_
          refine i_iload_n S dX5_sum_48 rfl ?_
          refine i_iconst (v := 0) S dX5_sum_49 ic_0 ?_
          obtain ⟨p20, e20, h⟩ := bn h
          refine i_callV (As := [.int s.1, .int ((0 : Int32))]) (st1 := [.int p20.1]) S (Call.lift (by omega) (c_X4_put g ((dq - 1)) hL19 (by decide) e20)) mw_X4_put lk_X5_77 im_X4_put se_X4_put ci_4.1 ci_4.2.1 (k27 hL19) dX5_sum_50 rfl rfl (Nat.le_of_ble_eq_true rfl) rfl ?_
          refine i_pop S dX5_sum_53 rfl ?_
          refine i_mask (L1 := [some (rf g 26), some (.int x1), some (.int x2), none, none, some (.int s.2.2.1)]) S [true, true, true, false, false, true] rfl ?_
          have hz := hj6 _ (Option.some.inj h).symm
          exact hz
      replace h := e4
      clear e4
      refine i_if_ne (tgt := 34) S dX5_sum_22 (by decide) (fun q3 => ?_) (fun q3 => ?_)
      · replace h := (if_neg q3).symm.trans h
        refine i_aload_n S dX5_sum_34 rfl ?_
        refine i_iload_n S dX5_sum_35 rfl ?_
        obtain ⟨hL21, h⟩ := onLn h
        obtain ⟨p22, e22, h⟩ := bn h
        refine i_callV (As := [.int x2]) (st1 := []) S (hrec0 _ _ _ hL21 e22) mw_X5_factor lk_X5_85 im_X5_factor se_X5_factor ci_5.1 ci_5.2.1 (k26 hL21) dX5_sum_36 rfl rfl (Nat.le_of_ble_eq_true rfl) rfl ?_
        refine i_mask (L1 := [some (rf g 26), some (.int x1), some (.int x2), some (.int s.1), none, some (.int s.2.2.1)]) S [true, true, true, true, false, true] rfl ?_
        have hz := hj4 _ (Option.some.inj h).symm
        exact hz
      · replace h := (if_pos q3).symm.trans h
        refine i_aload_n S dX5_sum_25 rfl ?_
        refine i_iconst (v := 1) S dX5_sum_26 ic_1 ?_
        refine i_iload_n S dX5_sum_27 rfl ?_
        obtain ⟨hL23, h⟩ := onLn h
        obtain ⟨p24, e24, h⟩ := bn h
        refine i_callV (As := [.int ((1 : Int32)), .int x2]) (st1 := []) S (hrec1 _ _ _ _ hL23 e24) mw_X5_sum lk_X5_48 im_X5_sum se_X5_sum ci_5.1 ci_5.2.1 (k26 hL23) dX5_sum_28 rfl rfl (Nat.le_of_ble_eq_true rfl) rfl ?_
        refine i_goto (tgt := 39) S dX5_sum_31 (by decide) ?_
        refine i_mask (L1 := [some (rf g 26), some (.int x1), some (.int x2), some (.int s.1), none, some (.int s.2.2.1)]) S [true, true, true, true, false, true] rfl ?_
        have hz := hj4 _ (Option.some.inj h).symm
        exact hz
set_option maxHeartbeats 4000000 in
set_option maxRecDepth 100000 in
theorem cb_X5_sum (g : Gx) {dq : Nat} {rec : Nat → Int32 → Int32 → Mm → Option Mm} (hk0 : 2 ≤ dq) (hrec0 : ∀ (g : Gx) (x1 : Int32) (w : Mm) {p : Mm}, Lay w →  rec 0 x1 0 w = some p → Call g (dq) yX5_factor cX5_factor 4 none [rf g 26, .int x1] w none p) (hrec1 : ∀ (g : Gx) (x1 : Int32) (x2 : Int32) (w : Mm) {p : Mm}, Lay w →  rec 1 x1 x2 w = some p → Call g (dq) yX5_sum cX5_sum 6 none [rf g 26, .int x1, .int x2] w none p) {x1 : Int32} {x2 : Int32} {w : Mm} {p : Mm} (hL : Lay w) (h : gf_X5_sum rec x1 x2 w = some p) : Call g (dq + 1) yX5_sum cX5_sum 6 none [rf g 26, .int x1, .int x2] w none p := by
  refine call_of (L0 := [some (rf g 26), some (.int x1), some (.int x2), none, none, none]) (by decide) rfl (Nat.le_of_ble_eq_true rfl) (fun V S0 => ?_)
  have S := S0.b
  unfold gf_X5_sum at h
  refine i_iconst (v := -1) S dX5_sum_0 ic_m1 ?_
  refine i_istore_n (L1 := [some (rf g 26), some (.int x1), some (.int x2), some (.int ((-1 : Int32))), none, none]) S dX5_sum_1 (by decide) rfl ?_
  refine i_iconst (v := 1) S dX5_sum_2 ic_1 ?_
  refine i_istore (L1 := [some (rf g 26), some (.int x1), some (.int x2), some (.int ((-1 : Int32))), some (.int ((1 : Int32))), none]) S dX5_sum_3 (by decide) rfl ?_
  refine i_iconst (v := 0) S dX5_sum_5 ic_0 ?_
  refine i_istore (L1 := [some (rf g 26), some (.int x1), some (.int x2), some (.int ((-1 : Int32))), some (.int ((1 : Int32))), some (.int ((0 : Int32)))]) S dX5_sum_6 (by decide) rfl ?_
  obtain ⟨p1, e1, h⟩ := bn h
  have hE1 : V 112 [none, none, none, none, none, none] [] p1 := by
    cases h
    exact i_vret S0 dX5_sum_112
  exact wh_V (P := fun sv1 => V 8 [some (rf g 26), some (.int x1), some (.int x2), some (.int sv1.1), some (.int sv1.2.1), some (.int sv1.2.2.1)] [] sv1.2.2.2) (E := fun xv1 => V 112 [none, none, none, none, none, none] [] xv1) (fun sv1 ev hb hc he => t_l_X5_sum_8  hk0 hrec0 hrec1 S  sv1 ev hb hc he) FUEL _ _ e1 hE1
noncomputable def rc_X5_factor : Nat → Nat → Int32 → Int32 → Mm → Option Mm
  | 0, _, _, _, _ => none
  | n + 1, j, x1, x2, w => if j = 0 then gf_X5_factor (rc_X5_factor n) x1 w else gf_X5_sum (rc_X5_factor n) x1 x2 w
set_option maxHeartbeats 4000000 in
theorem rt_X5_factor (dk : Nat) (hk : 2 ≤ dk) : ∀ n : Nat, (∀ (g : Gx) (x1 : Int32) (w : Mm) {p : Mm}, Lay w →  rc_X5_factor n 0 x1 0 w = some p → Call g (dk + n) yX5_factor cX5_factor 4 none [rf g 26, .int x1] w none p) ∧ (∀ (g : Gx) (x1 : Int32) (x2 : Int32) (w : Mm) {p : Mm}, Lay w →  rc_X5_factor n 1 x1 x2 w = some p → Call g (dk + n) yX5_sum cX5_sum 6 none [rf g 26, .int x1, .int x2] w none p)
  | 0 => ⟨(by intro g _ w p hL  h; cases h), (by intro g _ _ w p hL  h; cases h)⟩
  | n + 1 => by
    obtain ⟨h0, h1⟩ := rt_X5_factor dk hk n
    exact ⟨(by intro g _ w p hL  h; exact cb_X5_factor g (dq := dk + n) (by omega) h0 h1 hL  h), (by intro g _ _ w p hL  h; exact cb_X5_sum g (dq := dk + n) (by omega) h0 h1 hL  h)⟩
noncomputable def f_X5_factor (x1 : Int32) (w : Mm) : Option Mm := rc_X5_factor 100 0 x1 0 w
theorem c_X5_factor (g : Gx) (d : Nat) {x1 : Int32} {w : Mm} {p : Mm} (hL : Lay w)  (h : f_X5_factor x1 w = some p) : Call g (d + 102) yX5_factor cX5_factor 4 none [rf g 26, .int x1] w none p := (rt_X5_factor (d + 2) (by omega) 100).1 g x1 w hL  h
noncomputable def f_X5_sum (x1 : Int32) (x2 : Int32) (w : Mm) : Option Mm := rc_X5_factor 100 1 x1 x2 w
theorem c_X5_sum (g : Gx) (d : Nat) {x1 : Int32} {x2 : Int32} {w : Mm} {p : Mm} (hL : Lay w)  (h : f_X5_sum x1 x2 w = some p) : Call g (d + 102) yX5_sum cX5_sum 6 none [rf g 26, .int x1, .int x2] w none p := (rt_X5_factor (d + 2) (by omega) 100).2 g x1 x2 w hL  h
/-! WordYear$NearReader.condition -/
noncomputable def l_X5_condition_21 (rec : Nat → Int32 → Int32 → Mm → Option Mm) (x1 : Int32) (x2 : Int32) (x3 : Int32) (s : Int32 × Int32 × Int32 × Mm) : Option ((Int32 × Int32 × Int32 × Mm) ⊕ (Mm)) := if (160 : Int32) ≤ s.2.2.1 then (some (.inr s.2.2.2)) else (if s.2.1 = 0 then (some (.inr s.2.2.2)) else (Option.bind (if x1 = 0 then (onL s.2.2.2 (Option.bind (rec 0 (1 : Int32) x2 s.2.2.2) (fun p21 => some p21))) else (onL s.2.2.2 (Option.bind (rec 1 x2 0 s.2.2.2) (fun p19 => some p19)))) (fun p4 => onL p4 (Option.bind (f_X4_land 27 s.1 p4) (fun p6 => onL p6 (Option.bind (f_X8_sign p6) (fun p8 => Option.bind (if p8 = x3 then (some (1 : Int32)) else (some (0 : Int32))) (fun p10 => Option.bind (if p10 = 0 then (some (s.1, p6)) else (Option.bind (f_X8_step p6) (fun p13 => onL p13 (Option.bind (if x1 = 0 then (some (11 : Int32)) else (some (12 : Int32))) (fun p16 => Option.bind (f_X4_put 27 p16 (0 : Int32) p13) (fun p17 => some (p17.1, p17.2))))))) (fun p12 => some (.inl (p12.1, p10, s.2.2.1 + (1 : Int32), p12.2)))))))))))
noncomputable def gf_X5_condition (rec : Nat → Int32 → Int32 → Mm → Option Mm) (x1 : Int32) (x2 : Int32) (w : Mm) : Option Mm := Option.bind (if x1 = 0 then (some (124 : Int32)) else (some (38 : Int32))) (fun p2 => Option.bind (wh (l_X5_condition_21 rec x1 x2 p2) FUEL ((-1 : Int32), (1 : Int32), (0 : Int32), w)) (fun p3 => some p3))
set_option maxHeartbeats 4000000 in
set_option maxRecDepth 100000 in
theorem t_l_X5_condition_21 {g : Gx} {V : Vt} {dq : Nat} {rec : Nat → Int32 → Int32 → Mm → Option Mm} (hk0 : 102 ≤ dq) (hrec0 : ∀ (g : Gx) (x1 : Int32) (x2 : Int32) (w : Mm) {p : Mm}, Lay w →  rec 0 x1 x2 w = some p → Call g (dq) yX5_condition cX5_condition 7 none [rf g 26, .int x1, .int x2] w none p) (hrec1 : ∀ (g : Gx) (x1 : Int32) (w : Mm) {p : Mm}, Lay w →  rec 1 x1 0 w = some p → Call g (dq) yX5_piece cX5_piece 5 none [rf g 26, .int x1] w none p) (S : MachB g yX5_condition cX5_condition 7 (dq) V) {x1 : Int32} {x2 : Int32} {x3 : Int32}  (s : Int32 × Int32 × Int32 × Mm) (e : (Int32 × Int32 × Int32 × Mm) ⊕ (Mm)) (h : l_X5_condition_21 rec x1 x2 x3 s = some e) (hC : ∀ s2, e = .inl s2 → V 21 [some (rf g 26), some (.int x1), some (.int x2), some (.int x3), some (.int s2.1), some (.int s2.2.1), some (.int s2.2.2.1)] [] s2.2.2.2) (hE : ∀ x, e = .inr x → V 118 [none, none, none, none, none, none, none] [] x) : V 21 [some (rf g 26), some (.int x1), some (.int x2), some (.int x3), some (.int s.1), some (.int s.2.1), some (.int s.2.2.1)] [] s.2.2.2 := by
  unfold l_X5_condition_21 at h
  refine i_iload S dX5_condition_21 rfl ?_
  refine i_sipush (v := 160) S dX5_condition_23 sp_160 ?_
  refine i_icmp_ge (tgt := 118) S dX5_condition_26 (by decide) (fun q1 => ?_) (fun q1 => ?_)
  · replace h := (if_pos q1).symm.trans h
    refine i_mask (L1 := [none, none, none, none, none, none, none]) S [false, false, false, false, false, false, false] rfl ?_
    have hz := hE _ (Option.some.inj h).symm
    exact hz
  · replace h := (if_neg q1).symm.trans h
    refine i_iload S dX5_condition_29 rfl ?_
    refine i_if_eq (tgt := 118) S dX5_condition_31 (by decide) (fun q2 => ?_) (fun q2 => ?_)
    · replace h := (if_pos q2).symm.trans h
      refine i_mask (L1 := [none, none, none, none, none, none, none]) S [false, false, false, false, false, false, false] rfl ?_
      have hz := hE _ (Option.some.inj h).symm
      exact hz
    · replace h := (if_neg q2).symm.trans h
      refine i_iload_n S dX5_condition_34 rfl ?_
      obtain ⟨p4, e4, h⟩ := bn h
      have hj4 : ∀ q4, p4 = q4 → V 52 [some (rf g 26), some (.int x1), some (.int x2), some (.int x3), some (.int s.1), none, some (.int s.2.2.1)] [] q4 := by
        intro q4 hq4
        subst hq4
        refine i_aload_n S dX5_condition_52 rfl ?_
        obtain ⟨hL5, h⟩ := onLn h
        refine i_getR S fl_X5_12 (k26 hL5) (r26_1 hL5) rfl dX5_condition_53 ?_
        refine i_iload S dX5_condition_56 rfl ?_
        obtain ⟨p6, e6, h⟩ := bn h
        refine i_callV (As := [.int s.1]) (st1 := []) S (Call.lift (by omega) (c_X4_land g ((dq - 1)) hL5 (by decide) e6)) mw_X4_land lk_X5_71 im_X4_land se_X4_land ci_4.1 ci_4.2.1 (k27 hL5) dX5_condition_58 rfl rfl (Nat.le_of_ble_eq_true rfl) rfl ?_
        refine i_aload_n S dX5_condition_61 rfl ?_
        obtain ⟨hL7, h⟩ := onLn h
        refine i_getR S fl_X5_18 (k26 hL7) (r26_0 hL7) rfl dX5_condition_62 ?_
        obtain ⟨p8, e8, h⟩ := bn h
        refine i_callV (As := []) (st1 := [.int p8]) S (Call.lift (by omega) (c_X8_sign g ((dq - 1)) hL7 e8)) mw_X8_sign lk_X5_35 im_X8_sign se_X8_sign ci_8.1 ci_8.2.1 (k12 hL7) dX5_condition_65 rfl rfl (Nat.le_of_ble_eq_true rfl) rfl ?_
        refine i_iload_n S dX5_condition_68 rfl ?_
        obtain ⟨p10, e10, h⟩ := bn h
        have hj10 : ∀ q10, p10 = q10 → V 77 [some (rf g 26), some (.int x1), some (.int x2), some (.int x3), some (.int s.1), none, some (.int s.2.2.1)] [.int q10] p6 := by
          intro q10 hq10
          subst hq10
          refine i_istore (L1 := [some (rf g 26), some (.int x1), some (.int x2), some (.int x3), some (.int s.1), some (.int p10), some (.int s.2.2.1)]) S dX5_condition_77 (by decide) rfl ?_
          refine i_iload S dX5_condition_79 rfl ?_
          obtain ⟨p12, e12, h⟩ := bn h
          have hj12 : ∀ q12, p12 = q12 → V 112 [some (rf g 26), some (.int x1), some (.int x2), some (.int x3), some (.int q12.1), some (.int p10), some (.int s.2.2.1)] [] q12.2 := by
            intro q12 hq12
            subst hq12
            refine i_iinc (L1 := [some (rf g 26), some (.int x1), some (.int x2), some (.int x3), some (.int p12.1), some (.int p10), some (.int (s.2.2.1 + (1 : Int32)))]) S dX5_condition_112 rfl ic_1 (by decide) rfl ?_
            refine i_goto (tgt := 21) S dX5_condition_115 (by decide) ?_
            have hz := hC _ (Option.some.inj h).symm
            exact hz
          replace h := e12
          clear e12
          refine i_if_eq (tgt := 112) S dX5_condition_81 (by decide) (fun q11 => ?_) (fun q11 => ?_)
          · replace h := (if_pos q11).symm.trans h
            have hz := hj12 _ (Option.some.inj h).symm
            exact hz
          · replace h := (if_neg q11).symm.trans h
            refine i_aload_n S dX5_condition_84 rfl ?_
            refine i_getR S fl_X5_18 (k26 hL7) (r26_0 hL7) rfl dX5_condition_85 ?_
            obtain ⟨p13, e13, h⟩ := bn h
            refine i_callV (As := []) (st1 := []) S (Call.lift (by omega) (c_X8_step g ((dq - 1)) hL7 e13)) mw_X8_step lk_X5_74 im_X8_step se_X8_step ci_8.1 ci_8.2.1 (k12 hL7) dX5_condition_88 rfl rfl (Nat.le_of_ble_eq_true rfl) rfl ?_
            refine i_aload_n S dX5_condition_91 rfl ?_
            obtain ⟨hL14, h⟩ := onLn h
            refine i_getR S fl_X5_12 (k26 hL14) (r26_1 hL14) rfl dX5_condition_92 ?_
            refine i_iload_n S dX5_condition_95 rfl ?_
            obtain ⟨p16, e16, h⟩ := bn h
            have hj16 : ∀ q16, p16 = q16 → V 106 [some (rf g 26), some (.int x1), some (.int x2), some (.int x3), none, some (.int p10), some (.int s.2.2.1)] [.int q16, rf g 27] p13 := by
              intro q16 hq16
              subst hq16
              refine i_iconst (v := 0) S dX5_condition_106 ic_0 ?_
              obtain ⟨p17, e17, h⟩ := bn h
              refine i_callV (As := [.int p16, .int ((0 : Int32))]) (st1 := [.int p17.1]) S (Call.lift (by omega) (c_X4_put g ((dq - 1)) hL14 (by decide) e17)) mw_X4_put lk_X5_77 im_X4_put se_X4_put ci_4.1 ci_4.2.1 (k27 hL14) dX5_condition_107 rfl rfl (Nat.le_of_ble_eq_true rfl) rfl ?_
              refine i_istore (L1 := [some (rf g 26), some (.int x1), some (.int x2), some (.int x3), some (.int p17.1), some (.int p10), some (.int s.2.2.1)]) S dX5_condition_110 (by decide) rfl ?_
              have hz := hj12 _ (Option.some.inj h).symm
              exact hz
            replace h := e16
            clear e16
            refine i_if_ne (tgt := 104) S dX5_condition_96 (by decide) (fun q15 => ?_) (fun q15 => ?_)
            · replace h := (if_neg q15).symm.trans h
              refine i_bipush (v := 12) S dX5_condition_104 bp_12 ?_
              refine i_mask (L1 := [some (rf g 26), some (.int x1), some (.int x2), some (.int x3), none, some (.int p10), some (.int s.2.2.1)]) S [true, true, true, true, false, true, true] rfl ?_
              have hz := hj16 _ (Option.some.inj h).symm
              exact hz
            · replace h := (if_pos q15).symm.trans h
              refine i_bipush (v := 11) S dX5_condition_99 bp_11 ?_
              refine i_goto (tgt := 106) S dX5_condition_101 (by decide) ?_
              refine i_mask (L1 := [some (rf g 26), some (.int x1), some (.int x2), some (.int x3), none, some (.int p10), some (.int s.2.2.1)]) S [true, true, true, true, false, true, true] rfl ?_
              have hz := hj16 _ (Option.some.inj h).symm
              exact hz
        replace h := e10
        clear e10
        refine i_icmp_ne (tgt := 76) S dX5_condition_69 (by decide) (fun q9 => ?_) (fun q9 => ?_)
        · replace h := (if_neg q9).symm.trans h
          refine i_iconst (v := 0) S dX5_condition_76 ic_0 ?_
          have hz := hj10 _ (Option.some.inj h).symm
          exact hz
        · replace h := (if_pos q9).symm.trans h
          refine i_iconst (v := 1) S dX5_condition_72 ic_1 ?_
          refine i_goto (tgt := 77) S dX5_condition_73 (by decide) ?_
          have hz := hj10 _ (Option.some.inj h).symm
          exact hz
      replace h := e4
      clear e4
      refine i_if_ne (tgt := 47) S dX5_condition_35 (by decide) (fun q3 => ?_) (fun q3 => ?_)
      · replace h := (if_neg q3).symm.trans h
        refine i_aload_n S dX5_condition_47 rfl ?_
        refine i_iload_n S dX5_condition_48 rfl ?_
        obtain ⟨hL18, h⟩ := onLn h
        obtain ⟨p19, e19, h⟩ := bn h
        refine i_callV (As := [.int x2]) (st1 := []) S (hrec1 _ _ _ hL18 e19) mw_X5_piece lk_X5_68 im_X5_piece se_X5_piece ci_5.1 ci_5.2.1 (k26 hL18) dX5_condition_49 rfl rfl (Nat.le_of_ble_eq_true rfl) rfl ?_
        refine i_mask (L1 := [some (rf g 26), some (.int x1), some (.int x2), some (.int x3), some (.int s.1), none, some (.int s.2.2.1)]) S [true, true, true, true, true, false, true] rfl ?_
        have hz := hj4 _ (Option.some.inj h).symm
        exact hz
      · replace h := (if_pos q3).symm.trans h
        refine i_aload_n S dX5_condition_38 rfl ?_
        refine i_iconst (v := 1) S dX5_condition_39 ic_1 ?_
        refine i_iload_n S dX5_condition_40 rfl ?_
        obtain ⟨hL20, h⟩ := onLn h
        obtain ⟨p21, e21, h⟩ := bn h
        refine i_callV (As := [.int ((1 : Int32)), .int x2]) (st1 := []) S (hrec0 _ _ _ _ hL20 e21) mw_X5_condition lk_X5_55 im_X5_condition se_X5_condition ci_5.1 ci_5.2.1 (k26 hL20) dX5_condition_41 rfl rfl (Nat.le_of_ble_eq_true rfl) rfl ?_
        refine i_goto (tgt := 52) S dX5_condition_44 (by decide) ?_
        refine i_mask (L1 := [some (rf g 26), some (.int x1), some (.int x2), some (.int x3), some (.int s.1), none, some (.int s.2.2.1)]) S [true, true, true, true, true, false, true] rfl ?_
        have hz := hj4 _ (Option.some.inj h).symm
        exact hz
set_option maxHeartbeats 4000000 in
set_option maxRecDepth 100000 in
theorem cb_X5_condition (g : Gx) {dq : Nat} {rec : Nat → Int32 → Int32 → Mm → Option Mm} (hk0 : 102 ≤ dq) (hrec0 : ∀ (g : Gx) (x1 : Int32) (x2 : Int32) (w : Mm) {p : Mm}, Lay w →  rec 0 x1 x2 w = some p → Call g (dq) yX5_condition cX5_condition 7 none [rf g 26, .int x1, .int x2] w none p) (hrec1 : ∀ (g : Gx) (x1 : Int32) (w : Mm) {p : Mm}, Lay w →  rec 1 x1 0 w = some p → Call g (dq) yX5_piece cX5_piece 5 none [rf g 26, .int x1] w none p) {x1 : Int32} {x2 : Int32} {w : Mm} {p : Mm} (hL : Lay w) (h : gf_X5_condition rec x1 x2 w = some p) : Call g (dq + 1) yX5_condition cX5_condition 7 none [rf g 26, .int x1, .int x2] w none p := by
  refine call_of (L0 := [some (rf g 26), some (.int x1), some (.int x2), none, none, none, none]) (by decide) rfl (Nat.le_of_ble_eq_true rfl) (fun V S0 => ?_)
  have S := S0.b
  unfold gf_X5_condition at h
  refine i_iload_n S dX5_condition_0 rfl ?_
  obtain ⟨p2, e2, h⟩ := bn h
  have hj2 : ∀ q2, p2 = q2 → V 11 [some (rf g 26), some (.int x1), some (.int x2), none, none, none, none] [.int q2] w := by
    intro q2 hq2
    subst hq2
    refine i_istore_n (L1 := [some (rf g 26), some (.int x1), some (.int x2), some (.int p2), none, none, none]) S dX5_condition_11 (by decide) rfl ?_
    refine i_iconst (v := -1) S dX5_condition_12 ic_m1 ?_
    refine i_istore (L1 := [some (rf g 26), some (.int x1), some (.int x2), some (.int p2), some (.int ((-1 : Int32))), none, none]) S dX5_condition_13 (by decide) rfl ?_
    refine i_iconst (v := 1) S dX5_condition_15 ic_1 ?_
    refine i_istore (L1 := [some (rf g 26), some (.int x1), some (.int x2), some (.int p2), some (.int ((-1 : Int32))), some (.int ((1 : Int32))), none]) S dX5_condition_16 (by decide) rfl ?_
    refine i_iconst (v := 0) S dX5_condition_18 ic_0 ?_
    refine i_istore (L1 := [some (rf g 26), some (.int x1), some (.int x2), some (.int p2), some (.int ((-1 : Int32))), some (.int ((1 : Int32))), some (.int ((0 : Int32)))]) S dX5_condition_19 (by decide) rfl ?_
    obtain ⟨p3, e3, h⟩ := bn h
    have hE3 : V 118 [none, none, none, none, none, none, none] [] p3 := by
      cases h
      exact i_vret S0 dX5_condition_118
    exact wh_V (P := fun sv3 => V 21 [some (rf g 26), some (.int x1), some (.int x2), some (.int p2), some (.int sv3.1), some (.int sv3.2.1), some (.int sv3.2.2.1)] [] sv3.2.2.2) (E := fun xv3 => V 118 [none, none, none, none, none, none, none] [] xv3) (fun sv3 ev hb hc he => t_l_X5_condition_21  hk0 hrec0 hrec1 S  sv3 ev hb hc he) FUEL _ _ e3 hE3
  replace h := e2
  clear e2
  refine i_if_ne (tgt := 9) S dX5_condition_1 (by decide) (fun q1 => ?_) (fun q1 => ?_)
  · replace h := (if_neg q1).symm.trans h
    refine i_bipush (v := 38) S dX5_condition_9 bp_38 ?_
    have hz := hj2 _ (Option.some.inj h).symm
    exact hz
  · replace h := (if_pos q1).symm.trans h
    refine i_bipush (v := 124) S dX5_condition_4 bp_124 ?_
    refine i_goto (tgt := 11) S dX5_condition_6 (by decide) ?_
    have hz := hj2 _ (Option.some.inj h).symm
    exact hz
/-! WordYear$NearReader.piece -/
noncomputable def gf_X5_piece (rec : Nat → Int32 → Int32 → Mm → Option Mm) (x1 : Int32) (w : Mm) : Option Mm := Option.bind (f_X8_sign w) (fun p1 => if p1 = (33 : Int32) then (Option.bind (f_X8_opens x1 w) (fun p23 => if p23.1 = 0 then (some p23.2) else (onL p23.2 (Option.bind (rec 1 (x1 + (1 : Int32)) 0 p23.2) (fun p26 => onL p26 (Option.bind (f_X4_put 27 (10 : Int32) (0 : Int32) p26) (fun p28 => some p28.2))))))) else (if p1 = (40 : Int32) then (Option.bind (f_X8_opens x1 w) (fun p17 => if p17.1 = 0 then (some p17.2) else (onL p17.2 (Option.bind (rec 0 (0 : Int32) (x1 + (1 : Int32)) p17.2) (fun p20 => onL p20 (Option.bind (f_X8_pass (41 : Int32) p20) (fun p22 => some p22))))))) else (Option.bind (f_X5_sum (0 : Int32) x1 w) (fun p4 => onL p4 (Option.bind (f_X8_sign p4) (fun p6 => Option.bind (if p6 = (60 : Int32) then (some (7 : Int32)) else (if p6 = (62 : Int32) then (some (8 : Int32)) else (some (9 : Int32)))) (fun p8 => Option.bind (if p8 = (9 : Int32) then (some (61 : Int32)) else (some p6)) (fun p10 => Option.bind (f_X8_pass p10 p4) (fun p11 => onL p11 (Option.bind (f_X5_sum (0 : Int32) x1 p11) (fun p13 => onL p13 (Option.bind (f_X4_put 27 p8 (0 : Int32) p13) (fun p15 => some p15.2)))))))))))))
set_option maxHeartbeats 4000000 in
set_option maxRecDepth 100000 in
theorem cb_X5_piece (g : Gx) {dq : Nat} {rec : Nat → Int32 → Int32 → Mm → Option Mm} (hk0 : 102 ≤ dq) (hrec0 : ∀ (g : Gx) (x1 : Int32) (x2 : Int32) (w : Mm) {p : Mm}, Lay w →  rec 0 x1 x2 w = some p → Call g (dq) yX5_condition cX5_condition 7 none [rf g 26, .int x1, .int x2] w none p) (hrec1 : ∀ (g : Gx) (x1 : Int32) (w : Mm) {p : Mm}, Lay w →  rec 1 x1 0 w = some p → Call g (dq) yX5_piece cX5_piece 5 none [rf g 26, .int x1] w none p) {x1 : Int32} {w : Mm} {p : Mm} (hL : Lay w) (h : gf_X5_piece rec x1 w = some p) : Call g (dq + 1) yX5_piece cX5_piece 5 none [rf g 26, .int x1] w none p := by
  refine call_of (L0 := [some (rf g 26), some (.int x1), none, none, none]) (by decide) rfl (Nat.le_of_ble_eq_true rfl) (fun V S0 => ?_)
  have S := S0.b
  unfold gf_X5_piece at h
  refine i_aload_n S dX5_piece_0 rfl ?_
  refine i_getR S fl_X5_18 (k26 hL) (r26_0 hL) rfl dX5_piece_1 ?_
  obtain ⟨p1, e1, h⟩ := bn h
  refine i_callV (As := []) (st1 := [.int p1]) S (Call.lift (by omega) (c_X8_sign g ((dq - 1)) hL e1)) mw_X8_sign lk_X5_35 im_X8_sign se_X8_sign ci_8.1 ci_8.2.1 (k12 hL) dX5_piece_4 rfl rfl (Nat.le_of_ble_eq_true rfl) rfl ?_
  refine i_istore_n (L1 := [some (rf g 26), some (.int x1), some (.int p1), none, none]) S dX5_piece_7 (by decide) rfl ?_
  refine i_iload_n S dX5_piece_8 rfl ?_
  refine i_bipush (v := 33) S dX5_piece_9 bp_33 ?_
  refine i_icmp_ne (tgt := 46) S dX5_piece_11 (by decide) (fun q2 => ?_) (fun q2 => ?_)
  · replace h := (if_neg q2).symm.trans h
    refine i_iload_n S dX5_piece_46 rfl ?_
    refine i_bipush (v := 40) S dX5_piece_47 bp_40 ?_
    refine i_icmp_ne (tgt := 83) S dX5_piece_49 (by decide) (fun q3 => ?_) (fun q3 => ?_)
    · replace h := (if_neg q3).symm.trans h
      refine i_aload_n S dX5_piece_83 rfl ?_
      refine i_iconst (v := 0) S dX5_piece_84 ic_0 ?_
      refine i_iload_n S dX5_piece_85 rfl ?_
      obtain ⟨p4, e4, h⟩ := bn h
      refine i_callV (As := [.int ((0 : Int32)), .int x1]) (st1 := []) S (Call.lift (by omega) (c_X5_sum g ((dq - 102)) hL e4)) mw_X5_sum lk_X5_48 im_X5_sum se_X5_sum ci_5.1 ci_5.2.1 (k26 hL) dX5_piece_86 rfl rfl (Nat.le_of_ble_eq_true rfl) rfl ?_
      refine i_aload_n S dX5_piece_89 rfl ?_
      obtain ⟨hL5, h⟩ := onLn h
      refine i_getR S fl_X5_18 (k26 hL5) (r26_0 hL5) rfl dX5_piece_90 ?_
      obtain ⟨p6, e6, h⟩ := bn h
      refine i_callV (As := []) (st1 := [.int p6]) S (Call.lift (by omega) (c_X8_sign g ((dq - 1)) hL5 e6)) mw_X8_sign lk_X5_35 im_X8_sign se_X8_sign ci_8.1 ci_8.2.1 (k12 hL5) dX5_piece_93 rfl rfl (Nat.le_of_ble_eq_true rfl) rfl ?_
      refine i_istore_n (L1 := [some (rf g 26), some (.int x1), some (.int p1), some (.int p6), none]) S dX5_piece_96 (by decide) rfl ?_
      refine i_iload_n S dX5_piece_97 rfl ?_
      refine i_bipush (v := 60) S dX5_piece_98 bp_60 ?_
      obtain ⟨p8, e8, h⟩ := bn h
      have hj8 : ∀ q8, p8 = q8 → V 121 [some (rf g 26), some (.int x1), none, some (.int p6), none] [.int q8] p4 := by
        intro q8 hq8
        subst hq8
        refine i_istore (L1 := [some (rf g 26), some (.int x1), none, some (.int p6), some (.int p8)]) S dX5_piece_121 (by decide) rfl ?_
        refine i_aload_n S dX5_piece_123 rfl ?_
        refine i_getR S fl_X5_18 (k26 hL5) (r26_0 hL5) rfl dX5_piece_124 ?_
        refine i_iload S dX5_piece_127 rfl ?_
        refine i_bipush (v := 9) S dX5_piece_129 bp_9 ?_
        obtain ⟨p10, e10, h⟩ := bn h
        have hj10 : ∀ q10, p10 = q10 → V 140 [some (rf g 26), some (.int x1), none, none, some (.int p8)] [.int q10, rf g 12] p4 := by
          intro q10 hq10
          subst hq10
          obtain ⟨p11, e11, h⟩ := bn h
          refine i_callV (As := [.int p10]) (st1 := []) S (Call.lift (by omega) (c_X8_pass g ((dq - 2)) hL5 e11)) mw_X8_pass lk_X5_42 im_X8_pass se_X8_pass ci_8.1 ci_8.2.1 (k12 hL5) dX5_piece_140 rfl rfl (Nat.le_of_ble_eq_true rfl) rfl ?_
          refine i_aload_n S dX5_piece_143 rfl ?_
          refine i_iconst (v := 0) S dX5_piece_144 ic_0 ?_
          refine i_iload_n S dX5_piece_145 rfl ?_
          obtain ⟨hL12, h⟩ := onLn h
          obtain ⟨p13, e13, h⟩ := bn h
          refine i_callV (As := [.int ((0 : Int32)), .int x1]) (st1 := []) S (Call.lift (by omega) (c_X5_sum g ((dq - 102)) hL12 e13)) mw_X5_sum lk_X5_48 im_X5_sum se_X5_sum ci_5.1 ci_5.2.1 (k26 hL12) dX5_piece_146 rfl rfl (Nat.le_of_ble_eq_true rfl) rfl ?_
          refine i_aload_n S dX5_piece_149 rfl ?_
          obtain ⟨hL14, h⟩ := onLn h
          refine i_getR S fl_X5_12 (k26 hL14) (r26_1 hL14) rfl dX5_piece_150 ?_
          refine i_iload S dX5_piece_153 rfl ?_
          refine i_iconst (v := 0) S dX5_piece_155 ic_0 ?_
          obtain ⟨p15, e15, h⟩ := bn h
          refine i_callV (As := [.int p8, .int ((0 : Int32))]) (st1 := [.int p15.1]) S (Call.lift (by omega) (c_X4_put g ((dq - 1)) hL14 (by decide) e15)) mw_X4_put lk_X5_77 im_X4_put se_X4_put ci_4.1 ci_4.2.1 (k27 hL14) dX5_piece_156 rfl rfl (Nat.le_of_ble_eq_true rfl) rfl ?_
          refine i_pop S dX5_piece_159 rfl ?_
          cases h
          exact i_vret S0 dX5_piece_160
        replace h := e10
        clear e10
        refine i_icmp_ne (tgt := 139) S dX5_piece_131 (by decide) (fun q9 => ?_) (fun q9 => ?_)
        · replace h := (if_neg q9).symm.trans h
          refine i_iload_n S dX5_piece_139 rfl ?_
          refine i_mask (L1 := [some (rf g 26), some (.int x1), none, none, some (.int p8)]) S [true, true, false, false, true] rfl ?_
          have hz := hj10 _ (Option.some.inj h).symm
          exact hz
        · replace h := (if_pos q9).symm.trans h
          refine i_bipush (v := 61) S dX5_piece_134 bp_61 ?_
          refine i_goto (tgt := 140) S dX5_piece_136 (by decide) ?_
          refine i_mask (L1 := [some (rf g 26), some (.int x1), none, none, some (.int p8)]) S [true, true, false, false, true] rfl ?_
          have hz := hj10 _ (Option.some.inj h).symm
          exact hz
      replace h := e8
      clear e8
      refine i_icmp_ne (tgt := 108) S dX5_piece_100 (by decide) (fun q7 => ?_) (fun q7 => ?_)
      · replace h := (if_neg q7).symm.trans h
        refine i_iload_n S dX5_piece_108 rfl ?_
        refine i_bipush (v := 62) S dX5_piece_109 bp_62 ?_
        refine i_icmp_ne (tgt := 119) S dX5_piece_111 (by decide) (fun q16 => ?_) (fun q16 => ?_)
        · replace h := (if_neg q16).symm.trans h
          refine i_bipush (v := 9) S dX5_piece_119 bp_9 ?_
          refine i_mask (L1 := [some (rf g 26), some (.int x1), none, some (.int p6), none]) S [true, true, false, true, false] rfl ?_
          have hz := hj8 _ (Option.some.inj h).symm
          exact hz
        · replace h := (if_pos q16).symm.trans h
          refine i_bipush (v := 8) S dX5_piece_114 bp_8 ?_
          refine i_goto (tgt := 121) S dX5_piece_116 (by decide) ?_
          refine i_mask (L1 := [some (rf g 26), some (.int x1), none, some (.int p6), none]) S [true, true, false, true, false] rfl ?_
          have hz := hj8 _ (Option.some.inj h).symm
          exact hz
      · replace h := (if_pos q7).symm.trans h
        refine i_bipush (v := 7) S dX5_piece_103 bp_7 ?_
        refine i_goto (tgt := 121) S dX5_piece_105 (by decide) ?_
        refine i_mask (L1 := [some (rf g 26), some (.int x1), none, some (.int p6), none]) S [true, true, false, true, false] rfl ?_
        have hz := hj8 _ (Option.some.inj h).symm
        exact hz
    · replace h := (if_pos q3).symm.trans h
      refine i_aload_n S dX5_piece_52 rfl ?_
      refine i_getR S fl_X5_18 (k26 hL) (r26_0 hL) rfl dX5_piece_53 ?_
      refine i_iload_n S dX5_piece_56 rfl ?_
      obtain ⟨p17, e17, h⟩ := bn h
      refine i_callV (As := [.int x1]) (st1 := [.int p17.1]) S (Call.lift (by omega) (c_X8_opens g ((dq - 2)) hL e17)) mw_X8_opens lk_X5_81 im_X8_opens se_X8_opens ci_8.1 ci_8.2.1 (k12 hL) dX5_piece_57 rfl rfl (Nat.le_of_ble_eq_true rfl) rfl ?_
      refine i_if_eq (tgt := 160) S dX5_piece_60 (by decide) (fun q18 => ?_) (fun q18 => ?_)
      · replace h := (if_pos q18).symm.trans h
        cases h
        exact i_vret S0 dX5_piece_160
      · replace h := (if_neg q18).symm.trans h
        refine i_aload_n S dX5_piece_63 rfl ?_
        refine i_iconst (v := 0) S dX5_piece_64 ic_0 ?_
        refine i_iload_n S dX5_piece_65 rfl ?_
        refine i_iconst (v := 1) S dX5_piece_66 ic_1 ?_
        refine i_iadd S dX5_piece_67 ?_
        obtain ⟨hL19, h⟩ := onLn h
        obtain ⟨p20, e20, h⟩ := bn h
        refine i_callV (As := [.int ((0 : Int32)), .int (x1 + (1 : Int32))]) (st1 := []) S (hrec0 _ _ _ _ hL19 e20) mw_X5_condition lk_X5_55 im_X5_condition se_X5_condition ci_5.1 ci_5.2.1 (k26 hL19) dX5_piece_68 rfl rfl (Nat.le_of_ble_eq_true rfl) rfl ?_
        refine i_aload_n S dX5_piece_71 rfl ?_
        obtain ⟨hL21, h⟩ := onLn h
        refine i_getR S fl_X5_18 (k26 hL21) (r26_0 hL21) rfl dX5_piece_72 ?_
        refine i_bipush (v := 41) S dX5_piece_75 bp_41 ?_
        obtain ⟨p22, e22, h⟩ := bn h
        refine i_callV (As := [.int ((41 : Int32))]) (st1 := []) S (Call.lift (by omega) (c_X8_pass g ((dq - 2)) hL21 e22)) mw_X8_pass lk_X5_42 im_X8_pass se_X8_pass ci_8.1 ci_8.2.1 (k12 hL21) dX5_piece_77 rfl rfl (Nat.le_of_ble_eq_true rfl) rfl ?_
        refine i_goto (tgt := 160) S dX5_piece_80 (by decide) ?_
        cases h
        exact i_vret S0 dX5_piece_160
  · replace h := (if_pos q2).symm.trans h
    refine i_aload_n S dX5_piece_14 rfl ?_
    refine i_getR S fl_X5_18 (k26 hL) (r26_0 hL) rfl dX5_piece_15 ?_
    refine i_iload_n S dX5_piece_18 rfl ?_
    obtain ⟨p23, e23, h⟩ := bn h
    refine i_callV (As := [.int x1]) (st1 := [.int p23.1]) S (Call.lift (by omega) (c_X8_opens g ((dq - 2)) hL e23)) mw_X8_opens lk_X5_81 im_X8_opens se_X8_opens ci_8.1 ci_8.2.1 (k12 hL) dX5_piece_19 rfl rfl (Nat.le_of_ble_eq_true rfl) rfl ?_
    refine i_if_eq (tgt := 160) S dX5_piece_22 (by decide) (fun q24 => ?_) (fun q24 => ?_)
    · replace h := (if_pos q24).symm.trans h
      cases h
      exact i_vret S0 dX5_piece_160
    · replace h := (if_neg q24).symm.trans h
      refine i_aload_n S dX5_piece_25 rfl ?_
      refine i_iload_n S dX5_piece_26 rfl ?_
      refine i_iconst (v := 1) S dX5_piece_27 ic_1 ?_
      refine i_iadd S dX5_piece_28 ?_
      obtain ⟨hL25, h⟩ := onLn h
      obtain ⟨p26, e26, h⟩ := bn h
      refine i_callV (As := [.int (x1 + (1 : Int32))]) (st1 := []) S (hrec1 _ _ _ hL25 e26) mw_X5_piece lk_X5_68 im_X5_piece se_X5_piece ci_5.1 ci_5.2.1 (k26 hL25) dX5_piece_29 rfl rfl (Nat.le_of_ble_eq_true rfl) rfl ?_
      refine i_aload_n S dX5_piece_32 rfl ?_
      obtain ⟨hL27, h⟩ := onLn h
      refine i_getR S fl_X5_12 (k26 hL27) (r26_1 hL27) rfl dX5_piece_33 ?_
      refine i_bipush (v := 10) S dX5_piece_36 bp_10 ?_
      refine i_iconst (v := 0) S dX5_piece_38 ic_0 ?_
      obtain ⟨p28, e28, h⟩ := bn h
      refine i_callV (As := [.int ((10 : Int32)), .int ((0 : Int32))]) (st1 := [.int p28.1]) S (Call.lift (by omega) (c_X4_put g ((dq - 1)) hL27 (by decide) e28)) mw_X4_put lk_X5_77 im_X4_put se_X4_put ci_4.1 ci_4.2.1 (k27 hL27) dX5_piece_39 rfl rfl (Nat.le_of_ble_eq_true rfl) rfl ?_
      refine i_pop S dX5_piece_42 rfl ?_
      refine i_goto (tgt := 160) S dX5_piece_43 (by decide) ?_
      cases h
      exact i_vret S0 dX5_piece_160
noncomputable def rc_X5_condition : Nat → Nat → Int32 → Int32 → Mm → Option Mm
  | 0, _, _, _, _ => none
  | n + 1, j, x1, x2, w => if j = 0 then gf_X5_condition (rc_X5_condition n) x1 x2 w else gf_X5_piece (rc_X5_condition n) x1 w
set_option maxHeartbeats 4000000 in
theorem rt_X5_condition (dk : Nat) (hk : 102 ≤ dk) : ∀ n : Nat, (∀ (g : Gx) (x1 : Int32) (x2 : Int32) (w : Mm) {p : Mm}, Lay w →  rc_X5_condition n 0 x1 x2 w = some p → Call g (dk + n) yX5_condition cX5_condition 7 none [rf g 26, .int x1, .int x2] w none p) ∧ (∀ (g : Gx) (x1 : Int32) (w : Mm) {p : Mm}, Lay w →  rc_X5_condition n 1 x1 0 w = some p → Call g (dk + n) yX5_piece cX5_piece 5 none [rf g 26, .int x1] w none p)
  | 0 => ⟨(by intro g _ _ w p hL  h; cases h), (by intro g _ w p hL  h; cases h)⟩
  | n + 1 => by
    obtain ⟨h0, h1⟩ := rt_X5_condition dk hk n
    exact ⟨(by intro g _ _ w p hL  h; exact cb_X5_condition g (dq := dk + n) (by omega) h0 h1 hL  h), (by intro g _ w p hL  h; exact cb_X5_piece g (dq := dk + n) (by omega) h0 h1 hL  h)⟩
noncomputable def f_X5_condition (x1 : Int32) (x2 : Int32) (w : Mm) : Option Mm := rc_X5_condition 100 0 x1 x2 w
theorem c_X5_condition (g : Gx) (d : Nat) {x1 : Int32} {x2 : Int32} {w : Mm} {p : Mm} (hL : Lay w)  (h : f_X5_condition x1 x2 w = some p) : Call g (d + 202) yX5_condition cX5_condition 7 none [rf g 26, .int x1, .int x2] w none p := (rt_X5_condition (d + 102) (by omega) 100).1 g x1 x2 w hL  h
noncomputable def f_X5_piece (x1 : Int32) (w : Mm) : Option Mm := rc_X5_condition 100 1 x1 0 w
theorem c_X5_piece (g : Gx) (d : Nat) {x1 : Int32} {w : Mm} {p : Mm} (hL : Lay w)  (h : f_X5_piece x1 w = some p) : Call g (d + 202) yX5_piece cX5_piece 5 none [rf g 26, .int x1] w none p := (rt_X5_condition (d + 102) (by omega) 100).2 g x1 w hL  h
/-! WordYear$Tape.isAtEnd -/
noncomputable def f_X8_isAtEnd  (w : Mm) : Option Int32 := if (gI w 12 4) = 0 then (if (gI w 12 3) < (gI w 12 2) then (some (0 : Int32)) else (some (1 : Int32))) else (some (0 : Int32))
set_option maxHeartbeats 4000000 in
set_option maxRecDepth 100000 in
theorem c_X8_isAtEnd (g : Gx) (d : Nat)  {w : Mm} {p : Int32} (hL : Lay w) (h : f_X8_isAtEnd w = some p) : Call g (d + 1) yX8_isAtEnd cX8_isAtEnd 1 (some .boolean) [rf g 12] w (some (.int p)) w := by
  refine call_of (L0 := [some (rf g 12)]) (by decide) rfl (Nat.le_of_ble_eq_true rfl) (fun V S0 => ?_)
  have S := S0.b
  unfold f_X8_isAtEnd at h
  refine i_aload_n S dX8_isAtEnd_0 rfl ?_
  refine i_getIv (v := gI w 12 4) S fl_X8_29 (k12 hL) rfl rfl dX8_isAtEnd_1 ?_
  refine i_if_ne (tgt := 22) S dX8_isAtEnd_4 (by decide) (fun q1 => ?_) (fun q1 => ?_)
  · replace h := (if_neg q1).symm.trans h
    refine i_iconst (v := 0) S dX8_isAtEnd_22 ic_0 ?_
    cases h
    exact i_iret S0 rfl dX8_isAtEnd_23
  · replace h := (if_pos q1).symm.trans h
    refine i_aload_n S dX8_isAtEnd_7 rfl ?_
    refine i_getIv (v := gI w 12 3) S fl_X8_26 (k12 hL) rfl rfl dX8_isAtEnd_8 ?_
    refine i_aload_n S dX8_isAtEnd_11 rfl ?_
    refine i_getIv (v := gI w 12 2) S fl_X8_23 (k12 hL) rfl rfl dX8_isAtEnd_12 ?_
    refine i_icmp_lt (tgt := 22) S dX8_isAtEnd_15 (by decide) (fun q2 => ?_) (fun q2 => ?_)
    · replace h := (if_pos q2).symm.trans h
      refine i_iconst (v := 0) S dX8_isAtEnd_22 ic_0 ?_
      cases h
      exact i_iret S0 rfl dX8_isAtEnd_23
    · replace h := (if_neg q2).symm.trans h
      refine i_iconst (v := 1) S dX8_isAtEnd_18 ic_1 ?_
      refine i_goto (tgt := 23) S dX8_isAtEnd_19 (by decide) ?_
      cases h
      exact i_iret S0 rfl dX8_isAtEnd_23
/-! WordYear$Tape.startText -/
noncomputable def f_X8_startText (x1 : Int32) (w : Mm) : Option Mm := some (sI (sI (sI w 12 2 x1) 12 3 (0 : Int32)) 12 4 (0 : Int32))
set_option maxHeartbeats 4000000 in
set_option maxRecDepth 100000 in
theorem c_X8_startText (g : Gx) (d : Nat) {x1 : Int32} {w : Mm} {p : Mm} (hL : Lay w) (h : f_X8_startText x1 w = some p) : Call g (d + 1) yX8_startText cX8_startText 2 none [rf g 12, .int x1] w none p := by
  refine call_of (L0 := [some (rf g 12), some (.int x1)]) (by decide) rfl (Nat.le_of_ble_eq_true rfl) (fun V S0 => ?_)
  have S := S0.b
  unfold f_X8_startText at h
  refine i_aload_n S dX8_startText_0 rfl ?_
  refine i_iload_n S dX8_startText_1 rfl ?_
  refine i_putI S fl_X8_23 (k12 hL) rfl rfl rfl dX8_startText_2 ?_
  refine i_aload_n S dX8_startText_5 rfl ?_
  refine i_iconst (v := 0) S dX8_startText_6 ic_0 ?_
  refine i_putI S fl_X8_26 (k12 hL) rfl rfl rfl dX8_startText_7 ?_
  refine i_aload_n S dX8_startText_10 rfl ?_
  refine i_iconst (v := 0) S dX8_startText_11 ic_0 ?_
  refine i_putI S fl_X8_29 (k12 hL) rfl rfl rfl dX8_startText_12 ?_
  cases h
  exact i_vret S0 dX8_startText_15
/-! WordYear$NearReader.read -/
noncomputable def l_X5_read_17  (s : Int32 × Mm) : Option ((Int32 × Mm) ⊕ (Nat × Mm)) := if (12 : Int32) < s.1 then (some (.inr (0, s.2))) else (onL s.2 (if (gI s.2 12 4) = 0 then (Option.bind (if s.1 = (12 : Int32) then (Option.bind (f_X8_sign s.2) (fun p26 => if p26 = (107 : Int32) then (Option.bind (f_X8_fail (4 : Int32) s.2) (fun p28 => some p28)) else (some s.2))) else (some s.2)) (fun p5 => onL p5 (Option.bind (f_X8_pass (107 : Int32) p5) (fun p7 => onL p7 (Option.bind (f_X4_startPrice 27 p7) (fun p9 => onL p9 (Option.bind (f_X5_sum (0 : Int32) (0 : Int32) p9) (fun p11 => onL p11 (Option.bind (f_X8_pass (40 : Int32) p11) (fun p13 => onL p13 (Option.bind (f_X4_startCondition 27 p13) (fun p15 => onL p15 (Option.bind (f_X5_condition (0 : Int32) (1 : Int32) p15) (fun p17 => onL p17 (Option.bind (f_X8_pass (41 : Int32) p17) (fun p19 => onL p19 (Option.bind (f_X4_endClause 27 p19) (fun p21 => onL p21 (Option.bind (f_X8_isAtEnd p21) (fun p23 => if p23 = 0 then (Option.bind (f_X8_pass (59 : Int32) p21) (fun p25 => some (.inl (s.1 + (1 : Int32), p25)))) else (some (.inr (1, p21))))))))))))))))))))))) else (some (.inr (0, s.2)))))
noncomputable def f_X5_read (x1 : Int32) (w : Mm) : Option (Int32 × Mm) := Option.bind (f_X8_startText x1 w) (fun p1 => onL p1 (Option.bind (f_X4_clear 27 p1) (fun p3 => Option.bind (wh l_X5_read_17 FUEL ((0 : Int32), p3)) (fun p4 => if p4.1 = 0 then (onL p4.2 (some (gI p4.2 12 4, p4.2))) else (onL p4.2 (some (gI p4.2 27 9, p4.2)))))))
set_option maxHeartbeats 4000000 in
set_option maxRecDepth 100000 in
theorem t_l_X5_read_17 {g : Gx} {V : Vt} {d : Nat} (S : MachB g yX5_read cX5_read 3 (d + 202) V)   (s : Int32 × Mm) (e : (Int32 × Mm) ⊕ (Nat × Mm)) (h : l_X5_read_17  s = some e) (hC : ∀ s2, e = .inl s2 → V 17 [some (rf g 26), none, some (.int s2.1)] [] s2.2) (hE : ∀ x, e = .inr x → if x.1 = 0 then V 152 [some (rf g 26), none, none] [] x.2 else (V 129 [some (rf g 26), none, none] [] x.2)) : V 17 [some (rf g 26), none, some (.int s.1)] [] s.2 := by
  unfold l_X5_read_17 at h
  refine i_iload_n S dX5_read_17 rfl ?_
  refine i_bipush (v := 12) S dX5_read_18 bp_12 ?_
  refine i_icmp_gt (tgt := 152) S dX5_read_20 (by decide) (fun q1 => ?_) (fun q1 => ?_)
  · replace h := (if_pos q1).symm.trans h
    refine i_mask (L1 := [some (rf g 26), none, none]) S [true, false, false] rfl ?_
    have hz := hE _ (Option.some.inj h).symm
    exact hz
  · replace h := (if_neg q1).symm.trans h
    refine i_aload_n S dX5_read_23 rfl ?_
    obtain ⟨hL2, h⟩ := onLn h
    refine i_getR S fl_X5_18 (k26 hL2) (r26_0 hL2) rfl dX5_read_24 ?_
    refine i_getIv (v := gI s.2 12 4) S fl_X5_31 (k12 hL2) rfl rfl dX5_read_27 ?_
    refine i_if_ne (tgt := 152) S dX5_read_30 (by decide) (fun q3 => ?_) (fun q3 => ?_)
    · replace h := (if_neg q3).symm.trans h
      refine i_mask (L1 := [some (rf g 26), none, none]) S [true, false, false] rfl ?_
      have hz := hE _ (Option.some.inj h).symm
      exact hz
    · replace h := (if_pos q3).symm.trans h
      refine i_iload_n S dX5_read_33 rfl ?_
      refine i_bipush (v := 12) S dX5_read_34 bp_12 ?_
      obtain ⟨p5, e5, h⟩ := bn h
      have hj5 : ∀ q5, p5 = q5 → V 59 [some (rf g 26), none, some (.int s.1)] [] q5 := by
        intro q5 hq5
        subst hq5
        refine i_aload_n S dX5_read_59 rfl ?_
        obtain ⟨hL6, h⟩ := onLn h
        refine i_getR S fl_X5_18 (k26 hL6) (r26_0 hL6) rfl dX5_read_60 ?_
        refine i_bipush (v := 107) S dX5_read_63 bp_107 ?_
        obtain ⟨p7, e7, h⟩ := bn h
        refine i_callV (As := [.int ((107 : Int32))]) (st1 := []) S (c_X8_pass g (d + 200) hL6 e7) mw_X8_pass lk_X5_42 im_X8_pass se_X8_pass ci_8.1 ci_8.2.1 (k12 hL6) dX5_read_65 rfl rfl (Nat.le_of_ble_eq_true rfl) rfl ?_
        refine i_aload_n S dX5_read_68 rfl ?_
        obtain ⟨hL8, h⟩ := onLn h
        refine i_getR S fl_X5_12 (k26 hL8) (r26_1 hL8) rfl dX5_read_69 ?_
        obtain ⟨p9, e9, h⟩ := bn h
        refine i_callV (As := []) (st1 := []) S (c_X4_startPrice g (d + 201) hL8 (by decide) e9) mw_X4_startPrice lk_X5_45 im_X4_startPrice se_X4_startPrice ci_4.1 ci_4.2.1 (k27 hL8) dX5_read_72 rfl rfl (Nat.le_of_ble_eq_true rfl) rfl ?_
        refine i_aload_n S dX5_read_75 rfl ?_
        refine i_iconst (v := 0) S dX5_read_76 ic_0 ?_
        refine i_iconst (v := 0) S dX5_read_77 ic_0 ?_
        obtain ⟨hL10, h⟩ := onLn h
        obtain ⟨p11, e11, h⟩ := bn h
        refine i_callV (As := [.int ((0 : Int32)), .int ((0 : Int32))]) (st1 := []) S (c_X5_sum g (d + 100) hL10 e11) mw_X5_sum lk_X5_48 im_X5_sum se_X5_sum ci_5.1 ci_5.2.1 (k26 hL10) dX5_read_78 rfl rfl (Nat.le_of_ble_eq_true rfl) rfl ?_
        refine i_aload_n S dX5_read_81 rfl ?_
        obtain ⟨hL12, h⟩ := onLn h
        refine i_getR S fl_X5_18 (k26 hL12) (r26_0 hL12) rfl dX5_read_82 ?_
        refine i_bipush (v := 40) S dX5_read_85 bp_40 ?_
        obtain ⟨p13, e13, h⟩ := bn h
        refine i_callV (As := [.int ((40 : Int32))]) (st1 := []) S (c_X8_pass g (d + 200) hL12 e13) mw_X8_pass lk_X5_42 im_X8_pass se_X8_pass ci_8.1 ci_8.2.1 (k12 hL12) dX5_read_87 rfl rfl (Nat.le_of_ble_eq_true rfl) rfl ?_
        refine i_aload_n S dX5_read_90 rfl ?_
        obtain ⟨hL14, h⟩ := onLn h
        refine i_getR S fl_X5_12 (k26 hL14) (r26_1 hL14) rfl dX5_read_91 ?_
        obtain ⟨p15, e15, h⟩ := bn h
        refine i_callV (As := []) (st1 := []) S (c_X4_startCondition g (d + 201) hL14 (by decide) e15) mw_X4_startCondition lk_X5_52 im_X4_startCondition se_X4_startCondition ci_4.1 ci_4.2.1 (k27 hL14) dX5_read_94 rfl rfl (Nat.le_of_ble_eq_true rfl) rfl ?_
        refine i_aload_n S dX5_read_97 rfl ?_
        refine i_iconst (v := 0) S dX5_read_98 ic_0 ?_
        refine i_iconst (v := 1) S dX5_read_99 ic_1 ?_
        obtain ⟨hL16, h⟩ := onLn h
        obtain ⟨p17, e17, h⟩ := bn h
        refine i_callV (As := [.int ((0 : Int32)), .int ((1 : Int32))]) (st1 := []) S (c_X5_condition g d hL16 e17) mw_X5_condition lk_X5_55 im_X5_condition se_X5_condition ci_5.1 ci_5.2.1 (k26 hL16) dX5_read_100 rfl rfl (Nat.le_of_ble_eq_true rfl) rfl ?_
        refine i_aload_n S dX5_read_103 rfl ?_
        obtain ⟨hL18, h⟩ := onLn h
        refine i_getR S fl_X5_18 (k26 hL18) (r26_0 hL18) rfl dX5_read_104 ?_
        refine i_bipush (v := 41) S dX5_read_107 bp_41 ?_
        obtain ⟨p19, e19, h⟩ := bn h
        refine i_callV (As := [.int ((41 : Int32))]) (st1 := []) S (c_X8_pass g (d + 200) hL18 e19) mw_X8_pass lk_X5_42 im_X8_pass se_X8_pass ci_8.1 ci_8.2.1 (k12 hL18) dX5_read_109 rfl rfl (Nat.le_of_ble_eq_true rfl) rfl ?_
        refine i_aload_n S dX5_read_112 rfl ?_
        obtain ⟨hL20, h⟩ := onLn h
        refine i_getR S fl_X5_12 (k26 hL20) (r26_1 hL20) rfl dX5_read_113 ?_
        obtain ⟨p21, e21, h⟩ := bn h
        refine i_callV (As := []) (st1 := []) S (c_X4_endClause g (d + 201) hL20 (by decide) e21) mw_X4_endClause lk_X5_58 im_X4_endClause se_X4_endClause ci_4.1 ci_4.2.1 (k27 hL20) dX5_read_116 rfl rfl (Nat.le_of_ble_eq_true rfl) rfl ?_
        refine i_aload_n S dX5_read_119 rfl ?_
        obtain ⟨hL22, h⟩ := onLn h
        refine i_getR S fl_X5_18 (k26 hL22) (r26_0 hL22) rfl dX5_read_120 ?_
        obtain ⟨p23, e23, h⟩ := bn h
        refine i_callV (As := []) (st1 := [.int p23]) S (c_X8_isAtEnd g (d + 201) hL22 e23) mw_X8_isAtEnd lk_X5_61 im_X8_isAtEnd se_X8_isAtEnd ci_8.1 ci_8.2.1 (k12 hL22) dX5_read_123 rfl rfl (Nat.le_of_ble_eq_true rfl) rfl ?_
        refine i_if_eq (tgt := 137) S dX5_read_126 (by decide) (fun q24 => ?_) (fun q24 => ?_)
        · replace h := (if_pos q24).symm.trans h
          refine i_aload_n S dX5_read_137 rfl ?_
          refine i_getR S fl_X5_18 (k26 hL22) (r26_0 hL22) rfl dX5_read_138 ?_
          refine i_bipush (v := 59) S dX5_read_141 bp_59 ?_
          obtain ⟨p25, e25, h⟩ := bn h
          refine i_callV (As := [.int ((59 : Int32))]) (st1 := []) S (c_X8_pass g (d + 200) hL22 e25) mw_X8_pass lk_X5_42 im_X8_pass se_X8_pass ci_8.1 ci_8.2.1 (k12 hL22) dX5_read_143 rfl rfl (Nat.le_of_ble_eq_true rfl) rfl ?_
          refine i_iinc (L1 := [some (rf g 26), none, some (.int (s.1 + (1 : Int32)))]) S dX5_read_146 rfl ic_1 (by decide) rfl ?_
          refine i_goto (tgt := 17) S dX5_read_149 (by decide) ?_
          have hz := hC _ (Option.some.inj h).symm
          exact hz
        · replace h := (if_neg q24).symm.trans h
          refine i_mask (L1 := [some (rf g 26), none, none]) S [true, false, false] rfl ?_
          have hz := hE _ (Option.some.inj h).symm
          exact hz
      replace h := e5
      clear e5
      refine i_icmp_ne (tgt := 59) S dX5_read_36 (by decide) (fun q4 => ?_) (fun q4 => ?_)
      · replace h := (if_neg q4).symm.trans h
        have hz := hj5 _ (Option.some.inj h).symm
        exact hz
      · replace h := (if_pos q4).symm.trans h
        refine i_aload_n S dX5_read_39 rfl ?_
        refine i_getR S fl_X5_18 (k26 hL2) (r26_0 hL2) rfl dX5_read_40 ?_
        obtain ⟨p26, e26, h⟩ := bn h
        refine i_callV (As := []) (st1 := [.int p26]) S (c_X8_sign g (d + 201) hL2 e26) mw_X8_sign lk_X5_35 im_X8_sign se_X8_sign ci_8.1 ci_8.2.1 (k12 hL2) dX5_read_43 rfl rfl (Nat.le_of_ble_eq_true rfl) rfl ?_
        refine i_bipush (v := 107) S dX5_read_46 bp_107 ?_
        refine i_icmp_ne (tgt := 59) S dX5_read_48 (by decide) (fun q27 => ?_) (fun q27 => ?_)
        · replace h := (if_neg q27).symm.trans h
          have hz := hj5 _ (Option.some.inj h).symm
          exact hz
        · replace h := (if_pos q27).symm.trans h
          refine i_aload_n S dX5_read_51 rfl ?_
          refine i_getR S fl_X5_18 (k26 hL2) (r26_0 hL2) rfl dX5_read_52 ?_
          refine i_iconst (v := 4) S dX5_read_55 ic_4 ?_
          obtain ⟨p28, e28, h⟩ := bn h
          refine i_callV (As := [.int ((4 : Int32))]) (st1 := []) S (c_X8_fail g (d + 201) hL2 e28) mw_X8_fail lk_X5_39 im_X8_fail se_X8_fail ci_8.1 ci_8.2.1 (k12 hL2) dX5_read_56 rfl rfl (Nat.le_of_ble_eq_true rfl) rfl ?_
          have hz := hj5 _ (Option.some.inj h).symm
          exact hz
set_option maxHeartbeats 4000000 in
set_option maxRecDepth 100000 in
theorem c_X5_read (g : Gx) (d : Nat) {x1 : Int32} {w : Mm} {p : (Int32 × Mm)} (hL : Lay w) (h : f_X5_read x1 w = some p) : Call g (d + 203) yX5_read cX5_read 3 (some .int) [rf g 26, .int x1] w (some (.int p.1)) p.2 := by
  refine call_of (L0 := [some (rf g 26), some (.int x1), none]) (by decide) rfl (Nat.le_of_ble_eq_true rfl) (fun V S0 => ?_)
  have S := S0.b
  unfold f_X5_read at h
  refine i_aload_n S dX5_read_0 rfl ?_
  refine i_getR S fl_X5_18 (k26 hL) (r26_0 hL) rfl dX5_read_1 ?_
  refine i_iload_n S dX5_read_4 rfl ?_
  obtain ⟨p1, e1, h⟩ := bn h
  refine i_callV (As := [.int x1]) (st1 := []) S (c_X8_startText g (d + 201) hL e1) mw_X8_startText lk_X5_22 im_X8_startText se_X8_startText ci_8.1 ci_8.2.1 (k12 hL) dX5_read_5 rfl rfl (Nat.le_of_ble_eq_true rfl) rfl ?_
  refine i_aload_n S dX5_read_8 rfl ?_
  obtain ⟨hL2, h⟩ := onLn h
  refine i_getR S fl_X5_12 (k26 hL2) (r26_1 hL2) rfl dX5_read_9 ?_
  obtain ⟨p3, e3, h⟩ := bn h
  refine i_callV (As := []) (st1 := []) S (c_X4_clear g (d + 201) hL2 (by decide) e3) mw_X4_clear lk_X5_28 im_X4_clear se_X4_clear ci_4.1 ci_4.2.1 (k27 hL2) dX5_read_12 rfl rfl (Nat.le_of_ble_eq_true rfl) rfl ?_
  refine i_iconst (v := 0) S dX5_read_15 ic_0 ?_
  refine i_istore_n (L1 := [some (rf g 26), some (.int x1), some (.int ((0 : Int32)))]) S dX5_read_16 (by decide) rfl ?_
  refine i_mask (L1 := [some (rf g 26), none, some (.int ((0 : Int32)))]) S [true, false, true] rfl ?_
  obtain ⟨p4, e4, h⟩ := bn h
  have hE4 : if p4.1 = 0 then V 152 [some (rf g 26), none, none] [] p4.2 else (V 129 [some (rf g 26), none, none] [] p4.2) := by
    by_cases hx4_0 : p4.1 = 0
    · rw [if_pos hx4_0]
      replace h := (if_pos hx4_0).symm.trans h
      refine i_aload_n S dX5_read_152 rfl ?_
      obtain ⟨hL5, h⟩ := onLn h
      refine i_getR S fl_X5_18 (k26 hL5) (r26_0 hL5) rfl dX5_read_153 ?_
      refine i_getIv (v := gI p4.2 12 4) S fl_X5_31 (k12 hL5) rfl rfl dX5_read_156 ?_
      cases h
      exact i_iret S0 rfl dX5_read_159
    · rw [if_neg hx4_0]
      replace h := (if_neg hx4_0).symm.trans h
      refine i_aload_n S dX5_read_129 rfl ?_
      obtain ⟨hL6, h⟩ := onLn h
      refine i_getR S fl_X5_12 (k26 hL6) (r26_1 hL6) rfl dX5_read_130 ?_
      refine i_getIv (v := gI p4.2 27 9) S fl_X5_65 (k27 hL6) rfl rfl dX5_read_133 ?_
      cases h
      exact i_iret S0 rfl dX5_read_136
  exact wh_V (P := fun sv4 => V 17 [some (rf g 26), none, some (.int sv4.1)] [] sv4.2) (E := fun xv4 => if xv4.1 = 0 then V 152 [some (rf g 26), none, none] [] xv4.2 else (V 129 [some (rf g 26), none, none] [] xv4.2)) (fun sv4 ev hb hc he => t_l_X5_read_17   S  sv4 ev hb hc he) FUEL _ _ e4 hE4
/-! WordYear$Rule.<init> -/
noncomputable def f_X6_init (o0 : Nat) (o1 : Nat) (o2 : Nat) (w : Mm) : Option Mm := if gK w o0 = some (6, 9) then (some (sR (sR w o0 0 (some o1)) o0 1 (some o2))) else none
set_option maxHeartbeats 4000000 in
set_option maxRecDepth 100000 in
theorem c_X6_init (g : Gx) (d : Nat) {o0 : Nat} {o1 : Nat} {o2 : Nat} {w : Mm} {p : Mm}  (h : f_X6_init o0 o1 o2 w = some p) : Call g (d + 1) yX6_init cX6_init 3 none [rf g o0, rf g o1, rf g o2] w none p := by
  refine call_of (L0 := [some (rf g o0), some (rf g o1), some (rf g o2)]) (by decide) rfl (Nat.le_of_ble_eq_true rfl) (fun V S0 => ?_)
  have S := S0.b
  unfold f_X6_init at h
  refine i_aload_n S dX6_init_0 rfl ?_
  refine i_objInit S lk_X6_3 im_obj cd_obj dX6_init_1 (Nat.le_of_ble_eq_true rfl) ?_
  refine i_aload_n S dX6_init_4 rfl ?_
  refine i_aload_n S dX6_init_5 rfl ?_
  obtain ⟨hk1, h⟩ := gd h
  refine i_putFR (x := some o1) S fl_X6_9 hk1 rfl rfl (fun C T h => ci_d6 h 0 (by decide)) rfl rfl dX6_init_6 ?_
  refine i_aload_n S dX6_init_9 rfl ?_
  refine i_aload_n S dX6_init_10 rfl ?_
  refine i_putFR (x := some o2) S fl_X6_15 hk1 rfl rfl (fun C T h => ci_d6 h 1 (by decide)) rfl rfl dX6_init_11 ?_
  cases h
  exact i_vret S0 dX6_init_14
/-! WordYear$Rule.isLetter -/
noncomputable def f_X6_isLetter (x0 : Int32) : Int32 := if x0 < (97 : Int32) then ((0 : Int32)) else (if (106 : Int32) < x0 then ((0 : Int32)) else ((1 : Int32)))
set_option maxHeartbeats 4000000 in
set_option maxRecDepth 100000 in
theorem c_X6_isLetter (g : Gx) (d : Nat) {x0 : Int32} {w : Mm} {p : Int32}  (h : f_X6_isLetter x0 = p) : Call g (d + 1) yX6_isLetter cX6_isLetter 1 (some .boolean) [.int x0] w (some (.int p)) w := by
  refine call_of (L0 := [some (.int x0)]) (by decide) rfl (Nat.le_of_ble_eq_true rfl) (fun V S0 => ?_)
  have S := S0.b
  unfold f_X6_isLetter at h
  refine i_iload_n S dX6_isLetter_0 rfl ?_
  refine i_bipush (v := 97) S dX6_isLetter_1 bp_97 ?_
  refine i_icmp_lt (tgt := 16) S dX6_isLetter_3 (by decide) (fun q1 => ?_) (fun q1 => ?_)
  · replace h := (if_pos q1).symm.trans h
    refine i_iconst (v := 0) S dX6_isLetter_16 ic_0 ?_
    subst h
    exact i_iret S0 rfl dX6_isLetter_17
  · replace h := (if_neg q1).symm.trans h
    refine i_iload_n S dX6_isLetter_6 rfl ?_
    refine i_bipush (v := 106) S dX6_isLetter_7 bp_106 ?_
    refine i_icmp_gt (tgt := 16) S dX6_isLetter_9 (by decide) (fun q2 => ?_) (fun q2 => ?_)
    · replace h := (if_pos q2).symm.trans h
      refine i_iconst (v := 0) S dX6_isLetter_16 ic_0 ?_
      subst h
      exact i_iret S0 rfl dX6_isLetter_17
    · replace h := (if_neg q2).symm.trans h
      refine i_iconst (v := 1) S dX6_isLetter_12 ic_1 ?_
      refine i_goto (tgt := 17) S dX6_isLetter_13 (by decide) ?_
      subst h
      exact i_iret S0 rfl dX6_isLetter_17
theorem b_X6_isLetter (x0 : Int32) : isB (f_X6_isLetter x0) = true := by
  unfold f_X6_isLetter
  repeat' split
  all_goals first | rfl
/-! WordYear$Rule.letter -/
noncomputable def f_X6_letter (o0 : Nat) (x1 : Int32) (w : Mm) : Option (Int32 × Mm) := Option.bind (f_X3_isPlain x1 w) (fun p1 => if p1 = 0 then (Option.bind (f_X8_fail (2 : Int32) w) (fun p7 => some ((0 : Int32), p7))) else (Option.bind (f_X8_step w) (fun p3 => onL p3 (Option.bind (f_X3_lengthOf x1 (sI p3 o0 4 ((gI p3 o0 4) ||| ((1 : Int32) <<< (x1 &&& 31))))) (fun p5 => Option.bind (f_X3_meaningOf x1 (sI (sI p3 o0 4 ((gI p3 o0 4) ||| ((1 : Int32) <<< (x1 &&& 31)))) o0 5 ((gI (sI p3 o0 4 ((gI p3 o0 4) ||| ((1 : Int32) <<< (x1 &&& 31)))) o0 5) + p5))) (fun p6 => some (p6, sI (sI p3 o0 4 ((gI p3 o0 4) ||| ((1 : Int32) <<< (x1 &&& 31)))) o0 5 ((gI (sI p3 o0 4 ((gI p3 o0 4) ||| ((1 : Int32) <<< (x1 &&& 31)))) o0 5) + p5))))))))
set_option maxHeartbeats 4000000 in
set_option maxRecDepth 100000 in
theorem c_X6_letter (g : Gx) (d : Nat) {o0 : Nat} {x1 : Int32} {w : Mm} {p : (Int32 × Mm)} (hL : Lay w) (ho0 : isRl o0 = true) (h : f_X6_letter o0 x1 w = some p) : Call g (d + 3) yX6_letter cX6_letter 2 (some .int) [rf g o0, .int x1] w (some (.int p.1)) p.2 := by
  refine call_of (L0 := [some (rf g o0), some (.int x1)]) (by decide) rfl (Nat.le_of_ble_eq_true rfl) (fun V S0 => ?_)
  have S := S0.b
  unfold f_X6_letter at h
  refine i_aload_n S dX6_letter_0 rfl ?_
  refine i_getR S fl_X6_15 (rl_k hL ho0) (rl_r1 hL ho0) rfl dX6_letter_1 ?_
  refine i_iload_n S dX6_letter_4 rfl ?_
  obtain ⟨p1, e1, h⟩ := bn h
  refine i_callV (As := [.int x1]) (st1 := [.int p1]) S (c_X3_isPlain g d hL e1) mw_X3_isPlain lk_X6_100 im_X3_isPlain se_X3_isPlain ci_3.1 ci_3.2.1 (k1 hL) dX6_letter_5 rfl rfl (Nat.le_of_ble_eq_true rfl) rfl ?_
  refine i_if_ne (tgt := 21) S dX6_letter_8 (by decide) (fun q2 => ?_) (fun q2 => ?_)
  · replace h := (if_neg q2).symm.trans h
    refine i_aload_n S dX6_letter_21 rfl ?_
    refine i_getR S fl_X6_9 (rl_k hL ho0) (rl_r0 hL ho0) rfl dX6_letter_22 ?_
    obtain ⟨p3, e3, h⟩ := bn h
    refine i_callV (As := []) (st1 := []) S (c_X8_step g (d + 1) hL e3) mw_X8_step lk_X6_78 im_X8_step se_X8_step ci_8.1 ci_8.2.1 (k12 hL) dX6_letter_25 rfl rfl (Nat.le_of_ble_eq_true rfl) rfl ?_
    refine i_aload_n S dX6_letter_28 rfl ?_
    refine i_dup S dX6_letter_29 rfl ?_
    obtain ⟨hL4, h⟩ := onLn h
    refine i_getIv (v := gI p3 o0 4) S fl_X6_19 (rl_k hL4 ho0) rfl rfl dX6_letter_30 ?_
    refine i_iconst (v := 1) S dX6_letter_33 ic_1 ?_
    refine i_iload_n S dX6_letter_34 rfl ?_
    refine i_ishl S dX6_letter_35 ?_
    refine i_ior S dX6_letter_36 ?_
    refine i_putI S fl_X6_19 (rl_k hL4 ho0) rfl rfl rfl dX6_letter_37 ?_
    refine i_aload_n S dX6_letter_40 rfl ?_
    refine i_dup S dX6_letter_41 rfl ?_
    refine i_getIv (v := gI (sI p3 o0 4 ((gI p3 o0 4) ||| ((1 : Int32) <<< (x1 &&& 31)))) o0 5) S fl_X6_23 (rl_k hL4 ho0) rfl rfl dX6_letter_42 ?_
    refine i_aload_n S dX6_letter_45 rfl ?_
    refine i_getR S fl_X6_15 (rl_k hL4 ho0) (rl_r1 hL4 ho0) rfl dX6_letter_46 ?_
    refine i_iload_n S dX6_letter_49 rfl ?_
    obtain ⟨p5, e5, h⟩ := bn h
    refine i_callV (As := [.int x1]) (st1 := [.int p5, .int (gI (sI p3 o0 4 ((gI p3 o0 4) ||| ((1 : Int32) <<< (x1 &&& 31)))) o0 5), rf g o0]) S (c_X3_lengthOf g d hL4 e5) mw_X3_lengthOf lk_X6_103 im_X3_lengthOf se_X3_lengthOf ci_3.1 ci_3.2.1 (k1 hL4) dX6_letter_50 rfl rfl (Nat.le_of_ble_eq_true rfl) rfl ?_
    refine i_iadd S dX6_letter_53 ?_
    refine i_putI S fl_X6_23 (rl_k hL4 ho0) rfl rfl rfl dX6_letter_54 ?_
    refine i_aload_n S dX6_letter_57 rfl ?_
    refine i_getR S fl_X6_15 (rl_k hL4 ho0) (rl_r1 hL4 ho0) rfl dX6_letter_58 ?_
    refine i_iload_n S dX6_letter_61 rfl ?_
    obtain ⟨p6, e6, h⟩ := bn h
    refine i_callV (As := [.int x1]) (st1 := [.int p6]) S (c_X3_meaningOf g d hL4 e6) mw_X3_meaningOf lk_X6_106 im_X3_meaningOf se_X3_meaningOf ci_3.1 ci_3.2.1 (k1 hL4) dX6_letter_62 rfl rfl (Nat.le_of_ble_eq_true rfl) rfl ?_
    cases h
    exact i_iret S0 rfl dX6_letter_65
  · replace h := (if_pos q2).symm.trans h
    refine i_aload_n S dX6_letter_11 rfl ?_
    refine i_getR S fl_X6_9 (rl_k hL ho0) (rl_r0 hL ho0) rfl dX6_letter_12 ?_
    refine i_iconst (v := 2) S dX6_letter_15 ic_2 ?_
    obtain ⟨p7, e7, h⟩ := bn h
    refine i_callV (As := [.int ((2 : Int32))]) (st1 := []) S (c_X8_fail g (d + 1) hL e7) mw_X8_fail lk_X6_52 im_X8_fail se_X8_fail ci_8.1 ci_8.2.1 (k12 hL) dX6_letter_16 rfl rfl (Nat.le_of_ble_eq_true rfl) rfl ?_
    refine i_iconst (v := 0) S dX6_letter_19 ic_0 ?_
    cases h
    exact i_iret S0 rfl dX6_letter_20
