/-! WordYearModel.reads -/
noncomputable def l_X12_reads_7 (x1 : Int32) (s : Int32 × Mm) : Option ((Int32 × Mm) ⊕ (Int32 × Mm)) := onL s.2 (Option.bind (f_X12_isGood s.2) (fun p2 => if p2 = 0 then (some (.inr (s.1, s.2))) else (Option.bind (f_X12_seesDigit s.2) (fun p4 => if p4 = 0 then (some (.inr (s.1, s.2))) else (Option.bind (if (gI s.2 47 28) = (x1 + (5 : Int32)) then (Option.bind (f_X12_wrongs (2 : Int32) (gI s.2 47 28) s.2) (fun p10 => some p10)) else (some s.2)) (fun p7 => onL p7 (Option.bind (f_X12_here p7) (fun p9 => some (.inl ((((10 : Int32) * s.1) + p9) - (48 : Int32), sI p7 47 28 ((gI p7 47 28) + (1 : Int32))))))))))))
noncomputable def f_X12_reads  (w : Mm) : Option (Int32 × Mm) := Option.bind (wh (l_X12_reads_7 (gI w 47 28)) FUEL ((0 : Int32), w)) (fun p1 => some (p1.1, p1.2))
set_option maxHeartbeats 4000000 in
set_option maxRecDepth 100000 in
theorem t_l_X12_reads_7 {g : Gx} {V : Vt} {d : Nat} (S : MachB g yX12_reads cX12_reads 3 (d + 2) V) {x1 : Int32}  (s : Int32 × Mm) (e : (Int32 × Mm) ⊕ (Int32 × Mm)) (h : l_X12_reads_7 x1 s = some e) (hC : ∀ s2, e = .inl s2 → V 7 [some (rf g 47), some (.int x1), some (.int s2.1)] [] s2.2) (hE : ∀ x, e = .inr x → V 66 [none, none, some (.int x.1)] [] x.2) : V 7 [some (rf g 47), some (.int x1), some (.int s.1)] [] s.2 := by
  unfold l_X12_reads_7 at h
  refine i_aload_n S dX12_reads_7 rfl ?_
  obtain ⟨hL1, h⟩ := onLn h
  obtain ⟨p2, e2, h⟩ := bn h
  refine i_callV (As := []) (st1 := [.int p2]) S (c_X12_isGood g (d + 1) hL1 e2) mw_X12_isGood lk_X12_190 im_X12_isGood se_X12_isGood ci_12.1 ci_12.2.1 (k47 hL1) dX12_reads_8 rfl rfl (Nat.le_of_ble_eq_true rfl) rfl ?_
  refine i_if_eq (tgt := 66) S dX12_reads_11 (by decide) (fun q3 => ?_) (fun q3 => ?_)
  · replace h := (if_pos q3).symm.trans h
    refine i_mask (L1 := [none, none, some (.int s.1)]) S [false, false, true] rfl ?_
    have hz := hE _ (Option.some.inj h).symm
    exact hz
  · replace h := (if_neg q3).symm.trans h
    refine i_aload_n S dX12_reads_14 rfl ?_
    obtain ⟨p4, e4, h⟩ := bn h
    refine i_callV (As := []) (st1 := [.int p4]) S (c_X12_seesDigit g d hL1 e4) mw_X12_seesDigit lk_X12_218 im_X12_seesDigit se_X12_seesDigit ci_12.1 ci_12.2.1 (k47 hL1) dX12_reads_15 rfl rfl (Nat.le_of_ble_eq_true rfl) rfl ?_
    refine i_if_eq (tgt := 66) S dX12_reads_18 (by decide) (fun q5 => ?_) (fun q5 => ?_)
    · replace h := (if_pos q5).symm.trans h
      refine i_mask (L1 := [none, none, some (.int s.1)]) S [false, false, true] rfl ?_
      have hz := hE _ (Option.some.inj h).symm
      exact hz
    · replace h := (if_neg q5).symm.trans h
      refine i_aload_n S dX12_reads_21 rfl ?_
      refine i_getIv (v := gI s.2 47 28) S fl_X12_181 (k47 hL1) rfl rfl dX12_reads_22 ?_
      refine i_iload_n S dX12_reads_25 rfl ?_
      refine i_iconst (v := 5) S dX12_reads_26 ic_5 ?_
      refine i_iadd S dX12_reads_27 ?_
      obtain ⟨p7, e7, h⟩ := bn h
      have hj7 : ∀ q7, p7 = q7 → V 40 [some (rf g 47), some (.int x1), some (.int s.1)] [] q7 := by
        intro q7 hq7
        subst hq7
        refine i_bipush (v := 10) S dX12_reads_40 bp_10 ?_
        refine i_iload_n S dX12_reads_42 rfl ?_
        refine i_imul S dX12_reads_43 ?_
        refine i_aload_n S dX12_reads_44 rfl ?_
        obtain ⟨hL8, h⟩ := onLn h
        obtain ⟨p9, e9, h⟩ := bn h
        refine i_callV (As := []) (st1 := [.int p9, .int ((10 : Int32) * s.1)]) S (c_X12_here g (d + 1) hL8 e9) mw_X12_here lk_X12_207 im_X12_here se_X12_here ci_12.1 ci_12.2.1 (k47 hL8) dX12_reads_45 rfl rfl (Nat.le_of_ble_eq_true rfl) rfl ?_
        refine i_iadd S dX12_reads_48 ?_
        refine i_bipush (v := 48) S dX12_reads_49 bp_48 ?_
        refine i_isub S dX12_reads_51 ?_
        refine i_istore_n (L1 := [some (rf g 47), some (.int x1), some (.int ((((10 : Int32) * s.1) + p9) - (48 : Int32)))]) S dX12_reads_52 (by decide) rfl ?_
        refine i_aload_n S dX12_reads_53 rfl ?_
        refine i_dup S dX12_reads_54 rfl ?_
        refine i_getIv (v := gI p7 47 28) S fl_X12_181 (k47 hL8) rfl rfl dX12_reads_55 ?_
        refine i_iconst (v := 1) S dX12_reads_58 ic_1 ?_
        refine i_iadd S dX12_reads_59 ?_
        refine i_putI S fl_X12_181 (k47 hL8) rfl rfl rfl dX12_reads_60 ?_
        refine i_goto (tgt := 7) S dX12_reads_63 (by decide) ?_
        have hz := hC _ (Option.some.inj h).symm
        exact hz
      replace h := e7
      clear e7
      refine i_icmp_ne (tgt := 40) S dX12_reads_28 (by decide) (fun q6 => ?_) (fun q6 => ?_)
      · replace h := (if_neg q6).symm.trans h
        have hz := hj7 _ (Option.some.inj h).symm
        exact hz
      · replace h := (if_pos q6).symm.trans h
        refine i_aload_n S dX12_reads_31 rfl ?_
        refine i_iconst (v := 2) S dX12_reads_32 ic_2 ?_
        refine i_aload_n S dX12_reads_33 rfl ?_
        refine i_getIv (v := gI s.2 47 28) S fl_X12_181 (k47 hL1) rfl rfl dX12_reads_34 ?_
        obtain ⟨p10, e10, h⟩ := bn h
        refine i_callV (As := [.int ((2 : Int32)), .int (gI s.2 47 28)]) (st1 := []) S (c_X12_wrongs g (d + 1) hL1 e10) mw_X12_wrongs lk_X12_203 im_X12_wrongs se_X12_wrongs ci_12.1 ci_12.2.1 (k47 hL1) dX12_reads_37 rfl rfl (Nat.le_of_ble_eq_true rfl) rfl ?_
        have hz := hj7 _ (Option.some.inj h).symm
        exact hz
set_option maxHeartbeats 4000000 in
set_option maxRecDepth 100000 in
theorem c_X12_reads (g : Gx) (d : Nat)  {w : Mm} {p : (Int32 × Mm)} (hL : Lay w) (h : f_X12_reads w = some p) : Call g (d + 3) yX12_reads cX12_reads 3 (some .int) [rf g 47] w (some (.int p.1)) p.2 := by
  refine call_of (L0 := [some (rf g 47), none, none]) (by decide) rfl (Nat.le_of_ble_eq_true rfl) (fun V S0 => ?_)
  have S := S0.b
  unfold f_X12_reads at h
  refine i_aload_n S dX12_reads_0 rfl ?_
  refine i_getIv (v := gI w 47 28) S fl_X12_181 (k47 hL) rfl rfl dX12_reads_1 ?_
  refine i_istore_n (L1 := [some (rf g 47), some (.int (gI w 47 28)), none]) S dX12_reads_4 (by decide) rfl ?_
  refine i_iconst (v := 0) S dX12_reads_5 ic_0 ?_
  refine i_istore_n (L1 := [some (rf g 47), some (.int (gI w 47 28)), some (.int ((0 : Int32)))]) S dX12_reads_6 (by decide) rfl ?_
  obtain ⟨p1, e1, h⟩ := bn h
  have hE1 : V 66 [none, none, some (.int p1.1)] [] p1.2 := by
    refine i_iload_n S dX12_reads_66 rfl ?_
    cases h
    exact i_iret S0 rfl dX12_reads_67
  exact wh_V (P := fun sv1 => V 7 [some (rf g 47), some (.int (gI w 47 28)), some (.int sv1.1)] [] sv1.2) (E := fun xv1 => V 66 [none, none, some (.int xv1.1)] [] xv1.2) (fun sv1 ev hb hc he => t_l_X12_reads_7   S  sv1 ev hb hc he) FUEL _ _ e1 hE1
/-! WordYearModel.isTimes -/
noncomputable def f_X12_isTimes (x0 : Int32) : Int32 := if x0 = (42 : Int32) then ((1 : Int32)) else (if x0 = (47 : Int32) then ((1 : Int32)) else (if x0 = (37 : Int32) then ((1 : Int32)) else ((0 : Int32))))
set_option maxHeartbeats 4000000 in
set_option maxRecDepth 100000 in
theorem c_X12_isTimes (g : Gx) (d : Nat) {x0 : Int32} {w : Mm} {p : Int32}  (h : f_X12_isTimes x0 = p) : Call g (d + 1) yX12_isTimes cX12_isTimes 1 (some .boolean) [.int x0] w (some (.int p)) w := by
  refine call_of (L0 := [some (.int x0)]) (by decide) rfl (Nat.le_of_ble_eq_true rfl) (fun V S0 => ?_)
  have S := S0.b
  unfold f_X12_isTimes at h
  refine i_iload_n S dX12_isTimes_0 rfl ?_
  refine i_bipush (v := 42) S dX12_isTimes_1 bp_42 ?_
  refine i_icmp_eq (tgt := 18) S dX12_isTimes_3 (by decide) (fun q1 => ?_) (fun q1 => ?_)
  · replace h := (if_pos q1).symm.trans h
    refine i_iconst (v := 1) S dX12_isTimes_18 ic_1 ?_
    refine i_goto (tgt := 23) S dX12_isTimes_19 (by decide) ?_
    subst h
    exact i_iret S0 rfl dX12_isTimes_23
  · replace h := (if_neg q1).symm.trans h
    refine i_iload_n S dX12_isTimes_6 rfl ?_
    refine i_bipush (v := 47) S dX12_isTimes_7 bp_47 ?_
    refine i_icmp_eq (tgt := 18) S dX12_isTimes_9 (by decide) (fun q2 => ?_) (fun q2 => ?_)
    · replace h := (if_pos q2).symm.trans h
      refine i_iconst (v := 1) S dX12_isTimes_18 ic_1 ?_
      refine i_goto (tgt := 23) S dX12_isTimes_19 (by decide) ?_
      subst h
      exact i_iret S0 rfl dX12_isTimes_23
    · replace h := (if_neg q2).symm.trans h
      refine i_iload_n S dX12_isTimes_12 rfl ?_
      refine i_bipush (v := 37) S dX12_isTimes_13 bp_37 ?_
      refine i_icmp_ne (tgt := 22) S dX12_isTimes_15 (by decide) (fun q3 => ?_) (fun q3 => ?_)
      · replace h := (if_neg q3).symm.trans h
        refine i_iconst (v := 0) S dX12_isTimes_22 ic_0 ?_
        subst h
        exact i_iret S0 rfl dX12_isTimes_23
      · replace h := (if_pos q3).symm.trans h
        refine i_iconst (v := 1) S dX12_isTimes_18 ic_1 ?_
        refine i_goto (tgt := 23) S dX12_isTimes_19 (by decide) ?_
        subst h
        exact i_iret S0 rfl dX12_isTimes_23
theorem b_X12_isTimes (x0 : Int32) : isB (f_X12_isTimes x0) = true := by
  unfold f_X12_isTimes
  repeat' split
  all_goals first | rfl
/-! WordYearModel.isPlus -/
noncomputable def f_X12_isPlus (x0 : Int32) : Int32 := if x0 = (43 : Int32) then ((1 : Int32)) else (if x0 = (45 : Int32) then ((1 : Int32)) else ((0 : Int32)))
set_option maxHeartbeats 4000000 in
set_option maxRecDepth 100000 in
theorem c_X12_isPlus (g : Gx) (d : Nat) {x0 : Int32} {w : Mm} {p : Int32}  (h : f_X12_isPlus x0 = p) : Call g (d + 1) yX12_isPlus cX12_isPlus 1 (some .boolean) [.int x0] w (some (.int p)) w := by
  refine call_of (L0 := [some (.int x0)]) (by decide) rfl (Nat.le_of_ble_eq_true rfl) (fun V S0 => ?_)
  have S := S0.b
  unfold f_X12_isPlus at h
  refine i_iload_n S dX12_isPlus_0 rfl ?_
  refine i_bipush (v := 43) S dX12_isPlus_1 bp_43 ?_
  refine i_icmp_eq (tgt := 12) S dX12_isPlus_3 (by decide) (fun q1 => ?_) (fun q1 => ?_)
  · replace h := (if_pos q1).symm.trans h
    refine i_iconst (v := 1) S dX12_isPlus_12 ic_1 ?_
    refine i_goto (tgt := 17) S dX12_isPlus_13 (by decide) ?_
    subst h
    exact i_iret S0 rfl dX12_isPlus_17
  · replace h := (if_neg q1).symm.trans h
    refine i_iload_n S dX12_isPlus_6 rfl ?_
    refine i_bipush (v := 45) S dX12_isPlus_7 bp_45 ?_
    refine i_icmp_ne (tgt := 16) S dX12_isPlus_9 (by decide) (fun q2 => ?_) (fun q2 => ?_)
    · replace h := (if_neg q2).symm.trans h
      refine i_iconst (v := 0) S dX12_isPlus_16 ic_0 ?_
      subst h
      exact i_iret S0 rfl dX12_isPlus_17
    · replace h := (if_pos q2).symm.trans h
      refine i_iconst (v := 1) S dX12_isPlus_12 ic_1 ?_
      refine i_goto (tgt := 17) S dX12_isPlus_13 (by decide) ?_
      subst h
      exact i_iret S0 rfl dX12_isPlus_17
theorem b_X12_isPlus (x0 : Int32) : isB (f_X12_isPlus x0) = true := by
  unfold f_X12_isPlus
  repeat' split
  all_goals first | rfl
/-! WordYearModel.isSign -/
noncomputable def f_X12_isSign (x0 : Int32) : Int32 := if x0 = (60 : Int32) then ((1 : Int32)) else (if x0 = (62 : Int32) then ((1 : Int32)) else (if x0 = (61 : Int32) then ((1 : Int32)) else ((0 : Int32))))
set_option maxHeartbeats 4000000 in
set_option maxRecDepth 100000 in
theorem c_X12_isSign (g : Gx) (d : Nat) {x0 : Int32} {w : Mm} {p : Int32}  (h : f_X12_isSign x0 = p) : Call g (d + 1) yX12_isSign cX12_isSign 1 (some .boolean) [.int x0] w (some (.int p)) w := by
  refine call_of (L0 := [some (.int x0)]) (by decide) rfl (Nat.le_of_ble_eq_true rfl) (fun V S0 => ?_)
  have S := S0.b
  unfold f_X12_isSign at h
  refine i_iload_n S dX12_isSign_0 rfl ?_
  refine i_bipush (v := 60) S dX12_isSign_1 bp_60 ?_
  refine i_icmp_eq (tgt := 18) S dX12_isSign_3 (by decide) (fun q1 => ?_) (fun q1 => ?_)
  · replace h := (if_pos q1).symm.trans h
    refine i_iconst (v := 1) S dX12_isSign_18 ic_1 ?_
    refine i_goto (tgt := 23) S dX12_isSign_19 (by decide) ?_
    subst h
    exact i_iret S0 rfl dX12_isSign_23
  · replace h := (if_neg q1).symm.trans h
    refine i_iload_n S dX12_isSign_6 rfl ?_
    refine i_bipush (v := 62) S dX12_isSign_7 bp_62 ?_
    refine i_icmp_eq (tgt := 18) S dX12_isSign_9 (by decide) (fun q2 => ?_) (fun q2 => ?_)
    · replace h := (if_pos q2).symm.trans h
      refine i_iconst (v := 1) S dX12_isSign_18 ic_1 ?_
      refine i_goto (tgt := 23) S dX12_isSign_19 (by decide) ?_
      subst h
      exact i_iret S0 rfl dX12_isSign_23
    · replace h := (if_neg q2).symm.trans h
      refine i_iload_n S dX12_isSign_12 rfl ?_
      refine i_bipush (v := 61) S dX12_isSign_13 bp_61 ?_
      refine i_icmp_ne (tgt := 22) S dX12_isSign_15 (by decide) (fun q3 => ?_) (fun q3 => ?_)
      · replace h := (if_neg q3).symm.trans h
        refine i_iconst (v := 0) S dX12_isSign_22 ic_0 ?_
        subst h
        exact i_iret S0 rfl dX12_isSign_23
      · replace h := (if_pos q3).symm.trans h
        refine i_iconst (v := 1) S dX12_isSign_18 ic_1 ?_
        refine i_goto (tgt := 23) S dX12_isSign_19 (by decide) ?_
        subst h
        exact i_iret S0 rfl dX12_isSign_23
theorem b_X12_isSign (x0 : Int32) : isB (f_X12_isSign x0) = true := by
  unfold f_X12_isSign
  repeat' split
  all_goals first | rfl
/-! WordYearModel.isValue -/
noncomputable def f_X12_isValue (x0 : Int32) : Int32 := if x0 = (119 : Int32) then ((1 : Int32)) else (if x0 = (115 : Int32) then ((1 : Int32)) else (if x0 = (98 : Int32) then ((1 : Int32)) else (if x0 = (120 : Int32) then ((1 : Int32)) else (if x0 = (121 : Int32) then ((1 : Int32)) else (if x0 = (97 : Int32) then ((1 : Int32)) else (if x0 = (99 : Int32) then ((1 : Int32)) else (if x0 = (108 : Int32) then ((1 : Int32)) else ((0 : Int32)))))))))
set_option maxHeartbeats 4000000 in
set_option maxRecDepth 100000 in
theorem c_X12_isValue (g : Gx) (d : Nat) {x0 : Int32} {w : Mm} {p : Int32}  (h : f_X12_isValue x0 = p) : Call g (d + 1) yX12_isValue cX12_isValue 1 (some .boolean) [.int x0] w (some (.int p)) w := by
  refine call_of (L0 := [some (.int x0)]) (by decide) rfl (Nat.le_of_ble_eq_true rfl) (fun V S0 => ?_)
  have S := S0.b
  unfold f_X12_isValue at h
  refine i_iload_n S dX12_isValue_0 rfl ?_
  refine i_bipush (v := 119) S dX12_isValue_1 bp_119 ?_
  refine i_icmp_eq (tgt := 48) S dX12_isValue_3 (by decide) (fun q1 => ?_) (fun q1 => ?_)
  · replace h := (if_pos q1).symm.trans h
    refine i_iconst (v := 1) S dX12_isValue_48 ic_1 ?_
    refine i_goto (tgt := 53) S dX12_isValue_49 (by decide) ?_
    subst h
    exact i_iret S0 rfl dX12_isValue_53
  · replace h := (if_neg q1).symm.trans h
    refine i_iload_n S dX12_isValue_6 rfl ?_
    refine i_bipush (v := 115) S dX12_isValue_7 bp_115 ?_
    refine i_icmp_eq (tgt := 48) S dX12_isValue_9 (by decide) (fun q2 => ?_) (fun q2 => ?_)
    · replace h := (if_pos q2).symm.trans h
      refine i_iconst (v := 1) S dX12_isValue_48 ic_1 ?_
      refine i_goto (tgt := 53) S dX12_isValue_49 (by decide) ?_
      subst h
      exact i_iret S0 rfl dX12_isValue_53
    · replace h := (if_neg q2).symm.trans h
      refine i_iload_n S dX12_isValue_12 rfl ?_
      refine i_bipush (v := 98) S dX12_isValue_13 bp_98 ?_
      refine i_icmp_eq (tgt := 48) S dX12_isValue_15 (by decide) (fun q3 => ?_) (fun q3 => ?_)
      · replace h := (if_pos q3).symm.trans h
        refine i_iconst (v := 1) S dX12_isValue_48 ic_1 ?_
        refine i_goto (tgt := 53) S dX12_isValue_49 (by decide) ?_
        subst h
        exact i_iret S0 rfl dX12_isValue_53
      · replace h := (if_neg q3).symm.trans h
        refine i_iload_n S dX12_isValue_18 rfl ?_
        refine i_bipush (v := 120) S dX12_isValue_19 bp_120 ?_
        refine i_icmp_eq (tgt := 48) S dX12_isValue_21 (by decide) (fun q4 => ?_) (fun q4 => ?_)
        · replace h := (if_pos q4).symm.trans h
          refine i_iconst (v := 1) S dX12_isValue_48 ic_1 ?_
          refine i_goto (tgt := 53) S dX12_isValue_49 (by decide) ?_
          subst h
          exact i_iret S0 rfl dX12_isValue_53
        · replace h := (if_neg q4).symm.trans h
          refine i_iload_n S dX12_isValue_24 rfl ?_
          refine i_bipush (v := 121) S dX12_isValue_25 bp_121 ?_
          refine i_icmp_eq (tgt := 48) S dX12_isValue_27 (by decide) (fun q5 => ?_) (fun q5 => ?_)
          · replace h := (if_pos q5).symm.trans h
            refine i_iconst (v := 1) S dX12_isValue_48 ic_1 ?_
            refine i_goto (tgt := 53) S dX12_isValue_49 (by decide) ?_
            subst h
            exact i_iret S0 rfl dX12_isValue_53
          · replace h := (if_neg q5).symm.trans h
            refine i_iload_n S dX12_isValue_30 rfl ?_
            refine i_bipush (v := 97) S dX12_isValue_31 bp_97 ?_
            refine i_icmp_eq (tgt := 48) S dX12_isValue_33 (by decide) (fun q6 => ?_) (fun q6 => ?_)
            · replace h := (if_pos q6).symm.trans h
              refine i_iconst (v := 1) S dX12_isValue_48 ic_1 ?_
              refine i_goto (tgt := 53) S dX12_isValue_49 (by decide) ?_
              subst h
              exact i_iret S0 rfl dX12_isValue_53
            · replace h := (if_neg q6).symm.trans h
              refine i_iload_n S dX12_isValue_36 rfl ?_
              refine i_bipush (v := 99) S dX12_isValue_37 bp_99 ?_
              refine i_icmp_eq (tgt := 48) S dX12_isValue_39 (by decide) (fun q7 => ?_) (fun q7 => ?_)
              · replace h := (if_pos q7).symm.trans h
                refine i_iconst (v := 1) S dX12_isValue_48 ic_1 ?_
                refine i_goto (tgt := 53) S dX12_isValue_49 (by decide) ?_
                subst h
                exact i_iret S0 rfl dX12_isValue_53
              · replace h := (if_neg q7).symm.trans h
                refine i_iload_n S dX12_isValue_42 rfl ?_
                refine i_bipush (v := 108) S dX12_isValue_43 bp_108 ?_
                refine i_icmp_ne (tgt := 52) S dX12_isValue_45 (by decide) (fun q8 => ?_) (fun q8 => ?_)
                · replace h := (if_neg q8).symm.trans h
                  refine i_iconst (v := 0) S dX12_isValue_52 ic_0 ?_
                  subst h
                  exact i_iret S0 rfl dX12_isValue_53
                · replace h := (if_pos q8).symm.trans h
                  refine i_iconst (v := 1) S dX12_isValue_48 ic_1 ?_
                  refine i_goto (tgt := 53) S dX12_isValue_49 (by decide) ?_
                  subst h
                  exact i_iret S0 rfl dX12_isValue_53
theorem b_X12_isValue (x0 : Int32) : isB (f_X12_isValue x0) = true := by
  unfold f_X12_isValue
  repeat' split
  all_goals first | rfl
/-! WordYearModel.sums -/
noncomputable def l_X12_sums_0 (x1 : Int32) (s : Mm) : Option ((Mm) ⊕ (Mm)) := onL s (Option.bind (f_X12_top s) (fun p2 => mg (if (f_X12_isTimes p2) = 0 then (if x1 = 0 then (some (.inr (.inr s))) else (Option.bind (f_X12_top s) (fun p9 => if (f_X12_isPlus p9) = 0 then (some (.inr (.inr s))) else (some (.inl ()))))) else (some (.inl ()))) (fun p4 => Option.bind (f_X12_top s) (fun p5 => Option.bind (f_X12_emit p5 (0 : Int32) s) (fun p6 => onL p6 (some (.inl (sI p6 47 34 ((gI p6 47 34) - (1 : Int32))))))))))
noncomputable def f_X12_sums (x1 : Int32) (w : Mm) : Option Mm := Option.bind (wh (l_X12_sums_0 x1) FUEL w) (fun p1 => some p1)
set_option maxHeartbeats 4000000 in
set_option maxRecDepth 100000 in
theorem t_l_X12_sums_0 {g : Gx} {V : Vt} {d : Nat} (S : MachB g yX12_sums cX12_sums 2 (d + 2) V) {x1 : Int32}  (s : Mm) (e : (Mm) ⊕ (Mm)) (h : l_X12_sums_0 x1 s = some e) (hC : ∀ s2, e = .inl s2 → V 0 [some (rf g 47), some (.int x1)] [] s2) (hE : ∀ x, e = .inr x → V 46 [none, none] [] x) : V 0 [some (rf g 47), some (.int x1)] [] s := by
  unfold l_X12_sums_0 at h
  refine i_aload_n S dX12_sums_0 rfl ?_
  obtain ⟨hL1, h⟩ := onLn h
  obtain ⟨p2, e2, h⟩ := bn h
  refine i_callV (As := []) (st1 := [.int p2]) S (c_X12_top g (d + 1) hL1 e2) mw_X12_top lk_X12_221 im_X12_top se_X12_top ci_12.1 ci_12.2.1 (k47 hL1) dX12_sums_1 rfl rfl (Nat.le_of_ble_eq_true rfl) rfl ?_
  refine i_callS (As := [.int p2]) (st1 := [.int (f_X12_isTimes p2)]) S (c_X12_isTimes g (d + 1) rfl) mw_X12_isTimes lk_X12_224 im_X12_isTimes dX12_sums_4 rfl rfl (Nat.le_of_ble_eq_true rfl) rfl ?_
  obtain ⟨s4, e4, hm4, ho4⟩ := mgn h
  have hj4 : ∀ p4, s4 = .inl p4 → V 24 [some (rf g 47), some (.int x1)] [] s := by
    intro p4 ep4
    have h := hm4 p4 ep4
    refine i_aload_n S dX12_sums_24 rfl ?_
    refine i_aload_n S dX12_sums_25 rfl ?_
    obtain ⟨p5, e5, h⟩ := bn h
    refine i_callV (As := []) (st1 := [.int p5, rf g 47]) S (c_X12_top g (d + 1) hL1 e5) mw_X12_top lk_X12_221 im_X12_top se_X12_top ci_12.1 ci_12.2.1 (k47 hL1) dX12_sums_26 rfl rfl (Nat.le_of_ble_eq_true rfl) rfl ?_
    refine i_iconst (v := 0) S dX12_sums_29 ic_0 ?_
    obtain ⟨p6, e6, h⟩ := bn h
    refine i_callV (As := [.int p5, .int ((0 : Int32))]) (st1 := []) S (c_X12_emit g d hL1 e6) mw_X12_emit lk_X12_230 im_X12_emit se_X12_emit ci_12.1 ci_12.2.1 (k47 hL1) dX12_sums_30 rfl rfl (Nat.le_of_ble_eq_true rfl) rfl ?_
    refine i_aload_n S dX12_sums_33 rfl ?_
    refine i_dup S dX12_sums_34 rfl ?_
    obtain ⟨hL7, h⟩ := onLn h
    refine i_getIv (v := gI p6 47 34) S fl_X12_197 (k47 hL7) rfl rfl dX12_sums_35 ?_
    refine i_iconst (v := 1) S dX12_sums_38 ic_1 ?_
    refine i_isub S dX12_sums_39 ?_
    refine i_putI S fl_X12_197 (k47 hL7) rfl rfl rfl dX12_sums_40 ?_
    refine i_goto (tgt := 0) S dX12_sums_43 (by decide) ?_
    have hz := hC _ (Option.some.inj h).symm
    exact hz
  replace h := e4
  clear e4
  refine i_if_ne (tgt := 24) S dX12_sums_7 (by decide) (fun q3 => ?_) (fun q3 => ?_)
  · replace h := (if_neg q3).symm.trans h
    have hz := hj4 _ (Option.some.inj h).symm
    exact hz
  · replace h := (if_pos q3).symm.trans h
    refine i_iload_n S dX12_sums_10 rfl ?_
    refine i_if_eq (tgt := 46) S dX12_sums_11 (by decide) (fun q8 => ?_) (fun q8 => ?_)
    · replace h := (if_pos q8).symm.trans h
      replace h := ho4 _ (Option.some.inj h).symm
      refine i_mask (L1 := [none, none]) S [false, false] rfl ?_
      have hz := hE _ (Option.some.inj h).symm
      exact hz
    · replace h := (if_neg q8).symm.trans h
      refine i_aload_n S dX12_sums_14 rfl ?_
      obtain ⟨p9, e9, h⟩ := bn h
      refine i_callV (As := []) (st1 := [.int p9]) S (c_X12_top g (d + 1) hL1 e9) mw_X12_top lk_X12_221 im_X12_top se_X12_top ci_12.1 ci_12.2.1 (k47 hL1) dX12_sums_15 rfl rfl (Nat.le_of_ble_eq_true rfl) rfl ?_
      refine i_callS (As := [.int p9]) (st1 := [.int (f_X12_isPlus p9)]) S (c_X12_isPlus g (d + 1) rfl) mw_X12_isPlus lk_X12_227 im_X12_isPlus dX12_sums_18 rfl rfl (Nat.le_of_ble_eq_true rfl) rfl ?_
      refine i_if_eq (tgt := 46) S dX12_sums_21 (by decide) (fun q10 => ?_) (fun q10 => ?_)
      · replace h := (if_pos q10).symm.trans h
        replace h := ho4 _ (Option.some.inj h).symm
        refine i_mask (L1 := [none, none]) S [false, false] rfl ?_
        have hz := hE _ (Option.some.inj h).symm
        exact hz
      · replace h := (if_neg q10).symm.trans h
        have hz := hj4 _ (Option.some.inj h).symm
        exact hz
set_option maxHeartbeats 4000000 in
set_option maxRecDepth 100000 in
theorem c_X12_sums (g : Gx) (d : Nat) {x1 : Int32} {w : Mm} {p : Mm} (hL : Lay w) (h : f_X12_sums x1 w = some p) : Call g (d + 3) yX12_sums cX12_sums 2 none [rf g 47, .int x1] w none p := by
  refine call_of (L0 := [some (rf g 47), some (.int x1)]) (by decide) rfl (Nat.le_of_ble_eq_true rfl) (fun V S0 => ?_)
  have S := S0.b
  unfold f_X12_sums at h
  obtain ⟨p1, e1, h⟩ := bn h
  have hE1 : V 46 [none, none] [] p1 := by
    cases h
    exact i_vret S0 dX12_sums_46
  exact wh_V (P := fun sv1 => V 0 [some (rf g 47), some (.int x1)] [] sv1) (E := fun xv1 => V 46 [none, none] [] xv1) (fun sv1 ev hb hc he => t_l_X12_sums_0   S  sv1 ev hb hc he) FUEL _ _ e1 hE1
/-! WordYearModel.joins -/
noncomputable def l_X12_joins_0 (x1 : Int32) (s : Mm) : Option ((Mm) ⊕ (Mm)) := onL s (Option.bind (f_X12_top s) (fun p2 => mg (if p2 = (38 : Int32) then (some (.inl ())) else (if x1 = 0 then (some (.inr (.inr s))) else (Option.bind (f_X12_top s) (fun p9 => if p9 = (124 : Int32) then (some (.inl ())) else (some (.inr (.inr s))))))) (fun p4 => Option.bind (f_X12_top s) (fun p5 => Option.bind (f_X12_emit p5 (0 : Int32) s) (fun p6 => onL p6 (some (.inl (sI p6 47 34 ((gI p6 47 34) - (1 : Int32))))))))))
noncomputable def f_X12_joins (x1 : Int32) (w : Mm) : Option Mm := Option.bind (wh (l_X12_joins_0 x1) FUEL w) (fun p1 => some p1)
set_option maxHeartbeats 4000000 in
set_option maxRecDepth 100000 in
theorem t_l_X12_joins_0 {g : Gx} {V : Vt} {d : Nat} (S : MachB g yX12_joins cX12_joins 2 (d + 2) V) {x1 : Int32}  (s : Mm) (e : (Mm) ⊕ (Mm)) (h : l_X12_joins_0 x1 s = some e) (hC : ∀ s2, e = .inl s2 → V 0 [some (rf g 47), some (.int x1)] [] s2) (hE : ∀ x, e = .inr x → V 44 [none, none] [] x) : V 0 [some (rf g 47), some (.int x1)] [] s := by
  unfold l_X12_joins_0 at h
  refine i_aload_n S dX12_joins_0 rfl ?_
  obtain ⟨hL1, h⟩ := onLn h
  obtain ⟨p2, e2, h⟩ := bn h
  refine i_callV (As := []) (st1 := [.int p2]) S (c_X12_top g (d + 1) hL1 e2) mw_X12_top lk_X12_221 im_X12_top se_X12_top ci_12.1 ci_12.2.1 (k47 hL1) dX12_joins_1 rfl rfl (Nat.le_of_ble_eq_true rfl) rfl ?_
  refine i_bipush (v := 38) S dX12_joins_4 bp_38 ?_
  obtain ⟨s4, e4, hm4, ho4⟩ := mgn h
  have hj4 : ∀ p4, s4 = .inl p4 → V 22 [some (rf g 47), some (.int x1)] [] s := by
    intro p4 ep4
    have h := hm4 p4 ep4
    refine i_aload_n S dX12_joins_22 rfl ?_
    refine i_aload_n S dX12_joins_23 rfl ?_
    obtain ⟨p5, e5, h⟩ := bn h
    refine i_callV (As := []) (st1 := [.int p5, rf g 47]) S (c_X12_top g (d + 1) hL1 e5) mw_X12_top lk_X12_221 im_X12_top se_X12_top ci_12.1 ci_12.2.1 (k47 hL1) dX12_joins_24 rfl rfl (Nat.le_of_ble_eq_true rfl) rfl ?_
    refine i_iconst (v := 0) S dX12_joins_27 ic_0 ?_
    obtain ⟨p6, e6, h⟩ := bn h
    refine i_callV (As := [.int p5, .int ((0 : Int32))]) (st1 := []) S (c_X12_emit g d hL1 e6) mw_X12_emit lk_X12_230 im_X12_emit se_X12_emit ci_12.1 ci_12.2.1 (k47 hL1) dX12_joins_28 rfl rfl (Nat.le_of_ble_eq_true rfl) rfl ?_
    refine i_aload_n S dX12_joins_31 rfl ?_
    refine i_dup S dX12_joins_32 rfl ?_
    obtain ⟨hL7, h⟩ := onLn h
    refine i_getIv (v := gI p6 47 34) S fl_X12_197 (k47 hL7) rfl rfl dX12_joins_33 ?_
    refine i_iconst (v := 1) S dX12_joins_36 ic_1 ?_
    refine i_isub S dX12_joins_37 ?_
    refine i_putI S fl_X12_197 (k47 hL7) rfl rfl rfl dX12_joins_38 ?_
    refine i_goto (tgt := 0) S dX12_joins_41 (by decide) ?_
    have hz := hC _ (Option.some.inj h).symm
    exact hz
  replace h := e4
  clear e4
  refine i_icmp_eq (tgt := 22) S dX12_joins_6 (by decide) (fun q3 => ?_) (fun q3 => ?_)
  · replace h := (if_pos q3).symm.trans h
    have hz := hj4 _ (Option.some.inj h).symm
    exact hz
  · replace h := (if_neg q3).symm.trans h
    refine i_iload_n S dX12_joins_9 rfl ?_
    refine i_if_eq (tgt := 44) S dX12_joins_10 (by decide) (fun q8 => ?_) (fun q8 => ?_)
    · replace h := (if_pos q8).symm.trans h
      replace h := ho4 _ (Option.some.inj h).symm
      refine i_mask (L1 := [none, none]) S [false, false] rfl ?_
      have hz := hE _ (Option.some.inj h).symm
      exact hz
    · replace h := (if_neg q8).symm.trans h
      refine i_aload_n S dX12_joins_13 rfl ?_
      obtain ⟨p9, e9, h⟩ := bn h
      refine i_callV (As := []) (st1 := [.int p9]) S (c_X12_top g (d + 1) hL1 e9) mw_X12_top lk_X12_221 im_X12_top se_X12_top ci_12.1 ci_12.2.1 (k47 hL1) dX12_joins_14 rfl rfl (Nat.le_of_ble_eq_true rfl) rfl ?_
      refine i_bipush (v := 124) S dX12_joins_17 bp_124 ?_
      refine i_icmp_ne (tgt := 44) S dX12_joins_19 (by decide) (fun q10 => ?_) (fun q10 => ?_)
      · replace h := (if_neg q10).symm.trans h
        replace h := ho4 _ (Option.some.inj h).symm
        refine i_mask (L1 := [none, none]) S [false, false] rfl ?_
        have hz := hE _ (Option.some.inj h).symm
        exact hz
      · replace h := (if_pos q10).symm.trans h
        have hz := hj4 _ (Option.some.inj h).symm
        exact hz
set_option maxHeartbeats 4000000 in
set_option maxRecDepth 100000 in
theorem c_X12_joins (g : Gx) (d : Nat) {x1 : Int32} {w : Mm} {p : Mm} (hL : Lay w) (h : f_X12_joins x1 w = some p) : Call g (d + 3) yX12_joins cX12_joins 2 none [rf g 47, .int x1] w none p := by
  refine call_of (L0 := [some (rf g 47), some (.int x1)]) (by decide) rfl (Nat.le_of_ble_eq_true rfl) (fun V S0 => ?_)
  have S := S0.b
  unfold f_X12_joins at h
  obtain ⟨p1, e1, h⟩ := bn h
  have hE1 : V 44 [none, none] [] p1 := by
    cases h
    exact i_vret S0 dX12_joins_44
  exact wh_V (P := fun sv1 => V 0 [some (rf g 47), some (.int x1)] [] sv1) (E := fun xv1 => V 44 [none, none] [] xv1) (fun sv1 ev hb hc he => t_l_X12_joins_0   S  sv1 ev hb hc he) FUEL _ _ e1 hE1
/-! WordYearModel.ends -/
noncomputable def l_X12_ends_0  (s : Mm) : Option ((Mm) ⊕ (Mm)) := onL s (Option.bind (f_X12_top s) (fun p2 => if p2 = (33 : Int32) then (Option.bind (f_X12_emit (2 : Int32) (0 : Int32) s) (fun p4 => onL p4 (some (.inl (sI (sI p4 47 34 ((gI p4 47 34) - (1 : Int32))) 47 33 ((gI p4 47 33) - (1 : Int32))))))) else (some (.inr s))))
noncomputable def f_X12_ends  (w : Mm) : Option Mm := Option.bind (wh l_X12_ends_0 FUEL w) (fun p1 => some p1)
set_option maxHeartbeats 4000000 in
set_option maxRecDepth 100000 in
theorem t_l_X12_ends_0 {g : Gx} {V : Vt} {d : Nat} (S : MachB g yX12_ends cX12_ends 1 (d + 2) V)   (s : Mm) (e : (Mm) ⊕ (Mm)) (h : l_X12_ends_0  s = some e) (hC : ∀ s2, e = .inl s2 → V 0 [some (rf g 47)] [] s2) (hE : ∀ x, e = .inr x → V 38 [none] [] x) : V 0 [some (rf g 47)] [] s := by
  unfold l_X12_ends_0 at h
  refine i_aload_n S dX12_ends_0 rfl ?_
  obtain ⟨hL1, h⟩ := onLn h
  obtain ⟨p2, e2, h⟩ := bn h
  refine i_callV (As := []) (st1 := [.int p2]) S (c_X12_top g (d + 1) hL1 e2) mw_X12_top lk_X12_221 im_X12_top se_X12_top ci_12.1 ci_12.2.1 (k47 hL1) dX12_ends_1 rfl rfl (Nat.le_of_ble_eq_true rfl) rfl ?_
  refine i_bipush (v := 33) S dX12_ends_4 bp_33 ?_
  refine i_icmp_ne (tgt := 38) S dX12_ends_6 (by decide) (fun q3 => ?_) (fun q3 => ?_)
  · replace h := (if_neg q3).symm.trans h
    refine i_mask (L1 := [none]) S [false] rfl ?_
    have hz := hE _ (Option.some.inj h).symm
    exact hz
  · replace h := (if_pos q3).symm.trans h
    refine i_aload_n S dX12_ends_9 rfl ?_
    refine i_iconst (v := 2) S dX12_ends_10 ic_2 ?_
    refine i_iconst (v := 0) S dX12_ends_11 ic_0 ?_
    obtain ⟨p4, e4, h⟩ := bn h
    refine i_callV (As := [.int ((2 : Int32)), .int ((0 : Int32))]) (st1 := []) S (c_X12_emit g d hL1 e4) mw_X12_emit lk_X12_230 im_X12_emit se_X12_emit ci_12.1 ci_12.2.1 (k47 hL1) dX12_ends_12 rfl rfl (Nat.le_of_ble_eq_true rfl) rfl ?_
    refine i_aload_n S dX12_ends_15 rfl ?_
    refine i_dup S dX12_ends_16 rfl ?_
    obtain ⟨hL5, h⟩ := onLn h
    refine i_getIv (v := gI p4 47 34) S fl_X12_197 (k47 hL5) rfl rfl dX12_ends_17 ?_
    refine i_iconst (v := 1) S dX12_ends_20 ic_1 ?_
    refine i_isub S dX12_ends_21 ?_
    refine i_putI S fl_X12_197 (k47 hL5) rfl rfl rfl dX12_ends_22 ?_
    refine i_aload_n S dX12_ends_25 rfl ?_
    refine i_dup S dX12_ends_26 rfl ?_
    refine i_getIv (v := gI p4 47 33) S fl_X12_200 (k47 hL5) rfl rfl dX12_ends_27 ?_
    refine i_iconst (v := 1) S dX12_ends_30 ic_1 ?_
    refine i_isub S dX12_ends_31 ?_
    refine i_putI S fl_X12_200 (k47 hL5) rfl rfl rfl dX12_ends_32 ?_
    refine i_goto (tgt := 0) S dX12_ends_35 (by decide) ?_
    have hz := hC _ (Option.some.inj h).symm
    exact hz
set_option maxHeartbeats 4000000 in
set_option maxRecDepth 100000 in
theorem c_X12_ends (g : Gx) (d : Nat)  {w : Mm} {p : Mm} (hL : Lay w) (h : f_X12_ends w = some p) : Call g (d + 3) yX12_ends cX12_ends 1 none [rf g 47] w none p := by
  refine call_of (L0 := [some (rf g 47)]) (by decide) rfl (Nat.le_of_ble_eq_true rfl) (fun V S0 => ?_)
  have S := S0.b
  unfold f_X12_ends at h
  obtain ⟨p1, e1, h⟩ := bn h
  have hE1 : V 38 [none] [] p1 := by
    cases h
    exact i_vret S0 dX12_ends_38
  exact wh_V (P := fun sv1 => V 0 [some (rf g 47)] [] sv1) (E := fun xv1 => V 38 [none] [] xv1) (fun sv1 ev hb hc he => t_l_X12_ends_0   S  sv1 ev hb hc he) FUEL _ _ e1 hE1
/-! WordYearModel.factor -/
noncomputable def l_X12_factor_0  (s : Mm) : Option ((Mm) ⊕ (Mm)) := onL s (Option.bind (f_X12_isGood s) (fun p2 => if p2 = 0 then (some (.inr s)) else (Option.bind (f_X12_here s) (fun p4 => if p4 = (91 : Int32) then (Option.bind (f_X12_opens s) (fun p6 => some (.inl p6))) else (some (.inr s))))))
noncomputable def f_X12_factor  (w : Mm) : Option Mm := Option.bind (wh l_X12_factor_0 FUEL w) (fun p1 => onL p1 (Option.bind (f_X12_isGood p1) (fun p3 => if p3 = 0 then (some p1) else (Option.bind (f_X12_seesDigit p1) (fun p5 => if p5 = 0 then (Option.bind (f_X12_here p1) (fun p7 => if (f_X12_isValue p7) = 0 then (Option.bind (f_X12_wrongs (1 : Int32) (gI p1 47 28) p1) (fun p9 => some p9)) else (Option.bind (f_X12_here p1) (fun p10 => Option.bind (f_X12_emit (1 : Int32) p10 p1) (fun p11 => onL p11 (some (sI p11 47 28 ((gI p11 47 28) + (1 : Int32))))))))) else (Option.bind (f_X12_reads p1) (fun p13 => onL p13.2 (Option.bind (f_X12_emit (0 : Int32) p13.1 p13.2) (fun p15 => some p15)))))))))
set_option maxHeartbeats 4000000 in
set_option maxRecDepth 100000 in
theorem t_l_X12_factor_0 {g : Gx} {V : Vt} {d : Nat} (S : MachB g yX12_factor cX12_factor 1 (d + 3) V)   (s : Mm) (e : (Mm) ⊕ (Mm)) (h : l_X12_factor_0  s = some e) (hC : ∀ s2, e = .inl s2 → V 0 [some (rf g 47)] [] s2) (hE : ∀ x, e = .inr x → V 23 [some (rf g 47)] [] x) : V 0 [some (rf g 47)] [] s := by
  unfold l_X12_factor_0 at h
  refine i_aload_n S dX12_factor_0 rfl ?_
  obtain ⟨hL1, h⟩ := onLn h
  obtain ⟨p2, e2, h⟩ := bn h
  refine i_callV (As := []) (st1 := [.int p2]) S (c_X12_isGood g (d + 2) hL1 e2) mw_X12_isGood lk_X12_190 im_X12_isGood se_X12_isGood ci_12.1 ci_12.2.1 (k47 hL1) dX12_factor_1 rfl rfl (Nat.le_of_ble_eq_true rfl) rfl ?_
  refine i_if_eq (tgt := 23) S dX12_factor_4 (by decide) (fun q3 => ?_) (fun q3 => ?_)
  · replace h := (if_pos q3).symm.trans h
    have hz := hE _ (Option.some.inj h).symm
    exact hz
  · replace h := (if_neg q3).symm.trans h
    refine i_aload_n S dX12_factor_7 rfl ?_
    obtain ⟨p4, e4, h⟩ := bn h
    refine i_callV (As := []) (st1 := [.int p4]) S (c_X12_here g (d + 2) hL1 e4) mw_X12_here lk_X12_207 im_X12_here se_X12_here ci_12.1 ci_12.2.1 (k47 hL1) dX12_factor_8 rfl rfl (Nat.le_of_ble_eq_true rfl) rfl ?_
    refine i_bipush (v := 91) S dX12_factor_11 bp_91 ?_
    refine i_icmp_ne (tgt := 23) S dX12_factor_13 (by decide) (fun q5 => ?_) (fun q5 => ?_)
    · replace h := (if_neg q5).symm.trans h
      have hz := hE _ (Option.some.inj h).symm
      exact hz
    · replace h := (if_pos q5).symm.trans h
      refine i_aload_n S dX12_factor_16 rfl ?_
      obtain ⟨p6, e6, h⟩ := bn h
      refine i_callV (As := []) (st1 := []) S (c_X12_opens g (d + 1) hL1 e6) mw_X12_opens lk_X12_233 im_X12_opens se_X12_opens ci_12.1 ci_12.2.1 (k47 hL1) dX12_factor_17 rfl rfl (Nat.le_of_ble_eq_true rfl) rfl ?_
      refine i_goto (tgt := 0) S dX12_factor_20 (by decide) ?_
      have hz := hC _ (Option.some.inj h).symm
      exact hz
set_option maxHeartbeats 4000000 in
set_option maxRecDepth 100000 in
theorem c_X12_factor (g : Gx) (d : Nat)  {w : Mm} {p : Mm} (hL : Lay w) (h : f_X12_factor w = some p) : Call g (d + 4) yX12_factor cX12_factor 1 none [rf g 47] w none p := by
  refine call_of (L0 := [some (rf g 47)]) (by decide) rfl (Nat.le_of_ble_eq_true rfl) (fun V S0 => ?_)
  have S := S0.b
  unfold f_X12_factor at h
  obtain ⟨p1, e1, h⟩ := bn h
  have hE1 : V 23 [some (rf g 47)] [] p1 := by
    refine i_aload_n S dX12_factor_23 rfl ?_
    obtain ⟨hL2, h⟩ := onLn h
    obtain ⟨p3, e3, h⟩ := bn h
    refine i_callV (As := []) (st1 := [.int p3]) S (c_X12_isGood g (d + 2) hL2 e3) mw_X12_isGood lk_X12_190 im_X12_isGood se_X12_isGood ci_12.1 ci_12.2.1 (k47 hL2) dX12_factor_24 rfl rfl (Nat.le_of_ble_eq_true rfl) rfl ?_
    refine i_if_ne (tgt := 31) S dX12_factor_27 (by decide) (fun q4 => ?_) (fun q4 => ?_)
    · replace h := (if_neg q4).symm.trans h
      refine i_aload_n S dX12_factor_31 rfl ?_
      obtain ⟨p5, e5, h⟩ := bn h
      refine i_callV (As := []) (st1 := [.int p5]) S (c_X12_seesDigit g (d + 1) hL2 e5) mw_X12_seesDigit lk_X12_218 im_X12_seesDigit se_X12_seesDigit ci_12.1 ci_12.2.1 (k47 hL2) dX12_factor_32 rfl rfl (Nat.le_of_ble_eq_true rfl) rfl ?_
      refine i_if_eq (tgt := 50) S dX12_factor_35 (by decide) (fun q6 => ?_) (fun q6 => ?_)
      · replace h := (if_pos q6).symm.trans h
        refine i_aload_n S dX12_factor_50 rfl ?_
        obtain ⟨p7, e7, h⟩ := bn h
        refine i_callV (As := []) (st1 := [.int p7]) S (c_X12_here g (d + 2) hL2 e7) mw_X12_here lk_X12_207 im_X12_here se_X12_here ci_12.1 ci_12.2.1 (k47 hL2) dX12_factor_51 rfl rfl (Nat.le_of_ble_eq_true rfl) rfl ?_
        refine i_callS (As := [.int p7]) (st1 := [.int (f_X12_isValue p7)]) S (c_X12_isValue g (d + 2) rfl) mw_X12_isValue lk_X12_239 im_X12_isValue dX12_factor_54 rfl rfl (Nat.le_of_ble_eq_true rfl) rfl ?_
        refine i_if_eq (tgt := 82) S dX12_factor_57 (by decide) (fun q8 => ?_) (fun q8 => ?_)
        · replace h := (if_pos q8).symm.trans h
          refine i_aload_n S dX12_factor_82 rfl ?_
          refine i_iconst (v := 1) S dX12_factor_83 ic_1 ?_
          refine i_aload_n S dX12_factor_84 rfl ?_
          refine i_getIv (v := gI p1 47 28) S fl_X12_181 (k47 hL2) rfl rfl dX12_factor_85 ?_
          obtain ⟨p9, e9, h⟩ := bn h
          refine i_callV (As := [.int ((1 : Int32)), .int (gI p1 47 28)]) (st1 := []) S (c_X12_wrongs g (d + 2) hL2 e9) mw_X12_wrongs lk_X12_203 im_X12_wrongs se_X12_wrongs ci_12.1 ci_12.2.1 (k47 hL2) dX12_factor_88 rfl rfl (Nat.le_of_ble_eq_true rfl) rfl ?_
          cases h
          exact i_vret S0 dX12_factor_91
        · replace h := (if_neg q8).symm.trans h
          refine i_aload_n S dX12_factor_60 rfl ?_
          refine i_iconst (v := 1) S dX12_factor_61 ic_1 ?_
          refine i_aload_n S dX12_factor_62 rfl ?_
          obtain ⟨p10, e10, h⟩ := bn h
          refine i_callV (As := []) (st1 := [.int p10, .int ((1 : Int32)), rf g 47]) S (c_X12_here g (d + 2) hL2 e10) mw_X12_here lk_X12_207 im_X12_here se_X12_here ci_12.1 ci_12.2.1 (k47 hL2) dX12_factor_63 rfl rfl (Nat.le_of_ble_eq_true rfl) rfl ?_
          obtain ⟨p11, e11, h⟩ := bn h
          refine i_callV (As := [.int ((1 : Int32)), .int p10]) (st1 := []) S (c_X12_emit g (d + 1) hL2 e11) mw_X12_emit lk_X12_230 im_X12_emit se_X12_emit ci_12.1 ci_12.2.1 (k47 hL2) dX12_factor_66 rfl rfl (Nat.le_of_ble_eq_true rfl) rfl ?_
          refine i_aload_n S dX12_factor_69 rfl ?_
          refine i_dup S dX12_factor_70 rfl ?_
          obtain ⟨hL12, h⟩ := onLn h
          refine i_getIv (v := gI p11 47 28) S fl_X12_181 (k47 hL12) rfl rfl dX12_factor_71 ?_
          refine i_iconst (v := 1) S dX12_factor_74 ic_1 ?_
          refine i_iadd S dX12_factor_75 ?_
          refine i_putI S fl_X12_181 (k47 hL12) rfl rfl rfl dX12_factor_76 ?_
          refine i_goto (tgt := 91) S dX12_factor_79 (by decide) ?_
          cases h
          exact i_vret S0 dX12_factor_91
      · replace h := (if_neg q6).symm.trans h
        refine i_aload_n S dX12_factor_38 rfl ?_
        refine i_iconst (v := 0) S dX12_factor_39 ic_0 ?_
        refine i_aload_n S dX12_factor_40 rfl ?_
        obtain ⟨p13, e13, h⟩ := bn h
        refine i_callV (As := []) (st1 := [.int p13.1, .int ((0 : Int32)), rf g 47]) S (c_X12_reads g d hL2 e13) mw_X12_reads lk_X12_236 im_X12_reads se_X12_reads ci_12.1 ci_12.2.1 (k47 hL2) dX12_factor_41 rfl rfl (Nat.le_of_ble_eq_true rfl) rfl ?_
        obtain ⟨hL14, h⟩ := onLn h
        obtain ⟨p15, e15, h⟩ := bn h
        refine i_callV (As := [.int ((0 : Int32)), .int p13.1]) (st1 := []) S (c_X12_emit g (d + 1) hL14 e15) mw_X12_emit lk_X12_230 im_X12_emit se_X12_emit ci_12.1 ci_12.2.1 (k47 hL14) dX12_factor_44 rfl rfl (Nat.le_of_ble_eq_true rfl) rfl ?_
        refine i_goto (tgt := 91) S dX12_factor_47 (by decide) ?_
        cases h
        exact i_vret S0 dX12_factor_91
    · replace h := (if_pos q4).symm.trans h
      cases h
      exact i_vret S0 dX12_factor_30
  exact wh_V (P := fun sv1 => V 0 [some (rf g 47)] [] sv1) (E := fun xv1 => V 23 [some (rf g 47)] [] xv1) (fun sv1 ev hb hc he => t_l_X12_factor_0   S  sv1 ev hb hc he) FUEL _ _ e1 hE1
/-! WordYearModel.stays -/
noncomputable def f_X12_stays  (w : Mm) : Option (Int32 × Mm) := Option.bind (f_X12_here w) (fun p1 => mg (if (f_X12_isTimes p1) = 0 then (if (f_X12_isPlus p1) = 0 then (Option.bind (f_X12_sums (1 : Int32) w) (fun p8 => if p1 = (93 : Int32) then (onL p8 (Option.bind (f_X12_top p8) (fun p11 => if p11 = (91 : Int32) then (some (.inr ((1 : Int32), sI (sI (sI (sI p8 47 34 ((gI p8 47 34) - (1 : Int32))) 47 33 ((gI p8 47 33) - (1 : Int32))) 47 28 ((gI p8 47 28) + (1 : Int32))) 47 36 (1 : Int32)))) else (Option.bind (f_X12_wrongs (1 : Int32) (gI p8 47 28) p8) (fun p13 => some (.inr ((0 : Int32), p13))))))) else (some (.inr ((0 : Int32), p8))))) else (some (.inl ()))) else (some (.inl ()))) (fun p3 => Option.bind (f_X12_sums (f_X12_isPlus p1) w) (fun p4 => onL p4 (Option.bind (f_X12_puts p1 p4) (fun p6 => some ((1 : Int32), p6))))))
set_option maxHeartbeats 4000000 in
set_option maxRecDepth 100000 in
theorem c_X12_stays (g : Gx) (d : Nat)  {w : Mm} {p : (Int32 × Mm)} (hL : Lay w) (h : f_X12_stays w = some p) : Call g (d + 4) yX12_stays cX12_stays 2 (some .boolean) [rf g 47] w (some (.int p.1)) p.2 := by
  refine call_of (L0 := [some (rf g 47), none]) (by decide) rfl (Nat.le_of_ble_eq_true rfl) (fun V S0 => ?_)
  have S := S0.b
  unfold f_X12_stays at h
  refine i_aload_n S dX12_stays_0 rfl ?_
  obtain ⟨p1, e1, h⟩ := bn h
  refine i_callV (As := []) (st1 := [.int p1]) S (c_X12_here g (d + 2) hL e1) mw_X12_here lk_X12_207 im_X12_here se_X12_here ci_12.1 ci_12.2.1 (k47 hL) dX12_stays_1 rfl rfl (Nat.le_of_ble_eq_true rfl) rfl ?_
  refine i_istore_n (L1 := [some (rf g 47), some (.int p1)]) S dX12_stays_4 (by decide) rfl ?_
  refine i_iload_n S dX12_stays_5 rfl ?_
  refine i_callS (As := [.int p1]) (st1 := [.int (f_X12_isTimes p1)]) S (c_X12_isTimes g (d + 2) rfl) mw_X12_isTimes lk_X12_224 im_X12_isTimes dX12_stays_6 rfl rfl (Nat.le_of_ble_eq_true rfl) rfl ?_
  obtain ⟨s3, e3, hm3, ho3⟩ := mgn h
  have hj3 : ∀ p3, s3 = .inl p3 → V 19 [some (rf g 47), some (.int p1)] [] w := by
    intro p3 ep3
    have h := hm3 p3 ep3
    refine i_aload_n S dX12_stays_19 rfl ?_
    refine i_iload_n S dX12_stays_20 rfl ?_
    refine i_callS (As := [.int p1]) (st1 := [.int (f_X12_isPlus p1), rf g 47]) S (c_X12_isPlus g (d + 2) rfl) mw_X12_isPlus lk_X12_227 im_X12_isPlus dX12_stays_21 rfl rfl (Nat.le_of_ble_eq_true rfl) rfl ?_
    obtain ⟨p4, e4, h⟩ := bn h
    refine i_callV (As := [.int (f_X12_isPlus p1)]) (st1 := []) S (c_X12_sums g d hL e4) mw_X12_sums lk_X12_242 im_X12_sums se_X12_sums ci_12.1 ci_12.2.1 (k47 hL) dX12_stays_24 rfl rfl (Nat.le_of_ble_eq_true rfl) rfl ?_
    refine i_aload_n S dX12_stays_27 rfl ?_
    refine i_iload_n S dX12_stays_28 rfl ?_
    obtain ⟨hL5, h⟩ := onLn h
    obtain ⟨p6, e6, h⟩ := bn h
    refine i_callV (As := [.int p1]) (st1 := []) S (c_X12_puts g (d + 2) hL5 e6) mw_X12_puts lk_X12_211 im_X12_puts se_X12_puts ci_12.1 ci_12.2.1 (k47 hL5) dX12_stays_29 rfl rfl (Nat.le_of_ble_eq_true rfl) rfl ?_
    refine i_iconst (v := 1) S dX12_stays_32 ic_1 ?_
    cases h
    exact i_iret S0 rfl dX12_stays_33
  replace h := e3
  clear e3
  refine i_if_ne (tgt := 19) S dX12_stays_9 (by decide) (fun q2 => ?_) (fun q2 => ?_)
  · replace h := (if_neg q2).symm.trans h
    have hz := hj3 _ (Option.some.inj h).symm
    exact hz
  · replace h := (if_pos q2).symm.trans h
    refine i_iload_n S dX12_stays_12 rfl ?_
    refine i_callS (As := [.int p1]) (st1 := [.int (f_X12_isPlus p1)]) S (c_X12_isPlus g (d + 2) rfl) mw_X12_isPlus lk_X12_227 im_X12_isPlus dX12_stays_13 rfl rfl (Nat.le_of_ble_eq_true rfl) rfl ?_
    refine i_if_eq (tgt := 34) S dX12_stays_16 (by decide) (fun q7 => ?_) (fun q7 => ?_)
    · replace h := (if_pos q7).symm.trans h
      refine i_aload_n S dX12_stays_34 rfl ?_
      refine i_iconst (v := 1) S dX12_stays_35 ic_1 ?_
      obtain ⟨p8, e8, h⟩ := bn h
      refine i_callV (As := [.int ((1 : Int32))]) (st1 := []) S (c_X12_sums g d hL e8) mw_X12_sums lk_X12_242 im_X12_sums se_X12_sums ci_12.1 ci_12.2.1 (k47 hL) dX12_stays_36 rfl rfl (Nat.le_of_ble_eq_true rfl) rfl ?_
      refine i_iload_n S dX12_stays_39 rfl ?_
      refine i_bipush (v := 93) S dX12_stays_40 bp_93 ?_
      refine i_icmp_eq (tgt := 47) S dX12_stays_42 (by decide) (fun q9 => ?_) (fun q9 => ?_)
      · replace h := (if_pos q9).symm.trans h
        refine i_aload_n S dX12_stays_47 rfl ?_
        obtain ⟨hL10, h⟩ := onLn h
        obtain ⟨p11, e11, h⟩ := bn h
        refine i_callV (As := []) (st1 := [.int p11]) S (c_X12_top g (d + 2) hL10 e11) mw_X12_top lk_X12_221 im_X12_top se_X12_top ci_12.1 ci_12.2.1 (k47 hL10) dX12_stays_48 rfl rfl (Nat.le_of_ble_eq_true rfl) rfl ?_
        refine i_bipush (v := 91) S dX12_stays_51 bp_91 ?_
        refine i_icmp_eq (tgt := 67) S dX12_stays_53 (by decide) (fun q12 => ?_) (fun q12 => ?_)
        · replace h := (if_pos q12).symm.trans h
          refine i_aload_n S dX12_stays_67 rfl ?_
          refine i_dup S dX12_stays_68 rfl ?_
          refine i_getIv (v := gI p8 47 34) S fl_X12_197 (k47 hL10) rfl rfl dX12_stays_69 ?_
          refine i_iconst (v := 1) S dX12_stays_72 ic_1 ?_
          refine i_isub S dX12_stays_73 ?_
          refine i_putI S fl_X12_197 (k47 hL10) rfl rfl rfl dX12_stays_74 ?_
          refine i_aload_n S dX12_stays_77 rfl ?_
          refine i_dup S dX12_stays_78 rfl ?_
          refine i_getIv (v := gI p8 47 33) S fl_X12_200 (k47 hL10) rfl rfl dX12_stays_79 ?_
          refine i_iconst (v := 1) S dX12_stays_82 ic_1 ?_
          refine i_isub S dX12_stays_83 ?_
          refine i_putI S fl_X12_200 (k47 hL10) rfl rfl rfl dX12_stays_84 ?_
          refine i_aload_n S dX12_stays_87 rfl ?_
          refine i_dup S dX12_stays_88 rfl ?_
          refine i_getIv (v := gI p8 47 28) S fl_X12_181 (k47 hL10) rfl rfl dX12_stays_89 ?_
          refine i_iconst (v := 1) S dX12_stays_92 ic_1 ?_
          refine i_iadd S dX12_stays_93 ?_
          refine i_putI S fl_X12_181 (k47 hL10) rfl rfl rfl dX12_stays_94 ?_
          refine i_aload_n S dX12_stays_97 rfl ?_
          refine i_iconst (v := 1) S dX12_stays_98 ic_1 ?_
          refine i_putI S fl_X12_246 (k47 hL10) rfl rfl rfl dX12_stays_99 ?_
          refine i_iconst (v := 1) S dX12_stays_102 ic_1 ?_
          replace h := ho3 _ (Option.some.inj h).symm
          cases h
          exact i_iret S0 rfl dX12_stays_103
        · replace h := (if_neg q12).symm.trans h
          refine i_aload_n S dX12_stays_56 rfl ?_
          refine i_iconst (v := 1) S dX12_stays_57 ic_1 ?_
          refine i_aload_n S dX12_stays_58 rfl ?_
          refine i_getIv (v := gI p8 47 28) S fl_X12_181 (k47 hL10) rfl rfl dX12_stays_59 ?_
          obtain ⟨p13, e13, h⟩ := bn h
          refine i_callV (As := [.int ((1 : Int32)), .int (gI p8 47 28)]) (st1 := []) S (c_X12_wrongs g (d + 2) hL10 e13) mw_X12_wrongs lk_X12_203 im_X12_wrongs se_X12_wrongs ci_12.1 ci_12.2.1 (k47 hL10) dX12_stays_62 rfl rfl (Nat.le_of_ble_eq_true rfl) rfl ?_
          refine i_iconst (v := 0) S dX12_stays_65 ic_0 ?_
          replace h := ho3 _ (Option.some.inj h).symm
          cases h
          exact i_iret S0 rfl dX12_stays_66
      · replace h := (if_neg q9).symm.trans h
        refine i_iconst (v := 0) S dX12_stays_45 ic_0 ?_
        replace h := ho3 _ (Option.some.inj h).symm
        cases h
        exact i_iret S0 rfl dX12_stays_46
    · replace h := (if_neg q7).symm.trans h
      have hz := hj3 _ (Option.some.inj h).symm
      exact hz
/-! WordYearModel.value -/
noncomputable def l_X12_value_7  (s : Int32 × Mm) : Option ((Int32 × Mm) ⊕ (Mm)) := if s.1 = 0 then (some (.inr s.2)) else (onL s.2 (Option.bind (f_X12_isGood s.2) (fun p3 => if p3 = 0 then (some (.inr s.2)) else (Option.bind (if (gI s.2 47 36) = 0 then (Option.bind (f_X12_factor s.2) (fun p14 => some p14)) else (some s.2)) (fun p6 => onL p6 (Option.bind (f_X12_isGood (sI p6 47 36 (0 : Int32))) (fun p8 => Option.bind (mg (if p8 = 0 then (some (.inl (sI p6 47 36 (0 : Int32)))) else (Option.bind (f_X12_stays (sI p6 47 36 (0 : Int32))) (fun p12 => if p12.1 = 0 then (some (.inl p12.2)) else (some (.inr ((1 : Int32), p12.2)))))) (fun p11 => some ((0 : Int32), p11))) (fun p10 => some (.inl (p10.1, p10.2))))))))))
noncomputable def f_X12_value  (w : Mm) : Option Mm := Option.bind (wh l_X12_value_7 FUEL ((1 : Int32), sI w 47 36 (0 : Int32))) (fun p1 => onL p1 (Option.bind (f_X12_isGood p1) (fun p3 => if p3 = 0 then (some p1) else (Option.bind (f_X12_top p1) (fun p5 => if p5 = (91 : Int32) then (Option.bind (f_X12_wrongs (1 : Int32) (gI p1 47 28) p1) (fun p7 => some p7)) else (some p1))))))
set_option maxHeartbeats 4000000 in
set_option maxRecDepth 100000 in
theorem t_l_X12_value_7 {g : Gx} {V : Vt} {d : Nat} (S : MachB g yX12_value cX12_value 2 (d + 4) V)   (s : Int32 × Mm) (e : (Int32 × Mm) ⊕ (Mm)) (h : l_X12_value_7  s = some e) (hC : ∀ s2, e = .inl s2 → V 7 [some (rf g 47), some (.int s2.1)] [] s2.2) (hE : ∀ x, e = .inr x → V 57 [some (rf g 47), none] [] x) : V 7 [some (rf g 47), some (.int s.1)] [] s.2 := by
  unfold l_X12_value_7 at h
  refine i_iload_n S dX12_value_7 rfl ?_
  refine i_if_eq (tgt := 57) S dX12_value_8 (by decide) (fun q1 => ?_) (fun q1 => ?_)
  · replace h := (if_pos q1).symm.trans h
    refine i_mask (L1 := [some (rf g 47), none]) S [true, false] rfl ?_
    have hz := hE _ (Option.some.inj h).symm
    exact hz
  · replace h := (if_neg q1).symm.trans h
    refine i_aload_n S dX12_value_11 rfl ?_
    obtain ⟨hL2, h⟩ := onLn h
    obtain ⟨p3, e3, h⟩ := bn h
    refine i_callV (As := []) (st1 := [.int p3]) S (c_X12_isGood g (d + 3) hL2 e3) mw_X12_isGood lk_X12_190 im_X12_isGood se_X12_isGood ci_12.1 ci_12.2.1 (k47 hL2) dX12_value_12 rfl rfl (Nat.le_of_ble_eq_true rfl) rfl ?_
    refine i_if_eq (tgt := 57) S dX12_value_15 (by decide) (fun q4 => ?_) (fun q4 => ?_)
    · replace h := (if_pos q4).symm.trans h
      refine i_mask (L1 := [some (rf g 47), none]) S [true, false] rfl ?_
      have hz := hE _ (Option.some.inj h).symm
      exact hz
    · replace h := (if_neg q4).symm.trans h
      refine i_aload_n S dX12_value_18 rfl ?_
      refine i_getIv (v := gI s.2 47 36) S fl_X12_246 (k47 hL2) rfl rfl dX12_value_19 ?_
      obtain ⟨p6, e6, h⟩ := bn h
      have hj6 : ∀ q6, p6 = q6 → V 29 [some (rf g 47), none] [] q6 := by
        intro q6 hq6
        subst hq6
        refine i_aload_n S dX12_value_29 rfl ?_
        refine i_iconst (v := 0) S dX12_value_30 ic_0 ?_
        obtain ⟨hL7, h⟩ := onLn h
        refine i_putI S fl_X12_246 (k47 hL7) rfl rfl rfl dX12_value_31 ?_
        refine i_aload_n S dX12_value_34 rfl ?_
        obtain ⟨p8, e8, h⟩ := bn h
        refine i_callV (As := []) (st1 := [.int p8]) S (c_X12_isGood g (d + 3) hL7 e8) mw_X12_isGood lk_X12_190 im_X12_isGood se_X12_isGood ci_12.1 ci_12.2.1 (k47 hL7) dX12_value_35 rfl rfl (Nat.le_of_ble_eq_true rfl) rfl ?_
        obtain ⟨p10, e10, h⟩ := bn h
        have hj10 : ∀ q10, p10 = q10 → V 53 [some (rf g 47), none] [.int q10.1] q10.2 := by
          intro q10 hq10
          subst hq10
          refine i_istore_n (L1 := [some (rf g 47), some (.int p10.1)]) S dX12_value_53 (by decide) rfl ?_
          refine i_goto (tgt := 7) S dX12_value_54 (by decide) ?_
          have hz := hC _ (Option.some.inj h).symm
          exact hz
        replace h := e10
        clear e10
        obtain ⟨s11, e11, hm11, ho11⟩ := mgn h
        have hj11 : ∀ p11, s11 = .inl p11 → V 52 [some (rf g 47), none] [] p11 := by
          intro p11 ep11
          have h := hm11 p11 ep11
          refine i_iconst (v := 0) S dX12_value_52 ic_0 ?_
          have hz := hj10 _ (Option.some.inj h).symm
          exact hz
        replace h := e11
        clear e11
        refine i_if_eq (tgt := 52) S dX12_value_38 (by decide) (fun q9 => ?_) (fun q9 => ?_)
        · replace h := (if_pos q9).symm.trans h
          have hz := hj11 _ (Option.some.inj h).symm
          exact hz
        · replace h := (if_neg q9).symm.trans h
          refine i_aload_n S dX12_value_41 rfl ?_
          obtain ⟨p12, e12, h⟩ := bn h
          refine i_callV (As := []) (st1 := [.int p12.1]) S (c_X12_stays g d hL7 e12) mw_X12_stays lk_X12_253 im_X12_stays se_X12_stays ci_12.1 ci_12.2.1 (k47 hL7) dX12_value_42 rfl rfl (Nat.le_of_ble_eq_true rfl) rfl ?_
          refine i_if_eq (tgt := 52) S dX12_value_45 (by decide) (fun q13 => ?_) (fun q13 => ?_)
          · replace h := (if_pos q13).symm.trans h
            have hz := hj11 _ (Option.some.inj h).symm
            exact hz
          · replace h := (if_neg q13).symm.trans h
            refine i_iconst (v := 1) S dX12_value_48 ic_1 ?_
            refine i_goto (tgt := 53) S dX12_value_49 (by decide) ?_
            replace h := ho11 _ (Option.some.inj h).symm
            have hz := hj10 _ (Option.some.inj h).symm
            exact hz
      replace h := e6
      clear e6
      refine i_if_ne (tgt := 29) S dX12_value_22 (by decide) (fun q5 => ?_) (fun q5 => ?_)
      · replace h := (if_neg q5).symm.trans h
        refine i_mask (L1 := [some (rf g 47), none]) S [true, false] rfl ?_
        have hz := hj6 _ (Option.some.inj h).symm
        exact hz
      · replace h := (if_pos q5).symm.trans h
        refine i_aload_n S dX12_value_25 rfl ?_
        obtain ⟨p14, e14, h⟩ := bn h
        refine i_callV (As := []) (st1 := []) S (c_X12_factor g d hL2 e14) mw_X12_factor lk_X12_250 im_X12_factor se_X12_factor ci_12.1 ci_12.2.1 (k47 hL2) dX12_value_26 rfl rfl (Nat.le_of_ble_eq_true rfl) rfl ?_
        refine i_mask (L1 := [some (rf g 47), none]) S [true, false] rfl ?_
        have hz := hj6 _ (Option.some.inj h).symm
        exact hz
set_option maxHeartbeats 4000000 in
set_option maxRecDepth 100000 in
theorem c_X12_value (g : Gx) (d : Nat)  {w : Mm} {p : Mm} (hL : Lay w) (h : f_X12_value w = some p) : Call g (d + 5) yX12_value cX12_value 2 none [rf g 47] w none p := by
  refine call_of (L0 := [some (rf g 47), none]) (by decide) rfl (Nat.le_of_ble_eq_true rfl) (fun V S0 => ?_)
  have S := S0.b
  unfold f_X12_value at h
  refine i_iconst (v := 1) S dX12_value_0 ic_1 ?_
  refine i_istore_n (L1 := [some (rf g 47), some (.int ((1 : Int32)))]) S dX12_value_1 (by decide) rfl ?_
  refine i_aload_n S dX12_value_2 rfl ?_
  refine i_iconst (v := 0) S dX12_value_3 ic_0 ?_
  refine i_putI S fl_X12_246 (k47 hL) rfl rfl rfl dX12_value_4 ?_
  obtain ⟨p1, e1, h⟩ := bn h
  have hE1 : V 57 [some (rf g 47), none] [] p1 := by
    refine i_aload_n S dX12_value_57 rfl ?_
    obtain ⟨hL2, h⟩ := onLn h
    obtain ⟨p3, e3, h⟩ := bn h
    refine i_callV (As := []) (st1 := [.int p3]) S (c_X12_isGood g (d + 3) hL2 e3) mw_X12_isGood lk_X12_190 im_X12_isGood se_X12_isGood ci_12.1 ci_12.2.1 (k47 hL2) dX12_value_58 rfl rfl (Nat.le_of_ble_eq_true rfl) rfl ?_
    refine i_if_eq (tgt := 82) S dX12_value_61 (by decide) (fun q4 => ?_) (fun q4 => ?_)
    · replace h := (if_pos q4).symm.trans h
      cases h
      exact i_vret S0 dX12_value_82
    · replace h := (if_neg q4).symm.trans h
      refine i_aload_n S dX12_value_64 rfl ?_
      obtain ⟨p5, e5, h⟩ := bn h
      refine i_callV (As := []) (st1 := [.int p5]) S (c_X12_top g (d + 3) hL2 e5) mw_X12_top lk_X12_221 im_X12_top se_X12_top ci_12.1 ci_12.2.1 (k47 hL2) dX12_value_65 rfl rfl (Nat.le_of_ble_eq_true rfl) rfl ?_
      refine i_bipush (v := 91) S dX12_value_68 bp_91 ?_
      refine i_icmp_ne (tgt := 82) S dX12_value_70 (by decide) (fun q6 => ?_) (fun q6 => ?_)
      · replace h := (if_neg q6).symm.trans h
        cases h
        exact i_vret S0 dX12_value_82
      · replace h := (if_pos q6).symm.trans h
        refine i_aload_n S dX12_value_73 rfl ?_
        refine i_iconst (v := 1) S dX12_value_74 ic_1 ?_
        refine i_aload_n S dX12_value_75 rfl ?_
        refine i_getIv (v := gI p1 47 28) S fl_X12_181 (k47 hL2) rfl rfl dX12_value_76 ?_
        obtain ⟨p7, e7, h⟩ := bn h
        refine i_callV (As := [.int ((1 : Int32)), .int (gI p1 47 28)]) (st1 := []) S (c_X12_wrongs g (d + 3) hL2 e7) mw_X12_wrongs lk_X12_203 im_X12_wrongs se_X12_wrongs ci_12.1 ci_12.2.1 (k47 hL2) dX12_value_79 rfl rfl (Nat.le_of_ble_eq_true rfl) rfl ?_
        cases h
        exact i_vret S0 dX12_value_82
  exact wh_V (P := fun sv1 => V 7 [some (rf g 47), some (.int sv1.1)] [] sv1.2) (E := fun xv1 => V 57 [some (rf g 47), none] [] xv1) (fun sv1 ev hb hc he => t_l_X12_value_7   S  sv1 ev hb hc he) FUEL _ _ e1 hE1
/-! WordYearModel.pieceOfC -/
noncomputable def l_X12_pieceOfC_0  (s : Mm) : Option ((Mm) ⊕ (Mm)) := onL s (Option.bind (f_X12_isGood s) (fun p2 => if p2 = 0 then (some (.inr s)) else (Option.bind (f_X12_here s) (fun p4 => mg (if p4 = (33 : Int32) then (some (.inl ())) else (Option.bind (f_X12_here s) (fun p8 => if p8 = (40 : Int32) then (some (.inl ())) else (some (.inr (.inr s)))))) (fun p6 => Option.bind (f_X12_opens s) (fun p7 => some (.inl p7)))))))
noncomputable def f_X12_pieceOfC  (w : Mm) : Option Mm := Option.bind (wh l_X12_pieceOfC_0 FUEL w) (fun p1 => onL p1 (Option.bind (f_X12_isGood p1) (fun p3 => Option.bind (if p3 = 0 then (some p1) else (Option.bind (f_X12_value p1) (fun p22 => some p22))) (fun p5 => onL p5 (Option.bind (f_X12_isGood p5) (fun p7 => if p7 = 0 then (some p5) else (Option.bind (f_X12_here p5) (fun p9 => if (f_X12_isSign p9) = 0 then (Option.bind (f_X12_wrongs (1 : Int32) (gI p5 47 28) p5) (fun p21 => some p21)) else (Option.bind (f_X12_puts p9 p5) (fun p11 => onL p11 (Option.bind (f_X12_value p11) (fun p13 => onL p13 (Option.bind (f_X12_isGood p13) (fun p15 => if p15 = 0 then (some p13) else (Option.bind (f_X12_top p13) (fun p17 => Option.bind (f_X12_emit p17 (0 : Int32) p13) (fun p18 => onL p18 (Option.bind (f_X12_ends (sI p18 47 34 ((gI p18 47 34) - (1 : Int32)))) (fun p20 => some p20)))))))))))))))))))
set_option maxHeartbeats 4000000 in
set_option maxRecDepth 100000 in
theorem t_l_X12_pieceOfC_0 {g : Gx} {V : Vt} {d : Nat} (S : MachB g yX12_pieceOfC cX12_pieceOfC 2 (d + 5) V)   (s : Mm) (e : (Mm) ⊕ (Mm)) (h : l_X12_pieceOfC_0  s = some e) (hC : ∀ s2, e = .inl s2 → V 0 [some (rf g 47), none] [] s2) (hE : ∀ x, e = .inr x → V 32 [some (rf g 47), none] [] x) : V 0 [some (rf g 47), none] [] s := by
  unfold l_X12_pieceOfC_0 at h
  refine i_aload_n S dX12_pieceOfC_0 rfl ?_
  obtain ⟨hL1, h⟩ := onLn h
  obtain ⟨p2, e2, h⟩ := bn h
  refine i_callV (As := []) (st1 := [.int p2]) S (c_X12_isGood g (d + 4) hL1 e2) mw_X12_isGood lk_X12_190 im_X12_isGood se_X12_isGood ci_12.1 ci_12.2.1 (k47 hL1) dX12_pieceOfC_1 rfl rfl (Nat.le_of_ble_eq_true rfl) rfl ?_
  refine i_if_eq (tgt := 32) S dX12_pieceOfC_4 (by decide) (fun q3 => ?_) (fun q3 => ?_)
  · replace h := (if_pos q3).symm.trans h
    have hz := hE _ (Option.some.inj h).symm
    exact hz
  · replace h := (if_neg q3).symm.trans h
    refine i_aload_n S dX12_pieceOfC_7 rfl ?_
    obtain ⟨p4, e4, h⟩ := bn h
    refine i_callV (As := []) (st1 := [.int p4]) S (c_X12_here g (d + 4) hL1 e4) mw_X12_here lk_X12_207 im_X12_here se_X12_here ci_12.1 ci_12.2.1 (k47 hL1) dX12_pieceOfC_8 rfl rfl (Nat.le_of_ble_eq_true rfl) rfl ?_
    refine i_bipush (v := 33) S dX12_pieceOfC_11 bp_33 ?_
    obtain ⟨s6, e6, hm6, ho6⟩ := mgn h
    have hj6 : ∀ p6, s6 = .inl p6 → V 25 [some (rf g 47), none] [] s := by
      intro p6 ep6
      have h := hm6 p6 ep6
      refine i_aload_n S dX12_pieceOfC_25 rfl ?_
      obtain ⟨p7, e7, h⟩ := bn h
      refine i_callV (As := []) (st1 := []) S (c_X12_opens g (d + 3) hL1 e7) mw_X12_opens lk_X12_233 im_X12_opens se_X12_opens ci_12.1 ci_12.2.1 (k47 hL1) dX12_pieceOfC_26 rfl rfl (Nat.le_of_ble_eq_true rfl) rfl ?_
      refine i_goto (tgt := 0) S dX12_pieceOfC_29 (by decide) ?_
      have hz := hC _ (Option.some.inj h).symm
      exact hz
    replace h := e6
    clear e6
    refine i_icmp_eq (tgt := 25) S dX12_pieceOfC_13 (by decide) (fun q5 => ?_) (fun q5 => ?_)
    · replace h := (if_pos q5).symm.trans h
      have hz := hj6 _ (Option.some.inj h).symm
      exact hz
    · replace h := (if_neg q5).symm.trans h
      refine i_aload_n S dX12_pieceOfC_16 rfl ?_
      obtain ⟨p8, e8, h⟩ := bn h
      refine i_callV (As := []) (st1 := [.int p8]) S (c_X12_here g (d + 4) hL1 e8) mw_X12_here lk_X12_207 im_X12_here se_X12_here ci_12.1 ci_12.2.1 (k47 hL1) dX12_pieceOfC_17 rfl rfl (Nat.le_of_ble_eq_true rfl) rfl ?_
      refine i_bipush (v := 40) S dX12_pieceOfC_20 bp_40 ?_
      refine i_icmp_ne (tgt := 32) S dX12_pieceOfC_22 (by decide) (fun q9 => ?_) (fun q9 => ?_)
      · replace h := (if_neg q9).symm.trans h
        replace h := ho6 _ (Option.some.inj h).symm
        have hz := hE _ (Option.some.inj h).symm
        exact hz
      · replace h := (if_pos q9).symm.trans h
        have hz := hj6 _ (Option.some.inj h).symm
        exact hz
set_option maxHeartbeats 4000000 in
set_option maxRecDepth 100000 in
theorem c_X12_pieceOfC (g : Gx) (d : Nat)  {w : Mm} {p : Mm} (hL : Lay w) (h : f_X12_pieceOfC w = some p) : Call g (d + 6) yX12_pieceOfC cX12_pieceOfC 2 none [rf g 47] w none p := by
  refine call_of (L0 := [some (rf g 47), none]) (by decide) rfl (Nat.le_of_ble_eq_true rfl) (fun V S0 => ?_)
  have S := S0.b
  unfold f_X12_pieceOfC at h
  obtain ⟨p1, e1, h⟩ := bn h
  have hE1 : V 32 [some (rf g 47), none] [] p1 := by
    refine i_aload_n S dX12_pieceOfC_32 rfl ?_
    obtain ⟨hL2, h⟩ := onLn h
    obtain ⟨p3, e3, h⟩ := bn h
    refine i_callV (As := []) (st1 := [.int p3]) S (c_X12_isGood g (d + 4) hL2 e3) mw_X12_isGood lk_X12_190 im_X12_isGood se_X12_isGood ci_12.1 ci_12.2.1 (k47 hL2) dX12_pieceOfC_33 rfl rfl (Nat.le_of_ble_eq_true rfl) rfl ?_
    obtain ⟨p5, e5, h⟩ := bn h
    have hj5 : ∀ q5, p5 = q5 → V 43 [some (rf g 47), none] [] q5 := by
      intro q5 hq5
      subst hq5
      refine i_aload_n S dX12_pieceOfC_43 rfl ?_
      obtain ⟨hL6, h⟩ := onLn h
      obtain ⟨p7, e7, h⟩ := bn h
      refine i_callV (As := []) (st1 := [.int p7]) S (c_X12_isGood g (d + 4) hL6 e7) mw_X12_isGood lk_X12_190 im_X12_isGood se_X12_isGood ci_12.1 ci_12.2.1 (k47 hL6) dX12_pieceOfC_44 rfl rfl (Nat.le_of_ble_eq_true rfl) rfl ?_
      refine i_if_ne (tgt := 51) S dX12_pieceOfC_47 (by decide) (fun q8 => ?_) (fun q8 => ?_)
      · replace h := (if_neg q8).symm.trans h
        refine i_aload_n S dX12_pieceOfC_51 rfl ?_
        obtain ⟨p9, e9, h⟩ := bn h
        refine i_callV (As := []) (st1 := [.int p9]) S (c_X12_here g (d + 4) hL6 e9) mw_X12_here lk_X12_207 im_X12_here se_X12_here ci_12.1 ci_12.2.1 (k47 hL6) dX12_pieceOfC_52 rfl rfl (Nat.le_of_ble_eq_true rfl) rfl ?_
        refine i_istore_n (L1 := [some (rf g 47), some (.int p9)]) S dX12_pieceOfC_55 (by decide) rfl ?_
        refine i_iload_n S dX12_pieceOfC_56 rfl ?_
        refine i_callS (As := [.int p9]) (st1 := [.int (f_X12_isSign p9)]) S (c_X12_isSign g (d + 4) rfl) mw_X12_isSign lk_X12_259 im_X12_isSign dX12_pieceOfC_57 rfl rfl (Nat.le_of_ble_eq_true rfl) rfl ?_
        refine i_if_ne (tgt := 73) S dX12_pieceOfC_60 (by decide) (fun q10 => ?_) (fun q10 => ?_)
        · replace h := (if_neg q10).symm.trans h
          refine i_aload_n S dX12_pieceOfC_73 rfl ?_
          refine i_iload_n S dX12_pieceOfC_74 rfl ?_
          obtain ⟨p11, e11, h⟩ := bn h
          refine i_callV (As := [.int p9]) (st1 := []) S (c_X12_puts g (d + 4) hL6 e11) mw_X12_puts lk_X12_211 im_X12_puts se_X12_puts ci_12.1 ci_12.2.1 (k47 hL6) dX12_pieceOfC_75 rfl rfl (Nat.le_of_ble_eq_true rfl) rfl ?_
          refine i_aload_n S dX12_pieceOfC_78 rfl ?_
          obtain ⟨hL12, h⟩ := onLn h
          obtain ⟨p13, e13, h⟩ := bn h
          refine i_callV (As := []) (st1 := []) S (c_X12_value g d hL12 e13) mw_X12_value lk_X12_256 im_X12_value se_X12_value ci_12.1 ci_12.2.1 (k47 hL12) dX12_pieceOfC_79 rfl rfl (Nat.le_of_ble_eq_true rfl) rfl ?_
          refine i_aload_n S dX12_pieceOfC_82 rfl ?_
          obtain ⟨hL14, h⟩ := onLn h
          obtain ⟨p15, e15, h⟩ := bn h
          refine i_callV (As := []) (st1 := [.int p15]) S (c_X12_isGood g (d + 4) hL14 e15) mw_X12_isGood lk_X12_190 im_X12_isGood se_X12_isGood ci_12.1 ci_12.2.1 (k47 hL14) dX12_pieceOfC_83 rfl rfl (Nat.le_of_ble_eq_true rfl) rfl ?_
          refine i_if_ne (tgt := 90) S dX12_pieceOfC_86 (by decide) (fun q16 => ?_) (fun q16 => ?_)
          · replace h := (if_neg q16).symm.trans h
            refine i_aload_n S dX12_pieceOfC_90 rfl ?_
            refine i_aload_n S dX12_pieceOfC_91 rfl ?_
            obtain ⟨p17, e17, h⟩ := bn h
            refine i_callV (As := []) (st1 := [.int p17, rf g 47]) S (c_X12_top g (d + 4) hL14 e17) mw_X12_top lk_X12_221 im_X12_top se_X12_top ci_12.1 ci_12.2.1 (k47 hL14) dX12_pieceOfC_92 rfl rfl (Nat.le_of_ble_eq_true rfl) rfl ?_
            refine i_iconst (v := 0) S dX12_pieceOfC_95 ic_0 ?_
            obtain ⟨p18, e18, h⟩ := bn h
            refine i_callV (As := [.int p17, .int ((0 : Int32))]) (st1 := []) S (c_X12_emit g (d + 3) hL14 e18) mw_X12_emit lk_X12_230 im_X12_emit se_X12_emit ci_12.1 ci_12.2.1 (k47 hL14) dX12_pieceOfC_96 rfl rfl (Nat.le_of_ble_eq_true rfl) rfl ?_
            refine i_aload_n S dX12_pieceOfC_99 rfl ?_
            refine i_dup S dX12_pieceOfC_100 rfl ?_
            obtain ⟨hL19, h⟩ := onLn h
            refine i_getIv (v := gI p18 47 34) S fl_X12_197 (k47 hL19) rfl rfl dX12_pieceOfC_101 ?_
            refine i_iconst (v := 1) S dX12_pieceOfC_104 ic_1 ?_
            refine i_isub S dX12_pieceOfC_105 ?_
            refine i_putI S fl_X12_197 (k47 hL19) rfl rfl rfl dX12_pieceOfC_106 ?_
            refine i_aload_n S dX12_pieceOfC_109 rfl ?_
            obtain ⟨p20, e20, h⟩ := bn h
            refine i_callV (As := []) (st1 := []) S (c_X12_ends g (d + 2) hL19 e20) mw_X12_ends lk_X12_262 im_X12_ends se_X12_ends ci_12.1 ci_12.2.1 (k47 hL19) dX12_pieceOfC_110 rfl rfl (Nat.le_of_ble_eq_true rfl) rfl ?_
            cases h
            exact i_vret S0 dX12_pieceOfC_113
          · replace h := (if_pos q16).symm.trans h
            cases h
            exact i_vret S0 dX12_pieceOfC_89
        · replace h := (if_pos q10).symm.trans h
          refine i_aload_n S dX12_pieceOfC_63 rfl ?_
          refine i_iconst (v := 1) S dX12_pieceOfC_64 ic_1 ?_
          refine i_aload_n S dX12_pieceOfC_65 rfl ?_
          refine i_getIv (v := gI p5 47 28) S fl_X12_181 (k47 hL6) rfl rfl dX12_pieceOfC_66 ?_
          obtain ⟨p21, e21, h⟩ := bn h
          refine i_callV (As := [.int ((1 : Int32)), .int (gI p5 47 28)]) (st1 := []) S (c_X12_wrongs g (d + 4) hL6 e21) mw_X12_wrongs lk_X12_203 im_X12_wrongs se_X12_wrongs ci_12.1 ci_12.2.1 (k47 hL6) dX12_pieceOfC_69 rfl rfl (Nat.le_of_ble_eq_true rfl) rfl ?_
          cases h
          exact i_vret S0 dX12_pieceOfC_72
      · replace h := (if_pos q8).symm.trans h
        cases h
        exact i_vret S0 dX12_pieceOfC_50
    replace h := e5
    clear e5
    refine i_if_eq (tgt := 43) S dX12_pieceOfC_36 (by decide) (fun q4 => ?_) (fun q4 => ?_)
    · replace h := (if_pos q4).symm.trans h
      have hz := hj5 _ (Option.some.inj h).symm
      exact hz
    · replace h := (if_neg q4).symm.trans h
      refine i_aload_n S dX12_pieceOfC_39 rfl ?_
      obtain ⟨p22, e22, h⟩ := bn h
      refine i_callV (As := []) (st1 := []) S (c_X12_value g d hL2 e22) mw_X12_value lk_X12_256 im_X12_value se_X12_value ci_12.1 ci_12.2.1 (k47 hL2) dX12_pieceOfC_40 rfl rfl (Nat.le_of_ble_eq_true rfl) rfl ?_
      have hz := hj5 _ (Option.some.inj h).symm
      exact hz
  exact wh_V (P := fun sv1 => V 0 [some (rf g 47), none] [] sv1) (E := fun xv1 => V 32 [some (rf g 47), none] [] xv1) (fun sv1 ev hb hc he => t_l_X12_pieceOfC_0   S  sv1 ev hb hc he) FUEL _ _ e1 hE1
/-! WordYearModel.goesBehind -/
noncomputable def f_X12_goesBehind  (w : Mm) : Option (Int32 × Mm) := Option.bind (f_X12_here w) (fun p1 => mg (if p1 = (38 : Int32) then (some (.inl ())) else (if p1 = (124 : Int32) then (some (.inl ())) else (if p1 = (41 : Int32) then (Option.bind (f_X12_joins (1 : Int32) w) (fun p11 => onL p11 (Option.bind (if ((gI p11 47 34) - (1 : Int32)) = 0 then (some (1 : Int32)) else (some (0 : Int32))) (fun p14 => if isB p14 = true then (if p14 = 0 then (Option.bind (f_X12_ends (sI (sI (sI (sI p11 47 34 ((gI p11 47 34) - (1 : Int32))) 47 33 ((gI p11 47 33) - (1 : Int32))) 47 28 ((gI p11 47 28) + (1 : Int32))) 47 35 p14)) (fun p17 => some (.inr ((0 : Int32), p17)))) else (some (.inr ((0 : Int32), sI (sI (sI (sI p11 47 34 ((gI p11 47 34) - (1 : Int32))) 47 33 ((gI p11 47 33) - (1 : Int32))) 47 28 ((gI p11 47 28) + (1 : Int32))) 47 35 p14)))) else none)))) else (Option.bind (f_X12_wrongs (1 : Int32) (gI w 47 28) w) (fun p18 => some (.inr ((0 : Int32), p18))))))) (fun p3 => Option.bind (if p1 = (124 : Int32) then (some (1 : Int32)) else (some (0 : Int32))) (fun p5 => Option.bind (f_X12_joins p5 w) (fun p6 => onL p6 (Option.bind (f_X12_puts p1 p6) (fun p8 => some ((1 : Int32), p8)))))))
set_option maxHeartbeats 4000000 in
set_option maxRecDepth 100000 in
theorem c_X12_goesBehind (g : Gx) (d : Nat)  {w : Mm} {p : (Int32 × Mm)} (hL : Lay w) (h : f_X12_goesBehind w = some p) : Call g (d + 4) yX12_goesBehind cX12_goesBehind 2 (some .boolean) [rf g 47] w (some (.int p.1)) p.2 := by
  refine call_of (L0 := [some (rf g 47), none]) (by decide) rfl (Nat.le_of_ble_eq_true rfl) (fun V S0 => ?_)
  have S := S0.b
  unfold f_X12_goesBehind at h
  refine i_aload_n S dX12_goesBehind_0 rfl ?_
  obtain ⟨p1, e1, h⟩ := bn h
  refine i_callV (As := []) (st1 := [.int p1]) S (c_X12_here g (d + 2) hL e1) mw_X12_here lk_X12_207 im_X12_here se_X12_here ci_12.1 ci_12.2.1 (k47 hL) dX12_goesBehind_1 rfl rfl (Nat.le_of_ble_eq_true rfl) rfl ?_
  refine i_istore_n (L1 := [some (rf g 47), some (.int p1)]) S dX12_goesBehind_4 (by decide) rfl ?_
  refine i_iload_n S dX12_goesBehind_5 rfl ?_
  refine i_bipush (v := 38) S dX12_goesBehind_6 bp_38 ?_
  obtain ⟨s3, e3, hm3, ho3⟩ := mgn h
  have hj3 : ∀ p3, s3 = .inl p3 → V 17 [some (rf g 47), some (.int p1)] [] w := by
    intro p3 ep3
    have h := hm3 p3 ep3
    refine i_aload_n S dX12_goesBehind_17 rfl ?_
    refine i_iload_n S dX12_goesBehind_18 rfl ?_
    refine i_bipush (v := 124) S dX12_goesBehind_19 bp_124 ?_
    obtain ⟨p5, e5, h⟩ := bn h
    have hj5 : ∀ q5, p5 = q5 → V 29 [some (rf g 47), some (.int p1)] [.int q5, rf g 47] w := by
      intro q5 hq5
      subst hq5
      obtain ⟨p6, e6, h⟩ := bn h
      refine i_callV (As := [.int p5]) (st1 := []) S (c_X12_joins g d hL e6) mw_X12_joins lk_X12_265 im_X12_joins se_X12_joins ci_12.1 ci_12.2.1 (k47 hL) dX12_goesBehind_29 rfl rfl (Nat.le_of_ble_eq_true rfl) rfl ?_
      refine i_aload_n S dX12_goesBehind_32 rfl ?_
      refine i_iload_n S dX12_goesBehind_33 rfl ?_
      obtain ⟨hL7, h⟩ := onLn h
      obtain ⟨p8, e8, h⟩ := bn h
      refine i_callV (As := [.int p1]) (st1 := []) S (c_X12_puts g (d + 2) hL7 e8) mw_X12_puts lk_X12_211 im_X12_puts se_X12_puts ci_12.1 ci_12.2.1 (k47 hL7) dX12_goesBehind_34 rfl rfl (Nat.le_of_ble_eq_true rfl) rfl ?_
      refine i_iconst (v := 1) S dX12_goesBehind_37 ic_1 ?_
      cases h
      exact i_iret S0 rfl dX12_goesBehind_38
    replace h := e5
    clear e5
    refine i_icmp_ne (tgt := 28) S dX12_goesBehind_21 (by decide) (fun q4 => ?_) (fun q4 => ?_)
    · replace h := (if_neg q4).symm.trans h
      refine i_iconst (v := 0) S dX12_goesBehind_28 ic_0 ?_
      have hz := hj5 _ (Option.some.inj h).symm
      exact hz
    · replace h := (if_pos q4).symm.trans h
      refine i_iconst (v := 1) S dX12_goesBehind_24 ic_1 ?_
      refine i_goto (tgt := 29) S dX12_goesBehind_25 (by decide) ?_
      have hz := hj5 _ (Option.some.inj h).symm
      exact hz
  replace h := e3
  clear e3
  refine i_icmp_eq (tgt := 17) S dX12_goesBehind_8 (by decide) (fun q2 => ?_) (fun q2 => ?_)
  · replace h := (if_pos q2).symm.trans h
    have hz := hj3 _ (Option.some.inj h).symm
    exact hz
  · replace h := (if_neg q2).symm.trans h
    refine i_iload_n S dX12_goesBehind_11 rfl ?_
    refine i_bipush (v := 124) S dX12_goesBehind_12 bp_124 ?_
    refine i_icmp_ne (tgt := 39) S dX12_goesBehind_14 (by decide) (fun q9 => ?_) (fun q9 => ?_)
    · replace h := (if_neg q9).symm.trans h
      refine i_iload_n S dX12_goesBehind_39 rfl ?_
      refine i_bipush (v := 41) S dX12_goesBehind_40 bp_41 ?_
      refine i_icmp_eq (tgt := 56) S dX12_goesBehind_42 (by decide) (fun q10 => ?_) (fun q10 => ?_)
      · replace h := (if_pos q10).symm.trans h
        refine i_aload_n S dX12_goesBehind_56 rfl ?_
        refine i_iconst (v := 1) S dX12_goesBehind_57 ic_1 ?_
        obtain ⟨p11, e11, h⟩ := bn h
        refine i_callV (As := [.int ((1 : Int32))]) (st1 := []) S (c_X12_joins g d hL e11) mw_X12_joins lk_X12_265 im_X12_joins se_X12_joins ci_12.1 ci_12.2.1 (k47 hL) dX12_goesBehind_58 rfl rfl (Nat.le_of_ble_eq_true rfl) rfl ?_
        refine i_aload_n S dX12_goesBehind_61 rfl ?_
        refine i_dup S dX12_goesBehind_62 rfl ?_
        obtain ⟨hL12, h⟩ := onLn h
        refine i_getIv (v := gI p11 47 34) S fl_X12_197 (k47 hL12) rfl rfl dX12_goesBehind_63 ?_
        refine i_iconst (v := 1) S dX12_goesBehind_66 ic_1 ?_
        refine i_isub S dX12_goesBehind_67 ?_
        refine i_putI S fl_X12_197 (k47 hL12) rfl rfl rfl dX12_goesBehind_68 ?_
        refine i_aload_n S dX12_goesBehind_71 rfl ?_
        refine i_dup S dX12_goesBehind_72 rfl ?_
        refine i_getIv (v := gI p11 47 33) S fl_X12_200 (k47 hL12) rfl rfl dX12_goesBehind_73 ?_
        refine i_iconst (v := 1) S dX12_goesBehind_76 ic_1 ?_
        refine i_isub S dX12_goesBehind_77 ?_
        refine i_putI S fl_X12_200 (k47 hL12) rfl rfl rfl dX12_goesBehind_78 ?_
        refine i_aload_n S dX12_goesBehind_81 rfl ?_
        refine i_dup S dX12_goesBehind_82 rfl ?_
        refine i_getIv (v := gI p11 47 28) S fl_X12_181 (k47 hL12) rfl rfl dX12_goesBehind_83 ?_
        refine i_iconst (v := 1) S dX12_goesBehind_86 ic_1 ?_
        refine i_iadd S dX12_goesBehind_87 ?_
        refine i_putI S fl_X12_181 (k47 hL12) rfl rfl rfl dX12_goesBehind_88 ?_
        refine i_aload_n S dX12_goesBehind_91 rfl ?_
        refine i_aload_n S dX12_goesBehind_92 rfl ?_
        refine i_getIv (v := (gI p11 47 34) - (1 : Int32)) S fl_X12_197 (k47 hL12) rfl rfl dX12_goesBehind_93 ?_
        obtain ⟨p14, e14, h⟩ := bn h
        have hj14 : ∀ q14, p14 = q14 → V 104 [some (rf g 47), none] [.int q14, rf g 47] (sI (sI (sI p11 47 34 ((gI p11 47 34) - (1 : Int32))) 47 33 ((gI p11 47 33) - (1 : Int32))) 47 28 ((gI p11 47 28) + (1 : Int32))) := by
          intro q14 hq14
          subst hq14
          obtain ⟨hb15, h⟩ := gd h
          refine i_putI S fl_X12_268 (k47 hL12) rfl (isB_n hb15) (isB_f hb15) dX12_goesBehind_104 ?_
          refine i_aload_n S dX12_goesBehind_107 rfl ?_
          refine i_getIv (v := p14) S fl_X12_268 (k47 hL12) rfl rfl dX12_goesBehind_108 ?_
          refine i_if_ne (tgt := 118) S dX12_goesBehind_111 (by decide) (fun q16 => ?_) (fun q16 => ?_)
          · replace h := (if_neg q16).symm.trans h
            refine i_iconst (v := 0) S dX12_goesBehind_118 ic_0 ?_
            replace h := ho3 _ (Option.some.inj h).symm
            cases h
            exact i_iret S0 rfl dX12_goesBehind_119
          · replace h := (if_pos q16).symm.trans h
            refine i_aload_n S dX12_goesBehind_114 rfl ?_
            obtain ⟨p17, e17, h⟩ := bn h
            refine i_callV (As := []) (st1 := []) S (c_X12_ends g d hL12 e17) mw_X12_ends lk_X12_262 im_X12_ends se_X12_ends ci_12.1 ci_12.2.1 (k47 hL12) dX12_goesBehind_115 rfl rfl (Nat.le_of_ble_eq_true rfl) rfl ?_
            refine i_iconst (v := 0) S dX12_goesBehind_118 ic_0 ?_
            replace h := ho3 _ (Option.some.inj h).symm
            cases h
            exact i_iret S0 rfl dX12_goesBehind_119
        replace h := e14
        clear e14
        refine i_if_ne (tgt := 103) S dX12_goesBehind_96 (by decide) (fun q13 => ?_) (fun q13 => ?_)
        · replace h := (if_neg q13).symm.trans h
          refine i_iconst (v := 0) S dX12_goesBehind_103 ic_0 ?_
          refine i_mask (L1 := [some (rf g 47), none]) S [true, false] rfl ?_
          have hz := hj14 _ (Option.some.inj h).symm
          exact hz
        · replace h := (if_pos q13).symm.trans h
          refine i_iconst (v := 1) S dX12_goesBehind_99 ic_1 ?_
          refine i_goto (tgt := 104) S dX12_goesBehind_100 (by decide) ?_
          refine i_mask (L1 := [some (rf g 47), none]) S [true, false] rfl ?_
          have hz := hj14 _ (Option.some.inj h).symm
          exact hz
      · replace h := (if_neg q10).symm.trans h
        refine i_aload_n S dX12_goesBehind_45 rfl ?_
        refine i_iconst (v := 1) S dX12_goesBehind_46 ic_1 ?_
        refine i_aload_n S dX12_goesBehind_47 rfl ?_
        refine i_getIv (v := gI w 47 28) S fl_X12_181 (k47 hL) rfl rfl dX12_goesBehind_48 ?_
        obtain ⟨p18, e18, h⟩ := bn h
        refine i_callV (As := [.int ((1 : Int32)), .int (gI w 47 28)]) (st1 := []) S (c_X12_wrongs g (d + 2) hL e18) mw_X12_wrongs lk_X12_203 im_X12_wrongs se_X12_wrongs ci_12.1 ci_12.2.1 (k47 hL) dX12_goesBehind_51 rfl rfl (Nat.le_of_ble_eq_true rfl) rfl ?_
        refine i_iconst (v := 0) S dX12_goesBehind_54 ic_0 ?_
        replace h := ho3 _ (Option.some.inj h).symm
        cases h
        exact i_iret S0 rfl dX12_goesBehind_55
    · replace h := (if_pos q9).symm.trans h
      have hz := hj3 _ (Option.some.inj h).symm
      exact hz
/-! WordYearModel.condition -/
noncomputable def l_X12_condition_37  (s : Int32 × Mm) : Option ((Int32 × Mm) ⊕ (Mm)) := onL s.2 (Option.bind (f_X12_isGood s.2) (fun p2 => if p2 = 0 then (some (.inr s.2)) else (if (gI s.2 47 35) = 0 then (Option.bind (if s.1 = 0 then (some s.2) else (Option.bind (f_X12_pieceOfC s.2) (fun p11 => some p11))) (fun p6 => onL p6 (Option.bind (f_X12_isGood p6) (fun p8 => if p8 = 0 then (some (.inl (s.1, p6))) else (Option.bind (f_X12_goesBehind p6) (fun p10 => some (.inl (p10.1, p10.2)))))))) else (some (.inr s.2)))))
noncomputable def f_X12_condition  (w : Mm) : Option Mm := Option.bind (f_X12_here (sI w 47 35 (0 : Int32))) (fun p1 => Option.bind (if p1 = (40 : Int32) then (some (sI w 47 35 (0 : Int32))) else (Option.bind (f_X12_wrongs (1 : Int32) (gI w 47 28) (sI w 47 35 (0 : Int32))) (fun p9 => some p9))) (fun p3 => onL p3 (Option.bind (f_X12_isGood p3) (fun p5 => if p5 = 0 then (some p3) else (Option.bind (f_X12_opens p3) (fun p7 => Option.bind (wh l_X12_condition_37 FUEL ((1 : Int32), p7)) (fun p8 => some p8)))))))
set_option maxHeartbeats 4000000 in
set_option maxRecDepth 100000 in
theorem t_l_X12_condition_37 {g : Gx} {V : Vt} {d : Nat} (S : MachB g yX12_condition cX12_condition 2 (d + 6) V)   (s : Int32 × Mm) (e : (Int32 × Mm) ⊕ (Mm)) (h : l_X12_condition_37  s = some e) (hC : ∀ s2, e = .inl s2 → V 37 [some (rf g 47), some (.int s2.1)] [] s2.2) (hE : ∀ x, e = .inr x → V 74 [none, none] [] x) : V 37 [some (rf g 47), some (.int s.1)] [] s.2 := by
  unfold l_X12_condition_37 at h
  refine i_aload_n S dX12_condition_37 rfl ?_
  obtain ⟨hL1, h⟩ := onLn h
  obtain ⟨p2, e2, h⟩ := bn h
  refine i_callV (As := []) (st1 := [.int p2]) S (c_X12_isGood g (d + 5) hL1 e2) mw_X12_isGood lk_X12_190 im_X12_isGood se_X12_isGood ci_12.1 ci_12.2.1 (k47 hL1) dX12_condition_38 rfl rfl (Nat.le_of_ble_eq_true rfl) rfl ?_
  refine i_if_eq (tgt := 74) S dX12_condition_41 (by decide) (fun q3 => ?_) (fun q3 => ?_)
  · replace h := (if_pos q3).symm.trans h
    refine i_mask (L1 := [none, none]) S [false, false] rfl ?_
    have hz := hE _ (Option.some.inj h).symm
    exact hz
  · replace h := (if_neg q3).symm.trans h
    refine i_aload_n S dX12_condition_44 rfl ?_
    refine i_getIv (v := gI s.2 47 35) S fl_X12_268 (k47 hL1) rfl rfl dX12_condition_45 ?_
    refine i_if_ne (tgt := 74) S dX12_condition_48 (by decide) (fun q4 => ?_) (fun q4 => ?_)
    · replace h := (if_neg q4).symm.trans h
      refine i_mask (L1 := [none, none]) S [false, false] rfl ?_
      have hz := hE _ (Option.some.inj h).symm
      exact hz
    · replace h := (if_pos q4).symm.trans h
      refine i_iload_n S dX12_condition_51 rfl ?_
      obtain ⟨p6, e6, h⟩ := bn h
      have hj6 : ∀ q6, p6 = q6 → V 59 [some (rf g 47), some (.int s.1)] [] q6 := by
        intro q6 hq6
        subst hq6
        refine i_aload_n S dX12_condition_59 rfl ?_
        obtain ⟨hL7, h⟩ := onLn h
        obtain ⟨p8, e8, h⟩ := bn h
        refine i_callV (As := []) (st1 := [.int p8]) S (c_X12_isGood g (d + 5) hL7 e8) mw_X12_isGood lk_X12_190 im_X12_isGood se_X12_isGood ci_12.1 ci_12.2.1 (k47 hL7) dX12_condition_60 rfl rfl (Nat.le_of_ble_eq_true rfl) rfl ?_
        refine i_if_eq (tgt := 37) S dX12_condition_63 (by decide) (fun q9 => ?_) (fun q9 => ?_)
        · replace h := (if_pos q9).symm.trans h
          have hz := hC _ (Option.some.inj h).symm
          exact hz
        · replace h := (if_neg q9).symm.trans h
          refine i_aload_n S dX12_condition_66 rfl ?_
          obtain ⟨p10, e10, h⟩ := bn h
          refine i_callV (As := []) (st1 := [.int p10.1]) S (c_X12_goesBehind g (d + 2) hL7 e10) mw_X12_goesBehind lk_X12_274 im_X12_goesBehind se_X12_goesBehind ci_12.1 ci_12.2.1 (k47 hL7) dX12_condition_67 rfl rfl (Nat.le_of_ble_eq_true rfl) rfl ?_
          refine i_istore_n (L1 := [some (rf g 47), some (.int p10.1)]) S dX12_condition_70 (by decide) rfl ?_
          refine i_goto (tgt := 37) S dX12_condition_71 (by decide) ?_
          have hz := hC _ (Option.some.inj h).symm
          exact hz
      replace h := e6
      clear e6
      refine i_if_eq (tgt := 59) S dX12_condition_52 (by decide) (fun q5 => ?_) (fun q5 => ?_)
      · replace h := (if_pos q5).symm.trans h
        have hz := hj6 _ (Option.some.inj h).symm
        exact hz
      · replace h := (if_neg q5).symm.trans h
        refine i_aload_n S dX12_condition_55 rfl ?_
        obtain ⟨p11, e11, h⟩ := bn h
        refine i_callV (As := []) (st1 := []) S (c_X12_pieceOfC g d hL1 e11) mw_X12_pieceOfC lk_X12_271 im_X12_pieceOfC se_X12_pieceOfC ci_12.1 ci_12.2.1 (k47 hL1) dX12_condition_56 rfl rfl (Nat.le_of_ble_eq_true rfl) rfl ?_
        have hz := hj6 _ (Option.some.inj h).symm
        exact hz
set_option maxHeartbeats 4000000 in
set_option maxRecDepth 100000 in
theorem c_X12_condition (g : Gx) (d : Nat)  {w : Mm} {p : Mm} (hL : Lay w) (h : f_X12_condition w = some p) : Call g (d + 7) yX12_condition cX12_condition 2 none [rf g 47] w none p := by
  refine call_of (L0 := [some (rf g 47), none]) (by decide) rfl (Nat.le_of_ble_eq_true rfl) (fun V S0 => ?_)
  have S := S0.b
  unfold f_X12_condition at h
  refine i_aload_n S dX12_condition_0 rfl ?_
  refine i_iconst (v := 0) S dX12_condition_1 ic_0 ?_
  refine i_putI S fl_X12_268 (k47 hL) rfl rfl rfl dX12_condition_2 ?_
  refine i_aload_n S dX12_condition_5 rfl ?_
  obtain ⟨p1, e1, h⟩ := bn h
  refine i_callV (As := []) (st1 := [.int p1]) S (c_X12_here g (d + 5) hL e1) mw_X12_here lk_X12_207 im_X12_here se_X12_here ci_12.1 ci_12.2.1 (k47 hL) dX12_condition_6 rfl rfl (Nat.le_of_ble_eq_true rfl) rfl ?_
  refine i_bipush (v := 40) S dX12_condition_9 bp_40 ?_
  obtain ⟨p3, e3, h⟩ := bn h
  have hj3 : ∀ q3, p3 = q3 → V 23 [some (rf g 47), none] [] q3 := by
    intro q3 hq3
    subst hq3
    refine i_aload_n S dX12_condition_23 rfl ?_
    obtain ⟨hL4, h⟩ := onLn h
    obtain ⟨p5, e5, h⟩ := bn h
    refine i_callV (As := []) (st1 := [.int p5]) S (c_X12_isGood g (d + 5) hL4 e5) mw_X12_isGood lk_X12_190 im_X12_isGood se_X12_isGood ci_12.1 ci_12.2.1 (k47 hL4) dX12_condition_24 rfl rfl (Nat.le_of_ble_eq_true rfl) rfl ?_
    refine i_if_ne (tgt := 31) S dX12_condition_27 (by decide) (fun q6 => ?_) (fun q6 => ?_)
    · replace h := (if_neg q6).symm.trans h
      refine i_aload_n S dX12_condition_31 rfl ?_
      obtain ⟨p7, e7, h⟩ := bn h
      refine i_callV (As := []) (st1 := []) S (c_X12_opens g (d + 4) hL4 e7) mw_X12_opens lk_X12_233 im_X12_opens se_X12_opens ci_12.1 ci_12.2.1 (k47 hL4) dX12_condition_32 rfl rfl (Nat.le_of_ble_eq_true rfl) rfl ?_
      refine i_iconst (v := 1) S dX12_condition_35 ic_1 ?_
      refine i_istore_n (L1 := [some (rf g 47), some (.int ((1 : Int32)))]) S dX12_condition_36 (by decide) rfl ?_
      obtain ⟨p8, e8, h⟩ := bn h
      have hE8 : V 74 [none, none] [] p8 := by
        cases h
        exact i_vret S0 dX12_condition_74
      exact wh_V (P := fun sv8 => V 37 [some (rf g 47), some (.int sv8.1)] [] sv8.2) (E := fun xv8 => V 74 [none, none] [] xv8) (fun sv8 ev hb hc he => t_l_X12_condition_37   S  sv8 ev hb hc he) FUEL _ _ e8 hE8
    · replace h := (if_pos q6).symm.trans h
      cases h
      exact i_vret S0 dX12_condition_30
  replace h := e3
  clear e3
  refine i_icmp_eq (tgt := 23) S dX12_condition_11 (by decide) (fun q2 => ?_) (fun q2 => ?_)
  · replace h := (if_pos q2).symm.trans h
    have hz := hj3 _ (Option.some.inj h).symm
    exact hz
  · replace h := (if_neg q2).symm.trans h
    refine i_aload_n S dX12_condition_14 rfl ?_
    refine i_iconst (v := 1) S dX12_condition_15 ic_1 ?_
    refine i_aload_n S dX12_condition_16 rfl ?_
    refine i_getIv (v := gI w 47 28) S fl_X12_181 (k47 hL) rfl rfl dX12_condition_17 ?_
    obtain ⟨p9, e9, h⟩ := bn h
    refine i_callV (As := [.int ((1 : Int32)), .int (gI w 47 28)]) (st1 := []) S (c_X12_wrongs g (d + 5) hL e9) mw_X12_wrongs lk_X12_203 im_X12_wrongs se_X12_wrongs ci_12.1 ci_12.2.1 (k47 hL) dX12_condition_20 rfl rfl (Nat.le_of_ble_eq_true rfl) rfl ?_
    have hz := hj3 _ (Option.some.inj h).symm
    exact hz
