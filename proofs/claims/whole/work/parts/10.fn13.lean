/-! WordYearModel.clause -/
noncomputable def f_X12_clause  (w : Mm) : Option Mm := Option.bind (f_X12_here w) (fun p1 => Option.bind (if p1 = (107 : Int32) then (if (gI w 47 31) = (12 : Int32) then (Option.bind (f_X12_wrongs (4 : Int32) (gI w 47 28) w) (fun p21 => some p21)) else (some w)) else (Option.bind (f_X12_wrongs (1 : Int32) (gI w 47 28) w) (fun p22 => some p22))) (fun p3 => onL p3 (Option.bind (f_X12_isGood p3) (fun p5 => if p5 = 0 then (some p3) else (if inb (gI p3 47 31) 12 = true then (Option.bind (f_X12_value (sI (sI (sI (sI p3 63 (ix (gI p3 47 31)) (gI p3 47 32)) 47 28 ((gI p3 47 28) + (1 : Int32))) 47 34 (0 : Int32)) 47 33 (0 : Int32))) (fun p9 => onL p9 (if inb (gI p9 47 31) 12 = true then (Option.bind (f_X12_isGood (sI p9 64 (ix (gI p9 47 31)) (gI p9 47 32))) (fun p13 => Option.bind (if p13 = 0 then (some (sI p9 64 (ix (gI p9 47 31)) (gI p9 47 32))) else (Option.bind (f_X12_condition (sI p9 64 (ix (gI p9 47 31)) (gI p9 47 32))) (fun p19 => some p19))) (fun p15 => onL p15 (if inb (gI p15 47 31) 12 = true then (some (sI (sI p15 65 (ix (gI p15 47 31)) (gI p15 47 32)) 47 31 ((gI p15 47 31) + (1 : Int32)))) else none)))) else none))) else none)))))
set_option maxHeartbeats 4000000 in
set_option maxRecDepth 100000 in
theorem c_X12_clause (g : Gx) (d : Nat)  {w : Mm} {p : Mm} (hL : Lay w) (h : f_X12_clause w = some p) : Call g (d + 8) yX12_clause cX12_clause 1 none [rf g 47] w none p := by
  refine call_of (L0 := [some (rf g 47)]) (by decide) rfl (Nat.le_of_ble_eq_true rfl) (fun V S0 => ?_)
  have S := S0.b
  unfold f_X12_clause at h
  refine i_aload_n S dX12_clause_0 rfl ?_
  obtain ⟨p1, e1, h⟩ := bn h
  refine i_callV (As := []) (st1 := [.int p1]) S (c_X12_here g (d + 6) hL e1) mw_X12_here lk_X12_207 im_X12_here se_X12_here ci_12.1 ci_12.2.1 (k47 hL) dX12_clause_1 rfl rfl (Nat.le_of_ble_eq_true rfl) rfl ?_
  refine i_bipush (v := 107) S dX12_clause_4 bp_107 ?_
  obtain ⟨p3, e3, h⟩ := bn h
  have hj3 : ∀ q3, p3 = q3 → V 39 [some (rf g 47)] [] q3 := by
    intro q3 hq3
    subst hq3
    refine i_aload_n S dX12_clause_39 rfl ?_
    obtain ⟨hL4, h⟩ := onLn h
    obtain ⟨p5, e5, h⟩ := bn h
    refine i_callV (As := []) (st1 := [.int p5]) S (c_X12_isGood g (d + 6) hL4 e5) mw_X12_isGood lk_X12_190 im_X12_isGood se_X12_isGood ci_12.1 ci_12.2.1 (k47 hL4) dX12_clause_40 rfl rfl (Nat.le_of_ble_eq_true rfl) rfl ?_
    refine i_if_ne (tgt := 47) S dX12_clause_43 (by decide) (fun q6 => ?_) (fun q6 => ?_)
    · replace h := (if_neg q6).symm.trans h
      refine i_aload_n S dX12_clause_47 rfl ?_
      refine i_getR S fl_X12_60 (k47 hL4) (r47_23 hL4) rfl dX12_clause_48 ?_
      refine i_aload_n S dX12_clause_51 rfl ?_
      refine i_getIv (v := gI p3 47 31) S fl_X12_277 (k47 hL4) rfl rfl dX12_clause_52 ?_
      refine i_aload_n S dX12_clause_55 rfl ?_
      refine i_getIv (v := gI p3 47 32) S fl_X12_194 (k47 hL4) rfl rfl dX12_clause_56 ?_
      obtain ⟨hi8, h⟩ := gd h
      refine i_iast S (k63 hL4) hi8 dX12_clause_59 ?_
      refine i_aload_n S dX12_clause_60 rfl ?_
      refine i_dup S dX12_clause_61 rfl ?_
      refine i_getIv (v := gI p3 47 28) S fl_X12_181 (k47 hL4) rfl rfl dX12_clause_62 ?_
      refine i_iconst (v := 1) S dX12_clause_65 ic_1 ?_
      refine i_iadd S dX12_clause_66 ?_
      refine i_putI S fl_X12_181 (k47 hL4) rfl rfl rfl dX12_clause_67 ?_
      refine i_aload_n S dX12_clause_70 rfl ?_
      refine i_iconst (v := 0) S dX12_clause_71 ic_0 ?_
      refine i_putI S fl_X12_197 (k47 hL4) rfl rfl rfl dX12_clause_72 ?_
      refine i_aload_n S dX12_clause_75 rfl ?_
      refine i_iconst (v := 0) S dX12_clause_76 ic_0 ?_
      refine i_putI S fl_X12_200 (k47 hL4) rfl rfl rfl dX12_clause_77 ?_
      refine i_aload_n S dX12_clause_80 rfl ?_
      obtain ⟨p9, e9, h⟩ := bn h
      refine i_callV (As := []) (st1 := []) S (c_X12_value g (d + 2) hL4 e9) mw_X12_value lk_X12_256 im_X12_value se_X12_value ci_12.1 ci_12.2.1 (k47 hL4) dX12_clause_81 rfl rfl (Nat.le_of_ble_eq_true rfl) rfl ?_
      refine i_aload_n S dX12_clause_84 rfl ?_
      obtain ⟨hL10, h⟩ := onLn h
      refine i_getR S fl_X12_63 (k47 hL10) (r47_24 hL10) rfl dX12_clause_85 ?_
      refine i_aload_n S dX12_clause_88 rfl ?_
      refine i_getIv (v := gI p9 47 31) S fl_X12_277 (k47 hL10) rfl rfl dX12_clause_89 ?_
      refine i_aload_n S dX12_clause_92 rfl ?_
      refine i_getIv (v := gI p9 47 32) S fl_X12_194 (k47 hL10) rfl rfl dX12_clause_93 ?_
      obtain ⟨hi12, h⟩ := gd h
      refine i_iast S (k64 hL10) hi12 dX12_clause_96 ?_
      refine i_aload_n S dX12_clause_97 rfl ?_
      obtain ⟨p13, e13, h⟩ := bn h
      refine i_callV (As := []) (st1 := [.int p13]) S (c_X12_isGood g (d + 6) hL10 e13) mw_X12_isGood lk_X12_190 im_X12_isGood se_X12_isGood ci_12.1 ci_12.2.1 (k47 hL10) dX12_clause_98 rfl rfl (Nat.le_of_ble_eq_true rfl) rfl ?_
      obtain ⟨p15, e15, h⟩ := bn h
      have hj15 : ∀ q15, p15 = q15 → V 108 [some (rf g 47)] [] q15 := by
        intro q15 hq15
        subst hq15
        refine i_aload_n S dX12_clause_108 rfl ?_
        obtain ⟨hL16, h⟩ := onLn h
        refine i_getR S fl_X12_66 (k47 hL16) (r47_25 hL16) rfl dX12_clause_109 ?_
        refine i_aload_n S dX12_clause_112 rfl ?_
        refine i_getIv (v := gI p15 47 31) S fl_X12_277 (k47 hL16) rfl rfl dX12_clause_113 ?_
        refine i_aload_n S dX12_clause_116 rfl ?_
        refine i_getIv (v := gI p15 47 32) S fl_X12_194 (k47 hL16) rfl rfl dX12_clause_117 ?_
        obtain ⟨hi18, h⟩ := gd h
        refine i_iast S (k65 hL16) hi18 dX12_clause_120 ?_
        refine i_aload_n S dX12_clause_121 rfl ?_
        refine i_dup S dX12_clause_122 rfl ?_
        refine i_getIv (v := gI p15 47 31) S fl_X12_277 (k47 hL16) rfl rfl dX12_clause_123 ?_
        refine i_iconst (v := 1) S dX12_clause_126 ic_1 ?_
        refine i_iadd S dX12_clause_127 ?_
        refine i_putI S fl_X12_277 (k47 hL16) rfl rfl rfl dX12_clause_128 ?_
        cases h
        exact i_vret S0 dX12_clause_131
      replace h := e15
      clear e15
      refine i_if_eq (tgt := 108) S dX12_clause_101 (by decide) (fun q14 => ?_) (fun q14 => ?_)
      · replace h := (if_pos q14).symm.trans h
        have hz := hj15 _ (Option.some.inj h).symm
        exact hz
      · replace h := (if_neg q14).symm.trans h
        refine i_aload_n S dX12_clause_104 rfl ?_
        obtain ⟨p19, e19, h⟩ := bn h
        refine i_callV (As := []) (st1 := []) S (c_X12_condition g d hL10 e19) mw_X12_condition lk_X12_280 im_X12_condition se_X12_condition ci_12.1 ci_12.2.1 (k47 hL10) dX12_clause_105 rfl rfl (Nat.le_of_ble_eq_true rfl) rfl ?_
        have hz := hj15 _ (Option.some.inj h).symm
        exact hz
    · replace h := (if_pos q6).symm.trans h
      cases h
      exact i_vret S0 dX12_clause_46
  replace h := e3
  clear e3
  refine i_icmp_eq (tgt := 21) S dX12_clause_6 (by decide) (fun q2 => ?_) (fun q2 => ?_)
  · replace h := (if_pos q2).symm.trans h
    refine i_aload_n S dX12_clause_21 rfl ?_
    refine i_getIv (v := gI w 47 31) S fl_X12_277 (k47 hL) rfl rfl dX12_clause_22 ?_
    refine i_bipush (v := 12) S dX12_clause_25 bp_12 ?_
    refine i_icmp_ne (tgt := 39) S dX12_clause_27 (by decide) (fun q20 => ?_) (fun q20 => ?_)
    · replace h := (if_neg q20).symm.trans h
      have hz := hj3 _ (Option.some.inj h).symm
      exact hz
    · replace h := (if_pos q20).symm.trans h
      refine i_aload_n S dX12_clause_30 rfl ?_
      refine i_iconst (v := 4) S dX12_clause_31 ic_4 ?_
      refine i_aload_n S dX12_clause_32 rfl ?_
      refine i_getIv (v := gI w 47 28) S fl_X12_181 (k47 hL) rfl rfl dX12_clause_33 ?_
      obtain ⟨p21, e21, h⟩ := bn h
      refine i_callV (As := [.int ((4 : Int32)), .int (gI w 47 28)]) (st1 := []) S (c_X12_wrongs g (d + 6) hL e21) mw_X12_wrongs lk_X12_203 im_X12_wrongs se_X12_wrongs ci_12.1 ci_12.2.1 (k47 hL) dX12_clause_36 rfl rfl (Nat.le_of_ble_eq_true rfl) rfl ?_
      have hz := hj3 _ (Option.some.inj h).symm
      exact hz
  · replace h := (if_neg q2).symm.trans h
    refine i_aload_n S dX12_clause_9 rfl ?_
    refine i_iconst (v := 1) S dX12_clause_10 ic_1 ?_
    refine i_aload_n S dX12_clause_11 rfl ?_
    refine i_getIv (v := gI w 47 28) S fl_X12_181 (k47 hL) rfl rfl dX12_clause_12 ?_
    obtain ⟨p22, e22, h⟩ := bn h
    refine i_callV (As := [.int ((1 : Int32)), .int (gI w 47 28)]) (st1 := []) S (c_X12_wrongs g (d + 6) hL e22) mw_X12_wrongs lk_X12_203 im_X12_wrongs se_X12_wrongs ci_12.1 ci_12.2.1 (k47 hL) dX12_clause_15 rfl rfl (Nat.le_of_ble_eq_true rfl) rfl ?_
    refine i_goto (tgt := 39) S dX12_clause_18 (by decide) ?_
    have hz := hj3 _ (Option.some.inj h).symm
    exact hz
/-! WordYearModel.begins -/
noncomputable def f_X12_begins (x1 : Int32) (w : Mm) : Option Mm := some (sI (sI (sI (sI (sI (sI w 47 1 (0 : Int32)) 47 28 (0 : Int32)) 47 29 x1) 47 30 (0 : Int32)) 47 34 (0 : Int32)) 47 33 (0 : Int32))
set_option maxHeartbeats 4000000 in
set_option maxRecDepth 100000 in
theorem c_X12_begins (g : Gx) (d : Nat) {x1 : Int32} {w : Mm} {p : Mm} (hL : Lay w) (h : f_X12_begins x1 w = some p) : Call g (d + 1) yX12_begins cX12_begins 2 none [rf g 47, .int x1] w none p := by
  refine call_of (L0 := [some (rf g 47), some (.int x1)]) (by decide) rfl (Nat.le_of_ble_eq_true rfl) (fun V S0 => ?_)
  have S := S0.b
  unfold f_X12_begins at h
  refine i_aload_n S dX12_begins_0 rfl ?_
  refine i_iconst (v := 0) S dX12_begins_1 ic_0 ?_
  refine i_putI S fl_X12_174 (k47 hL) rfl rfl rfl dX12_begins_2 ?_
  refine i_aload_n S dX12_begins_5 rfl ?_
  refine i_iconst (v := 0) S dX12_begins_6 ic_0 ?_
  refine i_putI S fl_X12_181 (k47 hL) rfl rfl rfl dX12_begins_7 ?_
  refine i_aload_n S dX12_begins_10 rfl ?_
  refine i_iload_n S dX12_begins_11 rfl ?_
  refine i_putI S fl_X12_184 (k47 hL) rfl rfl rfl dX12_begins_12 ?_
  refine i_aload_n S dX12_begins_15 rfl ?_
  refine i_iconst (v := 0) S dX12_begins_16 ic_0 ?_
  refine i_putI S fl_X12_187 (k47 hL) rfl rfl rfl dX12_begins_17 ?_
  refine i_aload_n S dX12_begins_20 rfl ?_
  refine i_iconst (v := 0) S dX12_begins_21 ic_0 ?_
  refine i_putI S fl_X12_197 (k47 hL) rfl rfl rfl dX12_begins_22 ?_
  refine i_aload_n S dX12_begins_25 rfl ?_
  refine i_iconst (v := 0) S dX12_begins_26 ic_0 ?_
  refine i_putI S fl_X12_200 (k47 hL) rfl rfl rfl dX12_begins_27 ?_
  cases h
  exact i_vret S0 dX12_begins_30
/-! WordYearModel.near -/
noncomputable def l_X12_near_39  (s : Int32 × Mm) : Option ((Int32 × Mm) ⊕ (Mm)) := if s.1 = 0 then (some (.inr s.2)) else (onL s.2 (Option.bind (f_X12_isGood s.2) (fun p3 => if p3 = 0 then (some (.inr s.2)) else (Option.bind (f_X12_clause s.2) (fun p5 => onL p5 (Option.bind (f_X12_isGood p5) (fun p7 => Option.bind (mg (if p7 = 0 then (some (.inl ())) else (if (gI p5 47 29) ≤ (gI p5 47 28) then (some (.inl ())) else (some (.inr (1 : Int32))))) (fun p16 => some (0 : Int32))) (fun p9 => if p9 = 0 then (some (.inl (p9, p5))) else (Option.bind (f_X12_here p5) (fun p11 => Option.bind (if p11 = (59 : Int32) then (some p5) else (Option.bind (f_X12_wrongs (1 : Int32) (gI p5 47 28) p5) (fun p15 => some p15))) (fun p13 => onL p13 (some (.inl (p9, sI p13 47 28 ((gI p13 47 28) + (1 : Int32))))))))))))))))
noncomputable def l_X12_near_127  (s : Int32 × Mm) : Option ((Int32 × Mm) ⊕ (Mm)) := onL s.2 (if (gI s.2 47 31) ≤ s.1 then (some (.inr s.2)) else (if inb s.1 12 = true then (some (.inl (s.1 + (1 : Int32), sI (sI (sI s.2 58 (ix s.1) (gI s.2 63 (ix s.1))) 59 (ix s.1) (gI s.2 64 (ix s.1))) 60 (ix s.1) (gI s.2 65 (ix s.1))))) else none))
noncomputable def l_X12_near_179  (s : Int32 × Mm) : Option ((Int32 × Mm) ⊕ (Mm)) := onL s.2 (if (gI s.2 47 32) ≤ s.1 then (some (.inr s.2)) else (if inb s.1 160 = true then (some (.inl (s.1 + (1 : Int32), sI (sI s.2 61 (ix s.1) (gI s.2 66 (ix s.1))) 62 (ix s.1) (gI s.2 67 (ix s.1))))) else none))
noncomputable def f_X12_near (x1 : Int32) (w : Mm) : Option (Int32 × Mm) := if (f_X12_lies x1.toInt64 (1 : Int64) (160 : Int64)) = 0 then (some ((-1 : Int32), w)) else (if x1 ≤ (gI w 47 1) then (Option.bind (f_X12_begins x1 w) (fun p3 => onL p3 (Option.bind (wh l_X12_near_39 FUEL ((1 : Int32), sI (sI p3 47 31 (0 : Int32)) 47 32 (0 : Int32))) (fun p5 => onL p5 (if 0 ≤ (gI p5 47 30) then (Option.bind (wh l_X12_near_127 FUEL ((0 : Int32), p5)) (fun p8 => Option.bind (wh l_X12_near_179 FUEL ((0 : Int32), p8)) (fun p9 => onL p9 (Option.bind (f_X12_changes (sI p9 47 17 (gI p9 47 31))) (fun p11 => onL p11 (some (gI p11 47 17, p11))))))) else (some (gI p5 47 30, p5))))))) else (some ((-1 : Int32), w)))
set_option maxHeartbeats 4000000 in
set_option maxRecDepth 100000 in
theorem t_l_X12_near_39 {g : Gx} {V : Vt} {d : Nat} (S : MachB g yX12_near cX12_near 4 (d + 8) V)   (s : Int32 × Mm) (e : (Int32 × Mm) ⊕ (Mm)) (h : l_X12_near_39  s = some e) (hC : ∀ s2, e = .inl s2 → V 39 [some (rf g 47), none, some (.int s2.1), none] [] s2.2) (hE : ∀ x, e = .inr x → V 113 [some (rf g 47), none, none, none] [] x) : V 39 [some (rf g 47), none, some (.int s.1), none] [] s.2 := by
  unfold l_X12_near_39 at h
  refine i_iload_n S dX12_near_39 rfl ?_
  refine i_if_eq (tgt := 113) S dX12_near_40 (by decide) (fun q1 => ?_) (fun q1 => ?_)
  · replace h := (if_pos q1).symm.trans h
    refine i_mask (L1 := [some (rf g 47), none, none, none]) S [true, false, false, false] rfl ?_
    have hz := hE _ (Option.some.inj h).symm
    exact hz
  · replace h := (if_neg q1).symm.trans h
    refine i_aload_n S dX12_near_43 rfl ?_
    obtain ⟨hL2, h⟩ := onLn h
    obtain ⟨p3, e3, h⟩ := bn h
    refine i_callV (As := []) (st1 := [.int p3]) S (c_X12_isGood g (d + 7) hL2 e3) mw_X12_isGood lk_X12_190 im_X12_isGood se_X12_isGood ci_12.1 ci_12.2.1 (k47 hL2) dX12_near_44 rfl rfl (Nat.le_of_ble_eq_true rfl) rfl ?_
    refine i_if_eq (tgt := 113) S dX12_near_47 (by decide) (fun q4 => ?_) (fun q4 => ?_)
    · replace h := (if_pos q4).symm.trans h
      refine i_mask (L1 := [some (rf g 47), none, none, none]) S [true, false, false, false] rfl ?_
      have hz := hE _ (Option.some.inj h).symm
      exact hz
    · replace h := (if_neg q4).symm.trans h
      refine i_aload_n S dX12_near_50 rfl ?_
      obtain ⟨p5, e5, h⟩ := bn h
      refine i_callV (As := []) (st1 := []) S (c_X12_clause g d hL2 e5) mw_X12_clause lk_X12_288 im_X12_clause se_X12_clause ci_12.1 ci_12.2.1 (k47 hL2) dX12_near_51 rfl rfl (Nat.le_of_ble_eq_true rfl) rfl ?_
      refine i_aload_n S dX12_near_54 rfl ?_
      obtain ⟨hL6, h⟩ := onLn h
      obtain ⟨p7, e7, h⟩ := bn h
      refine i_callV (As := []) (st1 := [.int p7]) S (c_X12_isGood g (d + 7) hL6 e7) mw_X12_isGood lk_X12_190 im_X12_isGood se_X12_isGood ci_12.1 ci_12.2.1 (k47 hL6) dX12_near_55 rfl rfl (Nat.le_of_ble_eq_true rfl) rfl ?_
      obtain ⟨p9, e9, h⟩ := bn h
      have hj9 : ∀ q9, p9 = q9 → V 77 [some (rf g 47), none, none, none] [.int q9] p5 := by
        intro q9 hq9
        subst hq9
        refine i_istore_n (L1 := [some (rf g 47), none, some (.int p9), none]) S dX12_near_77 (by decide) rfl ?_
        refine i_iload_n S dX12_near_78 rfl ?_
        refine i_if_eq (tgt := 39) S dX12_near_79 (by decide) (fun q10 => ?_) (fun q10 => ?_)
        · replace h := (if_pos q10).symm.trans h
          have hz := hC _ (Option.some.inj h).symm
          exact hz
        · replace h := (if_neg q10).symm.trans h
          refine i_aload_n S dX12_near_82 rfl ?_
          obtain ⟨p11, e11, h⟩ := bn h
          refine i_callV (As := []) (st1 := [.int p11]) S (c_X12_here g (d + 7) hL6 e11) mw_X12_here lk_X12_207 im_X12_here se_X12_here ci_12.1 ci_12.2.1 (k47 hL6) dX12_near_83 rfl rfl (Nat.le_of_ble_eq_true rfl) rfl ?_
          refine i_bipush (v := 59) S dX12_near_86 bp_59 ?_
          obtain ⟨p13, e13, h⟩ := bn h
          have hj13 : ∀ q13, p13 = q13 → V 100 [some (rf g 47), none, some (.int p9), none] [] q13 := by
            intro q13 hq13
            subst hq13
            refine i_aload_n S dX12_near_100 rfl ?_
            refine i_dup S dX12_near_101 rfl ?_
            obtain ⟨hL14, h⟩ := onLn h
            refine i_getIv (v := gI p13 47 28) S fl_X12_181 (k47 hL14) rfl rfl dX12_near_102 ?_
            refine i_iconst (v := 1) S dX12_near_105 ic_1 ?_
            refine i_iadd S dX12_near_106 ?_
            refine i_putI S fl_X12_181 (k47 hL14) rfl rfl rfl dX12_near_107 ?_
            refine i_goto (tgt := 39) S dX12_near_110 (by decide) ?_
            have hz := hC _ (Option.some.inj h).symm
            exact hz
          replace h := e13
          clear e13
          refine i_icmp_eq (tgt := 100) S dX12_near_88 (by decide) (fun q12 => ?_) (fun q12 => ?_)
          · replace h := (if_pos q12).symm.trans h
            have hz := hj13 _ (Option.some.inj h).symm
            exact hz
          · replace h := (if_neg q12).symm.trans h
            refine i_aload_n S dX12_near_91 rfl ?_
            refine i_iconst (v := 1) S dX12_near_92 ic_1 ?_
            refine i_aload_n S dX12_near_93 rfl ?_
            refine i_getIv (v := gI p5 47 28) S fl_X12_181 (k47 hL6) rfl rfl dX12_near_94 ?_
            obtain ⟨p15, e15, h⟩ := bn h
            refine i_callV (As := [.int ((1 : Int32)), .int (gI p5 47 28)]) (st1 := []) S (c_X12_wrongs g (d + 7) hL6 e15) mw_X12_wrongs lk_X12_203 im_X12_wrongs se_X12_wrongs ci_12.1 ci_12.2.1 (k47 hL6) dX12_near_97 rfl rfl (Nat.le_of_ble_eq_true rfl) rfl ?_
            have hz := hj13 _ (Option.some.inj h).symm
            exact hz
      replace h := e9
      clear e9
      obtain ⟨s16, e16, hm16, ho16⟩ := mgn h
      have hj16 : ∀ p16, s16 = .inl p16 → V 76 [some (rf g 47), none, none, none] [] p5 := by
        intro p16 ep16
        have h := hm16 p16 ep16
        refine i_iconst (v := 0) S dX12_near_76 ic_0 ?_
        have hz := hj9 _ (Option.some.inj h).symm
        exact hz
      replace h := e16
      clear e16
      refine i_if_eq (tgt := 76) S dX12_near_58 (by decide) (fun q8 => ?_) (fun q8 => ?_)
      · replace h := (if_pos q8).symm.trans h
        refine i_mask (L1 := [some (rf g 47), none, none, none]) S [true, false, false, false] rfl ?_
        have hz := hj16 _ (Option.some.inj h).symm
        exact hz
      · replace h := (if_neg q8).symm.trans h
        refine i_aload_n S dX12_near_61 rfl ?_
        refine i_getIv (v := gI p5 47 28) S fl_X12_181 (k47 hL6) rfl rfl dX12_near_62 ?_
        refine i_aload_n S dX12_near_65 rfl ?_
        refine i_getIv (v := gI p5 47 29) S fl_X12_184 (k47 hL6) rfl rfl dX12_near_66 ?_
        refine i_icmp_ge (tgt := 76) S dX12_near_69 (by decide) (fun q17 => ?_) (fun q17 => ?_)
        · replace h := (if_pos q17).symm.trans h
          refine i_mask (L1 := [some (rf g 47), none, none, none]) S [true, false, false, false] rfl ?_
          have hz := hj16 _ (Option.some.inj h).symm
          exact hz
        · replace h := (if_neg q17).symm.trans h
          refine i_iconst (v := 1) S dX12_near_72 ic_1 ?_
          refine i_goto (tgt := 77) S dX12_near_73 (by decide) ?_
          replace h := ho16 _ (Option.some.inj h).symm
          refine i_mask (L1 := [some (rf g 47), none, none, none]) S [true, false, false, false] rfl ?_
          have hz := hj9 _ (Option.some.inj h).symm
          exact hz
set_option maxHeartbeats 4000000 in
set_option maxRecDepth 100000 in
theorem t_l_X12_near_127 {g : Gx} {V : Vt} {d : Nat} (S : MachB g yX12_near cX12_near 4 (d + 8) V)   (s : Int32 × Mm) (e : (Int32 × Mm) ⊕ (Mm)) (h : l_X12_near_127  s = some e) (hC : ∀ s2, e = .inl s2 → V 127 [some (rf g 47), none, none, some (.int s2.1)] [] s2.2) (hE : ∀ x, e = .inr x → V 177 [some (rf g 47), none, none, none] [] x) : V 127 [some (rf g 47), none, none, some (.int s.1)] [] s.2 := by
  unfold l_X12_near_127 at h
  refine i_iload_n S dX12_near_127 rfl ?_
  refine i_aload_n S dX12_near_128 rfl ?_
  obtain ⟨hL1, h⟩ := onLn h
  refine i_getIv (v := gI s.2 47 31) S fl_X12_277 (k47 hL1) rfl rfl dX12_near_129 ?_
  refine i_icmp_ge (tgt := 177) S dX12_near_132 (by decide) (fun q2 => ?_) (fun q2 => ?_)
  · replace h := (if_pos q2).symm.trans h
    refine i_mask (L1 := [some (rf g 47), none, none, none]) S [true, false, false, false] rfl ?_
    have hz := hE _ (Option.some.inj h).symm
    exact hz
  · replace h := (if_neg q2).symm.trans h
    refine i_aload_n S dX12_near_135 rfl ?_
    refine i_getR S fl_X12_45 (k47 hL1) (r47_18 hL1) rfl dX12_near_136 ?_
    refine i_iload_n S dX12_near_139 rfl ?_
    refine i_aload_n S dX12_near_140 rfl ?_
    refine i_getR S fl_X12_60 (k47 hL1) (r47_23 hL1) rfl dX12_near_141 ?_
    refine i_iload_n S dX12_near_144 rfl ?_
    obtain ⟨hi4, h⟩ := gd h
    refine i_ialdv (v := gI s.2 63 (ix s.1)) S (k63 hL1) hi4 rfl dX12_near_145 ?_
    refine i_iast S (k58 hL1) hi4 dX12_near_146 ?_
    refine i_aload_n S dX12_near_147 rfl ?_
    refine i_getR S fl_X12_48 (k47 hL1) (r47_19 hL1) rfl dX12_near_148 ?_
    refine i_iload_n S dX12_near_151 rfl ?_
    refine i_aload_n S dX12_near_152 rfl ?_
    refine i_getR S fl_X12_63 (k47 hL1) (r47_24 hL1) rfl dX12_near_153 ?_
    refine i_iload_n S dX12_near_156 rfl ?_
    refine i_ialdv (v := gI s.2 64 (ix s.1)) S (k64 hL1) hi4 rfl dX12_near_157 ?_
    refine i_iast S (k59 hL1) hi4 dX12_near_158 ?_
    refine i_aload_n S dX12_near_159 rfl ?_
    refine i_getR S fl_X12_51 (k47 hL1) (r47_20 hL1) rfl dX12_near_160 ?_
    refine i_iload_n S dX12_near_163 rfl ?_
    refine i_aload_n S dX12_near_164 rfl ?_
    refine i_getR S fl_X12_66 (k47 hL1) (r47_25 hL1) rfl dX12_near_165 ?_
    refine i_iload_n S dX12_near_168 rfl ?_
    refine i_ialdv (v := gI s.2 65 (ix s.1)) S (k65 hL1) hi4 rfl dX12_near_169 ?_
    refine i_iast S (k60 hL1) hi4 dX12_near_170 ?_
    refine i_iinc (L1 := [some (rf g 47), none, none, some (.int (s.1 + (1 : Int32)))]) S dX12_near_171 rfl ic_1 (by decide) rfl ?_
    refine i_goto (tgt := 127) S dX12_near_174 (by decide) ?_
    have hz := hC _ (Option.some.inj h).symm
    exact hz
set_option maxHeartbeats 4000000 in
set_option maxRecDepth 100000 in
theorem t_l_X12_near_179 {g : Gx} {V : Vt} {d : Nat} (S : MachB g yX12_near cX12_near 4 (d + 8) V)   (s : Int32 × Mm) (e : (Int32 × Mm) ⊕ (Mm)) (h : l_X12_near_179  s = some e) (hC : ∀ s2, e = .inl s2 → V 179 [some (rf g 47), none, none, some (.int s2.1)] [] s2.2) (hE : ∀ x, e = .inr x → V 217 [some (rf g 47), none, none, none] [] x) : V 179 [some (rf g 47), none, none, some (.int s.1)] [] s.2 := by
  unfold l_X12_near_179 at h
  refine i_iload_n S dX12_near_179 rfl ?_
  refine i_aload_n S dX12_near_180 rfl ?_
  obtain ⟨hL1, h⟩ := onLn h
  refine i_getIv (v := gI s.2 47 32) S fl_X12_194 (k47 hL1) rfl rfl dX12_near_181 ?_
  refine i_icmp_ge (tgt := 217) S dX12_near_184 (by decide) (fun q2 => ?_) (fun q2 => ?_)
  · replace h := (if_pos q2).symm.trans h
    refine i_mask (L1 := [some (rf g 47), none, none, none]) S [true, false, false, false] rfl ?_
    have hz := hE _ (Option.some.inj h).symm
    exact hz
  · replace h := (if_neg q2).symm.trans h
    refine i_aload_n S dX12_near_187 rfl ?_
    refine i_getR S fl_X12_54 (k47 hL1) (r47_21 hL1) rfl dX12_near_188 ?_
    refine i_iload_n S dX12_near_191 rfl ?_
    refine i_aload_n S dX12_near_192 rfl ?_
    refine i_getR S fl_X12_69 (k47 hL1) (r47_26 hL1) rfl dX12_near_193 ?_
    refine i_iload_n S dX12_near_196 rfl ?_
    obtain ⟨hi4, h⟩ := gd h
    refine i_ialdv (v := gI s.2 66 (ix s.1)) S (k66 hL1) hi4 rfl dX12_near_197 ?_
    refine i_iast S (k61 hL1) hi4 dX12_near_198 ?_
    refine i_aload_n S dX12_near_199 rfl ?_
    refine i_getR S fl_X12_57 (k47 hL1) (r47_22 hL1) rfl dX12_near_200 ?_
    refine i_iload_n S dX12_near_203 rfl ?_
    refine i_aload_n S dX12_near_204 rfl ?_
    refine i_getR S fl_X12_72 (k47 hL1) (r47_27 hL1) rfl dX12_near_205 ?_
    refine i_iload_n S dX12_near_208 rfl ?_
    refine i_ialdv (v := gI s.2 67 (ix s.1)) S (k67 hL1) hi4 rfl dX12_near_209 ?_
    refine i_iast S (k62 hL1) hi4 dX12_near_210 ?_
    refine i_iinc (L1 := [some (rf g 47), none, none, some (.int (s.1 + (1 : Int32)))]) S dX12_near_211 rfl ic_1 (by decide) rfl ?_
    refine i_goto (tgt := 179) S dX12_near_214 (by decide) ?_
    have hz := hC _ (Option.some.inj h).symm
    exact hz
set_option maxHeartbeats 4000000 in
set_option maxRecDepth 100000 in
theorem c_X12_near (g : Gx) (d : Nat) {x1 : Int32} {w : Mm} {p : (Int32 × Mm)} (hL : Lay w) (h : f_X12_near x1 w = some p) : Call g (d + 9) yX12_near cX12_near 4 (some .int) [rf g 47, .int x1] w (some (.int p.1)) p.2 := by
  refine call_of (L0 := [some (rf g 47), some (.int x1), none, none]) (by decide) rfl (Nat.le_of_ble_eq_true rfl) (fun V S0 => ?_)
  have S := S0.b
  unfold f_X12_near at h
  refine i_iload_n S dX12_near_0 rfl ?_
  refine i_i2l S dX12_near_1 ?_
  refine i_lconst (v := 1) S dX12_near_2 lc_1 ?_
  refine i_ldc2 S kl_X12_283 dX12_near_3 ?_
  refine i_callS (As := [.long x1.toInt64, .long ((1 : Int64)), .long ((160 : Int64))]) (st1 := [.int (f_X12_lies x1.toInt64 (1 : Int64) (160 : Int64))]) S (c_X12_lies g (d + 7) rfl) mw_X12_lies lk_X12_138 im_X12_lies dX12_near_6 rfl rfl (Nat.le_of_ble_eq_true rfl) rfl ?_
  refine i_if_eq (tgt := 20) S dX12_near_9 (by decide) (fun q1 => ?_) (fun q1 => ?_)
  · replace h := (if_pos q1).symm.trans h
    refine i_iconst (v := -1) S dX12_near_20 ic_m1 ?_
    cases h
    exact i_iret S0 rfl dX12_near_21
  · replace h := (if_neg q1).symm.trans h
    refine i_iload_n S dX12_near_12 rfl ?_
    refine i_aload_n S dX12_near_13 rfl ?_
    refine i_getIv (v := gI w 47 1) S fl_X12_174 (k47 hL) rfl rfl dX12_near_14 ?_
    refine i_icmp_le (tgt := 22) S dX12_near_17 (by decide) (fun q2 => ?_) (fun q2 => ?_)
    · replace h := (if_pos q2).symm.trans h
      refine i_aload_n S dX12_near_22 rfl ?_
      refine i_iload_n S dX12_near_23 rfl ?_
      obtain ⟨p3, e3, h⟩ := bn h
      refine i_callV (As := [.int x1]) (st1 := []) S (c_X12_begins g (d + 7) hL e3) mw_X12_begins lk_X12_285 im_X12_begins se_X12_begins ci_12.1 ci_12.2.1 (k47 hL) dX12_near_24 rfl rfl (Nat.le_of_ble_eq_true rfl) rfl ?_
      refine i_aload_n S dX12_near_27 rfl ?_
      refine i_iconst (v := 0) S dX12_near_28 ic_0 ?_
      obtain ⟨hL4, h⟩ := onLn h
      refine i_putI S fl_X12_277 (k47 hL4) rfl rfl rfl dX12_near_29 ?_
      refine i_aload_n S dX12_near_32 rfl ?_
      refine i_iconst (v := 0) S dX12_near_33 ic_0 ?_
      refine i_putI S fl_X12_194 (k47 hL4) rfl rfl rfl dX12_near_34 ?_
      refine i_iconst (v := 1) S dX12_near_37 ic_1 ?_
      refine i_istore_n (L1 := [some (rf g 47), some (.int x1), some (.int ((1 : Int32))), none]) S dX12_near_38 (by decide) rfl ?_
      refine i_mask (L1 := [some (rf g 47), none, some (.int ((1 : Int32))), none]) S [true, false, true, false] rfl ?_
      obtain ⟨p5, e5, h⟩ := bn h
      have hE5 : V 113 [some (rf g 47), none, none, none] [] p5 := by
        refine i_aload_n S dX12_near_113 rfl ?_
        obtain ⟨hL6, h⟩ := onLn h
        refine i_getIv (v := gI p5 47 30) S fl_X12_187 (k47 hL6) rfl rfl dX12_near_114 ?_
        refine i_if_ge (tgt := 125) S dX12_near_117 (by decide) (fun q7 => ?_) (fun q7 => ?_)
        · replace h := (if_pos q7).symm.trans h
          refine i_iconst (v := 0) S dX12_near_125 ic_0 ?_
          refine i_istore_n (L1 := [some (rf g 47), none, none, some (.int ((0 : Int32)))]) S dX12_near_126 (by decide) rfl ?_
          obtain ⟨p8, e8, h⟩ := bn h
          have hE8 : V 177 [some (rf g 47), none, none, none] [] p8 := by
            refine i_iconst (v := 0) S dX12_near_177 ic_0 ?_
            refine i_istore_n (L1 := [some (rf g 47), none, none, some (.int ((0 : Int32)))]) S dX12_near_178 (by decide) rfl ?_
            obtain ⟨p9, e9, h⟩ := bn h
            have hE9 : V 217 [some (rf g 47), none, none, none] [] p9 := by
              refine i_aload_n S dX12_near_217 rfl ?_
              refine i_aload_n S dX12_near_218 rfl ?_
              obtain ⟨hL10, h⟩ := onLn h
              refine i_getIv (v := gI p9 47 31) S fl_X12_277 (k47 hL10) rfl rfl dX12_near_219 ?_
              refine i_putI S fl_X12_291 (k47 hL10) rfl rfl rfl dX12_near_222 ?_
              refine i_aload_n S dX12_near_225 rfl ?_
              obtain ⟨p11, e11, h⟩ := bn h
              refine i_callV (As := []) (st1 := []) S (c_X12_changes g (d + 7) hL10 e11) mw_X12_changes lk_X12_159 im_X12_changes se_X12_changes ci_12.1 ci_12.2.1 (k47 hL10) dX12_near_226 rfl rfl (Nat.le_of_ble_eq_true rfl) rfl ?_
              refine i_aload_n S dX12_near_229 rfl ?_
              obtain ⟨hL12, h⟩ := onLn h
              refine i_getIv (v := gI p11 47 17) S fl_X12_291 (k47 hL12) rfl rfl dX12_near_230 ?_
              cases h
              exact i_iret S0 rfl dX12_near_233
            exact wh_V (P := fun sv9 => V 179 [some (rf g 47), none, none, some (.int sv9.1)] [] sv9.2) (E := fun xv9 => V 217 [some (rf g 47), none, none, none] [] xv9) (fun sv9 ev hb hc he => t_l_X12_near_179   S  sv9 ev hb hc he) FUEL _ _ e9 hE9
          exact wh_V (P := fun sv8 => V 127 [some (rf g 47), none, none, some (.int sv8.1)] [] sv8.2) (E := fun xv8 => V 177 [some (rf g 47), none, none, none] [] xv8) (fun sv8 ev hb hc he => t_l_X12_near_127   S  sv8 ev hb hc he) FUEL _ _ e8 hE8
        · replace h := (if_neg q7).symm.trans h
          refine i_aload_n S dX12_near_120 rfl ?_
          refine i_getIv (v := gI p5 47 30) S fl_X12_187 (k47 hL6) rfl rfl dX12_near_121 ?_
          cases h
          exact i_iret S0 rfl dX12_near_124
      exact wh_V (P := fun sv5 => V 39 [some (rf g 47), none, some (.int sv5.1), none] [] sv5.2) (E := fun xv5 => V 113 [some (rf g 47), none, none, none] [] xv5) (fun sv5 ev hb hc he => t_l_X12_near_39   S  sv5 ev hb hc he) FUEL _ _ e5 hE5
    · replace h := (if_neg q2).symm.trans h
      refine i_iconst (v := -1) S dX12_near_20 ic_m1 ?_
      cases h
      exact i_iret S0 rfl dX12_near_21
/-! WordYearModel.valueOf -/
noncomputable def f_X12_valueOf (x1 : Int32) (w : Mm) : Option Int32 := if x1 = 97 then (some (gI w 47 38)) else (if x1 = 98 then (Option.bind (f_X12_sizeOf ((gI w 47 38) &&& (gI w 47 39))) (fun p3 => some p3)) else (if x1 = 99 then (some (gI w 47 39)) else (if x1 = 115 then (Option.bind (f_X12_sizeOf (gI w 47 39)) (fun p6 => some p6)) else (if x1 = 119 then (Option.bind (f_X12_sizeOf (gI w 47 38)) (fun p8 => some p8)) else (if x1 = 120 then (Option.bind (f_X12_sizeOf ((gI w 47 39) &&& ((gI w 47 38) ^^^ (-1 : Int32)))) (fun p10 => some p10)) else (if x1 = 121 then (Option.bind (f_X12_sizeOf ((gI w 47 38) &&& ((gI w 47 39) ^^^ (-1 : Int32)))) (fun p12 => some p12)) else (some (gI w 47 40))))))))
set_option maxHeartbeats 4000000 in
set_option maxRecDepth 100000 in
theorem c_X12_valueOf (g : Gx) (d : Nat) {x1 : Int32} {w : Mm} {p : Int32} (hL : Lay w) (h : f_X12_valueOf x1 w = some p) : Call g (d + 2) yX12_valueOf cX12_valueOf 2 (some .int) [rf g 47, .int x1] w (some (.int p)) w := by
  refine call_of (L0 := [some (rf g 47), some (.int x1)]) (by decide) rfl (Nat.le_of_ble_eq_true rfl) (fun V S0 => ?_)
  have S := S0.b
  unfold f_X12_valueOf at h
  refine i_iload_n S dX12_valueOf_0 rfl ?_
  by_cases q1 : x1 = 97
  · replace h := (if_pos q1).symm.trans h
    refine i_tswIn (tgt := 175) (off := 174) S dX12_valueOf_1 (by rw [q1]; decide) (by rw [q1]; decide) (by rw [q1]; decide) (by decide) ?_
    refine i_aload_n S dX12_valueOf_175 rfl ?_
    refine i_getIv (v := gI w 47 38) S fl_X12_294 (k47 hL) rfl rfl dX12_valueOf_176 ?_
    cases h
    exact i_iret S0 rfl dX12_valueOf_179
  · replace h := (if_neg q1).symm.trans h
    by_cases q2 : x1 = 98
    · replace h := (if_pos q2).symm.trans h
      refine i_tswIn (tgt := 132) (off := 131) S dX12_valueOf_1 (by rw [q2]; decide) (by rw [q2]; decide) (by rw [q2]; decide) (by decide) ?_
      refine i_aload_n S dX12_valueOf_132 rfl ?_
      refine i_getIv (v := gI w 47 38) S fl_X12_294 (k47 hL) rfl rfl dX12_valueOf_133 ?_
      refine i_aload_n S dX12_valueOf_136 rfl ?_
      refine i_getIv (v := gI w 47 39) S fl_X12_301 (k47 hL) rfl rfl dX12_valueOf_137 ?_
      refine i_iand S dX12_valueOf_140 ?_
      obtain ⟨p3, e3, h⟩ := bn h
      refine i_callS (As := [.int ((gI w 47 38) &&& (gI w 47 39))]) (st1 := [.int p3]) S (c_X12_sizeOf g d e3) mw_X12_sizeOf lk_X12_297 im_X12_sizeOf dX12_valueOf_141 rfl rfl (Nat.le_of_ble_eq_true rfl) rfl ?_
      cases h
      exact i_iret S0 rfl dX12_valueOf_144
    · replace h := (if_neg q2).symm.trans h
      by_cases q4 : x1 = 99
      · replace h := (if_pos q4).symm.trans h
        refine i_tswIn (tgt := 180) (off := 179) S dX12_valueOf_1 (by rw [q4]; decide) (by rw [q4]; decide) (by rw [q4]; decide) (by decide) ?_
        refine i_aload_n S dX12_valueOf_180 rfl ?_
        refine i_getIv (v := gI w 47 39) S fl_X12_301 (k47 hL) rfl rfl dX12_valueOf_181 ?_
        cases h
        exact i_iret S0 rfl dX12_valueOf_184
      · replace h := (if_neg q4).symm.trans h
        by_cases q5 : x1 = 115
        · replace h := (if_pos q5).symm.trans h
          refine i_tswIn (tgt := 124) (off := 123) S dX12_valueOf_1 (by rw [q5]; decide) (by rw [q5]; decide) (by rw [q5]; decide) (by decide) ?_
          refine i_aload_n S dX12_valueOf_124 rfl ?_
          refine i_getIv (v := gI w 47 39) S fl_X12_301 (k47 hL) rfl rfl dX12_valueOf_125 ?_
          obtain ⟨p6, e6, h⟩ := bn h
          refine i_callS (As := [.int (gI w 47 39)]) (st1 := [.int p6]) S (c_X12_sizeOf g d e6) mw_X12_sizeOf lk_X12_297 im_X12_sizeOf dX12_valueOf_128 rfl rfl (Nat.le_of_ble_eq_true rfl) rfl ?_
          cases h
          exact i_iret S0 rfl dX12_valueOf_131
        · replace h := (if_neg q5).symm.trans h
          by_cases q7 : x1 = 119
          · replace h := (if_pos q7).symm.trans h
            refine i_tswIn (tgt := 116) (off := 115) S dX12_valueOf_1 (by rw [q7]; decide) (by rw [q7]; decide) (by rw [q7]; decide) (by decide) ?_
            refine i_aload_n S dX12_valueOf_116 rfl ?_
            refine i_getIv (v := gI w 47 38) S fl_X12_294 (k47 hL) rfl rfl dX12_valueOf_117 ?_
            obtain ⟨p8, e8, h⟩ := bn h
            refine i_callS (As := [.int (gI w 47 38)]) (st1 := [.int p8]) S (c_X12_sizeOf g d e8) mw_X12_sizeOf lk_X12_297 im_X12_sizeOf dX12_valueOf_120 rfl rfl (Nat.le_of_ble_eq_true rfl) rfl ?_
            cases h
            exact i_iret S0 rfl dX12_valueOf_123
          · replace h := (if_neg q7).symm.trans h
            by_cases q9 : x1 = 120
            · replace h := (if_pos q9).symm.trans h
              refine i_tswIn (tgt := 145) (off := 144) S dX12_valueOf_1 (by rw [q9]; decide) (by rw [q9]; decide) (by rw [q9]; decide) (by decide) ?_
              refine i_aload_n S dX12_valueOf_145 rfl ?_
              refine i_getIv (v := gI w 47 39) S fl_X12_301 (k47 hL) rfl rfl dX12_valueOf_146 ?_
              refine i_aload_n S dX12_valueOf_149 rfl ?_
              refine i_getIv (v := gI w 47 38) S fl_X12_294 (k47 hL) rfl rfl dX12_valueOf_150 ?_
              refine i_iconst (v := -1) S dX12_valueOf_153 ic_m1 ?_
              refine i_ixor S dX12_valueOf_154 ?_
              refine i_iand S dX12_valueOf_155 ?_
              obtain ⟨p10, e10, h⟩ := bn h
              refine i_callS (As := [.int ((gI w 47 39) &&& ((gI w 47 38) ^^^ (-1 : Int32)))]) (st1 := [.int p10]) S (c_X12_sizeOf g d e10) mw_X12_sizeOf lk_X12_297 im_X12_sizeOf dX12_valueOf_156 rfl rfl (Nat.le_of_ble_eq_true rfl) rfl ?_
              cases h
              exact i_iret S0 rfl dX12_valueOf_159
            · replace h := (if_neg q9).symm.trans h
              by_cases q11 : x1 = 121
              · replace h := (if_pos q11).symm.trans h
                refine i_tswIn (tgt := 160) (off := 159) S dX12_valueOf_1 (by rw [q11]; decide) (by rw [q11]; decide) (by rw [q11]; decide) (by decide) ?_
                refine i_aload_n S dX12_valueOf_160 rfl ?_
                refine i_getIv (v := gI w 47 38) S fl_X12_294 (k47 hL) rfl rfl dX12_valueOf_161 ?_
                refine i_aload_n S dX12_valueOf_164 rfl ?_
                refine i_getIv (v := gI w 47 39) S fl_X12_301 (k47 hL) rfl rfl dX12_valueOf_165 ?_
                refine i_iconst (v := -1) S dX12_valueOf_168 ic_m1 ?_
                refine i_ixor S dX12_valueOf_169 ?_
                refine i_iand S dX12_valueOf_170 ?_
                obtain ⟨p12, e12, h⟩ := bn h
                refine i_callS (As := [.int ((gI w 47 38) &&& ((gI w 47 39) ^^^ (-1 : Int32)))]) (st1 := [.int p12]) S (c_X12_sizeOf g d e12) mw_X12_sizeOf lk_X12_297 im_X12_sizeOf dX12_valueOf_171 rfl rfl (Nat.le_of_ble_eq_true rfl) rfl ?_
                cases h
                exact i_iret S0 rfl dX12_valueOf_174
              · replace h := (if_neg q11).symm.trans h
                refine i_tswD (tgt := 185) S dX12_valueOf_1 (by decide) (fun j hj => match j, hj with | 0, _ => Or.inr (tsne q1 (by decide)) | 1, _ => Or.inr (tsne q2 (by decide)) | 2, _ => Or.inr (tsne q4 (by decide)) | 3, _ => Or.inl rfl | 4, _ => Or.inl rfl | 5, _ => Or.inl rfl | 6, _ => Or.inl rfl | 7, _ => Or.inl rfl | 8, _ => Or.inl rfl | 9, _ => Or.inl rfl | 10, _ => Or.inl rfl | 11, _ => Or.inl rfl | 12, _ => Or.inl rfl | 13, _ => Or.inl rfl | 14, _ => Or.inl rfl | 15, _ => Or.inl rfl | 16, _ => Or.inl rfl | 17, _ => Or.inl rfl | 18, _ => Or.inr (tsne q5 (by decide)) | 19, _ => Or.inl rfl | 20, _ => Or.inl rfl | 21, _ => Or.inl rfl | 22, _ => Or.inr (tsne q7 (by decide)) | 23, _ => Or.inr (tsne q9 (by decide)) | 24, _ => Or.inr (tsne q11 (by decide)) | j + 25, hj => absurd hj (by show ¬ j + 25 < 25; omega)) (by decide) ?_
                refine i_aload_n S dX12_valueOf_185 rfl ?_
                refine i_getIv (v := gI w 47 40) S fl_X12_304 (k47 hL) rfl rfl dX12_valueOf_186 ?_
                cases h
                exact i_iret S0 rfl dX12_valueOf_189
/-! WordYearModel.worked -/
noncomputable def f_X12_worked (x0 : Int32) (x1 : Int32) (x2 : Int32) : Int32 := if x0 = 37 then (if x2 = 0 then ((0 : Int32)) else (x1 - x1 / x2 * x2)) else (if x0 = 42 then (x1 * x2) else (if x0 = 43 then (x1 + x2) else (if x0 = 45 then (x1 - x2) else (if x0 = 47 then (if x2 = 0 then ((0 : Int32)) else (x1 / x2)) else (if x0 = 60 then (if x2 ≤ x1 then ((0 : Int32)) else ((1 : Int32))) else (if x0 = 62 then (if x1 ≤ x2 then ((0 : Int32)) else ((1 : Int32))) else (if x1 = x2 then ((1 : Int32)) else ((0 : Int32)))))))))
set_option maxHeartbeats 4000000 in
set_option maxRecDepth 100000 in
theorem c_X12_worked (g : Gx) (d : Nat) {x0 : Int32} {x1 : Int32} {x2 : Int32} {w : Mm} {p : Int32}  (h : f_X12_worked x0 x1 x2 = p) : Call g (d + 1) yX12_worked cX12_worked 3 (some .int) [.int x0, .int x1, .int x2] w (some (.int p)) w := by
  refine call_of (L0 := [some (.int x0), some (.int x1), some (.int x2)]) (by decide) rfl (Nat.le_of_ble_eq_true rfl) (fun V S0 => ?_)
  have S := S0.b
  unfold f_X12_worked at h
  refine i_iload_n S dX12_worked_0 rfl ?_
  by_cases q1 : x0 = 37
  · replace h := (if_pos q1).symm.trans h
    refine i_lsw (tgt := 92) (off := 91) S dX12_worked_1 (by decide) (by rw [q1]; decide) (by decide) ?_
    refine i_iload_n S dX12_worked_92 rfl ?_
    refine i_if_ne (tgt := 100) S dX12_worked_93 (by decide) (fun q2 => ?_) (fun q2 => ?_)
    · replace h := (if_neg q2).symm.trans h
      refine i_iload_n S dX12_worked_100 rfl ?_
      refine i_iload_n S dX12_worked_101 rfl ?_
      refine i_irem S dX12_worked_102 q2 ?_
      subst h
      exact i_iret S0 rfl dX12_worked_103
    · replace h := (if_pos q2).symm.trans h
      refine i_iconst (v := 0) S dX12_worked_96 ic_0 ?_
      refine i_goto (tgt := 103) S dX12_worked_97 (by decide) ?_
      subst h
      exact i_iret S0 rfl dX12_worked_103
  · replace h := (if_neg q1).symm.trans h
    by_cases q3 : x0 = 42
    · replace h := (if_pos q3).symm.trans h
      refine i_lsw (tgt := 76) (off := 75) S dX12_worked_1 (by decide) (by rw [q3]; decide) (by decide) ?_
      refine i_iload_n S dX12_worked_76 rfl ?_
      refine i_iload_n S dX12_worked_77 rfl ?_
      refine i_imul S dX12_worked_78 ?_
      subst h
      exact i_iret S0 rfl dX12_worked_79
    · replace h := (if_neg q3).symm.trans h
      by_cases q4 : x0 = 43
      · replace h := (if_pos q4).symm.trans h
        refine i_lsw (tgt := 68) (off := 67) S dX12_worked_1 (by decide) (by rw [q4]; decide) (by decide) ?_
        refine i_iload_n S dX12_worked_68 rfl ?_
        refine i_iload_n S dX12_worked_69 rfl ?_
        refine i_iadd S dX12_worked_70 ?_
        subst h
        exact i_iret S0 rfl dX12_worked_71
      · replace h := (if_neg q4).symm.trans h
        by_cases q5 : x0 = 45
        · replace h := (if_pos q5).symm.trans h
          refine i_lsw (tgt := 72) (off := 71) S dX12_worked_1 (by decide) (by rw [q5]; decide) (by decide) ?_
          refine i_iload_n S dX12_worked_72 rfl ?_
          refine i_iload_n S dX12_worked_73 rfl ?_
          refine i_isub S dX12_worked_74 ?_
          subst h
          exact i_iret S0 rfl dX12_worked_75
        · replace h := (if_neg q5).symm.trans h
          by_cases q6 : x0 = 47
          · replace h := (if_pos q6).symm.trans h
            refine i_lsw (tgt := 80) (off := 79) S dX12_worked_1 (by decide) (by rw [q6]; decide) (by decide) ?_
            refine i_iload_n S dX12_worked_80 rfl ?_
            refine i_if_ne (tgt := 88) S dX12_worked_81 (by decide) (fun q7 => ?_) (fun q7 => ?_)
            · replace h := (if_neg q7).symm.trans h
              refine i_iload_n S dX12_worked_88 rfl ?_
              refine i_iload_n S dX12_worked_89 rfl ?_
              refine i_idiv S dX12_worked_90 q7 ?_
              subst h
              exact i_iret S0 rfl dX12_worked_91
            · replace h := (if_pos q7).symm.trans h
              refine i_iconst (v := 0) S dX12_worked_84 ic_0 ?_
              refine i_goto (tgt := 91) S dX12_worked_85 (by decide) ?_
              subst h
              exact i_iret S0 rfl dX12_worked_91
          · replace h := (if_neg q6).symm.trans h
            by_cases q8 : x0 = 60
            · replace h := (if_pos q8).symm.trans h
              refine i_lsw (tgt := 104) (off := 103) S dX12_worked_1 (by decide) (by rw [q8]; decide) (by decide) ?_
              refine i_iload_n S dX12_worked_104 rfl ?_
              refine i_iload_n S dX12_worked_105 rfl ?_
              refine i_icmp_ge (tgt := 113) S dX12_worked_106 (by decide) (fun q9 => ?_) (fun q9 => ?_)
              · replace h := (if_pos q9).symm.trans h
                refine i_iconst (v := 0) S dX12_worked_113 ic_0 ?_
                subst h
                exact i_iret S0 rfl dX12_worked_114
              · replace h := (if_neg q9).symm.trans h
                refine i_iconst (v := 1) S dX12_worked_109 ic_1 ?_
                refine i_goto (tgt := 114) S dX12_worked_110 (by decide) ?_
                subst h
                exact i_iret S0 rfl dX12_worked_114
            · replace h := (if_neg q8).symm.trans h
              by_cases q10 : x0 = 62
              · replace h := (if_pos q10).symm.trans h
                refine i_lsw (tgt := 115) (off := 114) S dX12_worked_1 (by decide) (by rw [q10]; decide) (by decide) ?_
                refine i_iload_n S dX12_worked_115 rfl ?_
                refine i_iload_n S dX12_worked_116 rfl ?_
                refine i_icmp_le (tgt := 124) S dX12_worked_117 (by decide) (fun q11 => ?_) (fun q11 => ?_)
                · replace h := (if_pos q11).symm.trans h
                  refine i_iconst (v := 0) S dX12_worked_124 ic_0 ?_
                  subst h
                  exact i_iret S0 rfl dX12_worked_125
                · replace h := (if_neg q11).symm.trans h
                  refine i_iconst (v := 1) S dX12_worked_120 ic_1 ?_
                  refine i_goto (tgt := 125) S dX12_worked_121 (by decide) ?_
                  subst h
                  exact i_iret S0 rfl dX12_worked_125
              · replace h := (if_neg q10).symm.trans h
                refine i_lsw (tgt := 126) (off := 125) S dX12_worked_1 (by decide) ((lv_osw q1 (by decide)).trans ((lv_osw q3 (by decide)).trans ((lv_osw q4 (by decide)).trans ((lv_osw q5 (by decide)).trans ((lv_osw q6 (by decide)).trans ((lv_osw q8 (by decide)).trans ((lv_osw q10 (by decide)).trans rfl))))))) (by decide) ?_
                refine i_iload_n S dX12_worked_126 rfl ?_
                refine i_iload_n S dX12_worked_127 rfl ?_
                refine i_icmp_ne (tgt := 135) S dX12_worked_128 (by decide) (fun q12 => ?_) (fun q12 => ?_)
                · replace h := (if_neg q12).symm.trans h
                  refine i_iconst (v := 0) S dX12_worked_135 ic_0 ?_
                  subst h
                  exact i_iret S0 rfl dX12_worked_136
                · replace h := (if_pos q12).symm.trans h
                  refine i_iconst (v := 1) S dX12_worked_131 ic_1 ?_
                  refine i_goto (tgt := 136) S dX12_worked_132 (by decide) ?_
                  subst h
                  exact i_iret S0 rfl dX12_worked_136
/-! WordYearModel.does -/
noncomputable def f_X12_does (x1 : Int32) (x2 : Int32) (w : Mm) : Option Mm := mg (if x1 = (38 : Int32) then (some (.inl ())) else (if x1 = (124 : Int32) then (some (.inl ())) else (if inb x2 200 = true then (Option.bind (mg (if (gI w 70 (ix x2)) = 0 then (if inb (x2 + (1 : Int32)) 200 = true then (if (gI w 70 (ix (x2 + (1 : Int32)))) = 0 then (mg (mg (if x1 = (47 : Int32) then (some (.inl ())) else (if x1 = (37 : Int32) then (some (.inl ())) else (some (.inr (.inl ()))))) (fun p31 => if (gI w 69 (ix (x2 + (1 : Int32)))) = 0 then (some (.inr (.inl ()))) else (some (.inl ())))) (fun p30 => some (.inr (0 : Int32)))) else (some (.inl ()))) else none) else (some (.inl ()))) (fun p25 => some (1 : Int32))) (fun p19 => if inb (x2 + (1 : Int32)) 200 = true then (some (.inr (sI (sI w 70 (ix x2) (vp_nar .boolean p19)) 69 (ix x2) (f_X12_worked x1 (gI w 69 (ix x2)) (gI w 69 (ix (x2 + (1 : Int32)))))))) else none)) else none))) (fun p2 => if inb x2 200 = true then (if (gI w 70 (ix x2)) = 0 then (Option.bind (if x1 = (38 : Int32) then (some (1 : Int32)) else (some (0 : Int32))) (fun p8 => if (gI w 69 (ix x2)) = p8 then (if inb (x2 + (1 : Int32)) 200 = true then (some (sI (sI w 69 (ix x2) (gI w 69 (ix (x2 + (1 : Int32))))) 70 (ix x2) (vp_nar .boolean (gI w 70 (ix (x2 + (1 : Int32))))))) else none) else (some w))) else (some w)) else none)
set_option maxHeartbeats 4000000 in
set_option maxRecDepth 100000 in
theorem c_X12_does (g : Gx) (d : Nat) {x1 : Int32} {x2 : Int32} {w : Mm} {p : Mm} (hL : Lay w) (h : f_X12_does x1 x2 w = some p) : Call g (d + 2) yX12_does cX12_does 4 none [rf g 47, .int x1, .int x2] w none p := by
  refine call_of (L0 := [some (rf g 47), some (.int x1), some (.int x2), none]) (by decide) rfl (Nat.le_of_ble_eq_true rfl) (fun V S0 => ?_)
  have S := S0.b
  unfold f_X12_does at h
  refine i_iload_n S dX12_does_0 rfl ?_
  refine i_iconst (v := 1) S dX12_does_1 ic_1 ?_
  refine i_iadd S dX12_does_2 ?_
  refine i_istore_n (L1 := [some (rf g 47), some (.int x1), some (.int x2), some (.int (x2 + (1 : Int32)))]) S dX12_does_3 (by decide) rfl ?_
  refine i_iload_n S dX12_does_4 rfl ?_
  refine i_bipush (v := 38) S dX12_does_5 bp_38 ?_
  obtain ⟨s2, e2, hm2, ho2⟩ := mgn h
  have hj2 : ∀ p2, s2 = .inl p2 → V 16 [some (rf g 47), some (.int x1), some (.int x2), some (.int (x2 + (1 : Int32)))] [] w := by
    intro p2 ep2
    have h := hm2 p2 ep2
    refine i_aload_n S dX12_does_16 rfl ?_
    refine i_getR S fl_X12_81 (k47 hL) (r47_42 hL) rfl dX12_does_17 ?_
    refine i_iload_n S dX12_does_20 rfl ?_
    obtain ⟨hi4, h⟩ := gd h
    refine i_zaldv (v := gI w 70 (ix x2)) S (k70 hL) hi4 rfl dX12_does_21 ?_
    refine i_if_ne (tgt := 45) S dX12_does_22 (by decide) (fun q5 => ?_) (fun q5 => ?_)
    · replace h := (if_neg q5).symm.trans h
      cases h
      exact i_vret S0 dX12_does_45
    · replace h := (if_pos q5).symm.trans h
      refine i_aload_n S dX12_does_25 rfl ?_
      refine i_getR S fl_X12_78 (k47 hL) (r47_41 hL) rfl dX12_does_26 ?_
      refine i_iload_n S dX12_does_29 rfl ?_
      refine i_ialdv (v := gI w 69 (ix x2)) S (k69 hL) hi4 rfl dX12_does_30 ?_
      refine i_iload_n S dX12_does_31 rfl ?_
      refine i_bipush (v := 38) S dX12_does_32 bp_38 ?_
      obtain ⟨p8, e8, h⟩ := bn h
      have hj8 : ∀ q8, p8 = q8 → V 42 [some (rf g 47), none, some (.int x2), some (.int (x2 + (1 : Int32)))] [.int q8, .int (gI w 69 (ix x2))] w := by
        intro q8 hq8
        subst hq8
        refine i_icmp_eq (tgt := 46) S dX12_does_42 (by decide) (fun q9 => ?_) (fun q9 => ?_)
        · replace h := (if_pos q9).symm.trans h
          refine i_aload_n S dX12_does_46 rfl ?_
          refine i_getR S fl_X12_78 (k47 hL) (r47_41 hL) rfl dX12_does_47 ?_
          refine i_iload_n S dX12_does_50 rfl ?_
          refine i_aload_n S dX12_does_51 rfl ?_
          refine i_getR S fl_X12_78 (k47 hL) (r47_41 hL) rfl dX12_does_52 ?_
          refine i_iload_n S dX12_does_55 rfl ?_
          obtain ⟨hi11, h⟩ := gd h
          refine i_ialdv (v := gI w 69 (ix (x2 + (1 : Int32)))) S (k69 hL) hi11 rfl dX12_does_56 ?_
          refine i_iast S (k69 hL) hi4 dX12_does_57 ?_
          refine i_aload_n S dX12_does_58 rfl ?_
          refine i_getR S fl_X12_81 (k47 hL) (r47_42 hL) rfl dX12_does_59 ?_
          refine i_iload_n S dX12_does_62 rfl ?_
          refine i_aload_n S dX12_does_63 rfl ?_
          refine i_getR S fl_X12_81 (k47 hL) (r47_42 hL) rfl dX12_does_64 ?_
          refine i_iload_n S dX12_does_67 rfl ?_
          refine i_zaldv (v := gI w 70 (ix (x2 + (1 : Int32)))) S (k70 hL) hi11 rfl dX12_does_68 ?_
          refine i_zast S (k70 hL) hi4 dX12_does_69 ?_
          cases h
          exact i_vret S0 dX12_does_70
        · replace h := (if_neg q9).symm.trans h
          cases h
          exact i_vret S0 dX12_does_45
      replace h := e8
      clear e8
      refine i_icmp_ne (tgt := 41) S dX12_does_34 (by decide) (fun q7 => ?_) (fun q7 => ?_)
      · replace h := (if_neg q7).symm.trans h
        refine i_iconst (v := 0) S dX12_does_41 ic_0 ?_
        refine i_mask (L1 := [some (rf g 47), none, some (.int x2), some (.int (x2 + (1 : Int32)))]) S [true, false, true, true] rfl ?_
        have hz := hj8 _ (Option.some.inj h).symm
        exact hz
      · replace h := (if_pos q7).symm.trans h
        refine i_iconst (v := 1) S dX12_does_37 ic_1 ?_
        refine i_goto (tgt := 42) S dX12_does_38 (by decide) ?_
        refine i_mask (L1 := [some (rf g 47), none, some (.int x2), some (.int (x2 + (1 : Int32)))]) S [true, false, true, true] rfl ?_
        have hz := hj8 _ (Option.some.inj h).symm
        exact hz
  replace h := e2
  clear e2
  refine i_icmp_eq (tgt := 16) S dX12_does_7 (by decide) (fun q1 => ?_) (fun q1 => ?_)
  · replace h := (if_pos q1).symm.trans h
    have hz := hj2 _ (Option.some.inj h).symm
    exact hz
  · replace h := (if_neg q1).symm.trans h
    refine i_iload_n S dX12_does_10 rfl ?_
    refine i_bipush (v := 124) S dX12_does_11 bp_124 ?_
    refine i_icmp_ne (tgt := 71) S dX12_does_13 (by decide) (fun q15 => ?_) (fun q15 => ?_)
    · replace h := (if_neg q15).symm.trans h
      refine i_aload_n S dX12_does_71 rfl ?_
      refine i_getR S fl_X12_81 (k47 hL) (r47_42 hL) rfl dX12_does_72 ?_
      refine i_iload_n S dX12_does_75 rfl ?_
      refine i_aload_n S dX12_does_76 rfl ?_
      refine i_getR S fl_X12_81 (k47 hL) (r47_42 hL) rfl dX12_does_77 ?_
      refine i_iload_n S dX12_does_80 rfl ?_
      obtain ⟨hi17, h⟩ := gd h
      refine i_zaldv (v := gI w 70 (ix x2)) S (k70 hL) hi17 rfl dX12_does_81 ?_
      obtain ⟨p19, e19, h⟩ := bn h
      have hj19 : ∀ q19, p19 = q19 → V 120 [some (rf g 47), some (.int x1), some (.int x2), some (.int (x2 + (1 : Int32)))] [.int q19, .int x2, rf g 70] w := by
        intro q19 hq19
        subst hq19
        refine i_zast S (k70 hL) hi17 dX12_does_120 ?_
        refine i_aload_n S dX12_does_121 rfl ?_
        refine i_getR S fl_X12_78 (k47 hL) (r47_41 hL) rfl dX12_does_122 ?_
        refine i_iload_n S dX12_does_125 rfl ?_
        refine i_iload_n S dX12_does_126 rfl ?_
        refine i_aload_n S dX12_does_127 rfl ?_
        refine i_getR S fl_X12_78 (k47 hL) (r47_41 hL) rfl dX12_does_128 ?_
        refine i_iload_n S dX12_does_131 rfl ?_
        refine i_ialdv (v := gI w 69 (ix x2)) S (k69 hL) hi17 rfl dX12_does_132 ?_
        refine i_aload_n S dX12_does_133 rfl ?_
        refine i_getR S fl_X12_78 (k47 hL) (r47_41 hL) rfl dX12_does_134 ?_
        refine i_iload_n S dX12_does_137 rfl ?_
        obtain ⟨hi23, h⟩ := gd h
        refine i_ialdv (v := gI w 69 (ix (x2 + (1 : Int32)))) S (k69 hL) hi23 rfl dX12_does_138 ?_
        refine i_callS (As := [.int x1, .int (gI w 69 (ix x2)), .int (gI w 69 (ix (x2 + (1 : Int32))))]) (st1 := [.int (f_X12_worked x1 (gI w 69 (ix x2)) (gI w 69 (ix (x2 + (1 : Int32))))), .int x2, rf g 69]) S (c_X12_worked g d rfl) mw_X12_worked lk_X12_307 im_X12_worked dX12_does_139 rfl rfl (Nat.le_of_ble_eq_true rfl) rfl ?_
        refine i_iast S (k69 hL) hi17 dX12_does_142 ?_
        replace h := ho2 _ (Option.some.inj h).symm
        cases h
        exact i_vret S0 dX12_does_143
      replace h := e19
      clear e19
      obtain ⟨s25, e25, hm25, ho25⟩ := mgn h
      have hj25 : ∀ p25, s25 = .inl p25 → V 115 [some (rf g 47), some (.int x1), some (.int x2), some (.int (x2 + (1 : Int32)))] [.int x2, rf g 70] w := by
        intro p25 ep25
        have h := hm25 p25 ep25
        refine i_iconst (v := 1) S dX12_does_115 ic_1 ?_
        refine i_goto (tgt := 120) S dX12_does_116 (by decide) ?_
        have hz := hj19 _ (Option.some.inj h).symm
        exact hz
      replace h := e25
      clear e25
      refine i_if_ne (tgt := 115) S dX12_does_82 (by decide) (fun q18 => ?_) (fun q18 => ?_)
      · replace h := (if_neg q18).symm.trans h
        have hz := hj25 _ (Option.some.inj h).symm
        exact hz
      · replace h := (if_pos q18).symm.trans h
        refine i_aload_n S dX12_does_85 rfl ?_
        refine i_getR S fl_X12_81 (k47 hL) (r47_42 hL) rfl dX12_does_86 ?_
        refine i_iload_n S dX12_does_89 rfl ?_
        obtain ⟨hi27, h⟩ := gd h
        refine i_zaldv (v := gI w 70 (ix (x2 + (1 : Int32)))) S (k70 hL) hi27 rfl dX12_does_90 ?_
        refine i_if_ne (tgt := 115) S dX12_does_91 (by decide) (fun q28 => ?_) (fun q28 => ?_)
        · replace h := (if_neg q28).symm.trans h
          have hz := hj25 _ (Option.some.inj h).symm
          exact hz
        · replace h := (if_pos q28).symm.trans h
          refine i_iload_n S dX12_does_94 rfl ?_
          refine i_bipush (v := 47) S dX12_does_95 bp_47 ?_
          obtain ⟨s30, e30, hm30, ho30⟩ := mgn h
          have hj30 : ∀ p30, s30 = .inl p30 → V 119 [some (rf g 47), some (.int x1), some (.int x2), some (.int (x2 + (1 : Int32)))] [.int x2, rf g 70] w := by
            intro p30 ep30
            have h := hm30 p30 ep30
            refine i_iconst (v := 0) S dX12_does_119 ic_0 ?_
            replace h := ho25 _ (Option.some.inj h).symm
            have hz := hj19 _ (Option.some.inj h).symm
            exact hz
          replace h := e30
          clear e30
          obtain ⟨s31, e31, hm31, ho31⟩ := mgn h
          have hj31 : ∀ p31, s31 = .inl p31 → V 106 [some (rf g 47), some (.int x1), some (.int x2), some (.int (x2 + (1 : Int32)))] [.int x2, rf g 70] w := by
            intro p31 ep31
            have h := hm31 p31 ep31
            refine i_aload_n S dX12_does_106 rfl ?_
            refine i_getR S fl_X12_78 (k47 hL) (r47_41 hL) rfl dX12_does_107 ?_
            refine i_iload_n S dX12_does_110 rfl ?_
            refine i_ialdv (v := gI w 69 (ix (x2 + (1 : Int32)))) S (k69 hL) hi27 rfl dX12_does_111 ?_
            refine i_if_ne (tgt := 119) S dX12_does_112 (by decide) (fun q33 => ?_) (fun q33 => ?_)
            · replace h := (if_neg q33).symm.trans h
              have hz := hj30 _ (Option.some.inj h).symm
              exact hz
            · replace h := (if_pos q33).symm.trans h
              replace h := ho30 _ (Option.some.inj h).symm
              have hz := hj25 _ (Option.some.inj h).symm
              exact hz
          replace h := e31
          clear e31
          refine i_icmp_eq (tgt := 106) S dX12_does_97 (by decide) (fun q29 => ?_) (fun q29 => ?_)
          · replace h := (if_pos q29).symm.trans h
            have hz := hj31 _ (Option.some.inj h).symm
            exact hz
          · replace h := (if_neg q29).symm.trans h
            refine i_iload_n S dX12_does_100 rfl ?_
            refine i_bipush (v := 37) S dX12_does_101 bp_37 ?_
            refine i_icmp_ne (tgt := 119) S dX12_does_103 (by decide) (fun q34 => ?_) (fun q34 => ?_)
            · replace h := (if_neg q34).symm.trans h
              replace h := ho31 _ (Option.some.inj h).symm
              have hz := hj30 _ (Option.some.inj h).symm
              exact hz
            · replace h := (if_pos q34).symm.trans h
              have hz := hj31 _ (Option.some.inj h).symm
              exact hz
    · replace h := (if_pos q15).symm.trans h
      have hz := hj2 _ (Option.some.inj h).symm
      exact hz
/-! WordYearModel.works -/
noncomputable def l_X12_works_5 (x2 : Int32) (s : Int32 × Int32 × Mm) : Option ((Int32 × Int32 × Mm) ⊕ (Mm)) := if x2 ≤ s.2.1 then (some (.inr s.2.2)) else (onL s.2.2 (if inb s.2.1 160 = true then (Option.bind (if (gI s.2.2 61 (ix s.2.1)) ≤ (2 : Int32) then (if (gI s.2.2 61 (ix s.2.1)) = (2 : Int32) then (if inb (s.1 - (1 : Int32)) 200 = true then (some (s.1, sI s.2.2 69 (ix (s.1 - (1 : Int32))) ((1 : Int32) - (gI s.2.2 69 (ix (s.1 - (1 : Int32))))))) else none) else (if inb s.1 200 = true then (Option.bind (if (gI s.2.2 61 (ix s.2.1)) = 0 then (some (gI s.2.2 62 (ix s.2.1))) else (Option.bind (f_X12_valueOf (gI s.2.2 62 (ix s.2.1)) (sI s.2.2 70 (ix s.1) (vp_nar .boolean (0 : Int32)))) (fun p16 => some p16))) (fun p13 => some (s.1 + (1 : Int32), sI (sI s.2.2 70 (ix s.1) (vp_nar .boolean (0 : Int32))) 69 (ix s.1) p13))) else none)) else (Option.bind (f_X12_does (gI s.2.2 61 (ix s.2.1)) ((s.1 + (-1 : Int32)) - (1 : Int32)) s.2.2) (fun p22 => some (s.1 + (-1 : Int32), p22)))) (fun p6 => some (.inl (p6.1, s.2.1 + (1 : Int32), p6.2)))) else none))
noncomputable def f_X12_works (x1 : Int32) (x2 : Int32) (w : Mm) : Option Mm := Option.bind (wh (l_X12_works_5 x2) FUEL ((0 : Int32), x1, w)) (fun p1 => some p1)
set_option maxHeartbeats 4000000 in
set_option maxRecDepth 100000 in
theorem t_l_X12_works_5 {g : Gx} {V : Vt} {d : Nat} (S : MachB g yX12_works cX12_works 5 (d + 2) V) {x2 : Int32}  (s : Int32 × Int32 × Mm) (e : (Int32 × Int32 × Mm) ⊕ (Mm)) (h : l_X12_works_5 x2 s = some e) (hC : ∀ s2, e = .inl s2 → V 5 [some (rf g 47), none, some (.int x2), some (.int s2.1), some (.int s2.2.1)] [] s2.2.2) (hE : ∀ x, e = .inr x → V 127 [none, none, none, none, none] [] x) : V 5 [some (rf g 47), none, some (.int x2), some (.int s.1), some (.int s.2.1)] [] s.2.2 := by
  unfold l_X12_works_5 at h
  refine i_iload S dX12_works_5 rfl ?_
  refine i_iload_n S dX12_works_7 rfl ?_
  refine i_icmp_ge (tgt := 127) S dX12_works_8 (by decide) (fun q1 => ?_) (fun q1 => ?_)
  · replace h := (if_pos q1).symm.trans h
    refine i_mask (L1 := [none, none, none, none, none]) S [false, false, false, false, false] rfl ?_
    have hz := hE _ (Option.some.inj h).symm
    exact hz
  · replace h := (if_neg q1).symm.trans h
    refine i_aload_n S dX12_works_11 rfl ?_
    obtain ⟨hL2, h⟩ := onLn h
    refine i_getR S fl_X12_54 (k47 hL2) (r47_21 hL2) rfl dX12_works_12 ?_
    refine i_iload S dX12_works_15 rfl ?_
    obtain ⟨hi4, h⟩ := gd h
    refine i_ialdv (v := gI s.2.2 61 (ix s.2.1)) S (k61 hL2) hi4 rfl dX12_works_17 ?_
    refine i_iconst (v := 2) S dX12_works_18 ic_2 ?_
    obtain ⟨p6, e6, h⟩ := bn h
    have hj6 : ∀ q6, p6 = q6 → V 121 [some (rf g 47), none, some (.int x2), some (.int q6.1), some (.int s.2.1)] [] q6.2 := by
      intro q6 hq6
      subst hq6
      refine i_iinc (L1 := [some (rf g 47), none, some (.int x2), some (.int p6.1), some (.int (s.2.1 + (1 : Int32)))]) S dX12_works_121 rfl ic_1 (by decide) rfl ?_
      refine i_goto (tgt := 5) S dX12_works_124 (by decide) ?_
      have hz := hC _ (Option.some.inj h).symm
      exact hz
    replace h := e6
    clear e6
    refine i_icmp_le (tgt := 42) S dX12_works_19 (by decide) (fun q5 => ?_) (fun q5 => ?_)
    · replace h := (if_pos q5).symm.trans h
      refine i_aload_n S dX12_works_42 rfl ?_
      refine i_getR S fl_X12_54 (k47 hL2) (r47_21 hL2) rfl dX12_works_43 ?_
      refine i_iload S dX12_works_46 rfl ?_
      refine i_ialdv (v := gI s.2.2 61 (ix s.2.1)) S (k61 hL2) hi4 rfl dX12_works_48 ?_
      refine i_iconst (v := 2) S dX12_works_49 ic_2 ?_
      refine i_icmp_ne (tgt := 74) S dX12_works_50 (by decide) (fun q8 => ?_) (fun q8 => ?_)
      · replace h := (if_neg q8).symm.trans h
        refine i_aload_n S dX12_works_74 rfl ?_
        refine i_getR S fl_X12_81 (k47 hL2) (r47_42 hL2) rfl dX12_works_75 ?_
        refine i_iload_n S dX12_works_78 rfl ?_
        refine i_iconst (v := 0) S dX12_works_79 ic_0 ?_
        obtain ⟨hi10, h⟩ := gd h
        refine i_zast S (k70 hL2) hi10 dX12_works_80 ?_
        refine i_aload_n S dX12_works_81 rfl ?_
        refine i_getR S fl_X12_78 (k47 hL2) (r47_41 hL2) rfl dX12_works_82 ?_
        refine i_iload_n S dX12_works_85 rfl ?_
        refine i_aload_n S dX12_works_86 rfl ?_
        refine i_getR S fl_X12_54 (k47 hL2) (r47_21 hL2) rfl dX12_works_87 ?_
        refine i_iload S dX12_works_90 rfl ?_
        refine i_ialdv (v := gI s.2.2 61 (ix s.2.1)) S (k61 hL2) hi4 rfl dX12_works_92 ?_
        obtain ⟨p13, e13, h⟩ := bn h
        have hj13 : ∀ q13, p13 = q13 → V 117 [some (rf g 47), none, some (.int x2), some (.int s.1), some (.int s.2.1)] [.int q13, .int s.1, rf g 69] (sI s.2.2 70 (ix s.1) (vp_nar .boolean (0 : Int32))) := by
          intro q13 hq13
          subst hq13
          refine i_iast S (k69 hL2) hi10 dX12_works_117 ?_
          refine i_iinc (L1 := [some (rf g 47), none, some (.int x2), some (.int (s.1 + (1 : Int32))), some (.int s.2.1)]) S dX12_works_118 rfl ic_1 (by decide) rfl ?_
          have hz := hj6 _ (Option.some.inj h).symm
          exact hz
        replace h := e13
        clear e13
        refine i_if_ne (tgt := 106) S dX12_works_93 (by decide) (fun q12 => ?_) (fun q12 => ?_)
        · replace h := (if_neg q12).symm.trans h
          refine i_aload_n S dX12_works_106 rfl ?_
          refine i_aload_n S dX12_works_107 rfl ?_
          refine i_getR S fl_X12_57 (k47 hL2) (r47_22 hL2) rfl dX12_works_108 ?_
          refine i_iload S dX12_works_111 rfl ?_
          refine i_ialdv (v := gI s.2.2 62 (ix s.2.1)) S (k62 hL2) hi4 rfl dX12_works_113 ?_
          obtain ⟨p16, e16, h⟩ := bn h
          refine i_callV (As := [.int (gI s.2.2 62 (ix s.2.1))]) (st1 := [.int p16, .int s.1, rf g 69]) S (c_X12_valueOf g d hL2 e16) mw_X12_valueOf lk_X12_314 im_X12_valueOf se_X12_valueOf ci_12.1 ci_12.2.1 (k47 hL2) dX12_works_114 rfl rfl (Nat.le_of_ble_eq_true rfl) rfl ?_
          have hz := hj13 _ (Option.some.inj h).symm
          exact hz
        · replace h := (if_pos q12).symm.trans h
          refine i_aload_n S dX12_works_96 rfl ?_
          refine i_getR S fl_X12_57 (k47 hL2) (r47_22 hL2) rfl dX12_works_97 ?_
          refine i_iload S dX12_works_100 rfl ?_
          refine i_ialdv (v := gI s.2.2 62 (ix s.2.1)) S (k62 hL2) hi4 rfl dX12_works_102 ?_
          refine i_goto (tgt := 117) S dX12_works_103 (by decide) ?_
          have hz := hj13 _ (Option.some.inj h).symm
          exact hz
      · replace h := (if_pos q8).symm.trans h
        refine i_aload_n S dX12_works_53 rfl ?_
        refine i_getR S fl_X12_78 (k47 hL2) (r47_41 hL2) rfl dX12_works_54 ?_
        refine i_iload_n S dX12_works_57 rfl ?_
        refine i_iconst (v := 1) S dX12_works_58 ic_1 ?_
        refine i_isub S dX12_works_59 ?_
        refine i_iconst (v := 1) S dX12_works_60 ic_1 ?_
        refine i_aload_n S dX12_works_61 rfl ?_
        refine i_getR S fl_X12_78 (k47 hL2) (r47_41 hL2) rfl dX12_works_62 ?_
        refine i_iload_n S dX12_works_65 rfl ?_
        refine i_iconst (v := 1) S dX12_works_66 ic_1 ?_
        refine i_isub S dX12_works_67 ?_
        obtain ⟨hi19, h⟩ := gd h
        refine i_ialdv (v := gI s.2.2 69 (ix (s.1 - (1 : Int32)))) S (k69 hL2) hi19 rfl dX12_works_68 ?_
        refine i_isub S dX12_works_69 ?_
        refine i_iast S (k69 hL2) hi19 dX12_works_70 ?_
        refine i_goto (tgt := 121) S dX12_works_71 (by decide) ?_
        have hz := hj6 _ (Option.some.inj h).symm
        exact hz
    · replace h := (if_neg q5).symm.trans h
      refine i_iinc (L1 := [some (rf g 47), none, some (.int x2), some (.int (s.1 + (-1 : Int32))), some (.int s.2.1)]) S dX12_works_22 rfl ic_m1 (by decide) rfl ?_
      refine i_aload_n S dX12_works_25 rfl ?_
      refine i_aload_n S dX12_works_26 rfl ?_
      refine i_getR S fl_X12_54 (k47 hL2) (r47_21 hL2) rfl dX12_works_27 ?_
      refine i_iload S dX12_works_30 rfl ?_
      refine i_ialdv (v := gI s.2.2 61 (ix s.2.1)) S (k61 hL2) hi4 rfl dX12_works_32 ?_
      refine i_iload_n S dX12_works_33 rfl ?_
      refine i_iconst (v := 1) S dX12_works_34 ic_1 ?_
      refine i_isub S dX12_works_35 ?_
      obtain ⟨p22, e22, h⟩ := bn h
      refine i_callV (As := [.int (gI s.2.2 61 (ix s.2.1)), .int ((s.1 + (-1 : Int32)) - (1 : Int32))]) (st1 := []) S (c_X12_does g d hL2 e22) mw_X12_does lk_X12_311 im_X12_does se_X12_does ci_12.1 ci_12.2.1 (k47 hL2) dX12_works_36 rfl rfl (Nat.le_of_ble_eq_true rfl) rfl ?_
      refine i_goto (tgt := 121) S dX12_works_39 (by decide) ?_
      have hz := hj6 _ (Option.some.inj h).symm
      exact hz
set_option maxHeartbeats 4000000 in
set_option maxRecDepth 100000 in
theorem c_X12_works (g : Gx) (d : Nat) {x1 : Int32} {x2 : Int32} {w : Mm} {p : Mm} (hL : Lay w) (h : f_X12_works x1 x2 w = some p) : Call g (d + 3) yX12_works cX12_works 5 none [rf g 47, .int x1, .int x2] w none p := by
  refine call_of (L0 := [some (rf g 47), some (.int x1), some (.int x2), none, none]) (by decide) rfl (Nat.le_of_ble_eq_true rfl) (fun V S0 => ?_)
  have S := S0.b
  unfold f_X12_works at h
  refine i_iconst (v := 0) S dX12_works_0 ic_0 ?_
  refine i_istore_n (L1 := [some (rf g 47), some (.int x1), some (.int x2), some (.int ((0 : Int32))), none]) S dX12_works_1 (by decide) rfl ?_
  refine i_iload_n S dX12_works_2 rfl ?_
  refine i_istore (L1 := [some (rf g 47), some (.int x1), some (.int x2), some (.int ((0 : Int32))), some (.int x1)]) S dX12_works_3 (by decide) rfl ?_
  refine i_mask (L1 := [some (rf g 47), none, some (.int x2), some (.int ((0 : Int32))), some (.int x1)]) S [true, false, true, true, true] rfl ?_
  obtain ⟨p1, e1, h⟩ := bn h
  have hE1 : V 127 [none, none, none, none, none] [] p1 := by
    cases h
    exact i_vret S0 dX12_works_127
  exact wh_V (P := fun sv1 => V 5 [some (rf g 47), none, some (.int x2), some (.int sv1.1), some (.int sv1.2.1)] [] sv1.2.2) (E := fun xv1 => V 127 [none, none, none, none, none] [] xv1) (fun sv1 ev hb hc he => t_l_X12_works_5   S  sv1 ev hb hc he) FUEL _ _ e1 hE1
/-! WordYearModel.costOf -/
noncomputable def l_X12_costOf_18  (s : Int32 × Mm) : Option ((Int32 × Mm) ⊕ (Nat × Int32 × Mm)) := onL s.2 (if (gI s.2 47 17) ≤ s.1 then (some (.inr (0, 0, s.2))) else (if inb s.1 12 = true then (Option.bind (f_X12_works (gI s.2 59 (ix s.1)) (gI s.2 60 (ix s.1)) s.2) (fun p6 => onL p6 (mg (if (gI p6 70 (ix (0 : Int32))) = 0 then (if (gI p6 69 (ix (0 : Int32))) = (1 : Int32) then (some (.inr (.inr (1, s.1, p6)))) else (some (.inl ()))) else (some (.inl ()))) (fun p10 => some (.inl (s.1 + (1 : Int32), p6)))))) else none))
noncomputable def f_X12_costOf (x1 : Int32) (x2 : Int32) (x3 : Int32) (w : Mm) : Option (Int32 × Mm) := Option.bind (wh l_X12_costOf_18 FUEL ((0 : Int32), sI (sI (sI w 47 38 x1) 47 39 x2) 47 40 x3)) (fun p1 => if p1.1 = 0 then (some ((-1 : Int32), p1.2.2)) else (onL p1.2.2 (if inb p1.2.1 12 = true then (Option.bind (f_X12_works (gI p1.2.2 58 (ix p1.2.1)) (gI p1.2.2 59 (ix p1.2.1)) p1.2.2) (fun p6 => onL p6 (Option.bind (if (gI p6 70 (ix (0 : Int32))) = 0 then (some (gI p6 69 (ix (0 : Int32)))) else (some (0 : Int32))) (fun p10 => if (f_X12_lies p10.toInt64 (0 : Int64) (1000 : Int64)) = 0 then (some ((-1 : Int32), p6)) else (some (p10, p6)))))) else none)))
set_option maxHeartbeats 4000000 in
set_option maxRecDepth 100000 in
theorem t_l_X12_costOf_18 {g : Gx} {V : Vt} {d : Nat} (S : MachB g yX12_costOf cX12_costOf 6 (d + 3) V)   (s : Int32 × Mm) (e : (Int32 × Mm) ⊕ (Nat × Int32 × Mm)) (h : l_X12_costOf_18  s = some e) (hC : ∀ s2, e = .inl s2 → V 18 [some (rf g 47), none, none, none, some (.int s2.1), none] [] s2.2) (hE : ∀ x, e = .inr x → if x.1 = 0 then V 132 [none, none, none, none, none, none] [] x.2.2 else (V 67 [some (rf g 47), none, none, none, some (.int x.2.1), none] [] x.2.2)) : V 18 [some (rf g 47), none, none, none, some (.int s.1), none] [] s.2 := by
  unfold l_X12_costOf_18 at h
  refine i_iload S dX12_costOf_18 rfl ?_
  refine i_aload_n S dX12_costOf_20 rfl ?_
  obtain ⟨hL1, h⟩ := onLn h
  refine i_getIv (v := gI s.2 47 17) S fl_X12_291 (k47 hL1) rfl rfl dX12_costOf_21 ?_
  refine i_icmp_ge (tgt := 132) S dX12_costOf_24 (by decide) (fun q2 => ?_) (fun q2 => ?_)
  · replace h := (if_pos q2).symm.trans h
    refine i_mask (L1 := [none, none, none, none, none, none]) S [false, false, false, false, false, false] rfl ?_
    have hz := hE _ (Option.some.inj h).symm
    exact hz
  · replace h := (if_neg q2).symm.trans h
    refine i_aload_n S dX12_costOf_27 rfl ?_
    refine i_aload_n S dX12_costOf_28 rfl ?_
    refine i_getR S fl_X12_48 (k47 hL1) (r47_19 hL1) rfl dX12_costOf_29 ?_
    refine i_iload S dX12_costOf_32 rfl ?_
    obtain ⟨hi4, h⟩ := gd h
    refine i_ialdv (v := gI s.2 59 (ix s.1)) S (k59 hL1) hi4 rfl dX12_costOf_34 ?_
    refine i_aload_n S dX12_costOf_35 rfl ?_
    refine i_getR S fl_X12_51 (k47 hL1) (r47_20 hL1) rfl dX12_costOf_36 ?_
    refine i_iload S dX12_costOf_39 rfl ?_
    refine i_ialdv (v := gI s.2 60 (ix s.1)) S (k60 hL1) hi4 rfl dX12_costOf_41 ?_
    obtain ⟨p6, e6, h⟩ := bn h
    refine i_callV (As := [.int (gI s.2 59 (ix s.1)), .int (gI s.2 60 (ix s.1))]) (st1 := []) S (c_X12_works g d hL1 e6) mw_X12_works lk_X12_317 im_X12_works se_X12_works ci_12.1 ci_12.2.1 (k47 hL1) dX12_costOf_42 rfl rfl (Nat.le_of_ble_eq_true rfl) rfl ?_
    refine i_aload_n S dX12_costOf_45 rfl ?_
    obtain ⟨hL7, h⟩ := onLn h
    refine i_getR S fl_X12_81 (k47 hL7) (r47_42 hL7) rfl dX12_costOf_46 ?_
    refine i_iconst (v := 0) S dX12_costOf_49 ic_0 ?_
    refine i_zaldv (v := gI p6 70 (ix (0 : Int32))) S (k70 hL7) (by decide) rfl dX12_costOf_50 ?_
    obtain ⟨s10, e10, hm10, ho10⟩ := mgn h
    have hj10 : ∀ p10, s10 = .inl p10 → V 126 [some (rf g 47), none, none, none, some (.int s.1), none] [] p6 := by
      intro p10 ep10
      have h := hm10 p10 ep10
      refine i_iinc (L1 := [some (rf g 47), none, none, none, some (.int (s.1 + (1 : Int32))), none]) S dX12_costOf_126 rfl ic_1 (by decide) rfl ?_
      refine i_goto (tgt := 18) S dX12_costOf_129 (by decide) ?_
      have hz := hC _ (Option.some.inj h).symm
      exact hz
    replace h := e10
    clear e10
    refine i_if_ne (tgt := 126) S dX12_costOf_51 (by decide) (fun q9 => ?_) (fun q9 => ?_)
    · replace h := (if_neg q9).symm.trans h
      have hz := hj10 _ (Option.some.inj h).symm
      exact hz
    · replace h := (if_pos q9).symm.trans h
      refine i_aload_n S dX12_costOf_54 rfl ?_
      refine i_getR S fl_X12_78 (k47 hL7) (r47_41 hL7) rfl dX12_costOf_55 ?_
      refine i_iconst (v := 0) S dX12_costOf_58 ic_0 ?_
      refine i_ialdv (v := gI p6 69 (ix (0 : Int32))) S (k69 hL7) (by decide) rfl dX12_costOf_59 ?_
      refine i_iconst (v := 1) S dX12_costOf_60 ic_1 ?_
      refine i_icmp_eq (tgt := 67) S dX12_costOf_61 (by decide) (fun q12 => ?_) (fun q12 => ?_)
      · replace h := (if_pos q12).symm.trans h
        replace h := ho10 _ (Option.some.inj h).symm
        have hz := hE _ (Option.some.inj h).symm
        exact hz
      · replace h := (if_neg q12).symm.trans h
        refine i_goto (tgt := 126) S dX12_costOf_64 (by decide) ?_
        have hz := hj10 _ (Option.some.inj h).symm
        exact hz
set_option maxHeartbeats 4000000 in
set_option maxRecDepth 100000 in
theorem c_X12_costOf (g : Gx) (d : Nat) {x1 : Int32} {x2 : Int32} {x3 : Int32} {w : Mm} {p : (Int32 × Mm)} (hL : Lay w) (h : f_X12_costOf x1 x2 x3 w = some p) : Call g (d + 4) yX12_costOf cX12_costOf 6 (some .int) [rf g 47, .int x1, .int x2, .int x3] w (some (.int p.1)) p.2 := by
  refine call_of (L0 := [some (rf g 47), some (.int x1), some (.int x2), some (.int x3), none, none]) (by decide) rfl (Nat.le_of_ble_eq_true rfl) (fun V S0 => ?_)
  have S := S0.b
  unfold f_X12_costOf at h
  refine i_aload_n S dX12_costOf_0 rfl ?_
  refine i_iload_n S dX12_costOf_1 rfl ?_
  refine i_putI S fl_X12_294 (k47 hL) rfl rfl rfl dX12_costOf_2 ?_
  refine i_aload_n S dX12_costOf_5 rfl ?_
  refine i_iload_n S dX12_costOf_6 rfl ?_
  refine i_putI S fl_X12_301 (k47 hL) rfl rfl rfl dX12_costOf_7 ?_
  refine i_aload_n S dX12_costOf_10 rfl ?_
  refine i_iload_n S dX12_costOf_11 rfl ?_
  refine i_putI S fl_X12_304 (k47 hL) rfl rfl rfl dX12_costOf_12 ?_
  refine i_iconst (v := 0) S dX12_costOf_15 ic_0 ?_
  refine i_istore (L1 := [some (rf g 47), some (.int x1), some (.int x2), some (.int x3), some (.int ((0 : Int32))), none]) S dX12_costOf_16 (by decide) rfl ?_
  refine i_mask (L1 := [some (rf g 47), none, none, none, some (.int ((0 : Int32))), none]) S [true, false, false, false, true, false] rfl ?_
  obtain ⟨p1, e1, h⟩ := bn h
  have hE1 : if p1.1 = 0 then V 132 [none, none, none, none, none, none] [] p1.2.2 else (V 67 [some (rf g 47), none, none, none, some (.int p1.2.1), none] [] p1.2.2) := by
    by_cases hx1_0 : p1.1 = 0
    · rw [if_pos hx1_0]
      replace h := (if_pos hx1_0).symm.trans h
      refine i_iconst (v := -1) S dX12_costOf_132 ic_m1 ?_
      cases h
      exact i_iret S0 rfl dX12_costOf_133
    · rw [if_neg hx1_0]
      replace h := (if_neg hx1_0).symm.trans h
      refine i_aload_n S dX12_costOf_67 rfl ?_
      refine i_aload_n S dX12_costOf_68 rfl ?_
      obtain ⟨hL2, h⟩ := onLn h
      refine i_getR S fl_X12_45 (k47 hL2) (r47_18 hL2) rfl dX12_costOf_69 ?_
      refine i_iload S dX12_costOf_72 rfl ?_
      obtain ⟨hi4, h⟩ := gd h
      refine i_ialdv (v := gI p1.2.2 58 (ix p1.2.1)) S (k58 hL2) hi4 rfl dX12_costOf_74 ?_
      refine i_aload_n S dX12_costOf_75 rfl ?_
      refine i_getR S fl_X12_48 (k47 hL2) (r47_19 hL2) rfl dX12_costOf_76 ?_
      refine i_iload S dX12_costOf_79 rfl ?_
      refine i_ialdv (v := gI p1.2.2 59 (ix p1.2.1)) S (k59 hL2) hi4 rfl dX12_costOf_81 ?_
      obtain ⟨p6, e6, h⟩ := bn h
      refine i_callV (As := [.int (gI p1.2.2 58 (ix p1.2.1)), .int (gI p1.2.2 59 (ix p1.2.1))]) (st1 := []) S (c_X12_works g d hL2 e6) mw_X12_works lk_X12_317 im_X12_works se_X12_works ci_12.1 ci_12.2.1 (k47 hL2) dX12_costOf_82 rfl rfl (Nat.le_of_ble_eq_true rfl) rfl ?_
      refine i_aload_n S dX12_costOf_85 rfl ?_
      obtain ⟨hL7, h⟩ := onLn h
      refine i_getR S fl_X12_81 (k47 hL7) (r47_42 hL7) rfl dX12_costOf_86 ?_
      refine i_iconst (v := 0) S dX12_costOf_89 ic_0 ?_
      refine i_zaldv (v := gI p6 70 (ix (0 : Int32))) S (k70 hL7) (by decide) rfl dX12_costOf_90 ?_
      obtain ⟨p10, e10, h⟩ := bn h
      have hj10 : ∀ q10, p10 = q10 → V 104 [none, none, none, none, none, none] [.int q10] p6 := by
        intro q10 hq10
        subst hq10
        refine i_istore (L1 := [none, none, none, none, none, some (.int p10)]) S dX12_costOf_104 (by decide) rfl ?_
        refine i_iload S dX12_costOf_106 rfl ?_
        refine i_i2l S dX12_costOf_108 ?_
        refine i_lconst (v := 0) S dX12_costOf_109 lc_0 ?_
        refine i_ldc2 S kl_X12_165 dX12_costOf_110 ?_
        refine i_callS (As := [.long p10.toInt64, .long ((0 : Int64)), .long ((1000 : Int64))]) (st1 := [.int (f_X12_lies p10.toInt64 (0 : Int64) (1000 : Int64))]) S (c_X12_lies g (d + 2) rfl) mw_X12_lies lk_X12_138 im_X12_lies dX12_costOf_113 rfl rfl (Nat.le_of_ble_eq_true rfl) rfl ?_
        refine i_if_eq (tgt := 124) S dX12_costOf_116 (by decide) (fun q11 => ?_) (fun q11 => ?_)
        · replace h := (if_pos q11).symm.trans h
          refine i_iconst (v := -1) S dX12_costOf_124 ic_m1 ?_
          cases h
          exact i_iret S0 rfl dX12_costOf_125
        · replace h := (if_neg q11).symm.trans h
          refine i_iload S dX12_costOf_119 rfl ?_
          refine i_goto (tgt := 125) S dX12_costOf_121 (by decide) ?_
          cases h
          exact i_iret S0 rfl dX12_costOf_125
      replace h := e10
      clear e10
      refine i_if_eq (tgt := 98) S dX12_costOf_91 (by decide) (fun q9 => ?_) (fun q9 => ?_)
      · replace h := (if_pos q9).symm.trans h
        refine i_aload_n S dX12_costOf_98 rfl ?_
        refine i_getR S fl_X12_78 (k47 hL7) (r47_41 hL7) rfl dX12_costOf_99 ?_
        refine i_iconst (v := 0) S dX12_costOf_102 ic_0 ?_
        refine i_ialdv (v := gI p6 69 (ix (0 : Int32))) S (k69 hL7) (by decide) rfl dX12_costOf_103 ?_
        refine i_mask (L1 := [none, none, none, none, none, none]) S [false, false, false, false, false, false] rfl ?_
        have hz := hj10 _ (Option.some.inj h).symm
        exact hz
      · replace h := (if_neg q9).symm.trans h
        refine i_iconst (v := 0) S dX12_costOf_94 ic_0 ?_
        refine i_goto (tgt := 104) S dX12_costOf_95 (by decide) ?_
        refine i_mask (L1 := [none, none, none, none, none, none]) S [false, false, false, false, false, false] rfl ?_
        have hz := hj10 _ (Option.some.inj h).symm
        exact hz
  exact wh_V (P := fun sv1 => V 18 [some (rf g 47), none, none, none, some (.int sv1.1), none] [] sv1.2) (E := fun xv1 => if xv1.1 = 0 then V 132 [none, none, none, none, none, none] [] xv1.2.2 else (V 67 [some (rf g 47), none, none, none, some (.int xv1.2.1), none] [] xv1.2.2)) (fun sv1 ev hb hc he => t_l_X12_costOf_18   S  sv1 ev hb hc he) FUEL _ _ e1 hE1
/-! WordYearModel.joinerOf -/
noncomputable def l_X12_joinerOf_5 (x1 : Int32) (x2 : Int32) (w : Mm) (s : Int32 × Int32) : Option ((Int32 × Int32) ⊕ (Int32)) := if (gI w 47 2) ≤ s.2 then (some (.inr s.1)) else (Option.bind (if (f_X12_has x1 s.2) = 0 then (some s.1) else (if inb s.2 10 = true then (if (gI w 49 (ix s.2)) = x2 then (mg (if s.1 = (-1 : Int32) then (some (.inl ())) else (if inb s.1 10 = true then (if (gI w 51 (ix s.1)) ≤ (gI w 51 (ix s.2)) then (some (.inr s.1)) else (some (.inl ()))) else none)) (fun p8 => some s.2)) else (some s.1)) else none)) (fun p3 => some (.inl (p3, s.2 + (1 : Int32)))))
noncomputable def f_X12_joinerOf (x1 : Int32) (x2 : Int32) (w : Mm) : Option Int32 := Option.bind (wh (l_X12_joinerOf_5 x1 x2 w) FUEL ((-1 : Int32), (0 : Int32))) (fun p1 => some p1)
set_option maxHeartbeats 4000000 in
set_option maxRecDepth 100000 in
theorem t_l_X12_joinerOf_5 {g : Gx} {V : Vt} {d : Nat} (S : MachB g yX12_joinerOf cX12_joinerOf 5 (d + 1) V) {x1 : Int32} {x2 : Int32} {w : Mm} (hL : Lay w) (s : Int32 × Int32) (e : (Int32 × Int32) ⊕ (Int32)) (h : l_X12_joinerOf_5 x1 x2 w s = some e) (hC : ∀ s2, e = .inl s2 → V 5 [some (rf g 47), some (.int x1), some (.int x2), some (.int s2.1), some (.int s2.2)] [] w) (hE : ∀ x, e = .inr x → V 64 [none, none, none, some (.int x), none] [] w) : V 5 [some (rf g 47), some (.int x1), some (.int x2), some (.int s.1), some (.int s.2)] [] w := by
  unfold l_X12_joinerOf_5 at h
  refine i_iload S dX12_joinerOf_5 rfl ?_
  refine i_aload_n S dX12_joinerOf_7 rfl ?_
  refine i_getIv (v := gI w 47 2) S fl_X12_135 (k47 hL) rfl rfl dX12_joinerOf_8 ?_
  refine i_icmp_ge (tgt := 64) S dX12_joinerOf_11 (by decide) (fun q1 => ?_) (fun q1 => ?_)
  · replace h := (if_pos q1).symm.trans h
    refine i_mask (L1 := [none, none, none, some (.int s.1), none]) S [false, false, false, true, false] rfl ?_
    have hz := hE _ (Option.some.inj h).symm
    exact hz
  · replace h := (if_neg q1).symm.trans h
    refine i_iload_n S dX12_joinerOf_14 rfl ?_
    refine i_iload S dX12_joinerOf_15 rfl ?_
    refine i_callS (As := [.int x1, .int s.2]) (st1 := [.int (f_X12_has x1 s.2)]) S (c_X12_has g d rfl) mw_X12_has lk_X12_149 im_X12_has dX12_joinerOf_17 rfl rfl (Nat.le_of_ble_eq_true rfl) rfl ?_
    obtain ⟨p3, e3, h⟩ := bn h
    have hj3 : ∀ q3, p3 = q3 → V 58 [some (rf g 47), some (.int x1), some (.int x2), some (.int q3), some (.int s.2)] [] w := by
      intro q3 hq3
      subst hq3
      refine i_iinc (L1 := [some (rf g 47), some (.int x1), some (.int x2), some (.int p3), some (.int (s.2 + (1 : Int32)))]) S dX12_joinerOf_58 rfl ic_1 (by decide) rfl ?_
      refine i_goto (tgt := 5) S dX12_joinerOf_61 (by decide) ?_
      have hz := hC _ (Option.some.inj h).symm
      exact hz
    replace h := e3
    clear e3
    refine i_if_eq (tgt := 58) S dX12_joinerOf_20 (by decide) (fun q2 => ?_) (fun q2 => ?_)
    · replace h := (if_pos q2).symm.trans h
      have hz := hj3 _ (Option.some.inj h).symm
      exact hz
    · replace h := (if_neg q2).symm.trans h
      refine i_aload_n S dX12_joinerOf_23 rfl ?_
      refine i_getR S fl_X12_17 (k47 hL) (r47_8 hL) rfl dX12_joinerOf_24 ?_
      refine i_iload S dX12_joinerOf_27 rfl ?_
      obtain ⟨hi5, h⟩ := gd h
      refine i_ialdv (v := gI w 49 (ix s.2)) S (k49 hL) hi5 rfl dX12_joinerOf_29 ?_
      refine i_iload_n S dX12_joinerOf_30 rfl ?_
      refine i_icmp_ne (tgt := 58) S dX12_joinerOf_31 (by decide) (fun q6 => ?_) (fun q6 => ?_)
      · replace h := (if_neg q6).symm.trans h
        have hz := hj3 _ (Option.some.inj h).symm
        exact hz
      · replace h := (if_pos q6).symm.trans h
        refine i_iload_n S dX12_joinerOf_34 rfl ?_
        refine i_iconst (v := -1) S dX12_joinerOf_35 ic_m1 ?_
        obtain ⟨s8, e8, hm8, ho8⟩ := mgn h
        have hj8 : ∀ p8, s8 = .inl p8 → V 55 [some (rf g 47), some (.int x1), some (.int x2), none, some (.int s.2)] [] w := by
          intro p8 ep8
          have h := hm8 p8 ep8
          refine i_iload S dX12_joinerOf_55 rfl ?_
          refine i_istore_n (L1 := [some (rf g 47), some (.int x1), some (.int x2), some (.int s.2), some (.int s.2)]) S dX12_joinerOf_57 (by decide) rfl ?_
          have hz := hj3 _ (Option.some.inj h).symm
          exact hz
        replace h := e8
        clear e8
        refine i_icmp_eq (tgt := 55) S dX12_joinerOf_36 (by decide) (fun q7 => ?_) (fun q7 => ?_)
        · replace h := (if_pos q7).symm.trans h
          refine i_mask (L1 := [some (rf g 47), some (.int x1), some (.int x2), none, some (.int s.2)]) S [true, true, true, false, true] rfl ?_
          have hz := hj8 _ (Option.some.inj h).symm
          exact hz
        · replace h := (if_neg q7).symm.trans h
          refine i_aload_n S dX12_joinerOf_39 rfl ?_
          refine i_getR S fl_X12_24 (k47 hL) (r47_10 hL) rfl dX12_joinerOf_40 ?_
          refine i_iload S dX12_joinerOf_43 rfl ?_
          refine i_ialdv (v := gI w 51 (ix s.2)) S (k51 hL) hi5 rfl dX12_joinerOf_45 ?_
          refine i_aload_n S dX12_joinerOf_46 rfl ?_
          refine i_getR S fl_X12_24 (k47 hL) (r47_10 hL) rfl dX12_joinerOf_47 ?_
          refine i_iload_n S dX12_joinerOf_50 rfl ?_
          obtain ⟨hi11, h⟩ := gd h
          refine i_ialdv (v := gI w 51 (ix s.1)) S (k51 hL) hi11 rfl dX12_joinerOf_51 ?_
          refine i_icmp_ge (tgt := 58) S dX12_joinerOf_52 (by decide) (fun q12 => ?_) (fun q12 => ?_)
          · replace h := (if_pos q12).symm.trans h
            replace h := ho8 _ (Option.some.inj h).symm
            have hz := hj3 _ (Option.some.inj h).symm
            exact hz
          · replace h := (if_neg q12).symm.trans h
            refine i_mask (L1 := [some (rf g 47), some (.int x1), some (.int x2), none, some (.int s.2)]) S [true, true, true, false, true] rfl ?_
            have hz := hj8 _ (Option.some.inj h).symm
            exact hz
set_option maxHeartbeats 4000000 in
set_option maxRecDepth 100000 in
theorem c_X12_joinerOf (g : Gx) (d : Nat) {x1 : Int32} {x2 : Int32} {w : Mm} {p : Int32} (hL : Lay w) (h : f_X12_joinerOf x1 x2 w = some p) : Call g (d + 2) yX12_joinerOf cX12_joinerOf 5 (some .int) [rf g 47, .int x1, .int x2] w (some (.int p)) w := by
  refine call_of (L0 := [some (rf g 47), some (.int x1), some (.int x2), none, none]) (by decide) rfl (Nat.le_of_ble_eq_true rfl) (fun V S0 => ?_)
  have S := S0.b
  unfold f_X12_joinerOf at h
  refine i_iconst (v := -1) S dX12_joinerOf_0 ic_m1 ?_
  refine i_istore_n (L1 := [some (rf g 47), some (.int x1), some (.int x2), some (.int ((-1 : Int32))), none]) S dX12_joinerOf_1 (by decide) rfl ?_
  refine i_iconst (v := 0) S dX12_joinerOf_2 ic_0 ?_
  refine i_istore (L1 := [some (rf g 47), some (.int x1), some (.int x2), some (.int ((-1 : Int32))), some (.int ((0 : Int32)))]) S dX12_joinerOf_3 (by decide) rfl ?_
  obtain ⟨p1, e1, h⟩ := bn h
  have hE1 : V 64 [none, none, none, some (.int p1), none] [] w := by
    refine i_iload_n S dX12_joinerOf_64 rfl ?_
    cases h
    exact i_iret S0 rfl dX12_joinerOf_65
  exact wh_V (P := fun sv1 => V 5 [some (rf g 47), some (.int x1), some (.int x2), some (.int sv1.1), some (.int sv1.2)] [] w) (E := fun xv1 => V 64 [none, none, none, some (.int xv1), none] [] w) (fun sv1 ev hb hc he => t_l_X12_joinerOf_5 (w := w)  S hL sv1 ev hb hc he) FUEL _ _ e1 hE1
/-! WordYearModel.joinOf -/
noncomputable def f_X12_joinOf (x1 : Int32) (x2 : Int32) (w : Mm) : Option Int32 := Option.bind (f_X12_joinerOf x1 x2 w) (fun p1 => if p1 = (-1 : Int32) then (some (1000000 : Int32)) else (if inb p1 10 = true then (some (gI w 51 (ix p1))) else none))
set_option maxHeartbeats 4000000 in
set_option maxRecDepth 100000 in
theorem c_X12_joinOf (g : Gx) (d : Nat) {x1 : Int32} {x2 : Int32} {w : Mm} {p : Int32} (hL : Lay w) (h : f_X12_joinOf x1 x2 w = some p) : Call g (d + 3) yX12_joinOf cX12_joinOf 4 (some .int) [rf g 47, .int x1, .int x2] w (some (.int p)) w := by
  refine call_of (L0 := [some (rf g 47), some (.int x1), some (.int x2), none]) (by decide) rfl (Nat.le_of_ble_eq_true rfl) (fun V S0 => ?_)
  have S := S0.b
  unfold f_X12_joinOf at h
  refine i_aload_n S dX12_joinOf_0 rfl ?_
  refine i_iload_n S dX12_joinOf_1 rfl ?_
  refine i_iload_n S dX12_joinOf_2 rfl ?_
  obtain ⟨p1, e1, h⟩ := bn h
  refine i_callV (As := [.int x1, .int x2]) (st1 := [.int p1]) S (c_X12_joinerOf g d hL e1) mw_X12_joinerOf lk_X12_320 im_X12_joinerOf se_X12_joinerOf ci_12.1 ci_12.2.1 (k47 hL) dX12_joinOf_3 rfl rfl (Nat.le_of_ble_eq_true rfl) rfl ?_
  refine i_istore_n (L1 := [some (rf g 47), some (.int x1), some (.int x2), some (.int p1)]) S dX12_joinOf_6 (by decide) rfl ?_
  refine i_iload_n S dX12_joinOf_7 rfl ?_
  refine i_iconst (v := -1) S dX12_joinOf_8 ic_m1 ?_
  refine i_icmp_ne (tgt := 18) S dX12_joinOf_9 (by decide) (fun q2 => ?_) (fun q2 => ?_)
  · replace h := (if_neg q2).symm.trans h
    refine i_aload_n S dX12_joinOf_18 rfl ?_
    refine i_getR S fl_X12_24 (k47 hL) (r47_10 hL) rfl dX12_joinOf_19 ?_
    refine i_iload_n S dX12_joinOf_22 rfl ?_
    obtain ⟨hi4, h⟩ := gd h
    refine i_ialdv (v := gI w 51 (ix p1)) S (k51 hL) hi4 rfl dX12_joinOf_23 ?_
    cases h
    exact i_iret S0 rfl dX12_joinOf_24
  · replace h := (if_pos q2).symm.trans h
    refine i_ldcw S kc_X12_324 dX12_joinOf_12 ?_
    refine i_goto (tgt := 24) S dX12_joinOf_15 (by decide) ?_
    cases h
    exact i_iret S0 rfl dX12_joinOf_24
/-! WordYearModel.shortens -/
noncomputable def f_X12_shortens (x1 : Int32) (x2 : Int32) (x3 : Int32) (w : Mm) : Option (Int32 × Mm) := if inb (x1 + x2) 65536 = true then (if x3 < (gI w 72 (ix (x1 + x2))) then (some ((1 : Int32), sI w 72 (ix (x1 + x2)) x3)) else (some ((0 : Int32), w))) else none
set_option maxHeartbeats 4000000 in
set_option maxRecDepth 100000 in
theorem c_X12_shortens (g : Gx) (d : Nat) {x1 : Int32} {x2 : Int32} {x3 : Int32} {w : Mm} {p : (Int32 × Mm)} (hL : Lay w) (h : f_X12_shortens x1 x2 x3 w = some p) : Call g (d + 1) yX12_shortens cX12_shortens 4 (some .boolean) [rf g 47, .int x1, .int x2, .int x3] w (some (.int p.1)) p.2 := by
  refine call_of (L0 := [some (rf g 47), some (.int x1), some (.int x2), some (.int x3)]) (by decide) rfl (Nat.le_of_ble_eq_true rfl) (fun V S0 => ?_)
  have S := S0.b
  unfold f_X12_shortens at h
  refine i_iload_n S dX12_shortens_0 rfl ?_
  refine i_aload_n S dX12_shortens_1 rfl ?_
  refine i_getR S fl_X12_89 (k47 hL) (r47_44 hL) rfl dX12_shortens_2 ?_
  refine i_iload_n S dX12_shortens_5 rfl ?_
  refine i_iload_n S dX12_shortens_6 rfl ?_
  refine i_iadd S dX12_shortens_7 ?_
  obtain ⟨hi2, h⟩ := gd h
  refine i_ialdv (v := gI w 72 (ix (x1 + x2))) S (k72 hL) hi2 rfl dX12_shortens_8 ?_
  refine i_icmp_lt (tgt := 14) S dX12_shortens_9 (by decide) (fun q3 => ?_) (fun q3 => ?_)
  · replace h := (if_pos q3).symm.trans h
    refine i_aload_n S dX12_shortens_14 rfl ?_
    refine i_getR S fl_X12_89 (k47 hL) (r47_44 hL) rfl dX12_shortens_15 ?_
    refine i_iload_n S dX12_shortens_18 rfl ?_
    refine i_iload_n S dX12_shortens_19 rfl ?_
    refine i_iadd S dX12_shortens_20 ?_
    refine i_iload_n S dX12_shortens_21 rfl ?_
    refine i_iast S (k72 hL) hi2 dX12_shortens_22 ?_
    refine i_iconst (v := 1) S dX12_shortens_23 ic_1 ?_
    cases h
    exact i_iret S0 rfl dX12_shortens_24
  · replace h := (if_neg q3).symm.trans h
    refine i_iconst (v := 0) S dX12_shortens_12 ic_0 ?_
    cases h
    exact i_iret S0 rfl dX12_shortens_13
