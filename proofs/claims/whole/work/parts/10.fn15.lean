/-! WordYearModel.talksBy -/
noncomputable def l_X12_talksBy_26 (x1 : Int32) (s : Int32 × Mm) : Option ((Int32 × Mm) ⊕ (Mm)) := if (4 : Int32) ≤ s.1 then (some (.inr s.2)) else (onL s.2 (if inb (((4 : Int32) * x1) + s.1) 4096 = true then (some (.inl (s.1 + (1 : Int32), sL s.2 74 (ix (((4 : Int32) * x1) + s.1)) (0 : Int64)))) else none))
noncomputable def l_X12_talksBy_50 (x1 : Int32) (s : Int32 × Mm) : Option ((Int32 × Mm) ⊕ (Mm)) := onL s.2 (if (gI s.2 47 3) ≤ s.1 then (some (.inr s.2)) else (if inb s.1 24 = true then (Option.bind (f_X12_sayableOf x1 (gI s.2 55 (ix s.1)) s.2) (fun p5 => onL p5.2 (if inb (((4 : Int32) * x1) + (gI p5.2 54 (ix s.1))) 4096 = true then (Option.bind (if (gI p5.2 47 5) ≤ p5.1 then (some (gI p5.2 47 5)) else (some p5.1)) (fun p12 => if inb x1 1024 = true then (Option.bind (mg (if (gI p5.2 57 (ix s.1)) ≤ 0 then (some (.inl ())) else (if p5.1 ≤ (gI p5.2 57 (ix s.1)) then (some (.inl ())) else (some (.inr ((1 : Int32) <<< (s.1 &&& 31)))))) (fun p20 => some (0 : Int32))) (fun p18 => some (.inl (s.1 + (1 : Int32), sI (sL p5.2 74 (ix (((4 : Int32) * x1) + (gI p5.2 54 (ix s.1)))) ((gL p5.2 74 (ix (((4 : Int32) * x1) + (gI p5.2 54 (ix s.1))))) + (((gI p5.2 56 (ix s.1)).toInt64) * p12.toInt64))) 75 (ix x1) ((gI p5.2 75 (ix x1)) ||| p18))))) else none)) else none))) else none))
noncomputable def f_X12_talksBy (x1 : Int32) (w : Mm) : Option Mm := if inb x1 1024 = true then (if (gI w 73 (ix x1)) = 0 then (Option.bind (wh (l_X12_talksBy_26 x1) FUEL ((0 : Int32), sI (sI w 73 (ix x1) (vp_nar .boolean (1 : Int32))) 75 (ix x1) (0 : Int32))) (fun p6 => Option.bind (wh (l_X12_talksBy_50 x1) FUEL ((0 : Int32), p6)) (fun p7 => some p7))) else (some w)) else none
set_option maxHeartbeats 4000000 in
set_option maxRecDepth 100000 in
theorem t_l_X12_talksBy_26 {g : Gx} {V : Vt} {d : Nat} (S : MachB g yX12_talksBy cX12_talksBy 4 (d + 6) V) {x1 : Int32}  (s : Int32 × Mm) (e : (Int32 × Mm) ⊕ (Mm)) (h : l_X12_talksBy_26 x1 s = some e) (hC : ∀ s2, e = .inl s2 → V 26 [some (rf g 47), some (.int x1), some (.int s2.1), none] [] s2.2) (hE : ∀ x, e = .inr x → V 48 [some (rf g 47), some (.int x1), none, none] [] x) : V 26 [some (rf g 47), some (.int x1), some (.int s.1), none] [] s.2 := by
  unfold l_X12_talksBy_26 at h
  refine i_iload_n S dX12_talksBy_26 rfl ?_
  refine i_iconst (v := 4) S dX12_talksBy_27 ic_4 ?_
  refine i_icmp_ge (tgt := 48) S dX12_talksBy_28 (by decide) (fun q1 => ?_) (fun q1 => ?_)
  · replace h := (if_pos q1).symm.trans h
    refine i_mask (L1 := [some (rf g 47), some (.int x1), none, none]) S [true, true, false, false] rfl ?_
    have hz := hE _ (Option.some.inj h).symm
    exact hz
  · replace h := (if_neg q1).symm.trans h
    refine i_aload_n S dX12_talksBy_31 rfl ?_
    obtain ⟨hL2, h⟩ := onLn h
    refine i_getR S fl_X12_95 (k47 hL2) (r47_50 hL2) rfl dX12_talksBy_32 ?_
    refine i_iconst (v := 4) S dX12_talksBy_35 ic_4 ?_
    refine i_iload_n S dX12_talksBy_36 rfl ?_
    refine i_imul S dX12_talksBy_37 ?_
    refine i_iload_n S dX12_talksBy_38 rfl ?_
    refine i_iadd S dX12_talksBy_39 ?_
    refine i_lconst (v := 0) S dX12_talksBy_40 lc_0 ?_
    obtain ⟨hi4, h⟩ := gd h
    refine i_last S (k74 hL2) hi4 dX12_talksBy_41 ?_
    refine i_iinc (L1 := [some (rf g 47), some (.int x1), some (.int (s.1 + (1 : Int32))), none]) S dX12_talksBy_42 rfl ic_1 (by decide) rfl ?_
    refine i_goto (tgt := 26) S dX12_talksBy_45 (by decide) ?_
    have hz := hC _ (Option.some.inj h).symm
    exact hz
set_option maxHeartbeats 4000000 in
set_option maxRecDepth 100000 in
theorem t_l_X12_talksBy_50 {g : Gx} {V : Vt} {d : Nat} (S : MachB g yX12_talksBy cX12_talksBy 4 (d + 6) V) {x1 : Int32}  (s : Int32 × Mm) (e : (Int32 × Mm) ⊕ (Mm)) (h : l_X12_talksBy_50 x1 s = some e) (hC : ∀ s2, e = .inl s2 → V 50 [some (rf g 47), some (.int x1), some (.int s2.1), none] [] s2.2) (hE : ∀ x, e = .inr x → V 154 [none, none, none, none] [] x) : V 50 [some (rf g 47), some (.int x1), some (.int s.1), none] [] s.2 := by
  unfold l_X12_talksBy_50 at h
  refine i_iload_n S dX12_talksBy_50 rfl ?_
  refine i_aload_n S dX12_talksBy_51 rfl ?_
  obtain ⟨hL1, h⟩ := onLn h
  refine i_getIv (v := gI s.2 47 3) S fl_X12_167 (k47 hL1) rfl rfl dX12_talksBy_52 ?_
  refine i_icmp_ge (tgt := 154) S dX12_talksBy_55 (by decide) (fun q2 => ?_) (fun q2 => ?_)
  · replace h := (if_pos q2).symm.trans h
    refine i_mask (L1 := [none, none, none, none]) S [false, false, false, false] rfl ?_
    have hz := hE _ (Option.some.inj h).symm
    exact hz
  · replace h := (if_neg q2).symm.trans h
    refine i_aload_n S dX12_talksBy_58 rfl ?_
    refine i_iload_n S dX12_talksBy_59 rfl ?_
    refine i_aload_n S dX12_talksBy_60 rfl ?_
    refine i_getR S fl_X12_36 (k47 hL1) (r47_14 hL1) rfl dX12_talksBy_61 ?_
    refine i_iload_n S dX12_talksBy_64 rfl ?_
    obtain ⟨hi4, h⟩ := gd h
    refine i_ialdv (v := gI s.2 55 (ix s.1)) S (k55 hL1) hi4 rfl dX12_talksBy_65 ?_
    obtain ⟨p5, e5, h⟩ := bn h
    refine i_callV (As := [.int x1, .int (gI s.2 55 (ix s.1))]) (st1 := [.int p5.1]) S (c_X12_sayableOf g d hL1 e5) mw_X12_sayableOf lk_X12_364 im_X12_sayableOf se_X12_sayableOf ci_12.1 ci_12.2.1 (k47 hL1) dX12_talksBy_66 rfl rfl (Nat.le_of_ble_eq_true rfl) rfl ?_
    refine i_istore_n (L1 := [some (rf g 47), some (.int x1), some (.int s.1), some (.int p5.1)]) S dX12_talksBy_69 (by decide) rfl ?_
    refine i_aload_n S dX12_talksBy_70 rfl ?_
    obtain ⟨hL6, h⟩ := onLn h
    refine i_getR S fl_X12_95 (k47 hL6) (r47_50 hL6) rfl dX12_talksBy_71 ?_
    refine i_iconst (v := 4) S dX12_talksBy_74 ic_4 ?_
    refine i_iload_n S dX12_talksBy_75 rfl ?_
    refine i_imul S dX12_talksBy_76 ?_
    refine i_aload_n S dX12_talksBy_77 rfl ?_
    refine i_getR S fl_X12_33 (k47 hL6) (r47_13 hL6) rfl dX12_talksBy_78 ?_
    refine i_iload_n S dX12_talksBy_81 rfl ?_
    refine i_ialdv (v := gI p5.2 54 (ix s.1)) S (k54 hL6) hi4 rfl dX12_talksBy_82 ?_
    refine i_iadd S dX12_talksBy_83 ?_
    refine i_dup2 S dX12_talksBy_84 rfl rfl ?_
    obtain ⟨hi9, h⟩ := gd h
    refine i_laldv (v := gL p5.2 74 (ix (((4 : Int32) * x1) + (gI p5.2 54 (ix s.1))))) S (k74 hL6) hi9 rfl dX12_talksBy_85 ?_
    refine i_aload_n S dX12_talksBy_86 rfl ?_
    refine i_getR S fl_X12_39 (k47 hL6) (r47_15 hL6) rfl dX12_talksBy_87 ?_
    refine i_iload_n S dX12_talksBy_90 rfl ?_
    refine i_ialdv (v := gI p5.2 56 (ix s.1)) S (k56 hL6) hi4 rfl dX12_talksBy_91 ?_
    refine i_i2l S dX12_talksBy_92 ?_
    refine i_iload_n S dX12_talksBy_93 rfl ?_
    refine i_aload_n S dX12_talksBy_94 rfl ?_
    refine i_getIv (v := gI p5.2 47 5) S fl_X12_13 (k47 hL6) rfl rfl dX12_talksBy_95 ?_
    obtain ⟨p12, e12, h⟩ := bn h
    have hj12 : ∀ q12, p12 = q12 → V 109 [some (rf g 47), some (.int x1), some (.int s.1), some (.int p5.1)] [.int q12, .long ((gI p5.2 56 (ix s.1)).toInt64), .long (gL p5.2 74 (ix (((4 : Int32) * x1) + (gI p5.2 54 (ix s.1))))), .int (((4 : Int32) * x1) + (gI p5.2 54 (ix s.1))), rf g 74] p5.2 := by
      intro q12 hq12
      subst hq12
      refine i_i2l S dX12_talksBy_109 ?_
      refine i_lmul S dX12_talksBy_110 ?_
      refine i_ladd S dX12_talksBy_111 ?_
      refine i_last S (k74 hL6) hi9 dX12_talksBy_112 ?_
      refine i_aload_n S dX12_talksBy_113 rfl ?_
      refine i_getR S fl_X12_99 (k47 hL6) (r47_51 hL6) rfl dX12_talksBy_114 ?_
      refine i_iload_n S dX12_talksBy_117 rfl ?_
      refine i_dup2 S dX12_talksBy_118 rfl rfl ?_
      obtain ⟨hi15, h⟩ := gd h
      refine i_ialdv (v := gI p5.2 75 (ix x1)) S (k75 hL6) hi15 rfl dX12_talksBy_119 ?_
      refine i_aload_n S dX12_talksBy_120 rfl ?_
      refine i_getR S fl_X12_42 (k47 hL6) (r47_16 hL6) rfl dX12_talksBy_121 ?_
      refine i_iload_n S dX12_talksBy_124 rfl ?_
      refine i_ialdv (v := gI p5.2 57 (ix s.1)) S (k57 hL6) hi4 rfl dX12_talksBy_125 ?_
      obtain ⟨p18, e18, h⟩ := bn h
      have hj18 : ∀ q18, p18 = q18 → V 146 [some (rf g 47), some (.int x1), some (.int s.1), none] [.int q18, .int (gI p5.2 75 (ix x1)), .int x1, rf g 75] (sL p5.2 74 (ix (((4 : Int32) * x1) + (gI p5.2 54 (ix s.1)))) ((gL p5.2 74 (ix (((4 : Int32) * x1) + (gI p5.2 54 (ix s.1))))) + (((gI p5.2 56 (ix s.1)).toInt64) * p12.toInt64))) := by
        intro q18 hq18
        subst hq18
        refine i_ior S dX12_talksBy_146 ?_
        refine i_iast S (k75 hL6) hi15 dX12_talksBy_147 ?_
        refine i_iinc (L1 := [some (rf g 47), some (.int x1), some (.int (s.1 + (1 : Int32))), none]) S dX12_talksBy_148 rfl ic_1 (by decide) rfl ?_
        refine i_goto (tgt := 50) S dX12_talksBy_151 (by decide) ?_
        have hz := hC _ (Option.some.inj h).symm
        exact hz
      replace h := e18
      clear e18
      obtain ⟨s20, e20, hm20, ho20⟩ := mgn h
      have hj20 : ∀ p20, s20 = .inl p20 → V 145 [some (rf g 47), some (.int x1), some (.int s.1), none] [.int (gI p5.2 75 (ix x1)), .int x1, rf g 75] (sL p5.2 74 (ix (((4 : Int32) * x1) + (gI p5.2 54 (ix s.1)))) ((gL p5.2 74 (ix (((4 : Int32) * x1) + (gI p5.2 54 (ix s.1))))) + (((gI p5.2 56 (ix s.1)).toInt64) * p12.toInt64))) := by
        intro p20 ep20
        have h := hm20 p20 ep20
        refine i_iconst (v := 0) S dX12_talksBy_145 ic_0 ?_
        have hz := hj18 _ (Option.some.inj h).symm
        exact hz
      replace h := e20
      clear e20
      refine i_if_le (tgt := 145) S dX12_talksBy_126 (by decide) (fun q17 => ?_) (fun q17 => ?_)
      · replace h := (if_pos q17).symm.trans h
        refine i_mask (L1 := [some (rf g 47), some (.int x1), some (.int s.1), none]) S [true, true, true, false] rfl ?_
        have hz := hj20 _ (Option.some.inj h).symm
        exact hz
      · replace h := (if_neg q17).symm.trans h
        refine i_iload_n S dX12_talksBy_129 rfl ?_
        refine i_aload_n S dX12_talksBy_130 rfl ?_
        refine i_getR S fl_X12_42 (k47 hL6) (r47_16 hL6) rfl dX12_talksBy_131 ?_
        refine i_iload_n S dX12_talksBy_134 rfl ?_
        refine i_ialdv (v := gI p5.2 57 (ix s.1)) S (k57 hL6) hi4 rfl dX12_talksBy_135 ?_
        refine i_icmp_le (tgt := 145) S dX12_talksBy_136 (by decide) (fun q22 => ?_) (fun q22 => ?_)
        · replace h := (if_pos q22).symm.trans h
          refine i_mask (L1 := [some (rf g 47), some (.int x1), some (.int s.1), none]) S [true, true, true, false] rfl ?_
          have hz := hj20 _ (Option.some.inj h).symm
          exact hz
        · replace h := (if_neg q22).symm.trans h
          refine i_iconst (v := 1) S dX12_talksBy_139 ic_1 ?_
          refine i_iload_n S dX12_talksBy_140 rfl ?_
          refine i_ishl S dX12_talksBy_141 ?_
          refine i_goto (tgt := 146) S dX12_talksBy_142 (by decide) ?_
          replace h := ho20 _ (Option.some.inj h).symm
          refine i_mask (L1 := [some (rf g 47), some (.int x1), some (.int s.1), none]) S [true, true, true, false] rfl ?_
          have hz := hj18 _ (Option.some.inj h).symm
          exact hz
    replace h := e12
    clear e12
    refine i_icmp_ge (tgt := 105) S dX12_talksBy_98 (by decide) (fun q11 => ?_) (fun q11 => ?_)
    · replace h := (if_pos q11).symm.trans h
      refine i_aload_n S dX12_talksBy_105 rfl ?_
      refine i_getIv (v := gI p5.2 47 5) S fl_X12_13 (k47 hL6) rfl rfl dX12_talksBy_106 ?_
      have hz := hj12 _ (Option.some.inj h).symm
      exact hz
    · replace h := (if_neg q11).symm.trans h
      refine i_iload_n S dX12_talksBy_101 rfl ?_
      refine i_goto (tgt := 109) S dX12_talksBy_102 (by decide) ?_
      have hz := hj12 _ (Option.some.inj h).symm
      exact hz
set_option maxHeartbeats 4000000 in
set_option maxRecDepth 100000 in
theorem c_X12_talksBy (g : Gx) (d : Nat) {x1 : Int32} {w : Mm} {p : Mm} (hL : Lay w) (h : f_X12_talksBy x1 w = some p) : Call g (d + 7) yX12_talksBy cX12_talksBy 4 none [rf g 47, .int x1] w none p := by
  refine call_of (L0 := [some (rf g 47), some (.int x1), none, none]) (by decide) rfl (Nat.le_of_ble_eq_true rfl) (fun V S0 => ?_)
  have S := S0.b
  unfold f_X12_talksBy at h
  refine i_aload_n S dX12_talksBy_0 rfl ?_
  refine i_getR S fl_X12_92 (k47 hL) (r47_49 hL) rfl dX12_talksBy_1 ?_
  refine i_iload_n S dX12_talksBy_4 rfl ?_
  obtain ⟨hi2, h⟩ := gd h
  refine i_zaldv (v := gI w 73 (ix x1)) S (k73 hL) hi2 rfl dX12_talksBy_5 ?_
  refine i_if_eq (tgt := 10) S dX12_talksBy_6 (by decide) (fun q3 => ?_) (fun q3 => ?_)
  · replace h := (if_pos q3).symm.trans h
    refine i_aload_n S dX12_talksBy_10 rfl ?_
    refine i_getR S fl_X12_92 (k47 hL) (r47_49 hL) rfl dX12_talksBy_11 ?_
    refine i_iload_n S dX12_talksBy_14 rfl ?_
    refine i_iconst (v := 1) S dX12_talksBy_15 ic_1 ?_
    refine i_zast S (k73 hL) hi2 dX12_talksBy_16 ?_
    refine i_aload_n S dX12_talksBy_17 rfl ?_
    refine i_getR S fl_X12_99 (k47 hL) (r47_51 hL) rfl dX12_talksBy_18 ?_
    refine i_iload_n S dX12_talksBy_21 rfl ?_
    refine i_iconst (v := 0) S dX12_talksBy_22 ic_0 ?_
    refine i_iast S (k75 hL) hi2 dX12_talksBy_23 ?_
    refine i_iconst (v := 0) S dX12_talksBy_24 ic_0 ?_
    refine i_istore_n (L1 := [some (rf g 47), some (.int x1), some (.int ((0 : Int32))), none]) S dX12_talksBy_25 (by decide) rfl ?_
    obtain ⟨p6, e6, h⟩ := bn h
    have hE6 : V 48 [some (rf g 47), some (.int x1), none, none] [] p6 := by
      refine i_iconst (v := 0) S dX12_talksBy_48 ic_0 ?_
      refine i_istore_n (L1 := [some (rf g 47), some (.int x1), some (.int ((0 : Int32))), none]) S dX12_talksBy_49 (by decide) rfl ?_
      obtain ⟨p7, e7, h⟩ := bn h
      have hE7 : V 154 [none, none, none, none] [] p7 := by
        cases h
        exact i_vret S0 dX12_talksBy_154
      exact wh_V (P := fun sv7 => V 50 [some (rf g 47), some (.int x1), some (.int sv7.1), none] [] sv7.2) (E := fun xv7 => V 154 [none, none, none, none] [] xv7) (fun sv7 ev hb hc he => t_l_X12_talksBy_50   S  sv7 ev hb hc he) FUEL _ _ e7 hE7
    exact wh_V (P := fun sv6 => V 26 [some (rf g 47), some (.int x1), some (.int sv6.1), none] [] sv6.2) (E := fun xv6 => V 48 [some (rf g 47), some (.int x1), none, none] [] xv6) (fun sv6 ev hb hc he => t_l_X12_talksBy_26   S  sv6 ev hb hc he) FUEL _ _ e6 hE6
  · replace h := (if_neg q3).symm.trans h
    cases h
    exact i_vret S0 dX12_talksBy_9
/-! WordYearModel.talkBy -/
noncomputable def f_X12_talkBy (x1 : Int32) (x2 : Int32) (w : Mm) : Option (Int64 × Mm) := Option.bind (f_X12_talksBy x1 w) (fun p1 => onL p1 (if inb (((4 : Int32) * x1) + x2) 4096 = true then (some (gL p1 74 (ix (((4 : Int32) * x1) + x2)), p1)) else none))
set_option maxHeartbeats 4000000 in
set_option maxRecDepth 100000 in
theorem c_X12_talkBy (g : Gx) (d : Nat) {x1 : Int32} {x2 : Int32} {w : Mm} {p : (Int64 × Mm)} (hL : Lay w) (h : f_X12_talkBy x1 x2 w = some p) : Call g (d + 8) yX12_talkBy cX12_talkBy 3 (some .long) [rf g 47, .int x1, .int x2] w (some (.long p.1)) p.2 := by
  refine call_of (L0 := [some (rf g 47), some (.int x1), some (.int x2)]) (by decide) rfl (Nat.le_of_ble_eq_true rfl) (fun V S0 => ?_)
  have S := S0.b
  unfold f_X12_talkBy at h
  refine i_aload_n S dX12_talkBy_0 rfl ?_
  refine i_iload_n S dX12_talkBy_1 rfl ?_
  obtain ⟨p1, e1, h⟩ := bn h
  refine i_callV (As := [.int x1]) (st1 := []) S (c_X12_talksBy g d hL e1) mw_X12_talksBy lk_X12_367 im_X12_talksBy se_X12_talksBy ci_12.1 ci_12.2.1 (k47 hL) dX12_talkBy_2 rfl rfl (Nat.le_of_ble_eq_true rfl) rfl ?_
  refine i_aload_n S dX12_talkBy_5 rfl ?_
  obtain ⟨hL2, h⟩ := onLn h
  refine i_getR S fl_X12_95 (k47 hL2) (r47_50 hL2) rfl dX12_talkBy_6 ?_
  refine i_iconst (v := 4) S dX12_talkBy_9 ic_4 ?_
  refine i_iload_n S dX12_talkBy_10 rfl ?_
  refine i_imul S dX12_talkBy_11 ?_
  refine i_iload_n S dX12_talkBy_12 rfl ?_
  refine i_iadd S dX12_talkBy_13 ?_
  obtain ⟨hi4, h⟩ := gd h
  refine i_laldv (v := gL p1 74 (ix (((4 : Int32) * x1) + x2))) S (k74 hL2) hi4 rfl dX12_talkBy_14 ?_
  cases h
  exact i_lret S0 dX12_talkBy_15
/-! WordYearModel.talkOf -/
noncomputable def l_X12_talkOf_5 (x1 : Int32) (s : Int64 × Int32 × Mm) : Option ((Int64 × Int32 × Mm) ⊕ (Int64 × Mm)) := if (4 : Int32) ≤ s.2.1 then (some (.inr (s.1, s.2.2))) else (onL s.2.2 (Option.bind (f_X12_talkBy x1 s.2.1 s.2.2) (fun p3 => some (.inl (s.1 + p3.1, s.2.1 + (1 : Int32), p3.2)))))
noncomputable def f_X12_talkOf (x1 : Int32) (w : Mm) : Option (Int64 × Mm) := Option.bind (wh (l_X12_talkOf_5 x1) FUEL ((0 : Int64), (0 : Int32), w)) (fun p1 => some (p1.1, p1.2))
set_option maxHeartbeats 4000000 in
set_option maxRecDepth 100000 in
theorem t_l_X12_talkOf_5 {g : Gx} {V : Vt} {d : Nat} (S : MachB g yX12_talkOf cX12_talkOf 5 (d + 8) V) {x1 : Int32}  (s : Int64 × Int32 × Mm) (e : (Int64 × Int32 × Mm) ⊕ (Int64 × Mm)) (h : l_X12_talkOf_5 x1 s = some e) (hC : ∀ s2, e = .inl s2 → V 5 [some (rf g 47), some (.int x1), some (.long s2.1), none, some (.int s2.2.1)] [] s2.2.2) (hE : ∀ x, e = .inr x → V 27 [none, none, some (.long x.1), none, none] [] x.2) : V 5 [some (rf g 47), some (.int x1), some (.long s.1), none, some (.int s.2.1)] [] s.2.2 := by
  unfold l_X12_talkOf_5 at h
  refine i_iload S dX12_talkOf_5 rfl ?_
  refine i_iconst (v := 4) S dX12_talkOf_7 ic_4 ?_
  refine i_icmp_ge (tgt := 27) S dX12_talkOf_8 (by decide) (fun q1 => ?_) (fun q1 => ?_)
  · replace h := (if_pos q1).symm.trans h
    refine i_mask (L1 := [none, none, some (.long s.1), none, none]) S [false, false, true, false, false] rfl ?_
    have hz := hE _ (Option.some.inj h).symm
    exact hz
  · replace h := (if_neg q1).symm.trans h
    refine i_lload_n S dX12_talkOf_11 rfl ?_
    refine i_aload_n S dX12_talkOf_12 rfl ?_
    refine i_iload_n S dX12_talkOf_13 rfl ?_
    refine i_iload S dX12_talkOf_14 rfl ?_
    obtain ⟨hL2, h⟩ := onLn h
    obtain ⟨p3, e3, h⟩ := bn h
    refine i_callV (As := [.int x1, .int s.2.1]) (st1 := [.long p3.1, .long s.1]) S (c_X12_talkBy g d hL2 e3) mw_X12_talkBy lk_X12_370 im_X12_talkBy se_X12_talkBy ci_12.1 ci_12.2.1 (k47 hL2) dX12_talkOf_16 rfl rfl (Nat.le_of_ble_eq_true rfl) rfl ?_
    refine i_ladd S dX12_talkOf_19 ?_
    refine i_lstore_n (L1 := [some (rf g 47), some (.int x1), some (.long (s.1 + p3.1)), none, some (.int s.2.1)]) S dX12_talkOf_20 (by decide) rfl ?_
    refine i_iinc (L1 := [some (rf g 47), some (.int x1), some (.long (s.1 + p3.1)), none, some (.int (s.2.1 + (1 : Int32)))]) S dX12_talkOf_21 rfl ic_1 (by decide) rfl ?_
    refine i_goto (tgt := 5) S dX12_talkOf_24 (by decide) ?_
    have hz := hC _ (Option.some.inj h).symm
    exact hz
set_option maxHeartbeats 4000000 in
set_option maxRecDepth 100000 in
theorem c_X12_talkOf (g : Gx) (d : Nat) {x1 : Int32} {w : Mm} {p : (Int64 × Mm)} (hL : Lay w) (h : f_X12_talkOf x1 w = some p) : Call g (d + 9) yX12_talkOf cX12_talkOf 5 (some .long) [rf g 47, .int x1] w (some (.long p.1)) p.2 := by
  refine call_of (L0 := [some (rf g 47), some (.int x1), none, none, none]) (by decide) rfl (Nat.le_of_ble_eq_true rfl) (fun V S0 => ?_)
  have S := S0.b
  unfold f_X12_talkOf at h
  refine i_lconst (v := 0) S dX12_talkOf_0 lc_0 ?_
  refine i_lstore_n (L1 := [some (rf g 47), some (.int x1), some (.long ((0 : Int64))), none, none]) S dX12_talkOf_1 (by decide) rfl ?_
  refine i_iconst (v := 0) S dX12_talkOf_2 ic_0 ?_
  refine i_istore (L1 := [some (rf g 47), some (.int x1), some (.long ((0 : Int64))), none, some (.int ((0 : Int32)))]) S dX12_talkOf_3 (by decide) rfl ?_
  obtain ⟨p1, e1, h⟩ := bn h
  have hE1 : V 27 [none, none, some (.long p1.1), none, none] [] p1.2 := by
    refine i_lload_n S dX12_talkOf_27 rfl ?_
    cases h
    exact i_lret S0 dX12_talkOf_28
  exact wh_V (P := fun sv1 => V 5 [some (rf g 47), some (.int x1), some (.long sv1.1), none, some (.int sv1.2.1)] [] sv1.2.2) (E := fun xv1 => V 27 [none, none, some (.long xv1.1), none, none] [] xv1.2) (fun sv1 ev hb hc he => t_l_X12_talkOf_5   S  sv1 ev hb hc he) FUEL _ _ e1 hE1
/-! WordYearModel.talk -/
noncomputable def f_X12_talk (x1 : Int32) (x2 : Int32) (w : Mm) : Option (Int64 × Mm) := Option.bind (f_X12_isTongue x1 w) (fun p1 => if p1 = 0 then (some ((-1 : Int64), w)) else (mg (if x2 = (-1 : Int32) then (some (.inl ())) else (if (f_X12_isSort x2) = 0 then (some (.inr ((-1 : Int64), w))) else (some (.inl ())))) (fun p4 => if x2 = (-1 : Int32) then (Option.bind (f_X12_talkOf x1 w) (fun p7 => some (p7.1, p7.2))) else (Option.bind (f_X12_talkBy x1 x2 w) (fun p6 => some (p6.1, p6.2))))))
set_option maxHeartbeats 4000000 in
set_option maxRecDepth 100000 in
theorem c_X12_talk (g : Gx) (d : Nat) {x1 : Int32} {x2 : Int32} {w : Mm} {p : (Int64 × Mm)} (hL : Lay w) (h : f_X12_talk x1 x2 w = some p) : Call g (d + 10) yX12_talk cX12_talk 3 (some .long) [rf g 47, .int x1, .int x2] w (some (.long p.1)) p.2 := by
  refine call_of (L0 := [some (rf g 47), some (.int x1), some (.int x2)]) (by decide) rfl (Nat.le_of_ble_eq_true rfl) (fun V S0 => ?_)
  have S := S0.b
  unfold f_X12_talk at h
  refine i_aload_n S dX12_talk_0 rfl ?_
  refine i_iload_n S dX12_talk_1 rfl ?_
  obtain ⟨p1, e1, h⟩ := bn h
  refine i_callV (As := [.int x1]) (st1 := [.int p1]) S (c_X12_isTongue g (d + 7) hL e1) mw_X12_isTongue lk_X12_335 im_X12_isTongue se_X12_isTongue ci_12.1 ci_12.2.1 (k47 hL) dX12_talk_2 rfl rfl (Nat.le_of_ble_eq_true rfl) rfl ?_
  refine i_if_eq (tgt := 20) S dX12_talk_5 (by decide) (fun q2 => ?_) (fun q2 => ?_)
  · replace h := (if_pos q2).symm.trans h
    refine i_ldc2 S kl_X12_374 dX12_talk_20 ?_
    cases h
    exact i_lret S0 dX12_talk_23
  · replace h := (if_neg q2).symm.trans h
    refine i_iload_n S dX12_talk_8 rfl ?_
    refine i_iconst (v := -1) S dX12_talk_9 ic_m1 ?_
    obtain ⟨s4, e4, hm4, ho4⟩ := mgn h
    have hj4 : ∀ p4, s4 = .inl p4 → V 24 [some (rf g 47), some (.int x1), some (.int x2)] [] w := by
      intro p4 ep4
      have h := hm4 p4 ep4
      refine i_iload_n S dX12_talk_24 rfl ?_
      refine i_iconst (v := -1) S dX12_talk_25 ic_m1 ?_
      refine i_icmp_ne (tgt := 37) S dX12_talk_26 (by decide) (fun q5 => ?_) (fun q5 => ?_)
      · replace h := (if_neg q5).symm.trans h
        refine i_aload_n S dX12_talk_37 rfl ?_
        refine i_iload_n S dX12_talk_38 rfl ?_
        refine i_iload_n S dX12_talk_39 rfl ?_
        obtain ⟨p6, e6, h⟩ := bn h
        refine i_callV (As := [.int x1, .int x2]) (st1 := [.long p6.1]) S (c_X12_talkBy g (d + 1) hL e6) mw_X12_talkBy lk_X12_370 im_X12_talkBy se_X12_talkBy ci_12.1 ci_12.2.1 (k47 hL) dX12_talk_40 rfl rfl (Nat.le_of_ble_eq_true rfl) rfl ?_
        cases h
        exact i_lret S0 dX12_talk_43
      · replace h := (if_pos q5).symm.trans h
        refine i_aload_n S dX12_talk_29 rfl ?_
        refine i_iload_n S dX12_talk_30 rfl ?_
        obtain ⟨p7, e7, h⟩ := bn h
        refine i_callV (As := [.int x1]) (st1 := [.long p7.1]) S (c_X12_talkOf g d hL e7) mw_X12_talkOf lk_X12_376 im_X12_talkOf se_X12_talkOf ci_12.1 ci_12.2.1 (k47 hL) dX12_talk_31 rfl rfl (Nat.le_of_ble_eq_true rfl) rfl ?_
        refine i_goto (tgt := 43) S dX12_talk_34 (by decide) ?_
        cases h
        exact i_lret S0 dX12_talk_43
    replace h := e4
    clear e4
    refine i_icmp_eq (tgt := 24) S dX12_talk_10 (by decide) (fun q3 => ?_) (fun q3 => ?_)
    · replace h := (if_pos q3).symm.trans h
      have hz := hj4 _ (Option.some.inj h).symm
      exact hz
    · replace h := (if_neg q3).symm.trans h
      refine i_iload_n S dX12_talk_13 rfl ?_
      refine i_callS (As := [.int x2]) (st1 := [.int (f_X12_isSort x2)]) S (c_X12_isSort g (d + 7) rfl) mw_X12_isSort lk_X12_162 im_X12_isSort dX12_talk_14 rfl rfl (Nat.le_of_ble_eq_true rfl) rfl ?_
      refine i_if_ne (tgt := 24) S dX12_talk_17 (by decide) (fun q8 => ?_) (fun q8 => ?_)
      · replace h := (if_neg q8).symm.trans h
        have hz := hj4 _ (Option.some.inj h).symm
        exact hz
      · replace h := (if_pos q8).symm.trans h
        refine i_ldc2 S kl_X12_374 dX12_talk_20 ?_
        replace h := ho4 _ (Option.some.inj h).symm
        cases h
        exact i_lret S0 dX12_talk_23
/-! WordYearModel.mustsOf -/
noncomputable def f_X12_mustsOf (x1 : Int32) (w : Mm) : Option (Int32 × Mm) := Option.bind (f_X12_talksBy x1 w) (fun p1 => onL p1 (if inb x1 1024 = true then (some (gI p1 75 (ix x1), p1)) else none))
set_option maxHeartbeats 4000000 in
set_option maxRecDepth 100000 in
theorem c_X12_mustsOf (g : Gx) (d : Nat) {x1 : Int32} {w : Mm} {p : (Int32 × Mm)} (hL : Lay w) (h : f_X12_mustsOf x1 w = some p) : Call g (d + 8) yX12_mustsOf cX12_mustsOf 2 (some .int) [rf g 47, .int x1] w (some (.int p.1)) p.2 := by
  refine call_of (L0 := [some (rf g 47), some (.int x1)]) (by decide) rfl (Nat.le_of_ble_eq_true rfl) (fun V S0 => ?_)
  have S := S0.b
  unfold f_X12_mustsOf at h
  refine i_aload_n S dX12_mustsOf_0 rfl ?_
  refine i_iload_n S dX12_mustsOf_1 rfl ?_
  obtain ⟨p1, e1, h⟩ := bn h
  refine i_callV (As := [.int x1]) (st1 := []) S (c_X12_talksBy g d hL e1) mw_X12_talksBy lk_X12_367 im_X12_talksBy se_X12_talksBy ci_12.1 ci_12.2.1 (k47 hL) dX12_mustsOf_2 rfl rfl (Nat.le_of_ble_eq_true rfl) rfl ?_
  refine i_aload_n S dX12_mustsOf_5 rfl ?_
  obtain ⟨hL2, h⟩ := onLn h
  refine i_getR S fl_X12_99 (k47 hL2) (r47_51 hL2) rfl dX12_mustsOf_6 ?_
  refine i_iload_n S dX12_mustsOf_9 rfl ?_
  obtain ⟨hi4, h⟩ := gd h
  refine i_ialdv (v := gI p1 75 (ix x1)) S (k75 hL2) hi4 rfl dX12_mustsOf_10 ?_
  cases h
  exact i_iret S0 rfl dX12_mustsOf_11
/-! WordYearModel.musts -/
noncomputable def f_X12_musts (x1 : Int32) (w : Mm) : Option (Int32 × Mm) := Option.bind (f_X12_isTongue x1 w) (fun p1 => if p1 = 0 then (some ((-1 : Int32), w)) else (Option.bind (f_X12_mustsOf x1 w) (fun p3 => some (p3.1, p3.2))))
set_option maxHeartbeats 4000000 in
set_option maxRecDepth 100000 in
theorem c_X12_musts (g : Gx) (d : Nat) {x1 : Int32} {w : Mm} {p : (Int32 × Mm)} (hL : Lay w) (h : f_X12_musts x1 w = some p) : Call g (d + 9) yX12_musts cX12_musts 2 (some .int) [rf g 47, .int x1] w (some (.int p.1)) p.2 := by
  refine call_of (L0 := [some (rf g 47), some (.int x1)]) (by decide) rfl (Nat.le_of_ble_eq_true rfl) (fun V S0 => ?_)
  have S := S0.b
  unfold f_X12_musts at h
  refine i_aload_n S dX12_musts_0 rfl ?_
  refine i_iload_n S dX12_musts_1 rfl ?_
  obtain ⟨p1, e1, h⟩ := bn h
  refine i_callV (As := [.int x1]) (st1 := [.int p1]) S (c_X12_isTongue g (d + 6) hL e1) mw_X12_isTongue lk_X12_335 im_X12_isTongue se_X12_isTongue ci_12.1 ci_12.2.1 (k47 hL) dX12_musts_2 rfl rfl (Nat.le_of_ble_eq_true rfl) rfl ?_
  refine i_if_eq (tgt := 16) S dX12_musts_5 (by decide) (fun q2 => ?_) (fun q2 => ?_)
  · replace h := (if_pos q2).symm.trans h
    refine i_iconst (v := -1) S dX12_musts_16 ic_m1 ?_
    cases h
    exact i_iret S0 rfl dX12_musts_17
  · replace h := (if_neg q2).symm.trans h
    refine i_aload_n S dX12_musts_8 rfl ?_
    refine i_iload_n S dX12_musts_9 rfl ?_
    obtain ⟨p3, e3, h⟩ := bn h
    refine i_callV (As := [.int x1]) (st1 := [.int p3.1]) S (c_X12_mustsOf g d hL e3) mw_X12_mustsOf lk_X12_380 im_X12_mustsOf se_X12_mustsOf ci_12.1 ci_12.2.1 (k47 hL) dX12_musts_10 rfl rfl (Nat.le_of_ble_eq_true rfl) rfl ?_
    refine i_goto (tgt := 17) S dX12_musts_13 (by decide) ?_
    cases h
    exact i_iret S0 rfl dX12_musts_17
/-! WordYearModel.strike -/
noncomputable def f_X12_strike (x1 : Int32) (w : Mm) : Option (Int32 × Mm) := Option.bind (f_X12_isUsed x1 w) (fun p1 => if p1 = 0 then (some ((-1 : Int32), w)) else (if inb x1 10 = true then (some (((gI w 47 4) + (1 : Int32)) - (1 : Int32), sI (sI (sI w 47 6 ((gI w 47 6) &&& (((1 : Int32) <<< (x1 &&& 31)) ^^^ (-1 : Int32)))) 52 (ix x1) (gI w 47 4)) 47 4 ((gI w 47 4) + (1 : Int32)))) else none))
set_option maxHeartbeats 4000000 in
set_option maxRecDepth 100000 in
theorem c_X12_strike (g : Gx) (d : Nat) {x1 : Int32} {w : Mm} {p : (Int32 × Mm)} (hL : Lay w) (h : f_X12_strike x1 w = some p) : Call g (d + 3) yX12_strike cX12_strike 2 (some .int) [rf g 47, .int x1] w (some (.int p.1)) p.2 := by
  refine call_of (L0 := [some (rf g 47), some (.int x1)]) (by decide) rfl (Nat.le_of_ble_eq_true rfl) (fun V S0 => ?_)
  have S := S0.b
  unfold f_X12_strike at h
  refine i_aload_n S dX12_strike_0 rfl ?_
  refine i_iload_n S dX12_strike_1 rfl ?_
  obtain ⟨p1, e1, h⟩ := bn h
  refine i_callV (As := [.int x1]) (st1 := [.int p1]) S (c_X12_isUsed g d hL e1) mw_X12_isUsed lk_X12_383 im_X12_isUsed se_X12_isUsed ci_12.1 ci_12.2.1 (k47 hL) dX12_strike_2 rfl rfl (Nat.le_of_ble_eq_true rfl) rfl ?_
  refine i_if_ne (tgt := 10) S dX12_strike_5 (by decide) (fun q2 => ?_) (fun q2 => ?_)
  · replace h := (if_neg q2).symm.trans h
    refine i_aload_n S dX12_strike_10 rfl ?_
    refine i_dup S dX12_strike_11 rfl ?_
    refine i_getIv (v := gI w 47 6) S fl_X12_146 (k47 hL) rfl rfl dX12_strike_12 ?_
    refine i_iconst (v := 1) S dX12_strike_15 ic_1 ?_
    refine i_iload_n S dX12_strike_16 rfl ?_
    refine i_ishl S dX12_strike_17 ?_
    refine i_iconst (v := -1) S dX12_strike_18 ic_m1 ?_
    refine i_ixor S dX12_strike_19 ?_
    refine i_iand S dX12_strike_20 ?_
    refine i_putI S fl_X12_146 (k47 hL) rfl rfl rfl dX12_strike_21 ?_
    refine i_aload_n S dX12_strike_24 rfl ?_
    refine i_getR S fl_X12_27 (k47 hL) (r47_11 hL) rfl dX12_strike_25 ?_
    refine i_iload_n S dX12_strike_28 rfl ?_
    refine i_aload_n S dX12_strike_29 rfl ?_
    refine i_getIv (v := gI w 47 4) S fl_X12_386 (k47 hL) rfl rfl dX12_strike_30 ?_
    obtain ⟨hi4, h⟩ := gd h
    refine i_iast S (k52 hL) hi4 dX12_strike_33 ?_
    refine i_aload_n S dX12_strike_34 rfl ?_
    refine i_dup S dX12_strike_35 rfl ?_
    refine i_getIv (v := gI w 47 4) S fl_X12_386 (k47 hL) rfl rfl dX12_strike_36 ?_
    refine i_iconst (v := 1) S dX12_strike_39 ic_1 ?_
    refine i_iadd S dX12_strike_40 ?_
    refine i_putI S fl_X12_386 (k47 hL) rfl rfl rfl dX12_strike_41 ?_
    refine i_aload_n S dX12_strike_44 rfl ?_
    refine i_getIv (v := (gI w 47 4) + (1 : Int32)) S fl_X12_386 (k47 hL) rfl rfl dX12_strike_45 ?_
    refine i_iconst (v := 1) S dX12_strike_48 ic_1 ?_
    refine i_isub S dX12_strike_49 ?_
    cases h
    exact i_iret S0 rfl dX12_strike_50
  · replace h := (if_pos q2).symm.trans h
    refine i_iconst (v := -1) S dX12_strike_8 ic_m1 ?_
    cases h
    exact i_iret S0 rfl dX12_strike_9
/-! WordYearModel.costs -/
noncomputable def f_X12_costs (x1 : Int32) (w : Mm) : Option (Int64 × Mm) := Option.bind (f_X12_isUsed x1 w) (fun p1 => if p1 = 0 then (some ((-1000000000 : Int64), w)) else (Option.bind (f_X12_talkOf ((gI w 47 6) &&& (((1 : Int32) <<< (x1 &&& 31)) ^^^ (-1 : Int32))) w) (fun p3 => onL p3.2 (Option.bind (f_X12_talkOf (gI p3.2 47 6) p3.2) (fun p5 => some (p3.1 - p5.1, p5.2))))))
set_option maxHeartbeats 4000000 in
set_option maxRecDepth 100000 in
theorem c_X12_costs (g : Gx) (d : Nat) {x1 : Int32} {w : Mm} {p : (Int64 × Mm)} (hL : Lay w) (h : f_X12_costs x1 w = some p) : Call g (d + 10) yX12_costs cX12_costs 2 (some .long) [rf g 47, .int x1] w (some (.long p.1)) p.2 := by
  refine call_of (L0 := [some (rf g 47), some (.int x1)]) (by decide) rfl (Nat.le_of_ble_eq_true rfl) (fun V S0 => ?_)
  have S := S0.b
  unfold f_X12_costs at h
  refine i_aload_n S dX12_costs_0 rfl ?_
  refine i_iload_n S dX12_costs_1 rfl ?_
  obtain ⟨p1, e1, h⟩ := bn h
  refine i_callV (As := [.int x1]) (st1 := [.int p1]) S (c_X12_isUsed g (d + 7) hL e1) mw_X12_isUsed lk_X12_383 im_X12_isUsed se_X12_isUsed ci_12.1 ci_12.2.1 (k47 hL) dX12_costs_2 rfl rfl (Nat.le_of_ble_eq_true rfl) rfl ?_
  refine i_if_eq (tgt := 34) S dX12_costs_5 (by decide) (fun q2 => ?_) (fun q2 => ?_)
  · replace h := (if_pos q2).symm.trans h
    refine i_ldc2 S kl_X12_389 dX12_costs_34 ?_
    cases h
    exact i_lret S0 dX12_costs_37
  · replace h := (if_neg q2).symm.trans h
    refine i_aload_n S dX12_costs_8 rfl ?_
    refine i_aload_n S dX12_costs_9 rfl ?_
    refine i_getIv (v := gI w 47 6) S fl_X12_146 (k47 hL) rfl rfl dX12_costs_10 ?_
    refine i_iconst (v := 1) S dX12_costs_13 ic_1 ?_
    refine i_iload_n S dX12_costs_14 rfl ?_
    refine i_ishl S dX12_costs_15 ?_
    refine i_iconst (v := -1) S dX12_costs_16 ic_m1 ?_
    refine i_ixor S dX12_costs_17 ?_
    refine i_iand S dX12_costs_18 ?_
    obtain ⟨p3, e3, h⟩ := bn h
    refine i_callV (As := [.int ((gI w 47 6) &&& (((1 : Int32) <<< (x1 &&& 31)) ^^^ (-1 : Int32)))]) (st1 := [.long p3.1]) S (c_X12_talkOf g d hL e3) mw_X12_talkOf lk_X12_376 im_X12_talkOf se_X12_talkOf ci_12.1 ci_12.2.1 (k47 hL) dX12_costs_19 rfl rfl (Nat.le_of_ble_eq_true rfl) rfl ?_
    refine i_aload_n S dX12_costs_22 rfl ?_
    refine i_aload_n S dX12_costs_23 rfl ?_
    obtain ⟨hL4, h⟩ := onLn h
    refine i_getIv (v := gI p3.2 47 6) S fl_X12_146 (k47 hL4) rfl rfl dX12_costs_24 ?_
    obtain ⟨p5, e5, h⟩ := bn h
    refine i_callV (As := [.int (gI p3.2 47 6)]) (st1 := [.long p5.1, .long p3.1]) S (c_X12_talkOf g d hL4 e5) mw_X12_talkOf lk_X12_376 im_X12_talkOf se_X12_talkOf ci_12.1 ci_12.2.1 (k47 hL4) dX12_costs_27 rfl rfl (Nat.le_of_ble_eq_true rfl) rfl ?_
    refine i_lsub S dX12_costs_30 ?_
    refine i_goto (tgt := 37) S dX12_costs_31 (by decide) ?_
    cases h
    exact i_lret S0 dX12_costs_37
/-! WordYearModel.leastOf -/
noncomputable def l_X12_leastOf_7 (x1 : Int32) (s : Int32 × Int64 × Int32 × Mm) : Option ((Int32 × Int64 × Int32 × Mm) ⊕ (Int32 × Mm)) := onL s.2.2.2 (if (gI s.2.2.2 47 2) ≤ s.2.2.1 then (some (.inr (s.1, s.2.2.2))) else (Option.bind (if (f_X12_has x1 s.2.2.1) = 0 then (some (s.1, s.2.1, s.2.2.2)) else (Option.bind (f_X12_talkOf (x1 &&& (((1 : Int32) <<< (s.2.2.1 &&& 31)) ^^^ (-1 : Int32))) s.2.2.2) (fun p5 => mg (if s.1 = (-1 : Int32) then (some (.inl ())) else (if p5.1 < s.2.1 then (some (.inl ())) else (some (.inr (s.1, s.2.1, p5.2))))) (fun p7 => some (s.2.2.1, p5.1, p5.2))))) (fun p4 => some (.inl (p4.1, p4.2.1, s.2.2.1 + (1 : Int32), p4.2.2)))))
noncomputable def f_X12_leastOf (x1 : Int32) (w : Mm) : Option (Int32 × Mm) := Option.bind (wh (l_X12_leastOf_7 x1) FUEL ((-1 : Int32), (0 : Int64), (0 : Int32), w)) (fun p1 => some (p1.1, p1.2))
set_option maxHeartbeats 4000000 in
set_option maxRecDepth 100000 in
theorem t_l_X12_leastOf_7 {g : Gx} {V : Vt} {d : Nat} (S : MachB g yX12_leastOf cX12_leastOf 8 (d + 9) V) {x1 : Int32}  (s : Int32 × Int64 × Int32 × Mm) (e : (Int32 × Int64 × Int32 × Mm) ⊕ (Int32 × Mm)) (h : l_X12_leastOf_7 x1 s = some e) (hC : ∀ s2, e = .inl s2 → V 7 [some (rf g 47), some (.int x1), some (.int s2.1), some (.long s2.2.1), none, some (.int s2.2.2.1), none, none] [] s2.2.2.2) (hE : ∀ x, e = .inr x → V 69 [none, none, some (.int x.1), none, none, none, none, none] [] x.2) : V 7 [some (rf g 47), some (.int x1), some (.int s.1), some (.long s.2.1), none, some (.int s.2.2.1), none, none] [] s.2.2.2 := by
  unfold l_X12_leastOf_7 at h
  refine i_iload S dX12_leastOf_7 rfl ?_
  refine i_aload_n S dX12_leastOf_9 rfl ?_
  obtain ⟨hL1, h⟩ := onLn h
  refine i_getIv (v := gI s.2.2.2 47 2) S fl_X12_135 (k47 hL1) rfl rfl dX12_leastOf_10 ?_
  refine i_icmp_ge (tgt := 69) S dX12_leastOf_13 (by decide) (fun q2 => ?_) (fun q2 => ?_)
  · replace h := (if_pos q2).symm.trans h
    refine i_mask (L1 := [none, none, some (.int s.1), none, none, none, none, none]) S [false, false, true, false, false, false, false, false] rfl ?_
    have hz := hE _ (Option.some.inj h).symm
    exact hz
  · replace h := (if_neg q2).symm.trans h
    refine i_iload_n S dX12_leastOf_16 rfl ?_
    refine i_iload S dX12_leastOf_17 rfl ?_
    refine i_callS (As := [.int x1, .int s.2.2.1]) (st1 := [.int (f_X12_has x1 s.2.2.1)]) S (c_X12_has g (d + 8) rfl) mw_X12_has lk_X12_149 im_X12_has dX12_leastOf_19 rfl rfl (Nat.le_of_ble_eq_true rfl) rfl ?_
    obtain ⟨p4, e4, h⟩ := bn h
    have hj4 : ∀ q4, p4 = q4 → V 63 [some (rf g 47), some (.int x1), some (.int q4.1), some (.long q4.2.1), none, some (.int s.2.2.1), none, none] [] q4.2.2 := by
      intro q4 hq4
      subst hq4
      refine i_iinc (L1 := [some (rf g 47), some (.int x1), some (.int p4.1), some (.long p4.2.1), none, some (.int (s.2.2.1 + (1 : Int32))), none, none]) S dX12_leastOf_63 rfl ic_1 (by decide) rfl ?_
      refine i_goto (tgt := 7) S dX12_leastOf_66 (by decide) ?_
      have hz := hC _ (Option.some.inj h).symm
      exact hz
    replace h := e4
    clear e4
    refine i_if_ne (tgt := 28) S dX12_leastOf_22 (by decide) (fun q3 => ?_) (fun q3 => ?_)
    · replace h := (if_neg q3).symm.trans h
      refine i_aload_n S dX12_leastOf_28 rfl ?_
      refine i_iload_n S dX12_leastOf_29 rfl ?_
      refine i_iconst (v := 1) S dX12_leastOf_30 ic_1 ?_
      refine i_iload S dX12_leastOf_31 rfl ?_
      refine i_ishl S dX12_leastOf_33 ?_
      refine i_iconst (v := -1) S dX12_leastOf_34 ic_m1 ?_
      refine i_ixor S dX12_leastOf_35 ?_
      refine i_iand S dX12_leastOf_36 ?_
      obtain ⟨p5, e5, h⟩ := bn h
      refine i_callV (As := [.int (x1 &&& (((1 : Int32) <<< (s.2.2.1 &&& 31)) ^^^ (-1 : Int32)))]) (st1 := [.long p5.1]) S (c_X12_talkOf g d hL1 e5) mw_X12_talkOf lk_X12_376 im_X12_talkOf se_X12_talkOf ci_12.1 ci_12.2.1 (k47 hL1) dX12_leastOf_37 rfl rfl (Nat.le_of_ble_eq_true rfl) rfl ?_
      refine i_lstore (L1 := [some (rf g 47), some (.int x1), some (.int s.1), some (.long s.2.1), none, some (.int s.2.2.1), some (.long p5.1), none]) S dX12_leastOf_40 (by decide) rfl ?_
      refine i_iload_n S dX12_leastOf_42 rfl ?_
      refine i_iconst (v := -1) S dX12_leastOf_43 ic_m1 ?_
      obtain ⟨s7, e7, hm7, ho7⟩ := mgn h
      have hj7 : ∀ p7, s7 = .inl p7 → V 57 [some (rf g 47), some (.int x1), none, none, none, some (.int s.2.2.1), some (.long p5.1), none] [] p5.2 := by
        intro p7 ep7
        have h := hm7 p7 ep7
        refine i_iload S dX12_leastOf_57 rfl ?_
        refine i_istore_n (L1 := [some (rf g 47), some (.int x1), some (.int s.2.2.1), none, none, some (.int s.2.2.1), some (.long p5.1), none]) S dX12_leastOf_59 (by decide) rfl ?_
        refine i_lload S dX12_leastOf_60 rfl ?_
        refine i_lstore_n (L1 := [some (rf g 47), some (.int x1), some (.int s.2.2.1), some (.long p5.1), none, some (.int s.2.2.1), some (.long p5.1), none]) S dX12_leastOf_62 (by decide) rfl ?_
        refine i_mask (L1 := [some (rf g 47), some (.int x1), some (.int s.2.2.1), some (.long p5.1), none, some (.int s.2.2.1), none, none]) S [true, true, true, true, false, true, false, false] rfl ?_
        have hz := hj4 _ (Option.some.inj h).symm
        exact hz
      replace h := e7
      clear e7
      refine i_icmp_eq (tgt := 57) S dX12_leastOf_44 (by decide) (fun q6 => ?_) (fun q6 => ?_)
      · replace h := (if_pos q6).symm.trans h
        refine i_mask (L1 := [some (rf g 47), some (.int x1), none, none, none, some (.int s.2.2.1), some (.long p5.1), none]) S [true, true, false, false, false, true, true, false] rfl ?_
        have hz := hj7 _ (Option.some.inj h).symm
        exact hz
      · replace h := (if_neg q6).symm.trans h
        refine i_lload S dX12_leastOf_47 rfl ?_
        refine i_lload_n S dX12_leastOf_49 rfl ?_
        refine i_lc_lt (tgt := 57) S dX12_leastOf_50 dX12_leastOf_51 (by decide) (fun q8 => ?_) (fun q8 => ?_)
        · replace h := (if_pos q8).symm.trans h
          refine i_mask (L1 := [some (rf g 47), some (.int x1), none, none, none, some (.int s.2.2.1), some (.long p5.1), none]) S [true, true, false, false, false, true, true, false] rfl ?_
          have hz := hj7 _ (Option.some.inj h).symm
          exact hz
        · replace h := (if_neg q8).symm.trans h
          refine i_goto (tgt := 63) S dX12_leastOf_54 (by decide) ?_
          replace h := ho7 _ (Option.some.inj h).symm
          refine i_mask (L1 := [some (rf g 47), some (.int x1), some (.int s.1), some (.long s.2.1), none, some (.int s.2.2.1), none, none]) S [true, true, true, true, false, true, false, false] rfl ?_
          have hz := hj4 _ (Option.some.inj h).symm
          exact hz
    · replace h := (if_pos q3).symm.trans h
      refine i_goto (tgt := 63) S dX12_leastOf_25 (by decide) ?_
      have hz := hj4 _ (Option.some.inj h).symm
      exact hz
set_option maxHeartbeats 4000000 in
set_option maxRecDepth 100000 in
theorem c_X12_leastOf (g : Gx) (d : Nat) {x1 : Int32} {w : Mm} {p : (Int32 × Mm)} (hL : Lay w) (h : f_X12_leastOf x1 w = some p) : Call g (d + 10) yX12_leastOf cX12_leastOf 8 (some .int) [rf g 47, .int x1] w (some (.int p.1)) p.2 := by
  refine call_of (L0 := [some (rf g 47), some (.int x1), none, none, none, none, none, none]) (by decide) rfl (Nat.le_of_ble_eq_true rfl) (fun V S0 => ?_)
  have S := S0.b
  unfold f_X12_leastOf at h
  refine i_iconst (v := -1) S dX12_leastOf_0 ic_m1 ?_
  refine i_istore_n (L1 := [some (rf g 47), some (.int x1), some (.int ((-1 : Int32))), none, none, none, none, none]) S dX12_leastOf_1 (by decide) rfl ?_
  refine i_lconst (v := 0) S dX12_leastOf_2 lc_0 ?_
  refine i_lstore_n (L1 := [some (rf g 47), some (.int x1), some (.int ((-1 : Int32))), some (.long ((0 : Int64))), none, none, none, none]) S dX12_leastOf_3 (by decide) rfl ?_
  refine i_iconst (v := 0) S dX12_leastOf_4 ic_0 ?_
  refine i_istore (L1 := [some (rf g 47), some (.int x1), some (.int ((-1 : Int32))), some (.long ((0 : Int64))), none, some (.int ((0 : Int32))), none, none]) S dX12_leastOf_5 (by decide) rfl ?_
  obtain ⟨p1, e1, h⟩ := bn h
  have hE1 : V 69 [none, none, some (.int p1.1), none, none, none, none, none] [] p1.2 := by
    refine i_iload_n S dX12_leastOf_69 rfl ?_
    cases h
    exact i_iret S0 rfl dX12_leastOf_70
  exact wh_V (P := fun sv1 => V 7 [some (rf g 47), some (.int x1), some (.int sv1.1), some (.long sv1.2.1), none, some (.int sv1.2.2.1), none, none] [] sv1.2.2.2) (E := fun xv1 => V 69 [none, none, some (.int xv1.1), none, none, none, none, none] [] xv1.2) (fun sv1 ev hb hc he => t_l_X12_leastOf_7   S  sv1 ev hb hc he) FUEL _ _ e1 hE1
/-! WordYearModel.least -/
noncomputable def f_X12_least  (w : Mm) : Option (Int32 × Mm) := Option.bind (f_X12_leastOf (gI w 47 6) w) (fun p1 => some (p1.1, p1.2))
set_option maxHeartbeats 4000000 in
set_option maxRecDepth 100000 in
theorem c_X12_least (g : Gx) (d : Nat)  {w : Mm} {p : (Int32 × Mm)} (hL : Lay w) (h : f_X12_least w = some p) : Call g (d + 11) yX12_least cX12_least 1 (some .int) [rf g 47] w (some (.int p.1)) p.2 := by
  refine call_of (L0 := [some (rf g 47)]) (by decide) rfl (Nat.le_of_ble_eq_true rfl) (fun V S0 => ?_)
  have S := S0.b
  unfold f_X12_least at h
  refine i_aload_n S dX12_least_0 rfl ?_
  refine i_aload_n S dX12_least_1 rfl ?_
  refine i_getIv (v := gI w 47 6) S fl_X12_146 (k47 hL) rfl rfl dX12_least_2 ?_
  obtain ⟨p1, e1, h⟩ := bn h
  refine i_callV (As := [.int (gI w 47 6)]) (st1 := [.int p1.1]) S (c_X12_leastOf g d hL e1) mw_X12_leastOf lk_X12_391 im_X12_leastOf se_X12_leastOf ci_12.1 ci_12.2.1 (k47 hL) dX12_least_5 rfl rfl (Nat.le_of_ble_eq_true rfl) rfl ?_
  cases h
  exact i_iret S0 rfl dX12_least_8
/-! WordYearModel.growsBy -/
noncomputable def f_X12_growsBy (x1 : Int32) (x2 : Int32) (w : Mm) : Option (Int64 × Mm) := Option.bind (f_X12_talkBy ((gI w 47 6) &&& (((1 : Int32) <<< (x1 &&& 31)) ^^^ (-1 : Int32))) x2 w) (fun p1 => onL p1.2 (Option.bind (f_X12_talkBy (gI p1.2 47 6) x2 p1.2) (fun p3 => some (p1.1 - p3.1, p3.2))))
set_option maxHeartbeats 4000000 in
set_option maxRecDepth 100000 in
theorem c_X12_growsBy (g : Gx) (d : Nat) {x1 : Int32} {x2 : Int32} {w : Mm} {p : (Int64 × Mm)} (hL : Lay w) (h : f_X12_growsBy x1 x2 w = some p) : Call g (d + 9) yX12_growsBy cX12_growsBy 3 (some .long) [rf g 47, .int x1, .int x2] w (some (.long p.1)) p.2 := by
  refine call_of (L0 := [some (rf g 47), some (.int x1), some (.int x2)]) (by decide) rfl (Nat.le_of_ble_eq_true rfl) (fun V S0 => ?_)
  have S := S0.b
  unfold f_X12_growsBy at h
  refine i_aload_n S dX12_growsBy_0 rfl ?_
  refine i_aload_n S dX12_growsBy_1 rfl ?_
  refine i_getIv (v := gI w 47 6) S fl_X12_146 (k47 hL) rfl rfl dX12_growsBy_2 ?_
  refine i_iconst (v := 1) S dX12_growsBy_5 ic_1 ?_
  refine i_iload_n S dX12_growsBy_6 rfl ?_
  refine i_ishl S dX12_growsBy_7 ?_
  refine i_iconst (v := -1) S dX12_growsBy_8 ic_m1 ?_
  refine i_ixor S dX12_growsBy_9 ?_
  refine i_iand S dX12_growsBy_10 ?_
  refine i_iload_n S dX12_growsBy_11 rfl ?_
  obtain ⟨p1, e1, h⟩ := bn h
  refine i_callV (As := [.int ((gI w 47 6) &&& (((1 : Int32) <<< (x1 &&& 31)) ^^^ (-1 : Int32))), .int x2]) (st1 := [.long p1.1]) S (c_X12_talkBy g d hL e1) mw_X12_talkBy lk_X12_370 im_X12_talkBy se_X12_talkBy ci_12.1 ci_12.2.1 (k47 hL) dX12_growsBy_12 rfl rfl (Nat.le_of_ble_eq_true rfl) rfl ?_
  refine i_aload_n S dX12_growsBy_15 rfl ?_
  refine i_aload_n S dX12_growsBy_16 rfl ?_
  obtain ⟨hL2, h⟩ := onLn h
  refine i_getIv (v := gI p1.2 47 6) S fl_X12_146 (k47 hL2) rfl rfl dX12_growsBy_17 ?_
  refine i_iload_n S dX12_growsBy_20 rfl ?_
  obtain ⟨p3, e3, h⟩ := bn h
  refine i_callV (As := [.int (gI p1.2 47 6), .int x2]) (st1 := [.long p3.1, .long p1.1]) S (c_X12_talkBy g d hL2 e3) mw_X12_talkBy lk_X12_370 im_X12_talkBy se_X12_talkBy ci_12.1 ci_12.2.1 (k47 hL2) dX12_growsBy_21 rfl rfl (Nat.le_of_ble_eq_true rfl) rfl ?_
  refine i_lsub S dX12_growsBy_24 ?_
  cases h
  exact i_lret S0 dX12_growsBy_25
/-! WordYearModel.spite -/
noncomputable def l_X12_spite_16 (x1 : Int32) (s : Int32 × Int64 × Int32 × Mm) : Option ((Int32 × Int64 × Int32 × Mm) ⊕ (Int32 × Mm)) := onL s.2.2.2 (if (gI s.2.2.2 47 2) ≤ s.2.2.1 then (some (.inr (s.1, s.2.2.2))) else (Option.bind (if (f_X12_has (gI s.2.2.2 47 6) s.2.2.1) = 0 then (some (s.1, s.2.1, s.2.2.2)) else (Option.bind (f_X12_growsBy s.2.2.1 x1 s.2.2.2) (fun p5 => onL p5.2 (Option.bind (f_X12_talkOf ((gI p5.2 47 6) &&& (((1 : Int32) <<< (s.2.2.1 &&& 31)) ^^^ (-1 : Int32))) p5.2) (fun p7 => onL p7.2 (Option.bind (f_X12_talkOf (gI p7.2 47 6) p7.2) (fun p9 => mg (if s.1 = (-1 : Int32) then (some (.inl ())) else (if s.2.1 < (((p7.1 - p9.1) - p5.1) - ((3 : Int64) * p5.1)) then (some (.inl ())) else (some (.inr (s.1, s.2.1, p9.2))))) (fun p11 => some (s.2.2.1, ((p7.1 - p9.1) - p5.1) - ((3 : Int64) * p5.1), p9.2))))))))) (fun p4 => some (.inl (p4.1, p4.2.1, s.2.2.1 + (1 : Int32), p4.2.2)))))
noncomputable def f_X12_spite (x1 : Int32) (w : Mm) : Option (Int32 × Mm) := if (f_X12_isSort x1) = 0 then (some ((-1 : Int32), w)) else (Option.bind (wh (l_X12_spite_16 x1) FUEL ((-1 : Int32), (0 : Int64), (0 : Int32), w)) (fun p2 => some (p2.1, p2.2)))
set_option maxHeartbeats 4000000 in
set_option maxRecDepth 100000 in
theorem t_l_X12_spite_16 {g : Gx} {V : Vt} {d : Nat} (S : MachB g yX12_spite cX12_spite 10 (d + 9) V) {x1 : Int32}  (s : Int32 × Int64 × Int32 × Mm) (e : (Int32 × Int64 × Int32 × Mm) ⊕ (Int32 × Mm)) (h : l_X12_spite_16 x1 s = some e) (hC : ∀ s2, e = .inl s2 → V 16 [some (rf g 47), some (.int x1), some (.int s2.1), some (.long s2.2.1), none, some (.int s2.2.2.1), none, none, none, none] [] s2.2.2.2) (hE : ∀ x, e = .inr x → V 112 [none, none, some (.int x.1), none, none, none, none, none, none, none] [] x.2) : V 16 [some (rf g 47), some (.int x1), some (.int s.1), some (.long s.2.1), none, some (.int s.2.2.1), none, none, none, none] [] s.2.2.2 := by
  unfold l_X12_spite_16 at h
  refine i_iload S dX12_spite_16 rfl ?_
  refine i_aload_n S dX12_spite_18 rfl ?_
  obtain ⟨hL1, h⟩ := onLn h
  refine i_getIv (v := gI s.2.2.2 47 2) S fl_X12_135 (k47 hL1) rfl rfl dX12_spite_19 ?_
  refine i_icmp_ge (tgt := 112) S dX12_spite_22 (by decide) (fun q2 => ?_) (fun q2 => ?_)
  · replace h := (if_pos q2).symm.trans h
    refine i_mask (L1 := [none, none, some (.int s.1), none, none, none, none, none, none, none]) S [false, false, true, false, false, false, false, false, false, false] rfl ?_
    have hz := hE _ (Option.some.inj h).symm
    exact hz
  · replace h := (if_neg q2).symm.trans h
    refine i_aload_n S dX12_spite_25 rfl ?_
    refine i_getIv (v := gI s.2.2.2 47 6) S fl_X12_146 (k47 hL1) rfl rfl dX12_spite_26 ?_
    refine i_iload S dX12_spite_29 rfl ?_
    refine i_callS (As := [.int (gI s.2.2.2 47 6), .int s.2.2.1]) (st1 := [.int (f_X12_has (gI s.2.2.2 47 6) s.2.2.1)]) S (c_X12_has g (d + 8) rfl) mw_X12_has lk_X12_149 im_X12_has dX12_spite_31 rfl rfl (Nat.le_of_ble_eq_true rfl) rfl ?_
    obtain ⟨p4, e4, h⟩ := bn h
    have hj4 : ∀ q4, p4 = q4 → V 106 [some (rf g 47), some (.int x1), some (.int q4.1), some (.long q4.2.1), none, some (.int s.2.2.1), none, none, none, none] [] q4.2.2 := by
      intro q4 hq4
      subst hq4
      refine i_iinc (L1 := [some (rf g 47), some (.int x1), some (.int p4.1), some (.long p4.2.1), none, some (.int (s.2.2.1 + (1 : Int32))), none, none, none, none]) S dX12_spite_106 rfl ic_1 (by decide) rfl ?_
      refine i_goto (tgt := 16) S dX12_spite_109 (by decide) ?_
      have hz := hC _ (Option.some.inj h).symm
      exact hz
    replace h := e4
    clear e4
    refine i_if_ne (tgt := 40) S dX12_spite_34 (by decide) (fun q3 => ?_) (fun q3 => ?_)
    · replace h := (if_neg q3).symm.trans h
      refine i_aload_n S dX12_spite_40 rfl ?_
      refine i_iload S dX12_spite_41 rfl ?_
      refine i_iload_n S dX12_spite_43 rfl ?_
      obtain ⟨p5, e5, h⟩ := bn h
      refine i_callV (As := [.int s.2.2.1, .int x1]) (st1 := [.long p5.1]) S (c_X12_growsBy g d hL1 e5) mw_X12_growsBy lk_X12_394 im_X12_growsBy se_X12_growsBy ci_12.1 ci_12.2.1 (k47 hL1) dX12_spite_44 rfl rfl (Nat.le_of_ble_eq_true rfl) rfl ?_
      refine i_lstore (L1 := [some (rf g 47), some (.int x1), some (.int s.1), some (.long s.2.1), none, some (.int s.2.2.1), some (.long p5.1), none, none, none]) S dX12_spite_47 (by decide) rfl ?_
      refine i_aload_n S dX12_spite_49 rfl ?_
      refine i_aload_n S dX12_spite_50 rfl ?_
      obtain ⟨hL6, h⟩ := onLn h
      refine i_getIv (v := gI p5.2 47 6) S fl_X12_146 (k47 hL6) rfl rfl dX12_spite_51 ?_
      refine i_iconst (v := 1) S dX12_spite_54 ic_1 ?_
      refine i_iload S dX12_spite_55 rfl ?_
      refine i_ishl S dX12_spite_57 ?_
      refine i_iconst (v := -1) S dX12_spite_58 ic_m1 ?_
      refine i_ixor S dX12_spite_59 ?_
      refine i_iand S dX12_spite_60 ?_
      obtain ⟨p7, e7, h⟩ := bn h
      refine i_callV (As := [.int ((gI p5.2 47 6) &&& (((1 : Int32) <<< (s.2.2.1 &&& 31)) ^^^ (-1 : Int32)))]) (st1 := [.long p7.1]) S (c_X12_talkOf g d hL6 e7) mw_X12_talkOf lk_X12_376 im_X12_talkOf se_X12_talkOf ci_12.1 ci_12.2.1 (k47 hL6) dX12_spite_61 rfl rfl (Nat.le_of_ble_eq_true rfl) rfl ?_
      refine i_aload_n S dX12_spite_64 rfl ?_
      refine i_aload_n S dX12_spite_65 rfl ?_
      obtain ⟨hL8, h⟩ := onLn h
      refine i_getIv (v := gI p7.2 47 6) S fl_X12_146 (k47 hL8) rfl rfl dX12_spite_66 ?_
      obtain ⟨p9, e9, h⟩ := bn h
      refine i_callV (As := [.int (gI p7.2 47 6)]) (st1 := [.long p9.1, .long p7.1]) S (c_X12_talkOf g d hL8 e9) mw_X12_talkOf lk_X12_376 im_X12_talkOf se_X12_talkOf ci_12.1 ci_12.2.1 (k47 hL8) dX12_spite_69 rfl rfl (Nat.le_of_ble_eq_true rfl) rfl ?_
      refine i_lsub S dX12_spite_72 ?_
      refine i_lload S dX12_spite_73 rfl ?_
      refine i_lsub S dX12_spite_75 ?_
      refine i_ldc2 S kl_X12_144 dX12_spite_76 ?_
      refine i_lload S dX12_spite_79 rfl ?_
      refine i_lmul S dX12_spite_81 ?_
      refine i_lsub S dX12_spite_82 ?_
      refine i_lstore (L1 := [some (rf g 47), some (.int x1), some (.int s.1), some (.long s.2.1), none, some (.int s.2.2.1), some (.long p5.1), none, some (.long (((p7.1 - p9.1) - p5.1) - ((3 : Int64) * p5.1))), none]) S dX12_spite_83 (by decide) rfl ?_
      refine i_iload_n S dX12_spite_85 rfl ?_
      refine i_iconst (v := -1) S dX12_spite_86 ic_m1 ?_
      obtain ⟨s11, e11, hm11, ho11⟩ := mgn h
      have hj11 : ∀ p11, s11 = .inl p11 → V 100 [some (rf g 47), some (.int x1), none, none, none, some (.int s.2.2.1), none, none, some (.long (((p7.1 - p9.1) - p5.1) - ((3 : Int64) * p5.1))), none] [] p9.2 := by
        intro p11 ep11
        have h := hm11 p11 ep11
        refine i_iload S dX12_spite_100 rfl ?_
        refine i_istore_n (L1 := [some (rf g 47), some (.int x1), some (.int s.2.2.1), none, none, some (.int s.2.2.1), none, none, some (.long (((p7.1 - p9.1) - p5.1) - ((3 : Int64) * p5.1))), none]) S dX12_spite_102 (by decide) rfl ?_
        refine i_lload S dX12_spite_103 rfl ?_
        refine i_lstore_n (L1 := [some (rf g 47), some (.int x1), some (.int s.2.2.1), some (.long (((p7.1 - p9.1) - p5.1) - ((3 : Int64) * p5.1))), none, some (.int s.2.2.1), none, none, some (.long (((p7.1 - p9.1) - p5.1) - ((3 : Int64) * p5.1))), none]) S dX12_spite_105 (by decide) rfl ?_
        refine i_mask (L1 := [some (rf g 47), some (.int x1), some (.int s.2.2.1), some (.long (((p7.1 - p9.1) - p5.1) - ((3 : Int64) * p5.1))), none, some (.int s.2.2.1), none, none, none, none]) S [true, true, true, true, false, true, false, false, false, false] rfl ?_
        have hz := hj4 _ (Option.some.inj h).symm
        exact hz
      replace h := e11
      clear e11
      refine i_icmp_eq (tgt := 100) S dX12_spite_87 (by decide) (fun q10 => ?_) (fun q10 => ?_)
      · replace h := (if_pos q10).symm.trans h
        refine i_mask (L1 := [some (rf g 47), some (.int x1), none, none, none, some (.int s.2.2.1), none, none, some (.long (((p7.1 - p9.1) - p5.1) - ((3 : Int64) * p5.1))), none]) S [true, true, false, false, false, true, false, false, true, false] rfl ?_
        have hz := hj11 _ (Option.some.inj h).symm
        exact hz
      · replace h := (if_neg q10).symm.trans h
        refine i_lload S dX12_spite_90 rfl ?_
        refine i_lload_n S dX12_spite_92 rfl ?_
        refine i_lc_gt (tgt := 100) S dX12_spite_93 dX12_spite_94 (by decide) (fun q12 => ?_) (fun q12 => ?_)
        · replace h := (if_pos q12).symm.trans h
          refine i_mask (L1 := [some (rf g 47), some (.int x1), none, none, none, some (.int s.2.2.1), none, none, some (.long (((p7.1 - p9.1) - p5.1) - ((3 : Int64) * p5.1))), none]) S [true, true, false, false, false, true, false, false, true, false] rfl ?_
          have hz := hj11 _ (Option.some.inj h).symm
          exact hz
        · replace h := (if_neg q12).symm.trans h
          refine i_goto (tgt := 106) S dX12_spite_97 (by decide) ?_
          replace h := ho11 _ (Option.some.inj h).symm
          refine i_mask (L1 := [some (rf g 47), some (.int x1), some (.int s.1), some (.long s.2.1), none, some (.int s.2.2.1), none, none, none, none]) S [true, true, true, true, false, true, false, false, false, false] rfl ?_
          have hz := hj4 _ (Option.some.inj h).symm
          exact hz
    · replace h := (if_pos q3).symm.trans h
      refine i_goto (tgt := 106) S dX12_spite_37 (by decide) ?_
      have hz := hj4 _ (Option.some.inj h).symm
      exact hz
set_option maxHeartbeats 4000000 in
set_option maxRecDepth 100000 in
theorem c_X12_spite (g : Gx) (d : Nat) {x1 : Int32} {w : Mm} {p : (Int32 × Mm)} (hL : Lay w) (h : f_X12_spite x1 w = some p) : Call g (d + 10) yX12_spite cX12_spite 10 (some .int) [rf g 47, .int x1] w (some (.int p.1)) p.2 := by
  refine call_of (L0 := [some (rf g 47), some (.int x1), none, none, none, none, none, none, none, none]) (by decide) rfl (Nat.le_of_ble_eq_true rfl) (fun V S0 => ?_)
  have S := S0.b
  unfold f_X12_spite at h
  refine i_iload_n S dX12_spite_0 rfl ?_
  refine i_callS (As := [.int x1]) (st1 := [.int (f_X12_isSort x1)]) S (c_X12_isSort g (d + 7) rfl) mw_X12_isSort lk_X12_162 im_X12_isSort dX12_spite_1 rfl rfl (Nat.le_of_ble_eq_true rfl) rfl ?_
  refine i_if_ne (tgt := 9) S dX12_spite_4 (by decide) (fun q1 => ?_) (fun q1 => ?_)
  · replace h := (if_neg q1).symm.trans h
    refine i_iconst (v := -1) S dX12_spite_9 ic_m1 ?_
    refine i_istore_n (L1 := [some (rf g 47), some (.int x1), some (.int ((-1 : Int32))), none, none, none, none, none, none, none]) S dX12_spite_10 (by decide) rfl ?_
    refine i_lconst (v := 0) S dX12_spite_11 lc_0 ?_
    refine i_lstore_n (L1 := [some (rf g 47), some (.int x1), some (.int ((-1 : Int32))), some (.long ((0 : Int64))), none, none, none, none, none, none]) S dX12_spite_12 (by decide) rfl ?_
    refine i_iconst (v := 0) S dX12_spite_13 ic_0 ?_
    refine i_istore (L1 := [some (rf g 47), some (.int x1), some (.int ((-1 : Int32))), some (.long ((0 : Int64))), none, some (.int ((0 : Int32))), none, none, none, none]) S dX12_spite_14 (by decide) rfl ?_
    obtain ⟨p2, e2, h⟩ := bn h
    have hE2 : V 112 [none, none, some (.int p2.1), none, none, none, none, none, none, none] [] p2.2 := by
      refine i_iload_n S dX12_spite_112 rfl ?_
      cases h
      exact i_iret S0 rfl dX12_spite_113
    exact wh_V (P := fun sv2 => V 16 [some (rf g 47), some (.int x1), some (.int sv2.1), some (.long sv2.2.1), none, some (.int sv2.2.2.1), none, none, none, none] [] sv2.2.2.2) (E := fun xv2 => V 112 [none, none, some (.int xv2.1), none, none, none, none, none, none, none] [] xv2.2) (fun sv2 ev hb hc he => t_l_X12_spite_16   S  sv2 ev hb hc he) FUEL _ _ e2 hE2
  · replace h := (if_pos q1).symm.trans h
    refine i_iconst (v := -1) S dX12_spite_7 ic_m1 ?_
    cases h
    exact i_iret S0 rfl dX12_spite_8
/-! WordYearModel.isAhead -/
noncomputable def f_X12_isAhead (x1 : Int32) (x2 : Int32) (x3 : Int32) (w : Mm) : Option (Int32 × Mm) := Option.bind (f_X12_growsBy x1 x3 w) (fun p1 => onL p1.2 (Option.bind (f_X12_growsBy x2 x3 p1.2) (fun p3 => mg (if p1.1 < p3.1 then (some (.inl ())) else (if p1.1 = p3.1 then (if x2 ≤ x1 then (some (.inr ((0 : Int32), p3.2))) else (some (.inl ()))) else (some (.inr ((0 : Int32), p3.2))))) (fun p5 => some ((1 : Int32), p3.2)))))
set_option maxHeartbeats 4000000 in
set_option maxRecDepth 100000 in
theorem c_X12_isAhead (g : Gx) (d : Nat) {x1 : Int32} {x2 : Int32} {x3 : Int32} {w : Mm} {p : (Int32 × Mm)} (hL : Lay w) (h : f_X12_isAhead x1 x2 x3 w = some p) : Call g (d + 10) yX12_isAhead cX12_isAhead 8 (some .boolean) [rf g 47, .int x1, .int x2, .int x3] w (some (.int p.1)) p.2 := by
  refine call_of (L0 := [some (rf g 47), some (.int x1), some (.int x2), some (.int x3), none, none, none, none]) (by decide) rfl (Nat.le_of_ble_eq_true rfl) (fun V S0 => ?_)
  have S := S0.b
  unfold f_X12_isAhead at h
  refine i_aload_n S dX12_isAhead_0 rfl ?_
  refine i_iload_n S dX12_isAhead_1 rfl ?_
  refine i_iload_n S dX12_isAhead_2 rfl ?_
  obtain ⟨p1, e1, h⟩ := bn h
  refine i_callV (As := [.int x1, .int x3]) (st1 := [.long p1.1]) S (c_X12_growsBy g d hL e1) mw_X12_growsBy lk_X12_394 im_X12_growsBy se_X12_growsBy ci_12.1 ci_12.2.1 (k47 hL) dX12_isAhead_3 rfl rfl (Nat.le_of_ble_eq_true rfl) rfl ?_
  refine i_lstore (L1 := [some (rf g 47), some (.int x1), some (.int x2), some (.int x3), some (.long p1.1), none, none, none]) S dX12_isAhead_6 (by decide) rfl ?_
  refine i_aload_n S dX12_isAhead_8 rfl ?_
  refine i_iload_n S dX12_isAhead_9 rfl ?_
  refine i_iload_n S dX12_isAhead_10 rfl ?_
  obtain ⟨hL2, h⟩ := onLn h
  obtain ⟨p3, e3, h⟩ := bn h
  refine i_callV (As := [.int x2, .int x3]) (st1 := [.long p3.1]) S (c_X12_growsBy g d hL2 e3) mw_X12_growsBy lk_X12_394 im_X12_growsBy se_X12_growsBy ci_12.1 ci_12.2.1 (k47 hL2) dX12_isAhead_11 rfl rfl (Nat.le_of_ble_eq_true rfl) rfl ?_
  refine i_lstore (L1 := [some (rf g 47), some (.int x1), some (.int x2), some (.int x3), some (.long p1.1), none, some (.long p3.1), none]) S dX12_isAhead_14 (by decide) rfl ?_
  refine i_lload S dX12_isAhead_16 rfl ?_
  refine i_lload S dX12_isAhead_18 rfl ?_
  obtain ⟨s5, e5, hm5, ho5⟩ := mgn h
  have hj5 : ∀ p5, s5 = .inl p5 → V 37 [none, none, none, none, none, none, none, none] [] p3.2 := by
    intro p5 ep5
    have h := hm5 p5 ep5
    refine i_iconst (v := 1) S dX12_isAhead_37 ic_1 ?_
    refine i_goto (tgt := 42) S dX12_isAhead_38 (by decide) ?_
    cases h
    exact i_iret S0 rfl dX12_isAhead_42
  replace h := e5
  clear e5
  refine i_lc_lt (tgt := 37) S dX12_isAhead_20 dX12_isAhead_21 (by decide) (fun q4 => ?_) (fun q4 => ?_)
  · replace h := (if_pos q4).symm.trans h
    refine i_mask (L1 := [none, none, none, none, none, none, none, none]) S [false, false, false, false, false, false, false, false] rfl ?_
    have hz := hj5 _ (Option.some.inj h).symm
    exact hz
  · replace h := (if_neg q4).symm.trans h
    refine i_lload S dX12_isAhead_24 rfl ?_
    refine i_lload S dX12_isAhead_26 rfl ?_
    refine i_lc_ne (tgt := 41) S dX12_isAhead_28 dX12_isAhead_29 (by decide) (fun q6 => ?_) (fun q6 => ?_)
    · replace h := (if_neg q6).symm.trans h
      refine i_iconst (v := 0) S dX12_isAhead_41 ic_0 ?_
      replace h := ho5 _ (Option.some.inj h).symm
      cases h
      exact i_iret S0 rfl dX12_isAhead_42
    · replace h := (if_pos q6).symm.trans h
      refine i_iload_n S dX12_isAhead_32 rfl ?_
      refine i_iload_n S dX12_isAhead_33 rfl ?_
      refine i_icmp_ge (tgt := 41) S dX12_isAhead_34 (by decide) (fun q7 => ?_) (fun q7 => ?_)
      · replace h := (if_pos q7).symm.trans h
        refine i_iconst (v := 0) S dX12_isAhead_41 ic_0 ?_
        replace h := ho5 _ (Option.some.inj h).symm
        cases h
        exact i_iret S0 rfl dX12_isAhead_42
      · replace h := (if_neg q7).symm.trans h
        refine i_mask (L1 := [none, none, none, none, none, none, none, none]) S [false, false, false, false, false, false, false, false] rfl ?_
        have hz := hj5 _ (Option.some.inj h).symm
        exact hz
/-! WordYearModel.behind -/
noncomputable def l_X12_behind_5 (x1 : Int32) (x2 : Int32) (s : Int32 × Int32 × Mm) : Option ((Int32 × Int32 × Mm) ⊕ (Int32 × Mm)) := onL s.2.2 (if (gI s.2.2 47 2) ≤ s.2.1 then (some (.inr (s.1, s.2.2))) else (Option.bind (mg (if s.2.1 = x1 then (some (.inl s.2.2)) else (if (f_X12_has (gI s.2.2 47 6) s.2.1) = 0 then (some (.inl s.2.2)) else (Option.bind (f_X12_isAhead x1 s.2.1 x2 s.2.2) (fun p7 => if p7.1 = 0 then (some (.inl p7.2)) else (some (.inr ((1 : Int32), p7.2))))))) (fun p5 => some ((0 : Int32), p5))) (fun p4 => some (.inl (s.1 + p4.1, s.2.1 + (1 : Int32), p4.2)))))
noncomputable def f_X12_behind (x1 : Int32) (x2 : Int32) (w : Mm) : Option (Int32 × Mm) := Option.bind (wh (l_X12_behind_5 x1 x2) FUEL ((0 : Int32), (0 : Int32), w)) (fun p1 => some (p1.1, p1.2))
set_option maxHeartbeats 4000000 in
set_option maxRecDepth 100000 in
theorem t_l_X12_behind_5 {g : Gx} {V : Vt} {d : Nat} (S : MachB g yX12_behind cX12_behind 5 (d + 10) V) {x1 : Int32} {x2 : Int32}  (s : Int32 × Int32 × Mm) (e : (Int32 × Int32 × Mm) ⊕ (Int32 × Mm)) (h : l_X12_behind_5 x1 x2 s = some e) (hC : ∀ s2, e = .inl s2 → V 5 [some (rf g 47), some (.int x1), some (.int x2), some (.int s2.1), some (.int s2.2.1)] [] s2.2.2) (hE : ∀ x, e = .inr x → V 57 [none, none, none, some (.int x.1), none] [] x.2) : V 5 [some (rf g 47), some (.int x1), some (.int x2), some (.int s.1), some (.int s.2.1)] [] s.2.2 := by
  unfold l_X12_behind_5 at h
  refine i_iload S dX12_behind_5 rfl ?_
  refine i_aload_n S dX12_behind_7 rfl ?_
  obtain ⟨hL1, h⟩ := onLn h
  refine i_getIv (v := gI s.2.2 47 2) S fl_X12_135 (k47 hL1) rfl rfl dX12_behind_8 ?_
  refine i_icmp_ge (tgt := 57) S dX12_behind_11 (by decide) (fun q2 => ?_) (fun q2 => ?_)
  · replace h := (if_pos q2).symm.trans h
    refine i_mask (L1 := [none, none, none, some (.int s.1), none]) S [false, false, false, true, false] rfl ?_
    have hz := hE _ (Option.some.inj h).symm
    exact hz
  · replace h := (if_neg q2).symm.trans h
    refine i_iload_n S dX12_behind_14 rfl ?_
    refine i_iload S dX12_behind_15 rfl ?_
    refine i_iload_n S dX12_behind_17 rfl ?_
    obtain ⟨p4, e4, h⟩ := bn h
    have hj4 : ∀ q4, p4 = q4 → V 49 [some (rf g 47), some (.int x1), some (.int x2), none, some (.int s.2.1)] [.int q4.1, .int s.1] q4.2 := by
      intro q4 hq4
      subst hq4
      refine i_iadd S dX12_behind_49 ?_
      refine i_istore_n (L1 := [some (rf g 47), some (.int x1), some (.int x2), some (.int (s.1 + p4.1)), some (.int s.2.1)]) S dX12_behind_50 (by decide) rfl ?_
      refine i_iinc (L1 := [some (rf g 47), some (.int x1), some (.int x2), some (.int (s.1 + p4.1)), some (.int (s.2.1 + (1 : Int32)))]) S dX12_behind_51 rfl ic_1 (by decide) rfl ?_
      refine i_goto (tgt := 5) S dX12_behind_54 (by decide) ?_
      have hz := hC _ (Option.some.inj h).symm
      exact hz
    replace h := e4
    clear e4
    obtain ⟨s5, e5, hm5, ho5⟩ := mgn h
    have hj5 : ∀ p5, s5 = .inl p5 → V 48 [some (rf g 47), some (.int x1), some (.int x2), none, some (.int s.2.1)] [.int s.1] p5 := by
      intro p5 ep5
      have h := hm5 p5 ep5
      refine i_iconst (v := 0) S dX12_behind_48 ic_0 ?_
      have hz := hj4 _ (Option.some.inj h).symm
      exact hz
    replace h := e5
    clear e5
    refine i_icmp_eq (tgt := 48) S dX12_behind_18 (by decide) (fun q3 => ?_) (fun q3 => ?_)
    · replace h := (if_pos q3).symm.trans h
      refine i_mask (L1 := [some (rf g 47), some (.int x1), some (.int x2), none, some (.int s.2.1)]) S [true, true, true, false, true] rfl ?_
      have hz := hj5 _ (Option.some.inj h).symm
      exact hz
    · replace h := (if_neg q3).symm.trans h
      refine i_aload_n S dX12_behind_21 rfl ?_
      refine i_getIv (v := gI s.2.2 47 6) S fl_X12_146 (k47 hL1) rfl rfl dX12_behind_22 ?_
      refine i_iload S dX12_behind_25 rfl ?_
      refine i_callS (As := [.int (gI s.2.2 47 6), .int s.2.1]) (st1 := [.int (f_X12_has (gI s.2.2 47 6) s.2.1), .int s.1]) S (c_X12_has g (d + 9) rfl) mw_X12_has lk_X12_149 im_X12_has dX12_behind_27 rfl rfl (Nat.le_of_ble_eq_true rfl) rfl ?_
      refine i_if_eq (tgt := 48) S dX12_behind_30 (by decide) (fun q6 => ?_) (fun q6 => ?_)
      · replace h := (if_pos q6).symm.trans h
        refine i_mask (L1 := [some (rf g 47), some (.int x1), some (.int x2), none, some (.int s.2.1)]) S [true, true, true, false, true] rfl ?_
        have hz := hj5 _ (Option.some.inj h).symm
        exact hz
      · replace h := (if_neg q6).symm.trans h
        refine i_aload_n S dX12_behind_33 rfl ?_
        refine i_iload_n S dX12_behind_34 rfl ?_
        refine i_iload S dX12_behind_35 rfl ?_
        refine i_iload_n S dX12_behind_37 rfl ?_
        obtain ⟨p7, e7, h⟩ := bn h
        refine i_callV (As := [.int x1, .int s.2.1, .int x2]) (st1 := [.int p7.1, .int s.1]) S (c_X12_isAhead g d hL1 e7) mw_X12_isAhead lk_X12_397 im_X12_isAhead se_X12_isAhead ci_12.1 ci_12.2.1 (k47 hL1) dX12_behind_38 rfl rfl (Nat.le_of_ble_eq_true rfl) rfl ?_
        refine i_if_eq (tgt := 48) S dX12_behind_41 (by decide) (fun q8 => ?_) (fun q8 => ?_)
        · replace h := (if_pos q8).symm.trans h
          refine i_mask (L1 := [some (rf g 47), some (.int x1), some (.int x2), none, some (.int s.2.1)]) S [true, true, true, false, true] rfl ?_
          have hz := hj5 _ (Option.some.inj h).symm
          exact hz
        · replace h := (if_neg q8).symm.trans h
          refine i_iconst (v := 1) S dX12_behind_44 ic_1 ?_
          refine i_goto (tgt := 49) S dX12_behind_45 (by decide) ?_
          replace h := ho5 _ (Option.some.inj h).symm
          refine i_mask (L1 := [some (rf g 47), some (.int x1), some (.int x2), none, some (.int s.2.1)]) S [true, true, true, false, true] rfl ?_
          have hz := hj4 _ (Option.some.inj h).symm
          exact hz
set_option maxHeartbeats 4000000 in
set_option maxRecDepth 100000 in
theorem c_X12_behind (g : Gx) (d : Nat) {x1 : Int32} {x2 : Int32} {w : Mm} {p : (Int32 × Mm)} (hL : Lay w) (h : f_X12_behind x1 x2 w = some p) : Call g (d + 11) yX12_behind cX12_behind 5 (some .int) [rf g 47, .int x1, .int x2] w (some (.int p.1)) p.2 := by
  refine call_of (L0 := [some (rf g 47), some (.int x1), some (.int x2), none, none]) (by decide) rfl (Nat.le_of_ble_eq_true rfl) (fun V S0 => ?_)
  have S := S0.b
  unfold f_X12_behind at h
  refine i_iconst (v := 0) S dX12_behind_0 ic_0 ?_
  refine i_istore_n (L1 := [some (rf g 47), some (.int x1), some (.int x2), some (.int ((0 : Int32))), none]) S dX12_behind_1 (by decide) rfl ?_
  refine i_iconst (v := 0) S dX12_behind_2 ic_0 ?_
  refine i_istore (L1 := [some (rf g 47), some (.int x1), some (.int x2), some (.int ((0 : Int32))), some (.int ((0 : Int32)))]) S dX12_behind_3 (by decide) rfl ?_
  obtain ⟨p1, e1, h⟩ := bn h
  have hE1 : V 57 [none, none, none, some (.int p1.1), none] [] p1.2 := by
    refine i_iload_n S dX12_behind_57 rfl ?_
    cases h
    exact i_iret S0 rfl dX12_behind_58
  exact wh_V (P := fun sv1 => V 5 [some (rf g 47), some (.int x1), some (.int x2), some (.int sv1.1), some (.int sv1.2.1)] [] sv1.2.2) (E := fun xv1 => V 57 [none, none, none, some (.int xv1.1), none] [] xv1.2) (fun sv1 ev hb hc he => t_l_X12_behind_5   S  sv1 ev hb hc he) FUEL _ _ e1 hE1
/-! WordYearModel.voters -/
noncomputable def l_X12_voters_4 (w : Mm) (s : Int32 × Int32) : Option ((Int32 × Int32) ⊕ (Int32)) := if (4 : Int32) ≤ s.2 then (some (.inr s.1)) else (if inb s.2 4 = true then (some (.inl (s.1 + (gI w 53 (ix s.2)), s.2 + (1 : Int32)))) else none)
noncomputable def f_X12_voters  (w : Mm) : Option Int32 := Option.bind (wh (l_X12_voters_4 w) FUEL ((0 : Int32), (0 : Int32))) (fun p1 => some p1)
set_option maxHeartbeats 4000000 in
set_option maxRecDepth 100000 in
theorem t_l_X12_voters_4 {g : Gx} {V : Vt} {d : Nat} (S : MachB g yX12_voters cX12_voters 3 (d) V) {w : Mm} (hL : Lay w) (s : Int32 × Int32) (e : (Int32 × Int32) ⊕ (Int32)) (h : l_X12_voters_4 w s = some e) (hC : ∀ s2, e = .inl s2 → V 4 [some (rf g 47), some (.int s2.1), some (.int s2.2)] [] w) (hE : ∀ x, e = .inr x → V 24 [none, some (.int x), none] [] w) : V 4 [some (rf g 47), some (.int s.1), some (.int s.2)] [] w := by
  unfold l_X12_voters_4 at h
  refine i_iload_n S dX12_voters_4 rfl ?_
  refine i_iconst (v := 4) S dX12_voters_5 ic_4 ?_
  refine i_icmp_ge (tgt := 24) S dX12_voters_6 (by decide) (fun q1 => ?_) (fun q1 => ?_)
  · replace h := (if_pos q1).symm.trans h
    refine i_mask (L1 := [none, some (.int s.1), none]) S [false, true, false] rfl ?_
    have hz := hE _ (Option.some.inj h).symm
    exact hz
  · replace h := (if_neg q1).symm.trans h
    refine i_iload_n S dX12_voters_9 rfl ?_
    refine i_aload_n S dX12_voters_10 rfl ?_
    refine i_getR S fl_X12_30 (k47 hL) (r47_12 hL) rfl dX12_voters_11 ?_
    refine i_iload_n S dX12_voters_14 rfl ?_
    obtain ⟨hi3, h⟩ := gd h
    refine i_ialdv (v := gI w 53 (ix s.2)) S (k53 hL) hi3 rfl dX12_voters_15 ?_
    refine i_iadd S dX12_voters_16 ?_
    refine i_istore_n (L1 := [some (rf g 47), some (.int (s.1 + (gI w 53 (ix s.2)))), some (.int s.2)]) S dX12_voters_17 (by decide) rfl ?_
    refine i_iinc (L1 := [some (rf g 47), some (.int (s.1 + (gI w 53 (ix s.2)))), some (.int (s.2 + (1 : Int32)))]) S dX12_voters_18 rfl ic_1 (by decide) rfl ?_
    refine i_goto (tgt := 4) S dX12_voters_21 (by decide) ?_
    have hz := hC _ (Option.some.inj h).symm
    exact hz
set_option maxHeartbeats 4000000 in
set_option maxRecDepth 100000 in
theorem c_X12_voters (g : Gx) (d : Nat)  {w : Mm} {p : Int32} (hL : Lay w) (h : f_X12_voters w = some p) : Call g (d + 1) yX12_voters cX12_voters 3 (some .int) [rf g 47] w (some (.int p)) w := by
  refine call_of (L0 := [some (rf g 47), none, none]) (by decide) rfl (Nat.le_of_ble_eq_true rfl) (fun V S0 => ?_)
  have S := S0.b
  unfold f_X12_voters at h
  refine i_iconst (v := 0) S dX12_voters_0 ic_0 ?_
  refine i_istore_n (L1 := [some (rf g 47), some (.int ((0 : Int32))), none]) S dX12_voters_1 (by decide) rfl ?_
  refine i_iconst (v := 0) S dX12_voters_2 ic_0 ?_
  refine i_istore_n (L1 := [some (rf g 47), some (.int ((0 : Int32))), some (.int ((0 : Int32)))]) S dX12_voters_3 (by decide) rfl ?_
  obtain ⟨p1, e1, h⟩ := bn h
  have hE1 : V 24 [none, some (.int p1), none] [] w := by
    refine i_iload_n S dX12_voters_24 rfl ?_
    cases h
    exact i_iret S0 rfl dX12_voters_25
  exact wh_V (P := fun sv1 => V 4 [some (rf g 47), some (.int sv1.1), some (.int sv1.2)] [] w) (E := fun xv1 => V 24 [none, some (.int xv1), none] [] w) (fun sv1 ev hb hc he => t_l_X12_voters_4 (w := w)  S hL sv1 ev hb hc he) FUEL _ _ e1 hE1
/-! WordYearModel.firstVotes -/
noncomputable def l_X12_firstVotes_4 (x1 : Int32) (s : Int32 × Int32 × Mm) : Option ((Int32 × Int32 × Mm) ⊕ (Int32 × Mm)) := if (4 : Int32) ≤ s.2.1 then (some (.inr (s.1, s.2.2))) else (onL s.2.2 (Option.bind (f_X12_behind x1 s.2.1 s.2.2) (fun p3 => onL p3.2 (Option.bind (f_X12_sizeOf (gI p3.2 47 6)) (fun p5 => Option.bind (if p3.1 = (p5 - (1 : Int32)) then (if inb s.2.1 4 = true then (some (gI p3.2 53 (ix s.2.1))) else none) else (some (0 : Int32))) (fun p7 => some (.inl (s.1 + p7, s.2.1 + (1 : Int32), p3.2))))))))
noncomputable def f_X12_firstVotes (x1 : Int32) (w : Mm) : Option (Int32 × Mm) := Option.bind (wh (l_X12_firstVotes_4 x1) FUEL ((0 : Int32), (0 : Int32), w)) (fun p1 => some (p1.1, p1.2))
set_option maxHeartbeats 4000000 in
set_option maxRecDepth 100000 in
theorem t_l_X12_firstVotes_4 {g : Gx} {V : Vt} {d : Nat} (S : MachB g yX12_firstVotes cX12_firstVotes 4 (d + 11) V) {x1 : Int32}  (s : Int32 × Int32 × Mm) (e : (Int32 × Int32 × Mm) ⊕ (Int32 × Mm)) (h : l_X12_firstVotes_4 x1 s = some e) (hC : ∀ s2, e = .inl s2 → V 4 [some (rf g 47), some (.int x1), some (.int s2.1), some (.int s2.2.1)] [] s2.2.2) (hE : ∀ x, e = .inr x → V 46 [none, none, some (.int x.1), none] [] x.2) : V 4 [some (rf g 47), some (.int x1), some (.int s.1), some (.int s.2.1)] [] s.2.2 := by
  unfold l_X12_firstVotes_4 at h
  refine i_iload_n S dX12_firstVotes_4 rfl ?_
  refine i_iconst (v := 4) S dX12_firstVotes_5 ic_4 ?_
  refine i_icmp_ge (tgt := 46) S dX12_firstVotes_6 (by decide) (fun q1 => ?_) (fun q1 => ?_)
  · replace h := (if_pos q1).symm.trans h
    refine i_mask (L1 := [none, none, some (.int s.1), none]) S [false, false, true, false] rfl ?_
    have hz := hE _ (Option.some.inj h).symm
    exact hz
  · replace h := (if_neg q1).symm.trans h
    refine i_iload_n S dX12_firstVotes_9 rfl ?_
    refine i_aload_n S dX12_firstVotes_10 rfl ?_
    refine i_iload_n S dX12_firstVotes_11 rfl ?_
    refine i_iload_n S dX12_firstVotes_12 rfl ?_
    obtain ⟨hL2, h⟩ := onLn h
    obtain ⟨p3, e3, h⟩ := bn h
    refine i_callV (As := [.int x1, .int s.2.1]) (st1 := [.int p3.1, .int s.1]) S (c_X12_behind g d hL2 e3) mw_X12_behind lk_X12_400 im_X12_behind se_X12_behind ci_12.1 ci_12.2.1 (k47 hL2) dX12_firstVotes_13 rfl rfl (Nat.le_of_ble_eq_true rfl) rfl ?_
    refine i_aload_n S dX12_firstVotes_16 rfl ?_
    obtain ⟨hL4, h⟩ := onLn h
    refine i_getIv (v := gI p3.2 47 6) S fl_X12_146 (k47 hL4) rfl rfl dX12_firstVotes_17 ?_
    obtain ⟨p5, e5, h⟩ := bn h
    refine i_callS (As := [.int (gI p3.2 47 6)]) (st1 := [.int p5, .int p3.1, .int s.1]) S (c_X12_sizeOf g (d + 10) e5) mw_X12_sizeOf lk_X12_297 im_X12_sizeOf dX12_firstVotes_20 rfl rfl (Nat.le_of_ble_eq_true rfl) rfl ?_
    refine i_iconst (v := 1) S dX12_firstVotes_23 ic_1 ?_
    refine i_isub S dX12_firstVotes_24 ?_
    obtain ⟨p7, e7, h⟩ := bn h
    have hj7 : ∀ q7, p7 = q7 → V 38 [some (rf g 47), some (.int x1), none, some (.int s.2.1)] [.int q7, .int s.1] p3.2 := by
      intro q7 hq7
      subst hq7
      refine i_iadd S dX12_firstVotes_38 ?_
      refine i_istore_n (L1 := [some (rf g 47), some (.int x1), some (.int (s.1 + p7)), some (.int s.2.1)]) S dX12_firstVotes_39 (by decide) rfl ?_
      refine i_iinc (L1 := [some (rf g 47), some (.int x1), some (.int (s.1 + p7)), some (.int (s.2.1 + (1 : Int32)))]) S dX12_firstVotes_40 rfl ic_1 (by decide) rfl ?_
      refine i_goto (tgt := 4) S dX12_firstVotes_43 (by decide) ?_
      have hz := hC _ (Option.some.inj h).symm
      exact hz
    replace h := e7
    clear e7
    refine i_icmp_ne (tgt := 37) S dX12_firstVotes_25 (by decide) (fun q6 => ?_) (fun q6 => ?_)
    · replace h := (if_neg q6).symm.trans h
      refine i_iconst (v := 0) S dX12_firstVotes_37 ic_0 ?_
      refine i_mask (L1 := [some (rf g 47), some (.int x1), none, some (.int s.2.1)]) S [true, true, false, true] rfl ?_
      have hz := hj7 _ (Option.some.inj h).symm
      exact hz
    · replace h := (if_pos q6).symm.trans h
      refine i_aload_n S dX12_firstVotes_28 rfl ?_
      refine i_getR S fl_X12_30 (k47 hL4) (r47_12 hL4) rfl dX12_firstVotes_29 ?_
      refine i_iload_n S dX12_firstVotes_32 rfl ?_
      obtain ⟨hi9, h⟩ := gd h
      refine i_ialdv (v := gI p3.2 53 (ix s.2.1)) S (k53 hL4) hi9 rfl dX12_firstVotes_33 ?_
      refine i_goto (tgt := 38) S dX12_firstVotes_34 (by decide) ?_
      refine i_mask (L1 := [some (rf g 47), some (.int x1), none, some (.int s.2.1)]) S [true, true, false, true] rfl ?_
      have hz := hj7 _ (Option.some.inj h).symm
      exact hz
set_option maxHeartbeats 4000000 in
set_option maxRecDepth 100000 in
theorem c_X12_firstVotes (g : Gx) (d : Nat) {x1 : Int32} {w : Mm} {p : (Int32 × Mm)} (hL : Lay w) (h : f_X12_firstVotes x1 w = some p) : Call g (d + 12) yX12_firstVotes cX12_firstVotes 4 (some .int) [rf g 47, .int x1] w (some (.int p.1)) p.2 := by
  refine call_of (L0 := [some (rf g 47), some (.int x1), none, none]) (by decide) rfl (Nat.le_of_ble_eq_true rfl) (fun V S0 => ?_)
  have S := S0.b
  unfold f_X12_firstVotes at h
  refine i_iconst (v := 0) S dX12_firstVotes_0 ic_0 ?_
  refine i_istore_n (L1 := [some (rf g 47), some (.int x1), some (.int ((0 : Int32))), none]) S dX12_firstVotes_1 (by decide) rfl ?_
  refine i_iconst (v := 0) S dX12_firstVotes_2 ic_0 ?_
  refine i_istore_n (L1 := [some (rf g 47), some (.int x1), some (.int ((0 : Int32))), some (.int ((0 : Int32)))]) S dX12_firstVotes_3 (by decide) rfl ?_
  obtain ⟨p1, e1, h⟩ := bn h
  have hE1 : V 46 [none, none, some (.int p1.1), none] [] p1.2 := by
    refine i_iload_n S dX12_firstVotes_46 rfl ?_
    cases h
    exact i_iret S0 rfl dX12_firstVotes_47
  exact wh_V (P := fun sv1 => V 4 [some (rf g 47), some (.int x1), some (.int sv1.1), some (.int sv1.2.1)] [] sv1.2.2) (E := fun xv1 => V 46 [none, none, some (.int xv1.1), none] [] xv1.2) (fun sv1 ev hb hc he => t_l_X12_firstVotes_4   S  sv1 ev hb hc he) FUEL _ _ e1 hE1
/-! WordYearModel.aheadVotes -/
noncomputable def l_X12_aheadVotes_5 (x1 : Int32) (x2 : Int32) (s : Int32 × Int32 × Mm) : Option ((Int32 × Int32 × Mm) ⊕ (Int32 × Mm)) := if (4 : Int32) ≤ s.2.1 then (some (.inr (s.1, s.2.2))) else (onL s.2.2 (Option.bind (f_X12_isAhead x1 x2 s.2.1 s.2.2) (fun p3 => Option.bind (if p3.1 = 0 then (some (0 : Int32)) else (onL p3.2 (if inb s.2.1 4 = true then (some (gI p3.2 53 (ix s.2.1))) else none))) (fun p5 => some (.inl (s.1 + p5, s.2.1 + (1 : Int32), p3.2))))))
noncomputable def f_X12_aheadVotes (x1 : Int32) (x2 : Int32) (w : Mm) : Option (Int32 × Mm) := Option.bind (wh (l_X12_aheadVotes_5 x1 x2) FUEL ((0 : Int32), (0 : Int32), w)) (fun p1 => some (p1.1, p1.2))
set_option maxHeartbeats 4000000 in
set_option maxRecDepth 100000 in
theorem t_l_X12_aheadVotes_5 {g : Gx} {V : Vt} {d : Nat} (S : MachB g yX12_aheadVotes cX12_aheadVotes 5 (d + 10) V) {x1 : Int32} {x2 : Int32}  (s : Int32 × Int32 × Mm) (e : (Int32 × Int32 × Mm) ⊕ (Int32 × Mm)) (h : l_X12_aheadVotes_5 x1 x2 s = some e) (hC : ∀ s2, e = .inl s2 → V 5 [some (rf g 47), some (.int x1), some (.int x2), some (.int s2.1), some (.int s2.2.1)] [] s2.2.2) (hE : ∀ x, e = .inr x → V 42 [none, none, none, some (.int x.1), none] [] x.2) : V 5 [some (rf g 47), some (.int x1), some (.int x2), some (.int s.1), some (.int s.2.1)] [] s.2.2 := by
  unfold l_X12_aheadVotes_5 at h
  refine i_iload S dX12_aheadVotes_5 rfl ?_
  refine i_iconst (v := 4) S dX12_aheadVotes_7 ic_4 ?_
  refine i_icmp_ge (tgt := 42) S dX12_aheadVotes_8 (by decide) (fun q1 => ?_) (fun q1 => ?_)
  · replace h := (if_pos q1).symm.trans h
    refine i_mask (L1 := [none, none, none, some (.int s.1), none]) S [false, false, false, true, false] rfl ?_
    have hz := hE _ (Option.some.inj h).symm
    exact hz
  · replace h := (if_neg q1).symm.trans h
    refine i_iload_n S dX12_aheadVotes_11 rfl ?_
    refine i_aload_n S dX12_aheadVotes_12 rfl ?_
    refine i_iload_n S dX12_aheadVotes_13 rfl ?_
    refine i_iload_n S dX12_aheadVotes_14 rfl ?_
    refine i_iload S dX12_aheadVotes_15 rfl ?_
    obtain ⟨hL2, h⟩ := onLn h
    obtain ⟨p3, e3, h⟩ := bn h
    refine i_callV (As := [.int x1, .int x2, .int s.2.1]) (st1 := [.int p3.1, .int s.1]) S (c_X12_isAhead g d hL2 e3) mw_X12_isAhead lk_X12_397 im_X12_isAhead se_X12_isAhead ci_12.1 ci_12.2.1 (k47 hL2) dX12_aheadVotes_17 rfl rfl (Nat.le_of_ble_eq_true rfl) rfl ?_
    obtain ⟨p5, e5, h⟩ := bn h
    have hj5 : ∀ q5, p5 = q5 → V 34 [some (rf g 47), some (.int x1), some (.int x2), none, some (.int s.2.1)] [.int q5, .int s.1] p3.2 := by
      intro q5 hq5
      subst hq5
      refine i_iadd S dX12_aheadVotes_34 ?_
      refine i_istore_n (L1 := [some (rf g 47), some (.int x1), some (.int x2), some (.int (s.1 + p5)), some (.int s.2.1)]) S dX12_aheadVotes_35 (by decide) rfl ?_
      refine i_iinc (L1 := [some (rf g 47), some (.int x1), some (.int x2), some (.int (s.1 + p5)), some (.int (s.2.1 + (1 : Int32)))]) S dX12_aheadVotes_36 rfl ic_1 (by decide) rfl ?_
      refine i_goto (tgt := 5) S dX12_aheadVotes_39 (by decide) ?_
      have hz := hC _ (Option.some.inj h).symm
      exact hz
    replace h := e5
    clear e5
    refine i_if_eq (tgt := 33) S dX12_aheadVotes_20 (by decide) (fun q4 => ?_) (fun q4 => ?_)
    · replace h := (if_pos q4).symm.trans h
      refine i_iconst (v := 0) S dX12_aheadVotes_33 ic_0 ?_
      refine i_mask (L1 := [some (rf g 47), some (.int x1), some (.int x2), none, some (.int s.2.1)]) S [true, true, true, false, true] rfl ?_
      have hz := hj5 _ (Option.some.inj h).symm
      exact hz
    · replace h := (if_neg q4).symm.trans h
      refine i_aload_n S dX12_aheadVotes_23 rfl ?_
      obtain ⟨hL6, h⟩ := onLn h
      refine i_getR S fl_X12_30 (k47 hL6) (r47_12 hL6) rfl dX12_aheadVotes_24 ?_
      refine i_iload S dX12_aheadVotes_27 rfl ?_
      obtain ⟨hi8, h⟩ := gd h
      refine i_ialdv (v := gI p3.2 53 (ix s.2.1)) S (k53 hL6) hi8 rfl dX12_aheadVotes_29 ?_
      refine i_goto (tgt := 34) S dX12_aheadVotes_30 (by decide) ?_
      refine i_mask (L1 := [some (rf g 47), some (.int x1), some (.int x2), none, some (.int s.2.1)]) S [true, true, true, false, true] rfl ?_
      have hz := hj5 _ (Option.some.inj h).symm
      exact hz
set_option maxHeartbeats 4000000 in
set_option maxRecDepth 100000 in
theorem c_X12_aheadVotes (g : Gx) (d : Nat) {x1 : Int32} {x2 : Int32} {w : Mm} {p : (Int32 × Mm)} (hL : Lay w) (h : f_X12_aheadVotes x1 x2 w = some p) : Call g (d + 11) yX12_aheadVotes cX12_aheadVotes 5 (some .int) [rf g 47, .int x1, .int x2] w (some (.int p.1)) p.2 := by
  refine call_of (L0 := [some (rf g 47), some (.int x1), some (.int x2), none, none]) (by decide) rfl (Nat.le_of_ble_eq_true rfl) (fun V S0 => ?_)
  have S := S0.b
  unfold f_X12_aheadVotes at h
  refine i_iconst (v := 0) S dX12_aheadVotes_0 ic_0 ?_
  refine i_istore_n (L1 := [some (rf g 47), some (.int x1), some (.int x2), some (.int ((0 : Int32))), none]) S dX12_aheadVotes_1 (by decide) rfl ?_
  refine i_iconst (v := 0) S dX12_aheadVotes_2 ic_0 ?_
  refine i_istore (L1 := [some (rf g 47), some (.int x1), some (.int x2), some (.int ((0 : Int32))), some (.int ((0 : Int32)))]) S dX12_aheadVotes_3 (by decide) rfl ?_
  obtain ⟨p1, e1, h⟩ := bn h
  have hE1 : V 42 [none, none, none, some (.int p1.1), none] [] p1.2 := by
    refine i_iload_n S dX12_aheadVotes_42 rfl ?_
    cases h
    exact i_iret S0 rfl dX12_aheadVotes_43
  exact wh_V (P := fun sv1 => V 5 [some (rf g 47), some (.int x1), some (.int x2), some (.int sv1.1), some (.int sv1.2.1)] [] sv1.2.2) (E := fun xv1 => V 42 [none, none, none, some (.int xv1.1), none] [] xv1.2) (fun sv1 ev hb hc he => t_l_X12_aheadVotes_5   S  sv1 ev hb hc he) FUEL _ _ e1 hE1
/-! WordYearModel.firstOf -/
noncomputable def l_X12_firstOf_4 (x1 : Int32) (s : Int32 × Int32 × Mm) : Option ((Int32 × Int32 × Mm) ⊕ (Int32 × Mm)) := onL s.2.2 (if (gI s.2.2 47 2) ≤ s.2.1 then (some (.inr (s.1, s.2.2))) else (Option.bind (if (f_X12_has (gI s.2.2 47 6) s.2.1) = 0 then (some (s.1, s.2.2)) else (if s.2.1 = x1 then (some (s.1, s.2.2)) else (mg (if s.1 = (-1 : Int32) then (some (.inl s.2.2)) else (Option.bind (f_X12_firstVotes s.2.1 s.2.2) (fun p8 => onL p8.2 (Option.bind (f_X12_firstVotes s.1 p8.2) (fun p10 => if p8.1 ≤ p10.1 then (some (.inr (s.1, p10.2))) else (some (.inl p10.2))))))) (fun p7 => some (s.2.1, p7))))) (fun p4 => some (.inl (p4.1, s.2.1 + (1 : Int32), p4.2)))))
noncomputable def f_X12_firstOf (x1 : Int32) (w : Mm) : Option (Int32 × Mm) := Option.bind (wh (l_X12_firstOf_4 x1) FUEL ((-1 : Int32), (0 : Int32), w)) (fun p1 => some (p1.1, p1.2))
set_option maxHeartbeats 4000000 in
set_option maxRecDepth 100000 in
theorem t_l_X12_firstOf_4 {g : Gx} {V : Vt} {d : Nat} (S : MachB g yX12_firstOf cX12_firstOf 4 (d + 12) V) {x1 : Int32}  (s : Int32 × Int32 × Mm) (e : (Int32 × Int32 × Mm) ⊕ (Int32 × Mm)) (h : l_X12_firstOf_4 x1 s = some e) (hC : ∀ s2, e = .inl s2 → V 4 [some (rf g 47), some (.int x1), some (.int s2.1), some (.int s2.2.1)] [] s2.2.2) (hE : ∀ x, e = .inr x → V 54 [none, none, some (.int x.1), none] [] x.2) : V 4 [some (rf g 47), some (.int x1), some (.int s.1), some (.int s.2.1)] [] s.2.2 := by
  unfold l_X12_firstOf_4 at h
  refine i_iload_n S dX12_firstOf_4 rfl ?_
  refine i_aload_n S dX12_firstOf_5 rfl ?_
  obtain ⟨hL1, h⟩ := onLn h
  refine i_getIv (v := gI s.2.2 47 2) S fl_X12_135 (k47 hL1) rfl rfl dX12_firstOf_6 ?_
  refine i_icmp_ge (tgt := 54) S dX12_firstOf_9 (by decide) (fun q2 => ?_) (fun q2 => ?_)
  · replace h := (if_pos q2).symm.trans h
    refine i_mask (L1 := [none, none, some (.int s.1), none]) S [false, false, true, false] rfl ?_
    have hz := hE _ (Option.some.inj h).symm
    exact hz
  · replace h := (if_neg q2).symm.trans h
    refine i_aload_n S dX12_firstOf_12 rfl ?_
    refine i_getIv (v := gI s.2.2 47 6) S fl_X12_146 (k47 hL1) rfl rfl dX12_firstOf_13 ?_
    refine i_iload_n S dX12_firstOf_16 rfl ?_
    refine i_callS (As := [.int (gI s.2.2 47 6), .int s.2.1]) (st1 := [.int (f_X12_has (gI s.2.2 47 6) s.2.1)]) S (c_X12_has g (d + 11) rfl) mw_X12_has lk_X12_149 im_X12_has dX12_firstOf_17 rfl rfl (Nat.le_of_ble_eq_true rfl) rfl ?_
    obtain ⟨p4, e4, h⟩ := bn h
    have hj4 : ∀ q4, p4 = q4 → V 48 [some (rf g 47), some (.int x1), some (.int q4.1), some (.int s.2.1)] [] q4.2 := by
      intro q4 hq4
      subst hq4
      refine i_iinc (L1 := [some (rf g 47), some (.int x1), some (.int p4.1), some (.int (s.2.1 + (1 : Int32)))]) S dX12_firstOf_48 rfl ic_1 (by decide) rfl ?_
      refine i_goto (tgt := 4) S dX12_firstOf_51 (by decide) ?_
      have hz := hC _ (Option.some.inj h).symm
      exact hz
    replace h := e4
    clear e4
    refine i_if_eq (tgt := 48) S dX12_firstOf_20 (by decide) (fun q3 => ?_) (fun q3 => ?_)
    · replace h := (if_pos q3).symm.trans h
      have hz := hj4 _ (Option.some.inj h).symm
      exact hz
    · replace h := (if_neg q3).symm.trans h
      refine i_iload_n S dX12_firstOf_23 rfl ?_
      refine i_iload_n S dX12_firstOf_24 rfl ?_
      refine i_icmp_eq (tgt := 48) S dX12_firstOf_25 (by decide) (fun q5 => ?_) (fun q5 => ?_)
      · replace h := (if_pos q5).symm.trans h
        have hz := hj4 _ (Option.some.inj h).symm
        exact hz
      · replace h := (if_neg q5).symm.trans h
        refine i_iload_n S dX12_firstOf_28 rfl ?_
        refine i_iconst (v := -1) S dX12_firstOf_29 ic_m1 ?_
        obtain ⟨s7, e7, hm7, ho7⟩ := mgn h
        have hj7 : ∀ p7, s7 = .inl p7 → V 46 [some (rf g 47), some (.int x1), none, some (.int s.2.1)] [] p7 := by
          intro p7 ep7
          have h := hm7 p7 ep7
          refine i_iload_n S dX12_firstOf_46 rfl ?_
          refine i_istore_n (L1 := [some (rf g 47), some (.int x1), some (.int s.2.1), some (.int s.2.1)]) S dX12_firstOf_47 (by decide) rfl ?_
          have hz := hj4 _ (Option.some.inj h).symm
          exact hz
        replace h := e7
        clear e7
        refine i_icmp_eq (tgt := 46) S dX12_firstOf_30 (by decide) (fun q6 => ?_) (fun q6 => ?_)
        · replace h := (if_pos q6).symm.trans h
          refine i_mask (L1 := [some (rf g 47), some (.int x1), none, some (.int s.2.1)]) S [true, true, false, true] rfl ?_
          have hz := hj7 _ (Option.some.inj h).symm
          exact hz
        · replace h := (if_neg q6).symm.trans h
          refine i_aload_n S dX12_firstOf_33 rfl ?_
          refine i_iload_n S dX12_firstOf_34 rfl ?_
          obtain ⟨p8, e8, h⟩ := bn h
          refine i_callV (As := [.int s.2.1]) (st1 := [.int p8.1]) S (c_X12_firstVotes g d hL1 e8) mw_X12_firstVotes lk_X12_403 im_X12_firstVotes se_X12_firstVotes ci_12.1 ci_12.2.1 (k47 hL1) dX12_firstOf_35 rfl rfl (Nat.le_of_ble_eq_true rfl) rfl ?_
          refine i_aload_n S dX12_firstOf_38 rfl ?_
          refine i_iload_n S dX12_firstOf_39 rfl ?_
          obtain ⟨hL9, h⟩ := onLn h
          obtain ⟨p10, e10, h⟩ := bn h
          refine i_callV (As := [.int s.1]) (st1 := [.int p10.1, .int p8.1]) S (c_X12_firstVotes g d hL9 e10) mw_X12_firstVotes lk_X12_403 im_X12_firstVotes se_X12_firstVotes ci_12.1 ci_12.2.1 (k47 hL9) dX12_firstOf_40 rfl rfl (Nat.le_of_ble_eq_true rfl) rfl ?_
          refine i_icmp_le (tgt := 48) S dX12_firstOf_43 (by decide) (fun q11 => ?_) (fun q11 => ?_)
          · replace h := (if_pos q11).symm.trans h
            replace h := ho7 _ (Option.some.inj h).symm
            have hz := hj4 _ (Option.some.inj h).symm
            exact hz
          · replace h := (if_neg q11).symm.trans h
            refine i_mask (L1 := [some (rf g 47), some (.int x1), none, some (.int s.2.1)]) S [true, true, false, true] rfl ?_
            have hz := hj7 _ (Option.some.inj h).symm
            exact hz
set_option maxHeartbeats 4000000 in
set_option maxRecDepth 100000 in
theorem c_X12_firstOf (g : Gx) (d : Nat) {x1 : Int32} {w : Mm} {p : (Int32 × Mm)} (hL : Lay w) (h : f_X12_firstOf x1 w = some p) : Call g (d + 13) yX12_firstOf cX12_firstOf 4 (some .int) [rf g 47, .int x1] w (some (.int p.1)) p.2 := by
  refine call_of (L0 := [some (rf g 47), some (.int x1), none, none]) (by decide) rfl (Nat.le_of_ble_eq_true rfl) (fun V S0 => ?_)
  have S := S0.b
  unfold f_X12_firstOf at h
  refine i_iconst (v := -1) S dX12_firstOf_0 ic_m1 ?_
  refine i_istore_n (L1 := [some (rf g 47), some (.int x1), some (.int ((-1 : Int32))), none]) S dX12_firstOf_1 (by decide) rfl ?_
  refine i_iconst (v := 0) S dX12_firstOf_2 ic_0 ?_
  refine i_istore_n (L1 := [some (rf g 47), some (.int x1), some (.int ((-1 : Int32))), some (.int ((0 : Int32)))]) S dX12_firstOf_3 (by decide) rfl ?_
  obtain ⟨p1, e1, h⟩ := bn h
  have hE1 : V 54 [none, none, some (.int p1.1), none] [] p1.2 := by
    refine i_iload_n S dX12_firstOf_54 rfl ?_
    cases h
    exact i_iret S0 rfl dX12_firstOf_55
  exact wh_V (P := fun sv1 => V 4 [some (rf g 47), some (.int x1), some (.int sv1.1), some (.int sv1.2.1)] [] sv1.2.2) (E := fun xv1 => V 54 [none, none, some (.int xv1.1), none] [] xv1.2) (fun sv1 ev hb hc he => t_l_X12_firstOf_4   S  sv1 ev hb hc he) FUEL _ _ e1 hE1
