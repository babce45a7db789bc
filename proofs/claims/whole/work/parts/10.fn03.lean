/-! WordYear$Tongues.yearly -/
noncomputable def l_X9_yearly_5 (o1 : Nat) (x2 : Int32) (s : Int64 × Int32 × Mm) : Option ((Int64 × Int32 × Mm) ⊕ (Int64 × Mm)) := onL s.2.2 (if (gI s.2.2 6 5) ≤ s.2.1 then (some (.inr (s.1, s.2.2))) else (if (24 : Int32) ≤ s.2.1 then (some (.inr (s.1, s.2.2))) else (Option.bind (mg (if x2 = (-1 : Int32) then (some (.inl ())) else (if inb s.2.1 24 = true then (if (gI s.2.2 8 (ix s.2.1)) = x2 then (some (.inl ())) else (some (.inr (s.1, s.2.2)))) else none)) (fun p6 => if inb s.2.1 24 = true then (if (gI s.2.2 10 (ix s.2.1)) ≤ 0 then (some (s.1, s.2.2)) else (if isSp s.2.2 o1 = true then (Option.bind (f_X9_price o1 (gI s.2.2 9 (ix s.2.1)) s.2.2) (fun p12 => Option.bind (if p12.1 = (-2 : Int32) then (onL p12.2 (some (gI p12.2 6 6))) else (onL p12.2 (some (mn (p12.1 >>> ((6 : Int32) &&& 31)) (gI p12.2 6 6))))) (fun p14 => onL p12.2 (some (s.1 + (((gI p12.2 10 (ix s.2.1)).toInt64) * p14.toInt64), p12.2))))) else none)) else none)) (fun p5 => some (.inl (p5.1, s.2.1 + (1 : Int32), p5.2))))))
noncomputable def f_X9_yearly (o1 : Nat) (x2 : Int32) (w : Mm) : Option (Int64 × Mm) := Option.bind (wh (l_X9_yearly_5 o1 x2) FUEL ((0 : Int64), (0 : Int32), w)) (fun p1 => some (p1.1, p1.2))
set_option maxHeartbeats 4000000 in
set_option maxRecDepth 100000 in
theorem t_l_X9_yearly_5 {g : Gx} {V : Vt} {d : Nat} (S : MachB g yX9_yearly cX9_yearly 8 (d + 4) V) {o1 : Nat} {x2 : Int32}  (s : Int64 × Int32 × Mm) (e : (Int64 × Int32 × Mm) ⊕ (Int64 × Mm)) (h : l_X9_yearly_5 o1 x2 s = some e) (hC : ∀ s2, e = .inl s2 → V 5 [some (rf g 14), some (rf g o1), some (.int x2), some (.long s2.1), none, some (.int s2.2.1), none, none] [] s2.2.2) (hE : ∀ x, e = .inr x → V 131 [none, none, none, some (.long x.1), none, none, none, none] [] x.2) : V 5 [some (rf g 14), some (rf g o1), some (.int x2), some (.long s.1), none, some (.int s.2.1), none, none] [] s.2.2 := by
  unfold l_X9_yearly_5 at h
  refine i_iload S dX9_yearly_5 rfl ?_
  refine i_aload_n S dX9_yearly_7 rfl ?_
  obtain ⟨hL1, h⟩ := onLn h
  refine i_getR S fl_X9_28 (k14 hL1) (r14_1 hL1) rfl dX9_yearly_8 ?_
  refine i_getIv (v := gI s.2.2 6 5) S fl_X9_71 (k6 hL1) rfl rfl dX9_yearly_11 ?_
  refine i_icmp_ge (tgt := 131) S dX9_yearly_14 (by decide) (fun q2 => ?_) (fun q2 => ?_)
  · replace h := (if_pos q2).symm.trans h
    refine i_mask (L1 := [none, none, none, some (.long s.1), none, none, none, none]) S [false, false, false, true, false, false, false, false] rfl ?_
    have hz := hE _ (Option.some.inj h).symm
    exact hz
  · replace h := (if_neg q2).symm.trans h
    refine i_iload S dX9_yearly_17 rfl ?_
    refine i_bipush (v := 24) S dX9_yearly_19 bp_24 ?_
    refine i_icmp_ge (tgt := 131) S dX9_yearly_21 (by decide) (fun q3 => ?_) (fun q3 => ?_)
    · replace h := (if_pos q3).symm.trans h
      refine i_mask (L1 := [none, none, none, some (.long s.1), none, none, none, none]) S [false, false, false, true, false, false, false, false] rfl ?_
      have hz := hE _ (Option.some.inj h).symm
      exact hz
    · replace h := (if_neg q3).symm.trans h
      refine i_iload_n S dX9_yearly_24 rfl ?_
      refine i_iconst (v := -1) S dX9_yearly_25 ic_m1 ?_
      obtain ⟨p5, e5, h⟩ := bn h
      have hj5 : ∀ q5, p5 = q5 → V 125 [some (rf g 14), some (rf g o1), some (.int x2), some (.long q5.1), none, some (.int s.2.1), none, none] [] q5.2 := by
        intro q5 hq5
        subst hq5
        refine i_iinc (L1 := [some (rf g 14), some (rf g o1), some (.int x2), some (.long p5.1), none, some (.int (s.2.1 + (1 : Int32))), none, none]) S dX9_yearly_125 rfl ic_1 (by decide) rfl ?_
        refine i_goto (tgt := 5) S dX9_yearly_128 (by decide) ?_
        have hz := hC _ (Option.some.inj h).symm
        exact hz
      replace h := e5
      clear e5
      obtain ⟨s6, e6, hm6, ho6⟩ := mgn h
      have hj6 : ∀ p6, s6 = .inl p6 → V 43 [some (rf g 14), some (rf g o1), some (.int x2), some (.long s.1), none, some (.int s.2.1), none, none] [] s.2.2 := by
        intro p6 ep6
        have h := hm6 p6 ep6
        refine i_aload_n S dX9_yearly_43 rfl ?_
        refine i_getR S fl_X9_28 (k14 hL1) (r14_1 hL1) rfl dX9_yearly_44 ?_
        refine i_getR S fl_X9_79 (k6 hL1) (r6_3 hL1) rfl dX9_yearly_47 ?_
        refine i_iload S dX9_yearly_50 rfl ?_
        obtain ⟨hi8, h⟩ := gd h
        refine i_ialdv (v := gI s.2.2 10 (ix s.2.1)) S (k10 hL1) hi8 rfl dX9_yearly_52 ?_
        refine i_if_le (tgt := 125) S dX9_yearly_53 (by decide) (fun q9 => ?_) (fun q9 => ?_)
        · replace h := (if_pos q9).symm.trans h
          have hz := hj5 _ (Option.some.inj h).symm
          exact hz
        · replace h := (if_neg q9).symm.trans h
          refine i_aload_n S dX9_yearly_56 rfl ?_
          refine i_aload_n S dX9_yearly_57 rfl ?_
          refine i_aload_n S dX9_yearly_58 rfl ?_
          refine i_getR S fl_X9_28 (k14 hL1) (r14_1 hL1) rfl dX9_yearly_59 ?_
          refine i_getR S fl_X9_82 (k6 hL1) (r6_2 hL1) rfl dX9_yearly_62 ?_
          refine i_iload S dX9_yearly_65 rfl ?_
          refine i_ialdv (v := gI s.2.2 9 (ix s.2.1)) S (k9 hL1) hi8 rfl dX9_yearly_67 ?_
          obtain ⟨hs11, h⟩ := gd h
          obtain ⟨p12, e12, h⟩ := bn h
          refine i_callV (As := [rf g o1, .int (gI s.2.2 9 (ix s.2.1))]) (st1 := [.int p12.1]) S (c_X9_price g d hL1 hs11 e12) mw_X9_price lk_X9_85 im_X9_price se_X9_price ci_9.1 ci_9.2.1 (k14 hL1) dX9_yearly_68 rfl rfl (Nat.le_of_ble_eq_true rfl) rfl ?_
          refine i_istore (L1 := [some (rf g 14), some (rf g o1), some (.int x2), some (.long s.1), none, some (.int s.2.1), some (.int p12.1), none]) S dX9_yearly_71 (by decide) rfl ?_
          refine i_iload S dX9_yearly_73 rfl ?_
          refine i_bipush (v := -2) S dX9_yearly_75 bp_m2 ?_
          obtain ⟨p14, e14, h⟩ := bn h
          have hj14 : ∀ q14, p14 = q14 → V 105 [some (rf g 14), some (rf g o1), some (.int x2), some (.long s.1), none, some (.int s.2.1), none, none] [.int q14] p12.2 := by
            intro q14 hq14
            subst hq14
            refine i_istore (L1 := [some (rf g 14), some (rf g o1), some (.int x2), some (.long s.1), none, some (.int s.2.1), none, some (.int p14)]) S dX9_yearly_105 (by decide) rfl ?_
            refine i_lload_n S dX9_yearly_107 rfl ?_
            refine i_aload_n S dX9_yearly_108 rfl ?_
            obtain ⟨hL15, h⟩ := onLn h
            refine i_getR S fl_X9_28 (k14 hL15) (r14_1 hL15) rfl dX9_yearly_109 ?_
            refine i_getR S fl_X9_79 (k6 hL15) (r6_3 hL15) rfl dX9_yearly_112 ?_
            refine i_iload S dX9_yearly_115 rfl ?_
            refine i_ialdv (v := gI p12.2 10 (ix s.2.1)) S (k10 hL15) hi8 rfl dX9_yearly_117 ?_
            refine i_i2l S dX9_yearly_118 ?_
            refine i_iload S dX9_yearly_119 rfl ?_
            refine i_i2l S dX9_yearly_121 ?_
            refine i_lmul S dX9_yearly_122 ?_
            refine i_ladd S dX9_yearly_123 ?_
            refine i_lstore_n (L1 := [some (rf g 14), some (rf g o1), some (.int x2), some (.long (s.1 + (((gI p12.2 10 (ix s.2.1)).toInt64) * p14.toInt64))), none, some (.int s.2.1), none, some (.int p14)]) S dX9_yearly_124 (by decide) rfl ?_
            refine i_mask (L1 := [some (rf g 14), some (rf g o1), some (.int x2), some (.long (s.1 + (((gI p12.2 10 (ix s.2.1)).toInt64) * p14.toInt64))), none, some (.int s.2.1), none, none]) S [true, true, true, true, false, true, false, false] rfl ?_
            have hz := hj5 _ (Option.some.inj h).symm
            exact hz
          replace h := e14
          clear e14
          refine i_icmp_ne (tgt := 90) S dX9_yearly_77 (by decide) (fun q13 => ?_) (fun q13 => ?_)
          · replace h := (if_neg q13).symm.trans h
            refine i_iload S dX9_yearly_90 rfl ?_
            refine i_bipush (v := 6) S dX9_yearly_92 bp_6 ?_
            refine i_ishr S dX9_yearly_94 ?_
            refine i_aload_n S dX9_yearly_95 rfl ?_
            obtain ⟨hL17, h⟩ := onLn h
            refine i_getR S fl_X9_28 (k14 hL17) (r14_1 hL17) rfl dX9_yearly_96 ?_
            refine i_getIv (v := gI p12.2 6 6) S fl_X9_89 (k6 hL17) rfl rfl dX9_yearly_99 ?_
            refine i_min S lk_X9_92 dX9_yearly_102 (Nat.le_of_ble_eq_true rfl) ?_
            refine i_mask (L1 := [some (rf g 14), some (rf g o1), some (.int x2), some (.long s.1), none, some (.int s.2.1), none, none]) S [true, true, true, true, false, true, false, false] rfl ?_
            have hz := hj14 _ (Option.some.inj h).symm
            exact hz
          · replace h := (if_pos q13).symm.trans h
            refine i_aload_n S dX9_yearly_80 rfl ?_
            obtain ⟨hL18, h⟩ := onLn h
            refine i_getR S fl_X9_28 (k14 hL18) (r14_1 hL18) rfl dX9_yearly_81 ?_
            refine i_getIv (v := gI p12.2 6 6) S fl_X9_89 (k6 hL18) rfl rfl dX9_yearly_84 ?_
            refine i_goto (tgt := 105) S dX9_yearly_87 (by decide) ?_
            refine i_mask (L1 := [some (rf g 14), some (rf g o1), some (.int x2), some (.long s.1), none, some (.int s.2.1), none, none]) S [true, true, true, true, false, true, false, false] rfl ?_
            have hz := hj14 _ (Option.some.inj h).symm
            exact hz
      replace h := e6
      clear e6
      refine i_icmp_eq (tgt := 43) S dX9_yearly_26 (by decide) (fun q4 => ?_) (fun q4 => ?_)
      · replace h := (if_pos q4).symm.trans h
        have hz := hj6 _ (Option.some.inj h).symm
        exact hz
      · replace h := (if_neg q4).symm.trans h
        refine i_aload_n S dX9_yearly_29 rfl ?_
        refine i_getR S fl_X9_28 (k14 hL1) (r14_1 hL1) rfl dX9_yearly_30 ?_
        refine i_getR S fl_X9_76 (k6 hL1) (r6_1 hL1) rfl dX9_yearly_33 ?_
        refine i_iload S dX9_yearly_36 rfl ?_
        obtain ⟨hi20, h⟩ := gd h
        refine i_ialdv (v := gI s.2.2 8 (ix s.2.1)) S (k8 hL1) hi20 rfl dX9_yearly_38 ?_
        refine i_iload_n S dX9_yearly_39 rfl ?_
        refine i_icmp_ne (tgt := 125) S dX9_yearly_40 (by decide) (fun q21 => ?_) (fun q21 => ?_)
        · replace h := (if_neg q21).symm.trans h
          replace h := ho6 _ (Option.some.inj h).symm
          have hz := hj5 _ (Option.some.inj h).symm
          exact hz
        · replace h := (if_pos q21).symm.trans h
          have hz := hj6 _ (Option.some.inj h).symm
          exact hz
set_option maxHeartbeats 4000000 in
set_option maxRecDepth 100000 in
theorem c_X9_yearly (g : Gx) (d : Nat) {o1 : Nat} {x2 : Int32} {w : Mm} {p : (Int64 × Mm)} (hL : Lay w) (ho1 : isSp w o1 = true) (h : f_X9_yearly o1 x2 w = some p) : Call g (d + 5) yX9_yearly cX9_yearly 8 (some .long) [rf g 14, rf g o1, .int x2] w (some (.long p.1)) p.2 := by
  refine call_of (L0 := [some (rf g 14), some (rf g o1), some (.int x2), none, none, none, none, none]) (by decide) rfl (Nat.le_of_ble_eq_true rfl) (fun V S0 => ?_)
  have S := S0.b
  unfold f_X9_yearly at h
  refine i_lconst (v := 0) S dX9_yearly_0 lc_0 ?_
  refine i_lstore_n (L1 := [some (rf g 14), some (rf g o1), some (.int x2), some (.long ((0 : Int64))), none, none, none, none]) S dX9_yearly_1 (by decide) rfl ?_
  refine i_iconst (v := 0) S dX9_yearly_2 ic_0 ?_
  refine i_istore (L1 := [some (rf g 14), some (rf g o1), some (.int x2), some (.long ((0 : Int64))), none, some (.int ((0 : Int32))), none, none]) S dX9_yearly_3 (by decide) rfl ?_
  obtain ⟨p1, e1, h⟩ := bn h
  have hE1 : V 131 [none, none, none, some (.long p1.1), none, none, none, none] [] p1.2 := by
    refine i_lload_n S dX9_yearly_131 rfl ?_
    cases h
    exact i_lret S0 dX9_yearly_132
  exact wh_V (P := fun sv1 => V 5 [some (rf g 14), some (rf g o1), some (.int x2), some (.long sv1.1), none, some (.int sv1.2.1), none, none] [] sv1.2.2) (E := fun xv1 => V 131 [none, none, none, some (.long xv1.1), none, none, none, none] [] xv1.2) (fun sv1 ev hb hc he => t_l_X9_yearly_5   S  sv1 ev hb hc he) FUEL _ _ e1 hE1
/-! WordYear$Ballot.spiteful -/
noncomputable def l_X0_spiteful_47 (x1 : Int32) (x6 : Int64) (x8 : Int64) (s : Int32 × Int64 × Int32 × Mm) : Option ((Int32 × Int64 × Int32 × Mm) ⊕ (Int32 × Mm)) := if (10 : Int32) ≤ s.2.2.1 then (some (.inr (s.1, s.2.2.2))) else (onL s.2.2.2 (Option.bind (if (f_X11_contains (gI s.2.2.2 1 5) s.2.2.1) = 0 then (some (s.1, s.2.1, s.2.2.2)) else (Option.bind (f_X9_speech (f_X11_without (gI s.2.2.2 1 5) s.2.2.1) s.2.2.2) (fun p5 => onL p5.2 (if isSp p5.2 p5.1 = true then (Option.bind (f_X9_yearly p5.1 x1 p5.2) (fun p8 => onL p8.2 (if isSp p8.2 p5.1 = true then (Option.bind (f_X9_yearly p5.1 (-1 : Int32) p8.2) (fun p11 => mg (if s.1 = (-1 : Int32) then (some (.inl ())) else (if (((p11.1 - x8) - (p8.1 - x6)) - ((3 : Int64) * (p8.1 - x6))) ≤ s.2.1 then (some (.inr (s.1, s.2.1, p11.2))) else (some (.inl ())))) (fun p13 => some (s.2.2.1, ((p11.1 - x8) - (p8.1 - x6)) - ((3 : Int64) * (p8.1 - x6)), p11.2)))) else none))) else none)))) (fun p4 => some (.inl (p4.1, p4.2.1, s.2.2.1 + (1 : Int32), p4.2.2)))))
noncomputable def f_X0_spiteful (x1 : Int32) (w : Mm) : Option (Int32 × Mm) := Option.bind (f_X9_speech (gI w 1 5) w) (fun p1 => onL p1.2 (if isSp p1.2 p1.1 = true then (Option.bind (f_X9_yearly p1.1 x1 p1.2) (fun p4 => onL p4.2 (if isSp p4.2 p1.1 = true then (Option.bind (f_X9_yearly p1.1 (-1 : Int32) p4.2) (fun p7 => Option.bind (wh (l_X0_spiteful_47 x1 p4.1 p7.1) FUEL ((-1 : Int32), (0 : Int64), (0 : Int32), p7.2)) (fun p8 => some (p8.1, p8.2)))) else none))) else none))
set_option maxHeartbeats 4000000 in
set_option maxRecDepth 100000 in
theorem t_l_X0_spiteful_47 {g : Gx} {V : Vt} {d : Nat} (S : MachB g yX0_spiteful cX0_spiteful 18 (d + 5) V) {x1 : Int32} {x6 : Int64} {x8 : Int64}  (s : Int32 × Int64 × Int32 × Mm) (e : (Int32 × Int64 × Int32 × Mm) ⊕ (Int32 × Mm)) (h : l_X0_spiteful_47 x1 x6 x8 s = some e) (hC : ∀ s2, e = .inl s2 → V 47 [some (rf g 41), some (.int x1), some (.int s2.1), some (.long s2.2.1), none, none, some (.long x6), none, some (.long x8), none, some (.int s2.2.2.1), none, none, none, none, none, none, none] [] s2.2.2.2) (hE : ∀ x, e = .inr x → V 158 [none, none, some (.int x.1), none, none, none, none, none, none, none, none, none, none, none, none, none, none, none] [] x.2) : V 47 [some (rf g 41), some (.int x1), some (.int s.1), some (.long s.2.1), none, none, some (.long x6), none, some (.long x8), none, some (.int s.2.2.1), none, none, none, none, none, none, none] [] s.2.2.2 := by
  unfold l_X0_spiteful_47 at h
  refine i_iload S dX0_spiteful_47 rfl ?_
  refine i_bipush (v := 10) S dX0_spiteful_49 bp_10 ?_
  refine i_icmp_ge (tgt := 158) S dX0_spiteful_51 (by decide) (fun q1 => ?_) (fun q1 => ?_)
  · replace h := (if_pos q1).symm.trans h
    refine i_mask (L1 := [none, none, some (.int s.1), none, none, none, none, none, none, none, none, none, none, none, none, none, none, none]) S [false, false, true, false, false, false, false, false, false, false, false, false, false, false, false, false, false, false] rfl ?_
    have hz := hE _ (Option.some.inj h).symm
    exact hz
  · replace h := (if_neg q1).symm.trans h
    refine i_aload_n S dX0_spiteful_54 rfl ?_
    obtain ⟨hL2, h⟩ := onLn h
    refine i_getR S fl_X0_19 (k41 hL2) (r41_0 hL2) rfl dX0_spiteful_55 ?_
    refine i_getIv (v := gI s.2.2.2 1 5) S fl_X0_31 (k1 hL2) rfl rfl dX0_spiteful_58 ?_
    refine i_iload S dX0_spiteful_61 rfl ?_
    refine i_callSN (As := [.int (gI s.2.2.2 1 5), .int s.2.2.1]) (st1 := [.int (f_X11_contains (gI s.2.2.2 1 5) s.2.2.1)]) S (c_X11_contains g (d + 4) rfl) mw_X11_contains lk_X0_47 im_X11_contains dX0_spiteful_63 rfl rfl (Nat.le_of_ble_eq_true rfl) rfl ?_
    obtain ⟨p4, e4, h⟩ := bn h
    have hj4 : ∀ q4, p4 = q4 → V 152 [some (rf g 41), some (.int x1), some (.int q4.1), some (.long q4.2.1), none, none, some (.long x6), none, some (.long x8), none, some (.int s.2.2.1), none, none, none, none, none, none, none] [] q4.2.2 := by
      intro q4 hq4
      subst hq4
      refine i_iinc (L1 := [some (rf g 41), some (.int x1), some (.int p4.1), some (.long p4.2.1), none, none, some (.long x6), none, some (.long x8), none, some (.int (s.2.2.1 + (1 : Int32))), none, none, none, none, none, none, none]) S dX0_spiteful_152 rfl ic_1 (by decide) rfl ?_
      refine i_goto (tgt := 47) S dX0_spiteful_155 (by decide) ?_
      have hz := hC _ (Option.some.inj h).symm
      exact hz
    replace h := e4
    clear e4
    refine i_if_eq (tgt := 152) S dX0_spiteful_66 (by decide) (fun q3 => ?_) (fun q3 => ?_)
    · replace h := (if_pos q3).symm.trans h
      have hz := hj4 _ (Option.some.inj h).symm
      exact hz
    · replace h := (if_neg q3).symm.trans h
      refine i_aload_n S dX0_spiteful_69 rfl ?_
      refine i_getR S fl_X0_27 (k41 hL2) (r41_2 hL2) rfl dX0_spiteful_70 ?_
      refine i_aload_n S dX0_spiteful_73 rfl ?_
      refine i_getR S fl_X0_19 (k41 hL2) (r41_0 hL2) rfl dX0_spiteful_74 ?_
      refine i_getIv (v := gI s.2.2.2 1 5) S fl_X0_31 (k1 hL2) rfl rfl dX0_spiteful_77 ?_
      refine i_iload S dX0_spiteful_80 rfl ?_
      refine i_callSN (As := [.int (gI s.2.2.2 1 5), .int s.2.2.1]) (st1 := [.int (f_X11_without (gI s.2.2.2 1 5) s.2.2.1), rf g 14]) S (c_X11_without g (d + 4) rfl) mw_X11_without lk_X0_51 im_X11_without dX0_spiteful_82 rfl rfl (Nat.le_of_ble_eq_true rfl) rfl ?_
      obtain ⟨p5, e5, h⟩ := bn h
      refine i_callV (As := [.int (f_X11_without (gI s.2.2.2 1 5) s.2.2.1)]) (st1 := [rf g p5.1]) S (c_X9_speech g d hL2 e5) mw_X9_speech lk_X0_37 im_X9_speech se_X9_speech ci_9.1 ci_9.2.1 (k14 hL2) dX0_spiteful_85 rfl rfl (Nat.le_of_ble_eq_true rfl) rfl ?_
      refine i_astore (L1 := [some (rf g 41), some (.int x1), some (.int s.1), some (.long s.2.1), none, none, some (.long x6), none, some (.long x8), none, some (.int s.2.2.1), some (rf g p5.1), none, none, none, none, none, none]) S dX0_spiteful_88 (by decide) rfl ?_
      refine i_aload_n S dX0_spiteful_90 rfl ?_
      obtain ⟨hL6, h⟩ := onLn h
      refine i_getR S fl_X0_27 (k41 hL6) (r41_2 hL6) rfl dX0_spiteful_91 ?_
      refine i_aload S dX0_spiteful_94 rfl ?_
      refine i_iload_n S dX0_spiteful_96 rfl ?_
      obtain ⟨hs7, h⟩ := gd h
      obtain ⟨p8, e8, h⟩ := bn h
      refine i_callV (As := [rf g p5.1, .int x1]) (st1 := [.long p8.1]) S (c_X9_yearly g d hL6 hs7 e8) mw_X9_yearly lk_X0_43 im_X9_yearly se_X9_yearly ci_9.1 ci_9.2.1 (k14 hL6) dX0_spiteful_97 rfl rfl (Nat.le_of_ble_eq_true rfl) rfl ?_
      refine i_lload S dX0_spiteful_100 rfl ?_
      refine i_lsub S dX0_spiteful_102 ?_
      refine i_lstore (L1 := [some (rf g 41), some (.int x1), some (.int s.1), some (.long s.2.1), none, none, some (.long x6), none, some (.long x8), none, some (.int s.2.2.1), some (rf g p5.1), some (.long (p8.1 - x6)), none, none, none, none, none]) S dX0_spiteful_103 (by decide) rfl ?_
      refine i_aload_n S dX0_spiteful_105 rfl ?_
      obtain ⟨hL9, h⟩ := onLn h
      refine i_getR S fl_X0_27 (k41 hL9) (r41_2 hL9) rfl dX0_spiteful_106 ?_
      refine i_aload S dX0_spiteful_109 rfl ?_
      refine i_iconst (v := -1) S dX0_spiteful_111 ic_m1 ?_
      obtain ⟨hs10, h⟩ := gd h
      obtain ⟨p11, e11, h⟩ := bn h
      refine i_callV (As := [rf g p5.1, .int ((-1 : Int32))]) (st1 := [.long p11.1]) S (c_X9_yearly g d hL9 hs10 e11) mw_X9_yearly lk_X0_43 im_X9_yearly se_X9_yearly ci_9.1 ci_9.2.1 (k14 hL9) dX0_spiteful_112 rfl rfl (Nat.le_of_ble_eq_true rfl) rfl ?_
      refine i_lload S dX0_spiteful_115 rfl ?_
      refine i_lsub S dX0_spiteful_117 ?_
      refine i_lload S dX0_spiteful_118 rfl ?_
      refine i_lsub S dX0_spiteful_120 ?_
      refine i_lstore (L1 := [some (rf g 41), some (.int x1), some (.int s.1), some (.long s.2.1), none, none, some (.long x6), none, some (.long x8), none, some (.int s.2.2.1), some (rf g p5.1), some (.long (p8.1 - x6)), none, some (.long ((p11.1 - x8) - (p8.1 - x6))), none, none, none]) S dX0_spiteful_121 (by decide) rfl ?_
      refine i_lload S dX0_spiteful_123 rfl ?_
      refine i_ldc2 S kl_X0_55 dX0_spiteful_125 ?_
      refine i_lload S dX0_spiteful_128 rfl ?_
      refine i_lmul S dX0_spiteful_130 ?_
      refine i_lsub S dX0_spiteful_131 ?_
      refine i_lstore (L1 := [some (rf g 41), some (.int x1), some (.int s.1), some (.long s.2.1), none, none, some (.long x6), none, some (.long x8), none, some (.int s.2.2.1), some (rf g p5.1), some (.long (p8.1 - x6)), none, some (.long ((p11.1 - x8) - (p8.1 - x6))), none, some (.long (((p11.1 - x8) - (p8.1 - x6)) - ((3 : Int64) * (p8.1 - x6)))), none]) S dX0_spiteful_132 (by decide) rfl ?_
      refine i_iload_n S dX0_spiteful_134 rfl ?_
      refine i_iconst (v := -1) S dX0_spiteful_135 ic_m1 ?_
      obtain ⟨s13, e13, hm13, ho13⟩ := mgn h
      have hj13 : ∀ p13, s13 = .inl p13 → V 146 [some (rf g 41), some (.int x1), none, none, none, none, some (.long x6), none, some (.long x8), none, some (.int s.2.2.1), none, none, none, none, none, some (.long (((p11.1 - x8) - (p8.1 - x6)) - ((3 : Int64) * (p8.1 - x6)))), none] [] p11.2 := by
        intro p13 ep13
        have h := hm13 p13 ep13
        refine i_iload S dX0_spiteful_146 rfl ?_
        refine i_istore_n (L1 := [some (rf g 41), some (.int x1), some (.int s.2.2.1), none, none, none, some (.long x6), none, some (.long x8), none, some (.int s.2.2.1), none, none, none, none, none, some (.long (((p11.1 - x8) - (p8.1 - x6)) - ((3 : Int64) * (p8.1 - x6)))), none]) S dX0_spiteful_148 (by decide) rfl ?_
        refine i_lload S dX0_spiteful_149 rfl ?_
        refine i_lstore_n (L1 := [some (rf g 41), some (.int x1), some (.int s.2.2.1), some (.long (((p11.1 - x8) - (p8.1 - x6)) - ((3 : Int64) * (p8.1 - x6)))), none, none, some (.long x6), none, some (.long x8), none, some (.int s.2.2.1), none, none, none, none, none, some (.long (((p11.1 - x8) - (p8.1 - x6)) - ((3 : Int64) * (p8.1 - x6)))), none]) S dX0_spiteful_151 (by decide) rfl ?_
        refine i_mask (L1 := [some (rf g 41), some (.int x1), some (.int s.2.2.1), some (.long (((p11.1 - x8) - (p8.1 - x6)) - ((3 : Int64) * (p8.1 - x6)))), none, none, some (.long x6), none, some (.long x8), none, some (.int s.2.2.1), none, none, none, none, none, none, none]) S [true, true, true, true, false, false, true, false, true, false, true, false, false, false, false, false, false, false] rfl ?_
        have hz := hj4 _ (Option.some.inj h).symm
        exact hz
      replace h := e13
      clear e13
      refine i_icmp_eq (tgt := 146) S dX0_spiteful_136 (by decide) (fun q12 => ?_) (fun q12 => ?_)
      · replace h := (if_pos q12).symm.trans h
        refine i_mask (L1 := [some (rf g 41), some (.int x1), none, none, none, none, some (.long x6), none, some (.long x8), none, some (.int s.2.2.1), none, none, none, none, none, some (.long (((p11.1 - x8) - (p8.1 - x6)) - ((3 : Int64) * (p8.1 - x6)))), none]) S [true, true, false, false, false, false, true, false, true, false, true, false, false, false, false, false, true, false] rfl ?_
        have hz := hj13 _ (Option.some.inj h).symm
        exact hz
      · replace h := (if_neg q12).symm.trans h
        refine i_lload S dX0_spiteful_139 rfl ?_
        refine i_lload_n S dX0_spiteful_141 rfl ?_
        refine i_lc_le (tgt := 152) S dX0_spiteful_142 dX0_spiteful_143 (by decide) (fun q14 => ?_) (fun q14 => ?_)
        · replace h := (if_pos q14).symm.trans h
          replace h := ho13 _ (Option.some.inj h).symm
          refine i_mask (L1 := [some (rf g 41), some (.int x1), some (.int s.1), some (.long s.2.1), none, none, some (.long x6), none, some (.long x8), none, some (.int s.2.2.1), none, none, none, none, none, none, none]) S [true, true, true, true, false, false, true, false, true, false, true, false, false, false, false, false, false, false] rfl ?_
          have hz := hj4 _ (Option.some.inj h).symm
          exact hz
        · replace h := (if_neg q14).symm.trans h
          refine i_mask (L1 := [some (rf g 41), some (.int x1), none, none, none, none, some (.long x6), none, some (.long x8), none, some (.int s.2.2.1), none, none, none, none, none, some (.long (((p11.1 - x8) - (p8.1 - x6)) - ((3 : Int64) * (p8.1 - x6)))), none]) S [true, true, false, false, false, false, true, false, true, false, true, false, false, false, false, false, true, false] rfl ?_
          have hz := hj13 _ (Option.some.inj h).symm
          exact hz
set_option maxHeartbeats 4000000 in
set_option maxRecDepth 100000 in
theorem c_X0_spiteful (g : Gx) (d : Nat) {x1 : Int32} {w : Mm} {p : (Int32 × Mm)} (hL : Lay w) (h : f_X0_spiteful x1 w = some p) : Call g (d + 6) yX0_spiteful cX0_spiteful 18 (some .int) [rf g 41, .int x1] w (some (.int p.1)) p.2 := by
  refine call_of (L0 := [some (rf g 41), some (.int x1), none, none, none, none, none, none, none, none, none, none, none, none, none, none, none, none]) (by decide) rfl (Nat.le_of_ble_eq_true rfl) (fun V S0 => ?_)
  have S := S0.b
  unfold f_X0_spiteful at h
  refine i_iconst (v := -1) S dX0_spiteful_0 ic_m1 ?_
  refine i_istore_n (L1 := [some (rf g 41), some (.int x1), some (.int ((-1 : Int32))), none, none, none, none, none, none, none, none, none, none, none, none, none, none, none]) S dX0_spiteful_1 (by decide) rfl ?_
  refine i_lconst (v := 0) S dX0_spiteful_2 lc_0 ?_
  refine i_lstore_n (L1 := [some (rf g 41), some (.int x1), some (.int ((-1 : Int32))), some (.long ((0 : Int64))), none, none, none, none, none, none, none, none, none, none, none, none, none, none]) S dX0_spiteful_3 (by decide) rfl ?_
  refine i_aload_n S dX0_spiteful_4 rfl ?_
  refine i_getR S fl_X0_27 (k41 hL) (r41_2 hL) rfl dX0_spiteful_5 ?_
  refine i_aload_n S dX0_spiteful_8 rfl ?_
  refine i_getR S fl_X0_19 (k41 hL) (r41_0 hL) rfl dX0_spiteful_9 ?_
  refine i_getIv (v := gI w 1 5) S fl_X0_31 (k1 hL) rfl rfl dX0_spiteful_12 ?_
  obtain ⟨p1, e1, h⟩ := bn h
  refine i_callV (As := [.int (gI w 1 5)]) (st1 := [rf g p1.1]) S (c_X9_speech g d hL e1) mw_X9_speech lk_X0_37 im_X9_speech se_X9_speech ci_9.1 ci_9.2.1 (k14 hL) dX0_spiteful_15 rfl rfl (Nat.le_of_ble_eq_true rfl) rfl ?_
  refine i_astore (L1 := [some (rf g 41), some (.int x1), some (.int ((-1 : Int32))), some (.long ((0 : Int64))), none, some (rf g p1.1), none, none, none, none, none, none, none, none, none, none, none, none]) S dX0_spiteful_18 (by decide) rfl ?_
  refine i_aload_n S dX0_spiteful_20 rfl ?_
  obtain ⟨hL2, h⟩ := onLn h
  refine i_getR S fl_X0_27 (k41 hL2) (r41_2 hL2) rfl dX0_spiteful_21 ?_
  refine i_aload S dX0_spiteful_24 rfl ?_
  refine i_iload_n S dX0_spiteful_26 rfl ?_
  obtain ⟨hs3, h⟩ := gd h
  obtain ⟨p4, e4, h⟩ := bn h
  refine i_callV (As := [rf g p1.1, .int x1]) (st1 := [.long p4.1]) S (c_X9_yearly g d hL2 hs3 e4) mw_X9_yearly lk_X0_43 im_X9_yearly se_X9_yearly ci_9.1 ci_9.2.1 (k14 hL2) dX0_spiteful_27 rfl rfl (Nat.le_of_ble_eq_true rfl) rfl ?_
  refine i_lstore (L1 := [some (rf g 41), some (.int x1), some (.int ((-1 : Int32))), some (.long ((0 : Int64))), none, some (rf g p1.1), some (.long p4.1), none, none, none, none, none, none, none, none, none, none, none]) S dX0_spiteful_30 (by decide) rfl ?_
  refine i_aload_n S dX0_spiteful_32 rfl ?_
  obtain ⟨hL5, h⟩ := onLn h
  refine i_getR S fl_X0_27 (k41 hL5) (r41_2 hL5) rfl dX0_spiteful_33 ?_
  refine i_aload S dX0_spiteful_36 rfl ?_
  refine i_iconst (v := -1) S dX0_spiteful_38 ic_m1 ?_
  obtain ⟨hs6, h⟩ := gd h
  obtain ⟨p7, e7, h⟩ := bn h
  refine i_callV (As := [rf g p1.1, .int ((-1 : Int32))]) (st1 := [.long p7.1]) S (c_X9_yearly g d hL5 hs6 e7) mw_X9_yearly lk_X0_43 im_X9_yearly se_X9_yearly ci_9.1 ci_9.2.1 (k14 hL5) dX0_spiteful_39 rfl rfl (Nat.le_of_ble_eq_true rfl) rfl ?_
  refine i_lstore (L1 := [some (rf g 41), some (.int x1), some (.int ((-1 : Int32))), some (.long ((0 : Int64))), none, some (rf g p1.1), some (.long p4.1), none, some (.long p7.1), none, none, none, none, none, none, none, none, none]) S dX0_spiteful_42 (by decide) rfl ?_
  refine i_iconst (v := 0) S dX0_spiteful_44 ic_0 ?_
  refine i_istore (L1 := [some (rf g 41), some (.int x1), some (.int ((-1 : Int32))), some (.long ((0 : Int64))), none, some (rf g p1.1), some (.long p4.1), none, some (.long p7.1), none, some (.int ((0 : Int32))), none, none, none, none, none, none, none]) S dX0_spiteful_45 (by decide) rfl ?_
  refine i_mask (L1 := [some (rf g 41), some (.int x1), some (.int ((-1 : Int32))), some (.long ((0 : Int64))), none, none, some (.long p4.1), none, some (.long p7.1), none, some (.int ((0 : Int32))), none, none, none, none, none, none, none]) S [true, true, true, true, false, false, true, false, true, false, true, false, false, false, false, false, false, false] rfl ?_
  obtain ⟨p8, e8, h⟩ := bn h
  have hE8 : V 158 [none, none, some (.int p8.1), none, none, none, none, none, none, none, none, none, none, none, none, none, none, none] [] p8.2 := by
    refine i_iload_n S dX0_spiteful_158 rfl ?_
    cases h
    exact i_iret S0 rfl dX0_spiteful_159
  exact wh_V (P := fun sv8 => V 47 [some (rf g 41), some (.int x1), some (.int sv8.1), some (.long sv8.2.1), none, none, some (.long p4.1), none, some (.long p7.1), none, some (.int sv8.2.2.1), none, none, none, none, none, none, none] [] sv8.2.2.2) (E := fun xv8 => V 158 [none, none, some (.int xv8.1), none, none, none, none, none, none, none, none, none, none, none, none, none, none, none] [] xv8.2) (fun sv8 ev hb hc he => t_l_X0_spiteful_47   S  sv8 ev hb hc he) FUEL _ _ e8 hE8
/-! WordYear$Ballot.placeOf -/
noncomputable def f_X0_placeOf (x1 : Int32) (x2 : Int32) (w : Mm) : Option Int32 := if (((10 : Int32) * x1) + x2) < 0 then (some (0 : Int32)) else (if (40 : Int32) ≤ (((10 : Int32) * x1) + x2) then (some (0 : Int32)) else (if inb (((10 : Int32) * x1) + x2) 40 = true then (some (gI w 43 (ix (((10 : Int32) * x1) + x2)))) else none))
set_option maxHeartbeats 4000000 in
set_option maxRecDepth 100000 in
theorem c_X0_placeOf (g : Gx) (d : Nat) {x1 : Int32} {x2 : Int32} {w : Mm} {p : Int32} (hL : Lay w) (h : f_X0_placeOf x1 x2 w = some p) : Call g (d + 1) yX0_placeOf cX0_placeOf 4 (some .int) [rf g 41, .int x1, .int x2] w (some (.int p)) w := by
  refine call_of (L0 := [some (rf g 41), some (.int x1), some (.int x2), none]) (by decide) rfl (Nat.le_of_ble_eq_true rfl) (fun V S0 => ?_)
  have S := S0.b
  unfold f_X0_placeOf at h
  refine i_bipush (v := 10) S dX0_placeOf_0 bp_10 ?_
  refine i_iload_n S dX0_placeOf_2 rfl ?_
  refine i_imul S dX0_placeOf_3 ?_
  refine i_iload_n S dX0_placeOf_4 rfl ?_
  refine i_iadd S dX0_placeOf_5 ?_
  refine i_istore_n (L1 := [some (rf g 41), some (.int x1), some (.int x2), some (.int (((10 : Int32) * x1) + x2))]) S dX0_placeOf_6 (by decide) rfl ?_
  refine i_iload_n S dX0_placeOf_7 rfl ?_
  refine i_if_lt (tgt := 26) S dX0_placeOf_8 (by decide) (fun q1 => ?_) (fun q1 => ?_)
  · replace h := (if_pos q1).symm.trans h
    refine i_iconst (v := 0) S dX0_placeOf_26 ic_0 ?_
    cases h
    exact i_iret S0 rfl dX0_placeOf_27
  · replace h := (if_neg q1).symm.trans h
    refine i_iload_n S dX0_placeOf_11 rfl ?_
    refine i_bipush (v := 40) S dX0_placeOf_12 bp_40 ?_
    refine i_icmp_ge (tgt := 26) S dX0_placeOf_14 (by decide) (fun q2 => ?_) (fun q2 => ?_)
    · replace h := (if_pos q2).symm.trans h
      refine i_iconst (v := 0) S dX0_placeOf_26 ic_0 ?_
      cases h
      exact i_iret S0 rfl dX0_placeOf_27
    · replace h := (if_neg q2).symm.trans h
      refine i_aload_n S dX0_placeOf_17 rfl ?_
      refine i_getR S fl_X0_15 (k41 hL) (r41_4 hL) rfl dX0_placeOf_18 ?_
      refine i_iload_n S dX0_placeOf_21 rfl ?_
      obtain ⟨hi4, h⟩ := gd h
      refine i_ialdv (v := gI w 43 (ix (((10 : Int32) * x1) + x2))) S (k43 hL) hi4 rfl dX0_placeOf_22 ?_
      refine i_goto (tgt := 27) S dX0_placeOf_23 (by decide) ?_
      cases h
      exact i_iret S0 rfl dX0_placeOf_27
/-! WordYear$Ballot.votersFor -/
noncomputable def l_X0_votersFor_5 (x1 : Int32) (x2 : Int32) (w : Mm) (s : Int32 × Int32) : Option ((Int32 × Int32) ⊕ (Int32)) := if (4 : Int32) ≤ s.2 then (some (.inr s.1)) else (Option.bind (f_X0_placeOf s.2 x1 w) (fun p2 => Option.bind (f_X0_placeOf s.2 x2 w) (fun p3 => Option.bind (if p3 ≤ p2 then (some (0 : Int32)) else (if inb s.2 4 = true then (some (gI w 7 (ix s.2))) else none)) (fun p5 => some (.inl (s.1 + p5, s.2 + (1 : Int32)))))))
noncomputable def f_X0_votersFor (x1 : Int32) (x2 : Int32) (w : Mm) : Option Int32 := Option.bind (wh (l_X0_votersFor_5 x1 x2 w) FUEL ((0 : Int32), (0 : Int32))) (fun p1 => some p1)
set_option maxHeartbeats 4000000 in
set_option maxRecDepth 100000 in
theorem t_l_X0_votersFor_5 {g : Gx} {V : Vt} {d : Nat} (S : MachB g yX0_votersFor cX0_votersFor 5 (d + 1) V) {x1 : Int32} {x2 : Int32} {w : Mm} (hL : Lay w) (s : Int32 × Int32) (e : (Int32 × Int32) ⊕ (Int32)) (h : l_X0_votersFor_5 x1 x2 w s = some e) (hC : ∀ s2, e = .inl s2 → V 5 [some (rf g 41), some (.int x1), some (.int x2), some (.int s2.1), some (.int s2.2)] [] w) (hE : ∀ x, e = .inr x → V 51 [none, none, none, some (.int x), none] [] w) : V 5 [some (rf g 41), some (.int x1), some (.int x2), some (.int s.1), some (.int s.2)] [] w := by
  unfold l_X0_votersFor_5 at h
  refine i_iload S dX0_votersFor_5 rfl ?_
  refine i_iconst (v := 4) S dX0_votersFor_7 ic_4 ?_
  refine i_icmp_ge (tgt := 51) S dX0_votersFor_8 (by decide) (fun q1 => ?_) (fun q1 => ?_)
  · replace h := (if_pos q1).symm.trans h
    refine i_mask (L1 := [none, none, none, some (.int s.1), none]) S [false, false, false, true, false] rfl ?_
    have hz := hE _ (Option.some.inj h).symm
    exact hz
  · replace h := (if_neg q1).symm.trans h
    refine i_iload_n S dX0_votersFor_11 rfl ?_
    refine i_aload_n S dX0_votersFor_12 rfl ?_
    refine i_iload S dX0_votersFor_13 rfl ?_
    refine i_iload_n S dX0_votersFor_15 rfl ?_
    obtain ⟨p2, e2, h⟩ := bn h
    refine i_callV (As := [.int s.2, .int x1]) (st1 := [.int p2, .int s.1]) S (c_X0_placeOf g d hL e2) mw_X0_placeOf lk_X0_75 im_X0_placeOf se_X0_placeOf ci_0.1 ci_0.2.1 (k41 hL) dX0_votersFor_16 rfl rfl (Nat.le_of_ble_eq_true rfl) rfl ?_
    refine i_aload_n S dX0_votersFor_19 rfl ?_
    refine i_iload S dX0_votersFor_20 rfl ?_
    refine i_iload_n S dX0_votersFor_22 rfl ?_
    obtain ⟨p3, e3, h⟩ := bn h
    refine i_callV (As := [.int s.2, .int x2]) (st1 := [.int p3, .int p2, .int s.1]) S (c_X0_placeOf g d hL e3) mw_X0_placeOf lk_X0_75 im_X0_placeOf se_X0_placeOf ci_0.1 ci_0.2.1 (k41 hL) dX0_votersFor_23 rfl rfl (Nat.le_of_ble_eq_true rfl) rfl ?_
    obtain ⟨p5, e5, h⟩ := bn h
    have hj5 : ∀ q5, p5 = q5 → V 43 [some (rf g 41), some (.int x1), some (.int x2), none, some (.int s.2)] [.int q5, .int s.1] w := by
      intro q5 hq5
      subst hq5
      refine i_iadd S dX0_votersFor_43 ?_
      refine i_istore_n (L1 := [some (rf g 41), some (.int x1), some (.int x2), some (.int (s.1 + p5)), some (.int s.2)]) S dX0_votersFor_44 (by decide) rfl ?_
      refine i_iinc (L1 := [some (rf g 41), some (.int x1), some (.int x2), some (.int (s.1 + p5)), some (.int (s.2 + (1 : Int32)))]) S dX0_votersFor_45 rfl ic_1 (by decide) rfl ?_
      refine i_goto (tgt := 5) S dX0_votersFor_48 (by decide) ?_
      have hz := hC _ (Option.some.inj h).symm
      exact hz
    replace h := e5
    clear e5
    refine i_icmp_ge (tgt := 42) S dX0_votersFor_26 (by decide) (fun q4 => ?_) (fun q4 => ?_)
    · replace h := (if_pos q4).symm.trans h
      refine i_iconst (v := 0) S dX0_votersFor_42 ic_0 ?_
      refine i_mask (L1 := [some (rf g 41), some (.int x1), some (.int x2), none, some (.int s.2)]) S [true, true, true, false, true] rfl ?_
      have hz := hj5 _ (Option.some.inj h).symm
      exact hz
    · replace h := (if_neg q4).symm.trans h
      refine i_aload_n S dX0_votersFor_29 rfl ?_
      refine i_getR S fl_X0_23 (k41 hL) (r41_1 hL) rfl dX0_votersFor_30 ?_
      refine i_getR S fl_X0_78 (k6 hL) (r6_0 hL) rfl dX0_votersFor_33 ?_
      refine i_iload S dX0_votersFor_36 rfl ?_
      obtain ⟨hi7, h⟩ := gd h
      refine i_ialdv (v := gI w 7 (ix s.2)) S (k7 hL) hi7 rfl dX0_votersFor_38 ?_
      refine i_goto (tgt := 43) S dX0_votersFor_39 (by decide) ?_
      refine i_mask (L1 := [some (rf g 41), some (.int x1), some (.int x2), none, some (.int s.2)]) S [true, true, true, false, true] rfl ?_
      have hz := hj5 _ (Option.some.inj h).symm
      exact hz
set_option maxHeartbeats 4000000 in
set_option maxRecDepth 100000 in
theorem c_X0_votersFor (g : Gx) (d : Nat) {x1 : Int32} {x2 : Int32} {w : Mm} {p : Int32} (hL : Lay w) (h : f_X0_votersFor x1 x2 w = some p) : Call g (d + 2) yX0_votersFor cX0_votersFor 5 (some .int) [rf g 41, .int x1, .int x2] w (some (.int p)) w := by
  refine call_of (L0 := [some (rf g 41), some (.int x1), some (.int x2), none, none]) (by decide) rfl (Nat.le_of_ble_eq_true rfl) (fun V S0 => ?_)
  have S := S0.b
  unfold f_X0_votersFor at h
  refine i_iconst (v := 0) S dX0_votersFor_0 ic_0 ?_
  refine i_istore_n (L1 := [some (rf g 41), some (.int x1), some (.int x2), some (.int ((0 : Int32))), none]) S dX0_votersFor_1 (by decide) rfl ?_
  refine i_iconst (v := 0) S dX0_votersFor_2 ic_0 ?_
  refine i_istore (L1 := [some (rf g 41), some (.int x1), some (.int x2), some (.int ((0 : Int32))), some (.int ((0 : Int32)))]) S dX0_votersFor_3 (by decide) rfl ?_
  obtain ⟨p1, e1, h⟩ := bn h
  have hE1 : V 51 [none, none, none, some (.int p1), none] [] w := by
    refine i_iload_n S dX0_votersFor_51 rfl ?_
    cases h
    exact i_iret S0 rfl dX0_votersFor_52
  exact wh_V (P := fun sv1 => V 5 [some (rf g 41), some (.int x1), some (.int x2), some (.int sv1.1), some (.int sv1.2)] [] w) (E := fun xv1 => V 51 [none, none, none, some (.int xv1), none] [] w) (fun sv1 ev hb hc he => t_l_X0_votersFor_5 (w := w)  S hL sv1 ev hb hc he) FUEL _ _ e1 hE1
/-! WordYear$Demand.voters -/
noncomputable def l_X1_voters_4 (w : Mm) (s : Int32 × Int32) : Option ((Int32 × Int32) ⊕ (Int32)) := if (4 : Int32) ≤ s.2 then (some (.inr s.1)) else (if inb s.2 4 = true then (some (.inl (s.1 + (gI w 7 (ix s.2)), s.2 + (1 : Int32)))) else none)
noncomputable def f_X1_voters  (w : Mm) : Option Int32 := Option.bind (wh (l_X1_voters_4 w) FUEL ((0 : Int32), (0 : Int32))) (fun p1 => some p1)
set_option maxHeartbeats 4000000 in
set_option maxRecDepth 100000 in
theorem t_l_X1_voters_4 {g : Gx} {V : Vt} {d : Nat} (S : MachB g yX1_voters cX1_voters 3 (d) V) {w : Mm} (hL : Lay w) (s : Int32 × Int32) (e : (Int32 × Int32) ⊕ (Int32)) (h : l_X1_voters_4 w s = some e) (hC : ∀ s2, e = .inl s2 → V 4 [some (rf g 6), some (.int s2.1), some (.int s2.2)] [] w) (hE : ∀ x, e = .inr x → V 24 [none, some (.int x), none] [] w) : V 4 [some (rf g 6), some (.int s.1), some (.int s.2)] [] w := by
  unfold l_X1_voters_4 at h
  refine i_iload_n S dX1_voters_4 rfl ?_
  refine i_iconst (v := 4) S dX1_voters_5 ic_4 ?_
  refine i_icmp_ge (tgt := 24) S dX1_voters_6 (by decide) (fun q1 => ?_) (fun q1 => ?_)
  · replace h := (if_pos q1).symm.trans h
    refine i_mask (L1 := [none, some (.int s.1), none]) S [false, true, false] rfl ?_
    have hz := hE _ (Option.some.inj h).symm
    exact hz
  · replace h := (if_neg q1).symm.trans h
    refine i_iload_n S dX1_voters_9 rfl ?_
    refine i_aload_n S dX1_voters_10 rfl ?_
    refine i_getR S fl_X1_9 (k6 hL) (r6_0 hL) rfl dX1_voters_11 ?_
    refine i_iload_n S dX1_voters_14 rfl ?_
    obtain ⟨hi3, h⟩ := gd h
    refine i_ialdv (v := gI w 7 (ix s.2)) S (k7 hL) hi3 rfl dX1_voters_15 ?_
    refine i_iadd S dX1_voters_16 ?_
    refine i_istore_n (L1 := [some (rf g 6), some (.int (s.1 + (gI w 7 (ix s.2)))), some (.int s.2)]) S dX1_voters_17 (by decide) rfl ?_
    refine i_iinc (L1 := [some (rf g 6), some (.int (s.1 + (gI w 7 (ix s.2)))), some (.int (s.2 + (1 : Int32)))]) S dX1_voters_18 rfl ic_1 (by decide) rfl ?_
    refine i_goto (tgt := 4) S dX1_voters_21 (by decide) ?_
    have hz := hC _ (Option.some.inj h).symm
    exact hz
set_option maxHeartbeats 4000000 in
set_option maxRecDepth 100000 in
theorem c_X1_voters (g : Gx) (d : Nat)  {w : Mm} {p : Int32} (hL : Lay w) (h : f_X1_voters w = some p) : Call g (d + 1) yX1_voters cX1_voters 3 (some .int) [rf g 6] w (some (.int p)) w := by
  refine call_of (L0 := [some (rf g 6), none, none]) (by decide) rfl (Nat.le_of_ble_eq_true rfl) (fun V S0 => ?_)
  have S := S0.b
  unfold f_X1_voters at h
  refine i_iconst (v := 0) S dX1_voters_0 ic_0 ?_
  refine i_istore_n (L1 := [some (rf g 6), some (.int ((0 : Int32))), none]) S dX1_voters_1 (by decide) rfl ?_
  refine i_iconst (v := 0) S dX1_voters_2 ic_0 ?_
  refine i_istore_n (L1 := [some (rf g 6), some (.int ((0 : Int32))), some (.int ((0 : Int32)))]) S dX1_voters_3 (by decide) rfl ?_
  obtain ⟨p1, e1, h⟩ := bn h
  have hE1 : V 24 [none, some (.int p1), none] [] w := by
    refine i_iload_n S dX1_voters_24 rfl ?_
    cases h
    exact i_iret S0 rfl dX1_voters_25
  exact wh_V (P := fun sv1 => V 4 [some (rf g 6), some (.int sv1.1), some (.int sv1.2)] [] w) (E := fun xv1 => V 24 [none, some (.int xv1), none] [] w) (fun sv1 ev hb hc he => t_l_X1_voters_4 (w := w)  S hL sv1 ev hb hc he) FUEL _ _ e1 hE1
/-! WordYear$Ballot.aheadOfAll -/
noncomputable def l_X0_aheadOfAll_31 (x1 : Int32) (x2 : Int32) (w : Mm) (s : Int32 × Int32) : Option ((Int32 × Int32) ⊕ (Int32)) := if (10 : Int32) ≤ s.2 then (some (.inr s.1)) else (if s.1 = 0 then (some (.inr s.1)) else (Option.bind (if s.2 = x2 then (some s.1) else (if (f_X11_contains (gI w 1 5) s.2) = 0 then (some s.1) else (Option.bind (f_X0_votersFor x2 s.2 w) (fun p6 => Option.bind (if ((2 : Int32) * p6) ≤ x1 then (some (0 : Int32)) else (some (1 : Int32))) (fun p8 => some p8))))) (fun p4 => some (.inl (p4, s.2 + (1 : Int32))))))
noncomputable def l_X0_aheadOfAll_10 (x1 : Int32) (w : Mm) (s : Int32) : Option ((Int32) ⊕ (Nat × Int32)) := if (10 : Int32) ≤ s then (some (.inr (0, 0))) else (Option.bind (wh (l_X0_aheadOfAll_31 x1 s w) FUEL (f_X11_contains (gI w 1 5) s, (0 : Int32))) (fun p2 => if p2 = 0 then (some (.inl (s + (1 : Int32)))) else (some (.inr (1, s)))))
noncomputable def f_X0_aheadOfAll  (w : Mm) : Option Int32 := Option.bind (f_X1_voters w) (fun p1 => Option.bind (wh (l_X0_aheadOfAll_10 p1 w) FUEL (0 : Int32)) (fun p2 => if p2.1 = 0 then (some (-1 : Int32)) else (some p2.2)))
set_option maxHeartbeats 4000000 in
set_option maxRecDepth 100000 in
theorem t_l_X0_aheadOfAll_31 {g : Gx} {V : Vt} {d : Nat} (S : MachB g yX0_aheadOfAll cX0_aheadOfAll 5 (d + 2) V) {x1 : Int32} {x2 : Int32} {w : Mm} (hL : Lay w) (s : Int32 × Int32) (e : (Int32 × Int32) ⊕ (Int32)) (h : l_X0_aheadOfAll_31 x1 x2 w s = some e) (hC : ∀ s2, e = .inl s2 → V 31 [some (rf g 41), some (.int x1), some (.int x2), some (.int s2.1), some (.int s2.2)] [] w) (hE : ∀ x, e = .inr x → V 88 [some (rf g 41), some (.int x1), some (.int x2), some (.int x), none] [] w) : V 31 [some (rf g 41), some (.int x1), some (.int x2), some (.int s.1), some (.int s.2)] [] w := by
  unfold l_X0_aheadOfAll_31 at h
  refine i_iload S dX0_aheadOfAll_31 rfl ?_
  refine i_bipush (v := 10) S dX0_aheadOfAll_33 bp_10 ?_
  refine i_icmp_ge (tgt := 88) S dX0_aheadOfAll_35 (by decide) (fun q1 => ?_) (fun q1 => ?_)
  · replace h := (if_pos q1).symm.trans h
    refine i_mask (L1 := [some (rf g 41), some (.int x1), some (.int x2), some (.int s.1), none]) S [true, true, true, true, false] rfl ?_
    have hz := hE _ (Option.some.inj h).symm
    exact hz
  · replace h := (if_neg q1).symm.trans h
    refine i_iload_n S dX0_aheadOfAll_38 rfl ?_
    refine i_if_eq (tgt := 88) S dX0_aheadOfAll_39 (by decide) (fun q2 => ?_) (fun q2 => ?_)
    · replace h := (if_pos q2).symm.trans h
      refine i_mask (L1 := [some (rf g 41), some (.int x1), some (.int x2), some (.int s.1), none]) S [true, true, true, true, false] rfl ?_
      have hz := hE _ (Option.some.inj h).symm
      exact hz
    · replace h := (if_neg q2).symm.trans h
      refine i_iload S dX0_aheadOfAll_42 rfl ?_
      refine i_iload_n S dX0_aheadOfAll_44 rfl ?_
      obtain ⟨p4, e4, h⟩ := bn h
      have hj4 : ∀ q4, p4 = q4 → V 82 [some (rf g 41), some (.int x1), some (.int x2), some (.int q4), some (.int s.2)] [] w := by
        intro q4 hq4
        subst hq4
        refine i_iinc (L1 := [some (rf g 41), some (.int x1), some (.int x2), some (.int p4), some (.int (s.2 + (1 : Int32)))]) S dX0_aheadOfAll_82 rfl ic_1 (by decide) rfl ?_
        refine i_goto (tgt := 31) S dX0_aheadOfAll_85 (by decide) ?_
        have hz := hC _ (Option.some.inj h).symm
        exact hz
      replace h := e4
      clear e4
      refine i_icmp_eq (tgt := 82) S dX0_aheadOfAll_45 (by decide) (fun q3 => ?_) (fun q3 => ?_)
      · replace h := (if_pos q3).symm.trans h
        have hz := hj4 _ (Option.some.inj h).symm
        exact hz
      · replace h := (if_neg q3).symm.trans h
        refine i_aload_n S dX0_aheadOfAll_48 rfl ?_
        refine i_getR S fl_X0_19 (k41 hL) (r41_0 hL) rfl dX0_aheadOfAll_49 ?_
        refine i_getIv (v := gI w 1 5) S fl_X0_31 (k1 hL) rfl rfl dX0_aheadOfAll_52 ?_
        refine i_iload S dX0_aheadOfAll_55 rfl ?_
        refine i_callSN (As := [.int (gI w 1 5), .int s.2]) (st1 := [.int (f_X11_contains (gI w 1 5) s.2)]) S (c_X11_contains g (d + 1) rfl) mw_X11_contains lk_X0_47 im_X11_contains dX0_aheadOfAll_57 rfl rfl (Nat.le_of_ble_eq_true rfl) rfl ?_
        refine i_if_eq (tgt := 82) S dX0_aheadOfAll_60 (by decide) (fun q5 => ?_) (fun q5 => ?_)
        · replace h := (if_pos q5).symm.trans h
          have hz := hj4 _ (Option.some.inj h).symm
          exact hz
        · replace h := (if_neg q5).symm.trans h
          refine i_iconst (v := 2) S dX0_aheadOfAll_63 ic_2 ?_
          refine i_aload_n S dX0_aheadOfAll_64 rfl ?_
          refine i_iload_n S dX0_aheadOfAll_65 rfl ?_
          refine i_iload S dX0_aheadOfAll_66 rfl ?_
          obtain ⟨p6, e6, h⟩ := bn h
          refine i_callV (As := [.int x2, .int s.2]) (st1 := [.int p6, .int ((2 : Int32))]) S (c_X0_votersFor g d hL e6) mw_X0_votersFor lk_X0_83 im_X0_votersFor se_X0_votersFor ci_0.1 ci_0.2.1 (k41 hL) dX0_aheadOfAll_68 rfl rfl (Nat.le_of_ble_eq_true rfl) rfl ?_
          refine i_imul S dX0_aheadOfAll_71 ?_
          refine i_iload_n S dX0_aheadOfAll_72 rfl ?_
          obtain ⟨p8, e8, h⟩ := bn h
          have hj8 : ∀ q8, p8 = q8 → V 81 [some (rf g 41), some (.int x1), some (.int x2), none, some (.int s.2)] [.int q8] w := by
            intro q8 hq8
            subst hq8
            refine i_istore_n (L1 := [some (rf g 41), some (.int x1), some (.int x2), some (.int p8), some (.int s.2)]) S dX0_aheadOfAll_81 (by decide) rfl ?_
            have hz := hj4 _ (Option.some.inj h).symm
            exact hz
          replace h := e8
          clear e8
          refine i_icmp_le (tgt := 80) S dX0_aheadOfAll_73 (by decide) (fun q7 => ?_) (fun q7 => ?_)
          · replace h := (if_pos q7).symm.trans h
            refine i_iconst (v := 0) S dX0_aheadOfAll_80 ic_0 ?_
            refine i_mask (L1 := [some (rf g 41), some (.int x1), some (.int x2), none, some (.int s.2)]) S [true, true, true, false, true] rfl ?_
            have hz := hj8 _ (Option.some.inj h).symm
            exact hz
          · replace h := (if_neg q7).symm.trans h
            refine i_iconst (v := 1) S dX0_aheadOfAll_76 ic_1 ?_
            refine i_goto (tgt := 81) S dX0_aheadOfAll_77 (by decide) ?_
            refine i_mask (L1 := [some (rf g 41), some (.int x1), some (.int x2), none, some (.int s.2)]) S [true, true, true, false, true] rfl ?_
            have hz := hj8 _ (Option.some.inj h).symm
            exact hz
set_option maxHeartbeats 4000000 in
set_option maxRecDepth 100000 in
theorem t_l_X0_aheadOfAll_10 {g : Gx} {V : Vt} {d : Nat} (S : MachB g yX0_aheadOfAll cX0_aheadOfAll 5 (d + 2) V) {x1 : Int32} {w : Mm} (hL : Lay w) (s : Int32) (e : (Int32) ⊕ (Nat × Int32)) (h : l_X0_aheadOfAll_10 x1 w s = some e) (hC : ∀ s2, e = .inl s2 → V 10 [some (rf g 41), some (.int x1), some (.int s2), none, none] [] w) (hE : ∀ x, e = .inr x → if x.1 = 0 then V 100 [none, none, none, none, none] [] w else (V 92 [none, none, some (.int x.2), none, none] [] w)) : V 10 [some (rf g 41), some (.int x1), some (.int s), none, none] [] w := by
  unfold l_X0_aheadOfAll_10 at h
  refine i_iload_n S dX0_aheadOfAll_10 rfl ?_
  refine i_bipush (v := 10) S dX0_aheadOfAll_11 bp_10 ?_
  refine i_icmp_ge (tgt := 100) S dX0_aheadOfAll_13 (by decide) (fun q1 => ?_) (fun q1 => ?_)
  · replace h := (if_pos q1).symm.trans h
    refine i_mask (L1 := [none, none, none, none, none]) S [false, false, false, false, false] rfl ?_
    have hz := hE _ (Option.some.inj h).symm
    exact hz
  · replace h := (if_neg q1).symm.trans h
    refine i_aload_n S dX0_aheadOfAll_16 rfl ?_
    refine i_getR S fl_X0_19 (k41 hL) (r41_0 hL) rfl dX0_aheadOfAll_17 ?_
    refine i_getIv (v := gI w 1 5) S fl_X0_31 (k1 hL) rfl rfl dX0_aheadOfAll_20 ?_
    refine i_iload_n S dX0_aheadOfAll_23 rfl ?_
    refine i_callSN (As := [.int (gI w 1 5), .int s]) (st1 := [.int (f_X11_contains (gI w 1 5) s)]) S (c_X11_contains g (d + 1) rfl) mw_X11_contains lk_X0_47 im_X11_contains dX0_aheadOfAll_24 rfl rfl (Nat.le_of_ble_eq_true rfl) rfl ?_
    refine i_istore_n (L1 := [some (rf g 41), some (.int x1), some (.int s), some (.int (f_X11_contains (gI w 1 5) s)), none]) S dX0_aheadOfAll_27 (by decide) rfl ?_
    refine i_iconst (v := 0) S dX0_aheadOfAll_28 ic_0 ?_
    refine i_istore (L1 := [some (rf g 41), some (.int x1), some (.int s), some (.int (f_X11_contains (gI w 1 5) s)), some (.int ((0 : Int32)))]) S dX0_aheadOfAll_29 (by decide) rfl ?_
    obtain ⟨p2, e2, h⟩ := bn h
    have hE2 : V 88 [some (rf g 41), some (.int x1), some (.int s), some (.int p2), none] [] w := by
      refine i_iload_n S dX0_aheadOfAll_88 rfl ?_
      refine i_if_eq (tgt := 94) S dX0_aheadOfAll_89 (by decide) (fun q3 => ?_) (fun q3 => ?_)
      · replace h := (if_pos q3).symm.trans h
        refine i_iinc (L1 := [some (rf g 41), some (.int x1), some (.int (s + (1 : Int32))), some (.int p2), none]) S dX0_aheadOfAll_94 rfl ic_1 (by decide) rfl ?_
        refine i_goto (tgt := 10) S dX0_aheadOfAll_97 (by decide) ?_
        refine i_mask (L1 := [some (rf g 41), some (.int x1), some (.int (s + (1 : Int32))), none, none]) S [true, true, true, false, false] rfl ?_
        have hz := hC _ (Option.some.inj h).symm
        exact hz
      · replace h := (if_neg q3).symm.trans h
        refine i_mask (L1 := [none, none, some (.int s), none, none]) S [false, false, true, false, false] rfl ?_
        have hz := hE _ (Option.some.inj h).symm
        exact hz
    exact wh_V (P := fun sv2 => V 31 [some (rf g 41), some (.int x1), some (.int s), some (.int sv2.1), some (.int sv2.2)] [] w) (E := fun xv2 => V 88 [some (rf g 41), some (.int x1), some (.int s), some (.int xv2), none] [] w) (fun sv2 ev hb hc he => t_l_X0_aheadOfAll_31 (w := w)  S hL sv2 ev hb hc he) FUEL _ _ e2 hE2
set_option maxHeartbeats 4000000 in
set_option maxRecDepth 100000 in
theorem c_X0_aheadOfAll (g : Gx) (d : Nat)  {w : Mm} {p : Int32} (hL : Lay w) (h : f_X0_aheadOfAll w = some p) : Call g (d + 3) yX0_aheadOfAll cX0_aheadOfAll 5 (some .int) [rf g 41] w (some (.int p)) w := by
  refine call_of (L0 := [some (rf g 41), none, none, none, none]) (by decide) rfl (Nat.le_of_ble_eq_true rfl) (fun V S0 => ?_)
  have S := S0.b
  unfold f_X0_aheadOfAll at h
  refine i_aload_n S dX0_aheadOfAll_0 rfl ?_
  refine i_getR S fl_X0_23 (k41 hL) (r41_1 hL) rfl dX0_aheadOfAll_1 ?_
  obtain ⟨p1, e1, h⟩ := bn h
  refine i_callV (As := []) (st1 := [.int p1]) S (c_X1_voters g (d + 1) hL e1) mw_X1_voters lk_X0_91 im_X1_voters se_X1_voters ci_1.1 ci_1.2.1 (k6 hL) dX0_aheadOfAll_4 rfl rfl (Nat.le_of_ble_eq_true rfl) rfl ?_
  refine i_istore_n (L1 := [some (rf g 41), some (.int p1), none, none, none]) S dX0_aheadOfAll_7 (by decide) rfl ?_
  refine i_iconst (v := 0) S dX0_aheadOfAll_8 ic_0 ?_
  refine i_istore_n (L1 := [some (rf g 41), some (.int p1), some (.int ((0 : Int32))), none, none]) S dX0_aheadOfAll_9 (by decide) rfl ?_
  obtain ⟨p2, e2, h⟩ := bn h
  have hE2 : if p2.1 = 0 then V 100 [none, none, none, none, none] [] w else (V 92 [none, none, some (.int p2.2), none, none] [] w) := by
    by_cases hx2_0 : p2.1 = 0
    · rw [if_pos hx2_0]
      replace h := (if_pos hx2_0).symm.trans h
      refine i_iconst (v := -1) S dX0_aheadOfAll_100 ic_m1 ?_
      cases h
      exact i_iret S0 rfl dX0_aheadOfAll_101
    · rw [if_neg hx2_0]
      replace h := (if_neg hx2_0).symm.trans h
      refine i_iload_n S dX0_aheadOfAll_92 rfl ?_
      cases h
      exact i_iret S0 rfl dX0_aheadOfAll_93
  exact wh_V (P := fun sv2 => V 10 [some (rf g 41), some (.int p1), some (.int sv2), none, none] [] w) (E := fun xv2 => if xv2.1 = 0 then V 100 [none, none, none, none, none] [] w else (V 92 [none, none, some (.int xv2.2), none, none] [] w)) (fun sv2 ev hb hc he => t_l_X0_aheadOfAll_10 (w := w)  S hL sv2 ev hb hc he) FUEL _ _ e2 hE2
/-! WordYear$Ballot.firstWithMost -/
noncomputable def l_X0_firstWithMost_41 (x1 : Int32) (x2 : Int32) (x3 : Int32) (x4 : Int32) (w : Mm) (s : Int32 × Int32) : Option ((Int32 × Int32) ⊕ (Int32)) := if (4 : Int32) ≤ s.2 then (some (.inr s.1)) else (Option.bind (f_X0_placeOf s.2 x4 w) (fun p2 => Option.bind (if p2 = 0 then (if inb s.2 4 = true then (some (gI w 7 (ix s.2))) else none) else (some (0 : Int32))) (fun p4 => some (.inl (s.1 + p4, s.2 + (1 : Int32))))))
noncomputable def l_X0_firstWithMost_7 (x1 : Int32) (w : Mm) (s : Int32 × Int32 × Int32) : Option ((Int32 × Int32 × Int32) ⊕ (Int32)) := if (10 : Int32) ≤ s.2.2 then (some (.inr s.1)) else (Option.bind (if (f_X11_contains (gI w 1 5) s.2.2) = 0 then (some (s.1, s.2.1)) else (if s.2.2 = x1 then (some (s.1, s.2.1)) else (Option.bind (wh (l_X0_firstWithMost_41 x1 s.1 s.2.1 s.2.2 w) FUEL ((0 : Int32), (0 : Int32))) (fun p5 => if p5 ≤ s.2.1 then (some (s.1, s.2.1)) else (some (s.2.2, p5)))))) (fun p3 => some (.inl (p3.1, p3.2, s.2.2 + (1 : Int32)))))
noncomputable def f_X0_firstWithMost (x1 : Int32) (w : Mm) : Option Int32 := Option.bind (wh (l_X0_firstWithMost_7 x1 w) FUEL ((-1 : Int32), (-1 : Int32), (0 : Int32))) (fun p1 => some p1)
set_option maxHeartbeats 4000000 in
set_option maxRecDepth 100000 in
theorem t_l_X0_firstWithMost_41 {g : Gx} {V : Vt} {d : Nat} (S : MachB g yX0_firstWithMost cX0_firstWithMost 7 (d + 1) V) {x1 : Int32} {x2 : Int32} {x3 : Int32} {x4 : Int32} {w : Mm} (hL : Lay w) (s : Int32 × Int32) (e : (Int32 × Int32) ⊕ (Int32)) (h : l_X0_firstWithMost_41 x1 x2 x3 x4 w s = some e) (hC : ∀ s2, e = .inl s2 → V 41 [some (rf g 41), some (.int x1), some (.int x2), some (.int x3), some (.int x4), some (.int s2.1), some (.int s2.2)] [] w) (hE : ∀ x, e = .inr x → V 83 [some (rf g 41), some (.int x1), some (.int x2), some (.int x3), some (.int x4), some (.int x), none] [] w) : V 41 [some (rf g 41), some (.int x1), some (.int x2), some (.int x3), some (.int x4), some (.int s.1), some (.int s.2)] [] w := by
  unfold l_X0_firstWithMost_41 at h
  refine i_iload S dX0_firstWithMost_41 rfl ?_
  refine i_iconst (v := 4) S dX0_firstWithMost_43 ic_4 ?_
  refine i_icmp_ge (tgt := 83) S dX0_firstWithMost_44 (by decide) (fun q1 => ?_) (fun q1 => ?_)
  · replace h := (if_pos q1).symm.trans h
    refine i_mask (L1 := [some (rf g 41), some (.int x1), some (.int x2), some (.int x3), some (.int x4), some (.int s.1), none]) S [true, true, true, true, true, true, false] rfl ?_
    have hz := hE _ (Option.some.inj h).symm
    exact hz
  · replace h := (if_neg q1).symm.trans h
    refine i_iload S dX0_firstWithMost_47 rfl ?_
    refine i_aload_n S dX0_firstWithMost_49 rfl ?_
    refine i_iload S dX0_firstWithMost_50 rfl ?_
    refine i_iload S dX0_firstWithMost_52 rfl ?_
    obtain ⟨p2, e2, h⟩ := bn h
    refine i_callV (As := [.int s.2, .int x4]) (st1 := [.int p2, .int s.1]) S (c_X0_placeOf g d hL e2) mw_X0_placeOf lk_X0_75 im_X0_placeOf se_X0_placeOf ci_0.1 ci_0.2.1 (k41 hL) dX0_firstWithMost_54 rfl rfl (Nat.le_of_ble_eq_true rfl) rfl ?_
    obtain ⟨p4, e4, h⟩ := bn h
    have hj4 : ∀ q4, p4 = q4 → V 74 [some (rf g 41), some (.int x1), some (.int x2), some (.int x3), some (.int x4), none, some (.int s.2)] [.int q4, .int s.1] w := by
      intro q4 hq4
      subst hq4
      refine i_iadd S dX0_firstWithMost_74 ?_
      refine i_istore (L1 := [some (rf g 41), some (.int x1), some (.int x2), some (.int x3), some (.int x4), some (.int (s.1 + p4)), some (.int s.2)]) S dX0_firstWithMost_75 (by decide) rfl ?_
      refine i_iinc (L1 := [some (rf g 41), some (.int x1), some (.int x2), some (.int x3), some (.int x4), some (.int (s.1 + p4)), some (.int (s.2 + (1 : Int32)))]) S dX0_firstWithMost_77 rfl ic_1 (by decide) rfl ?_
      refine i_goto (tgt := 41) S dX0_firstWithMost_80 (by decide) ?_
      have hz := hC _ (Option.some.inj h).symm
      exact hz
    replace h := e4
    clear e4
    refine i_if_ne (tgt := 73) S dX0_firstWithMost_57 (by decide) (fun q3 => ?_) (fun q3 => ?_)
    · replace h := (if_neg q3).symm.trans h
      refine i_iconst (v := 0) S dX0_firstWithMost_73 ic_0 ?_
      refine i_mask (L1 := [some (rf g 41), some (.int x1), some (.int x2), some (.int x3), some (.int x4), none, some (.int s.2)]) S [true, true, true, true, true, false, true] rfl ?_
      have hz := hj4 _ (Option.some.inj h).symm
      exact hz
    · replace h := (if_pos q3).symm.trans h
      refine i_aload_n S dX0_firstWithMost_60 rfl ?_
      refine i_getR S fl_X0_23 (k41 hL) (r41_1 hL) rfl dX0_firstWithMost_61 ?_
      refine i_getR S fl_X0_78 (k6 hL) (r6_0 hL) rfl dX0_firstWithMost_64 ?_
      refine i_iload S dX0_firstWithMost_67 rfl ?_
      obtain ⟨hi6, h⟩ := gd h
      refine i_ialdv (v := gI w 7 (ix s.2)) S (k7 hL) hi6 rfl dX0_firstWithMost_69 ?_
      refine i_goto (tgt := 74) S dX0_firstWithMost_70 (by decide) ?_
      refine i_mask (L1 := [some (rf g 41), some (.int x1), some (.int x2), some (.int x3), some (.int x4), none, some (.int s.2)]) S [true, true, true, true, true, false, true] rfl ?_
      have hz := hj4 _ (Option.some.inj h).symm
      exact hz
set_option maxHeartbeats 4000000 in
set_option maxRecDepth 100000 in
theorem t_l_X0_firstWithMost_7 {g : Gx} {V : Vt} {d : Nat} (S : MachB g yX0_firstWithMost cX0_firstWithMost 7 (d + 1) V) {x1 : Int32} {w : Mm} (hL : Lay w) (s : Int32 × Int32 × Int32) (e : (Int32 × Int32 × Int32) ⊕ (Int32)) (h : l_X0_firstWithMost_7 x1 w s = some e) (hC : ∀ s2, e = .inl s2 → V 7 [some (rf g 41), some (.int x1), some (.int s2.1), some (.int s2.2.1), some (.int s2.2.2), none, none] [] w) (hE : ∀ x, e = .inr x → V 101 [none, none, some (.int x), none, none, none, none] [] w) : V 7 [some (rf g 41), some (.int x1), some (.int s.1), some (.int s.2.1), some (.int s.2.2), none, none] [] w := by
  unfold l_X0_firstWithMost_7 at h
  refine i_iload S dX0_firstWithMost_7 rfl ?_
  refine i_bipush (v := 10) S dX0_firstWithMost_9 bp_10 ?_
  refine i_icmp_ge (tgt := 101) S dX0_firstWithMost_11 (by decide) (fun q1 => ?_) (fun q1 => ?_)
  · replace h := (if_pos q1).symm.trans h
    refine i_mask (L1 := [none, none, some (.int s.1), none, none, none, none]) S [false, false, true, false, false, false, false] rfl ?_
    have hz := hE _ (Option.some.inj h).symm
    exact hz
  · replace h := (if_neg q1).symm.trans h
    refine i_aload_n S dX0_firstWithMost_14 rfl ?_
    refine i_getR S fl_X0_19 (k41 hL) (r41_0 hL) rfl dX0_firstWithMost_15 ?_
    refine i_getIv (v := gI w 1 5) S fl_X0_31 (k1 hL) rfl rfl dX0_firstWithMost_18 ?_
    refine i_iload S dX0_firstWithMost_21 rfl ?_
    refine i_callSN (As := [.int (gI w 1 5), .int s.2.2]) (st1 := [.int (f_X11_contains (gI w 1 5) s.2.2)]) S (c_X11_contains g d rfl) mw_X11_contains lk_X0_47 im_X11_contains dX0_firstWithMost_23 rfl rfl (Nat.le_of_ble_eq_true rfl) rfl ?_
    obtain ⟨p3, e3, h⟩ := bn h
    have hj3 : ∀ q3, p3 = q3 → V 95 [some (rf g 41), some (.int x1), some (.int q3.1), some (.int q3.2), some (.int s.2.2), none, none] [] w := by
      intro q3 hq3
      subst hq3
      refine i_iinc (L1 := [some (rf g 41), some (.int x1), some (.int p3.1), some (.int p3.2), some (.int (s.2.2 + (1 : Int32))), none, none]) S dX0_firstWithMost_95 rfl ic_1 (by decide) rfl ?_
      refine i_goto (tgt := 7) S dX0_firstWithMost_98 (by decide) ?_
      have hz := hC _ (Option.some.inj h).symm
      exact hz
    replace h := e3
    clear e3
    refine i_if_eq (tgt := 95) S dX0_firstWithMost_26 (by decide) (fun q2 => ?_) (fun q2 => ?_)
    · replace h := (if_pos q2).symm.trans h
      have hz := hj3 _ (Option.some.inj h).symm
      exact hz
    · replace h := (if_neg q2).symm.trans h
      refine i_iload S dX0_firstWithMost_29 rfl ?_
      refine i_iload_n S dX0_firstWithMost_31 rfl ?_
      refine i_icmp_eq (tgt := 95) S dX0_firstWithMost_32 (by decide) (fun q4 => ?_) (fun q4 => ?_)
      · replace h := (if_pos q4).symm.trans h
        have hz := hj3 _ (Option.some.inj h).symm
        exact hz
      · replace h := (if_neg q4).symm.trans h
        refine i_iconst (v := 0) S dX0_firstWithMost_35 ic_0 ?_
        refine i_istore (L1 := [some (rf g 41), some (.int x1), some (.int s.1), some (.int s.2.1), some (.int s.2.2), some (.int ((0 : Int32))), none]) S dX0_firstWithMost_36 (by decide) rfl ?_
        refine i_iconst (v := 0) S dX0_firstWithMost_38 ic_0 ?_
        refine i_istore (L1 := [some (rf g 41), some (.int x1), some (.int s.1), some (.int s.2.1), some (.int s.2.2), some (.int ((0 : Int32))), some (.int ((0 : Int32)))]) S dX0_firstWithMost_39 (by decide) rfl ?_
        obtain ⟨p5, e5, h⟩ := bn h
        have hE5 : V 83 [some (rf g 41), some (.int x1), some (.int s.1), some (.int s.2.1), some (.int s.2.2), some (.int p5), none] [] w := by
          refine i_iload S dX0_firstWithMost_83 rfl ?_
          refine i_iload_n S dX0_firstWithMost_85 rfl ?_
          refine i_icmp_le (tgt := 95) S dX0_firstWithMost_86 (by decide) (fun q6 => ?_) (fun q6 => ?_)
          · replace h := (if_pos q6).symm.trans h
            refine i_mask (L1 := [some (rf g 41), some (.int x1), some (.int s.1), some (.int s.2.1), some (.int s.2.2), none, none]) S [true, true, true, true, true, false, false] rfl ?_
            have hz := hj3 _ (Option.some.inj h).symm
            exact hz
          · replace h := (if_neg q6).symm.trans h
            refine i_iload S dX0_firstWithMost_89 rfl ?_
            refine i_istore_n (L1 := [some (rf g 41), some (.int x1), some (.int s.2.2), some (.int s.2.1), some (.int s.2.2), some (.int p5), none]) S dX0_firstWithMost_91 (by decide) rfl ?_
            refine i_iload S dX0_firstWithMost_92 rfl ?_
            refine i_istore_n (L1 := [some (rf g 41), some (.int x1), some (.int s.2.2), some (.int p5), some (.int s.2.2), some (.int p5), none]) S dX0_firstWithMost_94 (by decide) rfl ?_
            refine i_mask (L1 := [some (rf g 41), some (.int x1), some (.int s.2.2), some (.int p5), some (.int s.2.2), none, none]) S [true, true, true, true, true, false, false] rfl ?_
            have hz := hj3 _ (Option.some.inj h).symm
            exact hz
        exact wh_V (P := fun sv5 => V 41 [some (rf g 41), some (.int x1), some (.int s.1), some (.int s.2.1), some (.int s.2.2), some (.int sv5.1), some (.int sv5.2)] [] w) (E := fun xv5 => V 83 [some (rf g 41), some (.int x1), some (.int s.1), some (.int s.2.1), some (.int s.2.2), some (.int xv5), none] [] w) (fun sv5 ev hb hc he => t_l_X0_firstWithMost_41 (w := w)  S hL sv5 ev hb hc he) FUEL _ _ e5 hE5
set_option maxHeartbeats 4000000 in
set_option maxRecDepth 100000 in
theorem c_X0_firstWithMost (g : Gx) (d : Nat) {x1 : Int32} {w : Mm} {p : Int32} (hL : Lay w) (h : f_X0_firstWithMost x1 w = some p) : Call g (d + 2) yX0_firstWithMost cX0_firstWithMost 7 (some .int) [rf g 41, .int x1] w (some (.int p)) w := by
  refine call_of (L0 := [some (rf g 41), some (.int x1), none, none, none, none, none]) (by decide) rfl (Nat.le_of_ble_eq_true rfl) (fun V S0 => ?_)
  have S := S0.b
  unfold f_X0_firstWithMost at h
  refine i_iconst (v := -1) S dX0_firstWithMost_0 ic_m1 ?_
  refine i_istore_n (L1 := [some (rf g 41), some (.int x1), some (.int ((-1 : Int32))), none, none, none, none]) S dX0_firstWithMost_1 (by decide) rfl ?_
  refine i_iconst (v := -1) S dX0_firstWithMost_2 ic_m1 ?_
  refine i_istore_n (L1 := [some (rf g 41), some (.int x1), some (.int ((-1 : Int32))), some (.int ((-1 : Int32))), none, none, none]) S dX0_firstWithMost_3 (by decide) rfl ?_
  refine i_iconst (v := 0) S dX0_firstWithMost_4 ic_0 ?_
  refine i_istore (L1 := [some (rf g 41), some (.int x1), some (.int ((-1 : Int32))), some (.int ((-1 : Int32))), some (.int ((0 : Int32))), none, none]) S dX0_firstWithMost_5 (by decide) rfl ?_
  obtain ⟨p1, e1, h⟩ := bn h
  have hE1 : V 101 [none, none, some (.int p1), none, none, none, none] [] w := by
    refine i_iload_n S dX0_firstWithMost_101 rfl ?_
    cases h
    exact i_iret S0 rfl dX0_firstWithMost_102
  exact wh_V (P := fun sv1 => V 7 [some (rf g 41), some (.int x1), some (.int sv1.1), some (.int sv1.2.1), some (.int sv1.2.2), none, none] [] w) (E := fun xv1 => V 101 [none, none, some (.int xv1), none, none, none, none] [] w) (fun sv1 ev hb hc he => t_l_X0_firstWithMost_7 (w := w)  S hL sv1 ev hb hc he) FUEL _ _ e1 hE1
/-! WordYear$Ballot.rank -/
noncomputable def l_X0_rank_26 (x1 : Int32) (x2 : Int64) (s : Int32 × Mm) : Option ((Int32 × Mm) ⊕ (Mm)) := if (10 : Int32) ≤ s.1 then (some (.inr s.2)) else (onL s.2 (Option.bind (if (f_X11_contains (gI s.2 1 5) s.1) = 0 then (some ((0 : Int64), s.2)) else (Option.bind (f_X9_speech (f_X11_without (gI s.2 1 5) s.1) s.2) (fun p8 => if isSp p8.2 p8.1 = true then (onL p8.2 (Option.bind (f_X9_yearly p8.1 x1 p8.2) (fun p11 => some (p11.1 - x2, p11.2)))) else none))) (fun p4 => onL p4.2 (if inb s.1 10 = true then (some (.inl (s.1 + (1 : Int32), sL p4.2 42 (ix s.1) p4.1))) else none))))
noncomputable def l_X0_rank_110 (x1 : Int32) (x4 : Int32) (w : Mm) (s : Int32 × Int32) : Option ((Int32 × Int32) ⊕ (Int32)) := if (10 : Int32) ≤ s.2 then (some (.inr s.1)) else (Option.bind (if (f_X11_contains (gI w 1 5) s.2) = 0 then (some s.1) else (if inb s.2 10 = true then (if inb x4 10 = true then (mg (if (gL w 42 (ix s.2)) < (gL w 42 (ix x4)) then (some (.inl ())) else (if (gL w 42 (ix s.2)) = (gL w 42 (ix x4)) then (if x4 ≤ s.2 then (some (.inr s.1)) else (some (.inl ()))) else (some (.inr s.1)))) (fun p9 => some (s.1 + (1 : Int32)))) else none) else none)) (fun p3 => some (.inl (p3, s.2 + (1 : Int32)))))
noncomputable def l_X0_rank_97 (x1 : Int32) (s : Int32 × Mm) : Option ((Int32 × Mm) ⊕ (Mm)) := if (10 : Int32) ≤ s.1 then (some (.inr s.2)) else (onL s.2 (Option.bind (wh (l_X0_rank_110 x1 s.1 s.2) FUEL ((0 : Int32), (0 : Int32))) (fun p3 => Option.bind (if (((10 : Int32) * x1) + s.1) < 0 then (some s.2) else (if (40 : Int32) ≤ (((10 : Int32) * x1) + s.1) then (some s.2) else (if inb (((10 : Int32) * x1) + s.1) 40 = true then (some (sI s.2 43 (ix (((10 : Int32) * x1) + s.1)) p3)) else none))) (fun p5 => some (.inl (s.1 + (1 : Int32), p5))))))
noncomputable def f_X0_rank (x1 : Int32) (w : Mm) : Option Mm := Option.bind (f_X9_speech (gI w 1 5) w) (fun p1 => if isSp p1.2 p1.1 = true then (onL p1.2 (Option.bind (f_X9_yearly p1.1 x1 p1.2) (fun p4 => Option.bind (wh (l_X0_rank_26 x1 p4.1) FUEL ((0 : Int32), p4.2)) (fun p5 => Option.bind (wh (l_X0_rank_97 x1) FUEL ((0 : Int32), p5)) (fun p6 => some p6))))) else none)
set_option maxHeartbeats 4000000 in
set_option maxRecDepth 100000 in
theorem t_l_X0_rank_26 {g : Gx} {V : Vt} {d : Nat} (S : MachB g yX0_rank cX0_rank 7 (d + 5) V) {x1 : Int32} {x2 : Int64}  (s : Int32 × Mm) (e : (Int32 × Mm) ⊕ (Mm)) (h : l_X0_rank_26 x1 x2 s = some e) (hC : ∀ s2, e = .inl s2 → V 26 [some (rf g 41), some (.int x1), some (.long x2), none, some (.int s2.1), none, none] [] s2.2) (hE : ∀ x, e = .inr x → V 94 [some (rf g 41), some (.int x1), none, none, none, none, none] [] x) : V 26 [some (rf g 41), some (.int x1), some (.long x2), none, some (.int s.1), none, none] [] s.2 := by
  unfold l_X0_rank_26 at h
  refine i_iload S dX0_rank_26 rfl ?_
  refine i_bipush (v := 10) S dX0_rank_28 bp_10 ?_
  refine i_icmp_ge (tgt := 94) S dX0_rank_30 (by decide) (fun q1 => ?_) (fun q1 => ?_)
  · replace h := (if_pos q1).symm.trans h
    refine i_mask (L1 := [some (rf g 41), some (.int x1), none, none, none, none, none]) S [true, true, false, false, false, false, false] rfl ?_
    have hz := hE _ (Option.some.inj h).symm
    exact hz
  · replace h := (if_neg q1).symm.trans h
    refine i_aload_n S dX0_rank_33 rfl ?_
    obtain ⟨hL2, h⟩ := onLn h
    refine i_getR S fl_X0_9 (k41 hL2) (r41_3 hL2) rfl dX0_rank_34 ?_
    refine i_iload S dX0_rank_37 rfl ?_
    refine i_aload_n S dX0_rank_39 rfl ?_
    refine i_getR S fl_X0_19 (k41 hL2) (r41_0 hL2) rfl dX0_rank_40 ?_
    refine i_getIv (v := gI s.2 1 5) S fl_X0_31 (k1 hL2) rfl rfl dX0_rank_43 ?_
    refine i_iload S dX0_rank_46 rfl ?_
    refine i_callSN (As := [.int (gI s.2 1 5), .int s.1]) (st1 := [.int (f_X11_contains (gI s.2 1 5) s.1), .int s.1, rf g 42]) S (c_X11_contains g (d + 4) rfl) mw_X11_contains lk_X0_47 im_X11_contains dX0_rank_48 rfl rfl (Nat.le_of_ble_eq_true rfl) rfl ?_
    obtain ⟨p4, e4, h⟩ := bn h
    have hj4 : ∀ q4, p4 = q4 → V 87 [some (rf g 41), some (.int x1), some (.long x2), none, some (.int s.1), none, none] [.long q4.1, .int s.1, rf g 42] q4.2 := by
      intro q4 hq4
      subst hq4
      obtain ⟨hL5, h⟩ := onLn h
      obtain ⟨hi7, h⟩ := gd h
      refine i_last S (k42 hL5) hi7 dX0_rank_87 ?_
      refine i_iinc (L1 := [some (rf g 41), some (.int x1), some (.long x2), none, some (.int (s.1 + (1 : Int32))), none, none]) S dX0_rank_88 rfl ic_1 (by decide) rfl ?_
      refine i_goto (tgt := 26) S dX0_rank_91 (by decide) ?_
      have hz := hC _ (Option.some.inj h).symm
      exact hz
    replace h := e4
    clear e4
    refine i_if_eq (tgt := 86) S dX0_rank_51 (by decide) (fun q3 => ?_) (fun q3 => ?_)
    · replace h := (if_pos q3).symm.trans h
      refine i_lconst (v := 0) S dX0_rank_86 lc_0 ?_
      have hz := hj4 _ (Option.some.inj h).symm
      exact hz
    · replace h := (if_neg q3).symm.trans h
      refine i_aload_n S dX0_rank_54 rfl ?_
      refine i_getR S fl_X0_27 (k41 hL2) (r41_2 hL2) rfl dX0_rank_55 ?_
      refine i_aload_n S dX0_rank_58 rfl ?_
      refine i_getR S fl_X0_27 (k41 hL2) (r41_2 hL2) rfl dX0_rank_59 ?_
      refine i_aload_n S dX0_rank_62 rfl ?_
      refine i_getR S fl_X0_19 (k41 hL2) (r41_0 hL2) rfl dX0_rank_63 ?_
      refine i_getIv (v := gI s.2 1 5) S fl_X0_31 (k1 hL2) rfl rfl dX0_rank_66 ?_
      refine i_iload S dX0_rank_69 rfl ?_
      refine i_callSN (As := [.int (gI s.2 1 5), .int s.1]) (st1 := [.int (f_X11_without (gI s.2 1 5) s.1), rf g 14, rf g 14, .int s.1, rf g 42]) S (c_X11_without g (d + 4) rfl) mw_X11_without lk_X0_51 im_X11_without dX0_rank_71 rfl rfl (Nat.le_of_ble_eq_true rfl) rfl ?_
      obtain ⟨p8, e8, h⟩ := bn h
      refine i_callV (As := [.int (f_X11_without (gI s.2 1 5) s.1)]) (st1 := [rf g p8.1, rf g 14, .int s.1, rf g 42]) S (c_X9_speech g d hL2 e8) mw_X9_speech lk_X0_37 im_X9_speech se_X9_speech ci_9.1 ci_9.2.1 (k14 hL2) dX0_rank_74 rfl rfl (Nat.le_of_ble_eq_true rfl) rfl ?_
      refine i_iload_n S dX0_rank_77 rfl ?_
      obtain ⟨hs9, h⟩ := gd h
      obtain ⟨hL10, h⟩ := onLn h
      obtain ⟨p11, e11, h⟩ := bn h
      refine i_callV (As := [rf g p8.1, .int x1]) (st1 := [.long p11.1, .int s.1, rf g 42]) S (c_X9_yearly g d hL10 hs9 e11) mw_X9_yearly lk_X0_43 im_X9_yearly se_X9_yearly ci_9.1 ci_9.2.1 (k14 hL10) dX0_rank_78 rfl rfl (Nat.le_of_ble_eq_true rfl) rfl ?_
      refine i_lload_n S dX0_rank_81 rfl ?_
      refine i_lsub S dX0_rank_82 ?_
      refine i_goto (tgt := 87) S dX0_rank_83 (by decide) ?_
      have hz := hj4 _ (Option.some.inj h).symm
      exact hz
set_option maxHeartbeats 4000000 in
set_option maxRecDepth 100000 in
theorem t_l_X0_rank_110 {g : Gx} {V : Vt} {d : Nat} (S : MachB g yX0_rank cX0_rank 7 (d + 5) V) {x1 : Int32} {x4 : Int32} {w : Mm} (hL : Lay w) (s : Int32 × Int32) (e : (Int32 × Int32) ⊕ (Int32)) (h : l_X0_rank_110 x1 x4 w s = some e) (hC : ∀ s2, e = .inl s2 → V 110 [some (rf g 41), some (.int x1), none, none, some (.int x4), some (.int s2.1), some (.int s2.2)] [] w) (hE : ∀ x, e = .inr x → V 184 [some (rf g 41), some (.int x1), none, none, some (.int x4), some (.int x), none] [] w) : V 110 [some (rf g 41), some (.int x1), none, none, some (.int x4), some (.int s.1), some (.int s.2)] [] w := by
  unfold l_X0_rank_110 at h
  refine i_iload S dX0_rank_110 rfl ?_
  refine i_bipush (v := 10) S dX0_rank_112 bp_10 ?_
  refine i_icmp_ge (tgt := 184) S dX0_rank_114 (by decide) (fun q1 => ?_) (fun q1 => ?_)
  · replace h := (if_pos q1).symm.trans h
    refine i_mask (L1 := [some (rf g 41), some (.int x1), none, none, some (.int x4), some (.int s.1), none]) S [true, true, false, false, true, true, false] rfl ?_
    have hz := hE _ (Option.some.inj h).symm
    exact hz
  · replace h := (if_neg q1).symm.trans h
    refine i_aload_n S dX0_rank_117 rfl ?_
    refine i_getR S fl_X0_19 (k41 hL) (r41_0 hL) rfl dX0_rank_118 ?_
    refine i_getIv (v := gI w 1 5) S fl_X0_31 (k1 hL) rfl rfl dX0_rank_121 ?_
    refine i_iload S dX0_rank_124 rfl ?_
    refine i_callSN (As := [.int (gI w 1 5), .int s.2]) (st1 := [.int (f_X11_contains (gI w 1 5) s.2)]) S (c_X11_contains g (d + 4) rfl) mw_X11_contains lk_X0_47 im_X11_contains dX0_rank_126 rfl rfl (Nat.le_of_ble_eq_true rfl) rfl ?_
    obtain ⟨p3, e3, h⟩ := bn h
    have hj3 : ∀ q3, p3 = q3 → V 178 [some (rf g 41), some (.int x1), none, none, some (.int x4), some (.int q3), some (.int s.2)] [] w := by
      intro q3 hq3
      subst hq3
      refine i_iinc (L1 := [some (rf g 41), some (.int x1), none, none, some (.int x4), some (.int p3), some (.int (s.2 + (1 : Int32)))]) S dX0_rank_178 rfl ic_1 (by decide) rfl ?_
      refine i_goto (tgt := 110) S dX0_rank_181 (by decide) ?_
      have hz := hC _ (Option.some.inj h).symm
      exact hz
    replace h := e3
    clear e3
    refine i_if_eq (tgt := 178) S dX0_rank_129 (by decide) (fun q2 => ?_) (fun q2 => ?_)
    · replace h := (if_pos q2).symm.trans h
      have hz := hj3 _ (Option.some.inj h).symm
      exact hz
    · replace h := (if_neg q2).symm.trans h
      refine i_aload_n S dX0_rank_132 rfl ?_
      refine i_getR S fl_X0_9 (k41 hL) (r41_3 hL) rfl dX0_rank_133 ?_
      refine i_iload S dX0_rank_136 rfl ?_
      obtain ⟨hi5, h⟩ := gd h
      refine i_laldv (v := gL w 42 (ix s.2)) S (k42 hL) hi5 rfl dX0_rank_138 ?_
      refine i_aload_n S dX0_rank_139 rfl ?_
      refine i_getR S fl_X0_9 (k41 hL) (r41_3 hL) rfl dX0_rank_140 ?_
      refine i_iload S dX0_rank_143 rfl ?_
      obtain ⟨hi7, h⟩ := gd h
      refine i_laldv (v := gL w 42 (ix x4)) S (k42 hL) hi7 rfl dX0_rank_145 ?_
      obtain ⟨s9, e9, hm9, ho9⟩ := mgn h
      have hj9 : ∀ p9, s9 = .inl p9 → V 175 [some (rf g 41), some (.int x1), none, none, some (.int x4), some (.int s.1), some (.int s.2)] [] w := by
        intro p9 ep9
        have h := hm9 p9 ep9
        refine i_iinc (L1 := [some (rf g 41), some (.int x1), none, none, some (.int x4), some (.int (s.1 + (1 : Int32))), some (.int s.2)]) S dX0_rank_175 rfl ic_1 (by decide) rfl ?_
        have hz := hj3 _ (Option.some.inj h).symm
        exact hz
      replace h := e9
      clear e9
      refine i_lc_lt (tgt := 175) S dX0_rank_146 dX0_rank_147 (by decide) (fun q8 => ?_) (fun q8 => ?_)
      · replace h := (if_pos q8).symm.trans h
        have hz := hj9 _ (Option.some.inj h).symm
        exact hz
      · replace h := (if_neg q8).symm.trans h
        refine i_aload_n S dX0_rank_150 rfl ?_
        refine i_getR S fl_X0_9 (k41 hL) (r41_3 hL) rfl dX0_rank_151 ?_
        refine i_iload S dX0_rank_154 rfl ?_
        refine i_laldv (v := gL w 42 (ix s.2)) S (k42 hL) hi5 rfl dX0_rank_156 ?_
        refine i_aload_n S dX0_rank_157 rfl ?_
        refine i_getR S fl_X0_9 (k41 hL) (r41_3 hL) rfl dX0_rank_158 ?_
        refine i_iload S dX0_rank_161 rfl ?_
        refine i_laldv (v := gL w 42 (ix x4)) S (k42 hL) hi7 rfl dX0_rank_163 ?_
        refine i_lc_ne (tgt := 178) S dX0_rank_164 dX0_rank_165 (by decide) (fun q12 => ?_) (fun q12 => ?_)
        · replace h := (if_neg q12).symm.trans h
          replace h := ho9 _ (Option.some.inj h).symm
          have hz := hj3 _ (Option.some.inj h).symm
          exact hz
        · replace h := (if_pos q12).symm.trans h
          refine i_iload S dX0_rank_168 rfl ?_
          refine i_iload S dX0_rank_170 rfl ?_
          refine i_icmp_ge (tgt := 178) S dX0_rank_172 (by decide) (fun q13 => ?_) (fun q13 => ?_)
          · replace h := (if_pos q13).symm.trans h
            replace h := ho9 _ (Option.some.inj h).symm
            have hz := hj3 _ (Option.some.inj h).symm
            exact hz
          · replace h := (if_neg q13).symm.trans h
            have hz := hj9 _ (Option.some.inj h).symm
            exact hz
set_option maxHeartbeats 4000000 in
set_option maxRecDepth 100000 in
theorem t_l_X0_rank_97 {g : Gx} {V : Vt} {d : Nat} (S : MachB g yX0_rank cX0_rank 7 (d + 5) V) {x1 : Int32}  (s : Int32 × Mm) (e : (Int32 × Mm) ⊕ (Mm)) (h : l_X0_rank_97 x1 s = some e) (hC : ∀ s2, e = .inl s2 → V 97 [some (rf g 41), some (.int x1), none, none, some (.int s2.1), none, none] [] s2.2) (hE : ∀ x, e = .inr x → V 220 [none, none, none, none, none, none, none] [] x) : V 97 [some (rf g 41), some (.int x1), none, none, some (.int s.1), none, none] [] s.2 := by
  unfold l_X0_rank_97 at h
  refine i_iload S dX0_rank_97 rfl ?_
  refine i_bipush (v := 10) S dX0_rank_99 bp_10 ?_
  refine i_icmp_ge (tgt := 220) S dX0_rank_101 (by decide) (fun q1 => ?_) (fun q1 => ?_)
  · replace h := (if_pos q1).symm.trans h
    refine i_mask (L1 := [none, none, none, none, none, none, none]) S [false, false, false, false, false, false, false] rfl ?_
    have hz := hE _ (Option.some.inj h).symm
    exact hz
  · replace h := (if_neg q1).symm.trans h
    refine i_iconst (v := 0) S dX0_rank_104 ic_0 ?_
    refine i_istore (L1 := [some (rf g 41), some (.int x1), none, none, some (.int s.1), some (.int ((0 : Int32))), none]) S dX0_rank_105 (by decide) rfl ?_
    refine i_iconst (v := 0) S dX0_rank_107 ic_0 ?_
    refine i_istore (L1 := [some (rf g 41), some (.int x1), none, none, some (.int s.1), some (.int ((0 : Int32))), some (.int ((0 : Int32)))]) S dX0_rank_108 (by decide) rfl ?_
    obtain ⟨hL2, h⟩ := onLn h
    obtain ⟨p3, e3, h⟩ := bn h
    have hE3 : V 184 [some (rf g 41), some (.int x1), none, none, some (.int s.1), some (.int p3), none] [] s.2 := by
      refine i_bipush (v := 10) S dX0_rank_184 bp_10 ?_
      refine i_iload_n S dX0_rank_186 rfl ?_
      refine i_imul S dX0_rank_187 ?_
      refine i_iload S dX0_rank_188 rfl ?_
      refine i_iadd S dX0_rank_190 ?_
      refine i_istore (L1 := [some (rf g 41), some (.int x1), none, none, some (.int s.1), some (.int p3), some (.int (((10 : Int32) * x1) + s.1))]) S dX0_rank_191 (by decide) rfl ?_
      refine i_iload S dX0_rank_193 rfl ?_
      obtain ⟨p5, e5, h⟩ := bn h
      have hj5 : ∀ q5, p5 = q5 → V 214 [some (rf g 41), some (.int x1), none, none, some (.int s.1), none, none] [] q5 := by
        intro q5 hq5
        subst hq5
        refine i_iinc (L1 := [some (rf g 41), some (.int x1), none, none, some (.int (s.1 + (1 : Int32))), none, none]) S dX0_rank_214 rfl ic_1 (by decide) rfl ?_
        refine i_goto (tgt := 97) S dX0_rank_217 (by decide) ?_
        have hz := hC _ (Option.some.inj h).symm
        exact hz
      replace h := e5
      clear e5
      refine i_if_lt (tgt := 214) S dX0_rank_195 (by decide) (fun q4 => ?_) (fun q4 => ?_)
      · replace h := (if_pos q4).symm.trans h
        refine i_mask (L1 := [some (rf g 41), some (.int x1), none, none, some (.int s.1), none, none]) S [true, true, false, false, true, false, false] rfl ?_
        have hz := hj5 _ (Option.some.inj h).symm
        exact hz
      · replace h := (if_neg q4).symm.trans h
        refine i_iload S dX0_rank_198 rfl ?_
        refine i_bipush (v := 40) S dX0_rank_200 bp_40 ?_
        refine i_icmp_ge (tgt := 214) S dX0_rank_202 (by decide) (fun q6 => ?_) (fun q6 => ?_)
        · replace h := (if_pos q6).symm.trans h
          refine i_mask (L1 := [some (rf g 41), some (.int x1), none, none, some (.int s.1), none, none]) S [true, true, false, false, true, false, false] rfl ?_
          have hz := hj5 _ (Option.some.inj h).symm
          exact hz
        · replace h := (if_neg q6).symm.trans h
          refine i_aload_n S dX0_rank_205 rfl ?_
          refine i_getR S fl_X0_15 (k41 hL2) (r41_4 hL2) rfl dX0_rank_206 ?_
          refine i_iload S dX0_rank_209 rfl ?_
          refine i_iload S dX0_rank_211 rfl ?_
          obtain ⟨hi8, h⟩ := gd h
          refine i_iast S (k43 hL2) hi8 dX0_rank_213 ?_
          refine i_mask (L1 := [some (rf g 41), some (.int x1), none, none, some (.int s.1), none, none]) S [true, true, false, false, true, false, false] rfl ?_
          have hz := hj5 _ (Option.some.inj h).symm
          exact hz
    exact wh_V (P := fun sv3 => V 110 [some (rf g 41), some (.int x1), none, none, some (.int s.1), some (.int sv3.1), some (.int sv3.2)] [] s.2) (E := fun xv3 => V 184 [some (rf g 41), some (.int x1), none, none, some (.int s.1), some (.int xv3), none] [] s.2) (fun sv3 ev hb hc he => t_l_X0_rank_110 (w := s.2)  S hL2 sv3 ev hb hc he) FUEL _ _ e3 hE3
set_option maxHeartbeats 4000000 in
set_option maxRecDepth 100000 in
theorem c_X0_rank (g : Gx) (d : Nat) {x1 : Int32} {w : Mm} {p : Mm} (hL : Lay w) (h : f_X0_rank x1 w = some p) : Call g (d + 6) yX0_rank cX0_rank 7 none [rf g 41, .int x1] w none p := by
  refine call_of (L0 := [some (rf g 41), some (.int x1), none, none, none, none, none]) (by decide) rfl (Nat.le_of_ble_eq_true rfl) (fun V S0 => ?_)
  have S := S0.b
  unfold f_X0_rank at h
  refine i_aload_n S dX0_rank_0 rfl ?_
  refine i_getR S fl_X0_27 (k41 hL) (r41_2 hL) rfl dX0_rank_1 ?_
  refine i_aload_n S dX0_rank_4 rfl ?_
  refine i_getR S fl_X0_27 (k41 hL) (r41_2 hL) rfl dX0_rank_5 ?_
  refine i_aload_n S dX0_rank_8 rfl ?_
  refine i_getR S fl_X0_19 (k41 hL) (r41_0 hL) rfl dX0_rank_9 ?_
  refine i_getIv (v := gI w 1 5) S fl_X0_31 (k1 hL) rfl rfl dX0_rank_12 ?_
  obtain ⟨p1, e1, h⟩ := bn h
  refine i_callV (As := [.int (gI w 1 5)]) (st1 := [rf g p1.1, rf g 14]) S (c_X9_speech g d hL e1) mw_X9_speech lk_X0_37 im_X9_speech se_X9_speech ci_9.1 ci_9.2.1 (k14 hL) dX0_rank_15 rfl rfl (Nat.le_of_ble_eq_true rfl) rfl ?_
  refine i_iload_n S dX0_rank_18 rfl ?_
  obtain ⟨hs2, h⟩ := gd h
  obtain ⟨hL3, h⟩ := onLn h
  obtain ⟨p4, e4, h⟩ := bn h
  refine i_callV (As := [rf g p1.1, .int x1]) (st1 := [.long p4.1]) S (c_X9_yearly g d hL3 hs2 e4) mw_X9_yearly lk_X0_43 im_X9_yearly se_X9_yearly ci_9.1 ci_9.2.1 (k14 hL3) dX0_rank_19 rfl rfl (Nat.le_of_ble_eq_true rfl) rfl ?_
  refine i_lstore_n (L1 := [some (rf g 41), some (.int x1), some (.long p4.1), none, none, none, none]) S dX0_rank_22 (by decide) rfl ?_
  refine i_iconst (v := 0) S dX0_rank_23 ic_0 ?_
  refine i_istore (L1 := [some (rf g 41), some (.int x1), some (.long p4.1), none, some (.int ((0 : Int32))), none, none]) S dX0_rank_24 (by decide) rfl ?_
  obtain ⟨p5, e5, h⟩ := bn h
  have hE5 : V 94 [some (rf g 41), some (.int x1), none, none, none, none, none] [] p5 := by
    refine i_iconst (v := 0) S dX0_rank_94 ic_0 ?_
    refine i_istore (L1 := [some (rf g 41), some (.int x1), none, none, some (.int ((0 : Int32))), none, none]) S dX0_rank_95 (by decide) rfl ?_
    obtain ⟨p6, e6, h⟩ := bn h
    have hE6 : V 220 [none, none, none, none, none, none, none] [] p6 := by
      cases h
      exact i_vret S0 dX0_rank_220
    exact wh_V (P := fun sv6 => V 97 [some (rf g 41), some (.int x1), none, none, some (.int sv6.1), none, none] [] sv6.2) (E := fun xv6 => V 220 [none, none, none, none, none, none, none] [] xv6) (fun sv6 ev hb hc he => t_l_X0_rank_97   S  sv6 ev hb hc he) FUEL _ _ e6 hE6
  exact wh_V (P := fun sv5 => V 26 [some (rf g 41), some (.int x1), some (.long p4.1), none, some (.int sv5.1), none, none] [] sv5.2) (E := fun xv5 => V 94 [some (rf g 41), some (.int x1), none, none, none, none, none] [] xv5) (fun sv5 ev hb hc he => t_l_X0_rank_26   S  sv5 ev hb hc he) FUEL _ _ e5 hE5
/-! WordYear$Ballot.runoff -/
noncomputable def f_X0_runoff  (w : Mm) : Option Int32 := Option.bind (f_X0_firstWithMost (-1 : Int32) w) (fun p1 => Option.bind (f_X0_firstWithMost p1 w) (fun p2 => if p2 = (-1 : Int32) then (some p1) else (Option.bind (f_X0_votersFor p2 p1 w) (fun p4 => Option.bind (f_X0_votersFor p1 p2 w) (fun p5 => if p4 ≤ p5 then (some p1) else (some p2))))))
set_option maxHeartbeats 4000000 in
set_option maxRecDepth 100000 in
theorem c_X0_runoff (g : Gx) (d : Nat)  {w : Mm} {p : Int32} (hL : Lay w) (h : f_X0_runoff w = some p) : Call g (d + 3) yX0_runoff cX0_runoff 3 (some .int) [rf g 41] w (some (.int p)) w := by
  refine call_of (L0 := [some (rf g 41), none, none]) (by decide) rfl (Nat.le_of_ble_eq_true rfl) (fun V S0 => ?_)
  have S := S0.b
  unfold f_X0_runoff at h
  refine i_aload_n S dX0_runoff_0 rfl ?_
  refine i_iconst (v := -1) S dX0_runoff_1 ic_m1 ?_
  obtain ⟨p1, e1, h⟩ := bn h
  refine i_callV (As := [.int ((-1 : Int32))]) (st1 := [.int p1]) S (c_X0_firstWithMost g d hL e1) mw_X0_firstWithMost lk_X0_61 im_X0_firstWithMost se_X0_firstWithMost ci_0.1 ci_0.2.1 (k41 hL) dX0_runoff_2 rfl rfl (Nat.le_of_ble_eq_true rfl) rfl ?_
  refine i_istore_n (L1 := [some (rf g 41), some (.int p1), none]) S dX0_runoff_5 (by decide) rfl ?_
  refine i_aload_n S dX0_runoff_6 rfl ?_
  refine i_iload_n S dX0_runoff_7 rfl ?_
  obtain ⟨p2, e2, h⟩ := bn h
  refine i_callV (As := [.int p1]) (st1 := [.int p2]) S (c_X0_firstWithMost g d hL e2) mw_X0_firstWithMost lk_X0_61 im_X0_firstWithMost se_X0_firstWithMost ci_0.1 ci_0.2.1 (k41 hL) dX0_runoff_8 rfl rfl (Nat.le_of_ble_eq_true rfl) rfl ?_
  refine i_istore_n (L1 := [some (rf g 41), some (.int p1), some (.int p2)]) S dX0_runoff_11 (by decide) rfl ?_
  refine i_iload_n S dX0_runoff_12 rfl ?_
  refine i_iconst (v := -1) S dX0_runoff_13 ic_m1 ?_
  refine i_icmp_ne (tgt := 19) S dX0_runoff_14 (by decide) (fun q3 => ?_) (fun q3 => ?_)
  · replace h := (if_neg q3).symm.trans h
    refine i_aload_n S dX0_runoff_19 rfl ?_
    refine i_iload_n S dX0_runoff_20 rfl ?_
    refine i_iload_n S dX0_runoff_21 rfl ?_
    obtain ⟨p4, e4, h⟩ := bn h
    refine i_callV (As := [.int p2, .int p1]) (st1 := [.int p4]) S (c_X0_votersFor g d hL e4) mw_X0_votersFor lk_X0_83 im_X0_votersFor se_X0_votersFor ci_0.1 ci_0.2.1 (k41 hL) dX0_runoff_22 rfl rfl (Nat.le_of_ble_eq_true rfl) rfl ?_
    refine i_aload_n S dX0_runoff_25 rfl ?_
    refine i_iload_n S dX0_runoff_26 rfl ?_
    refine i_iload_n S dX0_runoff_27 rfl ?_
    obtain ⟨p5, e5, h⟩ := bn h
    refine i_callV (As := [.int p1, .int p2]) (st1 := [.int p5, .int p4]) S (c_X0_votersFor g d hL e5) mw_X0_votersFor lk_X0_83 im_X0_votersFor se_X0_votersFor ci_0.1 ci_0.2.1 (k41 hL) dX0_runoff_28 rfl rfl (Nat.le_of_ble_eq_true rfl) rfl ?_
    refine i_icmp_le (tgt := 38) S dX0_runoff_31 (by decide) (fun q6 => ?_) (fun q6 => ?_)
    · replace h := (if_pos q6).symm.trans h
      refine i_iload_n S dX0_runoff_38 rfl ?_
      cases h
      exact i_iret S0 rfl dX0_runoff_39
    · replace h := (if_neg q6).symm.trans h
      refine i_iload_n S dX0_runoff_34 rfl ?_
      refine i_goto (tgt := 39) S dX0_runoff_35 (by decide) ?_
      cases h
      exact i_iret S0 rfl dX0_runoff_39
  · replace h := (if_pos q3).symm.trans h
    refine i_iload_n S dX0_runoff_17 rfl ?_
    cases h
    exact i_iret S0 rfl dX0_runoff_18
