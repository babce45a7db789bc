/-! WordYear$Years.exchange -/
noncomputable def l_X10_exchange_26 (x1 : Int32) (x5 : Int32) (s : Int32 × Int64 × Int32 × Mm) : Option ((Int32 × Int64 × Int32 × Mm) ⊕ (Int32 × Int64 × Mm)) := if (1000 : Int32) ≤ s.2.2.1 then (some (.inr (s.1, s.2.1, s.2.2.2))) else (Option.bind (if (f_X11_contains x5 (s.2.2.1 / (100 : Int32))) = 0 then (some (s.1, s.2.1, s.2.2.2)) else (if (s.2.2.1 - s.2.2.1 / (10 : Int32) * (10 : Int32)) ≤ ((s.2.2.1 / (10 : Int32)) - (s.2.2.1 / (10 : Int32)) / (10 : Int32) * (10 : Int32)) then (some (s.1, s.2.1, s.2.2.2)) else (onL s.2.2.2 (if (f_X11_contains (gI s.2.2.2 1 5) ((s.2.2.1 / (10 : Int32)) - (s.2.2.1 / (10 : Int32)) / (10 : Int32) * (10 : Int32))) = 0 then (some (s.1, s.2.1, s.2.2.2)) else (if (f_X11_contains (gI s.2.2.2 1 5) (s.2.2.1 - s.2.2.1 / (10 : Int32) * (10 : Int32))) = 0 then (some (s.1, s.2.1, s.2.2.2)) else (Option.bind (f_X9_speech ((f_X11_without (f_X11_without (gI s.2.2.2 1 5) ((s.2.2.1 / (10 : Int32)) - (s.2.2.1 / (10 : Int32)) / (10 : Int32) * (10 : Int32))) (s.2.2.1 - s.2.2.1 / (10 : Int32) * (10 : Int32))) ||| ((1 : Int32) <<< ((s.2.2.1 / (100 : Int32)) &&& 31))) s.2.2.2) (fun p8 => if isSp p8.2 p8.1 = true then (onL p8.2 (Option.bind (f_X9_yearly p8.1 (-1 : Int32) p8.2) (fun p11 => mg (if s.1 = (-1 : Int32) then (some (.inl ())) else (if s.2.1 ≤ p11.1 then (some (.inr (s.1, s.2.1, p11.2))) else (some (.inl ())))) (fun p13 => some (s.2.2.1, p11.1, p11.2))))) else none))))))) (fun p3 => some (.inl (p3.1, p3.2.1, s.2.2.1 + (1 : Int32), p3.2.2))))
noncomputable def f_X10_exchange (x1 : Int32) (w : Mm) : Option (Int64 × Mm) := Option.bind (f_X3_all w) (fun p1 => Option.bind (wh (l_X10_exchange_26 x1 (p1 &&& ((gI w 1 5) ^^^ (-1 : Int32)))) FUEL ((-1 : Int32), (0 : Int64), (0 : Int32), w)) (fun p2 => if x1 = 0 then (some ((p2.1 / (100 : Int32)).toInt64, p2.2.2)) else (if x1 = 1 then (some (((p2.1 / (10 : Int32)) - (p2.1 / (10 : Int32)) / (10 : Int32) * (10 : Int32)).toInt64, p2.2.2)) else (if x1 = 2 then (some ((p2.1 - p2.1 / (10 : Int32) * (10 : Int32)).toInt64, p2.2.2)) else (some (p2.2.1, p2.2.2))))))
set_option maxHeartbeats 4000000 in
set_option maxRecDepth 100000 in
theorem t_l_X10_exchange_26 {g : Gx} {V : Vt} {d : Nat} (S : MachB g yX10_exchange cX10_exchange 13 (d + 5) V) {x1 : Int32} {x5 : Int32}  (s : Int32 × Int64 × Int32 × Mm) (e : (Int32 × Int64 × Int32 × Mm) ⊕ (Int32 × Int64 × Mm)) (h : l_X10_exchange_26 x1 x5 s = some e) (hC : ∀ s2, e = .inl s2 → V 26 [some (rf g 44), some (.int x1), some (.int s2.1), some (.long s2.2.1), none, some (.int x5), some (.int s2.2.2.1), none, none, none, none, none, none] [] s2.2.2.2) (hE : ∀ x, e = .inr x → V 172 [none, some (.int x1), some (.int x.1), some (.long x.2.1), none, none, none, none, none, none, none, none, none] [] x.2.2) : V 26 [some (rf g 44), some (.int x1), some (.int s.1), some (.long s.2.1), none, some (.int x5), some (.int s.2.2.1), none, none, none, none, none, none] [] s.2.2.2 := by
  unfold l_X10_exchange_26 at h
  refine i_iload S dX10_exchange_26 rfl ?_
  refine i_sipush (v := 1000) S dX10_exchange_28 sp_1000 ?_
  refine i_icmp_ge (tgt := 172) S dX10_exchange_31 (by decide) (fun q1 => ?_) (fun q1 => ?_)
  · replace h := (if_pos q1).symm.trans h
    refine i_mask (L1 := [none, some (.int x1), some (.int s.1), some (.long s.2.1), none, none, none, none, none, none, none, none, none]) S [false, true, true, true, false, false, false, false, false, false, false, false, false] rfl ?_
    have hz := hE _ (Option.some.inj h).symm
    exact hz
  · replace h := (if_neg q1).symm.trans h
    refine i_iload S dX10_exchange_34 rfl ?_
    refine i_bipush (v := 100) S dX10_exchange_36 bp_100 ?_
    refine i_idiv S dX10_exchange_38 (by decide) ?_
    refine i_istore (L1 := [some (rf g 44), some (.int x1), some (.int s.1), some (.long s.2.1), none, some (.int x5), some (.int s.2.2.1), some (.int (s.2.2.1 / (100 : Int32))), none, none, none, none, none]) S dX10_exchange_39 (by decide) rfl ?_
    refine i_iload S dX10_exchange_41 rfl ?_
    refine i_bipush (v := 10) S dX10_exchange_43 bp_10 ?_
    refine i_idiv S dX10_exchange_45 (by decide) ?_
    refine i_bipush (v := 10) S dX10_exchange_46 bp_10 ?_
    refine i_irem S dX10_exchange_48 (by decide) ?_
    refine i_istore (L1 := [some (rf g 44), some (.int x1), some (.int s.1), some (.long s.2.1), none, some (.int x5), some (.int s.2.2.1), some (.int (s.2.2.1 / (100 : Int32))), some (.int ((s.2.2.1 / (10 : Int32)) - (s.2.2.1 / (10 : Int32)) / (10 : Int32) * (10 : Int32))), none, none, none, none]) S dX10_exchange_49 (by decide) rfl ?_
    refine i_iload S dX10_exchange_51 rfl ?_
    refine i_bipush (v := 10) S dX10_exchange_53 bp_10 ?_
    refine i_irem S dX10_exchange_55 (by decide) ?_
    refine i_istore (L1 := [some (rf g 44), some (.int x1), some (.int s.1), some (.long s.2.1), none, some (.int x5), some (.int s.2.2.1), some (.int (s.2.2.1 / (100 : Int32))), some (.int ((s.2.2.1 / (10 : Int32)) - (s.2.2.1 / (10 : Int32)) / (10 : Int32) * (10 : Int32))), some (.int (s.2.2.1 - s.2.2.1 / (10 : Int32) * (10 : Int32))), none, none, none]) S dX10_exchange_56 (by decide) rfl ?_
    refine i_iload S dX10_exchange_58 rfl ?_
    refine i_iload S dX10_exchange_60 rfl ?_
    refine i_callSN (As := [.int x5, .int (s.2.2.1 / (100 : Int32))]) (st1 := [.int (f_X11_contains x5 (s.2.2.1 / (100 : Int32)))]) S (c_X11_contains g (d + 4) rfl) mw_X11_contains lk_X10_19 im_X11_contains dX10_exchange_62 rfl rfl (Nat.le_of_ble_eq_true rfl) rfl ?_
    obtain ⟨p3, e3, h⟩ := bn h
    have hj3 : ∀ q3, p3 = q3 → V 166 [some (rf g 44), some (.int x1), some (.int q3.1), some (.long q3.2.1), none, some (.int x5), some (.int s.2.2.1), none, none, none, none, none, none] [] q3.2.2 := by
      intro q3 hq3
      subst hq3
      refine i_iinc (L1 := [some (rf g 44), some (.int x1), some (.int p3.1), some (.long p3.2.1), none, some (.int x5), some (.int (s.2.2.1 + (1 : Int32))), none, none, none, none, none, none]) S dX10_exchange_166 rfl ic_1 (by decide) rfl ?_
      refine i_goto (tgt := 26) S dX10_exchange_169 (by decide) ?_
      have hz := hC _ (Option.some.inj h).symm
      exact hz
    replace h := e3
    clear e3
    refine i_if_eq (tgt := 166) S dX10_exchange_65 (by decide) (fun q2 => ?_) (fun q2 => ?_)
    · replace h := (if_pos q2).symm.trans h
      refine i_mask (L1 := [some (rf g 44), some (.int x1), some (.int s.1), some (.long s.2.1), none, some (.int x5), some (.int s.2.2.1), none, none, none, none, none, none]) S [true, true, true, true, false, true, true, false, false, false, false, false, false] rfl ?_
      have hz := hj3 _ (Option.some.inj h).symm
      exact hz
    · replace h := (if_neg q2).symm.trans h
      refine i_iload S dX10_exchange_68 rfl ?_
      refine i_iload S dX10_exchange_70 rfl ?_
      refine i_icmp_ge (tgt := 166) S dX10_exchange_72 (by decide) (fun q4 => ?_) (fun q4 => ?_)
      · replace h := (if_pos q4).symm.trans h
        refine i_mask (L1 := [some (rf g 44), some (.int x1), some (.int s.1), some (.long s.2.1), none, some (.int x5), some (.int s.2.2.1), none, none, none, none, none, none]) S [true, true, true, true, false, true, true, false, false, false, false, false, false] rfl ?_
        have hz := hj3 _ (Option.some.inj h).symm
        exact hz
      · replace h := (if_neg q4).symm.trans h
        refine i_aload_n S dX10_exchange_75 rfl ?_
        obtain ⟨hL5, h⟩ := onLn h
        refine i_getR S fl_X10_9 (k44 hL5) (r44_0 hL5) rfl dX10_exchange_76 ?_
        refine i_getIv (v := gI s.2.2.2 1 5) S fl_X10_41 (k1 hL5) rfl rfl dX10_exchange_79 ?_
        refine i_iload S dX10_exchange_82 rfl ?_
        refine i_callSN (As := [.int (gI s.2.2.2 1 5), .int ((s.2.2.1 / (10 : Int32)) - (s.2.2.1 / (10 : Int32)) / (10 : Int32) * (10 : Int32))]) (st1 := [.int (f_X11_contains (gI s.2.2.2 1 5) ((s.2.2.1 / (10 : Int32)) - (s.2.2.1 / (10 : Int32)) / (10 : Int32) * (10 : Int32)))]) S (c_X11_contains g (d + 4) rfl) mw_X11_contains lk_X10_19 im_X11_contains dX10_exchange_84 rfl rfl (Nat.le_of_ble_eq_true rfl) rfl ?_
        refine i_if_eq (tgt := 166) S dX10_exchange_87 (by decide) (fun q6 => ?_) (fun q6 => ?_)
        · replace h := (if_pos q6).symm.trans h
          refine i_mask (L1 := [some (rf g 44), some (.int x1), some (.int s.1), some (.long s.2.1), none, some (.int x5), some (.int s.2.2.1), none, none, none, none, none, none]) S [true, true, true, true, false, true, true, false, false, false, false, false, false] rfl ?_
          have hz := hj3 _ (Option.some.inj h).symm
          exact hz
        · replace h := (if_neg q6).symm.trans h
          refine i_aload_n S dX10_exchange_90 rfl ?_
          refine i_getR S fl_X10_9 (k44 hL5) (r44_0 hL5) rfl dX10_exchange_91 ?_
          refine i_getIv (v := gI s.2.2.2 1 5) S fl_X10_41 (k1 hL5) rfl rfl dX10_exchange_94 ?_
          refine i_iload S dX10_exchange_97 rfl ?_
          refine i_callSN (As := [.int (gI s.2.2.2 1 5), .int (s.2.2.1 - s.2.2.1 / (10 : Int32) * (10 : Int32))]) (st1 := [.int (f_X11_contains (gI s.2.2.2 1 5) (s.2.2.1 - s.2.2.1 / (10 : Int32) * (10 : Int32)))]) S (c_X11_contains g (d + 4) rfl) mw_X11_contains lk_X10_19 im_X11_contains dX10_exchange_99 rfl rfl (Nat.le_of_ble_eq_true rfl) rfl ?_
          refine i_if_eq (tgt := 166) S dX10_exchange_102 (by decide) (fun q7 => ?_) (fun q7 => ?_)
          · replace h := (if_pos q7).symm.trans h
            refine i_mask (L1 := [some (rf g 44), some (.int x1), some (.int s.1), some (.long s.2.1), none, some (.int x5), some (.int s.2.2.1), none, none, none, none, none, none]) S [true, true, true, true, false, true, true, false, false, false, false, false, false] rfl ?_
            have hz := hj3 _ (Option.some.inj h).symm
            exact hz
          · replace h := (if_neg q7).symm.trans h
            refine i_aload_n S dX10_exchange_105 rfl ?_
            refine i_getR S fl_X10_9 (k44 hL5) (r44_0 hL5) rfl dX10_exchange_106 ?_
            refine i_getIv (v := gI s.2.2.2 1 5) S fl_X10_41 (k1 hL5) rfl rfl dX10_exchange_109 ?_
            refine i_iload S dX10_exchange_112 rfl ?_
            refine i_callSN (As := [.int (gI s.2.2.2 1 5), .int ((s.2.2.1 / (10 : Int32)) - (s.2.2.1 / (10 : Int32)) / (10 : Int32) * (10 : Int32))]) (st1 := [.int (f_X11_without (gI s.2.2.2 1 5) ((s.2.2.1 / (10 : Int32)) - (s.2.2.1 / (10 : Int32)) / (10 : Int32) * (10 : Int32)))]) S (c_X11_without g (d + 4) rfl) mw_X11_without lk_X10_23 im_X11_without dX10_exchange_114 rfl rfl (Nat.le_of_ble_eq_true rfl) rfl ?_
            refine i_iload S dX10_exchange_117 rfl ?_
            refine i_callSN (As := [.int (f_X11_without (gI s.2.2.2 1 5) ((s.2.2.1 / (10 : Int32)) - (s.2.2.1 / (10 : Int32)) / (10 : Int32) * (10 : Int32))), .int (s.2.2.1 - s.2.2.1 / (10 : Int32) * (10 : Int32))]) (st1 := [.int (f_X11_without (f_X11_without (gI s.2.2.2 1 5) ((s.2.2.1 / (10 : Int32)) - (s.2.2.1 / (10 : Int32)) / (10 : Int32) * (10 : Int32))) (s.2.2.1 - s.2.2.1 / (10 : Int32) * (10 : Int32)))]) S (c_X11_without g (d + 4) rfl) mw_X11_without lk_X10_23 im_X11_without dX10_exchange_119 rfl rfl (Nat.le_of_ble_eq_true rfl) rfl ?_
            refine i_istore (L1 := [some (rf g 44), some (.int x1), some (.int s.1), some (.long s.2.1), none, some (.int x5), some (.int s.2.2.1), some (.int (s.2.2.1 / (100 : Int32))), some (.int ((s.2.2.1 / (10 : Int32)) - (s.2.2.1 / (10 : Int32)) / (10 : Int32) * (10 : Int32))), some (.int (s.2.2.1 - s.2.2.1 / (10 : Int32) * (10 : Int32))), some (.int (f_X11_without (f_X11_without (gI s.2.2.2 1 5) ((s.2.2.1 / (10 : Int32)) - (s.2.2.1 / (10 : Int32)) / (10 : Int32) * (10 : Int32))) (s.2.2.1 - s.2.2.1 / (10 : Int32) * (10 : Int32)))), none, none]) S dX10_exchange_122 (by decide) rfl ?_
            refine i_aload_n S dX10_exchange_124 rfl ?_
            refine i_getR S fl_X10_15 (k44 hL5) (r44_1 hL5) rfl dX10_exchange_125 ?_
            refine i_aload_n S dX10_exchange_128 rfl ?_
            refine i_getR S fl_X10_15 (k44 hL5) (r44_1 hL5) rfl dX10_exchange_129 ?_
            refine i_iload S dX10_exchange_132 rfl ?_
            refine i_iconst (v := 1) S dX10_exchange_134 ic_1 ?_
            refine i_iload S dX10_exchange_135 rfl ?_
            refine i_ishl S dX10_exchange_137 ?_
            refine i_ior S dX10_exchange_138 ?_
            obtain ⟨p8, e8, h⟩ := bn h
            refine i_callV (As := [.int ((f_X11_without (f_X11_without (gI s.2.2.2 1 5) ((s.2.2.1 / (10 : Int32)) - (s.2.2.1 / (10 : Int32)) / (10 : Int32) * (10 : Int32))) (s.2.2.1 - s.2.2.1 / (10 : Int32) * (10 : Int32))) ||| ((1 : Int32) <<< ((s.2.2.1 / (100 : Int32)) &&& 31)))]) (st1 := [rf g p8.1, rf g 14]) S (c_X9_speech g d hL5 e8) mw_X9_speech lk_X10_27 im_X9_speech se_X9_speech ci_9.1 ci_9.2.1 (k14 hL5) dX10_exchange_139 rfl rfl (Nat.le_of_ble_eq_true rfl) rfl ?_
            refine i_iconst (v := -1) S dX10_exchange_142 ic_m1 ?_
            obtain ⟨hs9, h⟩ := gd h
            obtain ⟨hL10, h⟩ := onLn h
            obtain ⟨p11, e11, h⟩ := bn h
            refine i_callV (As := [rf g p8.1, .int ((-1 : Int32))]) (st1 := [.long p11.1]) S (c_X9_yearly g d hL10 hs9 e11) mw_X9_yearly lk_X10_33 im_X9_yearly se_X9_yearly ci_9.1 ci_9.2.1 (k14 hL10) dX10_exchange_143 rfl rfl (Nat.le_of_ble_eq_true rfl) rfl ?_
            refine i_lstore (L1 := [some (rf g 44), some (.int x1), some (.int s.1), some (.long s.2.1), none, some (.int x5), some (.int s.2.2.1), some (.int (s.2.2.1 / (100 : Int32))), some (.int ((s.2.2.1 / (10 : Int32)) - (s.2.2.1 / (10 : Int32)) / (10 : Int32) * (10 : Int32))), some (.int (s.2.2.1 - s.2.2.1 / (10 : Int32) * (10 : Int32))), some (.int (f_X11_without (f_X11_without (gI s.2.2.2 1 5) ((s.2.2.1 / (10 : Int32)) - (s.2.2.1 / (10 : Int32)) / (10 : Int32) * (10 : Int32))) (s.2.2.1 - s.2.2.1 / (10 : Int32) * (10 : Int32)))), some (.long p11.1), none]) S dX10_exchange_146 (by decide) rfl ?_
            refine i_iload_n S dX10_exchange_148 rfl ?_
            refine i_iconst (v := -1) S dX10_exchange_149 ic_m1 ?_
            obtain ⟨s13, e13, hm13, ho13⟩ := mgn h
            have hj13 : ∀ p13, s13 = .inl p13 → V 160 [some (rf g 44), some (.int x1), none, none, none, some (.int x5), some (.int s.2.2.1), none, none, none, none, some (.long p11.1), none] [] p11.2 := by
              intro p13 ep13
              have h := hm13 p13 ep13
              refine i_iload S dX10_exchange_160 rfl ?_
              refine i_istore_n (L1 := [some (rf g 44), some (.int x1), some (.int s.2.2.1), none, none, some (.int x5), some (.int s.2.2.1), none, none, none, none, some (.long p11.1), none]) S dX10_exchange_162 (by decide) rfl ?_
              refine i_lload S dX10_exchange_163 rfl ?_
              refine i_lstore_n (L1 := [some (rf g 44), some (.int x1), some (.int s.2.2.1), some (.long p11.1), none, some (.int x5), some (.int s.2.2.1), none, none, none, none, some (.long p11.1), none]) S dX10_exchange_165 (by decide) rfl ?_
              refine i_mask (L1 := [some (rf g 44), some (.int x1), some (.int s.2.2.1), some (.long p11.1), none, some (.int x5), some (.int s.2.2.1), none, none, none, none, none, none]) S [true, true, true, true, false, true, true, false, false, false, false, false, false] rfl ?_
              have hz := hj3 _ (Option.some.inj h).symm
              exact hz
            replace h := e13
            clear e13
            refine i_icmp_eq (tgt := 160) S dX10_exchange_150 (by decide) (fun q12 => ?_) (fun q12 => ?_)
            · replace h := (if_pos q12).symm.trans h
              refine i_mask (L1 := [some (rf g 44), some (.int x1), none, none, none, some (.int x5), some (.int s.2.2.1), none, none, none, none, some (.long p11.1), none]) S [true, true, false, false, false, true, true, false, false, false, false, true, false] rfl ?_
              have hz := hj13 _ (Option.some.inj h).symm
              exact hz
            · replace h := (if_neg q12).symm.trans h
              refine i_lload S dX10_exchange_153 rfl ?_
              refine i_lload_n S dX10_exchange_155 rfl ?_
              refine i_lc_ge (tgt := 166) S dX10_exchange_156 dX10_exchange_157 (by decide) (fun q14 => ?_) (fun q14 => ?_)
              · replace h := (if_pos q14).symm.trans h
                replace h := ho13 _ (Option.some.inj h).symm
                refine i_mask (L1 := [some (rf g 44), some (.int x1), some (.int s.1), some (.long s.2.1), none, some (.int x5), some (.int s.2.2.1), none, none, none, none, none, none]) S [true, true, true, true, false, true, true, false, false, false, false, false, false] rfl ?_
                have hz := hj3 _ (Option.some.inj h).symm
                exact hz
              · replace h := (if_neg q14).symm.trans h
                refine i_mask (L1 := [some (rf g 44), some (.int x1), none, none, none, some (.int x5), some (.int s.2.2.1), none, none, none, none, some (.long p11.1), none]) S [true, true, false, false, false, true, true, false, false, false, false, true, false] rfl ?_
                have hz := hj13 _ (Option.some.inj h).symm
                exact hz
set_option maxHeartbeats 4000000 in
set_option maxRecDepth 100000 in
theorem c_X10_exchange (g : Gx) (d : Nat) {x1 : Int32} {w : Mm} {p : (Int64 × Mm)} (hL : Lay w) (h : f_X10_exchange x1 w = some p) : Call g (d + 6) yX10_exchange cX10_exchange 13 (some .long) [rf g 44, .int x1] w (some (.long p.1)) p.2 := by
  refine call_of (L0 := [some (rf g 44), some (.int x1), none, none, none, none, none, none, none, none, none, none, none]) (by decide) rfl (Nat.le_of_ble_eq_true rfl) (fun V S0 => ?_)
  have S := S0.b
  unfold f_X10_exchange at h
  refine i_iconst (v := -1) S dX10_exchange_0 ic_m1 ?_
  refine i_istore_n (L1 := [some (rf g 44), some (.int x1), some (.int ((-1 : Int32))), none, none, none, none, none, none, none, none, none, none]) S dX10_exchange_1 (by decide) rfl ?_
  refine i_lconst (v := 0) S dX10_exchange_2 lc_0 ?_
  refine i_lstore_n (L1 := [some (rf g 44), some (.int x1), some (.int ((-1 : Int32))), some (.long ((0 : Int64))), none, none, none, none, none, none, none, none, none]) S dX10_exchange_3 (by decide) rfl ?_
  refine i_aload_n S dX10_exchange_4 rfl ?_
  refine i_getR S fl_X10_9 (k44 hL) (r44_0 hL) rfl dX10_exchange_5 ?_
  obtain ⟨p1, e1, h⟩ := bn h
  refine i_callV (As := []) (st1 := [.int p1]) S (c_X3_all g (d + 4) hL e1) mw_X3_all lk_X10_79 im_X3_all se_X3_all ci_3.1 ci_3.2.1 (k1 hL) dX10_exchange_8 rfl rfl (Nat.le_of_ble_eq_true rfl) rfl ?_
  refine i_aload_n S dX10_exchange_11 rfl ?_
  refine i_getR S fl_X10_9 (k44 hL) (r44_0 hL) rfl dX10_exchange_12 ?_
  refine i_getIv (v := gI w 1 5) S fl_X10_41 (k1 hL) rfl rfl dX10_exchange_15 ?_
  refine i_iconst (v := -1) S dX10_exchange_18 ic_m1 ?_
  refine i_ixor S dX10_exchange_19 ?_
  refine i_iand S dX10_exchange_20 ?_
  refine i_istore (L1 := [some (rf g 44), some (.int x1), some (.int ((-1 : Int32))), some (.long ((0 : Int64))), none, some (.int (p1 &&& ((gI w 1 5) ^^^ (-1 : Int32)))), none, none, none, none, none, none, none]) S dX10_exchange_21 (by decide) rfl ?_
  refine i_iconst (v := 0) S dX10_exchange_23 ic_0 ?_
  refine i_istore (L1 := [some (rf g 44), some (.int x1), some (.int ((-1 : Int32))), some (.long ((0 : Int64))), none, some (.int (p1 &&& ((gI w 1 5) ^^^ (-1 : Int32)))), some (.int ((0 : Int32))), none, none, none, none, none, none]) S dX10_exchange_24 (by decide) rfl ?_
  obtain ⟨p2, e2, h⟩ := bn h
  have hE2 : V 172 [none, some (.int x1), some (.int p2.1), some (.long p2.2.1), none, none, none, none, none, none, none, none, none] [] p2.2.2 := by
    refine i_iload_n S dX10_exchange_172 rfl ?_
    by_cases q3 : x1 = 0
    · replace h := (if_pos q3).symm.trans h
      refine i_tswIn (tgt := 200) (off := 27) S dX10_exchange_173 (by rw [q3]; decide) (by rw [q3]; decide) (by rw [q3]; decide) (by decide) ?_
      refine i_iload_n S dX10_exchange_200 rfl ?_
      refine i_bipush (v := 100) S dX10_exchange_201 bp_100 ?_
      refine i_idiv S dX10_exchange_203 (by decide) ?_
      refine i_i2l S dX10_exchange_204 ?_
      cases h
      exact i_lret S0 dX10_exchange_205
    · replace h := (if_neg q3).symm.trans h
      by_cases q4 : x1 = 1
      · replace h := (if_pos q4).symm.trans h
        refine i_tswIn (tgt := 206) (off := 33) S dX10_exchange_173 (by rw [q4]; decide) (by rw [q4]; decide) (by rw [q4]; decide) (by decide) ?_
        refine i_iload_n S dX10_exchange_206 rfl ?_
        refine i_bipush (v := 10) S dX10_exchange_207 bp_10 ?_
        refine i_idiv S dX10_exchange_209 (by decide) ?_
        refine i_bipush (v := 10) S dX10_exchange_210 bp_10 ?_
        refine i_irem S dX10_exchange_212 (by decide) ?_
        refine i_i2l S dX10_exchange_213 ?_
        cases h
        exact i_lret S0 dX10_exchange_214
      · replace h := (if_neg q4).symm.trans h
        by_cases q5 : x1 = 2
        · replace h := (if_pos q5).symm.trans h
          refine i_tswIn (tgt := 215) (off := 42) S dX10_exchange_173 (by rw [q5]; decide) (by rw [q5]; decide) (by rw [q5]; decide) (by decide) ?_
          refine i_iload_n S dX10_exchange_215 rfl ?_
          refine i_bipush (v := 10) S dX10_exchange_216 bp_10 ?_
          refine i_irem S dX10_exchange_218 (by decide) ?_
          refine i_i2l S dX10_exchange_219 ?_
          cases h
          exact i_lret S0 dX10_exchange_220
        · replace h := (if_neg q5).symm.trans h
          refine i_tswD (tgt := 221) S dX10_exchange_173 (by decide) (fun j hj => match j, hj with | 0, _ => Or.inr (tsne q3 (by decide)) | 1, _ => Or.inr (tsne q4 (by decide)) | 2, _ => Or.inr (tsne q5 (by decide)) | j + 3, hj => absurd hj (by show ¬ j + 3 < 3; omega)) (by decide) ?_
          refine i_lload_n S dX10_exchange_221 rfl ?_
          cases h
          exact i_lret S0 dX10_exchange_222
  exact wh_V (P := fun sv2 => V 26 [some (rf g 44), some (.int x1), some (.int sv2.1), some (.long sv2.2.1), none, some (.int (p1 &&& ((gI w 1 5) ^^^ (-1 : Int32)))), some (.int sv2.2.2.1), none, none, none, none, none, none] [] sv2.2.2.2) (E := fun xv2 => V 172 [none, some (.int x1), some (.int xv2.1), some (.long xv2.2.1), none, none, none, none, none, none, none, none, none] [] xv2.2.2) (fun sv2 ev hb hc he => t_l_X10_exchange_26   S  sv2 ev hb hc he) FUEL _ _ e2 hE2
/-! WordYear.<init> -/
noncomputable def l_X11_init_81 (o0 : Nat) (s : Int32 × Mm) : Option ((Int32 × Mm) ⊕ (Mm)) := if (4 : Int32) ≤ s.1 then (some (.inr s.2)) else (if gK s.2 o0 = some (11, 10) then (Option.bind (gR s.2 o0 5) (fun a3 => Option.bind (alq s.2 6 9) (fun p4 => Option.bind (gR p4.2 o0 2) (fun a5 => Option.bind (gR p4.2 o0 0) (fun a6 => Option.bind (f_X6_init p4.1 a5 a6 p4.2) (fun p7 => if gK p7 a3 = some (25, 4) then (if gK p7 p4.1 = some (6, 9) then (if inb s.1 4 = true then (some (.inl (s.1 + (1 : Int32), sR p7 a3 (ix s.1) (some p4.1)))) else none) else none) else none)))))) else none)
noncomputable def f_X11_init (o0 : Nat) (w : Mm) : Option Mm := Option.bind (alq w 3 7) (fun p1 => Option.bind (f_X3_init p1.1 p1.2) (fun p2 => if gK p2 o0 = some (11, 10) then (Option.bind (alq (sR p2 o0 0 (some p1.1)) 1 7) (fun p4 => Option.bind (f_X1_init p4.1 p4.2) (fun p5 => if gK p5 o0 = some (11, 10) then (Option.bind (alq (sR p5 o0 1 (some p4.1)) 8 5) (fun p7 => Option.bind (f_X8_init p7.1 p7.2) (fun p8 => if gK p8 o0 = some (11, 10) then (Option.bind (alq (sR p8 o0 2 (some p7.1)) 9 6) (fun p10 => Option.bind (gR p10.2 o0 0) (fun a11 => Option.bind (gR p10.2 o0 1) (fun a12 => Option.bind (f_X9_init p10.1 a11 a12 p10.2) (fun p13 => if gK p13 o0 = some (11, 10) then (Option.bind (alq (sR p13 o0 3 (some p10.1)) 5 2) (fun p15 => Option.bind (gR p15.2 o0 2) (fun a16 => Option.bind (f_X5_init p15.1 a16 p15.2) (fun p17 => if gK p17 o0 = some (11, 10) then (Option.bind (alq (sR p17 o0 4 (some p15.1)) 25 4) (fun p19 => Option.bind (wh (l_X11_init_81 o0) FUEL ((0 : Int32), sR p19.2 o0 5 (some p19.1))) (fun p20 => Option.bind (alq p20 6 9) (fun p21 => if gK p21.2 o0 = some (11, 10) then (Option.bind (gR p21.2 o0 2) (fun a23 => Option.bind (gR p21.2 o0 0) (fun a24 => Option.bind (f_X6_init p21.1 a23 a24 p21.2) (fun p25 => if gK p25 o0 = some (11, 10) then (Option.bind (alq (sR p25 o0 6 (some p21.1)) 0 5) (fun p27 => Option.bind (gR p27.2 o0 0) (fun a28 => Option.bind (gR p27.2 o0 1) (fun a29 => Option.bind (gR p27.2 o0 3) (fun a30 => Option.bind (f_X0_init p27.1 a28 a29 a30 p27.2) (fun p31 => if gK p31 o0 = some (11, 10) then (Option.bind (alq (sR p31 o0 7 (some p27.1)) 10 2) (fun p33 => Option.bind (gR p33.2 o0 0) (fun a34 => Option.bind (gR p33.2 o0 3) (fun a35 => Option.bind (f_X10_init p33.1 a34 a35 p33.2) (fun p36 => if gK p36 o0 = some (11, 10) then (Option.bind (alq (sR p36 o0 8 (some p33.1)) 2 3) (fun p38 => Option.bind (gR p38.2 o0 0) (fun a39 => Option.bind (gR p38.2 o0 3) (fun a40 => Option.bind (f_X2_init p38.1 a39 a40 p38.2) (fun p41 => if gK p41 o0 = some (11, 10) then (some (sR p41 o0 9 (some p38.1))) else none))))) else none))))) else none)))))) else none)))) else none)))) else none)))) else none))))) else none))) else none))) else none))
set_option maxHeartbeats 4000000 in
set_option maxRecDepth 100000 in
theorem t_l_X11_init_81 {g : Gx} {V : Vt} {d : Nat} (S : MachB g yX11_init cX11_init 2 (d + 2) V) {o0 : Nat}  (s : Int32 × Mm) (e : (Int32 × Mm) ⊕ (Mm)) (h : l_X11_init_81 o0 s = some e) (hC : ∀ s2, e = .inl s2 → V 81 [some (rf g o0), some (.int s2.1)] [] s2.2) (hE : ∀ x, e = .inr x → V 113 [some (rf g o0), none] [] x) : V 81 [some (rf g o0), some (.int s.1)] [] s.2 := by
  unfold l_X11_init_81 at h
  refine i_iload_n S dX11_init_81 rfl ?_
  refine i_iconst (v := 4) S dX11_init_82 ic_4 ?_
  refine i_icmp_ge (tgt := 113) S dX11_init_83 (by decide) (fun q1 => ?_) (fun q1 => ?_)
  · replace h := (if_pos q1).symm.trans h
    refine i_mask (L1 := [some (rf g o0), none]) S [true, false] rfl ?_
    have hz := hE _ (Option.some.inj h).symm
    exact hz
  · replace h := (if_neg q1).symm.trans h
    refine i_aload_n S dX11_init_86 rfl ?_
    obtain ⟨hk2, h⟩ := gd h
    obtain ⟨a3, hr3, h⟩ := bn h
    refine i_getR S fl_X11_50 hk2 hr3 rfl dX11_init_87 ?_
    refine i_iload_n S dX11_init_90 rfl ?_
    obtain ⟨p4, e4, h⟩ := bn h
    refine i_newq S CL_X11_48 e4 dX11_init_91 ?_
    refine i_dup S dX11_init_94 rfl ?_
    refine i_aload_n S dX11_init_95 rfl ?_
    obtain ⟨a5, hr5, h⟩ := bn h
    refine i_getR S fl_X11_26 (alq_old e4 hk2) hr5 rfl dX11_init_96 ?_
    refine i_aload_n S dX11_init_99 rfl ?_
    obtain ⟨a6, hr6, h⟩ := bn h
    refine i_getR S fl_X11_10 (alq_old e4 hk2) hr6 rfl dX11_init_100 ?_
    obtain ⟨p7, e7, h⟩ := bn h
    refine i_callI (As := [rf g a5, rf g a6]) (st1 := [rf g p4.1, .int s.1, rf g a3]) S (c_X6_init g (d + 1) e7) mw_X6_init rfl rfl lk_X11_54 im_X6_init dX11_init_103 rfl rfl (Nat.le_of_ble_eq_true rfl) rfl ?_
    obtain ⟨hk8, h⟩ := gd h
    obtain ⟨hk9, h⟩ := gd h
    obtain ⟨hi11, h⟩ := gd h
    refine i_aast25 S hk8 hk9 hi11 dX11_init_106 ?_
    refine i_iinc (L1 := [some (rf g o0), some (.int (s.1 + (1 : Int32)))]) S dX11_init_107 rfl ic_1 (by decide) rfl ?_
    refine i_goto (tgt := 81) S dX11_init_110 (by decide) ?_
    have hz := hC _ (Option.some.inj h).symm
    exact hz
set_option maxHeartbeats 4000000 in
set_option maxRecDepth 100000 in
theorem c_X11_init (g : Gx) (d : Nat) {o0 : Nat} {w : Mm} {p : Mm}  (h : f_X11_init o0 w = some p) : Call g (d + 3) yX11_init cX11_init 2 none [rf g o0] w none p := by
  refine call_of (L0 := [some (rf g o0), none]) (by decide) rfl (Nat.le_of_ble_eq_true rfl) (fun V S0 => ?_)
  have S := S0.b
  unfold f_X11_init at h
  refine i_aload_n S dX11_init_0 rfl ?_
  refine i_objInit S lk_X11_1 im_obj cd_obj dX11_init_1 (Nat.le_of_ble_eq_true rfl) ?_
  refine i_aload_n S dX11_init_4 rfl ?_
  obtain ⟨p1, e1, h⟩ := bn h
  refine i_newq S CL_X11_7 e1 dX11_init_5 ?_
  refine i_dup S dX11_init_8 rfl ?_
  obtain ⟨p2, e2, h⟩ := bn h
  refine i_callIN (As := []) (st1 := [rf g p1.1, rf g o0]) S (c_X3_init g (d + 1) e2) mw_X3_init rfl rfl lk_X11_9 im_X3_init dX11_init_9 rfl rfl (Nat.le_of_ble_eq_true rfl) rfl ?_
  obtain ⟨hk3, h⟩ := gd h
  refine i_putFR (x := some p1.1) S fl_X11_10 hk3 rfl rfl (fun C T h => ci_d11 h 0 (by decide)) rfl rfl dX11_init_12 ?_
  refine i_aload_n S dX11_init_15 rfl ?_
  obtain ⟨p4, e4, h⟩ := bn h
  refine i_newq S CL_X11_16 e4 dX11_init_16 ?_
  refine i_dup S dX11_init_19 rfl ?_
  obtain ⟨p5, e5, h⟩ := bn h
  refine i_callIN (As := []) (st1 := [rf g p4.1, rf g o0]) S (c_X1_init g (d + 1) e5) mw_X1_init rfl rfl lk_X11_18 im_X1_init dX11_init_20 rfl rfl (Nat.le_of_ble_eq_true rfl) rfl ?_
  obtain ⟨hk6, h⟩ := gd h
  refine i_putFR (x := some p4.1) S fl_X11_19 hk6 rfl rfl (fun C T h => ci_d11 h 1 (by decide)) rfl rfl dX11_init_23 ?_
  refine i_aload_n S dX11_init_26 rfl ?_
  obtain ⟨p7, e7, h⟩ := bn h
  refine i_newq S CL_X11_23 e7 dX11_init_27 ?_
  refine i_dup S dX11_init_30 rfl ?_
  obtain ⟨p8, e8, h⟩ := bn h
  refine i_callIN (As := []) (st1 := [rf g p7.1, rf g o0]) S (c_X8_init g (d + 1) e8) mw_X8_init rfl rfl lk_X11_25 im_X8_init dX11_init_31 rfl rfl (Nat.le_of_ble_eq_true rfl) rfl ?_
  obtain ⟨hk9, h⟩ := gd h
  refine i_putFR (x := some p7.1) S fl_X11_26 hk9 rfl rfl (fun C T h => ci_d11 h 2 (by decide)) rfl rfl dX11_init_34 ?_
  refine i_aload_n S dX11_init_37 rfl ?_
  obtain ⟨p10, e10, h⟩ := bn h
  refine i_newq S CL_X11_30 e10 dX11_init_38 ?_
  refine i_dup S dX11_init_41 rfl ?_
  refine i_aload_n S dX11_init_42 rfl ?_
  obtain ⟨a11, hr11, h⟩ := bn h
  refine i_getR S fl_X11_10 (alq_old e10 hk9) hr11 rfl dX11_init_43 ?_
  refine i_aload_n S dX11_init_46 rfl ?_
  obtain ⟨a12, hr12, h⟩ := bn h
  refine i_getR S fl_X11_19 (alq_old e10 hk9) hr12 rfl dX11_init_47 ?_
  obtain ⟨p13, e13, h⟩ := bn h
  refine i_callI (As := [rf g a11, rf g a12]) (st1 := [rf g p10.1, rf g o0]) S (c_X9_init g d e13) mw_X9_init rfl rfl lk_X11_32 im_X9_init dX11_init_50 rfl rfl (Nat.le_of_ble_eq_true rfl) rfl ?_
  obtain ⟨hk14, h⟩ := gd h
  refine i_putFR (x := some p10.1) S fl_X11_35 hk14 rfl rfl (fun C T h => ci_d11 h 3 (by decide)) rfl rfl dX11_init_53 ?_
  refine i_aload_n S dX11_init_56 rfl ?_
  obtain ⟨p15, e15, h⟩ := bn h
  refine i_newq S CL_X11_39 e15 dX11_init_57 ?_
  refine i_dup S dX11_init_60 rfl ?_
  refine i_aload_n S dX11_init_61 rfl ?_
  obtain ⟨a16, hr16, h⟩ := bn h
  refine i_getR S fl_X11_26 (alq_old e15 hk14) hr16 rfl dX11_init_62 ?_
  obtain ⟨p17, e17, h⟩ := bn h
  refine i_callI (As := [rf g a16]) (st1 := [rf g p15.1, rf g o0]) S (c_X5_init g d e17) mw_X5_init rfl rfl lk_X11_41 im_X5_init dX11_init_65 rfl rfl (Nat.le_of_ble_eq_true rfl) rfl ?_
  obtain ⟨hk18, h⟩ := gd h
  refine i_putFR (x := some p15.1) S fl_X11_44 hk18 rfl rfl (fun C T h => ci_d11 h 4 (by decide)) rfl rfl dX11_init_68 ?_
  refine i_aload_n S dX11_init_71 rfl ?_
  refine i_iconst (v := 4) S dX11_init_72 ic_4 ?_
  obtain ⟨p19, e19, h⟩ := bn h
  refine i_anewq25 (N := 4) S cl_X11_48 ao_6 (by decide) (by decide) (by decide) e19 dX11_init_73 ?_
  refine i_putFR (x := some p19.1) S fl_X11_50 (alq_old e19 hk18) rfl rfl (fun C T h => ci_d11 h 5 (by decide)) rfl rfl dX11_init_76 ?_
  refine i_iconst (v := 0) S dX11_init_79 ic_0 ?_
  refine i_istore_n (L1 := [some (rf g o0), some (.int ((0 : Int32)))]) S dX11_init_80 (by decide) rfl ?_
  obtain ⟨p20, e20, h⟩ := bn h
  have hE20 : V 113 [some (rf g o0), none] [] p20 := by
    refine i_aload_n S dX11_init_113 rfl ?_
    obtain ⟨p21, e21, h⟩ := bn h
    refine i_newq S CL_X11_48 e21 dX11_init_114 ?_
    refine i_dup S dX11_init_117 rfl ?_
    refine i_aload_n S dX11_init_118 rfl ?_
    obtain ⟨hk22, h⟩ := gd h
    obtain ⟨a23, hr23, h⟩ := bn h
    refine i_getR S fl_X11_26 hk22 hr23 rfl dX11_init_119 ?_
    refine i_aload_n S dX11_init_122 rfl ?_
    obtain ⟨a24, hr24, h⟩ := bn h
    refine i_getR S fl_X11_10 hk22 hr24 rfl dX11_init_123 ?_
    obtain ⟨p25, e25, h⟩ := bn h
    refine i_callI (As := [rf g a23, rf g a24]) (st1 := [rf g p21.1, rf g o0]) S (c_X6_init g (d + 1) e25) mw_X6_init rfl rfl lk_X11_54 im_X6_init dX11_init_126 rfl rfl (Nat.le_of_ble_eq_true rfl) rfl ?_
    obtain ⟨hk26, h⟩ := gd h
    refine i_putFR (x := some p21.1) S fl_X11_57 hk26 rfl rfl (fun C T h => ci_d11 h 6 (by decide)) rfl rfl dX11_init_129 ?_
    refine i_aload_n S dX11_init_132 rfl ?_
    obtain ⟨p27, e27, h⟩ := bn h
    refine i_newq S CL_X11_61 e27 dX11_init_133 ?_
    refine i_dup S dX11_init_136 rfl ?_
    refine i_aload_n S dX11_init_137 rfl ?_
    obtain ⟨a28, hr28, h⟩ := bn h
    refine i_getR S fl_X11_10 (alq_old e27 hk26) hr28 rfl dX11_init_138 ?_
    refine i_aload_n S dX11_init_141 rfl ?_
    obtain ⟨a29, hr29, h⟩ := bn h
    refine i_getR S fl_X11_19 (alq_old e27 hk26) hr29 rfl dX11_init_142 ?_
    refine i_aload_n S dX11_init_145 rfl ?_
    obtain ⟨a30, hr30, h⟩ := bn h
    refine i_getR S fl_X11_35 (alq_old e27 hk26) hr30 rfl dX11_init_146 ?_
    obtain ⟨p31, e31, h⟩ := bn h
    refine i_callI (As := [rf g a28, rf g a29, rf g a30]) (st1 := [rf g p27.1, rf g o0]) S (c_X0_init g (d + 1) e31) mw_X0_init rfl rfl lk_X11_63 im_X0_init dX11_init_149 rfl rfl (Nat.le_of_ble_eq_true rfl) rfl ?_
    obtain ⟨hk32, h⟩ := gd h
    refine i_putFR (x := some p27.1) S fl_X11_66 hk32 rfl rfl (fun C T h => ci_d11 h 7 (by decide)) rfl rfl dX11_init_152 ?_
    refine i_aload_n S dX11_init_155 rfl ?_
    obtain ⟨p33, e33, h⟩ := bn h
    refine i_newq S CL_X11_70 e33 dX11_init_156 ?_
    refine i_dup S dX11_init_159 rfl ?_
    refine i_aload_n S dX11_init_160 rfl ?_
    obtain ⟨a34, hr34, h⟩ := bn h
    refine i_getR S fl_X11_10 (alq_old e33 hk32) hr34 rfl dX11_init_161 ?_
    refine i_aload_n S dX11_init_164 rfl ?_
    obtain ⟨a35, hr35, h⟩ := bn h
    refine i_getR S fl_X11_35 (alq_old e33 hk32) hr35 rfl dX11_init_165 ?_
    obtain ⟨p36, e36, h⟩ := bn h
    refine i_callI (As := [rf g a34, rf g a35]) (st1 := [rf g p33.1, rf g o0]) S (c_X10_init g (d + 1) e36) mw_X10_init rfl rfl lk_X11_72 im_X10_init dX11_init_168 rfl rfl (Nat.le_of_ble_eq_true rfl) rfl ?_
    obtain ⟨hk37, h⟩ := gd h
    refine i_putFR (x := some p33.1) S fl_X11_75 hk37 rfl rfl (fun C T h => ci_d11 h 8 (by decide)) rfl rfl dX11_init_171 ?_
    refine i_aload_n S dX11_init_174 rfl ?_
    obtain ⟨p38, e38, h⟩ := bn h
    refine i_newq S CL_X11_79 e38 dX11_init_175 ?_
    refine i_dup S dX11_init_178 rfl ?_
    refine i_aload_n S dX11_init_179 rfl ?_
    obtain ⟨a39, hr39, h⟩ := bn h
    refine i_getR S fl_X11_10 (alq_old e38 hk37) hr39 rfl dX11_init_180 ?_
    refine i_aload_n S dX11_init_183 rfl ?_
    obtain ⟨a40, hr40, h⟩ := bn h
    refine i_getR S fl_X11_35 (alq_old e38 hk37) hr40 rfl dX11_init_184 ?_
    obtain ⟨p41, e41, h⟩ := bn h
    refine i_callI (As := [rf g a39, rf g a40]) (st1 := [rf g p38.1, rf g o0]) S (c_X2_init g (d + 1) e41) mw_X2_init rfl rfl lk_X11_81 im_X2_init dX11_init_187 rfl rfl (Nat.le_of_ble_eq_true rfl) rfl ?_
    obtain ⟨hk42, h⟩ := gd h
    refine i_putFR (x := some p38.1) S fl_X11_82 hk42 rfl rfl (fun C T h => ci_d11 h 9 (by decide)) rfl rfl dX11_init_190 ?_
    cases h
    exact i_vret S0 dX11_init_193
  exact wh_V (P := fun sv20 => V 81 [some (rf g o0), some (.int sv20.1)] [] sv20.2) (E := fun xv20 => V 113 [some (rf g o0), none] [] xv20) (fun sv20 ev hb hc he => t_l_X11_init_81   S  sv20 ev hb hc he) FUEL _ _ e20 hE20
/-! WordYear.word -/
noncomputable def f_X11_word (x1 : Int32) (x2 : Int32) (x3 : Int32) (w : Mm) : Option (Int32 × Mm) := if (f_X11_within x1 (0 : Int32) (3 : Int32)) = 0 then (some ((-1 : Int32), w)) else (if (f_X11_within x2 (0 : Int32) (63 : Int32)) = 0 then (some ((-1 : Int32), w)) else (if (f_X11_within x3 (1 : Int32) (9 : Int32)) = 0 then (some ((-1 : Int32), w)) else (Option.bind (f_X3_add x1 x2 x3 w) (fun p4 => some (p4.1, p4.2)))))
set_option maxHeartbeats 4000000 in
set_option maxRecDepth 100000 in
theorem c_X11_word (g : Gx) (d : Nat) {x1 : Int32} {x2 : Int32} {x3 : Int32} {w : Mm} {p : (Int32 × Mm)} (hL : Lay w) (h : f_X11_word x1 x2 x3 w = some p) : Call g (d + 2) yX11_word cX11_word 4 (some .int) [rf g 0, .int x1, .int x2, .int x3] w (some (.int p.1)) p.2 := by
  refine call_of (L0 := [some (rf g 0), some (.int x1), some (.int x2), some (.int x3)]) (by decide) rfl (Nat.le_of_ble_eq_true rfl) (fun V S0 => ?_)
  have S := S0.b
  unfold f_X11_word at h
  refine i_iload_n S dX11_word_0 rfl ?_
  refine i_iconst (v := 0) S dX11_word_1 ic_0 ?_
  refine i_iconst (v := 3) S dX11_word_2 ic_3 ?_
  refine i_callS (As := [.int x1, .int ((0 : Int32)), .int ((3 : Int32))]) (st1 := [.int (f_X11_within x1 (0 : Int32) (3 : Int32))]) S (c_X11_within g d rfl) mw_X11_within lk_X11_86 im_X11_within dX11_word_3 rfl rfl (Nat.le_of_ble_eq_true rfl) rfl ?_
  refine i_if_eq (tgt := 29) S dX11_word_6 (by decide) (fun q1 => ?_) (fun q1 => ?_)
  · replace h := (if_pos q1).symm.trans h
    refine i_iconst (v := -1) S dX11_word_29 ic_m1 ?_
    cases h
    exact i_iret S0 rfl dX11_word_30
  · replace h := (if_neg q1).symm.trans h
    refine i_iload_n S dX11_word_9 rfl ?_
    refine i_iconst (v := 0) S dX11_word_10 ic_0 ?_
    refine i_bipush (v := 63) S dX11_word_11 bp_63 ?_
    refine i_callS (As := [.int x2, .int ((0 : Int32)), .int ((63 : Int32))]) (st1 := [.int (f_X11_within x2 (0 : Int32) (63 : Int32))]) S (c_X11_within g d rfl) mw_X11_within lk_X11_86 im_X11_within dX11_word_13 rfl rfl (Nat.le_of_ble_eq_true rfl) rfl ?_
    refine i_if_eq (tgt := 29) S dX11_word_16 (by decide) (fun q2 => ?_) (fun q2 => ?_)
    · replace h := (if_pos q2).symm.trans h
      refine i_iconst (v := -1) S dX11_word_29 ic_m1 ?_
      cases h
      exact i_iret S0 rfl dX11_word_30
    · replace h := (if_neg q2).symm.trans h
      refine i_iload_n S dX11_word_19 rfl ?_
      refine i_iconst (v := 1) S dX11_word_20 ic_1 ?_
      refine i_bipush (v := 9) S dX11_word_21 bp_9 ?_
      refine i_callS (As := [.int x3, .int ((1 : Int32)), .int ((9 : Int32))]) (st1 := [.int (f_X11_within x3 (1 : Int32) (9 : Int32))]) S (c_X11_within g d rfl) mw_X11_within lk_X11_86 im_X11_within dX11_word_23 rfl rfl (Nat.le_of_ble_eq_true rfl) rfl ?_
      refine i_if_ne (tgt := 31) S dX11_word_26 (by decide) (fun q3 => ?_) (fun q3 => ?_)
      · replace h := (if_neg q3).symm.trans h
        refine i_aload_n S dX11_word_31 rfl ?_
        refine i_getR S fl_X11_10 (k0 hL) (r0_0 hL) rfl dX11_word_32 ?_
        refine i_iload_n S dX11_word_35 rfl ?_
        refine i_iload_n S dX11_word_36 rfl ?_
        refine i_iload_n S dX11_word_37 rfl ?_
        obtain ⟨p4, e4, h⟩ := bn h
        refine i_callV (As := [.int x1, .int x2, .int x3]) (st1 := [.int p4.1]) S (c_X3_add g d hL e4) mw_X3_add lk_X11_90 im_X3_add se_X3_add ci_3.1 ci_3.2.1 (k1 hL) dX11_word_38 rfl rfl (Nat.le_of_ble_eq_true rfl) rfl ?_
        cases h
        exact i_iret S0 rfl dX11_word_41
      · replace h := (if_pos q3).symm.trans h
        refine i_iconst (v := -1) S dX11_word_29 ic_m1 ?_
        cases h
        exact i_iret S0 rfl dX11_word_30
/-! WordYear.people -/
noncomputable def f_X11_people (x1 : Int32) (x2 : Int32) (w : Mm) : Option (Int32 × Mm) := if (f_X11_within x1 (0 : Int32) (3 : Int32)) = 0 then (some ((0 : Int32), w)) else (if (f_X11_within x2 (0 : Int32) (1000 : Int32)) = 0 then (some ((0 : Int32), w)) else (if inb x1 4 = true then (some ((1 : Int32), sI w 7 (ix x1) x2)) else none))
set_option maxHeartbeats 4000000 in
set_option maxRecDepth 100000 in
theorem c_X11_people (g : Gx) (d : Nat) {x1 : Int32} {x2 : Int32} {w : Mm} {p : (Int32 × Mm)} (hL : Lay w) (h : f_X11_people x1 x2 w = some p) : Call g (d + 2) yX11_people cX11_people 3 (some .boolean) [rf g 0, .int x1, .int x2] w (some (.int p.1)) p.2 := by
  refine call_of (L0 := [some (rf g 0), some (.int x1), some (.int x2)]) (by decide) rfl (Nat.le_of_ble_eq_true rfl) (fun V S0 => ?_)
  have S := S0.b
  unfold f_X11_people at h
  refine i_iload_n S dX11_people_0 rfl ?_
  refine i_iconst (v := 0) S dX11_people_1 ic_0 ?_
  refine i_iconst (v := 3) S dX11_people_2 ic_3 ?_
  refine i_callS (As := [.int x1, .int ((0 : Int32)), .int ((3 : Int32))]) (st1 := [.int (f_X11_within x1 (0 : Int32) (3 : Int32))]) S (c_X11_within g d rfl) mw_X11_within lk_X11_86 im_X11_within dX11_people_3 rfl rfl (Nat.le_of_ble_eq_true rfl) rfl ?_
  refine i_if_eq (tgt := 20) S dX11_people_6 (by decide) (fun q1 => ?_) (fun q1 => ?_)
  · replace h := (if_pos q1).symm.trans h
    refine i_iconst (v := 0) S dX11_people_20 ic_0 ?_
    cases h
    exact i_iret S0 rfl dX11_people_21
  · replace h := (if_neg q1).symm.trans h
    refine i_iload_n S dX11_people_9 rfl ?_
    refine i_iconst (v := 0) S dX11_people_10 ic_0 ?_
    refine i_sipush (v := 1000) S dX11_people_11 sp_1000 ?_
    refine i_callS (As := [.int x2, .int ((0 : Int32)), .int ((1000 : Int32))]) (st1 := [.int (f_X11_within x2 (0 : Int32) (1000 : Int32))]) S (c_X11_within g d rfl) mw_X11_within lk_X11_86 im_X11_within dX11_people_14 rfl rfl (Nat.le_of_ble_eq_true rfl) rfl ?_
    refine i_if_ne (tgt := 22) S dX11_people_17 (by decide) (fun q2 => ?_) (fun q2 => ?_)
    · replace h := (if_neg q2).symm.trans h
      refine i_aload_n S dX11_people_22 rfl ?_
      refine i_getR S fl_X11_19 (k0 hL) (r0_1 hL) rfl dX11_people_23 ?_
      refine i_getR S fl_X11_94 (k6 hL) (r6_0 hL) rfl dX11_people_26 ?_
      refine i_iload_n S dX11_people_29 rfl ?_
      refine i_iload_n S dX11_people_30 rfl ?_
      obtain ⟨hi4, h⟩ := gd h
      refine i_iast S (k7 hL) hi4 dX11_people_31 ?_
      refine i_iconst (v := 1) S dX11_people_32 ic_1 ?_
      cases h
      exact i_iret S0 rfl dX11_people_33
    · replace h := (if_pos q2).symm.trans h
      refine i_iconst (v := 0) S dX11_people_20 ic_0 ?_
      cases h
      exact i_iret S0 rfl dX11_people_21
/-! WordYear.want -/
noncomputable def f_X11_want (x1 : Int32) (x2 : Int32) (x3 : Int32) (x4 : Int32) (w : Mm) : Option (Int32 × Mm) := if (f_X11_within x1 (0 : Int32) (3 : Int32)) = 0 then (some ((-1 : Int32), w)) else (if (f_X11_within x2 (0 : Int32) (63 : Int32)) = 0 then (some ((-1 : Int32), w)) else (if (f_X11_within x3 (0 : Int32) (1000 : Int32)) = 0 then (some ((-1 : Int32), w)) else (if (f_X11_within x4 (0 : Int32) (2000 : Int32)) = 0 then (some ((-1 : Int32), w)) else (Option.bind (f_X1_add x1 x2 x3 x4 w) (fun p5 => some (p5.1, p5.2))))))
set_option maxHeartbeats 4000000 in
set_option maxRecDepth 100000 in
theorem c_X11_want (g : Gx) (d : Nat) {x1 : Int32} {x2 : Int32} {x3 : Int32} {x4 : Int32} {w : Mm} {p : (Int32 × Mm)} (hL : Lay w) (h : f_X11_want x1 x2 x3 x4 w = some p) : Call g (d + 2) yX11_want cX11_want 5 (some .int) [rf g 0, .int x1, .int x2, .int x3, .int x4] w (some (.int p.1)) p.2 := by
  refine call_of (L0 := [some (rf g 0), some (.int x1), some (.int x2), some (.int x3), some (.int x4)]) (by decide) rfl (Nat.le_of_ble_eq_true rfl) (fun V S0 => ?_)
  have S := S0.b
  unfold f_X11_want at h
  refine i_iload_n S dX11_want_0 rfl ?_
  refine i_iconst (v := 0) S dX11_want_1 ic_0 ?_
  refine i_iconst (v := 3) S dX11_want_2 ic_3 ?_
  refine i_callS (As := [.int x1, .int ((0 : Int32)), .int ((3 : Int32))]) (st1 := [.int (f_X11_within x1 (0 : Int32) (3 : Int32))]) S (c_X11_within g d rfl) mw_X11_within lk_X11_86 im_X11_within dX11_want_3 rfl rfl (Nat.le_of_ble_eq_true rfl) rfl ?_
  refine i_if_eq (tgt := 42) S dX11_want_6 (by decide) (fun q1 => ?_) (fun q1 => ?_)
  · replace h := (if_pos q1).symm.trans h
    refine i_iconst (v := -1) S dX11_want_42 ic_m1 ?_
    cases h
    exact i_iret S0 rfl dX11_want_43
  · replace h := (if_neg q1).symm.trans h
    refine i_iload_n S dX11_want_9 rfl ?_
    refine i_iconst (v := 0) S dX11_want_10 ic_0 ?_
    refine i_bipush (v := 63) S dX11_want_11 bp_63 ?_
    refine i_callS (As := [.int x2, .int ((0 : Int32)), .int ((63 : Int32))]) (st1 := [.int (f_X11_within x2 (0 : Int32) (63 : Int32))]) S (c_X11_within g d rfl) mw_X11_within lk_X11_86 im_X11_within dX11_want_13 rfl rfl (Nat.le_of_ble_eq_true rfl) rfl ?_
    refine i_if_eq (tgt := 42) S dX11_want_16 (by decide) (fun q2 => ?_) (fun q2 => ?_)
    · replace h := (if_pos q2).symm.trans h
      refine i_iconst (v := -1) S dX11_want_42 ic_m1 ?_
      cases h
      exact i_iret S0 rfl dX11_want_43
    · replace h := (if_neg q2).symm.trans h
      refine i_iload_n S dX11_want_19 rfl ?_
      refine i_iconst (v := 0) S dX11_want_20 ic_0 ?_
      refine i_sipush (v := 1000) S dX11_want_21 sp_1000 ?_
      refine i_callS (As := [.int x3, .int ((0 : Int32)), .int ((1000 : Int32))]) (st1 := [.int (f_X11_within x3 (0 : Int32) (1000 : Int32))]) S (c_X11_within g d rfl) mw_X11_within lk_X11_86 im_X11_within dX11_want_24 rfl rfl (Nat.le_of_ble_eq_true rfl) rfl ?_
      refine i_if_eq (tgt := 42) S dX11_want_27 (by decide) (fun q3 => ?_) (fun q3 => ?_)
      · replace h := (if_pos q3).symm.trans h
        refine i_iconst (v := -1) S dX11_want_42 ic_m1 ?_
        cases h
        exact i_iret S0 rfl dX11_want_43
      · replace h := (if_neg q3).symm.trans h
        refine i_iload S dX11_want_30 rfl ?_
        refine i_iconst (v := 0) S dX11_want_32 ic_0 ?_
        refine i_sipush (v := 2000) S dX11_want_33 sp_2000 ?_
        refine i_callS (As := [.int x4, .int ((0 : Int32)), .int ((2000 : Int32))]) (st1 := [.int (f_X11_within x4 (0 : Int32) (2000 : Int32))]) S (c_X11_within g d rfl) mw_X11_within lk_X11_86 im_X11_within dX11_want_36 rfl rfl (Nat.le_of_ble_eq_true rfl) rfl ?_
        refine i_if_ne (tgt := 44) S dX11_want_39 (by decide) (fun q4 => ?_) (fun q4 => ?_)
        · replace h := (if_neg q4).symm.trans h
          refine i_aload_n S dX11_want_44 rfl ?_
          refine i_getR S fl_X11_19 (k0 hL) (r0_1 hL) rfl dX11_want_45 ?_
          refine i_iload_n S dX11_want_48 rfl ?_
          refine i_iload_n S dX11_want_49 rfl ?_
          refine i_iload_n S dX11_want_50 rfl ?_
          refine i_iload S dX11_want_51 rfl ?_
          obtain ⟨p5, e5, h⟩ := bn h
          refine i_callV (As := [.int x1, .int x2, .int x3, .int x4]) (st1 := [.int p5.1]) S (c_X1_add g d hL e5) mw_X1_add lk_X11_98 im_X1_add se_X1_add ci_1.1 ci_1.2.1 (k6 hL) dX11_want_53 rfl rfl (Nat.le_of_ble_eq_true rfl) rfl ?_
          cases h
          exact i_iret S0 rfl dX11_want_56
        · replace h := (if_pos q4).symm.trans h
          refine i_iconst (v := -1) S dX11_want_42 ic_m1 ?_
          cases h
          exact i_iret S0 rfl dX11_want_43
/-! WordYear.often -/
noncomputable def f_X11_often (x1 : Int32) (x2 : Int32) (w : Mm) : Option (Int32 × Mm) := if (f_X11_within x1 (0 : Int32) ((gI w 6 5) - (1 : Int32))) = 0 then (some ((0 : Int32), w)) else (if (f_X11_within x1 (0 : Int32) (23 : Int32)) = 0 then (some ((0 : Int32), w)) else (if (f_X11_within x2 (0 : Int32) (1000 : Int32)) = 0 then (some ((0 : Int32), w)) else (if inb x1 24 = true then (some ((1 : Int32), sI w 10 (ix x1) x2)) else none)))
set_option maxHeartbeats 4000000 in
set_option maxRecDepth 100000 in
theorem c_X11_often (g : Gx) (d : Nat) {x1 : Int32} {x2 : Int32} {w : Mm} {p : (Int32 × Mm)} (hL : Lay w) (h : f_X11_often x1 x2 w = some p) : Call g (d + 2) yX11_often cX11_often 3 (some .boolean) [rf g 0, .int x1, .int x2] w (some (.int p.1)) p.2 := by
  refine call_of (L0 := [some (rf g 0), some (.int x1), some (.int x2)]) (by decide) rfl (Nat.le_of_ble_eq_true rfl) (fun V S0 => ?_)
  have S := S0.b
  unfold f_X11_often at h
  refine i_iload_n S dX11_often_0 rfl ?_
  refine i_iconst (v := 0) S dX11_often_1 ic_0 ?_
  refine i_aload_n S dX11_often_2 rfl ?_
  refine i_getR S fl_X11_19 (k0 hL) (r0_1 hL) rfl dX11_often_3 ?_
  refine i_getIv (v := gI w 6 5) S fl_X11_101 (k6 hL) rfl rfl dX11_often_6 ?_
  refine i_iconst (v := 1) S dX11_often_9 ic_1 ?_
  refine i_isub S dX11_often_10 ?_
  refine i_callS (As := [.int x1, .int ((0 : Int32)), .int ((gI w 6 5) - (1 : Int32))]) (st1 := [.int (f_X11_within x1 (0 : Int32) ((gI w 6 5) - (1 : Int32)))]) S (c_X11_within g d rfl) mw_X11_within lk_X11_86 im_X11_within dX11_often_11 rfl rfl (Nat.le_of_ble_eq_true rfl) rfl ?_
  refine i_if_eq (tgt := 38) S dX11_often_14 (by decide) (fun q1 => ?_) (fun q1 => ?_)
  · replace h := (if_pos q1).symm.trans h
    refine i_iconst (v := 0) S dX11_often_38 ic_0 ?_
    cases h
    exact i_iret S0 rfl dX11_often_39
  · replace h := (if_neg q1).symm.trans h
    refine i_iload_n S dX11_often_17 rfl ?_
    refine i_iconst (v := 0) S dX11_often_18 ic_0 ?_
    refine i_bipush (v := 23) S dX11_often_19 bp_23 ?_
    refine i_callS (As := [.int x1, .int ((0 : Int32)), .int ((23 : Int32))]) (st1 := [.int (f_X11_within x1 (0 : Int32) (23 : Int32))]) S (c_X11_within g d rfl) mw_X11_within lk_X11_86 im_X11_within dX11_often_21 rfl rfl (Nat.le_of_ble_eq_true rfl) rfl ?_
    refine i_if_eq (tgt := 38) S dX11_often_24 (by decide) (fun q2 => ?_) (fun q2 => ?_)
    · replace h := (if_pos q2).symm.trans h
      refine i_iconst (v := 0) S dX11_often_38 ic_0 ?_
      cases h
      exact i_iret S0 rfl dX11_often_39
    · replace h := (if_neg q2).symm.trans h
      refine i_iload_n S dX11_often_27 rfl ?_
      refine i_iconst (v := 0) S dX11_often_28 ic_0 ?_
      refine i_sipush (v := 1000) S dX11_often_29 sp_1000 ?_
      refine i_callS (As := [.int x2, .int ((0 : Int32)), .int ((1000 : Int32))]) (st1 := [.int (f_X11_within x2 (0 : Int32) (1000 : Int32))]) S (c_X11_within g d rfl) mw_X11_within lk_X11_86 im_X11_within dX11_often_32 rfl rfl (Nat.le_of_ble_eq_true rfl) rfl ?_
      refine i_if_ne (tgt := 40) S dX11_often_35 (by decide) (fun q3 => ?_) (fun q3 => ?_)
      · replace h := (if_neg q3).symm.trans h
        refine i_aload_n S dX11_often_40 rfl ?_
        refine i_getR S fl_X11_19 (k0 hL) (r0_1 hL) rfl dX11_often_41 ?_
        refine i_getR S fl_X11_105 (k6 hL) (r6_3 hL) rfl dX11_often_44 ?_
        refine i_iload_n S dX11_often_47 rfl ?_
        refine i_iload_n S dX11_often_48 rfl ?_
        obtain ⟨hi5, h⟩ := gd h
        refine i_iast S (k10 hL) hi5 dX11_often_49 ?_
        refine i_iconst (v := 1) S dX11_often_50 ic_1 ?_
        cases h
        exact i_iret S0 rfl dX11_often_51
      · replace h := (if_pos q3).symm.trans h
        refine i_iconst (v := 0) S dX11_often_38 ic_0 ?_
        cases h
        exact i_iret S0 rfl dX11_often_39
/-! WordYear.silence -/
noncomputable def f_X11_silence (x1 : Int32) (w : Mm) : Option (Int32 × Mm) := if (f_X11_within x1 (0 : Int32) (5000 : Int32)) = 0 then (some ((0 : Int32), w)) else (some ((1 : Int32), sI w 6 6 x1))
set_option maxHeartbeats 4000000 in
set_option maxRecDepth 100000 in
theorem c_X11_silence (g : Gx) (d : Nat) {x1 : Int32} {w : Mm} {p : (Int32 × Mm)} (hL : Lay w) (h : f_X11_silence x1 w = some p) : Call g (d + 2) yX11_silence cX11_silence 2 (some .boolean) [rf g 0, .int x1] w (some (.int p.1)) p.2 := by
  refine call_of (L0 := [some (rf g 0), some (.int x1)]) (by decide) rfl (Nat.le_of_ble_eq_true rfl) (fun V S0 => ?_)
  have S := S0.b
  unfold f_X11_silence at h
  refine i_iload_n S dX11_silence_0 rfl ?_
  refine i_iconst (v := 0) S dX11_silence_1 ic_0 ?_
  refine i_sipush (v := 5000) S dX11_silence_2 sp_5000 ?_
  refine i_callS (As := [.int x1, .int ((0 : Int32)), .int ((5000 : Int32))]) (st1 := [.int (f_X11_within x1 (0 : Int32) (5000 : Int32))]) S (c_X11_within g d rfl) mw_X11_within lk_X11_86 im_X11_within dX11_silence_5 rfl rfl (Nat.le_of_ble_eq_true rfl) rfl ?_
  refine i_if_ne (tgt := 13) S dX11_silence_8 (by decide) (fun q1 => ?_) (fun q1 => ?_)
  · replace h := (if_neg q1).symm.trans h
    refine i_aload_n S dX11_silence_13 rfl ?_
    refine i_getR S fl_X11_19 (k0 hL) (r0_1 hL) rfl dX11_silence_14 ?_
    refine i_iload_n S dX11_silence_17 rfl ?_
    refine i_putI S fl_X11_108 (k6 hL) rfl rfl rfl dX11_silence_18 ?_
    refine i_iconst (v := 1) S dX11_silence_21 ic_1 ?_
    cases h
    exact i_iret S0 rfl dX11_silence_22
  · replace h := (if_pos q1).symm.trans h
    refine i_iconst (v := 0) S dX11_silence_11 ic_0 ?_
    cases h
    exact i_iret S0 rfl dX11_silence_12
/-! WordYear.feed -/
noncomputable def f_X11_feed (x1 : Int32) (x2 : Int32) (x3 : Int32) (x4 : Int32) (x5 : Int32) (w : Mm) : Option (Int32 × Mm) := if (gI w 12 1) ≤ (280 : Int32) then (Option.bind (f_X8_push x1 w) (fun p2 => onL p2 (Option.bind (f_X8_push x2 p2) (fun p4 => onL p4 (Option.bind (f_X8_push x3 p4) (fun p6 => onL p6 (Option.bind (f_X8_push x4 p6) (fun p8 => onL p8 (Option.bind (f_X8_push x5 p8) (fun p10 => onL p10 (some (gI p10 12 1, p10)))))))))))) else (some ((-1 : Int32), w))
set_option maxHeartbeats 4000000 in
set_option maxRecDepth 100000 in
theorem c_X11_feed (g : Gx) (d : Nat) {x1 : Int32} {x2 : Int32} {x3 : Int32} {x4 : Int32} {x5 : Int32} {w : Mm} {p : (Int32 × Mm)} (hL : Lay w) (h : f_X11_feed x1 x2 x3 x4 x5 w = some p) : Call g (d + 2) yX11_feed cX11_feed 6 (some .int) [rf g 0, .int x1, .int x2, .int x3, .int x4, .int x5] w (some (.int p.1)) p.2 := by
  refine call_of (L0 := [some (rf g 0), some (.int x1), some (.int x2), some (.int x3), some (.int x4), some (.int x5)]) (by decide) rfl (Nat.le_of_ble_eq_true rfl) (fun V S0 => ?_)
  have S := S0.b
  unfold f_X11_feed at h
  refine i_aload_n S dX11_feed_0 rfl ?_
  refine i_getR S fl_X11_26 (k0 hL) (r0_2 hL) rfl dX11_feed_1 ?_
  refine i_getIv (v := gI w 12 1) S fl_X11_111 (k12 hL) rfl rfl dX11_feed_4 ?_
  refine i_sipush (v := 280) S dX11_feed_7 sp_280 ?_
  refine i_icmp_le (tgt := 15) S dX11_feed_10 (by decide) (fun q1 => ?_) (fun q1 => ?_)
  · replace h := (if_pos q1).symm.trans h
    refine i_aload_n S dX11_feed_15 rfl ?_
    refine i_getR S fl_X11_26 (k0 hL) (r0_2 hL) rfl dX11_feed_16 ?_
    refine i_iload_n S dX11_feed_19 rfl ?_
    obtain ⟨p2, e2, h⟩ := bn h
    refine i_callV (As := [.int x1]) (st1 := []) S (c_X8_push g d hL e2) mw_X8_push lk_X11_112 im_X8_push se_X8_push ci_8.1 ci_8.2.1 (k12 hL) dX11_feed_20 rfl rfl (Nat.le_of_ble_eq_true rfl) rfl ?_
    refine i_aload_n S dX11_feed_23 rfl ?_
    obtain ⟨hL3, h⟩ := onLn h
    refine i_getR S fl_X11_26 (k0 hL3) (r0_2 hL3) rfl dX11_feed_24 ?_
    refine i_iload_n S dX11_feed_27 rfl ?_
    obtain ⟨p4, e4, h⟩ := bn h
    refine i_callV (As := [.int x2]) (st1 := []) S (c_X8_push g d hL3 e4) mw_X8_push lk_X11_112 im_X8_push se_X8_push ci_8.1 ci_8.2.1 (k12 hL3) dX11_feed_28 rfl rfl (Nat.le_of_ble_eq_true rfl) rfl ?_
    refine i_aload_n S dX11_feed_31 rfl ?_
    obtain ⟨hL5, h⟩ := onLn h
    refine i_getR S fl_X11_26 (k0 hL5) (r0_2 hL5) rfl dX11_feed_32 ?_
    refine i_iload_n S dX11_feed_35 rfl ?_
    obtain ⟨p6, e6, h⟩ := bn h
    refine i_callV (As := [.int x3]) (st1 := []) S (c_X8_push g d hL5 e6) mw_X8_push lk_X11_112 im_X8_push se_X8_push ci_8.1 ci_8.2.1 (k12 hL5) dX11_feed_36 rfl rfl (Nat.le_of_ble_eq_true rfl) rfl ?_
    refine i_aload_n S dX11_feed_39 rfl ?_
    obtain ⟨hL7, h⟩ := onLn h
    refine i_getR S fl_X11_26 (k0 hL7) (r0_2 hL7) rfl dX11_feed_40 ?_
    refine i_iload S dX11_feed_43 rfl ?_
    obtain ⟨p8, e8, h⟩ := bn h
    refine i_callV (As := [.int x4]) (st1 := []) S (c_X8_push g d hL7 e8) mw_X8_push lk_X11_112 im_X8_push se_X8_push ci_8.1 ci_8.2.1 (k12 hL7) dX11_feed_45 rfl rfl (Nat.le_of_ble_eq_true rfl) rfl ?_
    refine i_aload_n S dX11_feed_48 rfl ?_
    obtain ⟨hL9, h⟩ := onLn h
    refine i_getR S fl_X11_26 (k0 hL9) (r0_2 hL9) rfl dX11_feed_49 ?_
    refine i_iload S dX11_feed_52 rfl ?_
    obtain ⟨p10, e10, h⟩ := bn h
    refine i_callV (As := [.int x5]) (st1 := []) S (c_X8_push g d hL9 e10) mw_X8_push lk_X11_112 im_X8_push se_X8_push ci_8.1 ci_8.2.1 (k12 hL9) dX11_feed_54 rfl rfl (Nat.le_of_ble_eq_true rfl) rfl ?_
    refine i_aload_n S dX11_feed_57 rfl ?_
    obtain ⟨hL11, h⟩ := onLn h
    refine i_getR S fl_X11_26 (k0 hL11) (r0_2 hL11) rfl dX11_feed_58 ?_
    refine i_getIv (v := gI p10 12 1) S fl_X11_111 (k12 hL11) rfl rfl dX11_feed_61 ?_
    cases h
    exact i_iret S0 rfl dX11_feed_64
  · replace h := (if_neg q1).symm.trans h
    refine i_iconst (v := -1) S dX11_feed_13 ic_m1 ?_
    cases h
    exact i_iret S0 rfl dX11_feed_14
/-! WordYear.near -/
noncomputable def f_X11_near (x1 : Int32) (w : Mm) : Option (Int32 × Mm) := if (f_X11_within x1 (1 : Int32) (160 : Int32)) = 0 then (some ((-1 : Int32), w)) else (if x1 ≤ (gI w 12 1) then (Option.bind (f_X5_read x1 w) (fun p3 => onL p3.2 (Option.bind (f_X8_wipe p3.2) (fun p5 => if p3.1 ≤ 0 then (some (p3.1, p5)) else (onL p5 (Option.bind (f_X9_takeLaw 27 p5) (fun p8 => some (p3.1, p8)))))))) else (some ((-1 : Int32), w)))
set_option maxHeartbeats 4000000 in
set_option maxRecDepth 100000 in
theorem c_X11_near (g : Gx) (d : Nat) {x1 : Int32} {w : Mm} {p : (Int32 × Mm)} (hL : Lay w) (h : f_X11_near x1 w = some p) : Call g (d + 204) yX11_near cX11_near 3 (some .int) [rf g 0, .int x1] w (some (.int p.1)) p.2 := by
  refine call_of (L0 := [some (rf g 0), some (.int x1), none]) (by decide) rfl (Nat.le_of_ble_eq_true rfl) (fun V S0 => ?_)
  have S := S0.b
  unfold f_X11_near at h
  refine i_iload_n S dX11_near_0 rfl ?_
  refine i_iconst (v := 1) S dX11_near_1 ic_1 ?_
  refine i_sipush (v := 160) S dX11_near_2 sp_160 ?_
  refine i_callS (As := [.int x1, .int ((1 : Int32)), .int ((160 : Int32))]) (st1 := [.int (f_X11_within x1 (1 : Int32) (160 : Int32))]) S (c_X11_within g (d + 202) rfl) mw_X11_within lk_X11_86 im_X11_within dX11_near_5 rfl rfl (Nat.le_of_ble_eq_true rfl) rfl ?_
  refine i_if_eq (tgt := 22) S dX11_near_8 (by decide) (fun q1 => ?_) (fun q1 => ?_)
  · replace h := (if_pos q1).symm.trans h
    refine i_iconst (v := -1) S dX11_near_22 ic_m1 ?_
    cases h
    exact i_iret S0 rfl dX11_near_23
  · replace h := (if_neg q1).symm.trans h
    refine i_iload_n S dX11_near_11 rfl ?_
    refine i_aload_n S dX11_near_12 rfl ?_
    refine i_getR S fl_X11_26 (k0 hL) (r0_2 hL) rfl dX11_near_13 ?_
    refine i_getIv (v := gI w 12 1) S fl_X11_111 (k12 hL) rfl rfl dX11_near_16 ?_
    refine i_icmp_le (tgt := 24) S dX11_near_19 (by decide) (fun q2 => ?_) (fun q2 => ?_)
    · replace h := (if_pos q2).symm.trans h
      refine i_aload_n S dX11_near_24 rfl ?_
      refine i_getR S fl_X11_44 (k0 hL) (r0_4 hL) rfl dX11_near_25 ?_
      refine i_iload_n S dX11_near_28 rfl ?_
      obtain ⟨p3, e3, h⟩ := bn h
      refine i_callV (As := [.int x1]) (st1 := [.int p3.1]) S (c_X5_read g d hL e3) mw_X5_read lk_X11_116 im_X5_read se_X5_read ci_5.1 ci_5.2.1 (k26 hL) dX11_near_29 rfl rfl (Nat.le_of_ble_eq_true rfl) rfl ?_
      refine i_istore_n (L1 := [some (rf g 0), some (.int x1), some (.int p3.1)]) S dX11_near_32 (by decide) rfl ?_
      refine i_aload_n S dX11_near_33 rfl ?_
      obtain ⟨hL4, h⟩ := onLn h
      refine i_getR S fl_X11_26 (k0 hL4) (r0_2 hL4) rfl dX11_near_34 ?_
      obtain ⟨p5, e5, h⟩ := bn h
      refine i_callV (As := []) (st1 := []) S (c_X8_wipe g (d + 202) hL4 e5) mw_X8_wipe lk_X11_120 im_X8_wipe se_X8_wipe ci_8.1 ci_8.2.1 (k12 hL4) dX11_near_37 rfl rfl (Nat.le_of_ble_eq_true rfl) rfl ?_
      refine i_iload_n S dX11_near_40 rfl ?_
      refine i_if_le (tgt := 58) S dX11_near_41 (by decide) (fun q6 => ?_) (fun q6 => ?_)
      · replace h := (if_pos q6).symm.trans h
        refine i_iload_n S dX11_near_58 rfl ?_
        cases h
        exact i_iret S0 rfl dX11_near_59
      · replace h := (if_neg q6).symm.trans h
        refine i_aload_n S dX11_near_44 rfl ?_
        obtain ⟨hL7, h⟩ := onLn h
        refine i_getR S fl_X11_35 (k0 hL7) (r0_3 hL7) rfl dX11_near_45 ?_
        refine i_aload_n S dX11_near_48 rfl ?_
        refine i_getR S fl_X11_44 (k0 hL7) (r0_4 hL7) rfl dX11_near_49 ?_
        refine i_getR S fl_X11_123 (k26 hL7) (r26_1 hL7) rfl dX11_near_52 ?_
        obtain ⟨p8, e8, h⟩ := bn h
        refine i_callV (As := [rf g 27]) (st1 := []) S (c_X9_takeLaw g (d + 201) hL7 (by decide) e8) mw_X9_takeLaw lk_X11_126 im_X9_takeLaw se_X9_takeLaw ci_9.1 ci_9.2.1 (k14 hL7) dX11_near_55 rfl rfl (Nat.le_of_ble_eq_true rfl) rfl ?_
        refine i_iload_n S dX11_near_58 rfl ?_
        cases h
        exact i_iret S0 rfl dX11_near_59
    · replace h := (if_neg q2).symm.trans h
      refine i_iconst (v := -1) S dX11_near_22 ic_m1 ?_
      cases h
      exact i_iret S0 rfl dX11_near_23
/-! WordYear.brief -/
noncomputable def f_X11_brief (x1 : Int32) (x2 : Int32) (w : Mm) : Option (Int32 × Mm) := Option.bind (f_X3_isTongue x1 w) (fun p1 => if p1 = 0 then (some ((-1 : Int32), w)) else (if (f_X11_within x2 (0 : Int32) (63 : Int32)) = 0 then (some ((-1 : Int32), w)) else (Option.bind (f_X9_speech x1 w) (fun p4 => if isSp p4.2 p4.1 = true then (onL p4.2 (Option.bind (f_X7_shortest p4.1 x2 p4.2) (fun p7 => some (p7, p4.2)))) else none))))
set_option maxHeartbeats 4000000 in
set_option maxRecDepth 100000 in
theorem c_X11_brief (g : Gx) (d : Nat) {x1 : Int32} {x2 : Int32} {w : Mm} {p : (Int32 × Mm)} (hL : Lay w) (h : f_X11_brief x1 x2 w = some p) : Call g (d + 6) yX11_brief cX11_brief 3 (some .int) [rf g 0, .int x1, .int x2] w (some (.int p.1)) p.2 := by
  refine call_of (L0 := [some (rf g 0), some (.int x1), some (.int x2)]) (by decide) rfl (Nat.le_of_ble_eq_true rfl) (fun V S0 => ?_)
  have S := S0.b
  unfold f_X11_brief at h
  refine i_aload_n S dX11_brief_0 rfl ?_
  refine i_getR S fl_X11_10 (k0 hL) (r0_0 hL) rfl dX11_brief_1 ?_
  refine i_iload_n S dX11_brief_4 rfl ?_
  obtain ⟨p1, e1, h⟩ := bn h
  refine i_callV (As := [.int x1]) (st1 := [.int p1]) S (c_X3_isTongue g (d + 3) hL e1) mw_X3_isTongue lk_X11_130 im_X3_isTongue se_X3_isTongue ci_3.1 ci_3.2.1 (k1 hL) dX11_brief_5 rfl rfl (Nat.le_of_ble_eq_true rfl) rfl ?_
  refine i_if_eq (tgt := 21) S dX11_brief_8 (by decide) (fun q2 => ?_) (fun q2 => ?_)
  · replace h := (if_pos q2).symm.trans h
    refine i_iconst (v := -1) S dX11_brief_21 ic_m1 ?_
    cases h
    exact i_iret S0 rfl dX11_brief_22
  · replace h := (if_neg q2).symm.trans h
    refine i_iload_n S dX11_brief_11 rfl ?_
    refine i_iconst (v := 0) S dX11_brief_12 ic_0 ?_
    refine i_bipush (v := 63) S dX11_brief_13 bp_63 ?_
    refine i_callS (As := [.int x2, .int ((0 : Int32)), .int ((63 : Int32))]) (st1 := [.int (f_X11_within x2 (0 : Int32) (63 : Int32))]) S (c_X11_within g (d + 4) rfl) mw_X11_within lk_X11_86 im_X11_within dX11_brief_15 rfl rfl (Nat.le_of_ble_eq_true rfl) rfl ?_
    refine i_if_ne (tgt := 23) S dX11_brief_18 (by decide) (fun q3 => ?_) (fun q3 => ?_)
    · replace h := (if_neg q3).symm.trans h
      refine i_aload_n S dX11_brief_23 rfl ?_
      refine i_getR S fl_X11_35 (k0 hL) (r0_3 hL) rfl dX11_brief_24 ?_
      refine i_iload_n S dX11_brief_27 rfl ?_
      obtain ⟨p4, e4, h⟩ := bn h
      refine i_callV (As := [.int x1]) (st1 := [rf g p4.1]) S (c_X9_speech g d hL e4) mw_X9_speech lk_X11_134 im_X9_speech se_X9_speech ci_9.1 ci_9.2.1 (k14 hL) dX11_brief_28 rfl rfl (Nat.le_of_ble_eq_true rfl) rfl ?_
      refine i_iload_n S dX11_brief_31 rfl ?_
      obtain ⟨hs5, h⟩ := gd h
      obtain ⟨hL6, h⟩ := onLn h
      obtain ⟨p7, e7, h⟩ := bn h
      refine i_callV (As := [.int x2]) (st1 := [.int p7]) S (c_X7_shortest g (d + 4) hL6 hs5 e7) mw_X7_shortest lk_X11_138 im_X7_shortest se_X7_shortest ci_7.1 ci_7.2.1 (sp_k0 hs5) dX11_brief_32 rfl rfl (Nat.le_of_ble_eq_true rfl) rfl ?_
      cases h
      exact i_iret S0 rfl dX11_brief_35
    · replace h := (if_pos q3).symm.trans h
      refine i_iconst (v := -1) S dX11_brief_21 ic_m1 ?_
      cases h
      exact i_iret S0 rfl dX11_brief_22
/-! WordYear.how -/
noncomputable def f_X11_how (x1 : Int32) (x2 : Int32) (x3 : Int32) (w : Mm) : Option (Int32 × Mm) := Option.bind (f_X3_isTongue x1 w) (fun p1 => if p1 = 0 then (some ((-1 : Int32), w)) else (if (f_X11_within x2 (0 : Int32) (63 : Int32)) = 0 then (some ((-1 : Int32), w)) else (if (f_X11_within x3 (0 : Int32) (2 : Int32)) = 0 then (some ((-1 : Int32), w)) else (Option.bind (f_X9_speech x1 w) (fun p5 => if isSp p5.2 p5.1 = true then (onL p5.2 (Option.bind (f_X7_shortest p5.1 x2 p5.2) (fun p8 => if p8 = (-2 : Int32) then (some ((-2 : Int32), p5.2)) else (Option.bind (f_X7_manner p5.1 x2 p5.2) (fun p10 => if x3 = 0 then (some (f_X11_mannerKind p10, p5.2)) else (if x3 = (1 : Int32) then (some (f_X11_mannerFirst p10, p5.2)) else (mg (if (f_X11_mannerKind p10) = (2 : Int32) then (some (.inl ())) else (if (f_X11_mannerKind p10) = (3 : Int32) then (some (.inl ())) else (some (.inr ((-1 : Int32), p5.2))))) (fun p14 => some (f_X11_mannerSecond p10, p5.2))))))))) else none)))))
set_option maxHeartbeats 4000000 in
set_option maxRecDepth 100000 in
theorem c_X11_how (g : Gx) (d : Nat) {x1 : Int32} {x2 : Int32} {x3 : Int32} {w : Mm} {p : (Int32 × Mm)} (hL : Lay w) (h : f_X11_how x1 x2 x3 w = some p) : Call g (d + 6) yX11_how cX11_how 7 (some .int) [rf g 0, .int x1, .int x2, .int x3] w (some (.int p.1)) p.2 := by
  refine call_of (L0 := [some (rf g 0), some (.int x1), some (.int x2), some (.int x3), none, none, none]) (by decide) rfl (Nat.le_of_ble_eq_true rfl) (fun V S0 => ?_)
  have S := S0.b
  unfold f_X11_how at h
  refine i_aload_n S dX11_how_0 rfl ?_
  refine i_getR S fl_X11_10 (k0 hL) (r0_0 hL) rfl dX11_how_1 ?_
  refine i_iload_n S dX11_how_4 rfl ?_
  obtain ⟨p1, e1, h⟩ := bn h
  refine i_callV (As := [.int x1]) (st1 := [.int p1]) S (c_X3_isTongue g (d + 3) hL e1) mw_X3_isTongue lk_X11_130 im_X3_isTongue se_X3_isTongue ci_3.1 ci_3.2.1 (k1 hL) dX11_how_5 rfl rfl (Nat.le_of_ble_eq_true rfl) rfl ?_
  refine i_if_eq (tgt := 30) S dX11_how_8 (by decide) (fun q2 => ?_) (fun q2 => ?_)
  · replace h := (if_pos q2).symm.trans h
    refine i_iconst (v := -1) S dX11_how_30 ic_m1 ?_
    cases h
    exact i_iret S0 rfl dX11_how_31
  · replace h := (if_neg q2).symm.trans h
    refine i_iload_n S dX11_how_11 rfl ?_
    refine i_iconst (v := 0) S dX11_how_12 ic_0 ?_
    refine i_bipush (v := 63) S dX11_how_13 bp_63 ?_
    refine i_callS (As := [.int x2, .int ((0 : Int32)), .int ((63 : Int32))]) (st1 := [.int (f_X11_within x2 (0 : Int32) (63 : Int32))]) S (c_X11_within g (d + 4) rfl) mw_X11_within lk_X11_86 im_X11_within dX11_how_15 rfl rfl (Nat.le_of_ble_eq_true rfl) rfl ?_
    refine i_if_eq (tgt := 30) S dX11_how_18 (by decide) (fun q3 => ?_) (fun q3 => ?_)
    · replace h := (if_pos q3).symm.trans h
      refine i_iconst (v := -1) S dX11_how_30 ic_m1 ?_
      cases h
      exact i_iret S0 rfl dX11_how_31
    · replace h := (if_neg q3).symm.trans h
      refine i_iload_n S dX11_how_21 rfl ?_
      refine i_iconst (v := 0) S dX11_how_22 ic_0 ?_
      refine i_iconst (v := 2) S dX11_how_23 ic_2 ?_
      refine i_callS (As := [.int x3, .int ((0 : Int32)), .int ((2 : Int32))]) (st1 := [.int (f_X11_within x3 (0 : Int32) (2 : Int32))]) S (c_X11_within g (d + 4) rfl) mw_X11_within lk_X11_86 im_X11_within dX11_how_24 rfl rfl (Nat.le_of_ble_eq_true rfl) rfl ?_
      refine i_if_ne (tgt := 32) S dX11_how_27 (by decide) (fun q4 => ?_) (fun q4 => ?_)
      · replace h := (if_neg q4).symm.trans h
        refine i_aload_n S dX11_how_32 rfl ?_
        refine i_getR S fl_X11_35 (k0 hL) (r0_3 hL) rfl dX11_how_33 ?_
        refine i_iload_n S dX11_how_36 rfl ?_
        obtain ⟨p5, e5, h⟩ := bn h
        refine i_callV (As := [.int x1]) (st1 := [rf g p5.1]) S (c_X9_speech g d hL e5) mw_X9_speech lk_X11_134 im_X9_speech se_X9_speech ci_9.1 ci_9.2.1 (k14 hL) dX11_how_37 rfl rfl (Nat.le_of_ble_eq_true rfl) rfl ?_
        refine i_astore (L1 := [some (rf g 0), some (.int x1), some (.int x2), some (.int x3), some (rf g p5.1), none, none]) S dX11_how_40 (by decide) rfl ?_
        refine i_aload S dX11_how_42 rfl ?_
        refine i_iload_n S dX11_how_44 rfl ?_
        obtain ⟨hs6, h⟩ := gd h
        obtain ⟨hL7, h⟩ := onLn h
        obtain ⟨p8, e8, h⟩ := bn h
        refine i_callV (As := [.int x2]) (st1 := [.int p8]) S (c_X7_shortest g (d + 4) hL7 hs6 e8) mw_X7_shortest lk_X11_138 im_X7_shortest se_X7_shortest ci_7.1 ci_7.2.1 (sp_k0 hs6) dX11_how_45 rfl rfl (Nat.le_of_ble_eq_true rfl) rfl ?_
        refine i_bipush (v := -2) S dX11_how_48 bp_m2 ?_
        refine i_icmp_ne (tgt := 56) S dX11_how_50 (by decide) (fun q9 => ?_) (fun q9 => ?_)
        · replace h := (if_neg q9).symm.trans h
          refine i_aload S dX11_how_56 rfl ?_
          refine i_iload_n S dX11_how_58 rfl ?_
          obtain ⟨p10, e10, h⟩ := bn h
          refine i_callV (As := [.int x2]) (st1 := [.int p10]) S (c_X7_manner g (d + 2) hL7 hs6 e10) mw_X7_manner lk_X11_143 im_X7_manner se_X7_manner ci_7.1 ci_7.2.1 (sp_k0 hs6) dX11_how_59 rfl rfl (Nat.le_of_ble_eq_true rfl) rfl ?_
          refine i_istore (L1 := [some (rf g 0), some (.int x1), some (.int x2), some (.int x3), some (rf g p5.1), some (.int p10), none]) S dX11_how_62 (by decide) rfl ?_
          refine i_iload S dX11_how_64 rfl ?_
          refine i_callS (As := [.int p10]) (st1 := [.int (f_X11_mannerKind p10)]) S (c_X11_mannerKind g (d + 4) rfl) mw_X11_mannerKind lk_X11_146 im_X11_mannerKind dX11_how_66 rfl rfl (Nat.le_of_ble_eq_true rfl) rfl ?_
          refine i_istore (L1 := [some (rf g 0), some (.int x1), some (.int x2), some (.int x3), some (rf g p5.1), some (.int p10), some (.int (f_X11_mannerKind p10))]) S dX11_how_69 (by decide) rfl ?_
          refine i_iload_n S dX11_how_71 rfl ?_
          refine i_if_ne (tgt := 78) S dX11_how_72 (by decide) (fun q11 => ?_) (fun q11 => ?_)
          · replace h := (if_neg q11).symm.trans h
            refine i_iload_n S dX11_how_78 rfl ?_
            refine i_iconst (v := 1) S dX11_how_79 ic_1 ?_
            refine i_icmp_ne (tgt := 89) S dX11_how_80 (by decide) (fun q12 => ?_) (fun q12 => ?_)
            · replace h := (if_neg q12).symm.trans h
              refine i_iload S dX11_how_89 rfl ?_
              refine i_iconst (v := 2) S dX11_how_91 ic_2 ?_
              obtain ⟨s14, e14, hm14, ho14⟩ := mgn h
              have hj14 : ∀ p14, s14 = .inl p14 → V 101 [none, none, none, none, none, some (.int p10), none] [] p5.2 := by
                intro p14 ep14
                have h := hm14 p14 ep14
                refine i_iload S dX11_how_101 rfl ?_
                refine i_callS (As := [.int p10]) (st1 := [.int (f_X11_mannerSecond p10)]) S (c_X11_mannerSecond g (d + 4) rfl) mw_X11_mannerSecond lk_X11_152 im_X11_mannerSecond dX11_how_103 rfl rfl (Nat.le_of_ble_eq_true rfl) rfl ?_
                refine i_goto (tgt := 110) S dX11_how_106 (by decide) ?_
                cases h
                exact i_iret S0 rfl dX11_how_110
              replace h := e14
              clear e14
              refine i_icmp_eq (tgt := 101) S dX11_how_92 (by decide) (fun q13 => ?_) (fun q13 => ?_)
              · replace h := (if_pos q13).symm.trans h
                refine i_mask (L1 := [none, none, none, none, none, some (.int p10), none]) S [false, false, false, false, false, true, false] rfl ?_
                have hz := hj14 _ (Option.some.inj h).symm
                exact hz
              · replace h := (if_neg q13).symm.trans h
                refine i_iload S dX11_how_95 rfl ?_
                refine i_iconst (v := 3) S dX11_how_97 ic_3 ?_
                refine i_icmp_ne (tgt := 109) S dX11_how_98 (by decide) (fun q15 => ?_) (fun q15 => ?_)
                · replace h := (if_neg q15).symm.trans h
                  refine i_iconst (v := -1) S dX11_how_109 ic_m1 ?_
                  replace h := ho14 _ (Option.some.inj h).symm
                  cases h
                  exact i_iret S0 rfl dX11_how_110
                · replace h := (if_pos q15).symm.trans h
                  refine i_mask (L1 := [none, none, none, none, none, some (.int p10), none]) S [false, false, false, false, false, true, false] rfl ?_
                  have hz := hj14 _ (Option.some.inj h).symm
                  exact hz
            · replace h := (if_pos q12).symm.trans h
              refine i_iload S dX11_how_83 rfl ?_
              refine i_callS (As := [.int p10]) (st1 := [.int (f_X11_mannerFirst p10)]) S (c_X11_mannerFirst g (d + 4) rfl) mw_X11_mannerFirst lk_X11_149 im_X11_mannerFirst dX11_how_85 rfl rfl (Nat.le_of_ble_eq_true rfl) rfl ?_
              cases h
              exact i_iret S0 rfl dX11_how_88
          · replace h := (if_pos q11).symm.trans h
            refine i_iload S dX11_how_75 rfl ?_
            cases h
            exact i_iret S0 rfl dX11_how_77
        · replace h := (if_pos q9).symm.trans h
          refine i_bipush (v := -2) S dX11_how_53 bp_m2 ?_
          cases h
          exact i_iret S0 rfl dX11_how_55
      · replace h := (if_pos q4).symm.trans h
        refine i_iconst (v := -1) S dX11_how_30 ic_m1 ?_
        cases h
        exact i_iret S0 rfl dX11_how_31
/-! WordYear.sayable -/
noncomputable def f_X11_sayable (x1 : Int32) (x2 : Int32) (x3 : Int32) (w : Mm) : Option (Int32 × Mm) := Option.bind (f_X3_isTongue x1 w) (fun p1 => if p1 = 0 then (some ((-1 : Int32), w)) else (if (f_X11_within x2 (0 : Int32) (63 : Int32)) = 0 then (some ((-1 : Int32), w)) else (if (f_X11_within x3 (0 : Int32) (1 : Int32)) = 0 then (some ((-1 : Int32), w)) else (Option.bind (f_X9_speech x1 w) (fun p5 => if isSp p5.2 p5.1 = true then (onL p5.2 (Option.bind (f_X9_price p5.1 x2 p5.2) (fun p8 => if p8.1 = (-2 : Int32) then (some ((-2 : Int32), p8.2)) else (if x3 = 0 then (some (p8.1 >>> ((6 : Int32) &&& 31), p8.2)) else (some (p8.1 &&& (63 : Int32), p8.2)))))) else none)))))
set_option maxHeartbeats 4000000 in
set_option maxRecDepth 100000 in
theorem c_X11_sayable (g : Gx) (d : Nat) {x1 : Int32} {x2 : Int32} {x3 : Int32} {w : Mm} {p : (Int32 × Mm)} (hL : Lay w) (h : f_X11_sayable x1 x2 x3 w = some p) : Call g (d + 6) yX11_sayable cX11_sayable 5 (some .int) [rf g 0, .int x1, .int x2, .int x3] w (some (.int p.1)) p.2 := by
  refine call_of (L0 := [some (rf g 0), some (.int x1), some (.int x2), some (.int x3), none]) (by decide) rfl (Nat.le_of_ble_eq_true rfl) (fun V S0 => ?_)
  have S := S0.b
  unfold f_X11_sayable at h
  refine i_aload_n S dX11_sayable_0 rfl ?_
  refine i_getR S fl_X11_10 (k0 hL) (r0_0 hL) rfl dX11_sayable_1 ?_
  refine i_iload_n S dX11_sayable_4 rfl ?_
  obtain ⟨p1, e1, h⟩ := bn h
  refine i_callV (As := [.int x1]) (st1 := [.int p1]) S (c_X3_isTongue g (d + 3) hL e1) mw_X3_isTongue lk_X11_130 im_X3_isTongue se_X3_isTongue ci_3.1 ci_3.2.1 (k1 hL) dX11_sayable_5 rfl rfl (Nat.le_of_ble_eq_true rfl) rfl ?_
  refine i_if_eq (tgt := 30) S dX11_sayable_8 (by decide) (fun q2 => ?_) (fun q2 => ?_)
  · replace h := (if_pos q2).symm.trans h
    refine i_iconst (v := -1) S dX11_sayable_30 ic_m1 ?_
    cases h
    exact i_iret S0 rfl dX11_sayable_31
  · replace h := (if_neg q2).symm.trans h
    refine i_iload_n S dX11_sayable_11 rfl ?_
    refine i_iconst (v := 0) S dX11_sayable_12 ic_0 ?_
    refine i_bipush (v := 63) S dX11_sayable_13 bp_63 ?_
    refine i_callS (As := [.int x2, .int ((0 : Int32)), .int ((63 : Int32))]) (st1 := [.int (f_X11_within x2 (0 : Int32) (63 : Int32))]) S (c_X11_within g (d + 4) rfl) mw_X11_within lk_X11_86 im_X11_within dX11_sayable_15 rfl rfl (Nat.le_of_ble_eq_true rfl) rfl ?_
    refine i_if_eq (tgt := 30) S dX11_sayable_18 (by decide) (fun q3 => ?_) (fun q3 => ?_)
    · replace h := (if_pos q3).symm.trans h
      refine i_iconst (v := -1) S dX11_sayable_30 ic_m1 ?_
      cases h
      exact i_iret S0 rfl dX11_sayable_31
    · replace h := (if_neg q3).symm.trans h
      refine i_iload_n S dX11_sayable_21 rfl ?_
      refine i_iconst (v := 0) S dX11_sayable_22 ic_0 ?_
      refine i_iconst (v := 1) S dX11_sayable_23 ic_1 ?_
      refine i_callS (As := [.int x3, .int ((0 : Int32)), .int ((1 : Int32))]) (st1 := [.int (f_X11_within x3 (0 : Int32) (1 : Int32))]) S (c_X11_within g (d + 4) rfl) mw_X11_within lk_X11_86 im_X11_within dX11_sayable_24 rfl rfl (Nat.le_of_ble_eq_true rfl) rfl ?_
      refine i_if_ne (tgt := 32) S dX11_sayable_27 (by decide) (fun q4 => ?_) (fun q4 => ?_)
      · replace h := (if_neg q4).symm.trans h
        refine i_aload_n S dX11_sayable_32 rfl ?_
        refine i_getR S fl_X11_35 (k0 hL) (r0_3 hL) rfl dX11_sayable_33 ?_
        refine i_aload_n S dX11_sayable_36 rfl ?_
        refine i_getR S fl_X11_35 (k0 hL) (r0_3 hL) rfl dX11_sayable_37 ?_
        refine i_iload_n S dX11_sayable_40 rfl ?_
        obtain ⟨p5, e5, h⟩ := bn h
        refine i_callV (As := [.int x1]) (st1 := [rf g p5.1, rf g 14]) S (c_X9_speech g d hL e5) mw_X9_speech lk_X11_134 im_X9_speech se_X9_speech ci_9.1 ci_9.2.1 (k14 hL) dX11_sayable_41 rfl rfl (Nat.le_of_ble_eq_true rfl) rfl ?_
        refine i_iload_n S dX11_sayable_44 rfl ?_
        obtain ⟨hs6, h⟩ := gd h
        obtain ⟨hL7, h⟩ := onLn h
        obtain ⟨p8, e8, h⟩ := bn h
        refine i_callV (As := [rf g p5.1, .int x2]) (st1 := [.int p8.1]) S (c_X9_price g (d + 1) hL7 hs6 e8) mw_X9_price lk_X11_155 im_X9_price se_X9_price ci_9.1 ci_9.2.1 (k14 hL7) dX11_sayable_45 rfl rfl (Nat.le_of_ble_eq_true rfl) rfl ?_
        refine i_istore (L1 := [some (rf g 0), some (.int x1), some (.int x2), some (.int x3), some (.int p8.1)]) S dX11_sayable_48 (by decide) rfl ?_
        refine i_iload S dX11_sayable_50 rfl ?_
        refine i_bipush (v := -2) S dX11_sayable_52 bp_m2 ?_
        refine i_icmp_ne (tgt := 60) S dX11_sayable_54 (by decide) (fun q9 => ?_) (fun q9 => ?_)
        · replace h := (if_neg q9).symm.trans h
          refine i_iload_n S dX11_sayable_60 rfl ?_
          refine i_if_ne (tgt := 72) S dX11_sayable_61 (by decide) (fun q10 => ?_) (fun q10 => ?_)
          · replace h := (if_neg q10).symm.trans h
            refine i_iload S dX11_sayable_72 rfl ?_
            refine i_bipush (v := 63) S dX11_sayable_74 bp_63 ?_
            refine i_iand S dX11_sayable_76 ?_
            cases h
            exact i_iret S0 rfl dX11_sayable_77
          · replace h := (if_pos q10).symm.trans h
            refine i_iload S dX11_sayable_64 rfl ?_
            refine i_bipush (v := 6) S dX11_sayable_66 bp_6 ?_
            refine i_ishr S dX11_sayable_68 ?_
            refine i_goto (tgt := 77) S dX11_sayable_69 (by decide) ?_
            cases h
            exact i_iret S0 rfl dX11_sayable_77
        · replace h := (if_pos q9).symm.trans h
          refine i_bipush (v := -2) S dX11_sayable_57 bp_m2 ?_
          cases h
          exact i_iret S0 rfl dX11_sayable_59
      · replace h := (if_pos q4).symm.trans h
        refine i_iconst (v := -1) S dX11_sayable_30 ic_m1 ?_
        cases h
        exact i_iret S0 rfl dX11_sayable_31
/-! WordYear.talk -/
noncomputable def f_X11_talk (x1 : Int32) (x2 : Int32) (w : Mm) : Option (Int64 × Mm) := Option.bind (f_X3_isTongue x1 w) (fun p1 => if p1 = 0 then (some ((-1 : Int64), w)) else (if (f_X11_within x2 (-1 : Int32) (3 : Int32)) = 0 then (some ((-1 : Int64), w)) else (Option.bind (f_X9_speech x1 w) (fun p4 => if isSp p4.2 p4.1 = true then (onL p4.2 (Option.bind (f_X9_yearly p4.1 x2 p4.2) (fun p7 => some (p7.1, p7.2)))) else none))))
set_option maxHeartbeats 4000000 in
set_option maxRecDepth 100000 in
theorem c_X11_talk (g : Gx) (d : Nat) {x1 : Int32} {x2 : Int32} {w : Mm} {p : (Int64 × Mm)} (hL : Lay w) (h : f_X11_talk x1 x2 w = some p) : Call g (d + 6) yX11_talk cX11_talk 3 (some .long) [rf g 0, .int x1, .int x2] w (some (.long p.1)) p.2 := by
  refine call_of (L0 := [some (rf g 0), some (.int x1), some (.int x2)]) (by decide) rfl (Nat.le_of_ble_eq_true rfl) (fun V S0 => ?_)
  have S := S0.b
  unfold f_X11_talk at h
  refine i_aload_n S dX11_talk_0 rfl ?_
  refine i_getR S fl_X11_10 (k0 hL) (r0_0 hL) rfl dX11_talk_1 ?_
  refine i_iload_n S dX11_talk_4 rfl ?_
  obtain ⟨p1, e1, h⟩ := bn h
  refine i_callV (As := [.int x1]) (st1 := [.int p1]) S (c_X3_isTongue g (d + 3) hL e1) mw_X3_isTongue lk_X11_130 im_X3_isTongue se_X3_isTongue ci_3.1 ci_3.2.1 (k1 hL) dX11_talk_5 rfl rfl (Nat.le_of_ble_eq_true rfl) rfl ?_
  refine i_if_eq (tgt := 20) S dX11_talk_8 (by decide) (fun q2 => ?_) (fun q2 => ?_)
  · replace h := (if_pos q2).symm.trans h
    refine i_ldc2 S kl_X11_159 dX11_talk_20 ?_
    cases h
    exact i_lret S0 dX11_talk_23
  · replace h := (if_neg q2).symm.trans h
    refine i_iload_n S dX11_talk_11 rfl ?_
    refine i_iconst (v := -1) S dX11_talk_12 ic_m1 ?_
    refine i_iconst (v := 3) S dX11_talk_13 ic_3 ?_
    refine i_callS (As := [.int x2, .int ((-1 : Int32)), .int ((3 : Int32))]) (st1 := [.int (f_X11_within x2 (-1 : Int32) (3 : Int32))]) S (c_X11_within g (d + 4) rfl) mw_X11_within lk_X11_86 im_X11_within dX11_talk_14 rfl rfl (Nat.le_of_ble_eq_true rfl) rfl ?_
    refine i_if_ne (tgt := 24) S dX11_talk_17 (by decide) (fun q3 => ?_) (fun q3 => ?_)
    · replace h := (if_neg q3).symm.trans h
      refine i_aload_n S dX11_talk_24 rfl ?_
      refine i_getR S fl_X11_35 (k0 hL) (r0_3 hL) rfl dX11_talk_25 ?_
      refine i_aload_n S dX11_talk_28 rfl ?_
      refine i_getR S fl_X11_35 (k0 hL) (r0_3 hL) rfl dX11_talk_29 ?_
      refine i_iload_n S dX11_talk_32 rfl ?_
      obtain ⟨p4, e4, h⟩ := bn h
      refine i_callV (As := [.int x1]) (st1 := [rf g p4.1, rf g 14]) S (c_X9_speech g d hL e4) mw_X9_speech lk_X11_134 im_X9_speech se_X9_speech ci_9.1 ci_9.2.1 (k14 hL) dX11_talk_33 rfl rfl (Nat.le_of_ble_eq_true rfl) rfl ?_
      refine i_iload_n S dX11_talk_36 rfl ?_
      obtain ⟨hs5, h⟩ := gd h
      obtain ⟨hL6, h⟩ := onLn h
      obtain ⟨p7, e7, h⟩ := bn h
      refine i_callV (As := [rf g p4.1, .int x2]) (st1 := [.long p7.1]) S (c_X9_yearly g d hL6 hs5 e7) mw_X9_yearly lk_X11_161 im_X9_yearly se_X9_yearly ci_9.1 ci_9.2.1 (k14 hL6) dX11_talk_37 rfl rfl (Nat.le_of_ble_eq_true rfl) rfl ?_
      cases h
      exact i_lret S0 dX11_talk_40
    · replace h := (if_pos q3).symm.trans h
      refine i_ldc2 S kl_X11_159 dX11_talk_20 ?_
      cases h
      exact i_lret S0 dX11_talk_23
/-! WordYear.musts -/
noncomputable def f_X11_musts (x1 : Int32) (w : Mm) : Option (Int32 × Mm) := Option.bind (f_X3_isTongue x1 w) (fun p1 => if p1 = 0 then (some ((-1 : Int32), w)) else (Option.bind (f_X9_missed x1 w) (fun p3 => some (p3.1, p3.2))))
set_option maxHeartbeats 4000000 in
set_option maxRecDepth 100000 in
theorem c_X11_musts (g : Gx) (d : Nat) {x1 : Int32} {w : Mm} {p : (Int32 × Mm)} (hL : Lay w) (h : f_X11_musts x1 w = some p) : Call g (d + 7) yX11_musts cX11_musts 2 (some .int) [rf g 0, .int x1] w (some (.int p.1)) p.2 := by
  refine call_of (L0 := [some (rf g 0), some (.int x1)]) (by decide) rfl (Nat.le_of_ble_eq_true rfl) (fun V S0 => ?_)
  have S := S0.b
  unfold f_X11_musts at h
  refine i_aload_n S dX11_musts_0 rfl ?_
  refine i_getR S fl_X11_10 (k0 hL) (r0_0 hL) rfl dX11_musts_1 ?_
  refine i_iload_n S dX11_musts_4 rfl ?_
  obtain ⟨p1, e1, h⟩ := bn h
  refine i_callV (As := [.int x1]) (st1 := [.int p1]) S (c_X3_isTongue g (d + 4) hL e1) mw_X3_isTongue lk_X11_130 im_X3_isTongue se_X3_isTongue ci_3.1 ci_3.2.1 (k1 hL) dX11_musts_5 rfl rfl (Nat.le_of_ble_eq_true rfl) rfl ?_
  refine i_if_eq (tgt := 22) S dX11_musts_8 (by decide) (fun q2 => ?_) (fun q2 => ?_)
  · replace h := (if_pos q2).symm.trans h
    refine i_iconst (v := -1) S dX11_musts_22 ic_m1 ?_
    cases h
    exact i_iret S0 rfl dX11_musts_23
  · replace h := (if_neg q2).symm.trans h
    refine i_aload_n S dX11_musts_11 rfl ?_
    refine i_getR S fl_X11_35 (k0 hL) (r0_3 hL) rfl dX11_musts_12 ?_
    refine i_iload_n S dX11_musts_15 rfl ?_
    obtain ⟨p3, e3, h⟩ := bn h
    refine i_callV (As := [.int x1]) (st1 := [.int p3.1]) S (c_X9_missed g d hL e3) mw_X9_missed lk_X11_165 im_X9_missed se_X9_missed ci_9.1 ci_9.2.1 (k14 hL) dX11_musts_16 rfl rfl (Nat.le_of_ble_eq_true rfl) rfl ?_
    refine i_goto (tgt := 23) S dX11_musts_19 (by decide) ?_
    cases h
    exact i_iret S0 rfl dX11_musts_23
/-! WordYear.strike -/
noncomputable def f_X11_strike (x1 : Int32) (w : Mm) : Option (Int32 × Mm) := Option.bind (f_X3_strikeOut x1 w) (fun p1 => some (p1.1, p1.2))
set_option maxHeartbeats 4000000 in
set_option maxRecDepth 100000 in
theorem c_X11_strike (g : Gx) (d : Nat) {x1 : Int32} {w : Mm} {p : (Int32 × Mm)} (hL : Lay w) (h : f_X11_strike x1 w = some p) : Call g (d + 3) yX11_strike cX11_strike 2 (some .int) [rf g 0, .int x1] w (some (.int p.1)) p.2 := by
  refine call_of (L0 := [some (rf g 0), some (.int x1)]) (by decide) rfl (Nat.le_of_ble_eq_true rfl) (fun V S0 => ?_)
  have S := S0.b
  unfold f_X11_strike at h
  refine i_aload_n S dX11_strike_0 rfl ?_
  refine i_getR S fl_X11_10 (k0 hL) (r0_0 hL) rfl dX11_strike_1 ?_
  refine i_iload_n S dX11_strike_4 rfl ?_
  obtain ⟨p1, e1, h⟩ := bn h
  refine i_callV (As := [.int x1]) (st1 := [.int p1.1]) S (c_X3_strikeOut g d hL e1) mw_X3_strikeOut lk_X11_168 im_X3_strikeOut se_X3_strikeOut ci_3.1 ci_3.2.1 (k1 hL) dX11_strike_5 rfl rfl (Nat.le_of_ble_eq_true rfl) rfl ?_
  cases h
  exact i_iret S0 rfl dX11_strike_8
/-! WordYear.costs -/
noncomputable def f_X11_costs (x1 : Int32) (w : Mm) : Option (Int64 × Mm) := if (f_X11_contains (gI w 1 5) x1) = 0 then (some ((-1000000000 : Int64), w)) else (Option.bind (f_X9_speech (f_X11_without (gI w 1 5) x1) w) (fun p2 => if isSp p2.2 p2.1 = true then (onL p2.2 (Option.bind (f_X9_yearly p2.1 (-1 : Int32) p2.2) (fun p5 => onL p5.2 (Option.bind (f_X9_speech (gI p5.2 1 5) p5.2) (fun p7 => if isSp p7.2 p7.1 = true then (onL p7.2 (Option.bind (f_X9_yearly p7.1 (-1 : Int32) p7.2) (fun p10 => some (p5.1 - p10.1, p10.2)))) else none))))) else none))
set_option maxHeartbeats 4000000 in
set_option maxRecDepth 100000 in
theorem c_X11_costs (g : Gx) (d : Nat) {x1 : Int32} {w : Mm} {p : (Int64 × Mm)} (hL : Lay w) (h : f_X11_costs x1 w = some p) : Call g (d + 6) yX11_costs cX11_costs 2 (some .long) [rf g 0, .int x1] w (some (.long p.1)) p.2 := by
  refine call_of (L0 := [some (rf g 0), some (.int x1)]) (by decide) rfl (Nat.le_of_ble_eq_true rfl) (fun V S0 => ?_)
  have S := S0.b
  unfold f_X11_costs at h
  refine i_aload_n S dX11_costs_0 rfl ?_
  refine i_getR S fl_X11_10 (k0 hL) (r0_0 hL) rfl dX11_costs_1 ?_
  refine i_getIv (v := gI w 1 5) S fl_X11_171 (k1 hL) rfl rfl dX11_costs_4 ?_
  refine i_iload_n S dX11_costs_7 rfl ?_
  refine i_callS (As := [.int (gI w 1 5), .int x1]) (st1 := [.int (f_X11_contains (gI w 1 5) x1)]) S (c_X11_contains g (d + 4) rfl) mw_X11_contains lk_X11_174 im_X11_contains dX11_costs_8 rfl rfl (Nat.le_of_ble_eq_true rfl) rfl ?_
  refine i_if_ne (tgt := 18) S dX11_costs_11 (by decide) (fun q1 => ?_) (fun q1 => ?_)
  · replace h := (if_neg q1).symm.trans h
    refine i_aload_n S dX11_costs_18 rfl ?_
    refine i_getR S fl_X11_35 (k0 hL) (r0_3 hL) rfl dX11_costs_19 ?_
    refine i_aload_n S dX11_costs_22 rfl ?_
    refine i_getR S fl_X11_35 (k0 hL) (r0_3 hL) rfl dX11_costs_23 ?_
    refine i_aload_n S dX11_costs_26 rfl ?_
    refine i_getR S fl_X11_10 (k0 hL) (r0_0 hL) rfl dX11_costs_27 ?_
    refine i_getIv (v := gI w 1 5) S fl_X11_171 (k1 hL) rfl rfl dX11_costs_30 ?_
    refine i_iload_n S dX11_costs_33 rfl ?_
    refine i_callS (As := [.int (gI w 1 5), .int x1]) (st1 := [.int (f_X11_without (gI w 1 5) x1), rf g 14, rf g 14]) S (c_X11_without g (d + 4) rfl) mw_X11_without lk_X11_180 im_X11_without dX11_costs_34 rfl rfl (Nat.le_of_ble_eq_true rfl) rfl ?_
    obtain ⟨p2, e2, h⟩ := bn h
    refine i_callV (As := [.int (f_X11_without (gI w 1 5) x1)]) (st1 := [rf g p2.1, rf g 14]) S (c_X9_speech g d hL e2) mw_X9_speech lk_X11_134 im_X9_speech se_X9_speech ci_9.1 ci_9.2.1 (k14 hL) dX11_costs_37 rfl rfl (Nat.le_of_ble_eq_true rfl) rfl ?_
    refine i_iconst (v := -1) S dX11_costs_40 ic_m1 ?_
    obtain ⟨hs3, h⟩ := gd h
    obtain ⟨hL4, h⟩ := onLn h
    obtain ⟨p5, e5, h⟩ := bn h
    refine i_callV (As := [rf g p2.1, .int ((-1 : Int32))]) (st1 := [.long p5.1]) S (c_X9_yearly g d hL4 hs3 e5) mw_X9_yearly lk_X11_161 im_X9_yearly se_X9_yearly ci_9.1 ci_9.2.1 (k14 hL4) dX11_costs_41 rfl rfl (Nat.le_of_ble_eq_true rfl) rfl ?_
    refine i_aload_n S dX11_costs_44 rfl ?_
    obtain ⟨hL6, h⟩ := onLn h
    refine i_getR S fl_X11_35 (k0 hL6) (r0_3 hL6) rfl dX11_costs_45 ?_
    refine i_aload_n S dX11_costs_48 rfl ?_
    refine i_getR S fl_X11_35 (k0 hL6) (r0_3 hL6) rfl dX11_costs_49 ?_
    refine i_aload_n S dX11_costs_52 rfl ?_
    refine i_getR S fl_X11_10 (k0 hL6) (r0_0 hL6) rfl dX11_costs_53 ?_
    refine i_getIv (v := gI p5.2 1 5) S fl_X11_171 (k1 hL6) rfl rfl dX11_costs_56 ?_
    obtain ⟨p7, e7, h⟩ := bn h
    refine i_callV (As := [.int (gI p5.2 1 5)]) (st1 := [rf g p7.1, rf g 14, .long p5.1]) S (c_X9_speech g d hL6 e7) mw_X9_speech lk_X11_134 im_X9_speech se_X9_speech ci_9.1 ci_9.2.1 (k14 hL6) dX11_costs_59 rfl rfl (Nat.le_of_ble_eq_true rfl) rfl ?_
    refine i_iconst (v := -1) S dX11_costs_62 ic_m1 ?_
    obtain ⟨hs8, h⟩ := gd h
    obtain ⟨hL9, h⟩ := onLn h
    obtain ⟨p10, e10, h⟩ := bn h
    refine i_callV (As := [rf g p7.1, .int ((-1 : Int32))]) (st1 := [.long p10.1, .long p5.1]) S (c_X9_yearly g d hL9 hs8 e10) mw_X9_yearly lk_X11_161 im_X9_yearly se_X9_yearly ci_9.1 ci_9.2.1 (k14 hL9) dX11_costs_63 rfl rfl (Nat.le_of_ble_eq_true rfl) rfl ?_
    refine i_lsub S dX11_costs_66 ?_
    cases h
    exact i_lret S0 dX11_costs_67
  · replace h := (if_pos q1).symm.trans h
    refine i_ldc2 S kl_X11_178 dX11_costs_14 ?_
    cases h
    exact i_lret S0 dX11_costs_17
/-! WordYear.least -/
noncomputable def f_X11_least  (w : Mm) : Option (Int32 × Mm) := Option.bind (f_X10_cheapest (gI w 1 5) w) (fun p1 => some (p1.1, p1.2))
set_option maxHeartbeats 4000000 in
set_option maxRecDepth 100000 in
theorem c_X11_least (g : Gx) (d : Nat)  {w : Mm} {p : (Int32 × Mm)} (hL : Lay w) (h : f_X11_least w = some p) : Call g (d + 7) yX11_least cX11_least 1 (some .int) [rf g 0] w (some (.int p.1)) p.2 := by
  refine call_of (L0 := [some (rf g 0)]) (by decide) rfl (Nat.le_of_ble_eq_true rfl) (fun V S0 => ?_)
  have S := S0.b
  unfold f_X11_least at h
  refine i_aload_n S dX11_least_0 rfl ?_
  refine i_getR S fl_X11_75 (k0 hL) (r0_8 hL) rfl dX11_least_1 ?_
  refine i_aload_n S dX11_least_4 rfl ?_
  refine i_getR S fl_X11_10 (k0 hL) (r0_0 hL) rfl dX11_least_5 ?_
  refine i_getIv (v := gI w 1 5) S fl_X11_171 (k1 hL) rfl rfl dX11_least_8 ?_
  obtain ⟨p1, e1, h⟩ := bn h
  refine i_callV (As := [.int (gI w 1 5)]) (st1 := [.int p1.1]) S (c_X10_cheapest g d hL e1) mw_X10_cheapest lk_X11_184 im_X10_cheapest se_X10_cheapest ci_10.1 ci_10.2.1 (k44 hL) dX11_least_11 rfl rfl (Nat.le_of_ble_eq_true rfl) rfl ?_
  cases h
  exact i_iret S0 rfl dX11_least_14
