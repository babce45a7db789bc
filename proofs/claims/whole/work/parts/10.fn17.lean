/-! WordYearModel.row -/
noncomputable def l_X12_row_47 (x1 : Int32) (x2 : Int32) (w : Mm) (s : Int32 × Int32) : Option ((Int32 × Int32) ⊕ (Nat)) := if x1 ≤ s.2 then (some (.inr 0)) else (if inb s.2 300 = true then (if (f_X12_lies ((gI w 48 (ix s.2)).toInt64) (0 : Int64) (((gI w 47 2) - (1 : Int32)).toInt64)) = 0 then (some (.inr 1)) else (if (f_X12_has s.1 (gI w 48 (ix s.2))) = 0 then (some (.inr 1)) else (some (.inl (s.1 &&& (((1 : Int32) <<< ((gI w 48 (ix s.2)) &&& 31)) ^^^ (-1 : Int32)), s.2 + (1 : Int32)))))) else none)
noncomputable def l_X12_row_127 (x1 : Int32) (x2 : Int32) (s : Int32 × Int64 × Int32 × Int32 × Mm) : Option ((Int32 × Int64 × Int32 × Int32 × Mm) ⊕ (Int64 × Int32 × Mm)) := if x1 ≤ s.2.2.2.1 then (some (.inr (s.2.1, s.2.2.1, s.2.2.2.2))) else (onL s.2.2.2.2 (if inb s.2.2.2.1 300 = true then (Option.bind (f_X12_talkOf (s.1 &&& (((1 : Int32) <<< ((gI s.2.2.2.2 48 (ix s.2.2.2.1)) &&& 31)) ^^^ (-1 : Int32))) s.2.2.2.2) (fun p5 => Option.bind (mg (if s.2.2.1 = (-1 : Int32) then (onL p5.2 (Option.bind (f_X12_mustsOf (s.1 &&& (((1 : Int32) <<< ((gI s.2.2.2.2 48 (ix s.2.2.2.1)) &&& 31)) ^^^ (-1 : Int32))) p5.2) (fun p10 => if p10.1 = 0 then (some (.inl p10.2)) else (some (.inr (s.2.2.2.1, p10.2)))))) else (some (.inl p5.2))) (fun p8 => some (s.2.2.1, p8))) (fun p7 => some (.inl (s.1 &&& (((1 : Int32) <<< ((gI s.2.2.2.2 48 (ix s.2.2.2.1)) &&& 31)) ^^^ (-1 : Int32)), s.2.1 + p5.1, p7.1, s.2.2.2.1 + (1 : Int32), p7.2))))) else none))
noncomputable def f_X12_row (x1 : Int32) (x2 : Int32) (w : Mm) : Option (Int64 × Mm) := if (f_X12_lies x1.toInt64 (1 : Int64) (10 : Int64)) = 0 then (some ((-1 : Int64), w)) else (if (f_X12_lies x2.toInt64 (0 : Int64) (1 : Int64)) = 0 then (some ((-1 : Int64), w)) else (if x1 ≤ (gI w 47 1) then (Option.bind (wh (l_X12_row_47 x1 x2 (sI w 47 1 (0 : Int32))) FUEL (gI w 47 6, (0 : Int32))) (fun p4 => if p4 = 0 then (Option.bind (wh (l_X12_row_127 x1 x2) FUEL (gI w 47 6, (0 : Int64), (-1 : Int32), (0 : Int32), sI w 47 1 (0 : Int32))) (fun p5 => if x2 = 0 then (some (p5.1, p5.2.2)) else (some (p5.2.1.toInt64, p5.2.2)))) else (some ((-2 : Int64), sI w 47 1 (0 : Int32))))) else (some ((-1 : Int64), w))))
set_option maxHeartbeats 4000000 in
set_option maxRecDepth 100000 in
theorem t_l_X12_row_47 {g : Gx} {V : Vt} {d : Nat} (S : MachB g yX12_row cX12_row 8 (d + 9) V) {x1 : Int32} {x2 : Int32} {w : Mm} (hL : Lay w) (s : Int32 × Int32) (e : (Int32 × Int32) ⊕ (Nat)) (h : l_X12_row_47 x1 x2 w s = some e) (hC : ∀ s2, e = .inl s2 → V 47 [some (rf g 47), some (.int x1), some (.int x2), some (.int s2.1), some (.int s2.2), none, none, none] [] w) (hE : ∀ x, e = .inr x → if x = 0 then V 113 [some (rf g 47), some (.int x1), some (.int x2), none, none, none, none, none] [] w else (V 89 [none, none, none, none, none, none, none, none] [] w)) : V 47 [some (rf g 47), some (.int x1), some (.int x2), some (.int s.1), some (.int s.2), none, none, none] [] w := by
  unfold l_X12_row_47 at h
  refine i_iload S dX12_row_47 rfl ?_
  refine i_iload_n S dX12_row_49 rfl ?_
  refine i_icmp_ge (tgt := 113) S dX12_row_50 (by decide) (fun q1 => ?_) (fun q1 => ?_)
  · replace h := (if_pos q1).symm.trans h
    refine i_mask (L1 := [some (rf g 47), some (.int x1), some (.int x2), none, none, none, none, none]) S [true, true, true, false, false, false, false, false] rfl ?_
    have hz := hE _ (Option.some.inj h).symm
    exact hz
  · replace h := (if_neg q1).symm.trans h
    refine i_aload_n S dX12_row_53 rfl ?_
    refine i_getR S fl_X12_7 (k47 hL) (r47_0 hL) rfl dX12_row_54 ?_
    refine i_iload S dX12_row_57 rfl ?_
    obtain ⟨hi3, h⟩ := gd h
    refine i_baldv (v := gI w 48 (ix s.2)) S (k48 hL) hi3 rfl dX12_row_59 ?_
    refine i_i2l S dX12_row_60 ?_
    refine i_lconst (v := 0) S dX12_row_61 lc_0 ?_
    refine i_aload_n S dX12_row_62 rfl ?_
    refine i_getIv (v := gI w 47 2) S fl_X12_135 (k47 hL) rfl rfl dX12_row_63 ?_
    refine i_iconst (v := 1) S dX12_row_66 ic_1 ?_
    refine i_isub S dX12_row_67 ?_
    refine i_i2l S dX12_row_68 ?_
    refine i_callS (As := [.long ((gI w 48 (ix s.2)).toInt64), .long ((0 : Int64)), .long (((gI w 47 2) - (1 : Int32)).toInt64)]) (st1 := [.int (f_X12_lies ((gI w 48 (ix s.2)).toInt64) (0 : Int64) (((gI w 47 2) - (1 : Int32)).toInt64))]) S (c_X12_lies g (d + 8) rfl) mw_X12_lies lk_X12_138 im_X12_lies dX12_row_69 rfl rfl (Nat.le_of_ble_eq_true rfl) rfl ?_
    refine i_if_eq (tgt := 89) S dX12_row_72 (by decide) (fun q4 => ?_) (fun q4 => ?_)
    · replace h := (if_pos q4).symm.trans h
      refine i_mask (L1 := [none, none, none, none, none, none, none, none]) S [false, false, false, false, false, false, false, false] rfl ?_
      have hz := hE _ (Option.some.inj h).symm
      exact hz
    · replace h := (if_neg q4).symm.trans h
      refine i_iload_n S dX12_row_75 rfl ?_
      refine i_aload_n S dX12_row_76 rfl ?_
      refine i_getR S fl_X12_7 (k47 hL) (r47_0 hL) rfl dX12_row_77 ?_
      refine i_iload S dX12_row_80 rfl ?_
      refine i_baldv (v := gI w 48 (ix s.2)) S (k48 hL) hi3 rfl dX12_row_82 ?_
      refine i_callS (As := [.int s.1, .int (gI w 48 (ix s.2))]) (st1 := [.int (f_X12_has s.1 (gI w 48 (ix s.2)))]) S (c_X12_has g (d + 8) rfl) mw_X12_has lk_X12_149 im_X12_has dX12_row_83 rfl rfl (Nat.le_of_ble_eq_true rfl) rfl ?_
      refine i_if_ne (tgt := 93) S dX12_row_86 (by decide) (fun q6 => ?_) (fun q6 => ?_)
      · replace h := (if_neg q6).symm.trans h
        refine i_iload_n S dX12_row_93 rfl ?_
        refine i_iconst (v := 1) S dX12_row_94 ic_1 ?_
        refine i_aload_n S dX12_row_95 rfl ?_
        refine i_getR S fl_X12_7 (k47 hL) (r47_0 hL) rfl dX12_row_96 ?_
        refine i_iload S dX12_row_99 rfl ?_
        refine i_baldv (v := gI w 48 (ix s.2)) S (k48 hL) hi3 rfl dX12_row_101 ?_
        refine i_ishl S dX12_row_102 ?_
        refine i_iconst (v := -1) S dX12_row_103 ic_m1 ?_
        refine i_ixor S dX12_row_104 ?_
        refine i_iand S dX12_row_105 ?_
        refine i_istore_n (L1 := [some (rf g 47), some (.int x1), some (.int x2), some (.int (s.1 &&& (((1 : Int32) <<< ((gI w 48 (ix s.2)) &&& 31)) ^^^ (-1 : Int32)))), some (.int s.2), none, none, none]) S dX12_row_106 (by decide) rfl ?_
        refine i_iinc (L1 := [some (rf g 47), some (.int x1), some (.int x2), some (.int (s.1 &&& (((1 : Int32) <<< ((gI w 48 (ix s.2)) &&& 31)) ^^^ (-1 : Int32)))), some (.int (s.2 + (1 : Int32))), none, none, none]) S dX12_row_107 rfl ic_1 (by decide) rfl ?_
        refine i_goto (tgt := 47) S dX12_row_110 (by decide) ?_
        have hz := hC _ (Option.some.inj h).symm
        exact hz
      · replace h := (if_pos q6).symm.trans h
        refine i_mask (L1 := [none, none, none, none, none, none, none, none]) S [false, false, false, false, false, false, false, false] rfl ?_
        have hz := hE _ (Option.some.inj h).symm
        exact hz
set_option maxHeartbeats 4000000 in
set_option maxRecDepth 100000 in
theorem t_l_X12_row_127 {g : Gx} {V : Vt} {d : Nat} (S : MachB g yX12_row cX12_row 8 (d + 9) V) {x1 : Int32} {x2 : Int32}  (s : Int32 × Int64 × Int32 × Int32 × Mm) (e : (Int32 × Int64 × Int32 × Int32 × Mm) ⊕ (Int64 × Int32 × Mm)) (h : l_X12_row_127 x1 x2 s = some e) (hC : ∀ s2, e = .inl s2 → V 127 [some (rf g 47), some (.int x1), some (.int x2), some (.int s2.1), some (.long s2.2.1), none, some (.int s2.2.2.1), some (.int s2.2.2.2.1)] [] s2.2.2.2.2) (hE : ∀ x, e = .inr x → V 186 [none, none, some (.int x2), none, some (.long x.1), none, some (.int x.2.1), none] [] x.2.2) : V 127 [some (rf g 47), some (.int x1), some (.int x2), some (.int s.1), some (.long s.2.1), none, some (.int s.2.2.1), some (.int s.2.2.2.1)] [] s.2.2.2.2 := by
  unfold l_X12_row_127 at h
  refine i_iload S dX12_row_127 rfl ?_
  refine i_iload_n S dX12_row_129 rfl ?_
  refine i_icmp_ge (tgt := 186) S dX12_row_130 (by decide) (fun q1 => ?_) (fun q1 => ?_)
  · replace h := (if_pos q1).symm.trans h
    refine i_mask (L1 := [none, none, some (.int x2), none, some (.long s.2.1), none, some (.int s.2.2.1), none]) S [false, false, true, false, true, false, true, false] rfl ?_
    have hz := hE _ (Option.some.inj h).symm
    exact hz
  · replace h := (if_neg q1).symm.trans h
    refine i_iload_n S dX12_row_133 rfl ?_
    refine i_iconst (v := 1) S dX12_row_134 ic_1 ?_
    refine i_aload_n S dX12_row_135 rfl ?_
    obtain ⟨hL2, h⟩ := onLn h
    refine i_getR S fl_X12_7 (k47 hL2) (r47_0 hL2) rfl dX12_row_136 ?_
    refine i_iload S dX12_row_139 rfl ?_
    obtain ⟨hi4, h⟩ := gd h
    refine i_baldv (v := gI s.2.2.2.2 48 (ix s.2.2.2.1)) S (k48 hL2) hi4 rfl dX12_row_141 ?_
    refine i_ishl S dX12_row_142 ?_
    refine i_iconst (v := -1) S dX12_row_143 ic_m1 ?_
    refine i_ixor S dX12_row_144 ?_
    refine i_iand S dX12_row_145 ?_
    refine i_istore_n (L1 := [some (rf g 47), some (.int x1), some (.int x2), some (.int (s.1 &&& (((1 : Int32) <<< ((gI s.2.2.2.2 48 (ix s.2.2.2.1)) &&& 31)) ^^^ (-1 : Int32)))), some (.long s.2.1), none, some (.int s.2.2.1), some (.int s.2.2.2.1)]) S dX12_row_146 (by decide) rfl ?_
    refine i_lload S dX12_row_147 rfl ?_
    refine i_aload_n S dX12_row_149 rfl ?_
    refine i_iload_n S dX12_row_150 rfl ?_
    obtain ⟨p5, e5, h⟩ := bn h
    refine i_callV (As := [.int (s.1 &&& (((1 : Int32) <<< ((gI s.2.2.2.2 48 (ix s.2.2.2.1)) &&& 31)) ^^^ (-1 : Int32)))]) (st1 := [.long p5.1, .long s.2.1]) S (c_X12_talkOf g d hL2 e5) mw_X12_talkOf lk_X12_376 im_X12_talkOf se_X12_talkOf ci_12.1 ci_12.2.1 (k47 hL2) dX12_row_151 rfl rfl (Nat.le_of_ble_eq_true rfl) rfl ?_
    refine i_ladd S dX12_row_154 ?_
    refine i_lstore (L1 := [some (rf g 47), some (.int x1), some (.int x2), some (.int (s.1 &&& (((1 : Int32) <<< ((gI s.2.2.2.2 48 (ix s.2.2.2.1)) &&& 31)) ^^^ (-1 : Int32)))), some (.long (s.2.1 + p5.1)), none, some (.int s.2.2.1), some (.int s.2.2.2.1)]) S dX12_row_155 (by decide) rfl ?_
    refine i_iload S dX12_row_157 rfl ?_
    refine i_iconst (v := -1) S dX12_row_159 ic_m1 ?_
    obtain ⟨p7, e7, h⟩ := bn h
    have hj7 : ∀ q7, p7 = q7 → V 178 [some (rf g 47), some (.int x1), some (.int x2), some (.int (s.1 &&& (((1 : Int32) <<< ((gI s.2.2.2.2 48 (ix s.2.2.2.1)) &&& 31)) ^^^ (-1 : Int32)))), some (.long (s.2.1 + p5.1)), none, none, some (.int s.2.2.2.1)] [.int q7.1] q7.2 := by
      intro q7 hq7
      subst hq7
      refine i_istore (L1 := [some (rf g 47), some (.int x1), some (.int x2), some (.int (s.1 &&& (((1 : Int32) <<< ((gI s.2.2.2.2 48 (ix s.2.2.2.1)) &&& 31)) ^^^ (-1 : Int32)))), some (.long (s.2.1 + p5.1)), none, some (.int p7.1), some (.int s.2.2.2.1)]) S dX12_row_178 (by decide) rfl ?_
      refine i_iinc (L1 := [some (rf g 47), some (.int x1), some (.int x2), some (.int (s.1 &&& (((1 : Int32) <<< ((gI s.2.2.2.2 48 (ix s.2.2.2.1)) &&& 31)) ^^^ (-1 : Int32)))), some (.long (s.2.1 + p5.1)), none, some (.int p7.1), some (.int (s.2.2.2.1 + (1 : Int32)))]) S dX12_row_180 rfl ic_1 (by decide) rfl ?_
      refine i_goto (tgt := 127) S dX12_row_183 (by decide) ?_
      have hz := hC _ (Option.some.inj h).symm
      exact hz
    replace h := e7
    clear e7
    obtain ⟨s8, e8, hm8, ho8⟩ := mgn h
    have hj8 : ∀ p8, s8 = .inl p8 → V 176 [some (rf g 47), some (.int x1), some (.int x2), some (.int (s.1 &&& (((1 : Int32) <<< ((gI s.2.2.2.2 48 (ix s.2.2.2.1)) &&& 31)) ^^^ (-1 : Int32)))), some (.long (s.2.1 + p5.1)), none, some (.int s.2.2.1), some (.int s.2.2.2.1)] [] p8 := by
      intro p8 ep8
      have h := hm8 p8 ep8
      refine i_iload S dX12_row_176 rfl ?_
      refine i_mask (L1 := [some (rf g 47), some (.int x1), some (.int x2), some (.int (s.1 &&& (((1 : Int32) <<< ((gI s.2.2.2.2 48 (ix s.2.2.2.1)) &&& 31)) ^^^ (-1 : Int32)))), some (.long (s.2.1 + p5.1)), none, none, some (.int s.2.2.2.1)]) S [true, true, true, true, true, false, false, true] rfl ?_
      have hz := hj7 _ (Option.some.inj h).symm
      exact hz
    replace h := e8
    clear e8
    refine i_icmp_ne (tgt := 176) S dX12_row_160 (by decide) (fun q6 => ?_) (fun q6 => ?_)
    · replace h := (if_neg q6).symm.trans h
      have hz := hj8 _ (Option.some.inj h).symm
      exact hz
    · replace h := (if_pos q6).symm.trans h
      refine i_aload_n S dX12_row_163 rfl ?_
      refine i_iload_n S dX12_row_164 rfl ?_
      obtain ⟨hL9, h⟩ := onLn h
      obtain ⟨p10, e10, h⟩ := bn h
      refine i_callV (As := [.int (s.1 &&& (((1 : Int32) <<< ((gI s.2.2.2.2 48 (ix s.2.2.2.1)) &&& 31)) ^^^ (-1 : Int32)))]) (st1 := [.int p10.1]) S (c_X12_mustsOf g (d + 1) hL9 e10) mw_X12_mustsOf lk_X12_380 im_X12_mustsOf se_X12_mustsOf ci_12.1 ci_12.2.1 (k47 hL9) dX12_row_165 rfl rfl (Nat.le_of_ble_eq_true rfl) rfl ?_
      refine i_if_eq (tgt := 176) S dX12_row_168 (by decide) (fun q11 => ?_) (fun q11 => ?_)
      · replace h := (if_pos q11).symm.trans h
        have hz := hj8 _ (Option.some.inj h).symm
        exact hz
      · replace h := (if_neg q11).symm.trans h
        refine i_iload S dX12_row_171 rfl ?_
        refine i_goto (tgt := 178) S dX12_row_173 (by decide) ?_
        replace h := ho8 _ (Option.some.inj h).symm
        refine i_mask (L1 := [some (rf g 47), some (.int x1), some (.int x2), some (.int (s.1 &&& (((1 : Int32) <<< ((gI s.2.2.2.2 48 (ix s.2.2.2.1)) &&& 31)) ^^^ (-1 : Int32)))), some (.long (s.2.1 + p5.1)), none, none, some (.int s.2.2.2.1)]) S [true, true, true, true, true, false, false, true] rfl ?_
        have hz := hj7 _ (Option.some.inj h).symm
        exact hz
set_option maxHeartbeats 4000000 in
set_option maxRecDepth 100000 in
theorem c_X12_row (g : Gx) (d : Nat) {x1 : Int32} {x2 : Int32} {w : Mm} {p : (Int64 × Mm)} (hL : Lay w) (h : f_X12_row x1 x2 w = some p) : Call g (d + 10) yX12_row cX12_row 8 (some .long) [rf g 47, .int x1, .int x2] w (some (.long p.1)) p.2 := by
  refine call_of (L0 := [some (rf g 47), some (.int x1), some (.int x2), none, none, none, none, none]) (by decide) rfl (Nat.le_of_ble_eq_true rfl) (fun V S0 => ?_)
  have S := S0.b
  unfold f_X12_row at h
  refine i_iload_n S dX12_row_0 rfl ?_
  refine i_i2l S dX12_row_1 ?_
  refine i_lconst (v := 1) S dX12_row_2 lc_1 ?_
  refine i_ldc2 S kl_X12_431 dX12_row_3 ?_
  refine i_callS (As := [.long x1.toInt64, .long ((1 : Int64)), .long ((10 : Int64))]) (st1 := [.int (f_X12_lies x1.toInt64 (1 : Int64) (10 : Int64))]) S (c_X12_lies g (d + 8) rfl) mw_X12_lies lk_X12_138 im_X12_lies dX12_row_6 rfl rfl (Nat.le_of_ble_eq_true rfl) rfl ?_
  refine i_if_eq (tgt := 30) S dX12_row_9 (by decide) (fun q1 => ?_) (fun q1 => ?_)
  · replace h := (if_pos q1).symm.trans h
    refine i_ldc2 S kl_X12_374 dX12_row_30 ?_
    cases h
    exact i_lret S0 dX12_row_33
  · replace h := (if_neg q1).symm.trans h
    refine i_iload_n S dX12_row_12 rfl ?_
    refine i_i2l S dX12_row_13 ?_
    refine i_lconst (v := 0) S dX12_row_14 lc_0 ?_
    refine i_lconst (v := 1) S dX12_row_15 lc_1 ?_
    refine i_callS (As := [.long x2.toInt64, .long ((0 : Int64)), .long ((1 : Int64))]) (st1 := [.int (f_X12_lies x2.toInt64 (0 : Int64) (1 : Int64))]) S (c_X12_lies g (d + 8) rfl) mw_X12_lies lk_X12_138 im_X12_lies dX12_row_16 rfl rfl (Nat.le_of_ble_eq_true rfl) rfl ?_
    refine i_if_eq (tgt := 30) S dX12_row_19 (by decide) (fun q2 => ?_) (fun q2 => ?_)
    · replace h := (if_pos q2).symm.trans h
      refine i_ldc2 S kl_X12_374 dX12_row_30 ?_
      cases h
      exact i_lret S0 dX12_row_33
    · replace h := (if_neg q2).symm.trans h
      refine i_iload_n S dX12_row_22 rfl ?_
      refine i_aload_n S dX12_row_23 rfl ?_
      refine i_getIv (v := gI w 47 1) S fl_X12_174 (k47 hL) rfl rfl dX12_row_24 ?_
      refine i_icmp_le (tgt := 34) S dX12_row_27 (by decide) (fun q3 => ?_) (fun q3 => ?_)
      · replace h := (if_pos q3).symm.trans h
        refine i_aload_n S dX12_row_34 rfl ?_
        refine i_iconst (v := 0) S dX12_row_35 ic_0 ?_
        refine i_putI S fl_X12_174 (k47 hL) rfl rfl rfl dX12_row_36 ?_
        refine i_aload_n S dX12_row_39 rfl ?_
        refine i_getIv (v := gI w 47 6) S fl_X12_146 (k47 hL) rfl rfl dX12_row_40 ?_
        refine i_istore_n (L1 := [some (rf g 47), some (.int x1), some (.int x2), some (.int (gI w 47 6)), none, none, none, none]) S dX12_row_43 (by decide) rfl ?_
        refine i_iconst (v := 0) S dX12_row_44 ic_0 ?_
        refine i_istore (L1 := [some (rf g 47), some (.int x1), some (.int x2), some (.int (gI w 47 6)), some (.int ((0 : Int32))), none, none, none]) S dX12_row_45 (by decide) rfl ?_
        obtain ⟨p4, e4, h⟩ := bn h
        have hE4 : if p4 = 0 then V 113 [some (rf g 47), some (.int x1), some (.int x2), none, none, none, none, none] [] (sI w 47 1 (0 : Int32)) else (V 89 [none, none, none, none, none, none, none, none] [] (sI w 47 1 (0 : Int32))) := by
          by_cases hx4_0 : p4 = 0
          · rw [if_pos hx4_0]
            replace h := (if_pos hx4_0).symm.trans h
            refine i_aload_n S dX12_row_113 rfl ?_
            refine i_getIv (v := gI w 47 6) S fl_X12_146 (k47 hL) rfl rfl dX12_row_114 ?_
            refine i_istore_n (L1 := [some (rf g 47), some (.int x1), some (.int x2), some (.int (gI w 47 6)), none, none, none, none]) S dX12_row_117 (by decide) rfl ?_
            refine i_lconst (v := 0) S dX12_row_118 lc_0 ?_
            refine i_lstore (L1 := [some (rf g 47), some (.int x1), some (.int x2), some (.int (gI w 47 6)), some (.long ((0 : Int64))), none, none, none]) S dX12_row_119 (by decide) rfl ?_
            refine i_iconst (v := -1) S dX12_row_121 ic_m1 ?_
            refine i_istore (L1 := [some (rf g 47), some (.int x1), some (.int x2), some (.int (gI w 47 6)), some (.long ((0 : Int64))), none, some (.int ((-1 : Int32))), none]) S dX12_row_122 (by decide) rfl ?_
            refine i_iconst (v := 0) S dX12_row_124 ic_0 ?_
            refine i_istore (L1 := [some (rf g 47), some (.int x1), some (.int x2), some (.int (gI w 47 6)), some (.long ((0 : Int64))), none, some (.int ((-1 : Int32))), some (.int ((0 : Int32)))]) S dX12_row_125 (by decide) rfl ?_
            obtain ⟨p5, e5, h⟩ := bn h
            have hE5 : V 186 [none, none, some (.int x2), none, some (.long p5.1), none, some (.int p5.2.1), none] [] p5.2.2 := by
              refine i_iload_n S dX12_row_186 rfl ?_
              refine i_if_ne (tgt := 195) S dX12_row_187 (by decide) (fun q6 => ?_) (fun q6 => ?_)
              · replace h := (if_neg q6).symm.trans h
                refine i_iload S dX12_row_195 rfl ?_
                refine i_i2l S dX12_row_197 ?_
                cases h
                exact i_lret S0 dX12_row_198
              · replace h := (if_pos q6).symm.trans h
                refine i_lload S dX12_row_190 rfl ?_
                refine i_goto (tgt := 198) S dX12_row_192 (by decide) ?_
                cases h
                exact i_lret S0 dX12_row_198
            exact wh_V (P := fun sv5 => V 127 [some (rf g 47), some (.int x1), some (.int x2), some (.int sv5.1), some (.long sv5.2.1), none, some (.int sv5.2.2.1), some (.int sv5.2.2.2.1)] [] sv5.2.2.2.2) (E := fun xv5 => V 186 [none, none, some (.int x2), none, some (.long xv5.1), none, some (.int xv5.2.1), none] [] xv5.2.2) (fun sv5 ev hb hc he => t_l_X12_row_127   S  sv5 ev hb hc he) FUEL _ _ e5 hE5
          · rw [if_neg hx4_0]
            replace h := (if_neg hx4_0).symm.trans h
            refine i_ldc2 S kl_X12_433 dX12_row_89 ?_
            cases h
            exact i_lret S0 dX12_row_92
        exact wh_V (P := fun sv4 => V 47 [some (rf g 47), some (.int x1), some (.int x2), some (.int sv4.1), some (.int sv4.2), none, none, none] [] (sI w 47 1 (0 : Int32))) (E := fun xv4 => if xv4 = 0 then V 113 [some (rf g 47), some (.int x1), some (.int x2), none, none, none, none, none] [] (sI w 47 1 (0 : Int32)) else (V 89 [none, none, none, none, none, none, none, none] [] (sI w 47 1 (0 : Int32)))) (fun sv4 ev hb hc he => t_l_X12_row_47 (w := sI w 47 1 (0 : Int32))  S hL sv4 ev hb hc he) FUEL _ _ e4 hE4
      · replace h := (if_neg q3).symm.trans h
        refine i_ldc2 S kl_X12_374 dX12_row_30 ?_
        cases h
        exact i_lret S0 dX12_row_33
/-! WordYearModel.till -/
noncomputable def l_X12_till_7  (s : Int32 × Int32 × Mm) : Option ((Int32 × Int32 × Mm) ⊕ (Nat × Int32 × Mm)) := if s.1 = 0 then (some (.inr (0, s.2.1, s.2.2))) else (onL s.2.2 (Option.bind (f_X12_leastOf s.1 s.2.2) (fun p3 => onL p3.2 (Option.bind (f_X12_mustsOf (s.1 &&& (((1 : Int32) <<< (p3.1 &&& 31)) ^^^ (-1 : Int32))) p3.2) (fun p5 => if p5.1 = 0 then (some (.inl (s.1 &&& (((1 : Int32) <<< (p3.1 &&& 31)) ^^^ (-1 : Int32)), s.2.1 + (1 : Int32), p5.2))) else (some (.inr (1, s.2.1, p5.2))))))))
noncomputable def f_X12_till  (w : Mm) : Option (Int32 × Mm) := Option.bind (wh l_X12_till_7 FUEL (gI w 47 6, (0 : Int32), w)) (fun p1 => if p1.1 = 0 then (some (p1.2.1, p1.2.2)) else (some (p1.2.1, p1.2.2)))
set_option maxHeartbeats 4000000 in
set_option maxRecDepth 100000 in
theorem t_l_X12_till_7 {g : Gx} {V : Vt} {d : Nat} (S : MachB g yX12_till cX12_till 3 (d + 10) V)   (s : Int32 × Int32 × Mm) (e : (Int32 × Int32 × Mm) ⊕ (Nat × Int32 × Mm)) (h : l_X12_till_7  s = some e) (hC : ∀ s2, e = .inl s2 → V 7 [some (rf g 47), some (.int s2.1), some (.int s2.2.1)] [] s2.2.2) (hE : ∀ x, e = .inr x → if x.1 = 0 then V 39 [none, none, some (.int x.2.1)] [] x.2.2 else (V 31 [none, none, some (.int x.2.1)] [] x.2.2)) : V 7 [some (rf g 47), some (.int s.1), some (.int s.2.1)] [] s.2.2 := by
  unfold l_X12_till_7 at h
  refine i_iload_n S dX12_till_7 rfl ?_
  refine i_if_eq (tgt := 39) S dX12_till_8 (by decide) (fun q1 => ?_) (fun q1 => ?_)
  · replace h := (if_pos q1).symm.trans h
    refine i_mask (L1 := [none, none, some (.int s.2.1)]) S [false, false, true] rfl ?_
    have hz := hE _ (Option.some.inj h).symm
    exact hz
  · replace h := (if_neg q1).symm.trans h
    refine i_iload_n S dX12_till_11 rfl ?_
    refine i_iconst (v := 1) S dX12_till_12 ic_1 ?_
    refine i_aload_n S dX12_till_13 rfl ?_
    refine i_iload_n S dX12_till_14 rfl ?_
    obtain ⟨hL2, h⟩ := onLn h
    obtain ⟨p3, e3, h⟩ := bn h
    refine i_callV (As := [.int s.1]) (st1 := [.int p3.1, .int ((1 : Int32)), .int s.1]) S (c_X12_leastOf g d hL2 e3) mw_X12_leastOf lk_X12_391 im_X12_leastOf se_X12_leastOf ci_12.1 ci_12.2.1 (k47 hL2) dX12_till_15 rfl rfl (Nat.le_of_ble_eq_true rfl) rfl ?_
    refine i_ishl S dX12_till_18 ?_
    refine i_iconst (v := -1) S dX12_till_19 ic_m1 ?_
    refine i_ixor S dX12_till_20 ?_
    refine i_iand S dX12_till_21 ?_
    refine i_istore_n (L1 := [some (rf g 47), some (.int (s.1 &&& (((1 : Int32) <<< (p3.1 &&& 31)) ^^^ (-1 : Int32)))), some (.int s.2.1)]) S dX12_till_22 (by decide) rfl ?_
    refine i_aload_n S dX12_till_23 rfl ?_
    refine i_iload_n S dX12_till_24 rfl ?_
    obtain ⟨hL4, h⟩ := onLn h
    obtain ⟨p5, e5, h⟩ := bn h
    refine i_callV (As := [.int (s.1 &&& (((1 : Int32) <<< (p3.1 &&& 31)) ^^^ (-1 : Int32)))]) (st1 := [.int p5.1]) S (c_X12_mustsOf g (d + 2) hL4 e5) mw_X12_mustsOf lk_X12_380 im_X12_mustsOf se_X12_mustsOf ci_12.1 ci_12.2.1 (k47 hL4) dX12_till_25 rfl rfl (Nat.le_of_ble_eq_true rfl) rfl ?_
    refine i_if_eq (tgt := 33) S dX12_till_28 (by decide) (fun q6 => ?_) (fun q6 => ?_)
    · replace h := (if_pos q6).symm.trans h
      refine i_iinc (L1 := [some (rf g 47), some (.int (s.1 &&& (((1 : Int32) <<< (p3.1 &&& 31)) ^^^ (-1 : Int32)))), some (.int (s.2.1 + (1 : Int32)))]) S dX12_till_33 rfl ic_1 (by decide) rfl ?_
      refine i_goto (tgt := 7) S dX12_till_36 (by decide) ?_
      have hz := hC _ (Option.some.inj h).symm
      exact hz
    · replace h := (if_neg q6).symm.trans h
      refine i_mask (L1 := [none, none, some (.int s.2.1)]) S [false, false, true] rfl ?_
      have hz := hE _ (Option.some.inj h).symm
      exact hz
set_option maxHeartbeats 4000000 in
set_option maxRecDepth 100000 in
theorem c_X12_till (g : Gx) (d : Nat)  {w : Mm} {p : (Int32 × Mm)} (hL : Lay w) (h : f_X12_till w = some p) : Call g (d + 11) yX12_till cX12_till 3 (some .int) [rf g 47] w (some (.int p.1)) p.2 := by
  refine call_of (L0 := [some (rf g 47), none, none]) (by decide) rfl (Nat.le_of_ble_eq_true rfl) (fun V S0 => ?_)
  have S := S0.b
  unfold f_X12_till at h
  refine i_aload_n S dX12_till_0 rfl ?_
  refine i_getIv (v := gI w 47 6) S fl_X12_146 (k47 hL) rfl rfl dX12_till_1 ?_
  refine i_istore_n (L1 := [some (rf g 47), some (.int (gI w 47 6)), none]) S dX12_till_4 (by decide) rfl ?_
  refine i_iconst (v := 0) S dX12_till_5 ic_0 ?_
  refine i_istore_n (L1 := [some (rf g 47), some (.int (gI w 47 6)), some (.int ((0 : Int32)))]) S dX12_till_6 (by decide) rfl ?_
  obtain ⟨p1, e1, h⟩ := bn h
  have hE1 : if p1.1 = 0 then V 39 [none, none, some (.int p1.2.1)] [] p1.2.2 else (V 31 [none, none, some (.int p1.2.1)] [] p1.2.2) := by
    by_cases hx1_0 : p1.1 = 0
    · rw [if_pos hx1_0]
      replace h := (if_pos hx1_0).symm.trans h
      refine i_iload_n S dX12_till_39 rfl ?_
      cases h
      exact i_iret S0 rfl dX12_till_40
    · rw [if_neg hx1_0]
      replace h := (if_neg hx1_0).symm.trans h
      refine i_iload_n S dX12_till_31 rfl ?_
      cases h
      exact i_iret S0 rfl dX12_till_32
  exact wh_V (P := fun sv1 => V 7 [some (rf g 47), some (.int sv1.1), some (.int sv1.2.1)] [] sv1.2.2) (E := fun xv1 => if xv1.1 = 0 then V 39 [none, none, some (.int xv1.2.1)] [] xv1.2.2 else (V 31 [none, none, some (.int xv1.2.1)] [] xv1.2.2)) (fun sv1 ev hb hc he => t_l_X12_till_7   S  sv1 ev hb hc he) FUEL _ _ e1 hE1
/-! WordYearModel.kept -/
noncomputable def l_X12_kept_33 (x1 : Int32) (x2 : Int32) (s : Int32 × Int32 × Mm) : Option ((Int32 × Int32 × Mm) ⊕ (Int32 × Mm)) := onL s.2.2 (if ((1 : Int32) <<< ((gI s.2.2 47 2) &&& 31)) ≤ s.2.1 then (some (.inr (s.1, s.2.2))) else (Option.bind (f_X12_sizeOf s.2.1) (fun p3 => Option.bind (if p3 = x1 then (mg (if s.1 = (-1 : Int32) then (some (.inl s.2.2)) else (Option.bind (f_X12_talkOf s.2.1 s.2.2) (fun p8 => onL p8.2 (Option.bind (f_X12_talkOf s.1 p8.2) (fun p10 => if p10.1 ≤ p8.1 then (some (.inr (s.1, p10.2))) else (some (.inl p10.2))))))) (fun p7 => some (s.2.1, p7))) else (some (s.1, s.2.2))) (fun p5 => some (.inl (p5.1, s.2.1 + (1 : Int32), p5.2))))))
noncomputable def f_X12_kept (x1 : Int32) (x2 : Int32) (w : Mm) : Option (Int64 × Mm) := if (f_X12_lies x1.toInt64 (0 : Int64) ((gI w 47 2).toInt64)) = 0 then (some ((-1 : Int64), w)) else (if (f_X12_lies x2.toInt64 (0 : Int64) (1 : Int64)) = 0 then (some ((-1 : Int64), w)) else (Option.bind (wh (l_X12_kept_33 x1 x2) FUEL ((-1 : Int32), (0 : Int32), w)) (fun p3 => if x2 = 0 then (some (p3.1.toInt64, p3.2)) else (onL p3.2 (Option.bind (f_X12_talkOf p3.1 p3.2) (fun p6 => some (p6.1, p6.2)))))))
set_option maxHeartbeats 4000000 in
set_option maxRecDepth 100000 in
theorem t_l_X12_kept_33 {g : Gx} {V : Vt} {d : Nat} (S : MachB g yX12_kept cX12_kept 5 (d + 9) V) {x1 : Int32} {x2 : Int32}  (s : Int32 × Int32 × Mm) (e : (Int32 × Int32 × Mm) ⊕ (Int32 × Mm)) (h : l_X12_kept_33 x1 x2 s = some e) (hC : ∀ s2, e = .inl s2 → V 33 [some (rf g 47), some (.int x1), some (.int x2), some (.int s2.1), some (.int s2.2.1)] [] s2.2.2) (hE : ∀ x, e = .inr x → V 82 [some (rf g 47), none, some (.int x2), some (.int x.1), none] [] x.2) : V 33 [some (rf g 47), some (.int x1), some (.int x2), some (.int s.1), some (.int s.2.1)] [] s.2.2 := by
  unfold l_X12_kept_33 at h
  refine i_iload S dX12_kept_33 rfl ?_
  refine i_iconst (v := 1) S dX12_kept_35 ic_1 ?_
  refine i_aload_n S dX12_kept_36 rfl ?_
  obtain ⟨hL1, h⟩ := onLn h
  refine i_getIv (v := gI s.2.2 47 2) S fl_X12_135 (k47 hL1) rfl rfl dX12_kept_37 ?_
  refine i_ishl S dX12_kept_40 ?_
  refine i_icmp_ge (tgt := 82) S dX12_kept_41 (by decide) (fun q2 => ?_) (fun q2 => ?_)
  · replace h := (if_pos q2).symm.trans h
    refine i_mask (L1 := [some (rf g 47), none, some (.int x2), some (.int s.1), none]) S [true, false, true, true, false] rfl ?_
    have hz := hE _ (Option.some.inj h).symm
    exact hz
  · replace h := (if_neg q2).symm.trans h
    refine i_iload S dX12_kept_44 rfl ?_
    obtain ⟨p3, e3, h⟩ := bn h
    refine i_callS (As := [.int s.2.1]) (st1 := [.int p3]) S (c_X12_sizeOf g (d + 8) e3) mw_X12_sizeOf lk_X12_297 im_X12_sizeOf dX12_kept_46 rfl rfl (Nat.le_of_ble_eq_true rfl) rfl ?_
    refine i_iload_n S dX12_kept_49 rfl ?_
    obtain ⟨p5, e5, h⟩ := bn h
    have hj5 : ∀ q5, p5 = q5 → V 76 [some (rf g 47), some (.int x1), some (.int x2), some (.int q5.1), some (.int s.2.1)] [] q5.2 := by
      intro q5 hq5
      subst hq5
      refine i_iinc (L1 := [some (rf g 47), some (.int x1), some (.int x2), some (.int p5.1), some (.int (s.2.1 + (1 : Int32)))]) S dX12_kept_76 rfl ic_1 (by decide) rfl ?_
      refine i_goto (tgt := 33) S dX12_kept_79 (by decide) ?_
      have hz := hC _ (Option.some.inj h).symm
      exact hz
    replace h := e5
    clear e5
    refine i_icmp_ne (tgt := 76) S dX12_kept_50 (by decide) (fun q4 => ?_) (fun q4 => ?_)
    · replace h := (if_neg q4).symm.trans h
      have hz := hj5 _ (Option.some.inj h).symm
      exact hz
    · replace h := (if_pos q4).symm.trans h
      refine i_iload_n S dX12_kept_53 rfl ?_
      refine i_iconst (v := -1) S dX12_kept_54 ic_m1 ?_
      obtain ⟨s7, e7, hm7, ho7⟩ := mgn h
      have hj7 : ∀ p7, s7 = .inl p7 → V 73 [some (rf g 47), some (.int x1), some (.int x2), none, some (.int s.2.1)] [] p7 := by
        intro p7 ep7
        have h := hm7 p7 ep7
        refine i_iload S dX12_kept_73 rfl ?_
        refine i_istore_n (L1 := [some (rf g 47), some (.int x1), some (.int x2), some (.int s.2.1), some (.int s.2.1)]) S dX12_kept_75 (by decide) rfl ?_
        have hz := hj5 _ (Option.some.inj h).symm
        exact hz
      replace h := e7
      clear e7
      refine i_icmp_eq (tgt := 73) S dX12_kept_55 (by decide) (fun q6 => ?_) (fun q6 => ?_)
      · replace h := (if_pos q6).symm.trans h
        refine i_mask (L1 := [some (rf g 47), some (.int x1), some (.int x2), none, some (.int s.2.1)]) S [true, true, true, false, true] rfl ?_
        have hz := hj7 _ (Option.some.inj h).symm
        exact hz
      · replace h := (if_neg q6).symm.trans h
        refine i_aload_n S dX12_kept_58 rfl ?_
        refine i_iload S dX12_kept_59 rfl ?_
        obtain ⟨p8, e8, h⟩ := bn h
        refine i_callV (As := [.int s.2.1]) (st1 := [.long p8.1]) S (c_X12_talkOf g d hL1 e8) mw_X12_talkOf lk_X12_376 im_X12_talkOf se_X12_talkOf ci_12.1 ci_12.2.1 (k47 hL1) dX12_kept_61 rfl rfl (Nat.le_of_ble_eq_true rfl) rfl ?_
        refine i_aload_n S dX12_kept_64 rfl ?_
        refine i_iload_n S dX12_kept_65 rfl ?_
        obtain ⟨hL9, h⟩ := onLn h
        obtain ⟨p10, e10, h⟩ := bn h
        refine i_callV (As := [.int s.1]) (st1 := [.long p10.1, .long p8.1]) S (c_X12_talkOf g d hL9 e10) mw_X12_talkOf lk_X12_376 im_X12_talkOf se_X12_talkOf ci_12.1 ci_12.2.1 (k47 hL9) dX12_kept_66 rfl rfl (Nat.le_of_ble_eq_true rfl) rfl ?_
        refine i_lc_ge (tgt := 76) S dX12_kept_69 dX12_kept_70 (by decide) (fun q11 => ?_) (fun q11 => ?_)
        · replace h := (if_pos q11).symm.trans h
          replace h := ho7 _ (Option.some.inj h).symm
          have hz := hj5 _ (Option.some.inj h).symm
          exact hz
        · replace h := (if_neg q11).symm.trans h
          refine i_mask (L1 := [some (rf g 47), some (.int x1), some (.int x2), none, some (.int s.2.1)]) S [true, true, true, false, true] rfl ?_
          have hz := hj7 _ (Option.some.inj h).symm
          exact hz
set_option maxHeartbeats 4000000 in
set_option maxRecDepth 100000 in
theorem c_X12_kept (g : Gx) (d : Nat) {x1 : Int32} {x2 : Int32} {w : Mm} {p : (Int64 × Mm)} (hL : Lay w) (h : f_X12_kept x1 x2 w = some p) : Call g (d + 10) yX12_kept cX12_kept 5 (some .long) [rf g 47, .int x1, .int x2] w (some (.long p.1)) p.2 := by
  refine call_of (L0 := [some (rf g 47), some (.int x1), some (.int x2), none, none]) (by decide) rfl (Nat.le_of_ble_eq_true rfl) (fun V S0 => ?_)
  have S := S0.b
  unfold f_X12_kept at h
  refine i_iload_n S dX12_kept_0 rfl ?_
  refine i_i2l S dX12_kept_1 ?_
  refine i_lconst (v := 0) S dX12_kept_2 lc_0 ?_
  refine i_aload_n S dX12_kept_3 rfl ?_
  refine i_getIv (v := gI w 47 2) S fl_X12_135 (k47 hL) rfl rfl dX12_kept_4 ?_
  refine i_i2l S dX12_kept_7 ?_
  refine i_callS (As := [.long x1.toInt64, .long ((0 : Int64)), .long ((gI w 47 2).toInt64)]) (st1 := [.int (f_X12_lies x1.toInt64 (0 : Int64) ((gI w 47 2).toInt64))]) S (c_X12_lies g (d + 8) rfl) mw_X12_lies lk_X12_138 im_X12_lies dX12_kept_8 rfl rfl (Nat.le_of_ble_eq_true rfl) rfl ?_
  refine i_if_eq (tgt := 24) S dX12_kept_11 (by decide) (fun q1 => ?_) (fun q1 => ?_)
  · replace h := (if_pos q1).symm.trans h
    refine i_ldc2 S kl_X12_374 dX12_kept_24 ?_
    cases h
    exact i_lret S0 dX12_kept_27
  · replace h := (if_neg q1).symm.trans h
    refine i_iload_n S dX12_kept_14 rfl ?_
    refine i_i2l S dX12_kept_15 ?_
    refine i_lconst (v := 0) S dX12_kept_16 lc_0 ?_
    refine i_lconst (v := 1) S dX12_kept_17 lc_1 ?_
    refine i_callS (As := [.long x2.toInt64, .long ((0 : Int64)), .long ((1 : Int64))]) (st1 := [.int (f_X12_lies x2.toInt64 (0 : Int64) (1 : Int64))]) S (c_X12_lies g (d + 8) rfl) mw_X12_lies lk_X12_138 im_X12_lies dX12_kept_18 rfl rfl (Nat.le_of_ble_eq_true rfl) rfl ?_
    refine i_if_ne (tgt := 28) S dX12_kept_21 (by decide) (fun q2 => ?_) (fun q2 => ?_)
    · replace h := (if_neg q2).symm.trans h
      refine i_iconst (v := -1) S dX12_kept_28 ic_m1 ?_
      refine i_istore_n (L1 := [some (rf g 47), some (.int x1), some (.int x2), some (.int ((-1 : Int32))), none]) S dX12_kept_29 (by decide) rfl ?_
      refine i_iconst (v := 0) S dX12_kept_30 ic_0 ?_
      refine i_istore (L1 := [some (rf g 47), some (.int x1), some (.int x2), some (.int ((-1 : Int32))), some (.int ((0 : Int32)))]) S dX12_kept_31 (by decide) rfl ?_
      obtain ⟨p3, e3, h⟩ := bn h
      have hE3 : V 82 [some (rf g 47), none, some (.int x2), some (.int p3.1), none] [] p3.2 := by
        refine i_iload_n S dX12_kept_82 rfl ?_
        refine i_if_ne (tgt := 91) S dX12_kept_83 (by decide) (fun q4 => ?_) (fun q4 => ?_)
        · replace h := (if_neg q4).symm.trans h
          refine i_aload_n S dX12_kept_91 rfl ?_
          refine i_iload_n S dX12_kept_92 rfl ?_
          obtain ⟨hL5, h⟩ := onLn h
          obtain ⟨p6, e6, h⟩ := bn h
          refine i_callV (As := [.int p3.1]) (st1 := [.long p6.1]) S (c_X12_talkOf g d hL5 e6) mw_X12_talkOf lk_X12_376 im_X12_talkOf se_X12_talkOf ci_12.1 ci_12.2.1 (k47 hL5) dX12_kept_93 rfl rfl (Nat.le_of_ble_eq_true rfl) rfl ?_
          cases h
          exact i_lret S0 dX12_kept_96
        · replace h := (if_pos q4).symm.trans h
          refine i_iload_n S dX12_kept_86 rfl ?_
          refine i_i2l S dX12_kept_87 ?_
          refine i_goto (tgt := 96) S dX12_kept_88 (by decide) ?_
          cases h
          exact i_lret S0 dX12_kept_96
      exact wh_V (P := fun sv3 => V 33 [some (rf g 47), some (.int x1), some (.int x2), some (.int sv3.1), some (.int sv3.2.1)] [] sv3.2.2) (E := fun xv3 => V 82 [some (rf g 47), none, some (.int x2), some (.int xv3.1), none] [] xv3.2) (fun sv3 ev hb hc he => t_l_X12_kept_33   S  sv3 ev hb hc he) FUEL _ _ e3 hE3
    · replace h := (if_pos q2).symm.trans h
      refine i_ldc2 S kl_X12_374 dX12_kept_24 ?_
      cases h
      exact i_lret S0 dX12_kept_27
/-! WordYearModel.back -/
noncomputable def l_X12_back_99 (x1 : Int32) (x8 : Int32) (x9 : Int32) (s : Int32 × Int32 × Int32 × Int64 × Int32 × Mm) : Option ((Int32 × Int32 × Int32 × Int64 × Int32 × Mm) ⊕ (Int32 × Int32 × Int32 × Int64 × Mm)) := onL s.2.2.2.2.2 (if (gI s.2.2.2.2.2 47 2) ≤ s.2.2.2.2.1 then (some (.inr (s.1, s.2.1, s.2.2.1, s.2.2.2.1, s.2.2.2.2.2))) else (if (f_X12_has (gI s.2.2.2.2.2 47 6) x9) = 0 then (some (.inr (s.1, s.2.1, s.2.2.1, s.2.2.2.1, s.2.2.2.2.2))) else (Option.bind (if (f_X12_has (gI s.2.2.2.2.2 47 6) s.2.2.2.2.1) = 0 then (some (s.1, s.2.1, s.2.2.1, s.2.2.2.1, s.2.2.2.2.2)) else (Option.bind (f_X12_talkOf (((gI s.2.2.2.2.2 47 6) ||| ((1 : Int32) <<< (x8 &&& 31))) &&& ((((1 : Int32) <<< (x9 &&& 31)) ||| ((1 : Int32) <<< (s.2.2.2.2.1 &&& 31))) ^^^ (-1 : Int32))) s.2.2.2.2.2) (fun p6 => if p6.1 < s.2.2.2.1 then (some (x9, s.2.2.2.2.1, x8, p6.1, p6.2)) else (some (s.1, s.2.1, s.2.2.1, s.2.2.2.1, p6.2))))) (fun p5 => some (.inl (p5.1, p5.2.1, p5.2.2.1, p5.2.2.2.1, s.2.2.2.2.1 + (1 : Int32), p5.2.2.2.2))))))
noncomputable def l_X12_back_72 (x1 : Int32) (x8 : Int32) (s : Int32 × Int32 × Int32 × Int64 × Int32 × Mm) : Option ((Int32 × Int32 × Int32 × Int64 × Int32 × Mm) ⊕ (Int32 × Int32 × Int32 × Int64 × Mm)) := onL s.2.2.2.2.2 (if (gI s.2.2.2.2.2 47 2) ≤ s.2.2.2.2.1 then (some (.inr (s.1, s.2.1, s.2.2.1, s.2.2.2.1, s.2.2.2.2.2))) else (if (f_X12_has (gI s.2.2.2.2.2 47 6) x8) = 0 then (Option.bind (wh (l_X12_back_99 x1 x8 s.2.2.2.2.1) FUEL (s.1, s.2.1, s.2.2.1, s.2.2.2.1, s.2.2.2.2.1 + (1 : Int32), s.2.2.2.2.2)) (fun p4 => some (.inl (p4.1, p4.2.1, p4.2.2.1, p4.2.2.2.1, s.2.2.2.2.1 + (1 : Int32), p4.2.2.2.2)))) else (some (.inr (s.1, s.2.1, s.2.2.1, s.2.2.2.1, s.2.2.2.2.2)))))
noncomputable def l_X12_back_60 (x1 : Int32) (s : Int32 × Int32 × Int32 × Int64 × Int32 × Mm) : Option ((Int32 × Int32 × Int32 × Int64 × Int32 × Mm) ⊕ (Int32 × Int32 × Int32 × Int64 × Mm)) := onL s.2.2.2.2.2 (if (gI s.2.2.2.2.2 47 2) ≤ s.2.2.2.2.1 then (some (.inr (s.1, s.2.1, s.2.2.1, s.2.2.2.1, s.2.2.2.2.2))) else (Option.bind (wh (l_X12_back_72 x1 s.2.2.2.2.1) FUEL (s.1, s.2.1, s.2.2.1, s.2.2.2.1, (0 : Int32), s.2.2.2.2.2)) (fun p3 => some (.inl (p3.1, p3.2.1, p3.2.2.1, p3.2.2.2.1, s.2.2.2.2.1 + (1 : Int32), p3.2.2.2.2)))))
noncomputable def f_X12_back (x1 : Int32) (w : Mm) : Option (Int64 × Mm) := if (f_X12_lies x1.toInt64 (0 : Int64) (3 : Int64)) = 0 then (some ((-1 : Int64), w)) else (if (gI w 47 6) = (((1 : Int32) <<< ((gI w 47 2) &&& 31)) - (1 : Int32)) then (some ((-1 : Int64), w)) else (Option.bind (f_X12_sizeOf (gI w 47 6)) (fun p3 => if (2 : Int32) ≤ p3 then (Option.bind (wh (l_X12_back_60 x1) FUEL ((-1 : Int32), (-1 : Int32), (-1 : Int32), (1000000000000000 : Int64), (0 : Int32), w)) (fun p5 => if x1 = 0 then (some (p5.2.2.1.toInt64, p5.2.2.2.2)) else (if x1 = (1 : Int32) then (some (p5.1.toInt64, p5.2.2.2.2)) else (if x1 = (2 : Int32) then (some (p5.2.1.toInt64, p5.2.2.2.2)) else (some (p5.2.2.2.1, p5.2.2.2.2)))))) else (some ((-1 : Int64), w)))))
set_option maxHeartbeats 4000000 in
set_option maxRecDepth 100000 in
theorem t_l_X12_back_99 {g : Gx} {V : Vt} {d : Nat} (S : MachB g yX12_back cX12_back 13 (d + 9) V) {x1 : Int32} {x8 : Int32} {x9 : Int32}  (s : Int32 × Int32 × Int32 × Int64 × Int32 × Mm) (e : (Int32 × Int32 × Int32 × Int64 × Int32 × Mm) ⊕ (Int32 × Int32 × Int32 × Int64 × Mm)) (h : l_X12_back_99 x1 x8 x9 s = some e) (hC : ∀ s2, e = .inl s2 → V 99 [some (rf g 47), some (.int x1), none, some (.int s2.1), some (.int s2.2.1), some (.int s2.2.2.1), some (.long s2.2.2.2.1), none, some (.int x8), some (.int x9), some (.int s2.2.2.2.2.1), none, none] [] s2.2.2.2.2.2) (hE : ∀ x, e = .inr x → V 194 [some (rf g 47), some (.int x1), none, some (.int x.1), some (.int x.2.1), some (.int x.2.2.1), some (.long x.2.2.2.1), none, some (.int x8), some (.int x9), none, none, none] [] x.2.2.2.2) : V 99 [some (rf g 47), some (.int x1), none, some (.int s.1), some (.int s.2.1), some (.int s.2.2.1), some (.long s.2.2.2.1), none, some (.int x8), some (.int x9), some (.int s.2.2.2.2.1), none, none] [] s.2.2.2.2.2 := by
  unfold l_X12_back_99 at h
  refine i_iload S dX12_back_99 rfl ?_
  refine i_aload_n S dX12_back_101 rfl ?_
  obtain ⟨hL1, h⟩ := onLn h
  refine i_getIv (v := gI s.2.2.2.2.2 47 2) S fl_X12_135 (k47 hL1) rfl rfl dX12_back_102 ?_
  refine i_icmp_ge (tgt := 194) S dX12_back_105 (by decide) (fun q2 => ?_) (fun q2 => ?_)
  · replace h := (if_pos q2).symm.trans h
    refine i_mask (L1 := [some (rf g 47), some (.int x1), none, some (.int s.1), some (.int s.2.1), some (.int s.2.2.1), some (.long s.2.2.2.1), none, some (.int x8), some (.int x9), none, none, none]) S [true, true, false, true, true, true, true, false, true, true, false, false, false] rfl ?_
    have hz := hE _ (Option.some.inj h).symm
    exact hz
  · replace h := (if_neg q2).symm.trans h
    refine i_aload_n S dX12_back_108 rfl ?_
    refine i_getIv (v := gI s.2.2.2.2.2 47 6) S fl_X12_146 (k47 hL1) rfl rfl dX12_back_109 ?_
    refine i_iload S dX12_back_112 rfl ?_
    refine i_callS (As := [.int (gI s.2.2.2.2.2 47 6), .int x9]) (st1 := [.int (f_X12_has (gI s.2.2.2.2.2 47 6) x9)]) S (c_X12_has g (d + 8) rfl) mw_X12_has lk_X12_149 im_X12_has dX12_back_114 rfl rfl (Nat.le_of_ble_eq_true rfl) rfl ?_
    refine i_if_eq (tgt := 194) S dX12_back_117 (by decide) (fun q3 => ?_) (fun q3 => ?_)
    · replace h := (if_pos q3).symm.trans h
      refine i_mask (L1 := [some (rf g 47), some (.int x1), none, some (.int s.1), some (.int s.2.1), some (.int s.2.2.1), some (.long s.2.2.2.1), none, some (.int x8), some (.int x9), none, none, none]) S [true, true, false, true, true, true, true, false, true, true, false, false, false] rfl ?_
      have hz := hE _ (Option.some.inj h).symm
      exact hz
    · replace h := (if_neg q3).symm.trans h
      refine i_aload_n S dX12_back_120 rfl ?_
      refine i_getIv (v := gI s.2.2.2.2.2 47 6) S fl_X12_146 (k47 hL1) rfl rfl dX12_back_121 ?_
      refine i_iload S dX12_back_124 rfl ?_
      refine i_callS (As := [.int (gI s.2.2.2.2.2 47 6), .int s.2.2.2.2.1]) (st1 := [.int (f_X12_has (gI s.2.2.2.2.2 47 6) s.2.2.2.2.1)]) S (c_X12_has g (d + 8) rfl) mw_X12_has lk_X12_149 im_X12_has dX12_back_126 rfl rfl (Nat.le_of_ble_eq_true rfl) rfl ?_
      obtain ⟨p5, e5, h⟩ := bn h
      have hj5 : ∀ q5, p5 = q5 → V 188 [some (rf g 47), some (.int x1), none, some (.int q5.1), some (.int q5.2.1), some (.int q5.2.2.1), some (.long q5.2.2.2.1), none, some (.int x8), some (.int x9), some (.int s.2.2.2.2.1), none, none] [] q5.2.2.2.2 := by
        intro q5 hq5
        subst hq5
        refine i_iinc (L1 := [some (rf g 47), some (.int x1), none, some (.int p5.1), some (.int p5.2.1), some (.int p5.2.2.1), some (.long p5.2.2.2.1), none, some (.int x8), some (.int x9), some (.int (s.2.2.2.2.1 + (1 : Int32))), none, none]) S dX12_back_188 rfl ic_1 (by decide) rfl ?_
        refine i_goto (tgt := 99) S dX12_back_191 (by decide) ?_
        have hz := hC _ (Option.some.inj h).symm
        exact hz
      replace h := e5
      clear e5
      refine i_if_ne (tgt := 135) S dX12_back_129 (by decide) (fun q4 => ?_) (fun q4 => ?_)
      · replace h := (if_neg q4).symm.trans h
        refine i_aload_n S dX12_back_135 rfl ?_
        refine i_aload_n S dX12_back_136 rfl ?_
        refine i_getIv (v := gI s.2.2.2.2.2 47 6) S fl_X12_146 (k47 hL1) rfl rfl dX12_back_137 ?_
        refine i_iconst (v := 1) S dX12_back_140 ic_1 ?_
        refine i_iload S dX12_back_141 rfl ?_
        refine i_ishl S dX12_back_143 ?_
        refine i_ior S dX12_back_144 ?_
        refine i_iconst (v := 1) S dX12_back_145 ic_1 ?_
        refine i_iload S dX12_back_146 rfl ?_
        refine i_ishl S dX12_back_148 ?_
        refine i_iconst (v := 1) S dX12_back_149 ic_1 ?_
        refine i_iload S dX12_back_150 rfl ?_
        refine i_ishl S dX12_back_152 ?_
        refine i_ior S dX12_back_153 ?_
        refine i_iconst (v := -1) S dX12_back_154 ic_m1 ?_
        refine i_ixor S dX12_back_155 ?_
        refine i_iand S dX12_back_156 ?_
        obtain ⟨p6, e6, h⟩ := bn h
        refine i_callV (As := [.int (((gI s.2.2.2.2.2 47 6) ||| ((1 : Int32) <<< (x8 &&& 31))) &&& ((((1 : Int32) <<< (x9 &&& 31)) ||| ((1 : Int32) <<< (s.2.2.2.2.1 &&& 31))) ^^^ (-1 : Int32)))]) (st1 := [.long p6.1]) S (c_X12_talkOf g d hL1 e6) mw_X12_talkOf lk_X12_376 im_X12_talkOf se_X12_talkOf ci_12.1 ci_12.2.1 (k47 hL1) dX12_back_157 rfl rfl (Nat.le_of_ble_eq_true rfl) rfl ?_
        refine i_lstore (L1 := [some (rf g 47), some (.int x1), none, some (.int s.1), some (.int s.2.1), some (.int s.2.2.1), some (.long s.2.2.2.1), none, some (.int x8), some (.int x9), some (.int s.2.2.2.2.1), some (.long p6.1), none]) S dX12_back_160 (by decide) rfl ?_
        refine i_lload S dX12_back_162 rfl ?_
        refine i_lload S dX12_back_164 rfl ?_
        refine i_lc_lt (tgt := 173) S dX12_back_166 dX12_back_167 (by decide) (fun q7 => ?_) (fun q7 => ?_)
        · replace h := (if_pos q7).symm.trans h
          refine i_lload S dX12_back_173 rfl ?_
          refine i_lstore (L1 := [some (rf g 47), some (.int x1), none, some (.int s.1), some (.int s.2.1), some (.int s.2.2.1), some (.long p6.1), none, some (.int x8), some (.int x9), some (.int s.2.2.2.2.1), some (.long p6.1), none]) S dX12_back_175 (by decide) rfl ?_
          refine i_iload S dX12_back_177 rfl ?_
          refine i_istore (L1 := [some (rf g 47), some (.int x1), none, some (.int s.1), some (.int s.2.1), some (.int x8), some (.long p6.1), none, some (.int x8), some (.int x9), some (.int s.2.2.2.2.1), some (.long p6.1), none]) S dX12_back_179 (by decide) rfl ?_
          refine i_iload S dX12_back_181 rfl ?_
          refine i_istore_n (L1 := [some (rf g 47), some (.int x1), none, some (.int x9), some (.int s.2.1), some (.int x8), some (.long p6.1), none, some (.int x8), some (.int x9), some (.int s.2.2.2.2.1), some (.long p6.1), none]) S dX12_back_183 (by decide) rfl ?_
          refine i_iload S dX12_back_184 rfl ?_
          refine i_istore (L1 := [some (rf g 47), some (.int x1), none, some (.int x9), some (.int s.2.2.2.2.1), some (.int x8), some (.long p6.1), none, some (.int x8), some (.int x9), some (.int s.2.2.2.2.1), some (.long p6.1), none]) S dX12_back_186 (by decide) rfl ?_
          refine i_mask (L1 := [some (rf g 47), some (.int x1), none, some (.int x9), some (.int s.2.2.2.2.1), some (.int x8), some (.long p6.1), none, some (.int x8), some (.int x9), some (.int s.2.2.2.2.1), none, none]) S [true, true, false, true, true, true, true, false, true, true, true, false, false] rfl ?_
          have hz := hj5 _ (Option.some.inj h).symm
          exact hz
        · replace h := (if_neg q7).symm.trans h
          refine i_goto (tgt := 188) S dX12_back_170 (by decide) ?_
          refine i_mask (L1 := [some (rf g 47), some (.int x1), none, some (.int s.1), some (.int s.2.1), some (.int s.2.2.1), some (.long s.2.2.2.1), none, some (.int x8), some (.int x9), some (.int s.2.2.2.2.1), none, none]) S [true, true, false, true, true, true, true, false, true, true, true, false, false] rfl ?_
          have hz := hj5 _ (Option.some.inj h).symm
          exact hz
      · replace h := (if_pos q4).symm.trans h
        refine i_goto (tgt := 188) S dX12_back_132 (by decide) ?_
        have hz := hj5 _ (Option.some.inj h).symm
        exact hz
set_option maxHeartbeats 4000000 in
set_option maxRecDepth 100000 in
theorem t_l_X12_back_72 {g : Gx} {V : Vt} {d : Nat} (S : MachB g yX12_back cX12_back 13 (d + 9) V) {x1 : Int32} {x8 : Int32}  (s : Int32 × Int32 × Int32 × Int64 × Int32 × Mm) (e : (Int32 × Int32 × Int32 × Int64 × Int32 × Mm) ⊕ (Int32 × Int32 × Int32 × Int64 × Mm)) (h : l_X12_back_72 x1 x8 s = some e) (hC : ∀ s2, e = .inl s2 → V 72 [some (rf g 47), some (.int x1), none, some (.int s2.1), some (.int s2.2.1), some (.int s2.2.2.1), some (.long s2.2.2.2.1), none, some (.int x8), some (.int s2.2.2.2.2.1), none, none, none] [] s2.2.2.2.2.2) (hE : ∀ x, e = .inr x → V 200 [some (rf g 47), some (.int x1), none, some (.int x.1), some (.int x.2.1), some (.int x.2.2.1), some (.long x.2.2.2.1), none, some (.int x8), none, none, none, none] [] x.2.2.2.2) : V 72 [some (rf g 47), some (.int x1), none, some (.int s.1), some (.int s.2.1), some (.int s.2.2.1), some (.long s.2.2.2.1), none, some (.int x8), some (.int s.2.2.2.2.1), none, none, none] [] s.2.2.2.2.2 := by
  unfold l_X12_back_72 at h
  refine i_iload S dX12_back_72 rfl ?_
  refine i_aload_n S dX12_back_74 rfl ?_
  obtain ⟨hL1, h⟩ := onLn h
  refine i_getIv (v := gI s.2.2.2.2.2 47 2) S fl_X12_135 (k47 hL1) rfl rfl dX12_back_75 ?_
  refine i_icmp_ge (tgt := 200) S dX12_back_78 (by decide) (fun q2 => ?_) (fun q2 => ?_)
  · replace h := (if_pos q2).symm.trans h
    refine i_mask (L1 := [some (rf g 47), some (.int x1), none, some (.int s.1), some (.int s.2.1), some (.int s.2.2.1), some (.long s.2.2.2.1), none, some (.int x8), none, none, none, none]) S [true, true, false, true, true, true, true, false, true, false, false, false, false] rfl ?_
    have hz := hE _ (Option.some.inj h).symm
    exact hz
  · replace h := (if_neg q2).symm.trans h
    refine i_aload_n S dX12_back_81 rfl ?_
    refine i_getIv (v := gI s.2.2.2.2.2 47 6) S fl_X12_146 (k47 hL1) rfl rfl dX12_back_82 ?_
    refine i_iload S dX12_back_85 rfl ?_
    refine i_callS (As := [.int (gI s.2.2.2.2.2 47 6), .int x8]) (st1 := [.int (f_X12_has (gI s.2.2.2.2.2 47 6) x8)]) S (c_X12_has g (d + 8) rfl) mw_X12_has lk_X12_149 im_X12_has dX12_back_87 rfl rfl (Nat.le_of_ble_eq_true rfl) rfl ?_
    refine i_if_ne (tgt := 200) S dX12_back_90 (by decide) (fun q3 => ?_) (fun q3 => ?_)
    · replace h := (if_neg q3).symm.trans h
      refine i_mask (L1 := [some (rf g 47), some (.int x1), none, some (.int s.1), some (.int s.2.1), some (.int s.2.2.1), some (.long s.2.2.2.1), none, some (.int x8), none, none, none, none]) S [true, true, false, true, true, true, true, false, true, false, false, false, false] rfl ?_
      have hz := hE _ (Option.some.inj h).symm
      exact hz
    · replace h := (if_pos q3).symm.trans h
      refine i_iload S dX12_back_93 rfl ?_
      refine i_iconst (v := 1) S dX12_back_95 ic_1 ?_
      refine i_iadd S dX12_back_96 ?_
      refine i_istore (L1 := [some (rf g 47), some (.int x1), none, some (.int s.1), some (.int s.2.1), some (.int s.2.2.1), some (.long s.2.2.2.1), none, some (.int x8), some (.int s.2.2.2.2.1), some (.int (s.2.2.2.2.1 + (1 : Int32))), none, none]) S dX12_back_97 (by decide) rfl ?_
      obtain ⟨p4, e4, h⟩ := bn h
      have hE4 : V 194 [some (rf g 47), some (.int x1), none, some (.int p4.1), some (.int p4.2.1), some (.int p4.2.2.1), some (.long p4.2.2.2.1), none, some (.int x8), some (.int s.2.2.2.2.1), none, none, none] [] p4.2.2.2.2 := by
        refine i_iinc (L1 := [some (rf g 47), some (.int x1), none, some (.int p4.1), some (.int p4.2.1), some (.int p4.2.2.1), some (.long p4.2.2.2.1), none, some (.int x8), some (.int (s.2.2.2.2.1 + (1 : Int32))), none, none, none]) S dX12_back_194 rfl ic_1 (by decide) rfl ?_
        refine i_goto (tgt := 72) S dX12_back_197 (by decide) ?_
        have hz := hC _ (Option.some.inj h).symm
        exact hz
      exact wh_V (P := fun sv4 => V 99 [some (rf g 47), some (.int x1), none, some (.int sv4.1), some (.int sv4.2.1), some (.int sv4.2.2.1), some (.long sv4.2.2.2.1), none, some (.int x8), some (.int s.2.2.2.2.1), some (.int sv4.2.2.2.2.1), none, none] [] sv4.2.2.2.2.2) (E := fun xv4 => V 194 [some (rf g 47), some (.int x1), none, some (.int xv4.1), some (.int xv4.2.1), some (.int xv4.2.2.1), some (.long xv4.2.2.2.1), none, some (.int x8), some (.int s.2.2.2.2.1), none, none, none] [] xv4.2.2.2.2) (fun sv4 ev hb hc he => t_l_X12_back_99   S  sv4 ev hb hc he) FUEL _ _ e4 hE4
set_option maxHeartbeats 4000000 in
set_option maxRecDepth 100000 in
theorem t_l_X12_back_60 {g : Gx} {V : Vt} {d : Nat} (S : MachB g yX12_back cX12_back 13 (d + 9) V) {x1 : Int32}  (s : Int32 × Int32 × Int32 × Int64 × Int32 × Mm) (e : (Int32 × Int32 × Int32 × Int64 × Int32 × Mm) ⊕ (Int32 × Int32 × Int32 × Int64 × Mm)) (h : l_X12_back_60 x1 s = some e) (hC : ∀ s2, e = .inl s2 → V 60 [some (rf g 47), some (.int x1), none, some (.int s2.1), some (.int s2.2.1), some (.int s2.2.2.1), some (.long s2.2.2.2.1), none, some (.int s2.2.2.2.2.1), none, none, none, none] [] s2.2.2.2.2.2) (hE : ∀ x, e = .inr x → V 206 [none, some (.int x1), none, some (.int x.1), some (.int x.2.1), some (.int x.2.2.1), some (.long x.2.2.2.1), none, none, none, none, none, none] [] x.2.2.2.2) : V 60 [some (rf g 47), some (.int x1), none, some (.int s.1), some (.int s.2.1), some (.int s.2.2.1), some (.long s.2.2.2.1), none, some (.int s.2.2.2.2.1), none, none, none, none] [] s.2.2.2.2.2 := by
  unfold l_X12_back_60 at h
  refine i_iload S dX12_back_60 rfl ?_
  refine i_aload_n S dX12_back_62 rfl ?_
  obtain ⟨hL1, h⟩ := onLn h
  refine i_getIv (v := gI s.2.2.2.2.2 47 2) S fl_X12_135 (k47 hL1) rfl rfl dX12_back_63 ?_
  refine i_icmp_ge (tgt := 206) S dX12_back_66 (by decide) (fun q2 => ?_) (fun q2 => ?_)
  · replace h := (if_pos q2).symm.trans h
    refine i_mask (L1 := [none, some (.int x1), none, some (.int s.1), some (.int s.2.1), some (.int s.2.2.1), some (.long s.2.2.2.1), none, none, none, none, none, none]) S [false, true, false, true, true, true, true, false, false, false, false, false, false] rfl ?_
    have hz := hE _ (Option.some.inj h).symm
    exact hz
  · replace h := (if_neg q2).symm.trans h
    refine i_iconst (v := 0) S dX12_back_69 ic_0 ?_
    refine i_istore (L1 := [some (rf g 47), some (.int x1), none, some (.int s.1), some (.int s.2.1), some (.int s.2.2.1), some (.long s.2.2.2.1), none, some (.int s.2.2.2.2.1), some (.int ((0 : Int32))), none, none, none]) S dX12_back_70 (by decide) rfl ?_
    obtain ⟨p3, e3, h⟩ := bn h
    have hE3 : V 200 [some (rf g 47), some (.int x1), none, some (.int p3.1), some (.int p3.2.1), some (.int p3.2.2.1), some (.long p3.2.2.2.1), none, some (.int s.2.2.2.2.1), none, none, none, none] [] p3.2.2.2.2 := by
      refine i_iinc (L1 := [some (rf g 47), some (.int x1), none, some (.int p3.1), some (.int p3.2.1), some (.int p3.2.2.1), some (.long p3.2.2.2.1), none, some (.int (s.2.2.2.2.1 + (1 : Int32))), none, none, none, none]) S dX12_back_200 rfl ic_1 (by decide) rfl ?_
      refine i_goto (tgt := 60) S dX12_back_203 (by decide) ?_
      have hz := hC _ (Option.some.inj h).symm
      exact hz
    exact wh_V (P := fun sv3 => V 72 [some (rf g 47), some (.int x1), none, some (.int sv3.1), some (.int sv3.2.1), some (.int sv3.2.2.1), some (.long sv3.2.2.2.1), none, some (.int s.2.2.2.2.1), some (.int sv3.2.2.2.2.1), none, none, none] [] sv3.2.2.2.2.2) (E := fun xv3 => V 200 [some (rf g 47), some (.int x1), none, some (.int xv3.1), some (.int xv3.2.1), some (.int xv3.2.2.1), some (.long xv3.2.2.2.1), none, some (.int s.2.2.2.2.1), none, none, none, none] [] xv3.2.2.2.2) (fun sv3 ev hb hc he => t_l_X12_back_72   S  sv3 ev hb hc he) FUEL _ _ e3 hE3
set_option maxHeartbeats 4000000 in
set_option maxRecDepth 100000 in
theorem c_X12_back (g : Gx) (d : Nat) {x1 : Int32} {w : Mm} {p : (Int64 × Mm)} (hL : Lay w) (h : f_X12_back x1 w = some p) : Call g (d + 10) yX12_back cX12_back 13 (some .long) [rf g 47, .int x1] w (some (.long p.1)) p.2 := by
  refine call_of (L0 := [some (rf g 47), some (.int x1), none, none, none, none, none, none, none, none, none, none, none]) (by decide) rfl (Nat.le_of_ble_eq_true rfl) (fun V S0 => ?_)
  have S := S0.b
  unfold f_X12_back at h
  refine i_iconst (v := 1) S dX12_back_0 ic_1 ?_
  refine i_aload_n S dX12_back_1 rfl ?_
  refine i_getIv (v := gI w 47 2) S fl_X12_135 (k47 hL) rfl rfl dX12_back_2 ?_
  refine i_ishl S dX12_back_5 ?_
  refine i_iconst (v := 1) S dX12_back_6 ic_1 ?_
  refine i_isub S dX12_back_7 ?_
  refine i_istore_n (L1 := [some (rf g 47), some (.int x1), some (.int (((1 : Int32) <<< ((gI w 47 2) &&& 31)) - (1 : Int32))), none, none, none, none, none, none, none, none, none, none]) S dX12_back_8 (by decide) rfl ?_
  refine i_iload_n S dX12_back_9 rfl ?_
  refine i_i2l S dX12_back_10 ?_
  refine i_lconst (v := 0) S dX12_back_11 lc_0 ?_
  refine i_ldc2 S kl_X12_144 dX12_back_12 ?_
  refine i_callS (As := [.long x1.toInt64, .long ((0 : Int64)), .long ((3 : Int64))]) (st1 := [.int (f_X12_lies x1.toInt64 (0 : Int64) (3 : Int64))]) S (c_X12_lies g (d + 8) rfl) mw_X12_lies lk_X12_138 im_X12_lies dX12_back_15 rfl rfl (Nat.le_of_ble_eq_true rfl) rfl ?_
  refine i_if_eq (tgt := 40) S dX12_back_18 (by decide) (fun q1 => ?_) (fun q1 => ?_)
  · replace h := (if_pos q1).symm.trans h
    refine i_ldc2 S kl_X12_374 dX12_back_40 ?_
    cases h
    exact i_lret S0 dX12_back_43
  · replace h := (if_neg q1).symm.trans h
    refine i_aload_n S dX12_back_21 rfl ?_
    refine i_getIv (v := gI w 47 6) S fl_X12_146 (k47 hL) rfl rfl dX12_back_22 ?_
    refine i_iload_n S dX12_back_25 rfl ?_
    refine i_icmp_eq (tgt := 40) S dX12_back_26 (by decide) (fun q2 => ?_) (fun q2 => ?_)
    · replace h := (if_pos q2).symm.trans h
      refine i_ldc2 S kl_X12_374 dX12_back_40 ?_
      cases h
      exact i_lret S0 dX12_back_43
    · replace h := (if_neg q2).symm.trans h
      refine i_aload_n S dX12_back_29 rfl ?_
      refine i_getIv (v := gI w 47 6) S fl_X12_146 (k47 hL) rfl rfl dX12_back_30 ?_
      obtain ⟨p3, e3, h⟩ := bn h
      refine i_callS (As := [.int (gI w 47 6)]) (st1 := [.int p3]) S (c_X12_sizeOf g (d + 8) e3) mw_X12_sizeOf lk_X12_297 im_X12_sizeOf dX12_back_33 rfl rfl (Nat.le_of_ble_eq_true rfl) rfl ?_
      refine i_iconst (v := 2) S dX12_back_36 ic_2 ?_
      refine i_icmp_ge (tgt := 44) S dX12_back_37 (by decide) (fun q4 => ?_) (fun q4 => ?_)
      · replace h := (if_pos q4).symm.trans h
        refine i_iconst (v := -1) S dX12_back_44 ic_m1 ?_
        refine i_istore_n (L1 := [some (rf g 47), some (.int x1), some (.int (((1 : Int32) <<< ((gI w 47 2) &&& 31)) - (1 : Int32))), some (.int ((-1 : Int32))), none, none, none, none, none, none, none, none, none]) S dX12_back_45 (by decide) rfl ?_
        refine i_iconst (v := -1) S dX12_back_46 ic_m1 ?_
        refine i_istore (L1 := [some (rf g 47), some (.int x1), some (.int (((1 : Int32) <<< ((gI w 47 2) &&& 31)) - (1 : Int32))), some (.int ((-1 : Int32))), some (.int ((-1 : Int32))), none, none, none, none, none, none, none, none]) S dX12_back_47 (by decide) rfl ?_
        refine i_iconst (v := -1) S dX12_back_49 ic_m1 ?_
        refine i_istore (L1 := [some (rf g 47), some (.int x1), some (.int (((1 : Int32) <<< ((gI w 47 2) &&& 31)) - (1 : Int32))), some (.int ((-1 : Int32))), some (.int ((-1 : Int32))), some (.int ((-1 : Int32))), none, none, none, none, none, none, none]) S dX12_back_50 (by decide) rfl ?_
        refine i_ldc2 S kl_X12_421 dX12_back_52 ?_
        refine i_lstore (L1 := [some (rf g 47), some (.int x1), some (.int (((1 : Int32) <<< ((gI w 47 2) &&& 31)) - (1 : Int32))), some (.int ((-1 : Int32))), some (.int ((-1 : Int32))), some (.int ((-1 : Int32))), some (.long ((1000000000000000 : Int64))), none, none, none, none, none, none]) S dX12_back_55 (by decide) rfl ?_
        refine i_iconst (v := 0) S dX12_back_57 ic_0 ?_
        refine i_istore (L1 := [some (rf g 47), some (.int x1), some (.int (((1 : Int32) <<< ((gI w 47 2) &&& 31)) - (1 : Int32))), some (.int ((-1 : Int32))), some (.int ((-1 : Int32))), some (.int ((-1 : Int32))), some (.long ((1000000000000000 : Int64))), none, some (.int ((0 : Int32))), none, none, none, none]) S dX12_back_58 (by decide) rfl ?_
        refine i_mask (L1 := [some (rf g 47), some (.int x1), none, some (.int ((-1 : Int32))), some (.int ((-1 : Int32))), some (.int ((-1 : Int32))), some (.long ((1000000000000000 : Int64))), none, some (.int ((0 : Int32))), none, none, none, none]) S [true, true, false, true, true, true, true, false, true, false, false, false, false] rfl ?_
        obtain ⟨p5, e5, h⟩ := bn h
        have hE5 : V 206 [none, some (.int x1), none, some (.int p5.1), some (.int p5.2.1), some (.int p5.2.2.1), some (.long p5.2.2.2.1), none, none, none, none, none, none] [] p5.2.2.2.2 := by
          refine i_iload_n S dX12_back_206 rfl ?_
          refine i_if_ne (tgt := 216) S dX12_back_207 (by decide) (fun q6 => ?_) (fun q6 => ?_)
          · replace h := (if_neg q6).symm.trans h
            refine i_iload_n S dX12_back_216 rfl ?_
            refine i_iconst (v := 1) S dX12_back_217 ic_1 ?_
            refine i_icmp_ne (tgt := 226) S dX12_back_218 (by decide) (fun q7 => ?_) (fun q7 => ?_)
            · replace h := (if_neg q7).symm.trans h
              refine i_iload_n S dX12_back_226 rfl ?_
              refine i_iconst (v := 2) S dX12_back_227 ic_2 ?_
              refine i_icmp_ne (tgt := 237) S dX12_back_228 (by decide) (fun q8 => ?_) (fun q8 => ?_)
              · replace h := (if_neg q8).symm.trans h
                refine i_lload S dX12_back_237 rfl ?_
                cases h
                exact i_lret S0 dX12_back_239
              · replace h := (if_pos q8).symm.trans h
                refine i_iload S dX12_back_231 rfl ?_
                refine i_i2l S dX12_back_233 ?_
                refine i_goto (tgt := 239) S dX12_back_234 (by decide) ?_
                cases h
                exact i_lret S0 dX12_back_239
            · replace h := (if_pos q7).symm.trans h
              refine i_iload_n S dX12_back_221 rfl ?_
              refine i_i2l S dX12_back_222 ?_
              refine i_goto (tgt := 239) S dX12_back_223 (by decide) ?_
              cases h
              exact i_lret S0 dX12_back_239
          · replace h := (if_pos q6).symm.trans h
            refine i_iload S dX12_back_210 rfl ?_
            refine i_i2l S dX12_back_212 ?_
            refine i_goto (tgt := 239) S dX12_back_213 (by decide) ?_
            cases h
            exact i_lret S0 dX12_back_239
        exact wh_V (P := fun sv5 => V 60 [some (rf g 47), some (.int x1), none, some (.int sv5.1), some (.int sv5.2.1), some (.int sv5.2.2.1), some (.long sv5.2.2.2.1), none, some (.int sv5.2.2.2.2.1), none, none, none, none] [] sv5.2.2.2.2.2) (E := fun xv5 => V 206 [none, some (.int x1), none, some (.int xv5.1), some (.int xv5.2.1), some (.int xv5.2.2.1), some (.long xv5.2.2.2.1), none, none, none, none, none, none] [] xv5.2.2.2.2) (fun sv5 ev hb hc he => t_l_X12_back_60   S  sv5 ev hb hc he) FUEL _ _ e5 hE5
      · replace h := (if_neg q4).symm.trans h
        refine i_ldc2 S kl_X12_374 dX12_back_40 ?_
        cases h
        exact i_lret S0 dX12_back_43
/-! WordYearModel.isMeant -/
noncomputable def f_X12_isMeant (x1 : Int32) (w : Mm) : Option Int32 := Option.bind (f_X12_isUsed x1 w) (fun p1 => if p1 = 0 then (some (0 : Int32)) else (if inb x1 10 = true then (if (gI w 49 (ix x1)) = 0 then (some (1 : Int32)) else (some (0 : Int32))) else none))
set_option maxHeartbeats 4000000 in
set_option maxRecDepth 100000 in
theorem c_X12_isMeant (g : Gx) (d : Nat) {x1 : Int32} {w : Mm} {p : Int32} (hL : Lay w) (h : f_X12_isMeant x1 w = some p) : Call g (d + 3) yX12_isMeant cX12_isMeant 2 (some .boolean) [rf g 47, .int x1] w (some (.int p)) w := by
  refine call_of (L0 := [some (rf g 47), some (.int x1)]) (by decide) rfl (Nat.le_of_ble_eq_true rfl) (fun V S0 => ?_)
  have S := S0.b
  unfold f_X12_isMeant at h
  refine i_aload_n S dX12_isMeant_0 rfl ?_
  refine i_iload_n S dX12_isMeant_1 rfl ?_
  obtain ⟨p1, e1, h⟩ := bn h
  refine i_callV (As := [.int x1]) (st1 := [.int p1]) S (c_X12_isUsed g d hL e1) mw_X12_isUsed lk_X12_383 im_X12_isUsed se_X12_isUsed ci_12.1 ci_12.2.1 (k47 hL) dX12_isMeant_2 rfl rfl (Nat.le_of_ble_eq_true rfl) rfl ?_
  refine i_if_eq (tgt := 21) S dX12_isMeant_5 (by decide) (fun q2 => ?_) (fun q2 => ?_)
  · replace h := (if_pos q2).symm.trans h
    refine i_iconst (v := 0) S dX12_isMeant_21 ic_0 ?_
    cases h
    exact i_iret S0 rfl dX12_isMeant_22
  · replace h := (if_neg q2).symm.trans h
    refine i_aload_n S dX12_isMeant_8 rfl ?_
    refine i_getR S fl_X12_17 (k47 hL) (r47_8 hL) rfl dX12_isMeant_9 ?_
    refine i_iload_n S dX12_isMeant_12 rfl ?_
    obtain ⟨hi4, h⟩ := gd h
    refine i_ialdv (v := gI w 49 (ix x1)) S (k49 hL) hi4 rfl dX12_isMeant_13 ?_
    refine i_if_ne (tgt := 21) S dX12_isMeant_14 (by decide) (fun q5 => ?_) (fun q5 => ?_)
    · replace h := (if_neg q5).symm.trans h
      refine i_iconst (v := 0) S dX12_isMeant_21 ic_0 ?_
      cases h
      exact i_iret S0 rfl dX12_isMeant_22
    · replace h := (if_pos q5).symm.trans h
      refine i_iconst (v := 1) S dX12_isMeant_17 ic_1 ?_
      refine i_goto (tgt := 22) S dX12_isMeant_18 (by decide) ?_
      cases h
      exact i_iret S0 rfl dX12_isMeant_22
/-! WordYearModel.told -/
noncomputable def f_X12_told (x1 : Int32) (w : Mm) : Option (Int32 × Mm) := Option.bind (f_X12_isMeant x1 w) (fun p1 => if p1 = 0 then (some ((-1 : Int32), w)) else (if inb x1 10 = true then (Option.bind (f_X12_briefOf ((gI w 47 6) &&& (((1 : Int32) <<< (x1 &&& 31)) ^^^ (-1 : Int32))) (gI w 50 (ix x1)) w) (fun p5 => if p5.1 < (1000000 : Int32) then (some (p5.1, p5.2)) else (some ((-2 : Int32), p5.2)))) else none))
set_option maxHeartbeats 4000000 in
set_option maxRecDepth 100000 in
theorem c_X12_told (g : Gx) (d : Nat) {x1 : Int32} {w : Mm} {p : (Int32 × Mm)} (hL : Lay w) (h : f_X12_told x1 w = some p) : Call g (d + 6) yX12_told cX12_told 3 (some .int) [rf g 47, .int x1] w (some (.int p.1)) p.2 := by
  refine call_of (L0 := [some (rf g 47), some (.int x1), none]) (by decide) rfl (Nat.le_of_ble_eq_true rfl) (fun V S0 => ?_)
  have S := S0.b
  unfold f_X12_told at h
  refine i_aload_n S dX12_told_0 rfl ?_
  refine i_iload_n S dX12_told_1 rfl ?_
  obtain ⟨p1, e1, h⟩ := bn h
  refine i_callV (As := [.int x1]) (st1 := [.int p1]) S (c_X12_isMeant g (d + 2) hL e1) mw_X12_isMeant lk_X12_435 im_X12_isMeant se_X12_isMeant ci_12.1 ci_12.2.1 (k47 hL) dX12_told_2 rfl rfl (Nat.le_of_ble_eq_true rfl) rfl ?_
  refine i_if_ne (tgt := 10) S dX12_told_5 (by decide) (fun q2 => ?_) (fun q2 => ?_)
  · replace h := (if_neg q2).symm.trans h
    refine i_aload_n S dX12_told_10 rfl ?_
    refine i_aload_n S dX12_told_11 rfl ?_
    refine i_getIv (v := gI w 47 6) S fl_X12_146 (k47 hL) rfl rfl dX12_told_12 ?_
    refine i_iconst (v := 1) S dX12_told_15 ic_1 ?_
    refine i_iload_n S dX12_told_16 rfl ?_
    refine i_ishl S dX12_told_17 ?_
    refine i_iconst (v := -1) S dX12_told_18 ic_m1 ?_
    refine i_ixor S dX12_told_19 ?_
    refine i_iand S dX12_told_20 ?_
    refine i_aload_n S dX12_told_21 rfl ?_
    refine i_getR S fl_X12_21 (k47 hL) (r47_9 hL) rfl dX12_told_22 ?_
    refine i_iload_n S dX12_told_25 rfl ?_
    obtain ⟨hi4, h⟩ := gd h
    refine i_ialdv (v := gI w 50 (ix x1)) S (k50 hL) hi4 rfl dX12_told_26 ?_
    obtain ⟨p5, e5, h⟩ := bn h
    refine i_callV (As := [.int ((gI w 47 6) &&& (((1 : Int32) <<< (x1 &&& 31)) ^^^ (-1 : Int32))), .int (gI w 50 (ix x1))]) (st1 := [.int p5.1]) S (c_X12_briefOf g d hL e5) mw_X12_briefOf lk_X12_338 im_X12_briefOf se_X12_briefOf ci_12.1 ci_12.2.1 (k47 hL) dX12_told_27 rfl rfl (Nat.le_of_ble_eq_true rfl) rfl ?_
    refine i_istore_n (L1 := [some (rf g 47), some (.int x1), some (.int p5.1)]) S dX12_told_30 (by decide) rfl ?_
    refine i_iload_n S dX12_told_31 rfl ?_
    refine i_ldcw S kc_X12_324 dX12_told_32 ?_
    refine i_icmp_lt (tgt := 43) S dX12_told_35 (by decide) (fun q6 => ?_) (fun q6 => ?_)
    · replace h := (if_pos q6).symm.trans h
      refine i_iload_n S dX12_told_43 rfl ?_
      cases h
      exact i_iret S0 rfl dX12_told_44
    · replace h := (if_neg q6).symm.trans h
      refine i_bipush (v := -2) S dX12_told_38 bp_m2 ?_
      refine i_goto (tgt := 44) S dX12_told_40 (by decide) ?_
      cases h
      exact i_iret S0 rfl dX12_told_44
  · replace h := (if_pos q2).symm.trans h
    refine i_iconst (v := -1) S dX12_told_8 ic_m1 ?_
    cases h
    exact i_iret S0 rfl dX12_told_9
/-! WordYearModel.wordsFor -/
noncomputable def l_X12_wordsFor_2 (x1 : Int32) (x2 : Int32) (s : Int32 × Mm) : Option ((Int32 × Mm) ⊕ (Mm)) := if (64 : Int32) ≤ s.1 then (some (.inr s.2)) else (onL s.2 (Option.bind (if s.1 = x2 then (some (1 : Int32)) else (some (0 : Int32))) (fun p4 => if inb s.1 64 = true then (some (.inl (s.1 + (1 : Int32), sI s.2 77 (ix s.1) (vp_nar .boolean p4)))) else none)))
noncomputable def l_X12_wordsFor_45 (x1 : Int32) (s : Int32 × Int32 × Int32 × Mm) : Option ((Int32 × Int32 × Int32 × Mm) ⊕ (Int32 × Mm)) := if s.1 ≤ s.2.2.1 then (some (.inr (s.2.1, s.2.2.2))) else (onL s.2.2.2 (if inb s.2.2.1 64 = true then (Option.bind (f_X12_says x1 (gI s.2.2.2 78 (ix s.2.2.1)) s.2.2.2) (fun p5 => onL p5 (Option.bind (if (gI p5 47 45) = 0 then (some (gI p5 47 46)) else (Option.bind (f_X12_joinerOf x1 (gI p5 47 45) p5) (fun p28 => some p28))) (fun p8 => Option.bind (if (gI p5 47 45) = 0 then (some (-1 : Int32)) else (some (gI p5 47 46))) (fun p10 => Option.bind (if p10 = (-1 : Int32) then (some (s.1, p5)) else (if inb p10 64 = true then (if (gI p5 77 (ix p10)) = 0 then (if inb s.1 64 = true then (some (s.1 + (1 : Int32), sI (sI p5 77 (ix p10) (vp_nar .boolean (1 : Int32))) 78 (ix s.1) p10)) else none) else (some (s.1, p5))) else none)) (fun p12 => Option.bind (if (gI p5 47 47) = (-1 : Int32) then (some (p12.1, p12.2)) else (onL p12.2 (if inb (gI p5 47 47) 64 = true then (if (gI p12.2 77 (ix (gI p5 47 47))) = 0 then (if inb p12.1 64 = true then (some (p12.1 + (1 : Int32), sI (sI p12.2 77 (ix (gI p5 47 47)) (vp_nar .boolean (1 : Int32))) 78 (ix p12.1) (gI p5 47 47))) else none) else (some (p12.1, p12.2))) else none))) (fun p14 => some (.inl (p14.1, s.2.1 ||| ((1 : Int32) <<< (p8 &&& 31)), s.2.2.1 + (1 : Int32), p14.2))))))))) else none))
noncomputable def f_X12_wordsFor (x1 : Int32) (x2 : Int32) (w : Mm) : Option (Int32 × Mm) := Option.bind (wh (l_X12_wordsFor_2 x1 x2) FUEL ((0 : Int32), w)) (fun p1 => onL p1 (Option.bind (wh (l_X12_wordsFor_45 x1) FUEL ((1 : Int32), (0 : Int32), (0 : Int32), sI p1 78 (ix (0 : Int32)) x2)) (fun p4 => some (p4.1, p4.2))))
set_option maxHeartbeats 4000000 in
set_option maxRecDepth 100000 in
theorem t_l_X12_wordsFor_2 {g : Gx} {V : Vt} {d : Nat} (S : MachB g yX12_wordsFor cX12_wordsFor 8 (d + 7) V) {x1 : Int32} {x2 : Int32}  (s : Int32 × Mm) (e : (Int32 × Mm) ⊕ (Mm)) (h : l_X12_wordsFor_2 x1 x2 s = some e) (hC : ∀ s2, e = .inl s2 → V 2 [some (rf g 47), some (.int x1), some (.int x2), some (.int s2.1), none, none, none, none] [] s2.2) (hE : ∀ x, e = .inr x → V 30 [some (rf g 47), some (.int x1), some (.int x2), none, none, none, none, none] [] x) : V 2 [some (rf g 47), some (.int x1), some (.int x2), some (.int s.1), none, none, none, none] [] s.2 := by
  unfold l_X12_wordsFor_2 at h
  refine i_iload_n S dX12_wordsFor_2 rfl ?_
  refine i_bipush (v := 64) S dX12_wordsFor_3 bp_64 ?_
  refine i_icmp_ge (tgt := 30) S dX12_wordsFor_5 (by decide) (fun q1 => ?_) (fun q1 => ?_)
  · replace h := (if_pos q1).symm.trans h
    refine i_mask (L1 := [some (rf g 47), some (.int x1), some (.int x2), none, none, none, none, none]) S [true, true, true, false, false, false, false, false] rfl ?_
    have hz := hE _ (Option.some.inj h).symm
    exact hz
  · replace h := (if_neg q1).symm.trans h
    refine i_aload_n S dX12_wordsFor_8 rfl ?_
    obtain ⟨hL2, h⟩ := onLn h
    refine i_getR S fl_X12_105 (k47 hL2) (r47_53 hL2) rfl dX12_wordsFor_9 ?_
    refine i_iload_n S dX12_wordsFor_12 rfl ?_
    refine i_iload_n S dX12_wordsFor_13 rfl ?_
    refine i_iload_n S dX12_wordsFor_14 rfl ?_
    obtain ⟨p4, e4, h⟩ := bn h
    have hj4 : ∀ q4, p4 = q4 → V 23 [some (rf g 47), some (.int x1), some (.int x2), some (.int s.1), none, none, none, none] [.int q4, .int s.1, rf g 77] s.2 := by
      intro q4 hq4
      subst hq4
      obtain ⟨hi6, h⟩ := gd h
      refine i_zast S (k77 hL2) hi6 dX12_wordsFor_23 ?_
      refine i_iinc (L1 := [some (rf g 47), some (.int x1), some (.int x2), some (.int (s.1 + (1 : Int32))), none, none, none, none]) S dX12_wordsFor_24 rfl ic_1 (by decide) rfl ?_
      refine i_goto (tgt := 2) S dX12_wordsFor_27 (by decide) ?_
      have hz := hC _ (Option.some.inj h).symm
      exact hz
    replace h := e4
    clear e4
    refine i_icmp_ne (tgt := 22) S dX12_wordsFor_15 (by decide) (fun q3 => ?_) (fun q3 => ?_)
    · replace h := (if_neg q3).symm.trans h
      refine i_iconst (v := 0) S dX12_wordsFor_22 ic_0 ?_
      have hz := hj4 _ (Option.some.inj h).symm
      exact hz
    · replace h := (if_pos q3).symm.trans h
      refine i_iconst (v := 1) S dX12_wordsFor_18 ic_1 ?_
      refine i_goto (tgt := 23) S dX12_wordsFor_19 (by decide) ?_
      have hz := hj4 _ (Option.some.inj h).symm
      exact hz
set_option maxHeartbeats 4000000 in
set_option maxRecDepth 100000 in
theorem t_l_X12_wordsFor_45 {g : Gx} {V : Vt} {d : Nat} (S : MachB g yX12_wordsFor cX12_wordsFor 8 (d + 7) V) {x1 : Int32}  (s : Int32 × Int32 × Int32 × Mm) (e : (Int32 × Int32 × Int32 × Mm) ⊕ (Int32 × Mm)) (h : l_X12_wordsFor_45 x1 s = some e) (hC : ∀ s2, e = .inl s2 → V 45 [some (rf g 47), some (.int x1), none, some (.int s2.1), some (.int s2.2.1), some (.int s2.2.2.1), none, none] [] s2.2.2.2) (hE : ∀ x, e = .inr x → V 192 [none, none, none, none, some (.int x.1), none, none, none] [] x.2) : V 45 [some (rf g 47), some (.int x1), none, some (.int s.1), some (.int s.2.1), some (.int s.2.2.1), none, none] [] s.2.2.2 := by
  unfold l_X12_wordsFor_45 at h
  refine i_iload S dX12_wordsFor_45 rfl ?_
  refine i_iload_n S dX12_wordsFor_47 rfl ?_
  refine i_icmp_ge (tgt := 192) S dX12_wordsFor_48 (by decide) (fun q1 => ?_) (fun q1 => ?_)
  · replace h := (if_pos q1).symm.trans h
    refine i_mask (L1 := [none, none, none, none, some (.int s.2.1), none, none, none]) S [false, false, false, false, true, false, false, false] rfl ?_
    have hz := hE _ (Option.some.inj h).symm
    exact hz
  · replace h := (if_neg q1).symm.trans h
    refine i_aload_n S dX12_wordsFor_51 rfl ?_
    refine i_iload_n S dX12_wordsFor_52 rfl ?_
    refine i_aload_n S dX12_wordsFor_53 rfl ?_
    obtain ⟨hL2, h⟩ := onLn h
    refine i_getR S fl_X12_108 (k47 hL2) (r47_54 hL2) rfl dX12_wordsFor_54 ?_
    refine i_iload S dX12_wordsFor_57 rfl ?_
    obtain ⟨hi4, h⟩ := gd h
    refine i_ialdv (v := gI s.2.2.2 78 (ix s.2.2.1)) S (k78 hL2) hi4 rfl dX12_wordsFor_59 ?_
    obtain ⟨p5, e5, h⟩ := bn h
    refine i_callV (As := [.int x1, .int (gI s.2.2.2 78 (ix s.2.2.1))]) (st1 := []) S (c_X12_says g d hL2 e5) mw_X12_says lk_X12_355 im_X12_says se_X12_says ci_12.1 ci_12.2.1 (k47 hL2) dX12_wordsFor_60 rfl rfl (Nat.le_of_ble_eq_true rfl) rfl ?_
    refine i_iload S dX12_wordsFor_63 rfl ?_
    refine i_iconst (v := 1) S dX12_wordsFor_65 ic_1 ?_
    refine i_aload_n S dX12_wordsFor_66 rfl ?_
    obtain ⟨hL6, h⟩ := onLn h
    refine i_getIv (v := gI p5 47 45) S fl_X12_341 (k47 hL6) rfl rfl dX12_wordsFor_67 ?_
    obtain ⟨p8, e8, h⟩ := bn h
    have hj8 : ∀ q8, p8 = q8 → V 89 [some (rf g 47), some (.int x1), none, some (.int s.1), none, some (.int s.2.2.1), none, none] [.int q8, .int ((1 : Int32)), .int s.2.1] p5 := by
      intro q8 hq8
      subst hq8
      refine i_ishl S dX12_wordsFor_89 ?_
      refine i_ior S dX12_wordsFor_90 ?_
      refine i_istore (L1 := [some (rf g 47), some (.int x1), none, some (.int s.1), some (.int (s.2.1 ||| ((1 : Int32) <<< (p8 &&& 31)))), some (.int s.2.2.1), none, none]) S dX12_wordsFor_91 (by decide) rfl ?_
      refine i_aload_n S dX12_wordsFor_93 rfl ?_
      refine i_getIv (v := gI p5 47 45) S fl_X12_341 (k47 hL6) rfl rfl dX12_wordsFor_94 ?_
      obtain ⟨p10, e10, h⟩ := bn h
      have hj10 : ∀ q10, p10 = q10 → V 108 [some (rf g 47), some (.int x1), none, some (.int s.1), some (.int (s.2.1 ||| ((1 : Int32) <<< (p8 &&& 31)))), some (.int s.2.2.1), none, none] [.int q10] p5 := by
        intro q10 hq10
        subst hq10
        refine i_istore (L1 := [some (rf g 47), some (.int x1), none, some (.int s.1), some (.int (s.2.1 ||| ((1 : Int32) <<< (p8 &&& 31)))), some (.int s.2.2.1), some (.int p10), none]) S dX12_wordsFor_108 (by decide) rfl ?_
        refine i_aload_n S dX12_wordsFor_110 rfl ?_
        refine i_getIv (v := gI p5 47 47) S fl_X12_347 (k47 hL6) rfl rfl dX12_wordsFor_111 ?_
        refine i_istore (L1 := [some (rf g 47), some (.int x1), none, some (.int s.1), some (.int (s.2.1 ||| ((1 : Int32) <<< (p8 &&& 31)))), some (.int s.2.2.1), some (.int p10), some (.int (gI p5 47 47))]) S dX12_wordsFor_114 (by decide) rfl ?_
        refine i_iload S dX12_wordsFor_116 rfl ?_
        refine i_iconst (v := -1) S dX12_wordsFor_118 ic_m1 ?_
        obtain ⟨p12, e12, h⟩ := bn h
        have hj12 : ∀ q12, p12 = q12 → V 151 [some (rf g 47), some (.int x1), none, some (.int q12.1), some (.int (s.2.1 ||| ((1 : Int32) <<< (p8 &&& 31)))), some (.int s.2.2.1), none, some (.int (gI p5 47 47))] [] q12.2 := by
          intro q12 hq12
          subst hq12
          refine i_iload S dX12_wordsFor_151 rfl ?_
          refine i_iconst (v := -1) S dX12_wordsFor_153 ic_m1 ?_
          obtain ⟨p14, e14, h⟩ := bn h
          have hj14 : ∀ q14, p14 = q14 → V 186 [some (rf g 47), some (.int x1), none, some (.int q14.1), some (.int (s.2.1 ||| ((1 : Int32) <<< (p8 &&& 31)))), some (.int s.2.2.1), none, none] [] q14.2 := by
            intro q14 hq14
            subst hq14
            refine i_iinc (L1 := [some (rf g 47), some (.int x1), none, some (.int p14.1), some (.int (s.2.1 ||| ((1 : Int32) <<< (p8 &&& 31)))), some (.int (s.2.2.1 + (1 : Int32))), none, none]) S dX12_wordsFor_186 rfl ic_1 (by decide) rfl ?_
            refine i_goto (tgt := 45) S dX12_wordsFor_189 (by decide) ?_
            have hz := hC _ (Option.some.inj h).symm
            exact hz
          replace h := e14
          clear e14
          refine i_icmp_eq (tgt := 186) S dX12_wordsFor_154 (by decide) (fun q13 => ?_) (fun q13 => ?_)
          · replace h := (if_pos q13).symm.trans h
            refine i_mask (L1 := [some (rf g 47), some (.int x1), none, some (.int p12.1), some (.int (s.2.1 ||| ((1 : Int32) <<< (p8 &&& 31)))), some (.int s.2.2.1), none, none]) S [true, true, false, true, true, true, false, false] rfl ?_
            have hz := hj14 _ (Option.some.inj h).symm
            exact hz
          · replace h := (if_neg q13).symm.trans h
            refine i_aload_n S dX12_wordsFor_157 rfl ?_
            obtain ⟨hL15, h⟩ := onLn h
            refine i_getR S fl_X12_105 (k47 hL15) (r47_53 hL15) rfl dX12_wordsFor_158 ?_
            refine i_iload S dX12_wordsFor_161 rfl ?_
            obtain ⟨hi17, h⟩ := gd h
            refine i_zaldv (v := gI p12.2 77 (ix (gI p5 47 47))) S (k77 hL15) hi17 rfl dX12_wordsFor_163 ?_
            refine i_if_ne (tgt := 186) S dX12_wordsFor_164 (by decide) (fun q18 => ?_) (fun q18 => ?_)
            · replace h := (if_neg q18).symm.trans h
              refine i_mask (L1 := [some (rf g 47), some (.int x1), none, some (.int p12.1), some (.int (s.2.1 ||| ((1 : Int32) <<< (p8 &&& 31)))), some (.int s.2.2.1), none, none]) S [true, true, false, true, true, true, false, false] rfl ?_
              have hz := hj14 _ (Option.some.inj h).symm
              exact hz
            · replace h := (if_pos q18).symm.trans h
              refine i_aload_n S dX12_wordsFor_167 rfl ?_
              refine i_getR S fl_X12_105 (k47 hL15) (r47_53 hL15) rfl dX12_wordsFor_168 ?_
              refine i_iload S dX12_wordsFor_171 rfl ?_
              refine i_iconst (v := 1) S dX12_wordsFor_173 ic_1 ?_
              refine i_zast S (k77 hL15) hi17 dX12_wordsFor_174 ?_
              refine i_aload_n S dX12_wordsFor_175 rfl ?_
              refine i_getR S fl_X12_108 (k47 hL15) (r47_54 hL15) rfl dX12_wordsFor_176 ?_
              refine i_iload_n S dX12_wordsFor_179 rfl ?_
              refine i_iload S dX12_wordsFor_180 rfl ?_
              obtain ⟨hi21, h⟩ := gd h
              refine i_iast S (k78 hL15) hi21 dX12_wordsFor_182 ?_
              refine i_iinc (L1 := [some (rf g 47), some (.int x1), none, some (.int (p12.1 + (1 : Int32))), some (.int (s.2.1 ||| ((1 : Int32) <<< (p8 &&& 31)))), some (.int s.2.2.1), none, some (.int (gI p5 47 47))]) S dX12_wordsFor_183 rfl ic_1 (by decide) rfl ?_
              refine i_mask (L1 := [some (rf g 47), some (.int x1), none, some (.int (p12.1 + (1 : Int32))), some (.int (s.2.1 ||| ((1 : Int32) <<< (p8 &&& 31)))), some (.int s.2.2.1), none, none]) S [true, true, false, true, true, true, false, false] rfl ?_
              have hz := hj14 _ (Option.some.inj h).symm
              exact hz
        replace h := e12
        clear e12
        refine i_icmp_eq (tgt := 151) S dX12_wordsFor_119 (by decide) (fun q11 => ?_) (fun q11 => ?_)
        · replace h := (if_pos q11).symm.trans h
          refine i_mask (L1 := [some (rf g 47), some (.int x1), none, some (.int s.1), some (.int (s.2.1 ||| ((1 : Int32) <<< (p8 &&& 31)))), some (.int s.2.2.1), none, some (.int (gI p5 47 47))]) S [true, true, false, true, true, true, false, true] rfl ?_
          have hz := hj12 _ (Option.some.inj h).symm
          exact hz
        · replace h := (if_neg q11).symm.trans h
          refine i_aload_n S dX12_wordsFor_122 rfl ?_
          refine i_getR S fl_X12_105 (k47 hL6) (r47_53 hL6) rfl dX12_wordsFor_123 ?_
          refine i_iload S dX12_wordsFor_126 rfl ?_
          obtain ⟨hi23, h⟩ := gd h
          refine i_zaldv (v := gI p5 77 (ix p10)) S (k77 hL6) hi23 rfl dX12_wordsFor_128 ?_
          refine i_if_ne (tgt := 151) S dX12_wordsFor_129 (by decide) (fun q24 => ?_) (fun q24 => ?_)
          · replace h := (if_neg q24).symm.trans h
            refine i_mask (L1 := [some (rf g 47), some (.int x1), none, some (.int s.1), some (.int (s.2.1 ||| ((1 : Int32) <<< (p8 &&& 31)))), some (.int s.2.2.1), none, some (.int (gI p5 47 47))]) S [true, true, false, true, true, true, false, true] rfl ?_
            have hz := hj12 _ (Option.some.inj h).symm
            exact hz
          · replace h := (if_pos q24).symm.trans h
            refine i_aload_n S dX12_wordsFor_132 rfl ?_
            refine i_getR S fl_X12_105 (k47 hL6) (r47_53 hL6) rfl dX12_wordsFor_133 ?_
            refine i_iload S dX12_wordsFor_136 rfl ?_
            refine i_iconst (v := 1) S dX12_wordsFor_138 ic_1 ?_
            refine i_zast S (k77 hL6) hi23 dX12_wordsFor_139 ?_
            refine i_aload_n S dX12_wordsFor_140 rfl ?_
            refine i_getR S fl_X12_108 (k47 hL6) (r47_54 hL6) rfl dX12_wordsFor_141 ?_
            refine i_iload_n S dX12_wordsFor_144 rfl ?_
            refine i_iload S dX12_wordsFor_145 rfl ?_
            obtain ⟨hi27, h⟩ := gd h
            refine i_iast S (k78 hL6) hi27 dX12_wordsFor_147 ?_
            refine i_iinc (L1 := [some (rf g 47), some (.int x1), none, some (.int (s.1 + (1 : Int32))), some (.int (s.2.1 ||| ((1 : Int32) <<< (p8 &&& 31)))), some (.int s.2.2.1), some (.int p10), some (.int (gI p5 47 47))]) S dX12_wordsFor_148 rfl ic_1 (by decide) rfl ?_
            refine i_mask (L1 := [some (rf g 47), some (.int x1), none, some (.int (s.1 + (1 : Int32))), some (.int (s.2.1 ||| ((1 : Int32) <<< (p8 &&& 31)))), some (.int s.2.2.1), none, some (.int (gI p5 47 47))]) S [true, true, false, true, true, true, false, true] rfl ?_
            have hz := hj12 _ (Option.some.inj h).symm
            exact hz
      replace h := e10
      clear e10
      refine i_if_ne (tgt := 104) S dX12_wordsFor_97 (by decide) (fun q9 => ?_) (fun q9 => ?_)
      · replace h := (if_neg q9).symm.trans h
        refine i_aload_n S dX12_wordsFor_104 rfl ?_
        refine i_getIv (v := gI p5 47 46) S fl_X12_344 (k47 hL6) rfl rfl dX12_wordsFor_105 ?_
        have hz := hj10 _ (Option.some.inj h).symm
        exact hz
      · replace h := (if_pos q9).symm.trans h
        refine i_iconst (v := -1) S dX12_wordsFor_100 ic_m1 ?_
        refine i_goto (tgt := 108) S dX12_wordsFor_101 (by decide) ?_
        have hz := hj10 _ (Option.some.inj h).symm
        exact hz
    replace h := e8
    clear e8
    refine i_if_ne (tgt := 80) S dX12_wordsFor_70 (by decide) (fun q7 => ?_) (fun q7 => ?_)
    · replace h := (if_neg q7).symm.trans h
      refine i_aload_n S dX12_wordsFor_80 rfl ?_
      refine i_iload_n S dX12_wordsFor_81 rfl ?_
      refine i_aload_n S dX12_wordsFor_82 rfl ?_
      refine i_getIv (v := gI p5 47 45) S fl_X12_341 (k47 hL6) rfl rfl dX12_wordsFor_83 ?_
      obtain ⟨p28, e28, h⟩ := bn h
      refine i_callV (As := [.int x1, .int (gI p5 47 45)]) (st1 := [.int p28, .int ((1 : Int32)), .int s.2.1]) S (c_X12_joinerOf g (d + 5) hL6 e28) mw_X12_joinerOf lk_X12_320 im_X12_joinerOf se_X12_joinerOf ci_12.1 ci_12.2.1 (k47 hL6) dX12_wordsFor_86 rfl rfl (Nat.le_of_ble_eq_true rfl) rfl ?_
      refine i_mask (L1 := [some (rf g 47), some (.int x1), none, some (.int s.1), none, some (.int s.2.2.1), none, none]) S [true, true, false, true, false, true, false, false] rfl ?_
      have hz := hj8 _ (Option.some.inj h).symm
      exact hz
    · replace h := (if_pos q7).symm.trans h
      refine i_aload_n S dX12_wordsFor_73 rfl ?_
      refine i_getIv (v := gI p5 47 46) S fl_X12_344 (k47 hL6) rfl rfl dX12_wordsFor_74 ?_
      refine i_goto (tgt := 89) S dX12_wordsFor_77 (by decide) ?_
      refine i_mask (L1 := [some (rf g 47), some (.int x1), none, some (.int s.1), none, some (.int s.2.2.1), none, none]) S [true, true, false, true, false, true, false, false] rfl ?_
      have hz := hj8 _ (Option.some.inj h).symm
      exact hz
set_option maxHeartbeats 4000000 in
set_option maxRecDepth 100000 in
theorem c_X12_wordsFor (g : Gx) (d : Nat) {x1 : Int32} {x2 : Int32} {w : Mm} {p : (Int32 × Mm)} (hL : Lay w) (h : f_X12_wordsFor x1 x2 w = some p) : Call g (d + 8) yX12_wordsFor cX12_wordsFor 8 (some .int) [rf g 47, .int x1, .int x2] w (some (.int p.1)) p.2 := by
  refine call_of (L0 := [some (rf g 47), some (.int x1), some (.int x2), none, none, none, none, none]) (by decide) rfl (Nat.le_of_ble_eq_true rfl) (fun V S0 => ?_)
  have S := S0.b
  unfold f_X12_wordsFor at h
  refine i_iconst (v := 0) S dX12_wordsFor_0 ic_0 ?_
  refine i_istore_n (L1 := [some (rf g 47), some (.int x1), some (.int x2), some (.int ((0 : Int32))), none, none, none, none]) S dX12_wordsFor_1 (by decide) rfl ?_
  obtain ⟨p1, e1, h⟩ := bn h
  have hE1 : V 30 [some (rf g 47), some (.int x1), some (.int x2), none, none, none, none, none] [] p1 := by
    refine i_aload_n S dX12_wordsFor_30 rfl ?_
    obtain ⟨hL2, h⟩ := onLn h
    refine i_getR S fl_X12_108 (k47 hL2) (r47_54 hL2) rfl dX12_wordsFor_31 ?_
    refine i_iconst (v := 0) S dX12_wordsFor_34 ic_0 ?_
    refine i_iload_n S dX12_wordsFor_35 rfl ?_
    refine i_iast S (k78 hL2) (by decide) dX12_wordsFor_36 ?_
    refine i_iconst (v := 1) S dX12_wordsFor_37 ic_1 ?_
    refine i_istore_n (L1 := [some (rf g 47), some (.int x1), some (.int x2), some (.int ((1 : Int32))), none, none, none, none]) S dX12_wordsFor_38 (by decide) rfl ?_
    refine i_iconst (v := 0) S dX12_wordsFor_39 ic_0 ?_
    refine i_istore (L1 := [some (rf g 47), some (.int x1), some (.int x2), some (.int ((1 : Int32))), some (.int ((0 : Int32))), none, none, none]) S dX12_wordsFor_40 (by decide) rfl ?_
    refine i_iconst (v := 0) S dX12_wordsFor_42 ic_0 ?_
    refine i_istore (L1 := [some (rf g 47), some (.int x1), some (.int x2), some (.int ((1 : Int32))), some (.int ((0 : Int32))), some (.int ((0 : Int32))), none, none]) S dX12_wordsFor_43 (by decide) rfl ?_
    refine i_mask (L1 := [some (rf g 47), some (.int x1), none, some (.int ((1 : Int32))), some (.int ((0 : Int32))), some (.int ((0 : Int32))), none, none]) S [true, true, false, true, true, true, false, false] rfl ?_
    obtain ⟨p4, e4, h⟩ := bn h
    have hE4 : V 192 [none, none, none, none, some (.int p4.1), none, none, none] [] p4.2 := by
      refine i_iload S dX12_wordsFor_192 rfl ?_
      cases h
      exact i_iret S0 rfl dX12_wordsFor_194
    exact wh_V (P := fun sv4 => V 45 [some (rf g 47), some (.int x1), none, some (.int sv4.1), some (.int sv4.2.1), some (.int sv4.2.2.1), none, none] [] sv4.2.2.2) (E := fun xv4 => V 192 [none, none, none, none, some (.int xv4.1), none, none, none] [] xv4.2) (fun sv4 ev hb hc he => t_l_X12_wordsFor_45   S  sv4 ev hb hc he) FUEL _ _ e4 hE4
  exact wh_V (P := fun sv1 => V 2 [some (rf g 47), some (.int x1), some (.int x2), some (.int sv1.1), none, none, none, none] [] sv1.2) (E := fun xv1 => V 30 [some (rf g 47), some (.int x1), some (.int x2), none, none, none, none, none] [] xv1) (fun sv1 ev hb hc he => t_l_X12_wordsFor_2   S  sv1 ev hb hc he) FUEL _ _ e1 hE1
