/-! WordYearModel.law -/
noncomputable def l_X12_law_46 (x1 : Int32) (s : Int32 × Mm) : Option ((Int32 × Mm) ⊕ (Mm)) := if (10 : Int32) ≤ s.1 then (some (.inr s.2)) else (onL s.2 (if inb s.1 10 = true then (some (.inl (s.1 + (1 : Int32), sI s.2 83 (ix s.1) (0 : Int32)))) else none))
noncomputable def l_X12_law_67 (x1 : Int32) (s : Int32 × Mm) : Option ((Int32 × Mm) ⊕ (Mm)) := if (4 : Int32) ≤ s.1 then (some (.inr s.2)) else (onL s.2 (if inb s.1 4 = true then (some (.inl (s.1 + (1 : Int32), sI s.2 84 (ix s.1) (0 : Int32)))) else none))
noncomputable def l_X12_law_87 (x1 : Int32) (s : Int32 × Mm) : Option ((Int32 × Mm) ⊕ (Mm)) := if s.1 = 0 then (some (.inr s.2)) else (onL s.2 (Option.bind (f_X12_isGood s.2) (fun p3 => if p3 = 0 then (some (.inr s.2)) else (Option.bind (f_X12_readsD s.2) (fun p5 => onL p5 (Option.bind (f_X12_isGood p5) (fun p7 => Option.bind (mg (if p7 = 0 then (some (.inl p5)) else (Option.bind (f_X12_followsD p5) (fun p11 => if p11.1 = 0 then (some (.inl p11.2)) else (some (.inr ((1 : Int32), p11.2)))))) (fun p10 => some ((0 : Int32), p10))) (fun p9 => some (.inl (p9.1, p9.2))))))))))
noncomputable def l_X12_law_194 (x1 : Int32) (s : Int32 × Mm) : Option ((Int32 × Mm) ⊕ (Mm)) := if (10 : Int32) ≤ s.1 then (some (.inr s.2)) else (onL s.2 (if inb s.1 10 = true then (if inb (((10 : Int32) * x1) + s.1) 40 = true then (some (.inl (s.1 + (1 : Int32), sI s.2 81 (ix (((10 : Int32) * x1) + s.1)) (gI s.2 83 (ix s.1))))) else none) else none))
noncomputable def l_X12_law_229 (x1 : Int32) (s : Int32 × Mm) : Option ((Int32 × Mm) ⊕ (Mm)) := if (4 : Int32) ≤ s.1 then (some (.inr s.2)) else (onL s.2 (if inb s.1 4 = true then (if inb (((4 : Int32) * x1) + s.1) 16 = true then (some (.inl (s.1 + (1 : Int32), sI s.2 82 (ix (((4 : Int32) * x1) + s.1)) (gI s.2 84 (ix s.1))))) else none) else none))
noncomputable def f_X12_law (x1 : Int32) (x2 : Int32) (w : Mm) : Option (Int32 × Mm) := if (f_X12_lies x1.toInt64 (0 : Int64) (3 : Int64)) = 0 then (some ((-1 : Int32), w)) else (if (f_X12_lies x2.toInt64 (1 : Int64) (60 : Int64)) = 0 then (some ((-1 : Int32), w)) else (if x2 ≤ (gI w 47 1) then (Option.bind (f_X12_begins x2 w) (fun p4 => onL p4 (Option.bind (wh (l_X12_law_46 x1) FUEL ((0 : Int32), sI p4 47 62 (0 : Int32))) (fun p6 => Option.bind (wh (l_X12_law_67 x1) FUEL ((0 : Int32), p6)) (fun p7 => Option.bind (wh (l_X12_law_87 x1) FUEL ((1 : Int32), p7)) (fun p8 => onL p8 (Option.bind (f_X12_isGood p8) (fun p10 => Option.bind (if p10 = 0 then (some p8) else (Option.bind (f_X12_joinsValues (1 : Int32) p8) (fun p29 => some p29))) (fun p12 => onL p12 (Option.bind (f_X12_isGood p12) (fun p14 => Option.bind (if p14 = 0 then (some p12) else (if (gI p12 47 34) ≤ 0 then (some p12) else (Option.bind (f_X12_wrongs (1 : Int32) (gI p12 47 28) p12) (fun p28 => some p28)))) (fun p16 => onL p16 (if 0 ≤ (gI p16 47 30) then (if inb x1 4 = true then (Option.bind (wh (l_X12_law_194 x1) FUEL ((0 : Int32), sI (sI p16 79 (ix x1) (vp_nar .boolean (1 : Int32))) 80 (ix x1) (gI p16 85 (ix (0 : Int32))))) (fun p23 => Option.bind (wh (l_X12_law_229 x1) FUEL ((0 : Int32), p23)) (fun p24 => onL p24 (some (gI p24 80 (ix x1), p24))))) else none) else (some (gI p16 47 30, p16))))))))))))))) else (some ((-1 : Int32), w))))
set_option maxHeartbeats 4000000 in
set_option maxRecDepth 100000 in
theorem t_l_X12_law_46 {g : Gx} {V : Vt} {d : Nat} (S : MachB g yX12_law cX12_law 5 (d + 3) V) {x1 : Int32}  (s : Int32 × Mm) (e : (Int32 × Mm) ⊕ (Mm)) (h : l_X12_law_46 x1 s = some e) (hC : ∀ s2, e = .inl s2 → V 46 [some (rf g 47), some (.int x1), none, some (.int s2.1), none] [] s2.2) (hE : ∀ x, e = .inr x → V 65 [some (rf g 47), some (.int x1), none, none, none] [] x) : V 46 [some (rf g 47), some (.int x1), none, some (.int s.1), none] [] s.2 := by
  unfold l_X12_law_46 at h
  refine i_iload_n S dX12_law_46 rfl ?_
  refine i_bipush (v := 10) S dX12_law_47 bp_10 ?_
  refine i_icmp_ge (tgt := 65) S dX12_law_49 (by decide) (fun q1 => ?_) (fun q1 => ?_)
  · replace h := (if_pos q1).symm.trans h
    refine i_mask (L1 := [some (rf g 47), some (.int x1), none, none, none]) S [true, true, false, false, false] rfl ?_
    have hz := hE _ (Option.some.inj h).symm
    exact hz
  · replace h := (if_neg q1).symm.trans h
    refine i_aload_n S dX12_law_52 rfl ?_
    obtain ⟨hL2, h⟩ := onLn h
    refine i_getR S fl_X12_123 (k47 hL2) (r47_59 hL2) rfl dX12_law_53 ?_
    refine i_iload_n S dX12_law_56 rfl ?_
    refine i_iconst (v := 0) S dX12_law_57 ic_0 ?_
    obtain ⟨hi4, h⟩ := gd h
    refine i_iast S (k83 hL2) hi4 dX12_law_58 ?_
    refine i_iinc (L1 := [some (rf g 47), some (.int x1), none, some (.int (s.1 + (1 : Int32))), none]) S dX12_law_59 rfl ic_1 (by decide) rfl ?_
    refine i_goto (tgt := 46) S dX12_law_62 (by decide) ?_
    have hz := hC _ (Option.some.inj h).symm
    exact hz
set_option maxHeartbeats 4000000 in
set_option maxRecDepth 100000 in
theorem t_l_X12_law_67 {g : Gx} {V : Vt} {d : Nat} (S : MachB g yX12_law cX12_law 5 (d + 3) V) {x1 : Int32}  (s : Int32 × Mm) (e : (Int32 × Mm) ⊕ (Mm)) (h : l_X12_law_67 x1 s = some e) (hC : ∀ s2, e = .inl s2 → V 67 [some (rf g 47), some (.int x1), none, some (.int s2.1), none] [] s2.2) (hE : ∀ x, e = .inr x → V 85 [some (rf g 47), some (.int x1), none, none, none] [] x) : V 67 [some (rf g 47), some (.int x1), none, some (.int s.1), none] [] s.2 := by
  unfold l_X12_law_67 at h
  refine i_iload_n S dX12_law_67 rfl ?_
  refine i_iconst (v := 4) S dX12_law_68 ic_4 ?_
  refine i_icmp_ge (tgt := 85) S dX12_law_69 (by decide) (fun q1 => ?_) (fun q1 => ?_)
  · replace h := (if_pos q1).symm.trans h
    refine i_mask (L1 := [some (rf g 47), some (.int x1), none, none, none]) S [true, true, false, false, false] rfl ?_
    have hz := hE _ (Option.some.inj h).symm
    exact hz
  · replace h := (if_neg q1).symm.trans h
    refine i_aload_n S dX12_law_72 rfl ?_
    obtain ⟨hL2, h⟩ := onLn h
    refine i_getR S fl_X12_126 (k47 hL2) (r47_60 hL2) rfl dX12_law_73 ?_
    refine i_iload_n S dX12_law_76 rfl ?_
    refine i_iconst (v := 0) S dX12_law_77 ic_0 ?_
    obtain ⟨hi4, h⟩ := gd h
    refine i_iast S (k84 hL2) hi4 dX12_law_78 ?_
    refine i_iinc (L1 := [some (rf g 47), some (.int x1), none, some (.int (s.1 + (1 : Int32))), none]) S dX12_law_79 rfl ic_1 (by decide) rfl ?_
    refine i_goto (tgt := 67) S dX12_law_82 (by decide) ?_
    have hz := hC _ (Option.some.inj h).symm
    exact hz
set_option maxHeartbeats 4000000 in
set_option maxRecDepth 100000 in
theorem t_l_X12_law_87 {g : Gx} {V : Vt} {d : Nat} (S : MachB g yX12_law cX12_law 5 (d + 3) V) {x1 : Int32}  (s : Int32 × Mm) (e : (Int32 × Mm) ⊕ (Mm)) (h : l_X12_law_87 x1 s = some e) (hC : ∀ s2, e = .inl s2 → V 87 [some (rf g 47), some (.int x1), none, some (.int s2.1), none] [] s2.2) (hE : ∀ x, e = .inr x → V 125 [some (rf g 47), some (.int x1), none, none, none] [] x) : V 87 [some (rf g 47), some (.int x1), none, some (.int s.1), none] [] s.2 := by
  unfold l_X12_law_87 at h
  refine i_iload_n S dX12_law_87 rfl ?_
  refine i_if_eq (tgt := 125) S dX12_law_88 (by decide) (fun q1 => ?_) (fun q1 => ?_)
  · replace h := (if_pos q1).symm.trans h
    refine i_mask (L1 := [some (rf g 47), some (.int x1), none, none, none]) S [true, true, false, false, false] rfl ?_
    have hz := hE _ (Option.some.inj h).symm
    exact hz
  · replace h := (if_neg q1).symm.trans h
    refine i_aload_n S dX12_law_91 rfl ?_
    obtain ⟨hL2, h⟩ := onLn h
    obtain ⟨p3, e3, h⟩ := bn h
    refine i_callV (As := []) (st1 := [.int p3]) S (c_X12_isGood g (d + 2) hL2 e3) mw_X12_isGood lk_X12_190 im_X12_isGood se_X12_isGood ci_12.1 ci_12.2.1 (k47 hL2) dX12_law_92 rfl rfl (Nat.le_of_ble_eq_true rfl) rfl ?_
    refine i_if_eq (tgt := 125) S dX12_law_95 (by decide) (fun q4 => ?_) (fun q4 => ?_)
    · replace h := (if_pos q4).symm.trans h
      refine i_mask (L1 := [some (rf g 47), some (.int x1), none, none, none]) S [true, true, false, false, false] rfl ?_
      have hz := hE _ (Option.some.inj h).symm
      exact hz
    · replace h := (if_neg q4).symm.trans h
      refine i_aload_n S dX12_law_98 rfl ?_
      obtain ⟨p5, e5, h⟩ := bn h
      refine i_callV (As := []) (st1 := []) S (c_X12_readsD g d hL2 e5) mw_X12_readsD lk_X12_461 im_X12_readsD se_X12_readsD ci_12.1 ci_12.2.1 (k47 hL2) dX12_law_99 rfl rfl (Nat.le_of_ble_eq_true rfl) rfl ?_
      refine i_aload_n S dX12_law_102 rfl ?_
      obtain ⟨hL6, h⟩ := onLn h
      obtain ⟨p7, e7, h⟩ := bn h
      refine i_callV (As := []) (st1 := [.int p7]) S (c_X12_isGood g (d + 2) hL6 e7) mw_X12_isGood lk_X12_190 im_X12_isGood se_X12_isGood ci_12.1 ci_12.2.1 (k47 hL6) dX12_law_103 rfl rfl (Nat.le_of_ble_eq_true rfl) rfl ?_
      obtain ⟨p9, e9, h⟩ := bn h
      have hj9 : ∀ q9, p9 = q9 → V 121 [some (rf g 47), some (.int x1), none, none, none] [.int q9.1] q9.2 := by
        intro q9 hq9
        subst hq9
        refine i_istore_n (L1 := [some (rf g 47), some (.int x1), none, some (.int p9.1), none]) S dX12_law_121 (by decide) rfl ?_
        refine i_goto (tgt := 87) S dX12_law_122 (by decide) ?_
        have hz := hC _ (Option.some.inj h).symm
        exact hz
      replace h := e9
      clear e9
      obtain ⟨s10, e10, hm10, ho10⟩ := mgn h
      have hj10 : ∀ p10, s10 = .inl p10 → V 120 [some (rf g 47), some (.int x1), none, none, none] [] p10 := by
        intro p10 ep10
        have h := hm10 p10 ep10
        refine i_iconst (v := 0) S dX12_law_120 ic_0 ?_
        have hz := hj9 _ (Option.some.inj h).symm
        exact hz
      replace h := e10
      clear e10
      refine i_if_eq (tgt := 120) S dX12_law_106 (by decide) (fun q8 => ?_) (fun q8 => ?_)
      · replace h := (if_pos q8).symm.trans h
        refine i_mask (L1 := [some (rf g 47), some (.int x1), none, none, none]) S [true, true, false, false, false] rfl ?_
        have hz := hj10 _ (Option.some.inj h).symm
        exact hz
      · replace h := (if_neg q8).symm.trans h
        refine i_aload_n S dX12_law_109 rfl ?_
        obtain ⟨p11, e11, h⟩ := bn h
        refine i_callV (As := []) (st1 := [.int p11.1]) S (c_X12_followsD g d hL6 e11) mw_X12_followsD lk_X12_464 im_X12_followsD se_X12_followsD ci_12.1 ci_12.2.1 (k47 hL6) dX12_law_110 rfl rfl (Nat.le_of_ble_eq_true rfl) rfl ?_
        refine i_if_eq (tgt := 120) S dX12_law_113 (by decide) (fun q12 => ?_) (fun q12 => ?_)
        · replace h := (if_pos q12).symm.trans h
          refine i_mask (L1 := [some (rf g 47), some (.int x1), none, none, none]) S [true, true, false, false, false] rfl ?_
          have hz := hj10 _ (Option.some.inj h).symm
          exact hz
        · replace h := (if_neg q12).symm.trans h
          refine i_iconst (v := 1) S dX12_law_116 ic_1 ?_
          refine i_goto (tgt := 121) S dX12_law_117 (by decide) ?_
          replace h := ho10 _ (Option.some.inj h).symm
          refine i_mask (L1 := [some (rf g 47), some (.int x1), none, none, none]) S [true, true, false, false, false] rfl ?_
          have hz := hj9 _ (Option.some.inj h).symm
          exact hz
set_option maxHeartbeats 4000000 in
set_option maxRecDepth 100000 in
theorem t_l_X12_law_194 {g : Gx} {V : Vt} {d : Nat} (S : MachB g yX12_law cX12_law 5 (d + 3) V) {x1 : Int32}  (s : Int32 × Mm) (e : (Int32 × Mm) ⊕ (Mm)) (h : l_X12_law_194 x1 s = some e) (hC : ∀ s2, e = .inl s2 → V 194 [some (rf g 47), some (.int x1), none, none, some (.int s2.1)] [] s2.2) (hE : ∀ x, e = .inr x → V 226 [some (rf g 47), some (.int x1), none, none, none] [] x) : V 194 [some (rf g 47), some (.int x1), none, none, some (.int s.1)] [] s.2 := by
  unfold l_X12_law_194 at h
  refine i_iload S dX12_law_194 rfl ?_
  refine i_bipush (v := 10) S dX12_law_196 bp_10 ?_
  refine i_icmp_ge (tgt := 226) S dX12_law_198 (by decide) (fun q1 => ?_) (fun q1 => ?_)
  · replace h := (if_pos q1).symm.trans h
    refine i_mask (L1 := [some (rf g 47), some (.int x1), none, none, none]) S [true, true, false, false, false] rfl ?_
    have hz := hE _ (Option.some.inj h).symm
    exact hz
  · replace h := (if_neg q1).symm.trans h
    refine i_aload_n S dX12_law_201 rfl ?_
    obtain ⟨hL2, h⟩ := onLn h
    refine i_getR S fl_X12_117 (k47 hL2) (r47_57 hL2) rfl dX12_law_202 ?_
    refine i_bipush (v := 10) S dX12_law_205 bp_10 ?_
    refine i_iload_n S dX12_law_207 rfl ?_
    refine i_imul S dX12_law_208 ?_
    refine i_iload S dX12_law_209 rfl ?_
    refine i_iadd S dX12_law_211 ?_
    refine i_aload_n S dX12_law_212 rfl ?_
    refine i_getR S fl_X12_123 (k47 hL2) (r47_59 hL2) rfl dX12_law_213 ?_
    refine i_iload S dX12_law_216 rfl ?_
    obtain ⟨hi4, h⟩ := gd h
    refine i_ialdv (v := gI s.2 83 (ix s.1)) S (k83 hL2) hi4 rfl dX12_law_218 ?_
    obtain ⟨hi6, h⟩ := gd h
    refine i_iast S (k81 hL2) hi6 dX12_law_219 ?_
    refine i_iinc (L1 := [some (rf g 47), some (.int x1), none, none, some (.int (s.1 + (1 : Int32)))]) S dX12_law_220 rfl ic_1 (by decide) rfl ?_
    refine i_goto (tgt := 194) S dX12_law_223 (by decide) ?_
    have hz := hC _ (Option.some.inj h).symm
    exact hz
set_option maxHeartbeats 4000000 in
set_option maxRecDepth 100000 in
theorem t_l_X12_law_229 {g : Gx} {V : Vt} {d : Nat} (S : MachB g yX12_law cX12_law 5 (d + 3) V) {x1 : Int32}  (s : Int32 × Mm) (e : (Int32 × Mm) ⊕ (Mm)) (h : l_X12_law_229 x1 s = some e) (hC : ∀ s2, e = .inl s2 → V 229 [some (rf g 47), some (.int x1), none, none, some (.int s2.1)] [] s2.2) (hE : ∀ x, e = .inr x → V 259 [some (rf g 47), some (.int x1), none, none, none] [] x) : V 229 [some (rf g 47), some (.int x1), none, none, some (.int s.1)] [] s.2 := by
  unfold l_X12_law_229 at h
  refine i_iload S dX12_law_229 rfl ?_
  refine i_iconst (v := 4) S dX12_law_231 ic_4 ?_
  refine i_icmp_ge (tgt := 259) S dX12_law_232 (by decide) (fun q1 => ?_) (fun q1 => ?_)
  · replace h := (if_pos q1).symm.trans h
    refine i_mask (L1 := [some (rf g 47), some (.int x1), none, none, none]) S [true, true, false, false, false] rfl ?_
    have hz := hE _ (Option.some.inj h).symm
    exact hz
  · replace h := (if_neg q1).symm.trans h
    refine i_aload_n S dX12_law_235 rfl ?_
    obtain ⟨hL2, h⟩ := onLn h
    refine i_getR S fl_X12_120 (k47 hL2) (r47_58 hL2) rfl dX12_law_236 ?_
    refine i_iconst (v := 4) S dX12_law_239 ic_4 ?_
    refine i_iload_n S dX12_law_240 rfl ?_
    refine i_imul S dX12_law_241 ?_
    refine i_iload S dX12_law_242 rfl ?_
    refine i_iadd S dX12_law_244 ?_
    refine i_aload_n S dX12_law_245 rfl ?_
    refine i_getR S fl_X12_126 (k47 hL2) (r47_60 hL2) rfl dX12_law_246 ?_
    refine i_iload S dX12_law_249 rfl ?_
    obtain ⟨hi4, h⟩ := gd h
    refine i_ialdv (v := gI s.2 84 (ix s.1)) S (k84 hL2) hi4 rfl dX12_law_251 ?_
    obtain ⟨hi6, h⟩ := gd h
    refine i_iast S (k82 hL2) hi6 dX12_law_252 ?_
    refine i_iinc (L1 := [some (rf g 47), some (.int x1), none, none, some (.int (s.1 + (1 : Int32)))]) S dX12_law_253 rfl ic_1 (by decide) rfl ?_
    refine i_goto (tgt := 229) S dX12_law_256 (by decide) ?_
    have hz := hC _ (Option.some.inj h).symm
    exact hz
set_option maxHeartbeats 4000000 in
set_option maxRecDepth 100000 in
theorem c_X12_law (g : Gx) (d : Nat) {x1 : Int32} {x2 : Int32} {w : Mm} {p : (Int32 × Mm)} (hL : Lay w) (h : f_X12_law x1 x2 w = some p) : Call g (d + 4) yX12_law cX12_law 5 (some .int) [rf g 47, .int x1, .int x2] w (some (.int p.1)) p.2 := by
  refine call_of (L0 := [some (rf g 47), some (.int x1), some (.int x2), none, none]) (by decide) rfl (Nat.le_of_ble_eq_true rfl) (fun V S0 => ?_)
  have S := S0.b
  unfold f_X12_law at h
  refine i_iload_n S dX12_law_0 rfl ?_
  refine i_i2l S dX12_law_1 ?_
  refine i_lconst (v := 0) S dX12_law_2 lc_0 ?_
  refine i_ldc2 S kl_X12_144 dX12_law_3 ?_
  refine i_callS (As := [.long x1.toInt64, .long ((0 : Int64)), .long ((3 : Int64))]) (st1 := [.int (f_X12_lies x1.toInt64 (0 : Int64) (3 : Int64))]) S (c_X12_lies g (d + 2) rfl) mw_X12_lies lk_X12_138 im_X12_lies dX12_law_6 rfl rfl (Nat.le_of_ble_eq_true rfl) rfl ?_
  refine i_if_eq (tgt := 32) S dX12_law_9 (by decide) (fun q1 => ?_) (fun q1 => ?_)
  · replace h := (if_pos q1).symm.trans h
    refine i_iconst (v := -1) S dX12_law_32 ic_m1 ?_
    cases h
    exact i_iret S0 rfl dX12_law_33
  · replace h := (if_neg q1).symm.trans h
    refine i_iload_n S dX12_law_12 rfl ?_
    refine i_i2l S dX12_law_13 ?_
    refine i_lconst (v := 1) S dX12_law_14 lc_1 ?_
    refine i_ldc2 S kl_X12_459 dX12_law_15 ?_
    refine i_callS (As := [.long x2.toInt64, .long ((1 : Int64)), .long ((60 : Int64))]) (st1 := [.int (f_X12_lies x2.toInt64 (1 : Int64) (60 : Int64))]) S (c_X12_lies g (d + 2) rfl) mw_X12_lies lk_X12_138 im_X12_lies dX12_law_18 rfl rfl (Nat.le_of_ble_eq_true rfl) rfl ?_
    refine i_if_eq (tgt := 32) S dX12_law_21 (by decide) (fun q2 => ?_) (fun q2 => ?_)
    · replace h := (if_pos q2).symm.trans h
      refine i_iconst (v := -1) S dX12_law_32 ic_m1 ?_
      cases h
      exact i_iret S0 rfl dX12_law_33
    · replace h := (if_neg q2).symm.trans h
      refine i_iload_n S dX12_law_24 rfl ?_
      refine i_aload_n S dX12_law_25 rfl ?_
      refine i_getIv (v := gI w 47 1) S fl_X12_174 (k47 hL) rfl rfl dX12_law_26 ?_
      refine i_icmp_le (tgt := 34) S dX12_law_29 (by decide) (fun q3 => ?_) (fun q3 => ?_)
      · replace h := (if_pos q3).symm.trans h
        refine i_aload_n S dX12_law_34 rfl ?_
        refine i_iload_n S dX12_law_35 rfl ?_
        obtain ⟨p4, e4, h⟩ := bn h
        refine i_callV (As := [.int x2]) (st1 := []) S (c_X12_begins g (d + 2) hL e4) mw_X12_begins lk_X12_285 im_X12_begins se_X12_begins ci_12.1 ci_12.2.1 (k47 hL) dX12_law_36 rfl rfl (Nat.le_of_ble_eq_true rfl) rfl ?_
        refine i_aload_n S dX12_law_39 rfl ?_
        refine i_iconst (v := 0) S dX12_law_40 ic_0 ?_
        obtain ⟨hL5, h⟩ := onLn h
        refine i_putI S fl_X12_447 (k47 hL5) rfl rfl rfl dX12_law_41 ?_
        refine i_iconst (v := 0) S dX12_law_44 ic_0 ?_
        refine i_istore_n (L1 := [some (rf g 47), some (.int x1), some (.int x2), some (.int ((0 : Int32))), none]) S dX12_law_45 (by decide) rfl ?_
        refine i_mask (L1 := [some (rf g 47), some (.int x1), none, some (.int ((0 : Int32))), none]) S [true, true, false, true, false] rfl ?_
        obtain ⟨p6, e6, h⟩ := bn h
        have hE6 : V 65 [some (rf g 47), some (.int x1), none, none, none] [] p6 := by
          refine i_iconst (v := 0) S dX12_law_65 ic_0 ?_
          refine i_istore_n (L1 := [some (rf g 47), some (.int x1), none, some (.int ((0 : Int32))), none]) S dX12_law_66 (by decide) rfl ?_
          obtain ⟨p7, e7, h⟩ := bn h
          have hE7 : V 85 [some (rf g 47), some (.int x1), none, none, none] [] p7 := by
            refine i_iconst (v := 1) S dX12_law_85 ic_1 ?_
            refine i_istore_n (L1 := [some (rf g 47), some (.int x1), none, some (.int ((1 : Int32))), none]) S dX12_law_86 (by decide) rfl ?_
            obtain ⟨p8, e8, h⟩ := bn h
            have hE8 : V 125 [some (rf g 47), some (.int x1), none, none, none] [] p8 := by
              refine i_aload_n S dX12_law_125 rfl ?_
              obtain ⟨hL9, h⟩ := onLn h
              obtain ⟨p10, e10, h⟩ := bn h
              refine i_callV (As := []) (st1 := [.int p10]) S (c_X12_isGood g (d + 2) hL9 e10) mw_X12_isGood lk_X12_190 im_X12_isGood se_X12_isGood ci_12.1 ci_12.2.1 (k47 hL9) dX12_law_126 rfl rfl (Nat.le_of_ble_eq_true rfl) rfl ?_
              obtain ⟨p12, e12, h⟩ := bn h
              have hj12 : ∀ q12, p12 = q12 → V 137 [some (rf g 47), some (.int x1), none, none, none] [] q12 := by
                intro q12 hq12
                subst hq12
                refine i_aload_n S dX12_law_137 rfl ?_
                obtain ⟨hL13, h⟩ := onLn h
                obtain ⟨p14, e14, h⟩ := bn h
                refine i_callV (As := []) (st1 := [.int p14]) S (c_X12_isGood g (d + 2) hL13 e14) mw_X12_isGood lk_X12_190 im_X12_isGood se_X12_isGood ci_12.1 ci_12.2.1 (k47 hL13) dX12_law_138 rfl rfl (Nat.le_of_ble_eq_true rfl) rfl ?_
                obtain ⟨p16, e16, h⟩ := bn h
                have hj16 : ∀ q16, p16 = q16 → V 160 [some (rf g 47), some (.int x1), none, none, none] [] q16 := by
                  intro q16 hq16
                  subst hq16
                  refine i_aload_n S dX12_law_160 rfl ?_
                  obtain ⟨hL17, h⟩ := onLn h
                  refine i_getIv (v := gI p16 47 30) S fl_X12_187 (k47 hL17) rfl rfl dX12_law_161 ?_
                  refine i_if_ge (tgt := 172) S dX12_law_164 (by decide) (fun q18 => ?_) (fun q18 => ?_)
                  · replace h := (if_pos q18).symm.trans h
                    refine i_aload_n S dX12_law_172 rfl ?_
                    refine i_getR S fl_X12_111 (k47 hL17) (r47_55 hL17) rfl dX12_law_173 ?_
                    refine i_iload_n S dX12_law_176 rfl ?_
                    refine i_iconst (v := 1) S dX12_law_177 ic_1 ?_
                    obtain ⟨hi20, h⟩ := gd h
                    refine i_zast S (k79 hL17) hi20 dX12_law_178 ?_
                    refine i_aload_n S dX12_law_179 rfl ?_
                    refine i_getR S fl_X12_114 (k47 hL17) (r47_56 hL17) rfl dX12_law_180 ?_
                    refine i_iload_n S dX12_law_183 rfl ?_
                    refine i_aload_n S dX12_law_184 rfl ?_
                    refine i_getR S fl_X12_129 (k47 hL17) (r47_61 hL17) rfl dX12_law_185 ?_
                    refine i_iconst (v := 0) S dX12_law_188 ic_0 ?_
                    refine i_ialdv (v := gI p16 85 (ix (0 : Int32))) S (k85 hL17) (by decide) rfl dX12_law_189 ?_
                    refine i_iast S (k80 hL17) hi20 dX12_law_190 ?_
                    refine i_iconst (v := 0) S dX12_law_191 ic_0 ?_
                    refine i_istore (L1 := [some (rf g 47), some (.int x1), none, none, some (.int ((0 : Int32)))]) S dX12_law_192 (by decide) rfl ?_
                    obtain ⟨p23, e23, h⟩ := bn h
                    have hE23 : V 226 [some (rf g 47), some (.int x1), none, none, none] [] p23 := by
                      refine i_iconst (v := 0) S dX12_law_226 ic_0 ?_
                      refine i_istore (L1 := [some (rf g 47), some (.int x1), none, none, some (.int ((0 : Int32)))]) S dX12_law_227 (by decide) rfl ?_
                      obtain ⟨p24, e24, h⟩ := bn h
                      have hE24 : V 259 [some (rf g 47), some (.int x1), none, none, none] [] p24 := by
                        refine i_aload_n S dX12_law_259 rfl ?_
                        obtain ⟨hL25, h⟩ := onLn h
                        refine i_getR S fl_X12_114 (k47 hL25) (r47_56 hL25) rfl dX12_law_260 ?_
                        refine i_iload_n S dX12_law_263 rfl ?_
                        refine i_ialdv (v := gI p24 80 (ix x1)) S (k80 hL25) hi20 rfl dX12_law_264 ?_
                        cases h
                        exact i_iret S0 rfl dX12_law_265
                      exact wh_V (P := fun sv24 => V 229 [some (rf g 47), some (.int x1), none, none, some (.int sv24.1)] [] sv24.2) (E := fun xv24 => V 259 [some (rf g 47), some (.int x1), none, none, none] [] xv24) (fun sv24 ev hb hc he => t_l_X12_law_229   S  sv24 ev hb hc he) FUEL _ _ e24 hE24
                    exact wh_V (P := fun sv23 => V 194 [some (rf g 47), some (.int x1), none, none, some (.int sv23.1)] [] sv23.2) (E := fun xv23 => V 226 [some (rf g 47), some (.int x1), none, none, none] [] xv23) (fun sv23 ev hb hc he => t_l_X12_law_194   S  sv23 ev hb hc he) FUEL _ _ e23 hE23
                  · replace h := (if_neg q18).symm.trans h
                    refine i_aload_n S dX12_law_167 rfl ?_
                    refine i_getIv (v := gI p16 47 30) S fl_X12_187 (k47 hL17) rfl rfl dX12_law_168 ?_
                    cases h
                    exact i_iret S0 rfl dX12_law_171
                replace h := e16
                clear e16
                refine i_if_eq (tgt := 160) S dX12_law_141 (by decide) (fun q15 => ?_) (fun q15 => ?_)
                · replace h := (if_pos q15).symm.trans h
                  have hz := hj16 _ (Option.some.inj h).symm
                  exact hz
                · replace h := (if_neg q15).symm.trans h
                  refine i_aload_n S dX12_law_144 rfl ?_
                  refine i_getIv (v := gI p12 47 34) S fl_X12_197 (k47 hL13) rfl rfl dX12_law_145 ?_
                  refine i_if_le (tgt := 160) S dX12_law_148 (by decide) (fun q27 => ?_) (fun q27 => ?_)
                  · replace h := (if_pos q27).symm.trans h
                    have hz := hj16 _ (Option.some.inj h).symm
                    exact hz
                  · replace h := (if_neg q27).symm.trans h
                    refine i_aload_n S dX12_law_151 rfl ?_
                    refine i_iconst (v := 1) S dX12_law_152 ic_1 ?_
                    refine i_aload_n S dX12_law_153 rfl ?_
                    refine i_getIv (v := gI p12 47 28) S fl_X12_181 (k47 hL13) rfl rfl dX12_law_154 ?_
                    obtain ⟨p28, e28, h⟩ := bn h
                    refine i_callV (As := [.int ((1 : Int32)), .int (gI p12 47 28)]) (st1 := []) S (c_X12_wrongs g (d + 2) hL13 e28) mw_X12_wrongs lk_X12_203 im_X12_wrongs se_X12_wrongs ci_12.1 ci_12.2.1 (k47 hL13) dX12_law_157 rfl rfl (Nat.le_of_ble_eq_true rfl) rfl ?_
                    have hz := hj16 _ (Option.some.inj h).symm
                    exact hz
              replace h := e12
              clear e12
              refine i_if_eq (tgt := 137) S dX12_law_129 (by decide) (fun q11 => ?_) (fun q11 => ?_)
              · replace h := (if_pos q11).symm.trans h
                have hz := hj12 _ (Option.some.inj h).symm
                exact hz
              · replace h := (if_neg q11).symm.trans h
                refine i_aload_n S dX12_law_132 rfl ?_
                refine i_iconst (v := 1) S dX12_law_133 ic_1 ?_
                obtain ⟨p29, e29, h⟩ := bn h
                refine i_callV (As := [.int ((1 : Int32))]) (st1 := []) S (c_X12_joinsValues g (d + 1) hL9 e29) mw_X12_joinsValues lk_X12_453 im_X12_joinsValues se_X12_joinsValues ci_12.1 ci_12.2.1 (k47 hL9) dX12_law_134 rfl rfl (Nat.le_of_ble_eq_true rfl) rfl ?_
                have hz := hj12 _ (Option.some.inj h).symm
                exact hz
            exact wh_V (P := fun sv8 => V 87 [some (rf g 47), some (.int x1), none, some (.int sv8.1), none] [] sv8.2) (E := fun xv8 => V 125 [some (rf g 47), some (.int x1), none, none, none] [] xv8) (fun sv8 ev hb hc he => t_l_X12_law_87   S  sv8 ev hb hc he) FUEL _ _ e8 hE8
          exact wh_V (P := fun sv7 => V 67 [some (rf g 47), some (.int x1), none, some (.int sv7.1), none] [] sv7.2) (E := fun xv7 => V 85 [some (rf g 47), some (.int x1), none, none, none] [] xv7) (fun sv7 ev hb hc he => t_l_X12_law_67   S  sv7 ev hb hc he) FUEL _ _ e7 hE7
        exact wh_V (P := fun sv6 => V 46 [some (rf g 47), some (.int x1), none, some (.int sv6.1), none] [] sv6.2) (E := fun xv6 => V 65 [some (rf g 47), some (.int x1), none, none, none] [] xv6) (fun sv6 ev hb hc he => t_l_X12_law_46   S  sv6 ev hb hc he) FUEL _ _ e6 hE6
      · replace h := (if_neg q3).symm.trans h
        refine i_iconst (v := -1) S dX12_law_32 ic_m1 ?_
        cases h
        exact i_iret S0 rfl dX12_law_33
/-! WordYearModel.lawLength -/
noncomputable def l_X12_lawLength_14 (x1 : Int32) (x2 : Int32) (w : Mm) (s : Int32 × Int32) : Option ((Int32 × Int32) ⊕ (Int32)) := if (gI w 47 2) ≤ s.2 then (some (.inr s.1)) else (if inb (((10 : Int32) * x1) + s.2) 40 = true then (if inb s.2 10 = true then (some (.inl (s.1 + ((gI w 81 (ix (((10 : Int32) * x1) + s.2))) * (gI w 51 (ix s.2))), s.2 + (1 : Int32)))) else none) else none)
noncomputable def l_X12_lawLength_55 (x1 : Int32) (x2 : Int32) (w : Mm) (s : Int32 × Int32) : Option ((Int32 × Int32) ⊕ (Int32)) := if (3 : Int32) < s.2 then (some (.inr s.1)) else (Option.bind (f_X12_joinOf x2 s.2 w) (fun p2 => Option.bind (if (1000000 : Int32) ≤ p2 then (some (0 : Int32)) else (if inb (((4 : Int32) * x1) + s.2) 16 = true then (Option.bind (f_X12_joinOf x2 s.2 w) (fun p7 => some ((gI w 82 (ix (((4 : Int32) * x1) + s.2))) * p7))) else none)) (fun p4 => some (.inl (s.1 + p4, s.2 + (1 : Int32))))))
noncomputable def f_X12_lawLength (x1 : Int32) (w : Mm) : Option Int32 := Option.bind (wh (l_X12_lawLength_14 x1 (((1 : Int32) <<< ((gI w 47 2) &&& 31)) - (1 : Int32)) w) FUEL ((0 : Int32), (0 : Int32))) (fun p1 => Option.bind (wh (l_X12_lawLength_55 x1 (((1 : Int32) <<< ((gI w 47 2) &&& 31)) - (1 : Int32)) w) FUEL (p1, (1 : Int32))) (fun p2 => some p2))
set_option maxHeartbeats 4000000 in
set_option maxRecDepth 100000 in
theorem t_l_X12_lawLength_14 {g : Gx} {V : Vt} {d : Nat} (S : MachB g yX12_lawLength cX12_lawLength 5 (d + 3) V) {x1 : Int32} {x2 : Int32} {w : Mm} (hL : Lay w) (s : Int32 × Int32) (e : (Int32 × Int32) ⊕ (Int32)) (h : l_X12_lawLength_14 x1 x2 w s = some e) (hC : ∀ s2, e = .inl s2 → V 14 [some (rf g 47), some (.int x1), some (.int x2), some (.int s2.1), some (.int s2.2)] [] w) (hE : ∀ x, e = .inr x → V 52 [some (rf g 47), some (.int x1), some (.int x2), some (.int x), none] [] w) : V 14 [some (rf g 47), some (.int x1), some (.int x2), some (.int s.1), some (.int s.2)] [] w := by
  unfold l_X12_lawLength_14 at h
  refine i_iload S dX12_lawLength_14 rfl ?_
  refine i_aload_n S dX12_lawLength_16 rfl ?_
  refine i_getIv (v := gI w 47 2) S fl_X12_135 (k47 hL) rfl rfl dX12_lawLength_17 ?_
  refine i_icmp_ge (tgt := 52) S dX12_lawLength_20 (by decide) (fun q1 => ?_) (fun q1 => ?_)
  · replace h := (if_pos q1).symm.trans h
    refine i_mask (L1 := [some (rf g 47), some (.int x1), some (.int x2), some (.int s.1), none]) S [true, true, true, true, false] rfl ?_
    have hz := hE _ (Option.some.inj h).symm
    exact hz
  · replace h := (if_neg q1).symm.trans h
    refine i_iload_n S dX12_lawLength_23 rfl ?_
    refine i_aload_n S dX12_lawLength_24 rfl ?_
    refine i_getR S fl_X12_117 (k47 hL) (r47_57 hL) rfl dX12_lawLength_25 ?_
    refine i_bipush (v := 10) S dX12_lawLength_28 bp_10 ?_
    refine i_iload_n S dX12_lawLength_30 rfl ?_
    refine i_imul S dX12_lawLength_31 ?_
    refine i_iload S dX12_lawLength_32 rfl ?_
    refine i_iadd S dX12_lawLength_34 ?_
    obtain ⟨hi3, h⟩ := gd h
    refine i_ialdv (v := gI w 81 (ix (((10 : Int32) * x1) + s.2))) S (k81 hL) hi3 rfl dX12_lawLength_35 ?_
    refine i_aload_n S dX12_lawLength_36 rfl ?_
    refine i_getR S fl_X12_24 (k47 hL) (r47_10 hL) rfl dX12_lawLength_37 ?_
    refine i_iload S dX12_lawLength_40 rfl ?_
    obtain ⟨hi5, h⟩ := gd h
    refine i_ialdv (v := gI w 51 (ix s.2)) S (k51 hL) hi5 rfl dX12_lawLength_42 ?_
    refine i_imul S dX12_lawLength_43 ?_
    refine i_iadd S dX12_lawLength_44 ?_
    refine i_istore_n (L1 := [some (rf g 47), some (.int x1), some (.int x2), some (.int (s.1 + ((gI w 81 (ix (((10 : Int32) * x1) + s.2))) * (gI w 51 (ix s.2))))), some (.int s.2)]) S dX12_lawLength_45 (by decide) rfl ?_
    refine i_iinc (L1 := [some (rf g 47), some (.int x1), some (.int x2), some (.int (s.1 + ((gI w 81 (ix (((10 : Int32) * x1) + s.2))) * (gI w 51 (ix s.2))))), some (.int (s.2 + (1 : Int32)))]) S dX12_lawLength_46 rfl ic_1 (by decide) rfl ?_
    refine i_goto (tgt := 14) S dX12_lawLength_49 (by decide) ?_
    have hz := hC _ (Option.some.inj h).symm
    exact hz
set_option maxHeartbeats 4000000 in
set_option maxRecDepth 100000 in
theorem t_l_X12_lawLength_55 {g : Gx} {V : Vt} {d : Nat} (S : MachB g yX12_lawLength cX12_lawLength 5 (d + 3) V) {x1 : Int32} {x2 : Int32} {w : Mm} (hL : Lay w) (s : Int32 × Int32) (e : (Int32 × Int32) ⊕ (Int32)) (h : l_X12_lawLength_55 x1 x2 w s = some e) (hC : ∀ s2, e = .inl s2 → V 55 [some (rf g 47), some (.int x1), some (.int x2), some (.int s2.1), some (.int s2.2)] [] w) (hE : ∀ x, e = .inr x → V 106 [none, none, none, some (.int x), none] [] w) : V 55 [some (rf g 47), some (.int x1), some (.int x2), some (.int s.1), some (.int s.2)] [] w := by
  unfold l_X12_lawLength_55 at h
  refine i_iload S dX12_lawLength_55 rfl ?_
  refine i_iconst (v := 3) S dX12_lawLength_57 ic_3 ?_
  refine i_icmp_gt (tgt := 106) S dX12_lawLength_58 (by decide) (fun q1 => ?_) (fun q1 => ?_)
  · replace h := (if_pos q1).symm.trans h
    refine i_mask (L1 := [none, none, none, some (.int s.1), none]) S [false, false, false, true, false] rfl ?_
    have hz := hE _ (Option.some.inj h).symm
    exact hz
  · replace h := (if_neg q1).symm.trans h
    refine i_iload_n S dX12_lawLength_61 rfl ?_
    refine i_aload_n S dX12_lawLength_62 rfl ?_
    refine i_iload_n S dX12_lawLength_63 rfl ?_
    refine i_iload S dX12_lawLength_64 rfl ?_
    obtain ⟨p2, e2, h⟩ := bn h
    refine i_callV (As := [.int x2, .int s.2]) (st1 := [.int p2, .int s.1]) S (c_X12_joinOf g d hL e2) mw_X12_joinOf lk_X12_325 im_X12_joinOf se_X12_joinOf ci_12.1 ci_12.2.1 (k47 hL) dX12_lawLength_66 rfl rfl (Nat.le_of_ble_eq_true rfl) rfl ?_
    refine i_ldcw S kc_X12_324 dX12_lawLength_69 ?_
    obtain ⟨p4, e4, h⟩ := bn h
    have hj4 : ∀ q4, p4 = q4 → V 98 [some (rf g 47), some (.int x1), some (.int x2), none, some (.int s.2)] [.int q4, .int s.1] w := by
      intro q4 hq4
      subst hq4
      refine i_iadd S dX12_lawLength_98 ?_
      refine i_istore_n (L1 := [some (rf g 47), some (.int x1), some (.int x2), some (.int (s.1 + p4)), some (.int s.2)]) S dX12_lawLength_99 (by decide) rfl ?_
      refine i_iinc (L1 := [some (rf g 47), some (.int x1), some (.int x2), some (.int (s.1 + p4)), some (.int (s.2 + (1 : Int32)))]) S dX12_lawLength_100 rfl ic_1 (by decide) rfl ?_
      refine i_goto (tgt := 55) S dX12_lawLength_103 (by decide) ?_
      have hz := hC _ (Option.some.inj h).symm
      exact hz
    replace h := e4
    clear e4
    refine i_icmp_ge (tgt := 97) S dX12_lawLength_72 (by decide) (fun q3 => ?_) (fun q3 => ?_)
    · replace h := (if_pos q3).symm.trans h
      refine i_iconst (v := 0) S dX12_lawLength_97 ic_0 ?_
      refine i_mask (L1 := [some (rf g 47), some (.int x1), some (.int x2), none, some (.int s.2)]) S [true, true, true, false, true] rfl ?_
      have hz := hj4 _ (Option.some.inj h).symm
      exact hz
    · replace h := (if_neg q3).symm.trans h
      refine i_aload_n S dX12_lawLength_75 rfl ?_
      refine i_getR S fl_X12_120 (k47 hL) (r47_58 hL) rfl dX12_lawLength_76 ?_
      refine i_iconst (v := 4) S dX12_lawLength_79 ic_4 ?_
      refine i_iload_n S dX12_lawLength_80 rfl ?_
      refine i_imul S dX12_lawLength_81 ?_
      refine i_iload S dX12_lawLength_82 rfl ?_
      refine i_iadd S dX12_lawLength_84 ?_
      obtain ⟨hi6, h⟩ := gd h
      refine i_ialdv (v := gI w 82 (ix (((4 : Int32) * x1) + s.2))) S (k82 hL) hi6 rfl dX12_lawLength_85 ?_
      refine i_aload_n S dX12_lawLength_86 rfl ?_
      refine i_iload_n S dX12_lawLength_87 rfl ?_
      refine i_iload S dX12_lawLength_88 rfl ?_
      obtain ⟨p7, e7, h⟩ := bn h
      refine i_callV (As := [.int x2, .int s.2]) (st1 := [.int p7, .int (gI w 82 (ix (((4 : Int32) * x1) + s.2))), .int s.1]) S (c_X12_joinOf g d hL e7) mw_X12_joinOf lk_X12_325 im_X12_joinOf se_X12_joinOf ci_12.1 ci_12.2.1 (k47 hL) dX12_lawLength_90 rfl rfl (Nat.le_of_ble_eq_true rfl) rfl ?_
      refine i_imul S dX12_lawLength_93 ?_
      refine i_goto (tgt := 98) S dX12_lawLength_94 (by decide) ?_
      refine i_mask (L1 := [some (rf g 47), some (.int x1), some (.int x2), none, some (.int s.2)]) S [true, true, true, false, true] rfl ?_
      have hz := hj4 _ (Option.some.inj h).symm
      exact hz
set_option maxHeartbeats 4000000 in
set_option maxRecDepth 100000 in
theorem c_X12_lawLength (g : Gx) (d : Nat) {x1 : Int32} {w : Mm} {p : Int32} (hL : Lay w) (h : f_X12_lawLength x1 w = some p) : Call g (d + 4) yX12_lawLength cX12_lawLength 5 (some .int) [rf g 47, .int x1] w (some (.int p)) w := by
  refine call_of (L0 := [some (rf g 47), some (.int x1), none, none, none]) (by decide) rfl (Nat.le_of_ble_eq_true rfl) (fun V S0 => ?_)
  have S := S0.b
  unfold f_X12_lawLength at h
  refine i_iconst (v := 1) S dX12_lawLength_0 ic_1 ?_
  refine i_aload_n S dX12_lawLength_1 rfl ?_
  refine i_getIv (v := gI w 47 2) S fl_X12_135 (k47 hL) rfl rfl dX12_lawLength_2 ?_
  refine i_ishl S dX12_lawLength_5 ?_
  refine i_iconst (v := 1) S dX12_lawLength_6 ic_1 ?_
  refine i_isub S dX12_lawLength_7 ?_
  refine i_istore_n (L1 := [some (rf g 47), some (.int x1), some (.int (((1 : Int32) <<< ((gI w 47 2) &&& 31)) - (1 : Int32))), none, none]) S dX12_lawLength_8 (by decide) rfl ?_
  refine i_iconst (v := 0) S dX12_lawLength_9 ic_0 ?_
  refine i_istore_n (L1 := [some (rf g 47), some (.int x1), some (.int (((1 : Int32) <<< ((gI w 47 2) &&& 31)) - (1 : Int32))), some (.int ((0 : Int32))), none]) S dX12_lawLength_10 (by decide) rfl ?_
  refine i_iconst (v := 0) S dX12_lawLength_11 ic_0 ?_
  refine i_istore (L1 := [some (rf g 47), some (.int x1), some (.int (((1 : Int32) <<< ((gI w 47 2) &&& 31)) - (1 : Int32))), some (.int ((0 : Int32))), some (.int ((0 : Int32)))]) S dX12_lawLength_12 (by decide) rfl ?_
  obtain ⟨p1, e1, h⟩ := bn h
  have hE1 : V 52 [some (rf g 47), some (.int x1), some (.int (((1 : Int32) <<< ((gI w 47 2) &&& 31)) - (1 : Int32))), some (.int p1), none] [] w := by
    refine i_iconst (v := 1) S dX12_lawLength_52 ic_1 ?_
    refine i_istore (L1 := [some (rf g 47), some (.int x1), some (.int (((1 : Int32) <<< ((gI w 47 2) &&& 31)) - (1 : Int32))), some (.int p1), some (.int ((1 : Int32)))]) S dX12_lawLength_53 (by decide) rfl ?_
    obtain ⟨p2, e2, h⟩ := bn h
    have hE2 : V 106 [none, none, none, some (.int p2), none] [] w := by
      refine i_iload_n S dX12_lawLength_106 rfl ?_
      cases h
      exact i_iret S0 rfl dX12_lawLength_107
    exact wh_V (P := fun sv2 => V 55 [some (rf g 47), some (.int x1), some (.int (((1 : Int32) <<< ((gI w 47 2) &&& 31)) - (1 : Int32))), some (.int sv2.1), some (.int sv2.2)] [] w) (E := fun xv2 => V 106 [none, none, none, some (.int xv2), none] [] w) (fun sv2 ev hb hc he => t_l_X12_lawLength_55 (w := w)  S hL sv2 ev hb hc he) FUEL _ _ e2 hE2
  exact wh_V (P := fun sv1 => V 14 [some (rf g 47), some (.int x1), some (.int (((1 : Int32) <<< ((gI w 47 2) &&& 31)) - (1 : Int32))), some (.int sv1.1), some (.int sv1.2)] [] w) (E := fun xv1 => V 52 [some (rf g 47), some (.int x1), some (.int (((1 : Int32) <<< ((gI w 47 2) &&& 31)) - (1 : Int32))), some (.int xv1), none] [] w) (fun sv1 ev hb hc he => t_l_X12_lawLength_14 (w := w)  S hL sv1 ev hb hc he) FUEL _ _ e1 hE1
/-! WordYearModel.lawIs -/
noncomputable def l_X12_lawIs_40 (x1 : Int32) (x2 : Int32) (w : Mm) (s : Int32 × Int32) : Option ((Int32 × Int32) ⊕ (Int32)) := if (gI w 47 2) ≤ s.2 then (some (.inr s.1)) else (if inb (((10 : Int32) * x1) + s.2) 40 = true then (Option.bind (mg (if (gI w 81 (ix (((10 : Int32) * x1) + s.2))) ≤ 0 then (some (.inl ())) else (if (f_X12_has (gI w 47 6) s.2) = 0 then (some (.inr ((1 : Int32) <<< (s.2 &&& 31)))) else (some (.inl ())))) (fun p6 => some (0 : Int32))) (fun p5 => some (.inl (s.1 ||| p5, s.2 + (1 : Int32))))) else none)
noncomputable def f_X12_lawIs (x1 : Int32) (x2 : Int32) (w : Mm) : Option (Int32 × Mm) := if (f_X12_lies x1.toInt64 (0 : Int64) (3 : Int64)) = 0 then (some ((-1 : Int32), w)) else (if inb x1 4 = true then (if (gI w 79 (ix x1)) = 0 then (some ((-1 : Int32), w)) else (if (f_X12_lies x2.toInt64 (0 : Int64) (3 : Int64)) = 0 then (some ((-1 : Int32), w)) else (Option.bind (wh (l_X12_lawIs_40 x1 x2 w) FUEL ((0 : Int32), (0 : Int32))) (fun p6 => Option.bind (f_X12_briefOf (gI w 47 6) (gI w 80 (ix x1)) w) (fun p8 => if x2 = 0 then (onL p8.2 (some (gI p8.2 80 (ix x1), p8.2))) else (if x2 = (1 : Int32) then (onL p8.2 (Option.bind (f_X12_lawLength x1 p8.2) (fun p14 => some (p14, p8.2)))) else (if x2 = (2 : Int32) then (some (p6, p8.2)) else (if p8.1 < (1000000 : Int32) then (some (p8.1, p8.2)) else (some ((-2 : Int32), p8.2)))))))))) else none)
set_option maxHeartbeats 4000000 in
set_option maxRecDepth 100000 in
theorem t_l_X12_lawIs_40 {g : Gx} {V : Vt} {d : Nat} (S : MachB g yX12_lawIs cX12_lawIs 5 (d + 5) V) {x1 : Int32} {x2 : Int32} {w : Mm} (hL : Lay w) (s : Int32 × Int32) (e : (Int32 × Int32) ⊕ (Int32)) (h : l_X12_lawIs_40 x1 x2 w s = some e) (hC : ∀ s2, e = .inl s2 → V 40 [some (rf g 47), some (.int x1), some (.int x2), some (.int s2.1), some (.int s2.2)] [] w) (hE : ∀ x, e = .inr x → V 93 [some (rf g 47), some (.int x1), some (.int x2), some (.int x), none] [] w) : V 40 [some (rf g 47), some (.int x1), some (.int x2), some (.int s.1), some (.int s.2)] [] w := by
  unfold l_X12_lawIs_40 at h
  refine i_iload S dX12_lawIs_40 rfl ?_
  refine i_aload_n S dX12_lawIs_42 rfl ?_
  refine i_getIv (v := gI w 47 2) S fl_X12_135 (k47 hL) rfl rfl dX12_lawIs_43 ?_
  refine i_icmp_ge (tgt := 93) S dX12_lawIs_46 (by decide) (fun q1 => ?_) (fun q1 => ?_)
  · replace h := (if_pos q1).symm.trans h
    refine i_mask (L1 := [some (rf g 47), some (.int x1), some (.int x2), some (.int s.1), none]) S [true, true, true, true, false] rfl ?_
    have hz := hE _ (Option.some.inj h).symm
    exact hz
  · replace h := (if_neg q1).symm.trans h
    refine i_iload_n S dX12_lawIs_49 rfl ?_
    refine i_aload_n S dX12_lawIs_50 rfl ?_
    refine i_getR S fl_X12_117 (k47 hL) (r47_57 hL) rfl dX12_lawIs_51 ?_
    refine i_bipush (v := 10) S dX12_lawIs_54 bp_10 ?_
    refine i_iload_n S dX12_lawIs_56 rfl ?_
    refine i_imul S dX12_lawIs_57 ?_
    refine i_iload S dX12_lawIs_58 rfl ?_
    refine i_iadd S dX12_lawIs_60 ?_
    obtain ⟨hi3, h⟩ := gd h
    refine i_ialdv (v := gI w 81 (ix (((10 : Int32) * x1) + s.2))) S (k81 hL) hi3 rfl dX12_lawIs_61 ?_
    obtain ⟨p5, e5, h⟩ := bn h
    have hj5 : ∀ q5, p5 = q5 → V 85 [some (rf g 47), some (.int x1), some (.int x2), none, some (.int s.2)] [.int q5, .int s.1] w := by
      intro q5 hq5
      subst hq5
      refine i_ior S dX12_lawIs_85 ?_
      refine i_istore_n (L1 := [some (rf g 47), some (.int x1), some (.int x2), some (.int (s.1 ||| p5)), some (.int s.2)]) S dX12_lawIs_86 (by decide) rfl ?_
      refine i_iinc (L1 := [some (rf g 47), some (.int x1), some (.int x2), some (.int (s.1 ||| p5)), some (.int (s.2 + (1 : Int32)))]) S dX12_lawIs_87 rfl ic_1 (by decide) rfl ?_
      refine i_goto (tgt := 40) S dX12_lawIs_90 (by decide) ?_
      have hz := hC _ (Option.some.inj h).symm
      exact hz
    replace h := e5
    clear e5
    obtain ⟨s6, e6, hm6, ho6⟩ := mgn h
    have hj6 : ∀ p6, s6 = .inl p6 → V 84 [some (rf g 47), some (.int x1), some (.int x2), none, some (.int s.2)] [.int s.1] w := by
      intro p6 ep6
      have h := hm6 p6 ep6
      refine i_iconst (v := 0) S dX12_lawIs_84 ic_0 ?_
      have hz := hj5 _ (Option.some.inj h).symm
      exact hz
    replace h := e6
    clear e6
    refine i_if_le (tgt := 84) S dX12_lawIs_62 (by decide) (fun q4 => ?_) (fun q4 => ?_)
    · replace h := (if_pos q4).symm.trans h
      refine i_mask (L1 := [some (rf g 47), some (.int x1), some (.int x2), none, some (.int s.2)]) S [true, true, true, false, true] rfl ?_
      have hz := hj6 _ (Option.some.inj h).symm
      exact hz
    · replace h := (if_neg q4).symm.trans h
      refine i_aload_n S dX12_lawIs_65 rfl ?_
      refine i_getIv (v := gI w 47 6) S fl_X12_146 (k47 hL) rfl rfl dX12_lawIs_66 ?_
      refine i_iload S dX12_lawIs_69 rfl ?_
      refine i_callS (As := [.int (gI w 47 6), .int s.2]) (st1 := [.int (f_X12_has (gI w 47 6) s.2), .int s.1]) S (c_X12_has g (d + 4) rfl) mw_X12_has lk_X12_149 im_X12_has dX12_lawIs_71 rfl rfl (Nat.le_of_ble_eq_true rfl) rfl ?_
      refine i_if_ne (tgt := 84) S dX12_lawIs_74 (by decide) (fun q7 => ?_) (fun q7 => ?_)
      · replace h := (if_neg q7).symm.trans h
        refine i_mask (L1 := [some (rf g 47), some (.int x1), some (.int x2), none, some (.int s.2)]) S [true, true, true, false, true] rfl ?_
        have hz := hj6 _ (Option.some.inj h).symm
        exact hz
      · replace h := (if_pos q7).symm.trans h
        refine i_iconst (v := 1) S dX12_lawIs_77 ic_1 ?_
        refine i_iload S dX12_lawIs_78 rfl ?_
        refine i_ishl S dX12_lawIs_80 ?_
        refine i_goto (tgt := 85) S dX12_lawIs_81 (by decide) ?_
        replace h := ho6 _ (Option.some.inj h).symm
        refine i_mask (L1 := [some (rf g 47), some (.int x1), some (.int x2), none, some (.int s.2)]) S [true, true, true, false, true] rfl ?_
        have hz := hj5 _ (Option.some.inj h).symm
        exact hz
set_option maxHeartbeats 4000000 in
set_option maxRecDepth 100000 in
theorem c_X12_lawIs (g : Gx) (d : Nat) {x1 : Int32} {x2 : Int32} {w : Mm} {p : (Int32 × Mm)} (hL : Lay w) (h : f_X12_lawIs x1 x2 w = some p) : Call g (d + 6) yX12_lawIs cX12_lawIs 5 (some .int) [rf g 47, .int x1, .int x2] w (some (.int p.1)) p.2 := by
  refine call_of (L0 := [some (rf g 47), some (.int x1), some (.int x2), none, none]) (by decide) rfl (Nat.le_of_ble_eq_true rfl) (fun V S0 => ?_)
  have S := S0.b
  unfold f_X12_lawIs at h
  refine i_iload_n S dX12_lawIs_0 rfl ?_
  refine i_i2l S dX12_lawIs_1 ?_
  refine i_lconst (v := 0) S dX12_lawIs_2 lc_0 ?_
  refine i_ldc2 S kl_X12_144 dX12_lawIs_3 ?_
  refine i_callS (As := [.long x1.toInt64, .long ((0 : Int64)), .long ((3 : Int64))]) (st1 := [.int (f_X12_lies x1.toInt64 (0 : Int64) (3 : Int64))]) S (c_X12_lies g (d + 4) rfl) mw_X12_lies lk_X12_138 im_X12_lies dX12_lawIs_6 rfl rfl (Nat.le_of_ble_eq_true rfl) rfl ?_
  refine i_if_eq (tgt := 33) S dX12_lawIs_9 (by decide) (fun q1 => ?_) (fun q1 => ?_)
  · replace h := (if_pos q1).symm.trans h
    refine i_iconst (v := -1) S dX12_lawIs_33 ic_m1 ?_
    cases h
    exact i_iret S0 rfl dX12_lawIs_34
  · replace h := (if_neg q1).symm.trans h
    refine i_aload_n S dX12_lawIs_12 rfl ?_
    refine i_getR S fl_X12_111 (k47 hL) (r47_55 hL) rfl dX12_lawIs_13 ?_
    refine i_iload_n S dX12_lawIs_16 rfl ?_
    obtain ⟨hi3, h⟩ := gd h
    refine i_zaldv (v := gI w 79 (ix x1)) S (k79 hL) hi3 rfl dX12_lawIs_17 ?_
    refine i_if_eq (tgt := 33) S dX12_lawIs_18 (by decide) (fun q4 => ?_) (fun q4 => ?_)
    · replace h := (if_pos q4).symm.trans h
      refine i_iconst (v := -1) S dX12_lawIs_33 ic_m1 ?_
      cases h
      exact i_iret S0 rfl dX12_lawIs_34
    · replace h := (if_neg q4).symm.trans h
      refine i_iload_n S dX12_lawIs_21 rfl ?_
      refine i_i2l S dX12_lawIs_22 ?_
      refine i_lconst (v := 0) S dX12_lawIs_23 lc_0 ?_
      refine i_ldc2 S kl_X12_144 dX12_lawIs_24 ?_
      refine i_callS (As := [.long x2.toInt64, .long ((0 : Int64)), .long ((3 : Int64))]) (st1 := [.int (f_X12_lies x2.toInt64 (0 : Int64) (3 : Int64))]) S (c_X12_lies g (d + 4) rfl) mw_X12_lies lk_X12_138 im_X12_lies dX12_lawIs_27 rfl rfl (Nat.le_of_ble_eq_true rfl) rfl ?_
      refine i_if_ne (tgt := 35) S dX12_lawIs_30 (by decide) (fun q5 => ?_) (fun q5 => ?_)
      · replace h := (if_neg q5).symm.trans h
        refine i_iconst (v := 0) S dX12_lawIs_35 ic_0 ?_
        refine i_istore_n (L1 := [some (rf g 47), some (.int x1), some (.int x2), some (.int ((0 : Int32))), none]) S dX12_lawIs_36 (by decide) rfl ?_
        refine i_iconst (v := 0) S dX12_lawIs_37 ic_0 ?_
        refine i_istore (L1 := [some (rf g 47), some (.int x1), some (.int x2), some (.int ((0 : Int32))), some (.int ((0 : Int32)))]) S dX12_lawIs_38 (by decide) rfl ?_
        obtain ⟨p6, e6, h⟩ := bn h
        have hE6 : V 93 [some (rf g 47), some (.int x1), some (.int x2), some (.int p6), none] [] w := by
          refine i_aload_n S dX12_lawIs_93 rfl ?_
          refine i_aload_n S dX12_lawIs_94 rfl ?_
          refine i_getIv (v := gI w 47 6) S fl_X12_146 (k47 hL) rfl rfl dX12_lawIs_95 ?_
          refine i_aload_n S dX12_lawIs_98 rfl ?_
          refine i_getR S fl_X12_114 (k47 hL) (r47_56 hL) rfl dX12_lawIs_99 ?_
          refine i_iload_n S dX12_lawIs_102 rfl ?_
          refine i_ialdv (v := gI w 80 (ix x1)) S (k80 hL) hi3 rfl dX12_lawIs_103 ?_
          obtain ⟨p8, e8, h⟩ := bn h
          refine i_callV (As := [.int (gI w 47 6), .int (gI w 80 (ix x1))]) (st1 := [.int p8.1]) S (c_X12_briefOf g d hL e8) mw_X12_briefOf lk_X12_338 im_X12_briefOf se_X12_briefOf ci_12.1 ci_12.2.1 (k47 hL) dX12_lawIs_104 rfl rfl (Nat.le_of_ble_eq_true rfl) rfl ?_
          refine i_istore (L1 := [some (rf g 47), some (.int x1), some (.int x2), some (.int p6), some (.int p8.1)]) S dX12_lawIs_107 (by decide) rfl ?_
          refine i_iload_n S dX12_lawIs_109 rfl ?_
          refine i_if_ne (tgt := 122) S dX12_lawIs_110 (by decide) (fun q9 => ?_) (fun q9 => ?_)
          · replace h := (if_neg q9).symm.trans h
            refine i_iload_n S dX12_lawIs_122 rfl ?_
            refine i_iconst (v := 1) S dX12_lawIs_123 ic_1 ?_
            refine i_icmp_ne (tgt := 135) S dX12_lawIs_124 (by decide) (fun q10 => ?_) (fun q10 => ?_)
            · replace h := (if_neg q10).symm.trans h
              refine i_iload_n S dX12_lawIs_135 rfl ?_
              refine i_iconst (v := 2) S dX12_lawIs_136 ic_2 ?_
              refine i_icmp_ne (tgt := 144) S dX12_lawIs_137 (by decide) (fun q11 => ?_) (fun q11 => ?_)
              · replace h := (if_neg q11).symm.trans h
                refine i_iload S dX12_lawIs_144 rfl ?_
                refine i_ldcw S kc_X12_324 dX12_lawIs_146 ?_
                refine i_icmp_lt (tgt := 157) S dX12_lawIs_149 (by decide) (fun q12 => ?_) (fun q12 => ?_)
                · replace h := (if_pos q12).symm.trans h
                  refine i_iload S dX12_lawIs_157 rfl ?_
                  cases h
                  exact i_iret S0 rfl dX12_lawIs_159
                · replace h := (if_neg q12).symm.trans h
                  refine i_bipush (v := -2) S dX12_lawIs_152 bp_m2 ?_
                  refine i_goto (tgt := 159) S dX12_lawIs_154 (by decide) ?_
                  cases h
                  exact i_iret S0 rfl dX12_lawIs_159
              · replace h := (if_pos q11).symm.trans h
                refine i_iload_n S dX12_lawIs_140 rfl ?_
                refine i_goto (tgt := 159) S dX12_lawIs_141 (by decide) ?_
                cases h
                exact i_iret S0 rfl dX12_lawIs_159
            · replace h := (if_pos q10).symm.trans h
              refine i_aload_n S dX12_lawIs_127 rfl ?_
              refine i_iload_n S dX12_lawIs_128 rfl ?_
              obtain ⟨hL13, h⟩ := onLn h
              obtain ⟨p14, e14, h⟩ := bn h
              refine i_callV (As := [.int x1]) (st1 := [.int p14]) S (c_X12_lawLength g (d + 1) hL13 e14) mw_X12_lawLength lk_X12_467 im_X12_lawLength se_X12_lawLength ci_12.1 ci_12.2.1 (k47 hL13) dX12_lawIs_129 rfl rfl (Nat.le_of_ble_eq_true rfl) rfl ?_
              refine i_goto (tgt := 159) S dX12_lawIs_132 (by decide) ?_
              cases h
              exact i_iret S0 rfl dX12_lawIs_159
          · replace h := (if_pos q9).symm.trans h
            refine i_aload_n S dX12_lawIs_113 rfl ?_
            obtain ⟨hL15, h⟩ := onLn h
            refine i_getR S fl_X12_114 (k47 hL15) (r47_56 hL15) rfl dX12_lawIs_114 ?_
            refine i_iload_n S dX12_lawIs_117 rfl ?_
            refine i_ialdv (v := gI p8.2 80 (ix x1)) S (k80 hL15) hi3 rfl dX12_lawIs_118 ?_
            refine i_goto (tgt := 159) S dX12_lawIs_119 (by decide) ?_
            cases h
            exact i_iret S0 rfl dX12_lawIs_159
        exact wh_V (P := fun sv6 => V 40 [some (rf g 47), some (.int x1), some (.int x2), some (.int sv6.1), some (.int sv6.2)] [] w) (E := fun xv6 => V 93 [some (rf g 47), some (.int x1), some (.int x2), some (.int xv6), none] [] w) (fun sv6 ev hb hc he => t_l_X12_lawIs_40 (w := w)  S hL sv6 ev hb hc he) FUEL _ _ e6 hE6
      · replace h := (if_pos q5).symm.trans h
        refine i_iconst (v := -1) S dX12_lawIs_33 ic_m1 ?_
        cases h
        exact i_iret S0 rfl dX12_lawIs_34
