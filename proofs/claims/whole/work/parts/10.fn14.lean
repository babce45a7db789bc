/-! WordYearModel.lays -/
noncomputable def l_X12_lays_24 (x1 : Int32) (x2 : Int32) (s : Int32 × Mm) : Option ((Int32 × Mm) ⊕ (Mm)) := if (64 : Int32) ≤ s.1 then (some (.inr s.2)) else (onL s.2 (if inb (x2 + s.1) 65536 = true then (some (.inl (s.1 + (1 : Int32), sI s.2 72 (ix (x2 + s.1)) (1000000 : Int32)))) else none))
noncomputable def l_X12_lays_49 (x1 : Int32) (x2 : Int32) (s : Int32 × Mm) : Option ((Int32 × Mm) ⊕ (Mm)) := onL s.2 (if (gI s.2 47 2) ≤ s.1 then (some (.inr s.2)) else (Option.bind (if (f_X12_has x1 s.1) = 0 then (some s.2) else (if inb s.1 10 = true then (if (gI s.2 49 (ix s.1)) = 0 then (if inb (x2 + (gI s.2 50 (ix s.1))) 65536 = true then (if (gI s.2 72 (ix (x2 + (gI s.2 50 (ix s.1))))) ≤ (gI s.2 51 (ix s.1)) then (some s.2) else (some (sI s.2 72 (ix (x2 + (gI s.2 50 (ix s.1)))) (gI s.2 51 (ix s.1))))) else none) else (some s.2)) else none)) (fun p4 => some (.inl (s.1 + (1 : Int32), p4)))))
noncomputable def l_X12_lays_222 (x2 : Int32) (x3 : Int32) (x4 : Int32) (x5 : Int32) (x7 : Int32) (s : Int32 × Int32 × Mm) : Option ((Int32 × Int32 × Mm) ⊕ (Int32 × Mm)) := if x7 ≤ s.2.1 then (some (.inr (s.1, s.2.2))) else (onL s.2.2 (if inb (x2 + x7) 65536 = true then (if inb (x2 + s.2.1) 65536 = true then (Option.bind (if ((gI s.2.2 72 (ix (x2 + x7))) + (gI s.2.2 72 (ix (x2 + s.2.1)))) < (1000000 : Int32) then (Option.bind (f_X12_shortens x2 (x7 &&& s.2.1) (((gI s.2.2 72 (ix (x2 + x7))) + (gI s.2.2 72 (ix (x2 + s.2.1)))) + x4) s.2.2) (fun p9 => Option.bind (mg (if p9.1 = 0 then (if s.1 = 0 then (some (.inr (0 : Int32))) else (some (.inl ()))) else (some (.inl ()))) (fun p18 => some (1 : Int32))) (fun p11 => onL p9.2 (Option.bind (f_X12_shortens x2 (x7 ||| s.2.1) (((gI s.2.2 72 (ix (x2 + x7))) + (gI s.2.2 72 (ix (x2 + s.2.1)))) + x5) p9.2) (fun p13 => Option.bind (mg (if p13.1 = 0 then (if p11 = 0 then (some (.inr (0 : Int32))) else (some (.inl ()))) else (some (.inl ()))) (fun p16 => some (1 : Int32))) (fun p15 => some (p15, p13.2))))))) else (some (s.1, s.2.2))) (fun p8 => some (.inl (p8.1, s.2.1 + (1 : Int32), p8.2)))) else none) else none))
noncomputable def l_X12_lays_158 (x2 : Int32) (x3 : Int32) (x4 : Int32) (x5 : Int32) (s : Int32 × Int32 × Mm) : Option ((Int32 × Int32 × Mm) ⊕ (Int32 × Mm)) := if (64 : Int32) ≤ s.2.1 then (some (.inr (s.1, s.2.2))) else (onL s.2.2 (if inb (x2 + s.2.1) 65536 = true then (Option.bind (if (gI s.2.2 72 (ix (x2 + s.2.1))) < (1000000 : Int32) then (Option.bind (f_X12_shortens x2 ((63 : Int32) ^^^ s.2.1) ((gI s.2.2 72 (ix (x2 + s.2.1))) + x3) s.2.2) (fun p8 => Option.bind (mg (if p8.1 = 0 then (if s.1 = 0 then (some (.inr (0 : Int32))) else (some (.inl ()))) else (some (.inl ()))) (fun p12 => some (1 : Int32))) (fun p10 => Option.bind (wh (l_X12_lays_222 x2 x3 x4 x5 s.2.1) FUEL (p10, (0 : Int32), p8.2)) (fun p11 => some (p11.1, p11.2))))) else (some (s.1, s.2.2))) (fun p6 => some (.inl (p6.1, s.2.1 + (1 : Int32), p6.2)))) else none))
noncomputable def l_X12_lays_147 (x2 : Int32) (x3 : Int32) (x4 : Int32) (x5 : Int32) (s : Int32 × Mm) : Option ((Int32 × Mm) ⊕ (Mm)) := if s.1 = 0 then (some (.inr s.2)) else (Option.bind (wh (l_X12_lays_158 x2 x3 x4 x5) FUEL ((0 : Int32), (0 : Int32), s.2)) (fun p2 => some (.inl (p2.1, p2.2))))
noncomputable def f_X12_lays (x1 : Int32) (w : Mm) : Option Mm := if inb x1 1024 = true then (if (gI w 71 (ix x1)) = 0 then (Option.bind (wh (l_X12_lays_24 x1 ((64 : Int32) * x1)) FUEL ((0 : Int32), sI w 71 (ix x1) (vp_nar .boolean (1 : Int32)))) (fun p5 => Option.bind (wh (l_X12_lays_49 x1 ((64 : Int32) * x1)) FUEL ((0 : Int32), p5)) (fun p6 => onL p6 (Option.bind (f_X12_joinOf x1 (1 : Int32) p6) (fun p8 => Option.bind (f_X12_joinOf x1 (2 : Int32) p6) (fun p9 => Option.bind (f_X12_joinOf x1 (3 : Int32) p6) (fun p10 => Option.bind (wh (l_X12_lays_147 ((64 : Int32) * x1) p8 p9 p10) FUEL ((1 : Int32), p6)) (fun p11 => some p11)))))))) else (some w)) else none
set_option maxHeartbeats 4000000 in
set_option maxRecDepth 100000 in
theorem t_l_X12_lays_24 {g : Gx} {V : Vt} {d : Nat} (S : MachB g yX12_lays cX12_lays 10 (d + 3) V) {x1 : Int32} {x2 : Int32}  (s : Int32 × Mm) (e : (Int32 × Mm) ⊕ (Mm)) (h : l_X12_lays_24 x1 x2 s = some e) (hC : ∀ s2, e = .inl s2 → V 24 [some (rf g 47), some (.int x1), some (.int x2), some (.int s2.1), none, none, none, none, none, none] [] s2.2) (hE : ∀ x, e = .inr x → V 47 [some (rf g 47), some (.int x1), some (.int x2), none, none, none, none, none, none, none] [] x) : V 24 [some (rf g 47), some (.int x1), some (.int x2), some (.int s.1), none, none, none, none, none, none] [] s.2 := by
  unfold l_X12_lays_24 at h
  refine i_iload_n S dX12_lays_24 rfl ?_
  refine i_bipush (v := 64) S dX12_lays_25 bp_64 ?_
  refine i_icmp_ge (tgt := 47) S dX12_lays_27 (by decide) (fun q1 => ?_) (fun q1 => ?_)
  · replace h := (if_pos q1).symm.trans h
    refine i_mask (L1 := [some (rf g 47), some (.int x1), some (.int x2), none, none, none, none, none, none, none]) S [true, true, true, false, false, false, false, false, false, false] rfl ?_
    have hz := hE _ (Option.some.inj h).symm
    exact hz
  · replace h := (if_neg q1).symm.trans h
    refine i_aload_n S dX12_lays_30 rfl ?_
    obtain ⟨hL2, h⟩ := onLn h
    refine i_getR S fl_X12_89 (k47 hL2) (r47_44 hL2) rfl dX12_lays_31 ?_
    refine i_iload_n S dX12_lays_34 rfl ?_
    refine i_iload_n S dX12_lays_35 rfl ?_
    refine i_iadd S dX12_lays_36 ?_
    refine i_ldcw S kc_X12_324 dX12_lays_37 ?_
    obtain ⟨hi4, h⟩ := gd h
    refine i_iast S (k72 hL2) hi4 dX12_lays_40 ?_
    refine i_iinc (L1 := [some (rf g 47), some (.int x1), some (.int x2), some (.int (s.1 + (1 : Int32))), none, none, none, none, none, none]) S dX12_lays_41 rfl ic_1 (by decide) rfl ?_
    refine i_goto (tgt := 24) S dX12_lays_44 (by decide) ?_
    have hz := hC _ (Option.some.inj h).symm
    exact hz
set_option maxHeartbeats 4000000 in
set_option maxRecDepth 100000 in
theorem t_l_X12_lays_49 {g : Gx} {V : Vt} {d : Nat} (S : MachB g yX12_lays cX12_lays 10 (d + 3) V) {x1 : Int32} {x2 : Int32}  (s : Int32 × Mm) (e : (Int32 × Mm) ⊕ (Mm)) (h : l_X12_lays_49 x1 x2 s = some e) (hC : ∀ s2, e = .inl s2 → V 49 [some (rf g 47), some (.int x1), some (.int x2), some (.int s2.1), none, none, none, none, none, none] [] s2.2) (hE : ∀ x, e = .inr x → V 121 [some (rf g 47), some (.int x1), some (.int x2), none, none, none, none, none, none, none] [] x) : V 49 [some (rf g 47), some (.int x1), some (.int x2), some (.int s.1), none, none, none, none, none, none] [] s.2 := by
  unfold l_X12_lays_49 at h
  refine i_iload_n S dX12_lays_49 rfl ?_
  refine i_aload_n S dX12_lays_50 rfl ?_
  obtain ⟨hL1, h⟩ := onLn h
  refine i_getIv (v := gI s.2 47 2) S fl_X12_135 (k47 hL1) rfl rfl dX12_lays_51 ?_
  refine i_icmp_ge (tgt := 121) S dX12_lays_54 (by decide) (fun q2 => ?_) (fun q2 => ?_)
  · replace h := (if_pos q2).symm.trans h
    refine i_mask (L1 := [some (rf g 47), some (.int x1), some (.int x2), none, none, none, none, none, none, none]) S [true, true, true, false, false, false, false, false, false, false] rfl ?_
    have hz := hE _ (Option.some.inj h).symm
    exact hz
  · replace h := (if_neg q2).symm.trans h
    refine i_iload_n S dX12_lays_57 rfl ?_
    refine i_iload_n S dX12_lays_58 rfl ?_
    refine i_callS (As := [.int x1, .int s.1]) (st1 := [.int (f_X12_has x1 s.1)]) S (c_X12_has g (d + 2) rfl) mw_X12_has lk_X12_149 im_X12_has dX12_lays_59 rfl rfl (Nat.le_of_ble_eq_true rfl) rfl ?_
    obtain ⟨p4, e4, h⟩ := bn h
    have hj4 : ∀ q4, p4 = q4 → V 115 [some (rf g 47), some (.int x1), some (.int x2), some (.int s.1), none, none, none, none, none, none] [] q4 := by
      intro q4 hq4
      subst hq4
      refine i_iinc (L1 := [some (rf g 47), some (.int x1), some (.int x2), some (.int (s.1 + (1 : Int32))), none, none, none, none, none, none]) S dX12_lays_115 rfl ic_1 (by decide) rfl ?_
      refine i_goto (tgt := 49) S dX12_lays_118 (by decide) ?_
      have hz := hC _ (Option.some.inj h).symm
      exact hz
    replace h := e4
    clear e4
    refine i_if_eq (tgt := 115) S dX12_lays_62 (by decide) (fun q3 => ?_) (fun q3 => ?_)
    · replace h := (if_pos q3).symm.trans h
      have hz := hj4 _ (Option.some.inj h).symm
      exact hz
    · replace h := (if_neg q3).symm.trans h
      refine i_aload_n S dX12_lays_65 rfl ?_
      refine i_getR S fl_X12_17 (k47 hL1) (r47_8 hL1) rfl dX12_lays_66 ?_
      refine i_iload_n S dX12_lays_69 rfl ?_
      obtain ⟨hi6, h⟩ := gd h
      refine i_ialdv (v := gI s.2 49 (ix s.1)) S (k49 hL1) hi6 rfl dX12_lays_70 ?_
      refine i_if_ne (tgt := 115) S dX12_lays_71 (by decide) (fun q7 => ?_) (fun q7 => ?_)
      · replace h := (if_neg q7).symm.trans h
        have hz := hj4 _ (Option.some.inj h).symm
        exact hz
      · replace h := (if_pos q7).symm.trans h
        refine i_aload_n S dX12_lays_74 rfl ?_
        refine i_getR S fl_X12_24 (k47 hL1) (r47_10 hL1) rfl dX12_lays_75 ?_
        refine i_iload_n S dX12_lays_78 rfl ?_
        refine i_ialdv (v := gI s.2 51 (ix s.1)) S (k51 hL1) hi6 rfl dX12_lays_79 ?_
        refine i_aload_n S dX12_lays_80 rfl ?_
        refine i_getR S fl_X12_89 (k47 hL1) (r47_44 hL1) rfl dX12_lays_81 ?_
        refine i_iload_n S dX12_lays_84 rfl ?_
        refine i_aload_n S dX12_lays_85 rfl ?_
        refine i_getR S fl_X12_21 (k47 hL1) (r47_9 hL1) rfl dX12_lays_86 ?_
        refine i_iload_n S dX12_lays_89 rfl ?_
        refine i_ialdv (v := gI s.2 50 (ix s.1)) S (k50 hL1) hi6 rfl dX12_lays_90 ?_
        refine i_iadd S dX12_lays_91 ?_
        obtain ⟨hi11, h⟩ := gd h
        refine i_ialdv (v := gI s.2 72 (ix (x2 + (gI s.2 50 (ix s.1))))) S (k72 hL1) hi11 rfl dX12_lays_92 ?_
        refine i_icmp_ge (tgt := 115) S dX12_lays_93 (by decide) (fun q12 => ?_) (fun q12 => ?_)
        · replace h := (if_pos q12).symm.trans h
          have hz := hj4 _ (Option.some.inj h).symm
          exact hz
        · replace h := (if_neg q12).symm.trans h
          refine i_aload_n S dX12_lays_96 rfl ?_
          refine i_getR S fl_X12_89 (k47 hL1) (r47_44 hL1) rfl dX12_lays_97 ?_
          refine i_iload_n S dX12_lays_100 rfl ?_
          refine i_aload_n S dX12_lays_101 rfl ?_
          refine i_getR S fl_X12_21 (k47 hL1) (r47_9 hL1) rfl dX12_lays_102 ?_
          refine i_iload_n S dX12_lays_105 rfl ?_
          refine i_ialdv (v := gI s.2 50 (ix s.1)) S (k50 hL1) hi6 rfl dX12_lays_106 ?_
          refine i_iadd S dX12_lays_107 ?_
          refine i_aload_n S dX12_lays_108 rfl ?_
          refine i_getR S fl_X12_24 (k47 hL1) (r47_10 hL1) rfl dX12_lays_109 ?_
          refine i_iload_n S dX12_lays_112 rfl ?_
          refine i_ialdv (v := gI s.2 51 (ix s.1)) S (k51 hL1) hi6 rfl dX12_lays_113 ?_
          refine i_iast S (k72 hL1) hi11 dX12_lays_114 ?_
          have hz := hj4 _ (Option.some.inj h).symm
          exact hz
set_option maxHeartbeats 4000000 in
set_option maxRecDepth 100000 in
theorem t_l_X12_lays_222 {g : Gx} {V : Vt} {d : Nat} (S : MachB g yX12_lays cX12_lays 10 (d + 3) V) {x2 : Int32} {x3 : Int32} {x4 : Int32} {x5 : Int32} {x7 : Int32}  (s : Int32 × Int32 × Mm) (e : (Int32 × Int32 × Mm) ⊕ (Int32 × Mm)) (h : l_X12_lays_222 x2 x3 x4 x5 x7 s = some e) (hC : ∀ s2, e = .inl s2 → V 222 [some (rf g 47), none, some (.int x2), some (.int x3), some (.int x4), some (.int x5), some (.int s2.1), some (.int x7), some (.int s2.2.1), none] [] s2.2.2) (hE : ∀ x, e = .inr x → V 327 [some (rf g 47), none, some (.int x2), some (.int x3), some (.int x4), some (.int x5), some (.int x.1), some (.int x7), none, none] [] x.2) : V 222 [some (rf g 47), none, some (.int x2), some (.int x3), some (.int x4), some (.int x5), some (.int s.1), some (.int x7), some (.int s.2.1), none] [] s.2.2 := by
  unfold l_X12_lays_222 at h
  refine i_iload S dX12_lays_222 rfl ?_
  refine i_iload S dX12_lays_224 rfl ?_
  refine i_icmp_ge (tgt := 327) S dX12_lays_226 (by decide) (fun q1 => ?_) (fun q1 => ?_)
  · replace h := (if_pos q1).symm.trans h
    refine i_mask (L1 := [some (rf g 47), none, some (.int x2), some (.int x3), some (.int x4), some (.int x5), some (.int s.1), some (.int x7), none, none]) S [true, false, true, true, true, true, true, true, false, false] rfl ?_
    have hz := hE _ (Option.some.inj h).symm
    exact hz
  · replace h := (if_neg q1).symm.trans h
    refine i_aload_n S dX12_lays_229 rfl ?_
    obtain ⟨hL2, h⟩ := onLn h
    refine i_getR S fl_X12_89 (k47 hL2) (r47_44 hL2) rfl dX12_lays_230 ?_
    refine i_iload_n S dX12_lays_233 rfl ?_
    refine i_iload S dX12_lays_234 rfl ?_
    refine i_iadd S dX12_lays_236 ?_
    obtain ⟨hi4, h⟩ := gd h
    refine i_ialdv (v := gI s.2.2 72 (ix (x2 + x7))) S (k72 hL2) hi4 rfl dX12_lays_237 ?_
    refine i_aload_n S dX12_lays_238 rfl ?_
    refine i_getR S fl_X12_89 (k47 hL2) (r47_44 hL2) rfl dX12_lays_239 ?_
    refine i_iload_n S dX12_lays_242 rfl ?_
    refine i_iload S dX12_lays_243 rfl ?_
    refine i_iadd S dX12_lays_245 ?_
    obtain ⟨hi6, h⟩ := gd h
    refine i_ialdv (v := gI s.2.2 72 (ix (x2 + s.2.1))) S (k72 hL2) hi6 rfl dX12_lays_246 ?_
    refine i_iadd S dX12_lays_247 ?_
    refine i_istore (L1 := [some (rf g 47), none, some (.int x2), some (.int x3), some (.int x4), some (.int x5), some (.int s.1), some (.int x7), some (.int s.2.1), some (.int ((gI s.2.2 72 (ix (x2 + x7))) + (gI s.2.2 72 (ix (x2 + s.2.1)))))]) S dX12_lays_248 (by decide) rfl ?_
    refine i_iload S dX12_lays_250 rfl ?_
    refine i_ldcw S kc_X12_324 dX12_lays_252 ?_
    obtain ⟨p8, e8, h⟩ := bn h
    have hj8 : ∀ q8, p8 = q8 → V 321 [some (rf g 47), none, some (.int x2), some (.int x3), some (.int x4), some (.int x5), some (.int q8.1), some (.int x7), some (.int s.2.1), none] [] q8.2 := by
      intro q8 hq8
      subst hq8
      refine i_iinc (L1 := [some (rf g 47), none, some (.int x2), some (.int x3), some (.int x4), some (.int x5), some (.int p8.1), some (.int x7), some (.int (s.2.1 + (1 : Int32))), none]) S dX12_lays_321 rfl ic_1 (by decide) rfl ?_
      refine i_goto (tgt := 222) S dX12_lays_324 (by decide) ?_
      have hz := hC _ (Option.some.inj h).symm
      exact hz
    replace h := e8
    clear e8
    refine i_icmp_lt (tgt := 261) S dX12_lays_255 (by decide) (fun q7 => ?_) (fun q7 => ?_)
    · replace h := (if_pos q7).symm.trans h
      refine i_aload_n S dX12_lays_261 rfl ?_
      refine i_iload_n S dX12_lays_262 rfl ?_
      refine i_iload S dX12_lays_263 rfl ?_
      refine i_iload S dX12_lays_265 rfl ?_
      refine i_iand S dX12_lays_267 ?_
      refine i_iload S dX12_lays_268 rfl ?_
      refine i_iload S dX12_lays_270 rfl ?_
      refine i_iadd S dX12_lays_272 ?_
      obtain ⟨p9, e9, h⟩ := bn h
      refine i_callV (As := [.int x2, .int (x7 &&& s.2.1), .int (((gI s.2.2 72 (ix (x2 + x7))) + (gI s.2.2 72 (ix (x2 + s.2.1)))) + x4)]) (st1 := [.int p9.1]) S (c_X12_shortens g (d + 2) hL2 e9) mw_X12_shortens lk_X12_328 im_X12_shortens se_X12_shortens ci_12.1 ci_12.2.1 (k47 hL2) dX12_lays_273 rfl rfl (Nat.le_of_ble_eq_true rfl) rfl ?_
      obtain ⟨p11, e11, h⟩ := bn h
      have hj11 : ∀ q11, p11 = q11 → V 289 [some (rf g 47), none, some (.int x2), some (.int x3), some (.int x4), some (.int x5), none, some (.int x7), some (.int s.2.1), some (.int ((gI s.2.2 72 (ix (x2 + x7))) + (gI s.2.2 72 (ix (x2 + s.2.1)))))] [.int q11] p9.2 := by
        intro q11 hq11
        subst hq11
        refine i_istore (L1 := [some (rf g 47), none, some (.int x2), some (.int x3), some (.int x4), some (.int x5), some (.int p11), some (.int x7), some (.int s.2.1), some (.int ((gI s.2.2 72 (ix (x2 + x7))) + (gI s.2.2 72 (ix (x2 + s.2.1)))))]) S dX12_lays_289 (by decide) rfl ?_
        refine i_aload_n S dX12_lays_291 rfl ?_
        refine i_iload_n S dX12_lays_292 rfl ?_
        refine i_iload S dX12_lays_293 rfl ?_
        refine i_iload S dX12_lays_295 rfl ?_
        refine i_ior S dX12_lays_297 ?_
        refine i_iload S dX12_lays_298 rfl ?_
        refine i_iload S dX12_lays_300 rfl ?_
        refine i_iadd S dX12_lays_302 ?_
        obtain ⟨hL12, h⟩ := onLn h
        obtain ⟨p13, e13, h⟩ := bn h
        refine i_callV (As := [.int x2, .int (x7 ||| s.2.1), .int (((gI s.2.2 72 (ix (x2 + x7))) + (gI s.2.2 72 (ix (x2 + s.2.1)))) + x5)]) (st1 := [.int p13.1]) S (c_X12_shortens g (d + 2) hL12 e13) mw_X12_shortens lk_X12_328 im_X12_shortens se_X12_shortens ci_12.1 ci_12.2.1 (k47 hL12) dX12_lays_303 rfl rfl (Nat.le_of_ble_eq_true rfl) rfl ?_
        obtain ⟨p15, e15, h⟩ := bn h
        have hj15 : ∀ q15, p15 = q15 → V 319 [some (rf g 47), none, some (.int x2), some (.int x3), some (.int x4), some (.int x5), none, some (.int x7), some (.int s.2.1), none] [.int q15] p13.2 := by
          intro q15 hq15
          subst hq15
          refine i_istore (L1 := [some (rf g 47), none, some (.int x2), some (.int x3), some (.int x4), some (.int x5), some (.int p15), some (.int x7), some (.int s.2.1), none]) S dX12_lays_319 (by decide) rfl ?_
          have hz := hj8 _ (Option.some.inj h).symm
          exact hz
        replace h := e15
        clear e15
        obtain ⟨s16, e16, hm16, ho16⟩ := mgn h
        have hj16 : ∀ p16, s16 = .inl p16 → V 314 [some (rf g 47), none, some (.int x2), some (.int x3), some (.int x4), some (.int x5), none, some (.int x7), some (.int s.2.1), none] [] p13.2 := by
          intro p16 ep16
          have h := hm16 p16 ep16
          refine i_iconst (v := 1) S dX12_lays_314 ic_1 ?_
          refine i_goto (tgt := 319) S dX12_lays_315 (by decide) ?_
          have hz := hj15 _ (Option.some.inj h).symm
          exact hz
        replace h := e16
        clear e16
        refine i_if_ne (tgt := 314) S dX12_lays_306 (by decide) (fun q14 => ?_) (fun q14 => ?_)
        · replace h := (if_neg q14).symm.trans h
          refine i_mask (L1 := [some (rf g 47), none, some (.int x2), some (.int x3), some (.int x4), some (.int x5), none, some (.int x7), some (.int s.2.1), none]) S [true, false, true, true, true, true, false, true, true, false] rfl ?_
          have hz := hj16 _ (Option.some.inj h).symm
          exact hz
        · replace h := (if_pos q14).symm.trans h
          refine i_iload S dX12_lays_309 rfl ?_
          refine i_if_eq (tgt := 318) S dX12_lays_311 (by decide) (fun q17 => ?_) (fun q17 => ?_)
          · replace h := (if_pos q17).symm.trans h
            refine i_iconst (v := 0) S dX12_lays_318 ic_0 ?_
            replace h := ho16 _ (Option.some.inj h).symm
            refine i_mask (L1 := [some (rf g 47), none, some (.int x2), some (.int x3), some (.int x4), some (.int x5), none, some (.int x7), some (.int s.2.1), none]) S [true, false, true, true, true, true, false, true, true, false] rfl ?_
            have hz := hj15 _ (Option.some.inj h).symm
            exact hz
          · replace h := (if_neg q17).symm.trans h
            refine i_mask (L1 := [some (rf g 47), none, some (.int x2), some (.int x3), some (.int x4), some (.int x5), none, some (.int x7), some (.int s.2.1), none]) S [true, false, true, true, true, true, false, true, true, false] rfl ?_
            have hz := hj16 _ (Option.some.inj h).symm
            exact hz
      replace h := e11
      clear e11
      obtain ⟨s18, e18, hm18, ho18⟩ := mgn h
      have hj18 : ∀ p18, s18 = .inl p18 → V 284 [some (rf g 47), none, some (.int x2), some (.int x3), some (.int x4), some (.int x5), none, some (.int x7), some (.int s.2.1), some (.int ((gI s.2.2 72 (ix (x2 + x7))) + (gI s.2.2 72 (ix (x2 + s.2.1)))))] [] p9.2 := by
        intro p18 ep18
        have h := hm18 p18 ep18
        refine i_iconst (v := 1) S dX12_lays_284 ic_1 ?_
        refine i_goto (tgt := 289) S dX12_lays_285 (by decide) ?_
        have hz := hj11 _ (Option.some.inj h).symm
        exact hz
      replace h := e18
      clear e18
      refine i_if_ne (tgt := 284) S dX12_lays_276 (by decide) (fun q10 => ?_) (fun q10 => ?_)
      · replace h := (if_neg q10).symm.trans h
        refine i_mask (L1 := [some (rf g 47), none, some (.int x2), some (.int x3), some (.int x4), some (.int x5), none, some (.int x7), some (.int s.2.1), some (.int ((gI s.2.2 72 (ix (x2 + x7))) + (gI s.2.2 72 (ix (x2 + s.2.1)))))]) S [true, false, true, true, true, true, false, true, true, true] rfl ?_
        have hz := hj18 _ (Option.some.inj h).symm
        exact hz
      · replace h := (if_pos q10).symm.trans h
        refine i_iload S dX12_lays_279 rfl ?_
        refine i_if_eq (tgt := 288) S dX12_lays_281 (by decide) (fun q19 => ?_) (fun q19 => ?_)
        · replace h := (if_pos q19).symm.trans h
          refine i_iconst (v := 0) S dX12_lays_288 ic_0 ?_
          replace h := ho18 _ (Option.some.inj h).symm
          refine i_mask (L1 := [some (rf g 47), none, some (.int x2), some (.int x3), some (.int x4), some (.int x5), none, some (.int x7), some (.int s.2.1), some (.int ((gI s.2.2 72 (ix (x2 + x7))) + (gI s.2.2 72 (ix (x2 + s.2.1)))))]) S [true, false, true, true, true, true, false, true, true, true] rfl ?_
          have hz := hj11 _ (Option.some.inj h).symm
          exact hz
        · replace h := (if_neg q19).symm.trans h
          refine i_mask (L1 := [some (rf g 47), none, some (.int x2), some (.int x3), some (.int x4), some (.int x5), none, some (.int x7), some (.int s.2.1), some (.int ((gI s.2.2 72 (ix (x2 + x7))) + (gI s.2.2 72 (ix (x2 + s.2.1)))))]) S [true, false, true, true, true, true, false, true, true, true] rfl ?_
          have hz := hj18 _ (Option.some.inj h).symm
          exact hz
    · replace h := (if_neg q7).symm.trans h
      refine i_goto (tgt := 321) S dX12_lays_258 (by decide) ?_
      refine i_mask (L1 := [some (rf g 47), none, some (.int x2), some (.int x3), some (.int x4), some (.int x5), some (.int s.1), some (.int x7), some (.int s.2.1), none]) S [true, false, true, true, true, true, true, true, true, false] rfl ?_
      have hz := hj8 _ (Option.some.inj h).symm
      exact hz
set_option maxHeartbeats 4000000 in
set_option maxRecDepth 100000 in
theorem t_l_X12_lays_158 {g : Gx} {V : Vt} {d : Nat} (S : MachB g yX12_lays cX12_lays 10 (d + 3) V) {x2 : Int32} {x3 : Int32} {x4 : Int32} {x5 : Int32}  (s : Int32 × Int32 × Mm) (e : (Int32 × Int32 × Mm) ⊕ (Int32 × Mm)) (h : l_X12_lays_158 x2 x3 x4 x5 s = some e) (hC : ∀ s2, e = .inl s2 → V 158 [some (rf g 47), none, some (.int x2), some (.int x3), some (.int x4), some (.int x5), some (.int s2.1), some (.int s2.2.1), none, none] [] s2.2.2) (hE : ∀ x, e = .inr x → V 333 [some (rf g 47), none, some (.int x2), some (.int x3), some (.int x4), some (.int x5), some (.int x.1), none, none, none] [] x.2) : V 158 [some (rf g 47), none, some (.int x2), some (.int x3), some (.int x4), some (.int x5), some (.int s.1), some (.int s.2.1), none, none] [] s.2.2 := by
  unfold l_X12_lays_158 at h
  refine i_iload S dX12_lays_158 rfl ?_
  refine i_bipush (v := 64) S dX12_lays_160 bp_64 ?_
  refine i_icmp_ge (tgt := 333) S dX12_lays_162 (by decide) (fun q1 => ?_) (fun q1 => ?_)
  · replace h := (if_pos q1).symm.trans h
    refine i_mask (L1 := [some (rf g 47), none, some (.int x2), some (.int x3), some (.int x4), some (.int x5), some (.int s.1), none, none, none]) S [true, false, true, true, true, true, true, false, false, false] rfl ?_
    have hz := hE _ (Option.some.inj h).symm
    exact hz
  · replace h := (if_neg q1).symm.trans h
    refine i_aload_n S dX12_lays_165 rfl ?_
    obtain ⟨hL2, h⟩ := onLn h
    refine i_getR S fl_X12_89 (k47 hL2) (r47_44 hL2) rfl dX12_lays_166 ?_
    refine i_iload_n S dX12_lays_169 rfl ?_
    refine i_iload S dX12_lays_170 rfl ?_
    refine i_iadd S dX12_lays_172 ?_
    obtain ⟨hi4, h⟩ := gd h
    refine i_ialdv (v := gI s.2.2 72 (ix (x2 + s.2.1))) S (k72 hL2) hi4 rfl dX12_lays_173 ?_
    refine i_ldcw S kc_X12_324 dX12_lays_174 ?_
    obtain ⟨p6, e6, h⟩ := bn h
    have hj6 : ∀ q6, p6 = q6 → V 327 [some (rf g 47), none, some (.int x2), some (.int x3), some (.int x4), some (.int x5), some (.int q6.1), some (.int s.2.1), none, none] [] q6.2 := by
      intro q6 hq6
      subst hq6
      refine i_iinc (L1 := [some (rf g 47), none, some (.int x2), some (.int x3), some (.int x4), some (.int x5), some (.int p6.1), some (.int (s.2.1 + (1 : Int32))), none, none]) S dX12_lays_327 rfl ic_1 (by decide) rfl ?_
      refine i_goto (tgt := 158) S dX12_lays_330 (by decide) ?_
      have hz := hC _ (Option.some.inj h).symm
      exact hz
    replace h := e6
    clear e6
    refine i_icmp_lt (tgt := 183) S dX12_lays_177 (by decide) (fun q5 => ?_) (fun q5 => ?_)
    · replace h := (if_pos q5).symm.trans h
      refine i_aload_n S dX12_lays_183 rfl ?_
      refine i_iload_n S dX12_lays_184 rfl ?_
      refine i_bipush (v := 63) S dX12_lays_185 bp_63 ?_
      refine i_iload S dX12_lays_187 rfl ?_
      refine i_ixor S dX12_lays_189 ?_
      refine i_aload_n S dX12_lays_190 rfl ?_
      refine i_getR S fl_X12_89 (k47 hL2) (r47_44 hL2) rfl dX12_lays_191 ?_
      refine i_iload_n S dX12_lays_194 rfl ?_
      refine i_iload S dX12_lays_195 rfl ?_
      refine i_iadd S dX12_lays_197 ?_
      refine i_ialdv (v := gI s.2.2 72 (ix (x2 + s.2.1))) S (k72 hL2) hi4 rfl dX12_lays_198 ?_
      refine i_iload_n S dX12_lays_199 rfl ?_
      refine i_iadd S dX12_lays_200 ?_
      obtain ⟨p8, e8, h⟩ := bn h
      refine i_callV (As := [.int x2, .int ((63 : Int32) ^^^ s.2.1), .int ((gI s.2.2 72 (ix (x2 + s.2.1))) + x3)]) (st1 := [.int p8.1]) S (c_X12_shortens g (d + 2) hL2 e8) mw_X12_shortens lk_X12_328 im_X12_shortens se_X12_shortens ci_12.1 ci_12.2.1 (k47 hL2) dX12_lays_201 rfl rfl (Nat.le_of_ble_eq_true rfl) rfl ?_
      obtain ⟨p10, e10, h⟩ := bn h
      have hj10 : ∀ q10, p10 = q10 → V 217 [some (rf g 47), none, some (.int x2), some (.int x3), some (.int x4), some (.int x5), none, some (.int s.2.1), none, none] [.int q10] p8.2 := by
        intro q10 hq10
        subst hq10
        refine i_istore (L1 := [some (rf g 47), none, some (.int x2), some (.int x3), some (.int x4), some (.int x5), some (.int p10), some (.int s.2.1), none, none]) S dX12_lays_217 (by decide) rfl ?_
        refine i_iconst (v := 0) S dX12_lays_219 ic_0 ?_
        refine i_istore (L1 := [some (rf g 47), none, some (.int x2), some (.int x3), some (.int x4), some (.int x5), some (.int p10), some (.int s.2.1), some (.int ((0 : Int32))), none]) S dX12_lays_220 (by decide) rfl ?_
        obtain ⟨p11, e11, h⟩ := bn h
        have hE11 : V 327 [some (rf g 47), none, some (.int x2), some (.int x3), some (.int x4), some (.int x5), some (.int p11.1), some (.int s.2.1), none, none] [] p11.2 := by
          have hz := hj6 _ (Option.some.inj h).symm
          exact hz
        exact wh_V (P := fun sv11 => V 222 [some (rf g 47), none, some (.int x2), some (.int x3), some (.int x4), some (.int x5), some (.int sv11.1), some (.int s.2.1), some (.int sv11.2.1), none] [] sv11.2.2) (E := fun xv11 => V 327 [some (rf g 47), none, some (.int x2), some (.int x3), some (.int x4), some (.int x5), some (.int xv11.1), some (.int s.2.1), none, none] [] xv11.2) (fun sv11 ev hb hc he => t_l_X12_lays_222   S  sv11 ev hb hc he) FUEL _ _ e11 hE11
      replace h := e10
      clear e10
      obtain ⟨s12, e12, hm12, ho12⟩ := mgn h
      have hj12 : ∀ p12, s12 = .inl p12 → V 212 [some (rf g 47), none, some (.int x2), some (.int x3), some (.int x4), some (.int x5), none, some (.int s.2.1), none, none] [] p8.2 := by
        intro p12 ep12
        have h := hm12 p12 ep12
        refine i_iconst (v := 1) S dX12_lays_212 ic_1 ?_
        refine i_goto (tgt := 217) S dX12_lays_213 (by decide) ?_
        have hz := hj10 _ (Option.some.inj h).symm
        exact hz
      replace h := e12
      clear e12
      refine i_if_ne (tgt := 212) S dX12_lays_204 (by decide) (fun q9 => ?_) (fun q9 => ?_)
      · replace h := (if_neg q9).symm.trans h
        refine i_mask (L1 := [some (rf g 47), none, some (.int x2), some (.int x3), some (.int x4), some (.int x5), none, some (.int s.2.1), none, none]) S [true, false, true, true, true, true, false, true, false, false] rfl ?_
        have hz := hj12 _ (Option.some.inj h).symm
        exact hz
      · replace h := (if_pos q9).symm.trans h
        refine i_iload S dX12_lays_207 rfl ?_
        refine i_if_eq (tgt := 216) S dX12_lays_209 (by decide) (fun q13 => ?_) (fun q13 => ?_)
        · replace h := (if_pos q13).symm.trans h
          refine i_iconst (v := 0) S dX12_lays_216 ic_0 ?_
          replace h := ho12 _ (Option.some.inj h).symm
          refine i_mask (L1 := [some (rf g 47), none, some (.int x2), some (.int x3), some (.int x4), some (.int x5), none, some (.int s.2.1), none, none]) S [true, false, true, true, true, true, false, true, false, false] rfl ?_
          have hz := hj10 _ (Option.some.inj h).symm
          exact hz
        · replace h := (if_neg q13).symm.trans h
          refine i_mask (L1 := [some (rf g 47), none, some (.int x2), some (.int x3), some (.int x4), some (.int x5), none, some (.int s.2.1), none, none]) S [true, false, true, true, true, true, false, true, false, false] rfl ?_
          have hz := hj12 _ (Option.some.inj h).symm
          exact hz
    · replace h := (if_neg q5).symm.trans h
      refine i_goto (tgt := 327) S dX12_lays_180 (by decide) ?_
      have hz := hj6 _ (Option.some.inj h).symm
      exact hz
set_option maxHeartbeats 4000000 in
set_option maxRecDepth 100000 in
theorem t_l_X12_lays_147 {g : Gx} {V : Vt} {d : Nat} (S : MachB g yX12_lays cX12_lays 10 (d + 3) V) {x2 : Int32} {x3 : Int32} {x4 : Int32} {x5 : Int32}  (s : Int32 × Mm) (e : (Int32 × Mm) ⊕ (Mm)) (h : l_X12_lays_147 x2 x3 x4 x5 s = some e) (hC : ∀ s2, e = .inl s2 → V 147 [some (rf g 47), none, some (.int x2), some (.int x3), some (.int x4), some (.int x5), some (.int s2.1), none, none, none] [] s2.2) (hE : ∀ x, e = .inr x → V 336 [none, none, none, none, none, none, none, none, none, none] [] x) : V 147 [some (rf g 47), none, some (.int x2), some (.int x3), some (.int x4), some (.int x5), some (.int s.1), none, none, none] [] s.2 := by
  unfold l_X12_lays_147 at h
  refine i_iload S dX12_lays_147 rfl ?_
  refine i_if_eq (tgt := 336) S dX12_lays_149 (by decide) (fun q1 => ?_) (fun q1 => ?_)
  · replace h := (if_pos q1).symm.trans h
    refine i_mask (L1 := [none, none, none, none, none, none, none, none, none, none]) S [false, false, false, false, false, false, false, false, false, false] rfl ?_
    have hz := hE _ (Option.some.inj h).symm
    exact hz
  · replace h := (if_neg q1).symm.trans h
    refine i_iconst (v := 0) S dX12_lays_152 ic_0 ?_
    refine i_istore (L1 := [some (rf g 47), none, some (.int x2), some (.int x3), some (.int x4), some (.int x5), some (.int ((0 : Int32))), none, none, none]) S dX12_lays_153 (by decide) rfl ?_
    refine i_iconst (v := 0) S dX12_lays_155 ic_0 ?_
    refine i_istore (L1 := [some (rf g 47), none, some (.int x2), some (.int x3), some (.int x4), some (.int x5), some (.int ((0 : Int32))), some (.int ((0 : Int32))), none, none]) S dX12_lays_156 (by decide) rfl ?_
    obtain ⟨p2, e2, h⟩ := bn h
    have hE2 : V 333 [some (rf g 47), none, some (.int x2), some (.int x3), some (.int x4), some (.int x5), some (.int p2.1), none, none, none] [] p2.2 := by
      refine i_goto (tgt := 147) S dX12_lays_333 (by decide) ?_
      have hz := hC _ (Option.some.inj h).symm
      exact hz
    exact wh_V (P := fun sv2 => V 158 [some (rf g 47), none, some (.int x2), some (.int x3), some (.int x4), some (.int x5), some (.int sv2.1), some (.int sv2.2.1), none, none] [] sv2.2.2) (E := fun xv2 => V 333 [some (rf g 47), none, some (.int x2), some (.int x3), some (.int x4), some (.int x5), some (.int xv2.1), none, none, none] [] xv2.2) (fun sv2 ev hb hc he => t_l_X12_lays_158   S  sv2 ev hb hc he) FUEL _ _ e2 hE2
set_option maxHeartbeats 4000000 in
set_option maxRecDepth 100000 in
theorem c_X12_lays (g : Gx) (d : Nat) {x1 : Int32} {w : Mm} {p : Mm} (hL : Lay w) (h : f_X12_lays x1 w = some p) : Call g (d + 4) yX12_lays cX12_lays 10 none [rf g 47, .int x1] w none p := by
  refine call_of (L0 := [some (rf g 47), some (.int x1), none, none, none, none, none, none, none, none]) (by decide) rfl (Nat.le_of_ble_eq_true rfl) (fun V S0 => ?_)
  have S := S0.b
  unfold f_X12_lays at h
  refine i_aload_n S dX12_lays_0 rfl ?_
  refine i_getR S fl_X12_85 (k47 hL) (r47_43 hL) rfl dX12_lays_1 ?_
  refine i_iload_n S dX12_lays_4 rfl ?_
  obtain ⟨hi2, h⟩ := gd h
  refine i_zaldv (v := gI w 71 (ix x1)) S (k71 hL) hi2 rfl dX12_lays_5 ?_
  refine i_if_eq (tgt := 10) S dX12_lays_6 (by decide) (fun q3 => ?_) (fun q3 => ?_)
  · replace h := (if_pos q3).symm.trans h
    refine i_aload_n S dX12_lays_10 rfl ?_
    refine i_getR S fl_X12_85 (k47 hL) (r47_43 hL) rfl dX12_lays_11 ?_
    refine i_iload_n S dX12_lays_14 rfl ?_
    refine i_iconst (v := 1) S dX12_lays_15 ic_1 ?_
    refine i_zast S (k71 hL) hi2 dX12_lays_16 ?_
    refine i_bipush (v := 64) S dX12_lays_17 bp_64 ?_
    refine i_iload_n S dX12_lays_19 rfl ?_
    refine i_imul S dX12_lays_20 ?_
    refine i_istore_n (L1 := [some (rf g 47), some (.int x1), some (.int ((64 : Int32) * x1)), none, none, none, none, none, none, none]) S dX12_lays_21 (by decide) rfl ?_
    refine i_iconst (v := 0) S dX12_lays_22 ic_0 ?_
    refine i_istore_n (L1 := [some (rf g 47), some (.int x1), some (.int ((64 : Int32) * x1)), some (.int ((0 : Int32))), none, none, none, none, none, none]) S dX12_lays_23 (by decide) rfl ?_
    obtain ⟨p5, e5, h⟩ := bn h
    have hE5 : V 47 [some (rf g 47), some (.int x1), some (.int ((64 : Int32) * x1)), none, none, none, none, none, none, none] [] p5 := by
      refine i_iconst (v := 0) S dX12_lays_47 ic_0 ?_
      refine i_istore_n (L1 := [some (rf g 47), some (.int x1), some (.int ((64 : Int32) * x1)), some (.int ((0 : Int32))), none, none, none, none, none, none]) S dX12_lays_48 (by decide) rfl ?_
      obtain ⟨p6, e6, h⟩ := bn h
      have hE6 : V 121 [some (rf g 47), some (.int x1), some (.int ((64 : Int32) * x1)), none, none, none, none, none, none, none] [] p6 := by
        refine i_aload_n S dX12_lays_121 rfl ?_
        refine i_iload_n S dX12_lays_122 rfl ?_
        refine i_iconst (v := 1) S dX12_lays_123 ic_1 ?_
        obtain ⟨hL7, h⟩ := onLn h
        obtain ⟨p8, e8, h⟩ := bn h
        refine i_callV (As := [.int x1, .int ((1 : Int32))]) (st1 := [.int p8]) S (c_X12_joinOf g d hL7 e8) mw_X12_joinOf lk_X12_325 im_X12_joinOf se_X12_joinOf ci_12.1 ci_12.2.1 (k47 hL7) dX12_lays_124 rfl rfl (Nat.le_of_ble_eq_true rfl) rfl ?_
        refine i_istore_n (L1 := [some (rf g 47), some (.int x1), some (.int ((64 : Int32) * x1)), some (.int p8), none, none, none, none, none, none]) S dX12_lays_127 (by decide) rfl ?_
        refine i_aload_n S dX12_lays_128 rfl ?_
        refine i_iload_n S dX12_lays_129 rfl ?_
        refine i_iconst (v := 2) S dX12_lays_130 ic_2 ?_
        obtain ⟨p9, e9, h⟩ := bn h
        refine i_callV (As := [.int x1, .int ((2 : Int32))]) (st1 := [.int p9]) S (c_X12_joinOf g d hL7 e9) mw_X12_joinOf lk_X12_325 im_X12_joinOf se_X12_joinOf ci_12.1 ci_12.2.1 (k47 hL7) dX12_lays_131 rfl rfl (Nat.le_of_ble_eq_true rfl) rfl ?_
        refine i_istore (L1 := [some (rf g 47), some (.int x1), some (.int ((64 : Int32) * x1)), some (.int p8), some (.int p9), none, none, none, none, none]) S dX12_lays_134 (by decide) rfl ?_
        refine i_aload_n S dX12_lays_136 rfl ?_
        refine i_iload_n S dX12_lays_137 rfl ?_
        refine i_iconst (v := 3) S dX12_lays_138 ic_3 ?_
        obtain ⟨p10, e10, h⟩ := bn h
        refine i_callV (As := [.int x1, .int ((3 : Int32))]) (st1 := [.int p10]) S (c_X12_joinOf g d hL7 e10) mw_X12_joinOf lk_X12_325 im_X12_joinOf se_X12_joinOf ci_12.1 ci_12.2.1 (k47 hL7) dX12_lays_139 rfl rfl (Nat.le_of_ble_eq_true rfl) rfl ?_
        refine i_istore (L1 := [some (rf g 47), some (.int x1), some (.int ((64 : Int32) * x1)), some (.int p8), some (.int p9), some (.int p10), none, none, none, none]) S dX12_lays_142 (by decide) rfl ?_
        refine i_iconst (v := 1) S dX12_lays_144 ic_1 ?_
        refine i_istore (L1 := [some (rf g 47), some (.int x1), some (.int ((64 : Int32) * x1)), some (.int p8), some (.int p9), some (.int p10), some (.int ((1 : Int32))), none, none, none]) S dX12_lays_145 (by decide) rfl ?_
        refine i_mask (L1 := [some (rf g 47), none, some (.int ((64 : Int32) * x1)), some (.int p8), some (.int p9), some (.int p10), some (.int ((1 : Int32))), none, none, none]) S [true, false, true, true, true, true, true, false, false, false] rfl ?_
        obtain ⟨p11, e11, h⟩ := bn h
        have hE11 : V 336 [none, none, none, none, none, none, none, none, none, none] [] p11 := by
          cases h
          exact i_vret S0 dX12_lays_336
        exact wh_V (P := fun sv11 => V 147 [some (rf g 47), none, some (.int ((64 : Int32) * x1)), some (.int p8), some (.int p9), some (.int p10), some (.int sv11.1), none, none, none] [] sv11.2) (E := fun xv11 => V 336 [none, none, none, none, none, none, none, none, none, none] [] xv11) (fun sv11 ev hb hc he => t_l_X12_lays_147   S  sv11 ev hb hc he) FUEL _ _ e11 hE11
      exact wh_V (P := fun sv6 => V 49 [some (rf g 47), some (.int x1), some (.int ((64 : Int32) * x1)), some (.int sv6.1), none, none, none, none, none, none] [] sv6.2) (E := fun xv6 => V 121 [some (rf g 47), some (.int x1), some (.int ((64 : Int32) * x1)), none, none, none, none, none, none, none] [] xv6) (fun sv6 ev hb hc he => t_l_X12_lays_49   S  sv6 ev hb hc he) FUEL _ _ e6 hE6
    exact wh_V (P := fun sv5 => V 24 [some (rf g 47), some (.int x1), some (.int ((64 : Int32) * x1)), some (.int sv5.1), none, none, none, none, none, none] [] sv5.2) (E := fun xv5 => V 47 [some (rf g 47), some (.int x1), some (.int ((64 : Int32) * x1)), none, none, none, none, none, none, none] [] xv5) (fun sv5 ev hb hc he => t_l_X12_lays_24   S  sv5 ev hb hc he) FUEL _ _ e5 hE5
  · replace h := (if_neg q3).symm.trans h
    cases h
    exact i_vret S0 dX12_lays_9
/-! WordYearModel.briefOf -/
noncomputable def f_X12_briefOf (x1 : Int32) (x2 : Int32) (w : Mm) : Option (Int32 × Mm) := Option.bind (f_X12_lays x1 w) (fun p1 => onL p1 (if inb (((64 : Int32) * x1) + x2) 65536 = true then (some (gI p1 72 (ix (((64 : Int32) * x1) + x2)), p1)) else none))
set_option maxHeartbeats 4000000 in
set_option maxRecDepth 100000 in
theorem c_X12_briefOf (g : Gx) (d : Nat) {x1 : Int32} {x2 : Int32} {w : Mm} {p : (Int32 × Mm)} (hL : Lay w) (h : f_X12_briefOf x1 x2 w = some p) : Call g (d + 5) yX12_briefOf cX12_briefOf 3 (some .int) [rf g 47, .int x1, .int x2] w (some (.int p.1)) p.2 := by
  refine call_of (L0 := [some (rf g 47), some (.int x1), some (.int x2)]) (by decide) rfl (Nat.le_of_ble_eq_true rfl) (fun V S0 => ?_)
  have S := S0.b
  unfold f_X12_briefOf at h
  refine i_aload_n S dX12_briefOf_0 rfl ?_
  refine i_iload_n S dX12_briefOf_1 rfl ?_
  obtain ⟨p1, e1, h⟩ := bn h
  refine i_callV (As := [.int x1]) (st1 := []) S (c_X12_lays g d hL e1) mw_X12_lays lk_X12_332 im_X12_lays se_X12_lays ci_12.1 ci_12.2.1 (k47 hL) dX12_briefOf_2 rfl rfl (Nat.le_of_ble_eq_true rfl) rfl ?_
  refine i_aload_n S dX12_briefOf_5 rfl ?_
  obtain ⟨hL2, h⟩ := onLn h
  refine i_getR S fl_X12_89 (k47 hL2) (r47_44 hL2) rfl dX12_briefOf_6 ?_
  refine i_bipush (v := 64) S dX12_briefOf_9 bp_64 ?_
  refine i_iload_n S dX12_briefOf_11 rfl ?_
  refine i_imul S dX12_briefOf_12 ?_
  refine i_iload_n S dX12_briefOf_13 rfl ?_
  refine i_iadd S dX12_briefOf_14 ?_
  obtain ⟨hi4, h⟩ := gd h
  refine i_ialdv (v := gI p1 72 (ix (((64 : Int32) * x1) + x2))) S (k72 hL2) hi4 rfl dX12_briefOf_15 ?_
  cases h
  exact i_iret S0 rfl dX12_briefOf_16
/-! WordYearModel.brief -/
noncomputable def f_X12_brief (x1 : Int32) (x2 : Int32) (w : Mm) : Option (Int32 × Mm) := Option.bind (f_X12_isTongue x1 w) (fun p1 => if p1 = 0 then (some ((-1 : Int32), w)) else (if (f_X12_isMeaning x2) = 0 then (some ((-1 : Int32), w)) else (Option.bind (f_X12_briefOf x1 x2 w) (fun p4 => if p4.1 < (1000000 : Int32) then (some (p4.1, p4.2)) else (some ((-2 : Int32), p4.2))))))
set_option maxHeartbeats 4000000 in
set_option maxRecDepth 100000 in
theorem c_X12_brief (g : Gx) (d : Nat) {x1 : Int32} {x2 : Int32} {w : Mm} {p : (Int32 × Mm)} (hL : Lay w) (h : f_X12_brief x1 x2 w = some p) : Call g (d + 6) yX12_brief cX12_brief 4 (some .int) [rf g 47, .int x1, .int x2] w (some (.int p.1)) p.2 := by
  refine call_of (L0 := [some (rf g 47), some (.int x1), some (.int x2), none]) (by decide) rfl (Nat.le_of_ble_eq_true rfl) (fun V S0 => ?_)
  have S := S0.b
  unfold f_X12_brief at h
  refine i_aload_n S dX12_brief_0 rfl ?_
  refine i_iload_n S dX12_brief_1 rfl ?_
  obtain ⟨p1, e1, h⟩ := bn h
  refine i_callV (As := [.int x1]) (st1 := [.int p1]) S (c_X12_isTongue g (d + 3) hL e1) mw_X12_isTongue lk_X12_335 im_X12_isTongue se_X12_isTongue ci_12.1 ci_12.2.1 (k47 hL) dX12_brief_2 rfl rfl (Nat.le_of_ble_eq_true rfl) rfl ?_
  refine i_if_eq (tgt := 15) S dX12_brief_5 (by decide) (fun q2 => ?_) (fun q2 => ?_)
  · replace h := (if_pos q2).symm.trans h
    refine i_iconst (v := -1) S dX12_brief_15 ic_m1 ?_
    cases h
    exact i_iret S0 rfl dX12_brief_16
  · replace h := (if_neg q2).symm.trans h
    refine i_iload_n S dX12_brief_8 rfl ?_
    refine i_callS (As := [.int x2]) (st1 := [.int (f_X12_isMeaning x2)]) S (c_X12_isMeaning g (d + 3) rfl) mw_X12_isMeaning lk_X12_153 im_X12_isMeaning dX12_brief_9 rfl rfl (Nat.le_of_ble_eq_true rfl) rfl ?_
    refine i_if_ne (tgt := 17) S dX12_brief_12 (by decide) (fun q3 => ?_) (fun q3 => ?_)
    · replace h := (if_neg q3).symm.trans h
      refine i_aload_n S dX12_brief_17 rfl ?_
      refine i_iload_n S dX12_brief_18 rfl ?_
      refine i_iload_n S dX12_brief_19 rfl ?_
      obtain ⟨p4, e4, h⟩ := bn h
      refine i_callV (As := [.int x1, .int x2]) (st1 := [.int p4.1]) S (c_X12_briefOf g d hL e4) mw_X12_briefOf lk_X12_338 im_X12_briefOf se_X12_briefOf ci_12.1 ci_12.2.1 (k47 hL) dX12_brief_20 rfl rfl (Nat.le_of_ble_eq_true rfl) rfl ?_
      refine i_istore_n (L1 := [some (rf g 47), some (.int x1), some (.int x2), some (.int p4.1)]) S dX12_brief_23 (by decide) rfl ?_
      refine i_iload_n S dX12_brief_24 rfl ?_
      refine i_ldcw S kc_X12_324 dX12_brief_25 ?_
      refine i_icmp_lt (tgt := 36) S dX12_brief_28 (by decide) (fun q5 => ?_) (fun q5 => ?_)
      · replace h := (if_pos q5).symm.trans h
        refine i_iload_n S dX12_brief_36 rfl ?_
        cases h
        exact i_iret S0 rfl dX12_brief_37
      · replace h := (if_neg q5).symm.trans h
        refine i_bipush (v := -2) S dX12_brief_31 bp_m2 ?_
        refine i_goto (tgt := 37) S dX12_brief_33 (by decide) ?_
        cases h
        exact i_iret S0 rfl dX12_brief_37
    · replace h := (if_pos q3).symm.trans h
      refine i_iconst (v := -1) S dX12_brief_15 ic_m1 ?_
      cases h
      exact i_iret S0 rfl dX12_brief_16
/-! WordYearModel.findsPair -/
noncomputable def l_X12_findsPair_22 (x1 : Int32) (x2 : Int32) (x3 : Int32) (x4 : Int32) (x5 : Int32) (s : Int32 × Mm) : Option ((Int32 × Mm) ⊕ (Nat × Int32 × Mm)) := if (64 : Int32) ≤ s.1 then (some (.inr (0, 0, s.2))) else (Option.bind (if x3 = (2 : Int32) then (some (x5 &&& s.1)) else (some (x5 ||| s.1))) (fun p3 => mg (if p3 = x2 then (onL s.2 (Option.bind (f_X12_briefOf x1 x5 s.2) (fun p7 => onL p7.2 (Option.bind (f_X12_briefOf x1 s.1 p7.2) (fun p9 => onL p9.2 (Option.bind (f_X12_briefOf x1 x2 p9.2) (fun p11 => if ((p7.1 + p9.1) + x4) = p11.1 then (some (.inr (.inr (1, s.1, p11.2)))) else (some (.inl p11.2))))))))) else (some (.inl s.2))) (fun p5 => some (.inl (s.1 + (1 : Int32), p5)))))
noncomputable def l_X12_findsPair_11 (x1 : Int32) (x2 : Int32) (x3 : Int32) (x4 : Int32) (s : Int32 × Mm) : Option ((Int32 × Mm) ⊕ (Nat × Int32 × Int32 × Mm)) := if (64 : Int32) ≤ s.1 then (some (.inr (0, 0, 0, s.2))) else (Option.bind (wh (l_X12_findsPair_22 x1 x2 x3 x4 s.1) FUEL (s.1, s.2)) (fun p2 => if p2.1 = 0 then (some (.inl (s.1 + (1 : Int32), p2.2.2))) else (some (.inr (1, s.1, p2.2.1, p2.2.2)))))
noncomputable def f_X12_findsPair (x1 : Int32) (x2 : Int32) (x3 : Int32) (w : Mm) : Option (Int32 × Mm) := Option.bind (f_X12_joinOf x1 x3 w) (fun p1 => Option.bind (wh (l_X12_findsPair_11 x1 x2 x3 p1) FUEL ((0 : Int32), w)) (fun p2 => if p2.1 = 0 then (some ((0 : Int32), p2.2.2.2)) else (onL p2.2.2.2 (some ((1 : Int32), sI (sI (sI p2.2.2.2 47 45 x3) 47 46 p2.2.1) 47 47 p2.2.2.1)))))
set_option maxHeartbeats 4000000 in
set_option maxRecDepth 100000 in
theorem t_l_X12_findsPair_22 {g : Gx} {V : Vt} {d : Nat} (S : MachB g yX12_findsPair cX12_findsPair 7 (d + 5) V) {x1 : Int32} {x2 : Int32} {x3 : Int32} {x4 : Int32} {x5 : Int32}  (s : Int32 × Mm) (e : (Int32 × Mm) ⊕ (Nat × Int32 × Mm)) (h : l_X12_findsPair_22 x1 x2 x3 x4 x5 s = some e) (hC : ∀ s2, e = .inl s2 → V 22 [some (rf g 47), some (.int x1), some (.int x2), some (.int x3), some (.int x4), some (.int x5), some (.int s2.1)] [] s2.2) (hE : ∀ x, e = .inr x → if x.1 = 0 then V 106 [some (rf g 47), some (.int x1), some (.int x2), some (.int x3), some (.int x4), some (.int x5), none] [] x.2.2 else (V 81 [some (rf g 47), none, none, some (.int x3), none, some (.int x5), some (.int x.2.1)] [] x.2.2)) : V 22 [some (rf g 47), some (.int x1), some (.int x2), some (.int x3), some (.int x4), some (.int x5), some (.int s.1)] [] s.2 := by
  unfold l_X12_findsPair_22 at h
  refine i_iload S dX12_findsPair_22 rfl ?_
  refine i_bipush (v := 64) S dX12_findsPair_24 bp_64 ?_
  refine i_icmp_ge (tgt := 106) S dX12_findsPair_26 (by decide) (fun q1 => ?_) (fun q1 => ?_)
  · replace h := (if_pos q1).symm.trans h
    refine i_mask (L1 := [some (rf g 47), some (.int x1), some (.int x2), some (.int x3), some (.int x4), some (.int x5), none]) S [true, true, true, true, true, true, false] rfl ?_
    have hz := hE _ (Option.some.inj h).symm
    exact hz
  · replace h := (if_neg q1).symm.trans h
    refine i_iload_n S dX12_findsPair_29 rfl ?_
    refine i_iconst (v := 2) S dX12_findsPair_30 ic_2 ?_
    obtain ⟨p3, e3, h⟩ := bn h
    have hj3 : ∀ q3, p3 = q3 → V 47 [some (rf g 47), some (.int x1), some (.int x2), some (.int x3), some (.int x4), some (.int x5), some (.int s.1)] [.int q3] s.2 := by
      intro q3 hq3
      subst hq3
      refine i_iload_n S dX12_findsPair_47 rfl ?_
      obtain ⟨s5, e5, hm5, ho5⟩ := mgn h
      have hj5 : ∀ p5, s5 = .inl p5 → V 100 [some (rf g 47), some (.int x1), some (.int x2), some (.int x3), some (.int x4), some (.int x5), some (.int s.1)] [] p5 := by
        intro p5 ep5
        have h := hm5 p5 ep5
        refine i_iinc (L1 := [some (rf g 47), some (.int x1), some (.int x2), some (.int x3), some (.int x4), some (.int x5), some (.int (s.1 + (1 : Int32)))]) S dX12_findsPair_100 rfl ic_1 (by decide) rfl ?_
        refine i_goto (tgt := 22) S dX12_findsPair_103 (by decide) ?_
        have hz := hC _ (Option.some.inj h).symm
        exact hz
      replace h := e5
      clear e5
      refine i_icmp_ne (tgt := 100) S dX12_findsPair_48 (by decide) (fun q4 => ?_) (fun q4 => ?_)
      · replace h := (if_neg q4).symm.trans h
        have hz := hj5 _ (Option.some.inj h).symm
        exact hz
      · replace h := (if_pos q4).symm.trans h
        refine i_aload_n S dX12_findsPair_51 rfl ?_
        refine i_iload_n S dX12_findsPair_52 rfl ?_
        refine i_iload S dX12_findsPair_53 rfl ?_
        obtain ⟨hL6, h⟩ := onLn h
        obtain ⟨p7, e7, h⟩ := bn h
        refine i_callV (As := [.int x1, .int x5]) (st1 := [.int p7.1]) S (c_X12_briefOf g d hL6 e7) mw_X12_briefOf lk_X12_338 im_X12_briefOf se_X12_briefOf ci_12.1 ci_12.2.1 (k47 hL6) dX12_findsPair_55 rfl rfl (Nat.le_of_ble_eq_true rfl) rfl ?_
        refine i_aload_n S dX12_findsPair_58 rfl ?_
        refine i_iload_n S dX12_findsPair_59 rfl ?_
        refine i_iload S dX12_findsPair_60 rfl ?_
        obtain ⟨hL8, h⟩ := onLn h
        obtain ⟨p9, e9, h⟩ := bn h
        refine i_callV (As := [.int x1, .int s.1]) (st1 := [.int p9.1, .int p7.1]) S (c_X12_briefOf g d hL8 e9) mw_X12_briefOf lk_X12_338 im_X12_briefOf se_X12_briefOf ci_12.1 ci_12.2.1 (k47 hL8) dX12_findsPair_62 rfl rfl (Nat.le_of_ble_eq_true rfl) rfl ?_
        refine i_iadd S dX12_findsPair_65 ?_
        refine i_iload S dX12_findsPair_66 rfl ?_
        refine i_iadd S dX12_findsPair_68 ?_
        refine i_aload_n S dX12_findsPair_69 rfl ?_
        refine i_iload_n S dX12_findsPair_70 rfl ?_
        refine i_iload_n S dX12_findsPair_71 rfl ?_
        obtain ⟨hL10, h⟩ := onLn h
        obtain ⟨p11, e11, h⟩ := bn h
        refine i_callV (As := [.int x1, .int x2]) (st1 := [.int p11.1, .int ((p7.1 + p9.1) + x4)]) S (c_X12_briefOf g d hL10 e11) mw_X12_briefOf lk_X12_338 im_X12_briefOf se_X12_briefOf ci_12.1 ci_12.2.1 (k47 hL10) dX12_findsPair_72 rfl rfl (Nat.le_of_ble_eq_true rfl) rfl ?_
        refine i_icmp_eq (tgt := 81) S dX12_findsPair_75 (by decide) (fun q12 => ?_) (fun q12 => ?_)
        · replace h := (if_pos q12).symm.trans h
          replace h := ho5 _ (Option.some.inj h).symm
          refine i_mask (L1 := [some (rf g 47), none, none, some (.int x3), none, some (.int x5), some (.int s.1)]) S [true, false, false, true, false, true, true] rfl ?_
          have hz := hE _ (Option.some.inj h).symm
          exact hz
        · replace h := (if_neg q12).symm.trans h
          refine i_goto (tgt := 100) S dX12_findsPair_78 (by decide) ?_
          have hz := hj5 _ (Option.some.inj h).symm
          exact hz
    replace h := e3
    clear e3
    refine i_icmp_ne (tgt := 42) S dX12_findsPair_31 (by decide) (fun q2 => ?_) (fun q2 => ?_)
    · replace h := (if_neg q2).symm.trans h
      refine i_iload S dX12_findsPair_42 rfl ?_
      refine i_iload S dX12_findsPair_44 rfl ?_
      refine i_ior S dX12_findsPair_46 ?_
      have hz := hj3 _ (Option.some.inj h).symm
      exact hz
    · replace h := (if_pos q2).symm.trans h
      refine i_iload S dX12_findsPair_34 rfl ?_
      refine i_iload S dX12_findsPair_36 rfl ?_
      refine i_iand S dX12_findsPair_38 ?_
      refine i_goto (tgt := 47) S dX12_findsPair_39 (by decide) ?_
      have hz := hj3 _ (Option.some.inj h).symm
      exact hz
set_option maxHeartbeats 4000000 in
set_option maxRecDepth 100000 in
theorem t_l_X12_findsPair_11 {g : Gx} {V : Vt} {d : Nat} (S : MachB g yX12_findsPair cX12_findsPair 7 (d + 5) V) {x1 : Int32} {x2 : Int32} {x3 : Int32} {x4 : Int32}  (s : Int32 × Mm) (e : (Int32 × Mm) ⊕ (Nat × Int32 × Int32 × Mm)) (h : l_X12_findsPair_11 x1 x2 x3 x4 s = some e) (hC : ∀ s2, e = .inl s2 → V 11 [some (rf g 47), some (.int x1), some (.int x2), some (.int x3), some (.int x4), some (.int s2.1), none] [] s2.2) (hE : ∀ x, e = .inr x → if x.1 = 0 then V 112 [none, none, none, none, none, none, none] [] x.2.2.2 else (V 81 [some (rf g 47), none, none, some (.int x3), none, some (.int x.2.1), some (.int x.2.2.1)] [] x.2.2.2)) : V 11 [some (rf g 47), some (.int x1), some (.int x2), some (.int x3), some (.int x4), some (.int s.1), none] [] s.2 := by
  unfold l_X12_findsPair_11 at h
  refine i_iload S dX12_findsPair_11 rfl ?_
  refine i_bipush (v := 64) S dX12_findsPair_13 bp_64 ?_
  refine i_icmp_ge (tgt := 112) S dX12_findsPair_15 (by decide) (fun q1 => ?_) (fun q1 => ?_)
  · replace h := (if_pos q1).symm.trans h
    refine i_mask (L1 := [none, none, none, none, none, none, none]) S [false, false, false, false, false, false, false] rfl ?_
    have hz := hE _ (Option.some.inj h).symm
    exact hz
  · replace h := (if_neg q1).symm.trans h
    refine i_iload S dX12_findsPair_18 rfl ?_
    refine i_istore (L1 := [some (rf g 47), some (.int x1), some (.int x2), some (.int x3), some (.int x4), some (.int s.1), some (.int s.1)]) S dX12_findsPair_20 (by decide) rfl ?_
    obtain ⟨p2, e2, h⟩ := bn h
    have hE2 : if p2.1 = 0 then V 106 [some (rf g 47), some (.int x1), some (.int x2), some (.int x3), some (.int x4), some (.int s.1), none] [] p2.2.2 else (V 81 [some (rf g 47), none, none, some (.int x3), none, some (.int s.1), some (.int p2.2.1)] [] p2.2.2) := by
      by_cases hx2_0 : p2.1 = 0
      · rw [if_pos hx2_0]
        replace h := (if_pos hx2_0).symm.trans h
        refine i_iinc (L1 := [some (rf g 47), some (.int x1), some (.int x2), some (.int x3), some (.int x4), some (.int (s.1 + (1 : Int32))), none]) S dX12_findsPair_106 rfl ic_1 (by decide) rfl ?_
        refine i_goto (tgt := 11) S dX12_findsPair_109 (by decide) ?_
        have hz := hC _ (Option.some.inj h).symm
        exact hz
      · rw [if_neg hx2_0]
        replace h := (if_neg hx2_0).symm.trans h
        have hz := hE _ (Option.some.inj h).symm
        exact hz
    exact wh_V (P := fun sv2 => V 22 [some (rf g 47), some (.int x1), some (.int x2), some (.int x3), some (.int x4), some (.int s.1), some (.int sv2.1)] [] sv2.2) (E := fun xv2 => if xv2.1 = 0 then V 106 [some (rf g 47), some (.int x1), some (.int x2), some (.int x3), some (.int x4), some (.int s.1), none] [] xv2.2.2 else (V 81 [some (rf g 47), none, none, some (.int x3), none, some (.int s.1), some (.int xv2.2.1)] [] xv2.2.2)) (fun sv2 ev hb hc he => t_l_X12_findsPair_22   S  sv2 ev hb hc he) FUEL _ _ e2 hE2
set_option maxHeartbeats 4000000 in
set_option maxRecDepth 100000 in
theorem c_X12_findsPair (g : Gx) (d : Nat) {x1 : Int32} {x2 : Int32} {x3 : Int32} {w : Mm} {p : (Int32 × Mm)} (hL : Lay w) (h : f_X12_findsPair x1 x2 x3 w = some p) : Call g (d + 6) yX12_findsPair cX12_findsPair 7 (some .boolean) [rf g 47, .int x1, .int x2, .int x3] w (some (.int p.1)) p.2 := by
  refine call_of (L0 := [some (rf g 47), some (.int x1), some (.int x2), some (.int x3), none, none, none]) (by decide) rfl (Nat.le_of_ble_eq_true rfl) (fun V S0 => ?_)
  have S := S0.b
  unfold f_X12_findsPair at h
  refine i_aload_n S dX12_findsPair_0 rfl ?_
  refine i_iload_n S dX12_findsPair_1 rfl ?_
  refine i_iload_n S dX12_findsPair_2 rfl ?_
  obtain ⟨p1, e1, h⟩ := bn h
  refine i_callV (As := [.int x1, .int x3]) (st1 := [.int p1]) S (c_X12_joinOf g (d + 2) hL e1) mw_X12_joinOf lk_X12_325 im_X12_joinOf se_X12_joinOf ci_12.1 ci_12.2.1 (k47 hL) dX12_findsPair_3 rfl rfl (Nat.le_of_ble_eq_true rfl) rfl ?_
  refine i_istore (L1 := [some (rf g 47), some (.int x1), some (.int x2), some (.int x3), some (.int p1), none, none]) S dX12_findsPair_6 (by decide) rfl ?_
  refine i_iconst (v := 0) S dX12_findsPair_8 ic_0 ?_
  refine i_istore (L1 := [some (rf g 47), some (.int x1), some (.int x2), some (.int x3), some (.int p1), some (.int ((0 : Int32))), none]) S dX12_findsPair_9 (by decide) rfl ?_
  obtain ⟨p2, e2, h⟩ := bn h
  have hE2 : if p2.1 = 0 then V 112 [none, none, none, none, none, none, none] [] p2.2.2.2 else (V 81 [some (rf g 47), none, none, some (.int x3), none, some (.int p2.2.1), some (.int p2.2.2.1)] [] p2.2.2.2) := by
    by_cases hx2_0 : p2.1 = 0
    · rw [if_pos hx2_0]
      replace h := (if_pos hx2_0).symm.trans h
      refine i_iconst (v := 0) S dX12_findsPair_112 ic_0 ?_
      cases h
      exact i_iret S0 rfl dX12_findsPair_113
    · rw [if_neg hx2_0]
      replace h := (if_neg hx2_0).symm.trans h
      refine i_aload_n S dX12_findsPair_81 rfl ?_
      refine i_iload_n S dX12_findsPair_82 rfl ?_
      obtain ⟨hL3, h⟩ := onLn h
      refine i_putI S fl_X12_341 (k47 hL3) rfl rfl rfl dX12_findsPair_83 ?_
      refine i_aload_n S dX12_findsPair_86 rfl ?_
      refine i_iload S dX12_findsPair_87 rfl ?_
      refine i_putI S fl_X12_344 (k47 hL3) rfl rfl rfl dX12_findsPair_89 ?_
      refine i_aload_n S dX12_findsPair_92 rfl ?_
      refine i_iload S dX12_findsPair_93 rfl ?_
      refine i_putI S fl_X12_347 (k47 hL3) rfl rfl rfl dX12_findsPair_95 ?_
      refine i_iconst (v := 1) S dX12_findsPair_98 ic_1 ?_
      cases h
      exact i_iret S0 rfl dX12_findsPair_99
  exact wh_V (P := fun sv2 => V 11 [some (rf g 47), some (.int x1), some (.int x2), some (.int x3), some (.int p1), some (.int sv2.1), none] [] sv2.2) (E := fun xv2 => if xv2.1 = 0 then V 112 [none, none, none, none, none, none, none] [] xv2.2.2.2 else (V 81 [some (rf g 47), none, none, some (.int x3), none, some (.int xv2.2.1), some (.int xv2.2.2.1)] [] xv2.2.2.2)) (fun sv2 ev hb hc he => t_l_X12_findsPair_11   S  sv2 ev hb hc he) FUEL _ _ e2 hE2
/-! WordYearModel.says -/
noncomputable def l_X12_says_12 (x1 : Int32) (x2 : Int32) (s : Int32 × Mm) : Option ((Int32 × Mm) ⊕ (Nat × Int32 × Mm)) := onL s.2 (if (gI s.2 47 2) ≤ s.1 then (some (.inr (0, 0, s.2))) else (mg (if (f_X12_has x1 s.1) = 0 then (some (.inl s.2)) else (if inb s.1 10 = true then (if (gI s.2 49 (ix s.1)) = 0 then (if (gI s.2 50 (ix s.1)) = x2 then (Option.bind (f_X12_briefOf x1 x2 s.2) (fun p11 => if (gI s.2 51 (ix s.1)) = p11.1 then (some (.inr (.inr (1, s.1, p11.2)))) else (some (.inl p11.2)))) else (some (.inl s.2))) else (some (.inl s.2))) else none)) (fun p4 => some (.inl (s.1 + (1 : Int32), p4)))))
noncomputable def f_X12_says (x1 : Int32) (x2 : Int32) (w : Mm) : Option Mm := Option.bind (wh (l_X12_says_12 x1 x2) FUEL ((0 : Int32), sI (sI w 47 47 (-1 : Int32)) 47 45 (0 : Int32))) (fun p1 => if p1.1 = 0 then (onL p1.2.2 (Option.bind (f_X12_briefOf x1 ((63 : Int32) ^^^ x2) (sI (sI p1.2.2 47 45 (1 : Int32)) 47 46 ((63 : Int32) ^^^ x2))) (fun p3 => onL p3.2 (Option.bind (f_X12_joinOf x1 (1 : Int32) p3.2) (fun p5 => Option.bind (f_X12_briefOf x1 x2 p3.2) (fun p6 => if (p3.1 + p5) = p6.1 then (some p6.2) else (onL p6.2 (Option.bind (f_X12_findsPair x1 x2 (2 : Int32) p6.2) (fun p9 => if p9.1 = 0 then (onL p9.2 (Option.bind (f_X12_findsPair x1 x2 (3 : Int32) p9.2) (fun p12 => Option.bind (if p12.1 = 0 then (some (-1 : Int32)) else (onL p12.2 (some (gI p12.2 47 46)))) (fun p14 => onL p12.2 (some (sI p12.2 47 46 p14)))))) else (some p9.2)))))))))) else (onL p1.2.2 (some (sI p1.2.2 47 46 p1.2.1))))
set_option maxHeartbeats 4000000 in
set_option maxRecDepth 100000 in
theorem t_l_X12_says_12 {g : Gx} {V : Vt} {d : Nat} (S : MachB g yX12_says cX12_says 4 (d + 6) V) {x1 : Int32} {x2 : Int32}  (s : Int32 × Mm) (e : (Int32 × Mm) ⊕ (Nat × Int32 × Mm)) (h : l_X12_says_12 x1 x2 s = some e) (hC : ∀ s2, e = .inl s2 → V 12 [some (rf g 47), some (.int x1), some (.int x2), some (.int s2.1)] [] s2.2) (hE : ∀ x, e = .inr x → if x.1 = 0 then V 77 [some (rf g 47), some (.int x1), some (.int x2), none] [] x.2.2 else (V 65 [some (rf g 47), none, none, some (.int x.2.1)] [] x.2.2)) : V 12 [some (rf g 47), some (.int x1), some (.int x2), some (.int s.1)] [] s.2 := by
  unfold l_X12_says_12 at h
  refine i_iload_n S dX12_says_12 rfl ?_
  refine i_aload_n S dX12_says_13 rfl ?_
  obtain ⟨hL1, h⟩ := onLn h
  refine i_getIv (v := gI s.2 47 2) S fl_X12_135 (k47 hL1) rfl rfl dX12_says_14 ?_
  refine i_icmp_ge (tgt := 77) S dX12_says_17 (by decide) (fun q2 => ?_) (fun q2 => ?_)
  · replace h := (if_pos q2).symm.trans h
    refine i_mask (L1 := [some (rf g 47), some (.int x1), some (.int x2), none]) S [true, true, true, false] rfl ?_
    have hz := hE _ (Option.some.inj h).symm
    exact hz
  · replace h := (if_neg q2).symm.trans h
    refine i_iload_n S dX12_says_20 rfl ?_
    refine i_iload_n S dX12_says_21 rfl ?_
    refine i_callS (As := [.int x1, .int s.1]) (st1 := [.int (f_X12_has x1 s.1)]) S (c_X12_has g (d + 5) rfl) mw_X12_has lk_X12_149 im_X12_has dX12_says_22 rfl rfl (Nat.le_of_ble_eq_true rfl) rfl ?_
    obtain ⟨s4, e4, hm4, ho4⟩ := mgn h
    have hj4 : ∀ p4, s4 = .inl p4 → V 71 [some (rf g 47), some (.int x1), some (.int x2), some (.int s.1)] [] p4 := by
      intro p4 ep4
      have h := hm4 p4 ep4
      refine i_iinc (L1 := [some (rf g 47), some (.int x1), some (.int x2), some (.int (s.1 + (1 : Int32)))]) S dX12_says_71 rfl ic_1 (by decide) rfl ?_
      refine i_goto (tgt := 12) S dX12_says_74 (by decide) ?_
      have hz := hC _ (Option.some.inj h).symm
      exact hz
    replace h := e4
    clear e4
    refine i_if_eq (tgt := 71) S dX12_says_25 (by decide) (fun q3 => ?_) (fun q3 => ?_)
    · replace h := (if_pos q3).symm.trans h
      have hz := hj4 _ (Option.some.inj h).symm
      exact hz
    · replace h := (if_neg q3).symm.trans h
      refine i_aload_n S dX12_says_28 rfl ?_
      refine i_getR S fl_X12_17 (k47 hL1) (r47_8 hL1) rfl dX12_says_29 ?_
      refine i_iload_n S dX12_says_32 rfl ?_
      obtain ⟨hi6, h⟩ := gd h
      refine i_ialdv (v := gI s.2 49 (ix s.1)) S (k49 hL1) hi6 rfl dX12_says_33 ?_
      refine i_if_ne (tgt := 71) S dX12_says_34 (by decide) (fun q7 => ?_) (fun q7 => ?_)
      · replace h := (if_neg q7).symm.trans h
        have hz := hj4 _ (Option.some.inj h).symm
        exact hz
      · replace h := (if_pos q7).symm.trans h
        refine i_aload_n S dX12_says_37 rfl ?_
        refine i_getR S fl_X12_21 (k47 hL1) (r47_9 hL1) rfl dX12_says_38 ?_
        refine i_iload_n S dX12_says_41 rfl ?_
        refine i_ialdv (v := gI s.2 50 (ix s.1)) S (k50 hL1) hi6 rfl dX12_says_42 ?_
        refine i_iload_n S dX12_says_43 rfl ?_
        refine i_icmp_ne (tgt := 71) S dX12_says_44 (by decide) (fun q9 => ?_) (fun q9 => ?_)
        · replace h := (if_neg q9).symm.trans h
          have hz := hj4 _ (Option.some.inj h).symm
          exact hz
        · replace h := (if_pos q9).symm.trans h
          refine i_aload_n S dX12_says_47 rfl ?_
          refine i_getR S fl_X12_24 (k47 hL1) (r47_10 hL1) rfl dX12_says_48 ?_
          refine i_iload_n S dX12_says_51 rfl ?_
          refine i_ialdv (v := gI s.2 51 (ix s.1)) S (k51 hL1) hi6 rfl dX12_says_52 ?_
          refine i_aload_n S dX12_says_53 rfl ?_
          refine i_iload_n S dX12_says_54 rfl ?_
          refine i_iload_n S dX12_says_55 rfl ?_
          obtain ⟨p11, e11, h⟩ := bn h
          refine i_callV (As := [.int x1, .int x2]) (st1 := [.int p11.1, .int (gI s.2 51 (ix s.1))]) S (c_X12_briefOf g (d + 1) hL1 e11) mw_X12_briefOf lk_X12_338 im_X12_briefOf se_X12_briefOf ci_12.1 ci_12.2.1 (k47 hL1) dX12_says_56 rfl rfl (Nat.le_of_ble_eq_true rfl) rfl ?_
          refine i_icmp_eq (tgt := 65) S dX12_says_59 (by decide) (fun q12 => ?_) (fun q12 => ?_)
          · replace h := (if_pos q12).symm.trans h
            replace h := ho4 _ (Option.some.inj h).symm
            refine i_mask (L1 := [some (rf g 47), none, none, some (.int s.1)]) S [true, false, false, true] rfl ?_
            have hz := hE _ (Option.some.inj h).symm
            exact hz
          · replace h := (if_neg q12).symm.trans h
            refine i_goto (tgt := 71) S dX12_says_62 (by decide) ?_
            have hz := hj4 _ (Option.some.inj h).symm
            exact hz
set_option maxHeartbeats 4000000 in
set_option maxRecDepth 100000 in
theorem c_X12_says (g : Gx) (d : Nat) {x1 : Int32} {x2 : Int32} {w : Mm} {p : Mm} (hL : Lay w) (h : f_X12_says x1 x2 w = some p) : Call g (d + 7) yX12_says cX12_says 4 none [rf g 47, .int x1, .int x2] w none p := by
  refine call_of (L0 := [some (rf g 47), some (.int x1), some (.int x2), none]) (by decide) rfl (Nat.le_of_ble_eq_true rfl) (fun V S0 => ?_)
  have S := S0.b
  unfold f_X12_says at h
  refine i_aload_n S dX12_says_0 rfl ?_
  refine i_iconst (v := -1) S dX12_says_1 ic_m1 ?_
  refine i_putI S fl_X12_347 (k47 hL) rfl rfl rfl dX12_says_2 ?_
  refine i_aload_n S dX12_says_5 rfl ?_
  refine i_iconst (v := 0) S dX12_says_6 ic_0 ?_
  refine i_putI S fl_X12_341 (k47 hL) rfl rfl rfl dX12_says_7 ?_
  refine i_iconst (v := 0) S dX12_says_10 ic_0 ?_
  refine i_istore_n (L1 := [some (rf g 47), some (.int x1), some (.int x2), some (.int ((0 : Int32)))]) S dX12_says_11 (by decide) rfl ?_
  obtain ⟨p1, e1, h⟩ := bn h
  have hE1 : if p1.1 = 0 then V 77 [some (rf g 47), some (.int x1), some (.int x2), none] [] p1.2.2 else (V 65 [some (rf g 47), none, none, some (.int p1.2.1)] [] p1.2.2) := by
    by_cases hx1_0 : p1.1 = 0
    · rw [if_pos hx1_0]
      replace h := (if_pos hx1_0).symm.trans h
      refine i_aload_n S dX12_says_77 rfl ?_
      refine i_iconst (v := 1) S dX12_says_78 ic_1 ?_
      obtain ⟨hL2, h⟩ := onLn h
      refine i_putI S fl_X12_341 (k47 hL2) rfl rfl rfl dX12_says_79 ?_
      refine i_aload_n S dX12_says_82 rfl ?_
      refine i_bipush (v := 63) S dX12_says_83 bp_63 ?_
      refine i_iload_n S dX12_says_85 rfl ?_
      refine i_ixor S dX12_says_86 ?_
      refine i_putI S fl_X12_344 (k47 hL2) rfl rfl rfl dX12_says_87 ?_
      refine i_aload_n S dX12_says_90 rfl ?_
      refine i_iload_n S dX12_says_91 rfl ?_
      refine i_bipush (v := 63) S dX12_says_92 bp_63 ?_
      refine i_iload_n S dX12_says_94 rfl ?_
      refine i_ixor S dX12_says_95 ?_
      obtain ⟨p3, e3, h⟩ := bn h
      refine i_callV (As := [.int x1, .int ((63 : Int32) ^^^ x2)]) (st1 := [.int p3.1]) S (c_X12_briefOf g (d + 1) hL2 e3) mw_X12_briefOf lk_X12_338 im_X12_briefOf se_X12_briefOf ci_12.1 ci_12.2.1 (k47 hL2) dX12_says_96 rfl rfl (Nat.le_of_ble_eq_true rfl) rfl ?_
      refine i_aload_n S dX12_says_99 rfl ?_
      refine i_iload_n S dX12_says_100 rfl ?_
      refine i_iconst (v := 1) S dX12_says_101 ic_1 ?_
      obtain ⟨hL4, h⟩ := onLn h
      obtain ⟨p5, e5, h⟩ := bn h
      refine i_callV (As := [.int x1, .int ((1 : Int32))]) (st1 := [.int p5, .int p3.1]) S (c_X12_joinOf g (d + 3) hL4 e5) mw_X12_joinOf lk_X12_325 im_X12_joinOf se_X12_joinOf ci_12.1 ci_12.2.1 (k47 hL4) dX12_says_102 rfl rfl (Nat.le_of_ble_eq_true rfl) rfl ?_
      refine i_iadd S dX12_says_105 ?_
      refine i_aload_n S dX12_says_106 rfl ?_
      refine i_iload_n S dX12_says_107 rfl ?_
      refine i_iload_n S dX12_says_108 rfl ?_
      obtain ⟨p6, e6, h⟩ := bn h
      refine i_callV (As := [.int x1, .int x2]) (st1 := [.int p6.1, .int (p3.1 + p5)]) S (c_X12_briefOf g (d + 1) hL4 e6) mw_X12_briefOf lk_X12_338 im_X12_briefOf se_X12_briefOf ci_12.1 ci_12.2.1 (k47 hL4) dX12_says_109 rfl rfl (Nat.le_of_ble_eq_true rfl) rfl ?_
      refine i_icmp_ne (tgt := 116) S dX12_says_112 (by decide) (fun q7 => ?_) (fun q7 => ?_)
      · replace h := (if_neg q7).symm.trans h
        refine i_aload_n S dX12_says_116 rfl ?_
        refine i_iload_n S dX12_says_117 rfl ?_
        refine i_iload_n S dX12_says_118 rfl ?_
        refine i_iconst (v := 2) S dX12_says_119 ic_2 ?_
        obtain ⟨hL8, h⟩ := onLn h
        obtain ⟨p9, e9, h⟩ := bn h
        refine i_callV (As := [.int x1, .int x2, .int ((2 : Int32))]) (st1 := [.int p9.1]) S (c_X12_findsPair g d hL8 e9) mw_X12_findsPair lk_X12_350 im_X12_findsPair se_X12_findsPair ci_12.1 ci_12.2.1 (k47 hL8) dX12_says_120 rfl rfl (Nat.le_of_ble_eq_true rfl) rfl ?_
        refine i_if_ne (tgt := 148) S dX12_says_123 (by decide) (fun q10 => ?_) (fun q10 => ?_)
        · replace h := (if_neg q10).symm.trans h
          cases h
          exact i_vret S0 dX12_says_148
        · replace h := (if_pos q10).symm.trans h
          refine i_aload_n S dX12_says_126 rfl ?_
          refine i_aload_n S dX12_says_127 rfl ?_
          refine i_iload_n S dX12_says_128 rfl ?_
          refine i_iload_n S dX12_says_129 rfl ?_
          refine i_iconst (v := 3) S dX12_says_130 ic_3 ?_
          obtain ⟨hL11, h⟩ := onLn h
          obtain ⟨p12, e12, h⟩ := bn h
          refine i_callV (As := [.int x1, .int x2, .int ((3 : Int32))]) (st1 := [.int p12.1, rf g 47]) S (c_X12_findsPair g d hL11 e12) mw_X12_findsPair lk_X12_350 im_X12_findsPair se_X12_findsPair ci_12.1 ci_12.2.1 (k47 hL11) dX12_says_131 rfl rfl (Nat.le_of_ble_eq_true rfl) rfl ?_
          obtain ⟨p14, e14, h⟩ := bn h
          have hj14 : ∀ q14, p14 = q14 → V 145 [none, none, none, none] [.int q14, rf g 47] p12.2 := by
            intro q14 hq14
            subst hq14
            obtain ⟨hL15, h⟩ := onLn h
            refine i_putI S fl_X12_344 (k47 hL15) rfl rfl rfl dX12_says_145 ?_
            cases h
            exact i_vret S0 dX12_says_148
          replace h := e14
          clear e14
          refine i_if_eq (tgt := 144) S dX12_says_134 (by decide) (fun q13 => ?_) (fun q13 => ?_)
          · replace h := (if_pos q13).symm.trans h
            refine i_iconst (v := -1) S dX12_says_144 ic_m1 ?_
            refine i_mask (L1 := [none, none, none, none]) S [false, false, false, false] rfl ?_
            have hz := hj14 _ (Option.some.inj h).symm
            exact hz
          · replace h := (if_neg q13).symm.trans h
            refine i_aload_n S dX12_says_137 rfl ?_
            obtain ⟨hL16, h⟩ := onLn h
            refine i_getIv (v := gI p12.2 47 46) S fl_X12_344 (k47 hL16) rfl rfl dX12_says_138 ?_
            refine i_goto (tgt := 145) S dX12_says_141 (by decide) ?_
            refine i_mask (L1 := [none, none, none, none]) S [false, false, false, false] rfl ?_
            have hz := hj14 _ (Option.some.inj h).symm
            exact hz
      · replace h := (if_pos q7).symm.trans h
        cases h
        exact i_vret S0 dX12_says_115
    · rw [if_neg hx1_0]
      replace h := (if_neg hx1_0).symm.trans h
      refine i_aload_n S dX12_says_65 rfl ?_
      refine i_iload_n S dX12_says_66 rfl ?_
      obtain ⟨hL17, h⟩ := onLn h
      refine i_putI S fl_X12_344 (k47 hL17) rfl rfl rfl dX12_says_67 ?_
      cases h
      exact i_vret S0 dX12_says_70
  exact wh_V (P := fun sv1 => V 12 [some (rf g 47), some (.int x1), some (.int x2), some (.int sv1.1)] [] sv1.2) (E := fun xv1 => if xv1.1 = 0 then V 77 [some (rf g 47), some (.int x1), some (.int x2), none] [] xv1.2.2 else (V 65 [some (rf g 47), none, none, some (.int xv1.2.1)] [] xv1.2.2)) (fun sv1 ev hb hc he => t_l_X12_says_12   S  sv1 ev hb hc he) FUEL _ _ e1 hE1
/-! WordYearModel.how -/
noncomputable def f_X12_how (x1 : Int32) (x2 : Int32) (x3 : Int32) (w : Mm) : Option (Int32 × Mm) := Option.bind (f_X12_isTongue x1 w) (fun p1 => if p1 = 0 then (some ((-1 : Int32), w)) else (if (f_X12_isMeaning x2) = 0 then (some ((-1 : Int32), w)) else (if (f_X12_lies x3.toInt64 (0 : Int64) (2 : Int64)) = 0 then (some ((-1 : Int32), w)) else (Option.bind (f_X12_briefOf x1 x2 w) (fun p5 => if p5.1 < (1000000 : Int32) then (onL p5.2 (Option.bind (f_X12_says x1 x2 p5.2) (fun p8 => if x3 = 0 then (onL p8 (some (gI p8 47 45, p8))) else (if x3 = (1 : Int32) then (onL p8 (some (gI p8 47 46, p8))) else (onL p8 (some (gI p8 47 47, p8))))))) else (some ((-2 : Int32), p5.2)))))))
set_option maxHeartbeats 4000000 in
set_option maxRecDepth 100000 in
theorem c_X12_how (g : Gx) (d : Nat) {x1 : Int32} {x2 : Int32} {x3 : Int32} {w : Mm} {p : (Int32 × Mm)} (hL : Lay w) (h : f_X12_how x1 x2 x3 w = some p) : Call g (d + 8) yX12_how cX12_how 4 (some .int) [rf g 47, .int x1, .int x2, .int x3] w (some (.int p.1)) p.2 := by
  refine call_of (L0 := [some (rf g 47), some (.int x1), some (.int x2), some (.int x3)]) (by decide) rfl (Nat.le_of_ble_eq_true rfl) (fun V S0 => ?_)
  have S := S0.b
  unfold f_X12_how at h
  refine i_aload_n S dX12_how_0 rfl ?_
  refine i_iload_n S dX12_how_1 rfl ?_
  obtain ⟨p1, e1, h⟩ := bn h
  refine i_callV (As := [.int x1]) (st1 := [.int p1]) S (c_X12_isTongue g (d + 5) hL e1) mw_X12_isTongue lk_X12_335 im_X12_isTongue se_X12_isTongue ci_12.1 ci_12.2.1 (k47 hL) dX12_how_2 rfl rfl (Nat.le_of_ble_eq_true rfl) rfl ?_
  refine i_if_eq (tgt := 27) S dX12_how_5 (by decide) (fun q2 => ?_) (fun q2 => ?_)
  · replace h := (if_pos q2).symm.trans h
    refine i_iconst (v := -1) S dX12_how_27 ic_m1 ?_
    cases h
    exact i_iret S0 rfl dX12_how_28
  · replace h := (if_neg q2).symm.trans h
    refine i_iload_n S dX12_how_8 rfl ?_
    refine i_callS (As := [.int x2]) (st1 := [.int (f_X12_isMeaning x2)]) S (c_X12_isMeaning g (d + 5) rfl) mw_X12_isMeaning lk_X12_153 im_X12_isMeaning dX12_how_9 rfl rfl (Nat.le_of_ble_eq_true rfl) rfl ?_
    refine i_if_eq (tgt := 27) S dX12_how_12 (by decide) (fun q3 => ?_) (fun q3 => ?_)
    · replace h := (if_pos q3).symm.trans h
      refine i_iconst (v := -1) S dX12_how_27 ic_m1 ?_
      cases h
      exact i_iret S0 rfl dX12_how_28
    · replace h := (if_neg q3).symm.trans h
      refine i_iload_n S dX12_how_15 rfl ?_
      refine i_i2l S dX12_how_16 ?_
      refine i_lconst (v := 0) S dX12_how_17 lc_0 ?_
      refine i_ldc2 S kl_X12_353 dX12_how_18 ?_
      refine i_callS (As := [.long x3.toInt64, .long ((0 : Int64)), .long ((2 : Int64))]) (st1 := [.int (f_X12_lies x3.toInt64 (0 : Int64) (2 : Int64))]) S (c_X12_lies g (d + 6) rfl) mw_X12_lies lk_X12_138 im_X12_lies dX12_how_21 rfl rfl (Nat.le_of_ble_eq_true rfl) rfl ?_
      refine i_if_ne (tgt := 29) S dX12_how_24 (by decide) (fun q4 => ?_) (fun q4 => ?_)
      · replace h := (if_neg q4).symm.trans h
        refine i_aload_n S dX12_how_29 rfl ?_
        refine i_iload_n S dX12_how_30 rfl ?_
        refine i_iload_n S dX12_how_31 rfl ?_
        obtain ⟨p5, e5, h⟩ := bn h
        refine i_callV (As := [.int x1, .int x2]) (st1 := [.int p5.1]) S (c_X12_briefOf g (d + 2) hL e5) mw_X12_briefOf lk_X12_338 im_X12_briefOf se_X12_briefOf ci_12.1 ci_12.2.1 (k47 hL) dX12_how_32 rfl rfl (Nat.le_of_ble_eq_true rfl) rfl ?_
        refine i_ldcw S kc_X12_324 dX12_how_35 ?_
        refine i_icmp_lt (tgt := 44) S dX12_how_38 (by decide) (fun q6 => ?_) (fun q6 => ?_)
        · replace h := (if_pos q6).symm.trans h
          refine i_aload_n S dX12_how_44 rfl ?_
          refine i_iload_n S dX12_how_45 rfl ?_
          refine i_iload_n S dX12_how_46 rfl ?_
          obtain ⟨hL7, h⟩ := onLn h
          obtain ⟨p8, e8, h⟩ := bn h
          refine i_callV (As := [.int x1, .int x2]) (st1 := []) S (c_X12_says g d hL7 e8) mw_X12_says lk_X12_355 im_X12_says se_X12_says ci_12.1 ci_12.2.1 (k47 hL7) dX12_how_47 rfl rfl (Nat.le_of_ble_eq_true rfl) rfl ?_
          refine i_iload_n S dX12_how_50 rfl ?_
          refine i_if_ne (tgt := 61) S dX12_how_51 (by decide) (fun q9 => ?_) (fun q9 => ?_)
          · replace h := (if_neg q9).symm.trans h
            refine i_iload_n S dX12_how_61 rfl ?_
            refine i_iconst (v := 1) S dX12_how_62 ic_1 ?_
            refine i_icmp_ne (tgt := 73) S dX12_how_63 (by decide) (fun q10 => ?_) (fun q10 => ?_)
            · replace h := (if_neg q10).symm.trans h
              refine i_aload_n S dX12_how_73 rfl ?_
              obtain ⟨hL11, h⟩ := onLn h
              refine i_getIv (v := gI p8 47 47) S fl_X12_347 (k47 hL11) rfl rfl dX12_how_74 ?_
              cases h
              exact i_iret S0 rfl dX12_how_77
            · replace h := (if_pos q10).symm.trans h
              refine i_aload_n S dX12_how_66 rfl ?_
              obtain ⟨hL12, h⟩ := onLn h
              refine i_getIv (v := gI p8 47 46) S fl_X12_344 (k47 hL12) rfl rfl dX12_how_67 ?_
              refine i_goto (tgt := 77) S dX12_how_70 (by decide) ?_
              cases h
              exact i_iret S0 rfl dX12_how_77
          · replace h := (if_pos q9).symm.trans h
            refine i_aload_n S dX12_how_54 rfl ?_
            obtain ⟨hL13, h⟩ := onLn h
            refine i_getIv (v := gI p8 47 45) S fl_X12_341 (k47 hL13) rfl rfl dX12_how_55 ?_
            refine i_goto (tgt := 77) S dX12_how_58 (by decide) ?_
            cases h
            exact i_iret S0 rfl dX12_how_77
        · replace h := (if_neg q6).symm.trans h
          refine i_bipush (v := -2) S dX12_how_41 bp_m2 ?_
          cases h
          exact i_iret S0 rfl dX12_how_43
      · replace h := (if_pos q4).symm.trans h
        refine i_iconst (v := -1) S dX12_how_27 ic_m1 ?_
        cases h
        exact i_iret S0 rfl dX12_how_28
/-! WordYearModel.sayableOf -/
noncomputable def l_X12_sayableOf_15 (x1 : Int32) (x2 : Int32) (s : Int32 × Int32 × Mm) : Option ((Int32 × Int32 × Mm) ⊕ (Int32 × Mm)) := if (64 : Int32) ≤ s.2.1 then (some (.inr (s.1, s.2.2))) else (onL s.2.2 (Option.bind (f_X12_briefOf x1 s.2.1 s.2.2) (fun p3 => Option.bind (if s.2.1 = x2 then (some (s.1, p3.2)) else (if (1000000 : Int32) ≤ p3.1 then (some (s.1, p3.2)) else (onL p3.2 (if (gI p3.2 47 17) = 0 then (some (s.1, p3.2)) else (Option.bind (f_X12_costOf x2 s.2.1 p3.1 p3.2) (fun p9 => if p9.1 = (-1 : Int32) then (some (s.1, p9.2)) else (if (p3.1 + p9.1) < s.1 then (onL p9.2 (some (p3.1 + p9.1, sI p9.2 47 48 s.2.1))) else (some (s.1, p9.2))))))))) (fun p5 => some (.inl (p5.1, s.2.1 + (1 : Int32), p5.2))))))
noncomputable def f_X12_sayableOf (x1 : Int32) (x2 : Int32) (w : Mm) : Option (Int32 × Mm) := Option.bind (f_X12_briefOf x1 x2 w) (fun p1 => onL p1.2 (Option.bind (wh (l_X12_sayableOf_15 x1 x2) FUEL (p1.1, (0 : Int32), sI p1.2 47 48 x2)) (fun p3 => some (p3.1, p3.2))))
set_option maxHeartbeats 4000000 in
set_option maxRecDepth 100000 in
theorem t_l_X12_sayableOf_15 {g : Gx} {V : Vt} {d : Nat} (S : MachB g yX12_sayableOf cX12_sayableOf 7 (d + 5) V) {x1 : Int32} {x2 : Int32}  (s : Int32 × Int32 × Mm) (e : (Int32 × Int32 × Mm) ⊕ (Int32 × Mm)) (h : l_X12_sayableOf_15 x1 x2 s = some e) (hC : ∀ s2, e = .inl s2 → V 15 [some (rf g 47), some (.int x1), some (.int x2), some (.int s2.1), some (.int s2.2.1), none, none] [] s2.2.2) (hE : ∀ x, e = .inr x → V 102 [none, none, none, some (.int x.1), none, none, none] [] x.2) : V 15 [some (rf g 47), some (.int x1), some (.int x2), some (.int s.1), some (.int s.2.1), none, none] [] s.2.2 := by
  unfold l_X12_sayableOf_15 at h
  refine i_iload S dX12_sayableOf_15 rfl ?_
  refine i_bipush (v := 64) S dX12_sayableOf_17 bp_64 ?_
  refine i_icmp_ge (tgt := 102) S dX12_sayableOf_19 (by decide) (fun q1 => ?_) (fun q1 => ?_)
  · replace h := (if_pos q1).symm.trans h
    refine i_mask (L1 := [none, none, none, some (.int s.1), none, none, none]) S [false, false, false, true, false, false, false] rfl ?_
    have hz := hE _ (Option.some.inj h).symm
    exact hz
  · replace h := (if_neg q1).symm.trans h
    refine i_aload_n S dX12_sayableOf_22 rfl ?_
    refine i_iload_n S dX12_sayableOf_23 rfl ?_
    refine i_iload S dX12_sayableOf_24 rfl ?_
    obtain ⟨hL2, h⟩ := onLn h
    obtain ⟨p3, e3, h⟩ := bn h
    refine i_callV (As := [.int x1, .int s.2.1]) (st1 := [.int p3.1]) S (c_X12_briefOf g d hL2 e3) mw_X12_briefOf lk_X12_338 im_X12_briefOf se_X12_briefOf ci_12.1 ci_12.2.1 (k47 hL2) dX12_sayableOf_26 rfl rfl (Nat.le_of_ble_eq_true rfl) rfl ?_
    refine i_istore (L1 := [some (rf g 47), some (.int x1), some (.int x2), some (.int s.1), some (.int s.2.1), some (.int p3.1), none]) S dX12_sayableOf_29 (by decide) rfl ?_
    refine i_iload S dX12_sayableOf_31 rfl ?_
    refine i_iload_n S dX12_sayableOf_33 rfl ?_
    obtain ⟨p5, e5, h⟩ := bn h
    have hj5 : ∀ q5, p5 = q5 → V 96 [some (rf g 47), some (.int x1), some (.int x2), some (.int q5.1), some (.int s.2.1), none, none] [] q5.2 := by
      intro q5 hq5
      subst hq5
      refine i_iinc (L1 := [some (rf g 47), some (.int x1), some (.int x2), some (.int p5.1), some (.int (s.2.1 + (1 : Int32))), none, none]) S dX12_sayableOf_96 rfl ic_1 (by decide) rfl ?_
      refine i_goto (tgt := 15) S dX12_sayableOf_99 (by decide) ?_
      have hz := hC _ (Option.some.inj h).symm
      exact hz
    replace h := e5
    clear e5
    refine i_icmp_eq (tgt := 96) S dX12_sayableOf_34 (by decide) (fun q4 => ?_) (fun q4 => ?_)
    · replace h := (if_pos q4).symm.trans h
      refine i_mask (L1 := [some (rf g 47), some (.int x1), some (.int x2), some (.int s.1), some (.int s.2.1), none, none]) S [true, true, true, true, true, false, false] rfl ?_
      have hz := hj5 _ (Option.some.inj h).symm
      exact hz
    · replace h := (if_neg q4).symm.trans h
      refine i_iload S dX12_sayableOf_37 rfl ?_
      refine i_ldcw S kc_X12_324 dX12_sayableOf_39 ?_
      refine i_icmp_ge (tgt := 96) S dX12_sayableOf_42 (by decide) (fun q6 => ?_) (fun q6 => ?_)
      · replace h := (if_pos q6).symm.trans h
        refine i_mask (L1 := [some (rf g 47), some (.int x1), some (.int x2), some (.int s.1), some (.int s.2.1), none, none]) S [true, true, true, true, true, false, false] rfl ?_
        have hz := hj5 _ (Option.some.inj h).symm
        exact hz
      · replace h := (if_neg q6).symm.trans h
        refine i_aload_n S dX12_sayableOf_45 rfl ?_
        obtain ⟨hL7, h⟩ := onLn h
        refine i_getIv (v := gI p3.2 47 17) S fl_X12_291 (k47 hL7) rfl rfl dX12_sayableOf_46 ?_
        refine i_if_ne (tgt := 55) S dX12_sayableOf_49 (by decide) (fun q8 => ?_) (fun q8 => ?_)
        · replace h := (if_neg q8).symm.trans h
          refine i_aload_n S dX12_sayableOf_55 rfl ?_
          refine i_iload_n S dX12_sayableOf_56 rfl ?_
          refine i_iload S dX12_sayableOf_57 rfl ?_
          refine i_iload S dX12_sayableOf_59 rfl ?_
          obtain ⟨p9, e9, h⟩ := bn h
          refine i_callV (As := [.int x2, .int s.2.1, .int p3.1]) (st1 := [.int p9.1]) S (c_X12_costOf g (d + 1) hL7 e9) mw_X12_costOf lk_X12_361 im_X12_costOf se_X12_costOf ci_12.1 ci_12.2.1 (k47 hL7) dX12_sayableOf_61 rfl rfl (Nat.le_of_ble_eq_true rfl) rfl ?_
          refine i_istore (L1 := [some (rf g 47), some (.int x1), some (.int x2), some (.int s.1), some (.int s.2.1), some (.int p3.1), some (.int p9.1)]) S dX12_sayableOf_64 (by decide) rfl ?_
          refine i_iload S dX12_sayableOf_66 rfl ?_
          refine i_iconst (v := -1) S dX12_sayableOf_68 ic_m1 ?_
          refine i_icmp_eq (tgt := 96) S dX12_sayableOf_69 (by decide) (fun q10 => ?_) (fun q10 => ?_)
          · replace h := (if_pos q10).symm.trans h
            refine i_mask (L1 := [some (rf g 47), some (.int x1), some (.int x2), some (.int s.1), some (.int s.2.1), none, none]) S [true, true, true, true, true, false, false] rfl ?_
            have hz := hj5 _ (Option.some.inj h).symm
            exact hz
          · replace h := (if_neg q10).symm.trans h
            refine i_iload S dX12_sayableOf_72 rfl ?_
            refine i_iload S dX12_sayableOf_74 rfl ?_
            refine i_iadd S dX12_sayableOf_76 ?_
            refine i_iload_n S dX12_sayableOf_77 rfl ?_
            refine i_icmp_lt (tgt := 84) S dX12_sayableOf_78 (by decide) (fun q11 => ?_) (fun q11 => ?_)
            · replace h := (if_pos q11).symm.trans h
              refine i_iload S dX12_sayableOf_84 rfl ?_
              refine i_iload S dX12_sayableOf_86 rfl ?_
              refine i_iadd S dX12_sayableOf_88 ?_
              refine i_istore_n (L1 := [some (rf g 47), some (.int x1), some (.int x2), some (.int (p3.1 + p9.1)), some (.int s.2.1), some (.int p3.1), some (.int p9.1)]) S dX12_sayableOf_89 (by decide) rfl ?_
              refine i_aload_n S dX12_sayableOf_90 rfl ?_
              refine i_iload S dX12_sayableOf_91 rfl ?_
              obtain ⟨hL12, h⟩ := onLn h
              refine i_putI S fl_X12_358 (k47 hL12) rfl rfl rfl dX12_sayableOf_93 ?_
              refine i_mask (L1 := [some (rf g 47), some (.int x1), some (.int x2), some (.int (p3.1 + p9.1)), some (.int s.2.1), none, none]) S [true, true, true, true, true, false, false] rfl ?_
              have hz := hj5 _ (Option.some.inj h).symm
              exact hz
            · replace h := (if_neg q11).symm.trans h
              refine i_goto (tgt := 96) S dX12_sayableOf_81 (by decide) ?_
              refine i_mask (L1 := [some (rf g 47), some (.int x1), some (.int x2), some (.int s.1), some (.int s.2.1), none, none]) S [true, true, true, true, true, false, false] rfl ?_
              have hz := hj5 _ (Option.some.inj h).symm
              exact hz
        · replace h := (if_pos q8).symm.trans h
          refine i_goto (tgt := 96) S dX12_sayableOf_52 (by decide) ?_
          refine i_mask (L1 := [some (rf g 47), some (.int x1), some (.int x2), some (.int s.1), some (.int s.2.1), none, none]) S [true, true, true, true, true, false, false] rfl ?_
          have hz := hj5 _ (Option.some.inj h).symm
          exact hz
set_option maxHeartbeats 4000000 in
set_option maxRecDepth 100000 in
theorem c_X12_sayableOf (g : Gx) (d : Nat) {x1 : Int32} {x2 : Int32} {w : Mm} {p : (Int32 × Mm)} (hL : Lay w) (h : f_X12_sayableOf x1 x2 w = some p) : Call g (d + 6) yX12_sayableOf cX12_sayableOf 7 (some .int) [rf g 47, .int x1, .int x2] w (some (.int p.1)) p.2 := by
  refine call_of (L0 := [some (rf g 47), some (.int x1), some (.int x2), none, none, none, none]) (by decide) rfl (Nat.le_of_ble_eq_true rfl) (fun V S0 => ?_)
  have S := S0.b
  unfold f_X12_sayableOf at h
  refine i_aload_n S dX12_sayableOf_0 rfl ?_
  refine i_iload_n S dX12_sayableOf_1 rfl ?_
  refine i_iload_n S dX12_sayableOf_2 rfl ?_
  obtain ⟨p1, e1, h⟩ := bn h
  refine i_callV (As := [.int x1, .int x2]) (st1 := [.int p1.1]) S (c_X12_briefOf g d hL e1) mw_X12_briefOf lk_X12_338 im_X12_briefOf se_X12_briefOf ci_12.1 ci_12.2.1 (k47 hL) dX12_sayableOf_3 rfl rfl (Nat.le_of_ble_eq_true rfl) rfl ?_
  refine i_istore_n (L1 := [some (rf g 47), some (.int x1), some (.int x2), some (.int p1.1), none, none, none]) S dX12_sayableOf_6 (by decide) rfl ?_
  refine i_aload_n S dX12_sayableOf_7 rfl ?_
  refine i_iload_n S dX12_sayableOf_8 rfl ?_
  obtain ⟨hL2, h⟩ := onLn h
  refine i_putI S fl_X12_358 (k47 hL2) rfl rfl rfl dX12_sayableOf_9 ?_
  refine i_iconst (v := 0) S dX12_sayableOf_12 ic_0 ?_
  refine i_istore (L1 := [some (rf g 47), some (.int x1), some (.int x2), some (.int p1.1), some (.int ((0 : Int32))), none, none]) S dX12_sayableOf_13 (by decide) rfl ?_
  obtain ⟨p3, e3, h⟩ := bn h
  have hE3 : V 102 [none, none, none, some (.int p3.1), none, none, none] [] p3.2 := by
    refine i_iload_n S dX12_sayableOf_102 rfl ?_
    cases h
    exact i_iret S0 rfl dX12_sayableOf_103
  exact wh_V (P := fun sv3 => V 15 [some (rf g 47), some (.int x1), some (.int x2), some (.int sv3.1), some (.int sv3.2.1), none, none] [] sv3.2.2) (E := fun xv3 => V 102 [none, none, none, some (.int xv3.1), none, none, none] [] xv3.2) (fun sv3 ev hb hc he => t_l_X12_sayableOf_15   S  sv3 ev hb hc he) FUEL _ _ e3 hE3
/-! WordYearModel.sayable -/
noncomputable def f_X12_sayable (x1 : Int32) (x2 : Int32) (x3 : Int32) (w : Mm) : Option (Int32 × Mm) := Option.bind (f_X12_isTongue x1 w) (fun p1 => if p1 = 0 then (some ((-1 : Int32), w)) else (if (f_X12_isMeaning x2) = 0 then (some ((-1 : Int32), w)) else (if (f_X12_lies x3.toInt64 (0 : Int64) (1 : Int64)) = 0 then (some ((-1 : Int32), w)) else (Option.bind (f_X12_sayableOf x1 x2 w) (fun p5 => if p5.1 < (1000000 : Int32) then (if x3 = 0 then (some (p5.1, p5.2)) else (onL p5.2 (some (gI p5.2 47 48, p5.2)))) else (some ((-2 : Int32), p5.2)))))))
set_option maxHeartbeats 4000000 in
set_option maxRecDepth 100000 in
theorem c_X12_sayable (g : Gx) (d : Nat) {x1 : Int32} {x2 : Int32} {x3 : Int32} {w : Mm} {p : (Int32 × Mm)} (hL : Lay w) (h : f_X12_sayable x1 x2 x3 w = some p) : Call g (d + 7) yX12_sayable cX12_sayable 5 (some .int) [rf g 47, .int x1, .int x2, .int x3] w (some (.int p.1)) p.2 := by
  refine call_of (L0 := [some (rf g 47), some (.int x1), some (.int x2), some (.int x3), none]) (by decide) rfl (Nat.le_of_ble_eq_true rfl) (fun V S0 => ?_)
  have S := S0.b
  unfold f_X12_sayable at h
  refine i_aload_n S dX12_sayable_0 rfl ?_
  refine i_iload_n S dX12_sayable_1 rfl ?_
  obtain ⟨p1, e1, h⟩ := bn h
  refine i_callV (As := [.int x1]) (st1 := [.int p1]) S (c_X12_isTongue g (d + 4) hL e1) mw_X12_isTongue lk_X12_335 im_X12_isTongue se_X12_isTongue ci_12.1 ci_12.2.1 (k47 hL) dX12_sayable_2 rfl rfl (Nat.le_of_ble_eq_true rfl) rfl ?_
  refine i_if_eq (tgt := 25) S dX12_sayable_5 (by decide) (fun q2 => ?_) (fun q2 => ?_)
  · replace h := (if_pos q2).symm.trans h
    refine i_iconst (v := -1) S dX12_sayable_25 ic_m1 ?_
    cases h
    exact i_iret S0 rfl dX12_sayable_26
  · replace h := (if_neg q2).symm.trans h
    refine i_iload_n S dX12_sayable_8 rfl ?_
    refine i_callS (As := [.int x2]) (st1 := [.int (f_X12_isMeaning x2)]) S (c_X12_isMeaning g (d + 4) rfl) mw_X12_isMeaning lk_X12_153 im_X12_isMeaning dX12_sayable_9 rfl rfl (Nat.le_of_ble_eq_true rfl) rfl ?_
    refine i_if_eq (tgt := 25) S dX12_sayable_12 (by decide) (fun q3 => ?_) (fun q3 => ?_)
    · replace h := (if_pos q3).symm.trans h
      refine i_iconst (v := -1) S dX12_sayable_25 ic_m1 ?_
      cases h
      exact i_iret S0 rfl dX12_sayable_26
    · replace h := (if_neg q3).symm.trans h
      refine i_iload_n S dX12_sayable_15 rfl ?_
      refine i_i2l S dX12_sayable_16 ?_
      refine i_lconst (v := 0) S dX12_sayable_17 lc_0 ?_
      refine i_lconst (v := 1) S dX12_sayable_18 lc_1 ?_
      refine i_callS (As := [.long x3.toInt64, .long ((0 : Int64)), .long ((1 : Int64))]) (st1 := [.int (f_X12_lies x3.toInt64 (0 : Int64) (1 : Int64))]) S (c_X12_lies g (d + 5) rfl) mw_X12_lies lk_X12_138 im_X12_lies dX12_sayable_19 rfl rfl (Nat.le_of_ble_eq_true rfl) rfl ?_
      refine i_if_ne (tgt := 27) S dX12_sayable_22 (by decide) (fun q4 => ?_) (fun q4 => ?_)
      · replace h := (if_neg q4).symm.trans h
        refine i_aload_n S dX12_sayable_27 rfl ?_
        refine i_iload_n S dX12_sayable_28 rfl ?_
        refine i_iload_n S dX12_sayable_29 rfl ?_
        obtain ⟨p5, e5, h⟩ := bn h
        refine i_callV (As := [.int x1, .int x2]) (st1 := [.int p5.1]) S (c_X12_sayableOf g d hL e5) mw_X12_sayableOf lk_X12_364 im_X12_sayableOf se_X12_sayableOf ci_12.1 ci_12.2.1 (k47 hL) dX12_sayable_30 rfl rfl (Nat.le_of_ble_eq_true rfl) rfl ?_
        refine i_istore (L1 := [some (rf g 47), some (.int x1), some (.int x2), some (.int x3), some (.int p5.1)]) S dX12_sayable_33 (by decide) rfl ?_
        refine i_iload S dX12_sayable_35 rfl ?_
        refine i_ldcw S kc_X12_324 dX12_sayable_37 ?_
        refine i_icmp_lt (tgt := 48) S dX12_sayable_40 (by decide) (fun q6 => ?_) (fun q6 => ?_)
        · replace h := (if_pos q6).symm.trans h
          refine i_iload_n S dX12_sayable_48 rfl ?_
          refine i_if_ne (tgt := 57) S dX12_sayable_49 (by decide) (fun q7 => ?_) (fun q7 => ?_)
          · replace h := (if_neg q7).symm.trans h
            refine i_aload_n S dX12_sayable_57 rfl ?_
            obtain ⟨hL8, h⟩ := onLn h
            refine i_getIv (v := gI p5.2 47 48) S fl_X12_358 (k47 hL8) rfl rfl dX12_sayable_58 ?_
            cases h
            exact i_iret S0 rfl dX12_sayable_61
          · replace h := (if_pos q7).symm.trans h
            refine i_iload S dX12_sayable_52 rfl ?_
            refine i_goto (tgt := 61) S dX12_sayable_54 (by decide) ?_
            cases h
            exact i_iret S0 rfl dX12_sayable_61
        · replace h := (if_neg q6).symm.trans h
          refine i_bipush (v := -2) S dX12_sayable_43 bp_m2 ?_
          refine i_goto (tgt := 61) S dX12_sayable_45 (by decide) ?_
          cases h
          exact i_iret S0 rfl dX12_sayable_61
      · replace h := (if_pos q4).symm.trans h
        refine i_iconst (v := -1) S dX12_sayable_25 ic_m1 ?_
        cases h
        exact i_iret S0 rfl dX12_sayable_26
