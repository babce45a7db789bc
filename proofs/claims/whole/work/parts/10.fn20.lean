/-! WordYearModel.talkWith -/
noncomputable def l_X12_talkWith_11 (x1 : Int32) (x2 : Int32) (x3 : Int32) (s : Int32 × Mm) : Option ((Int32 × Mm) ⊕ (Mm)) := if (64 : Int32) ≤ s.1 then (some (.inr s.2)) else (onL s.2 (if inb s.1 64 = true then (if inb (x3 + s.1) 65536 = true then (some (.inl (s.1 + (1 : Int32), sI s.2 72 (ix (x3 + s.1)) (gI s.2 86 (ix s.1))))) else none) else none))
noncomputable def l_X12_talkWith_182 (x3 : Int32) (x4 : Int32) (x5 : Int32) (x6 : Int32) (x8 : Int32) (s : Int32 × Int32 × Mm) : Option ((Int32 × Int32 × Mm) ⊕ (Int32 × Mm)) := if x8 ≤ s.2.1 then (some (.inr (s.1, s.2.2))) else (onL s.2.2 (if inb (x3 + x8) 65536 = true then (if inb (x3 + s.2.1) 65536 = true then (Option.bind (if ((gI s.2.2 72 (ix (x3 + x8))) + (gI s.2.2 72 (ix (x3 + s.2.1)))) < (1000000 : Int32) then (Option.bind (f_X12_shortens x3 (x8 &&& s.2.1) (((gI s.2.2 72 (ix (x3 + x8))) + (gI s.2.2 72 (ix (x3 + s.2.1)))) + x5) s.2.2) (fun p9 => Option.bind (mg (if p9.1 = 0 then (if s.1 = 0 then (some (.inr (0 : Int32))) else (some (.inl ()))) else (some (.inl ()))) (fun p18 => some (1 : Int32))) (fun p11 => onL p9.2 (Option.bind (f_X12_shortens x3 (x8 ||| s.2.1) (((gI s.2.2 72 (ix (x3 + x8))) + (gI s.2.2 72 (ix (x3 + s.2.1)))) + x6) p9.2) (fun p13 => Option.bind (mg (if p13.1 = 0 then (if p11 = 0 then (some (.inr (0 : Int32))) else (some (.inl ()))) else (some (.inl ()))) (fun p16 => some (1 : Int32))) (fun p15 => some (p15, p13.2))))))) else (some (s.1, s.2.2))) (fun p8 => some (.inl (p8.1, s.2.1 + (1 : Int32), p8.2)))) else none) else none))
noncomputable def l_X12_talkWith_117 (x3 : Int32) (x4 : Int32) (x5 : Int32) (x6 : Int32) (s : Int32 × Int32 × Mm) : Option ((Int32 × Int32 × Mm) ⊕ (Int32 × Mm)) := if (64 : Int32) ≤ s.2.1 then (some (.inr (s.1, s.2.2))) else (onL s.2.2 (if inb (x3 + s.2.1) 65536 = true then (Option.bind (if (gI s.2.2 72 (ix (x3 + s.2.1))) < (1000000 : Int32) then (Option.bind (f_X12_shortens x3 ((63 : Int32) ^^^ s.2.1) ((gI s.2.2 72 (ix (x3 + s.2.1))) + x4) s.2.2) (fun p8 => Option.bind (mg (if p8.1 = 0 then (if s.1 = 0 then (some (.inr (0 : Int32))) else (some (.inl ()))) else (some (.inl ()))) (fun p12 => some (1 : Int32))) (fun p10 => Option.bind (wh (l_X12_talkWith_182 x3 x4 x5 x6 s.2.1) FUEL (p10, (0 : Int32), p8.2)) (fun p11 => some (p11.1, p11.2))))) else (some (s.1, s.2.2))) (fun p6 => some (.inl (p6.1, s.2.1 + (1 : Int32), p6.2)))) else none))
noncomputable def l_X12_talkWith_106 (x3 : Int32) (x4 : Int32) (x5 : Int32) (x6 : Int32) (s : Int32 × Mm) : Option ((Int32 × Mm) ⊕ (Mm)) := if s.1 = 0 then (some (.inr s.2)) else (Option.bind (wh (l_X12_talkWith_117 x3 x4 x5 x6) FUEL ((0 : Int32), (0 : Int32), s.2)) (fun p2 => some (.inl (p2.1, p2.2))))
noncomputable def l_X12_talkWith_302  (s : Int64 × Int32 × Mm) : Option ((Int64 × Int32 × Mm) ⊕ (Int64 × Mm)) := onL s.2.2 (if (gI s.2.2 47 3) ≤ s.2.1 then (some (.inr (s.1, s.2.2))) else (if inb s.2.1 24 = true then (Option.bind (f_X12_sayableOf (gI s.2.2 47 6) (gI s.2.2 55 (ix s.2.1)) s.2.2) (fun p5 => onL p5.2 (Option.bind (if (gI p5.2 47 5) ≤ p5.1 then (some (gI p5.2 47 5)) else (some p5.1)) (fun p9 => some (.inl (s.1 + (((gI p5.2 56 (ix s.2.1)).toInt64) * p9.toInt64), s.2.1 + (1 : Int32), p5.2)))))) else none))
noncomputable def f_X12_talkWith (x1 : Int32) (x2 : Int32) (w : Mm) : Option (Int64 × Mm) := Option.bind (wh (l_X12_talkWith_11 x1 x2 ((64 : Int32) * (gI w 47 6))) FUEL ((0 : Int32), w)) (fun p1 => onL p1 (if inb (((64 : Int32) * (gI w 47 6)) + x1) 65536 = true then (if x2 < (gI p1 72 (ix (((64 : Int32) * (gI w 47 6)) + x1))) then (Option.bind (f_X12_joinOf (gI p1 47 6) (1 : Int32) (sI p1 72 (ix (((64 : Int32) * (gI w 47 6)) + x1)) x2)) (fun p7 => Option.bind (f_X12_joinOf (gI p1 47 6) (2 : Int32) (sI p1 72 (ix (((64 : Int32) * (gI w 47 6)) + x1)) x2)) (fun p8 => Option.bind (f_X12_joinOf (gI p1 47 6) (3 : Int32) (sI p1 72 (ix (((64 : Int32) * (gI w 47 6)) + x1)) x2)) (fun p9 => Option.bind (wh (l_X12_talkWith_106 ((64 : Int32) * (gI w 47 6)) p7 p8 p9) FUEL ((1 : Int32), sI p1 72 (ix (((64 : Int32) * (gI w 47 6)) + x1)) x2)) (fun p10 => Option.bind (wh l_X12_talkWith_302 FUEL ((0 : Int64), (0 : Int32), p10)) (fun p11 => some (p11.1, p11.2))))))) else (Option.bind (f_X12_talkOf (gI p1 47 6) p1) (fun p12 => some (p12.1, p12.2)))) else none))
set_option maxHeartbeats 4000000 in
set_option maxRecDepth 100000 in
theorem t_l_X12_talkWith_11 {g : Gx} {V : Vt} {d : Nat} (S : MachB g yX12_talkWith cX12_talkWith 12 (d + 9) V) {x1 : Int32} {x2 : Int32} {x3 : Int32}  (s : Int32 × Mm) (e : (Int32 × Mm) ⊕ (Mm)) (h : l_X12_talkWith_11 x1 x2 x3 s = some e) (hC : ∀ s2, e = .inl s2 → V 11 [some (rf g 47), some (.int x1), some (.int x2), some (.int x3), some (.int s2.1), none, none, none, none, none, none, none] [] s2.2) (hE : ∀ x, e = .inr x → V 40 [some (rf g 47), some (.int x1), some (.int x2), some (.int x3), none, none, none, none, none, none, none, none] [] x) : V 11 [some (rf g 47), some (.int x1), some (.int x2), some (.int x3), some (.int s.1), none, none, none, none, none, none, none] [] s.2 := by
  unfold l_X12_talkWith_11 at h
  refine i_iload S dX12_talkWith_11 rfl ?_
  refine i_bipush (v := 64) S dX12_talkWith_13 bp_64 ?_
  refine i_icmp_ge (tgt := 40) S dX12_talkWith_15 (by decide) (fun q1 => ?_) (fun q1 => ?_)
  · replace h := (if_pos q1).symm.trans h
    refine i_mask (L1 := [some (rf g 47), some (.int x1), some (.int x2), some (.int x3), none, none, none, none, none, none, none, none]) S [true, true, true, true, false, false, false, false, false, false, false, false] rfl ?_
    have hz := hE _ (Option.some.inj h).symm
    exact hz
  · replace h := (if_neg q1).symm.trans h
    refine i_aload_n S dX12_talkWith_18 rfl ?_
    obtain ⟨hL2, h⟩ := onLn h
    refine i_getR S fl_X12_89 (k47 hL2) (r47_44 hL2) rfl dX12_talkWith_19 ?_
    refine i_iload_n S dX12_talkWith_22 rfl ?_
    refine i_iload S dX12_talkWith_23 rfl ?_
    refine i_iadd S dX12_talkWith_25 ?_
    refine i_aload_n S dX12_talkWith_26 rfl ?_
    refine i_getR S fl_X12_132 (k47 hL2) (r47_63 hL2) rfl dX12_talkWith_27 ?_
    refine i_iload S dX12_talkWith_30 rfl ?_
    obtain ⟨hi4, h⟩ := gd h
    refine i_ialdv (v := gI s.2 86 (ix s.1)) S (k86 hL2) hi4 rfl dX12_talkWith_32 ?_
    obtain ⟨hi6, h⟩ := gd h
    refine i_iast S (k72 hL2) hi6 dX12_talkWith_33 ?_
    refine i_iinc (L1 := [some (rf g 47), some (.int x1), some (.int x2), some (.int x3), some (.int (s.1 + (1 : Int32))), none, none, none, none, none, none, none]) S dX12_talkWith_34 rfl ic_1 (by decide) rfl ?_
    refine i_goto (tgt := 11) S dX12_talkWith_37 (by decide) ?_
    have hz := hC _ (Option.some.inj h).symm
    exact hz
set_option maxHeartbeats 4000000 in
set_option maxRecDepth 100000 in
theorem t_l_X12_talkWith_182 {g : Gx} {V : Vt} {d : Nat} (S : MachB g yX12_talkWith cX12_talkWith 12 (d + 9) V) {x3 : Int32} {x4 : Int32} {x5 : Int32} {x6 : Int32} {x8 : Int32}  (s : Int32 × Int32 × Mm) (e : (Int32 × Int32 × Mm) ⊕ (Int32 × Mm)) (h : l_X12_talkWith_182 x3 x4 x5 x6 x8 s = some e) (hC : ∀ s2, e = .inl s2 → V 182 [some (rf g 47), none, none, some (.int x3), some (.int x4), some (.int x5), some (.int x6), some (.int s2.1), some (.int x8), some (.int s2.2.1), none, none] [] s2.2.2) (hE : ∀ x, e = .inr x → V 287 [some (rf g 47), none, none, some (.int x3), some (.int x4), some (.int x5), some (.int x6), some (.int x.1), some (.int x8), none, none, none] [] x.2) : V 182 [some (rf g 47), none, none, some (.int x3), some (.int x4), some (.int x5), some (.int x6), some (.int s.1), some (.int x8), some (.int s.2.1), none, none] [] s.2.2 := by
  unfold l_X12_talkWith_182 at h
  refine i_iload S dX12_talkWith_182 rfl ?_
  refine i_iload S dX12_talkWith_184 rfl ?_
  refine i_icmp_ge (tgt := 287) S dX12_talkWith_186 (by decide) (fun q1 => ?_) (fun q1 => ?_)
  · replace h := (if_pos q1).symm.trans h
    refine i_mask (L1 := [some (rf g 47), none, none, some (.int x3), some (.int x4), some (.int x5), some (.int x6), some (.int s.1), some (.int x8), none, none, none]) S [true, false, false, true, true, true, true, true, true, false, false, false] rfl ?_
    have hz := hE _ (Option.some.inj h).symm
    exact hz
  · replace h := (if_neg q1).symm.trans h
    refine i_aload_n S dX12_talkWith_189 rfl ?_
    obtain ⟨hL2, h⟩ := onLn h
    refine i_getR S fl_X12_89 (k47 hL2) (r47_44 hL2) rfl dX12_talkWith_190 ?_
    refine i_iload_n S dX12_talkWith_193 rfl ?_
    refine i_iload S dX12_talkWith_194 rfl ?_
    refine i_iadd S dX12_talkWith_196 ?_
    obtain ⟨hi4, h⟩ := gd h
    refine i_ialdv (v := gI s.2.2 72 (ix (x3 + x8))) S (k72 hL2) hi4 rfl dX12_talkWith_197 ?_
    refine i_aload_n S dX12_talkWith_198 rfl ?_
    refine i_getR S fl_X12_89 (k47 hL2) (r47_44 hL2) rfl dX12_talkWith_199 ?_
    refine i_iload_n S dX12_talkWith_202 rfl ?_
    refine i_iload S dX12_talkWith_203 rfl ?_
    refine i_iadd S dX12_talkWith_205 ?_
    obtain ⟨hi6, h⟩ := gd h
    refine i_ialdv (v := gI s.2.2 72 (ix (x3 + s.2.1))) S (k72 hL2) hi6 rfl dX12_talkWith_206 ?_
    refine i_iadd S dX12_talkWith_207 ?_
    refine i_istore (L1 := [some (rf g 47), none, none, some (.int x3), some (.int x4), some (.int x5), some (.int x6), some (.int s.1), some (.int x8), some (.int s.2.1), some (.int ((gI s.2.2 72 (ix (x3 + x8))) + (gI s.2.2 72 (ix (x3 + s.2.1))))), none]) S dX12_talkWith_208 (by decide) rfl ?_
    refine i_iload S dX12_talkWith_210 rfl ?_
    refine i_ldcw S kc_X12_324 dX12_talkWith_212 ?_
    obtain ⟨p8, e8, h⟩ := bn h
    have hj8 : ∀ q8, p8 = q8 → V 281 [some (rf g 47), none, none, some (.int x3), some (.int x4), some (.int x5), some (.int x6), some (.int q8.1), some (.int x8), some (.int s.2.1), none, none] [] q8.2 := by
      intro q8 hq8
      subst hq8
      refine i_iinc (L1 := [some (rf g 47), none, none, some (.int x3), some (.int x4), some (.int x5), some (.int x6), some (.int p8.1), some (.int x8), some (.int (s.2.1 + (1 : Int32))), none, none]) S dX12_talkWith_281 rfl ic_1 (by decide) rfl ?_
      refine i_goto (tgt := 182) S dX12_talkWith_284 (by decide) ?_
      have hz := hC _ (Option.some.inj h).symm
      exact hz
    replace h := e8
    clear e8
    refine i_icmp_lt (tgt := 221) S dX12_talkWith_215 (by decide) (fun q7 => ?_) (fun q7 => ?_)
    · replace h := (if_pos q7).symm.trans h
      refine i_aload_n S dX12_talkWith_221 rfl ?_
      refine i_iload_n S dX12_talkWith_222 rfl ?_
      refine i_iload S dX12_talkWith_223 rfl ?_
      refine i_iload S dX12_talkWith_225 rfl ?_
      refine i_iand S dX12_talkWith_227 ?_
      refine i_iload S dX12_talkWith_228 rfl ?_
      refine i_iload S dX12_talkWith_230 rfl ?_
      refine i_iadd S dX12_talkWith_232 ?_
      obtain ⟨p9, e9, h⟩ := bn h
      refine i_callV (As := [.int x3, .int (x8 &&& s.2.1), .int (((gI s.2.2 72 (ix (x3 + x8))) + (gI s.2.2 72 (ix (x3 + s.2.1)))) + x5)]) (st1 := [.int p9.1]) S (c_X12_shortens g (d + 8) hL2 e9) mw_X12_shortens lk_X12_328 im_X12_shortens se_X12_shortens ci_12.1 ci_12.2.1 (k47 hL2) dX12_talkWith_233 rfl rfl (Nat.le_of_ble_eq_true rfl) rfl ?_
      obtain ⟨p11, e11, h⟩ := bn h
      have hj11 : ∀ q11, p11 = q11 → V 249 [some (rf g 47), none, none, some (.int x3), some (.int x4), some (.int x5), some (.int x6), none, some (.int x8), some (.int s.2.1), some (.int ((gI s.2.2 72 (ix (x3 + x8))) + (gI s.2.2 72 (ix (x3 + s.2.1))))), none] [.int q11] p9.2 := by
        intro q11 hq11
        subst hq11
        refine i_istore (L1 := [some (rf g 47), none, none, some (.int x3), some (.int x4), some (.int x5), some (.int x6), some (.int p11), some (.int x8), some (.int s.2.1), some (.int ((gI s.2.2 72 (ix (x3 + x8))) + (gI s.2.2 72 (ix (x3 + s.2.1))))), none]) S dX12_talkWith_249 (by decide) rfl ?_
        refine i_aload_n S dX12_talkWith_251 rfl ?_
        refine i_iload_n S dX12_talkWith_252 rfl ?_
        refine i_iload S dX12_talkWith_253 rfl ?_
        refine i_iload S dX12_talkWith_255 rfl ?_
        refine i_ior S dX12_talkWith_257 ?_
        refine i_iload S dX12_talkWith_258 rfl ?_
        refine i_iload S dX12_talkWith_260 rfl ?_
        refine i_iadd S dX12_talkWith_262 ?_
        obtain ⟨hL12, h⟩ := onLn h
        obtain ⟨p13, e13, h⟩ := bn h
        refine i_callV (As := [.int x3, .int (x8 ||| s.2.1), .int (((gI s.2.2 72 (ix (x3 + x8))) + (gI s.2.2 72 (ix (x3 + s.2.1)))) + x6)]) (st1 := [.int p13.1]) S (c_X12_shortens g (d + 8) hL12 e13) mw_X12_shortens lk_X12_328 im_X12_shortens se_X12_shortens ci_12.1 ci_12.2.1 (k47 hL12) dX12_talkWith_263 rfl rfl (Nat.le_of_ble_eq_true rfl) rfl ?_
        obtain ⟨p15, e15, h⟩ := bn h
        have hj15 : ∀ q15, p15 = q15 → V 279 [some (rf g 47), none, none, some (.int x3), some (.int x4), some (.int x5), some (.int x6), none, some (.int x8), some (.int s.2.1), none, none] [.int q15] p13.2 := by
          intro q15 hq15
          subst hq15
          refine i_istore (L1 := [some (rf g 47), none, none, some (.int x3), some (.int x4), some (.int x5), some (.int x6), some (.int p15), some (.int x8), some (.int s.2.1), none, none]) S dX12_talkWith_279 (by decide) rfl ?_
          have hz := hj8 _ (Option.some.inj h).symm
          exact hz
        replace h := e15
        clear e15
        obtain ⟨s16, e16, hm16, ho16⟩ := mgn h
        have hj16 : ∀ p16, s16 = .inl p16 → V 274 [some (rf g 47), none, none, some (.int x3), some (.int x4), some (.int x5), some (.int x6), none, some (.int x8), some (.int s.2.1), none, none] [] p13.2 := by
          intro p16 ep16
          have h := hm16 p16 ep16
          refine i_iconst (v := 1) S dX12_talkWith_274 ic_1 ?_
          refine i_goto (tgt := 279) S dX12_talkWith_275 (by decide) ?_
          have hz := hj15 _ (Option.some.inj h).symm
          exact hz
        replace h := e16
        clear e16
        refine i_if_ne (tgt := 274) S dX12_talkWith_266 (by decide) (fun q14 => ?_) (fun q14 => ?_)
        · replace h := (if_neg q14).symm.trans h
          refine i_mask (L1 := [some (rf g 47), none, none, some (.int x3), some (.int x4), some (.int x5), some (.int x6), none, some (.int x8), some (.int s.2.1), none, none]) S [true, false, false, true, true, true, true, false, true, true, false, false] rfl ?_
          have hz := hj16 _ (Option.some.inj h).symm
          exact hz
        · replace h := (if_pos q14).symm.trans h
          refine i_iload S dX12_talkWith_269 rfl ?_
          refine i_if_eq (tgt := 278) S dX12_talkWith_271 (by decide) (fun q17 => ?_) (fun q17 => ?_)
          · replace h := (if_pos q17).symm.trans h
            refine i_iconst (v := 0) S dX12_talkWith_278 ic_0 ?_
            replace h := ho16 _ (Option.some.inj h).symm
            refine i_mask (L1 := [some (rf g 47), none, none, some (.int x3), some (.int x4), some (.int x5), some (.int x6), none, some (.int x8), some (.int s.2.1), none, none]) S [true, false, false, true, true, true, true, false, true, true, false, false] rfl ?_
            have hz := hj15 _ (Option.some.inj h).symm
            exact hz
          · replace h := (if_neg q17).symm.trans h
            refine i_mask (L1 := [some (rf g 47), none, none, some (.int x3), some (.int x4), some (.int x5), some (.int x6), none, some (.int x8), some (.int s.2.1), none, none]) S [true, false, false, true, true, true, true, false, true, true, false, false] rfl ?_
            have hz := hj16 _ (Option.some.inj h).symm
            exact hz
      replace h := e11
      clear e11
      obtain ⟨s18, e18, hm18, ho18⟩ := mgn h
      have hj18 : ∀ p18, s18 = .inl p18 → V 244 [some (rf g 47), none, none, some (.int x3), some (.int x4), some (.int x5), some (.int x6), none, some (.int x8), some (.int s.2.1), some (.int ((gI s.2.2 72 (ix (x3 + x8))) + (gI s.2.2 72 (ix (x3 + s.2.1))))), none] [] p9.2 := by
        intro p18 ep18
        have h := hm18 p18 ep18
        refine i_iconst (v := 1) S dX12_talkWith_244 ic_1 ?_
        refine i_goto (tgt := 249) S dX12_talkWith_245 (by decide) ?_
        have hz := hj11 _ (Option.some.inj h).symm
        exact hz
      replace h := e18
      clear e18
      refine i_if_ne (tgt := 244) S dX12_talkWith_236 (by decide) (fun q10 => ?_) (fun q10 => ?_)
      · replace h := (if_neg q10).symm.trans h
        refine i_mask (L1 := [some (rf g 47), none, none, some (.int x3), some (.int x4), some (.int x5), some (.int x6), none, some (.int x8), some (.int s.2.1), some (.int ((gI s.2.2 72 (ix (x3 + x8))) + (gI s.2.2 72 (ix (x3 + s.2.1))))), none]) S [true, false, false, true, true, true, true, false, true, true, true, false] rfl ?_
        have hz := hj18 _ (Option.some.inj h).symm
        exact hz
      · replace h := (if_pos q10).symm.trans h
        refine i_iload S dX12_talkWith_239 rfl ?_
        refine i_if_eq (tgt := 248) S dX12_talkWith_241 (by decide) (fun q19 => ?_) (fun q19 => ?_)
        · replace h := (if_pos q19).symm.trans h
          refine i_iconst (v := 0) S dX12_talkWith_248 ic_0 ?_
          replace h := ho18 _ (Option.some.inj h).symm
          refine i_mask (L1 := [some (rf g 47), none, none, some (.int x3), some (.int x4), some (.int x5), some (.int x6), none, some (.int x8), some (.int s.2.1), some (.int ((gI s.2.2 72 (ix (x3 + x8))) + (gI s.2.2 72 (ix (x3 + s.2.1))))), none]) S [true, false, false, true, true, true, true, false, true, true, true, false] rfl ?_
          have hz := hj11 _ (Option.some.inj h).symm
          exact hz
        · replace h := (if_neg q19).symm.trans h
          refine i_mask (L1 := [some (rf g 47), none, none, some (.int x3), some (.int x4), some (.int x5), some (.int x6), none, some (.int x8), some (.int s.2.1), some (.int ((gI s.2.2 72 (ix (x3 + x8))) + (gI s.2.2 72 (ix (x3 + s.2.1))))), none]) S [true, false, false, true, true, true, true, false, true, true, true, false] rfl ?_
          have hz := hj18 _ (Option.some.inj h).symm
          exact hz
    · replace h := (if_neg q7).symm.trans h
      refine i_goto (tgt := 281) S dX12_talkWith_218 (by decide) ?_
      refine i_mask (L1 := [some (rf g 47), none, none, some (.int x3), some (.int x4), some (.int x5), some (.int x6), some (.int s.1), some (.int x8), some (.int s.2.1), none, none]) S [true, false, false, true, true, true, true, true, true, true, false, false] rfl ?_
      have hz := hj8 _ (Option.some.inj h).symm
      exact hz
set_option maxHeartbeats 4000000 in
set_option maxRecDepth 100000 in
theorem t_l_X12_talkWith_117 {g : Gx} {V : Vt} {d : Nat} (S : MachB g yX12_talkWith cX12_talkWith 12 (d + 9) V) {x3 : Int32} {x4 : Int32} {x5 : Int32} {x6 : Int32}  (s : Int32 × Int32 × Mm) (e : (Int32 × Int32 × Mm) ⊕ (Int32 × Mm)) (h : l_X12_talkWith_117 x3 x4 x5 x6 s = some e) (hC : ∀ s2, e = .inl s2 → V 117 [some (rf g 47), none, none, some (.int x3), some (.int x4), some (.int x5), some (.int x6), some (.int s2.1), some (.int s2.2.1), none, none, none] [] s2.2.2) (hE : ∀ x, e = .inr x → V 293 [some (rf g 47), none, none, some (.int x3), some (.int x4), some (.int x5), some (.int x6), some (.int x.1), none, none, none, none] [] x.2) : V 117 [some (rf g 47), none, none, some (.int x3), some (.int x4), some (.int x5), some (.int x6), some (.int s.1), some (.int s.2.1), none, none, none] [] s.2.2 := by
  unfold l_X12_talkWith_117 at h
  refine i_iload S dX12_talkWith_117 rfl ?_
  refine i_bipush (v := 64) S dX12_talkWith_119 bp_64 ?_
  refine i_icmp_ge (tgt := 293) S dX12_talkWith_121 (by decide) (fun q1 => ?_) (fun q1 => ?_)
  · replace h := (if_pos q1).symm.trans h
    refine i_mask (L1 := [some (rf g 47), none, none, some (.int x3), some (.int x4), some (.int x5), some (.int x6), some (.int s.1), none, none, none, none]) S [true, false, false, true, true, true, true, true, false, false, false, false] rfl ?_
    have hz := hE _ (Option.some.inj h).symm
    exact hz
  · replace h := (if_neg q1).symm.trans h
    refine i_aload_n S dX12_talkWith_124 rfl ?_
    obtain ⟨hL2, h⟩ := onLn h
    refine i_getR S fl_X12_89 (k47 hL2) (r47_44 hL2) rfl dX12_talkWith_125 ?_
    refine i_iload_n S dX12_talkWith_128 rfl ?_
    refine i_iload S dX12_talkWith_129 rfl ?_
    refine i_iadd S dX12_talkWith_131 ?_
    obtain ⟨hi4, h⟩ := gd h
    refine i_ialdv (v := gI s.2.2 72 (ix (x3 + s.2.1))) S (k72 hL2) hi4 rfl dX12_talkWith_132 ?_
    refine i_ldcw S kc_X12_324 dX12_talkWith_133 ?_
    obtain ⟨p6, e6, h⟩ := bn h
    have hj6 : ∀ q6, p6 = q6 → V 287 [some (rf g 47), none, none, some (.int x3), some (.int x4), some (.int x5), some (.int x6), some (.int q6.1), some (.int s.2.1), none, none, none] [] q6.2 := by
      intro q6 hq6
      subst hq6
      refine i_iinc (L1 := [some (rf g 47), none, none, some (.int x3), some (.int x4), some (.int x5), some (.int x6), some (.int p6.1), some (.int (s.2.1 + (1 : Int32))), none, none, none]) S dX12_talkWith_287 rfl ic_1 (by decide) rfl ?_
      refine i_goto (tgt := 117) S dX12_talkWith_290 (by decide) ?_
      have hz := hC _ (Option.some.inj h).symm
      exact hz
    replace h := e6
    clear e6
    refine i_icmp_lt (tgt := 142) S dX12_talkWith_136 (by decide) (fun q5 => ?_) (fun q5 => ?_)
    · replace h := (if_pos q5).symm.trans h
      refine i_aload_n S dX12_talkWith_142 rfl ?_
      refine i_iload_n S dX12_talkWith_143 rfl ?_
      refine i_bipush (v := 63) S dX12_talkWith_144 bp_63 ?_
      refine i_iload S dX12_talkWith_146 rfl ?_
      refine i_ixor S dX12_talkWith_148 ?_
      refine i_aload_n S dX12_talkWith_149 rfl ?_
      refine i_getR S fl_X12_89 (k47 hL2) (r47_44 hL2) rfl dX12_talkWith_150 ?_
      refine i_iload_n S dX12_talkWith_153 rfl ?_
      refine i_iload S dX12_talkWith_154 rfl ?_
      refine i_iadd S dX12_talkWith_156 ?_
      refine i_ialdv (v := gI s.2.2 72 (ix (x3 + s.2.1))) S (k72 hL2) hi4 rfl dX12_talkWith_157 ?_
      refine i_iload S dX12_talkWith_158 rfl ?_
      refine i_iadd S dX12_talkWith_160 ?_
      obtain ⟨p8, e8, h⟩ := bn h
      refine i_callV (As := [.int x3, .int ((63 : Int32) ^^^ s.2.1), .int ((gI s.2.2 72 (ix (x3 + s.2.1))) + x4)]) (st1 := [.int p8.1]) S (c_X12_shortens g (d + 8) hL2 e8) mw_X12_shortens lk_X12_328 im_X12_shortens se_X12_shortens ci_12.1 ci_12.2.1 (k47 hL2) dX12_talkWith_161 rfl rfl (Nat.le_of_ble_eq_true rfl) rfl ?_
      obtain ⟨p10, e10, h⟩ := bn h
      have hj10 : ∀ q10, p10 = q10 → V 177 [some (rf g 47), none, none, some (.int x3), some (.int x4), some (.int x5), some (.int x6), none, some (.int s.2.1), none, none, none] [.int q10] p8.2 := by
        intro q10 hq10
        subst hq10
        refine i_istore (L1 := [some (rf g 47), none, none, some (.int x3), some (.int x4), some (.int x5), some (.int x6), some (.int p10), some (.int s.2.1), none, none, none]) S dX12_talkWith_177 (by decide) rfl ?_
        refine i_iconst (v := 0) S dX12_talkWith_179 ic_0 ?_
        refine i_istore (L1 := [some (rf g 47), none, none, some (.int x3), some (.int x4), some (.int x5), some (.int x6), some (.int p10), some (.int s.2.1), some (.int ((0 : Int32))), none, none]) S dX12_talkWith_180 (by decide) rfl ?_
        obtain ⟨p11, e11, h⟩ := bn h
        have hE11 : V 287 [some (rf g 47), none, none, some (.int x3), some (.int x4), some (.int x5), some (.int x6), some (.int p11.1), some (.int s.2.1), none, none, none] [] p11.2 := by
          have hz := hj6 _ (Option.some.inj h).symm
          exact hz
        exact wh_V (P := fun sv11 => V 182 [some (rf g 47), none, none, some (.int x3), some (.int x4), some (.int x5), some (.int x6), some (.int sv11.1), some (.int s.2.1), some (.int sv11.2.1), none, none] [] sv11.2.2) (E := fun xv11 => V 287 [some (rf g 47), none, none, some (.int x3), some (.int x4), some (.int x5), some (.int x6), some (.int xv11.1), some (.int s.2.1), none, none, none] [] xv11.2) (fun sv11 ev hb hc he => t_l_X12_talkWith_182   S  sv11 ev hb hc he) FUEL _ _ e11 hE11
      replace h := e10
      clear e10
      obtain ⟨s12, e12, hm12, ho12⟩ := mgn h
      have hj12 : ∀ p12, s12 = .inl p12 → V 172 [some (rf g 47), none, none, some (.int x3), some (.int x4), some (.int x5), some (.int x6), none, some (.int s.2.1), none, none, none] [] p8.2 := by
        intro p12 ep12
        have h := hm12 p12 ep12
        refine i_iconst (v := 1) S dX12_talkWith_172 ic_1 ?_
        refine i_goto (tgt := 177) S dX12_talkWith_173 (by decide) ?_
        have hz := hj10 _ (Option.some.inj h).symm
        exact hz
      replace h := e12
      clear e12
      refine i_if_ne (tgt := 172) S dX12_talkWith_164 (by decide) (fun q9 => ?_) (fun q9 => ?_)
      · replace h := (if_neg q9).symm.trans h
        refine i_mask (L1 := [some (rf g 47), none, none, some (.int x3), some (.int x4), some (.int x5), some (.int x6), none, some (.int s.2.1), none, none, none]) S [true, false, false, true, true, true, true, false, true, false, false, false] rfl ?_
        have hz := hj12 _ (Option.some.inj h).symm
        exact hz
      · replace h := (if_pos q9).symm.trans h
        refine i_iload S dX12_talkWith_167 rfl ?_
        refine i_if_eq (tgt := 176) S dX12_talkWith_169 (by decide) (fun q13 => ?_) (fun q13 => ?_)
        · replace h := (if_pos q13).symm.trans h
          refine i_iconst (v := 0) S dX12_talkWith_176 ic_0 ?_
          replace h := ho12 _ (Option.some.inj h).symm
          refine i_mask (L1 := [some (rf g 47), none, none, some (.int x3), some (.int x4), some (.int x5), some (.int x6), none, some (.int s.2.1), none, none, none]) S [true, false, false, true, true, true, true, false, true, false, false, false] rfl ?_
          have hz := hj10 _ (Option.some.inj h).symm
          exact hz
        · replace h := (if_neg q13).symm.trans h
          refine i_mask (L1 := [some (rf g 47), none, none, some (.int x3), some (.int x4), some (.int x5), some (.int x6), none, some (.int s.2.1), none, none, none]) S [true, false, false, true, true, true, true, false, true, false, false, false] rfl ?_
          have hz := hj12 _ (Option.some.inj h).symm
          exact hz
    · replace h := (if_neg q5).symm.trans h
      refine i_goto (tgt := 287) S dX12_talkWith_139 (by decide) ?_
      have hz := hj6 _ (Option.some.inj h).symm
      exact hz
set_option maxHeartbeats 4000000 in
set_option maxRecDepth 100000 in
theorem t_l_X12_talkWith_106 {g : Gx} {V : Vt} {d : Nat} (S : MachB g yX12_talkWith cX12_talkWith 12 (d + 9) V) {x3 : Int32} {x4 : Int32} {x5 : Int32} {x6 : Int32}  (s : Int32 × Mm) (e : (Int32 × Mm) ⊕ (Mm)) (h : l_X12_talkWith_106 x3 x4 x5 x6 s = some e) (hC : ∀ s2, e = .inl s2 → V 106 [some (rf g 47), none, none, some (.int x3), some (.int x4), some (.int x5), some (.int x6), some (.int s2.1), none, none, none, none] [] s2.2) (hE : ∀ x, e = .inr x → V 296 [some (rf g 47), none, none, none, none, none, none, none, none, none, none, none] [] x) : V 106 [some (rf g 47), none, none, some (.int x3), some (.int x4), some (.int x5), some (.int x6), some (.int s.1), none, none, none, none] [] s.2 := by
  unfold l_X12_talkWith_106 at h
  refine i_iload S dX12_talkWith_106 rfl ?_
  refine i_if_eq (tgt := 296) S dX12_talkWith_108 (by decide) (fun q1 => ?_) (fun q1 => ?_)
  · replace h := (if_pos q1).symm.trans h
    refine i_mask (L1 := [some (rf g 47), none, none, none, none, none, none, none, none, none, none, none]) S [true, false, false, false, false, false, false, false, false, false, false, false] rfl ?_
    have hz := hE _ (Option.some.inj h).symm
    exact hz
  · replace h := (if_neg q1).symm.trans h
    refine i_iconst (v := 0) S dX12_talkWith_111 ic_0 ?_
    refine i_istore (L1 := [some (rf g 47), none, none, some (.int x3), some (.int x4), some (.int x5), some (.int x6), some (.int ((0 : Int32))), none, none, none, none]) S dX12_talkWith_112 (by decide) rfl ?_
    refine i_iconst (v := 0) S dX12_talkWith_114 ic_0 ?_
    refine i_istore (L1 := [some (rf g 47), none, none, some (.int x3), some (.int x4), some (.int x5), some (.int x6), some (.int ((0 : Int32))), some (.int ((0 : Int32))), none, none, none]) S dX12_talkWith_115 (by decide) rfl ?_
    obtain ⟨p2, e2, h⟩ := bn h
    have hE2 : V 293 [some (rf g 47), none, none, some (.int x3), some (.int x4), some (.int x5), some (.int x6), some (.int p2.1), none, none, none, none] [] p2.2 := by
      refine i_goto (tgt := 106) S dX12_talkWith_293 (by decide) ?_
      have hz := hC _ (Option.some.inj h).symm
      exact hz
    exact wh_V (P := fun sv2 => V 117 [some (rf g 47), none, none, some (.int x3), some (.int x4), some (.int x5), some (.int x6), some (.int sv2.1), some (.int sv2.2.1), none, none, none] [] sv2.2.2) (E := fun xv2 => V 293 [some (rf g 47), none, none, some (.int x3), some (.int x4), some (.int x5), some (.int x6), some (.int xv2.1), none, none, none, none] [] xv2.2) (fun sv2 ev hb hc he => t_l_X12_talkWith_117   S  sv2 ev hb hc he) FUEL _ _ e2 hE2
set_option maxHeartbeats 4000000 in
set_option maxRecDepth 100000 in
theorem t_l_X12_talkWith_302 {g : Gx} {V : Vt} {d : Nat} (S : MachB g yX12_talkWith cX12_talkWith 12 (d + 9) V)   (s : Int64 × Int32 × Mm) (e : (Int64 × Int32 × Mm) ⊕ (Int64 × Mm)) (h : l_X12_talkWith_302  s = some e) (hC : ∀ s2, e = .inl s2 → V 302 [some (rf g 47), none, none, none, none, none, none, none, some (.long s2.1), none, some (.int s2.2.1), none] [] s2.2.2) (hE : ∀ x, e = .inr x → V 367 [none, none, none, none, none, none, none, none, some (.long x.1), none, none, none] [] x.2) : V 302 [some (rf g 47), none, none, none, none, none, none, none, some (.long s.1), none, some (.int s.2.1), none] [] s.2.2 := by
  unfold l_X12_talkWith_302 at h
  refine i_iload S dX12_talkWith_302 rfl ?_
  refine i_aload_n S dX12_talkWith_304 rfl ?_
  obtain ⟨hL1, h⟩ := onLn h
  refine i_getIv (v := gI s.2.2 47 3) S fl_X12_167 (k47 hL1) rfl rfl dX12_talkWith_305 ?_
  refine i_icmp_ge (tgt := 367) S dX12_talkWith_308 (by decide) (fun q2 => ?_) (fun q2 => ?_)
  · replace h := (if_pos q2).symm.trans h
    refine i_mask (L1 := [none, none, none, none, none, none, none, none, some (.long s.1), none, none, none]) S [false, false, false, false, false, false, false, false, true, false, false, false] rfl ?_
    have hz := hE _ (Option.some.inj h).symm
    exact hz
  · replace h := (if_neg q2).symm.trans h
    refine i_aload_n S dX12_talkWith_311 rfl ?_
    refine i_aload_n S dX12_talkWith_312 rfl ?_
    refine i_getIv (v := gI s.2.2 47 6) S fl_X12_146 (k47 hL1) rfl rfl dX12_talkWith_313 ?_
    refine i_aload_n S dX12_talkWith_316 rfl ?_
    refine i_getR S fl_X12_36 (k47 hL1) (r47_14 hL1) rfl dX12_talkWith_317 ?_
    refine i_iload S dX12_talkWith_320 rfl ?_
    obtain ⟨hi4, h⟩ := gd h
    refine i_ialdv (v := gI s.2.2 55 (ix s.2.1)) S (k55 hL1) hi4 rfl dX12_talkWith_322 ?_
    obtain ⟨p5, e5, h⟩ := bn h
    refine i_callV (As := [.int (gI s.2.2 47 6), .int (gI s.2.2 55 (ix s.2.1))]) (st1 := [.int p5.1]) S (c_X12_sayableOf g (d + 3) hL1 e5) mw_X12_sayableOf lk_X12_364 im_X12_sayableOf se_X12_sayableOf ci_12.1 ci_12.2.1 (k47 hL1) dX12_talkWith_323 rfl rfl (Nat.le_of_ble_eq_true rfl) rfl ?_
    refine i_istore (L1 := [some (rf g 47), none, none, none, none, none, none, none, some (.long s.1), none, some (.int s.2.1), some (.int p5.1)]) S dX12_talkWith_326 (by decide) rfl ?_
    refine i_lload S dX12_talkWith_328 rfl ?_
    refine i_aload_n S dX12_talkWith_330 rfl ?_
    obtain ⟨hL6, h⟩ := onLn h
    refine i_getR S fl_X12_39 (k47 hL6) (r47_15 hL6) rfl dX12_talkWith_331 ?_
    refine i_iload S dX12_talkWith_334 rfl ?_
    refine i_ialdv (v := gI p5.2 56 (ix s.2.1)) S (k56 hL6) hi4 rfl dX12_talkWith_336 ?_
    refine i_i2l S dX12_talkWith_337 ?_
    refine i_iload S dX12_talkWith_338 rfl ?_
    refine i_aload_n S dX12_talkWith_340 rfl ?_
    refine i_getIv (v := gI p5.2 47 5) S fl_X12_13 (k47 hL6) rfl rfl dX12_talkWith_341 ?_
    obtain ⟨p9, e9, h⟩ := bn h
    have hj9 : ∀ q9, p9 = q9 → V 356 [some (rf g 47), none, none, none, none, none, none, none, none, none, some (.int s.2.1), none] [.int q9, .long ((gI p5.2 56 (ix s.2.1)).toInt64), .long s.1] p5.2 := by
      intro q9 hq9
      subst hq9
      refine i_i2l S dX12_talkWith_356 ?_
      refine i_lmul S dX12_talkWith_357 ?_
      refine i_ladd S dX12_talkWith_358 ?_
      refine i_lstore (L1 := [some (rf g 47), none, none, none, none, none, none, none, some (.long (s.1 + (((gI p5.2 56 (ix s.2.1)).toInt64) * p9.toInt64))), none, some (.int s.2.1), none]) S dX12_talkWith_359 (by decide) rfl ?_
      refine i_iinc (L1 := [some (rf g 47), none, none, none, none, none, none, none, some (.long (s.1 + (((gI p5.2 56 (ix s.2.1)).toInt64) * p9.toInt64))), none, some (.int (s.2.1 + (1 : Int32))), none]) S dX12_talkWith_361 rfl ic_1 (by decide) rfl ?_
      refine i_goto (tgt := 302) S dX12_talkWith_364 (by decide) ?_
      have hz := hC _ (Option.some.inj h).symm
      exact hz
    replace h := e9
    clear e9
    refine i_icmp_ge (tgt := 352) S dX12_talkWith_344 (by decide) (fun q8 => ?_) (fun q8 => ?_)
    · replace h := (if_pos q8).symm.trans h
      refine i_aload_n S dX12_talkWith_352 rfl ?_
      refine i_getIv (v := gI p5.2 47 5) S fl_X12_13 (k47 hL6) rfl rfl dX12_talkWith_353 ?_
      refine i_mask (L1 := [some (rf g 47), none, none, none, none, none, none, none, none, none, some (.int s.2.1), none]) S [true, false, false, false, false, false, false, false, false, false, true, false] rfl ?_
      have hz := hj9 _ (Option.some.inj h).symm
      exact hz
    · replace h := (if_neg q8).symm.trans h
      refine i_iload S dX12_talkWith_347 rfl ?_
      refine i_goto (tgt := 356) S dX12_talkWith_349 (by decide) ?_
      refine i_mask (L1 := [some (rf g 47), none, none, none, none, none, none, none, none, none, some (.int s.2.1), none]) S [true, false, false, false, false, false, false, false, false, false, true, false] rfl ?_
      have hz := hj9 _ (Option.some.inj h).symm
      exact hz
set_option maxHeartbeats 4000000 in
set_option maxRecDepth 100000 in
theorem c_X12_talkWith (g : Gx) (d : Nat) {x1 : Int32} {x2 : Int32} {w : Mm} {p : (Int64 × Mm)} (hL : Lay w) (h : f_X12_talkWith x1 x2 w = some p) : Call g (d + 10) yX12_talkWith cX12_talkWith 12 (some .long) [rf g 47, .int x1, .int x2] w (some (.long p.1)) p.2 := by
  refine call_of (L0 := [some (rf g 47), some (.int x1), some (.int x2), none, none, none, none, none, none, none, none, none]) (by decide) rfl (Nat.le_of_ble_eq_true rfl) (fun V S0 => ?_)
  have S := S0.b
  unfold f_X12_talkWith at h
  refine i_bipush (v := 64) S dX12_talkWith_0 bp_64 ?_
  refine i_aload_n S dX12_talkWith_2 rfl ?_
  refine i_getIv (v := gI w 47 6) S fl_X12_146 (k47 hL) rfl rfl dX12_talkWith_3 ?_
  refine i_imul S dX12_talkWith_6 ?_
  refine i_istore_n (L1 := [some (rf g 47), some (.int x1), some (.int x2), some (.int ((64 : Int32) * (gI w 47 6))), none, none, none, none, none, none, none, none]) S dX12_talkWith_7 (by decide) rfl ?_
  refine i_iconst (v := 0) S dX12_talkWith_8 ic_0 ?_
  refine i_istore (L1 := [some (rf g 47), some (.int x1), some (.int x2), some (.int ((64 : Int32) * (gI w 47 6))), some (.int ((0 : Int32))), none, none, none, none, none, none, none]) S dX12_talkWith_9 (by decide) rfl ?_
  obtain ⟨p1, e1, h⟩ := bn h
  have hE1 : V 40 [some (rf g 47), some (.int x1), some (.int x2), some (.int ((64 : Int32) * (gI w 47 6))), none, none, none, none, none, none, none, none] [] p1 := by
    refine i_iload_n S dX12_talkWith_40 rfl ?_
    refine i_aload_n S dX12_talkWith_41 rfl ?_
    obtain ⟨hL2, h⟩ := onLn h
    refine i_getR S fl_X12_89 (k47 hL2) (r47_44 hL2) rfl dX12_talkWith_42 ?_
    refine i_iload_n S dX12_talkWith_45 rfl ?_
    refine i_iload_n S dX12_talkWith_46 rfl ?_
    refine i_iadd S dX12_talkWith_47 ?_
    obtain ⟨hi4, h⟩ := gd h
    refine i_ialdv (v := gI p1 72 (ix (((64 : Int32) * (gI w 47 6)) + x1))) S (k72 hL2) hi4 rfl dX12_talkWith_48 ?_
    refine i_icmp_lt (tgt := 61) S dX12_talkWith_49 (by decide) (fun q5 => ?_) (fun q5 => ?_)
    · replace h := (if_pos q5).symm.trans h
      refine i_aload_n S dX12_talkWith_61 rfl ?_
      refine i_getR S fl_X12_89 (k47 hL2) (r47_44 hL2) rfl dX12_talkWith_62 ?_
      refine i_iload_n S dX12_talkWith_65 rfl ?_
      refine i_iload_n S dX12_talkWith_66 rfl ?_
      refine i_iadd S dX12_talkWith_67 ?_
      refine i_iload_n S dX12_talkWith_68 rfl ?_
      refine i_iast S (k72 hL2) hi4 dX12_talkWith_69 ?_
      refine i_aload_n S dX12_talkWith_70 rfl ?_
      refine i_aload_n S dX12_talkWith_71 rfl ?_
      refine i_getIv (v := gI p1 47 6) S fl_X12_146 (k47 hL2) rfl rfl dX12_talkWith_72 ?_
      refine i_iconst (v := 1) S dX12_talkWith_75 ic_1 ?_
      obtain ⟨p7, e7, h⟩ := bn h
      refine i_callV (As := [.int (gI p1 47 6), .int ((1 : Int32))]) (st1 := [.int p7]) S (c_X12_joinOf g (d + 6) hL2 e7) mw_X12_joinOf lk_X12_325 im_X12_joinOf se_X12_joinOf ci_12.1 ci_12.2.1 (k47 hL2) dX12_talkWith_76 rfl rfl (Nat.le_of_ble_eq_true rfl) rfl ?_
      refine i_istore (L1 := [some (rf g 47), some (.int x1), some (.int x2), some (.int ((64 : Int32) * (gI w 47 6))), some (.int p7), none, none, none, none, none, none, none]) S dX12_talkWith_79 (by decide) rfl ?_
      refine i_aload_n S dX12_talkWith_81 rfl ?_
      refine i_aload_n S dX12_talkWith_82 rfl ?_
      refine i_getIv (v := gI p1 47 6) S fl_X12_146 (k47 hL2) rfl rfl dX12_talkWith_83 ?_
      refine i_iconst (v := 2) S dX12_talkWith_86 ic_2 ?_
      obtain ⟨p8, e8, h⟩ := bn h
      refine i_callV (As := [.int (gI p1 47 6), .int ((2 : Int32))]) (st1 := [.int p8]) S (c_X12_joinOf g (d + 6) hL2 e8) mw_X12_joinOf lk_X12_325 im_X12_joinOf se_X12_joinOf ci_12.1 ci_12.2.1 (k47 hL2) dX12_talkWith_87 rfl rfl (Nat.le_of_ble_eq_true rfl) rfl ?_
      refine i_istore (L1 := [some (rf g 47), some (.int x1), some (.int x2), some (.int ((64 : Int32) * (gI w 47 6))), some (.int p7), some (.int p8), none, none, none, none, none, none]) S dX12_talkWith_90 (by decide) rfl ?_
      refine i_aload_n S dX12_talkWith_92 rfl ?_
      refine i_aload_n S dX12_talkWith_93 rfl ?_
      refine i_getIv (v := gI p1 47 6) S fl_X12_146 (k47 hL2) rfl rfl dX12_talkWith_94 ?_
      refine i_iconst (v := 3) S dX12_talkWith_97 ic_3 ?_
      obtain ⟨p9, e9, h⟩ := bn h
      refine i_callV (As := [.int (gI p1 47 6), .int ((3 : Int32))]) (st1 := [.int p9]) S (c_X12_joinOf g (d + 6) hL2 e9) mw_X12_joinOf lk_X12_325 im_X12_joinOf se_X12_joinOf ci_12.1 ci_12.2.1 (k47 hL2) dX12_talkWith_98 rfl rfl (Nat.le_of_ble_eq_true rfl) rfl ?_
      refine i_istore (L1 := [some (rf g 47), some (.int x1), some (.int x2), some (.int ((64 : Int32) * (gI w 47 6))), some (.int p7), some (.int p8), some (.int p9), none, none, none, none, none]) S dX12_talkWith_101 (by decide) rfl ?_
      refine i_iconst (v := 1) S dX12_talkWith_103 ic_1 ?_
      refine i_istore (L1 := [some (rf g 47), some (.int x1), some (.int x2), some (.int ((64 : Int32) * (gI w 47 6))), some (.int p7), some (.int p8), some (.int p9), some (.int ((1 : Int32))), none, none, none, none]) S dX12_talkWith_104 (by decide) rfl ?_
      refine i_mask (L1 := [some (rf g 47), none, none, some (.int ((64 : Int32) * (gI w 47 6))), some (.int p7), some (.int p8), some (.int p9), some (.int ((1 : Int32))), none, none, none, none]) S [true, false, false, true, true, true, true, true, false, false, false, false] rfl ?_
      obtain ⟨p10, e10, h⟩ := bn h
      have hE10 : V 296 [some (rf g 47), none, none, none, none, none, none, none, none, none, none, none] [] p10 := by
        refine i_lconst (v := 0) S dX12_talkWith_296 lc_0 ?_
        refine i_lstore (L1 := [some (rf g 47), none, none, none, none, none, none, none, some (.long ((0 : Int64))), none, none, none]) S dX12_talkWith_297 (by decide) rfl ?_
        refine i_iconst (v := 0) S dX12_talkWith_299 ic_0 ?_
        refine i_istore (L1 := [some (rf g 47), none, none, none, none, none, none, none, some (.long ((0 : Int64))), none, some (.int ((0 : Int32))), none]) S dX12_talkWith_300 (by decide) rfl ?_
        obtain ⟨p11, e11, h⟩ := bn h
        have hE11 : V 367 [none, none, none, none, none, none, none, none, some (.long p11.1), none, none, none] [] p11.2 := by
          refine i_lload S dX12_talkWith_367 rfl ?_
          cases h
          exact i_lret S0 dX12_talkWith_369
        exact wh_V (P := fun sv11 => V 302 [some (rf g 47), none, none, none, none, none, none, none, some (.long sv11.1), none, some (.int sv11.2.1), none] [] sv11.2.2) (E := fun xv11 => V 367 [none, none, none, none, none, none, none, none, some (.long xv11.1), none, none, none] [] xv11.2) (fun sv11 ev hb hc he => t_l_X12_talkWith_302   S  sv11 ev hb hc he) FUEL _ _ e11 hE11
      exact wh_V (P := fun sv10 => V 106 [some (rf g 47), none, none, some (.int ((64 : Int32) * (gI w 47 6))), some (.int p7), some (.int p8), some (.int p9), some (.int sv10.1), none, none, none, none] [] sv10.2) (E := fun xv10 => V 296 [some (rf g 47), none, none, none, none, none, none, none, none, none, none, none] [] xv10) (fun sv10 ev hb hc he => t_l_X12_talkWith_106   S  sv10 ev hb hc he) FUEL _ _ e10 hE10
    · replace h := (if_neg q5).symm.trans h
      refine i_aload_n S dX12_talkWith_52 rfl ?_
      refine i_aload_n S dX12_talkWith_53 rfl ?_
      refine i_getIv (v := gI p1 47 6) S fl_X12_146 (k47 hL2) rfl rfl dX12_talkWith_54 ?_
      obtain ⟨p12, e12, h⟩ := bn h
      refine i_callV (As := [.int (gI p1 47 6)]) (st1 := [.long p12.1]) S (c_X12_talkOf g d hL2 e12) mw_X12_talkOf lk_X12_376 im_X12_talkOf se_X12_talkOf ci_12.1 ci_12.2.1 (k47 hL2) dX12_talkWith_57 rfl rfl (Nat.le_of_ble_eq_true rfl) rfl ?_
      cases h
      exact i_lret S0 dX12_talkWith_60
  exact wh_V (P := fun sv1 => V 11 [some (rf g 47), some (.int x1), some (.int x2), some (.int ((64 : Int32) * (gI w 47 6))), some (.int sv1.1), none, none, none, none, none, none, none] [] sv1.2) (E := fun xv1 => V 40 [some (rf g 47), some (.int x1), some (.int x2), some (.int ((64 : Int32) * (gI w 47 6))), none, none, none, none, none, none, none, none] [] xv1) (fun sv1 ev hb hc he => t_l_X12_talkWith_11   S  sv1 ev hb hc he) FUEL _ _ e1 hE1
/-! WordYearModel.madeUp -/
noncomputable def l_X12_madeUp_46 (x1 : Int32) (x2 : Int32) (x3 : Int64) (s : Int32 × Mm) : Option ((Int32 × Mm) ⊕ (Mm)) := if (64 : Int32) ≤ s.1 then (some (.inr s.2)) else (onL s.2 (if inb (((64 : Int32) * (gI s.2 47 6)) + s.1) 65536 = true then (if inb s.1 64 = true then (some (.inl (s.1 + (1 : Int32), sI s.2 86 (ix s.1) (gI s.2 72 (ix (((64 : Int32) * (gI s.2 47 6)) + s.1)))))) else none) else none))
noncomputable def l_X12_madeUp_92 (x1 : Int32) (x2 : Int32) (x3 : Int64) (s : Int32 × Int64 × Int32 × Mm) : Option ((Int32 × Int64 × Int32 × Mm) ⊕ (Int32 × Int64 × Mm)) := if (64 : Int32) ≤ s.2.2.1 then (some (.inr (s.1, s.2.1, s.2.2.2))) else (onL s.2.2.2 (Option.bind (f_X12_talkWith s.2.2.1 x1 s.2.2.2) (fun p3 => Option.bind (if p3.1 < s.2.1 then (some (s.2.2.1, p3.1)) else (some (s.1, s.2.1))) (fun p5 => some (.inl (p5.1, p5.2, s.2.2.1 + (1 : Int32), p3.2))))))
noncomputable def l_X12_madeUp_136 (x2 : Int32) (x3 : Int64) (x5 : Int32) (x6 : Int64) (s : Int32 × Mm) : Option ((Int32 × Mm) ⊕ (Mm)) := if (64 : Int32) ≤ s.1 then (some (.inr s.2)) else (onL s.2 (if inb s.1 64 = true then (if inb (((64 : Int32) * (gI s.2 47 6)) + s.1) 65536 = true then (some (.inl (s.1 + (1 : Int32), sI s.2 72 (ix (((64 : Int32) * (gI s.2 47 6)) + s.1)) (gI s.2 86 (ix s.1))))) else none) else none))
noncomputable def f_X12_madeUp (x1 : Int32) (x2 : Int32) (w : Mm) : Option (Int64 × Mm) := if (f_X12_lies x1.toInt64 (1 : Int64) (9 : Int64)) = 0 then (some ((-1 : Int64), w)) else (if (f_X12_lies x2.toInt64 (0 : Int64) (1 : Int64)) = 0 then (some ((-1 : Int64), w)) else (Option.bind (f_X12_talkOf (gI w 47 6) w) (fun p3 => onL p3.2 (Option.bind (f_X12_lays (gI p3.2 47 6) p3.2) (fun p5 => Option.bind (wh (l_X12_madeUp_46 x1 x2 p3.1) FUEL ((0 : Int32), p5)) (fun p6 => Option.bind (wh (l_X12_madeUp_92 x1 x2 p3.1) FUEL ((0 : Int32), (1000000000000000 : Int64), (0 : Int32), p6)) (fun p7 => Option.bind (wh (l_X12_madeUp_136 x2 p3.1 p7.1 p7.2.1) FUEL ((0 : Int32), p7.2.2)) (fun p8 => if x2 = 0 then (some (p7.1.toInt64, p8)) else (some (p3.1 - p7.2.1, p8))))))))))
set_option maxHeartbeats 4000000 in
set_option maxRecDepth 100000 in
theorem t_l_X12_madeUp_46 {g : Gx} {V : Vt} {d : Nat} (S : MachB g yX12_madeUp cX12_madeUp 11 (d + 10) V) {x1 : Int32} {x2 : Int32} {x3 : Int64}  (s : Int32 × Mm) (e : (Int32 × Mm) ⊕ (Mm)) (h : l_X12_madeUp_46 x1 x2 x3 s = some e) (hC : ∀ s2, e = .inl s2 → V 46 [some (rf g 47), some (.int x1), some (.int x2), some (.long x3), none, some (.int s2.1), none, none, none, none, none] [] s2.2) (hE : ∀ x, e = .inr x → V 81 [some (rf g 47), some (.int x1), some (.int x2), some (.long x3), none, none, none, none, none, none, none] [] x) : V 46 [some (rf g 47), some (.int x1), some (.int x2), some (.long x3), none, some (.int s.1), none, none, none, none, none] [] s.2 := by
  unfold l_X12_madeUp_46 at h
  refine i_iload S dX12_madeUp_46 rfl ?_
  refine i_bipush (v := 64) S dX12_madeUp_48 bp_64 ?_
  refine i_icmp_ge (tgt := 81) S dX12_madeUp_50 (by decide) (fun q1 => ?_) (fun q1 => ?_)
  · replace h := (if_pos q1).symm.trans h
    refine i_mask (L1 := [some (rf g 47), some (.int x1), some (.int x2), some (.long x3), none, none, none, none, none, none, none]) S [true, true, true, true, false, false, false, false, false, false, false] rfl ?_
    have hz := hE _ (Option.some.inj h).symm
    exact hz
  · replace h := (if_neg q1).symm.trans h
    refine i_aload_n S dX12_madeUp_53 rfl ?_
    obtain ⟨hL2, h⟩ := onLn h
    refine i_getR S fl_X12_132 (k47 hL2) (r47_63 hL2) rfl dX12_madeUp_54 ?_
    refine i_iload S dX12_madeUp_57 rfl ?_
    refine i_aload_n S dX12_madeUp_59 rfl ?_
    refine i_getR S fl_X12_89 (k47 hL2) (r47_44 hL2) rfl dX12_madeUp_60 ?_
    refine i_bipush (v := 64) S dX12_madeUp_63 bp_64 ?_
    refine i_aload_n S dX12_madeUp_65 rfl ?_
    refine i_getIv (v := gI s.2 47 6) S fl_X12_146 (k47 hL2) rfl rfl dX12_madeUp_66 ?_
    refine i_imul S dX12_madeUp_69 ?_
    refine i_iload S dX12_madeUp_70 rfl ?_
    refine i_iadd S dX12_madeUp_72 ?_
    obtain ⟨hi4, h⟩ := gd h
    refine i_ialdv (v := gI s.2 72 (ix (((64 : Int32) * (gI s.2 47 6)) + s.1))) S (k72 hL2) hi4 rfl dX12_madeUp_73 ?_
    obtain ⟨hi6, h⟩ := gd h
    refine i_iast S (k86 hL2) hi6 dX12_madeUp_74 ?_
    refine i_iinc (L1 := [some (rf g 47), some (.int x1), some (.int x2), some (.long x3), none, some (.int (s.1 + (1 : Int32))), none, none, none, none, none]) S dX12_madeUp_75 rfl ic_1 (by decide) rfl ?_
    refine i_goto (tgt := 46) S dX12_madeUp_78 (by decide) ?_
    have hz := hC _ (Option.some.inj h).symm
    exact hz
set_option maxHeartbeats 4000000 in
set_option maxRecDepth 100000 in
theorem t_l_X12_madeUp_92 {g : Gx} {V : Vt} {d : Nat} (S : MachB g yX12_madeUp cX12_madeUp 11 (d + 10) V) {x1 : Int32} {x2 : Int32} {x3 : Int64}  (s : Int32 × Int64 × Int32 × Mm) (e : (Int32 × Int64 × Int32 × Mm) ⊕ (Int32 × Int64 × Mm)) (h : l_X12_madeUp_92 x1 x2 x3 s = some e) (hC : ∀ s2, e = .inl s2 → V 92 [some (rf g 47), some (.int x1), some (.int x2), some (.long x3), none, some (.int s2.1), some (.long s2.2.1), none, some (.int s2.2.2.1), none, none] [] s2.2.2.2) (hE : ∀ x, e = .inr x → V 133 [some (rf g 47), none, some (.int x2), some (.long x3), none, some (.int x.1), some (.long x.2.1), none, none, none, none] [] x.2.2) : V 92 [some (rf g 47), some (.int x1), some (.int x2), some (.long x3), none, some (.int s.1), some (.long s.2.1), none, some (.int s.2.2.1), none, none] [] s.2.2.2 := by
  unfold l_X12_madeUp_92 at h
  refine i_iload S dX12_madeUp_92 rfl ?_
  refine i_bipush (v := 64) S dX12_madeUp_94 bp_64 ?_
  refine i_icmp_ge (tgt := 133) S dX12_madeUp_96 (by decide) (fun q1 => ?_) (fun q1 => ?_)
  · replace h := (if_pos q1).symm.trans h
    refine i_mask (L1 := [some (rf g 47), none, some (.int x2), some (.long x3), none, some (.int s.1), some (.long s.2.1), none, none, none, none]) S [true, false, true, true, false, true, true, false, false, false, false] rfl ?_
    have hz := hE _ (Option.some.inj h).symm
    exact hz
  · replace h := (if_neg q1).symm.trans h
    refine i_aload_n S dX12_madeUp_99 rfl ?_
    refine i_iload S dX12_madeUp_100 rfl ?_
    refine i_iload_n S dX12_madeUp_102 rfl ?_
    obtain ⟨hL2, h⟩ := onLn h
    obtain ⟨p3, e3, h⟩ := bn h
    refine i_callV (As := [.int s.2.2.1, .int x1]) (st1 := [.long p3.1]) S (c_X12_talkWith g d hL2 e3) mw_X12_talkWith lk_X12_470 im_X12_talkWith se_X12_talkWith ci_12.1 ci_12.2.1 (k47 hL2) dX12_madeUp_103 rfl rfl (Nat.le_of_ble_eq_true rfl) rfl ?_
    refine i_lstore (L1 := [some (rf g 47), some (.int x1), some (.int x2), some (.long x3), none, some (.int s.1), some (.long s.2.1), none, some (.int s.2.2.1), some (.long p3.1), none]) S dX12_madeUp_106 (by decide) rfl ?_
    refine i_lload S dX12_madeUp_108 rfl ?_
    refine i_lload S dX12_madeUp_110 rfl ?_
    obtain ⟨p5, e5, h⟩ := bn h
    have hj5 : ∀ q5, p5 = q5 → V 127 [some (rf g 47), some (.int x1), some (.int x2), some (.long x3), none, some (.int q5.1), some (.long q5.2), none, some (.int s.2.2.1), none, none] [] p3.2 := by
      intro q5 hq5
      subst hq5
      refine i_iinc (L1 := [some (rf g 47), some (.int x1), some (.int x2), some (.long x3), none, some (.int p5.1), some (.long p5.2), none, some (.int (s.2.2.1 + (1 : Int32))), none, none]) S dX12_madeUp_127 rfl ic_1 (by decide) rfl ?_
      refine i_goto (tgt := 92) S dX12_madeUp_130 (by decide) ?_
      have hz := hC _ (Option.some.inj h).symm
      exact hz
    replace h := e5
    clear e5
    refine i_lc_lt (tgt := 119) S dX12_madeUp_112 dX12_madeUp_113 (by decide) (fun q4 => ?_) (fun q4 => ?_)
    · replace h := (if_pos q4).symm.trans h
      refine i_iload S dX12_madeUp_119 rfl ?_
      refine i_istore (L1 := [some (rf g 47), some (.int x1), some (.int x2), some (.long x3), none, some (.int s.2.2.1), some (.long s.2.1), none, some (.int s.2.2.1), some (.long p3.1), none]) S dX12_madeUp_121 (by decide) rfl ?_
      refine i_lload S dX12_madeUp_123 rfl ?_
      refine i_lstore (L1 := [some (rf g 47), some (.int x1), some (.int x2), some (.long x3), none, some (.int s.2.2.1), some (.long p3.1), none, some (.int s.2.2.1), some (.long p3.1), none]) S dX12_madeUp_125 (by decide) rfl ?_
      refine i_mask (L1 := [some (rf g 47), some (.int x1), some (.int x2), some (.long x3), none, some (.int s.2.2.1), some (.long p3.1), none, some (.int s.2.2.1), none, none]) S [true, true, true, true, false, true, true, false, true, false, false] rfl ?_
      have hz := hj5 _ (Option.some.inj h).symm
      exact hz
    · replace h := (if_neg q4).symm.trans h
      refine i_goto (tgt := 127) S dX12_madeUp_116 (by decide) ?_
      refine i_mask (L1 := [some (rf g 47), some (.int x1), some (.int x2), some (.long x3), none, some (.int s.1), some (.long s.2.1), none, some (.int s.2.2.1), none, none]) S [true, true, true, true, false, true, true, false, true, false, false] rfl ?_
      have hz := hj5 _ (Option.some.inj h).symm
      exact hz
set_option maxHeartbeats 4000000 in
set_option maxRecDepth 100000 in
theorem t_l_X12_madeUp_136 {g : Gx} {V : Vt} {d : Nat} (S : MachB g yX12_madeUp cX12_madeUp 11 (d + 10) V) {x2 : Int32} {x3 : Int64} {x5 : Int32} {x6 : Int64}  (s : Int32 × Mm) (e : (Int32 × Mm) ⊕ (Mm)) (h : l_X12_madeUp_136 x2 x3 x5 x6 s = some e) (hC : ∀ s2, e = .inl s2 → V 136 [some (rf g 47), none, some (.int x2), some (.long x3), none, some (.int x5), some (.long x6), none, some (.int s2.1), none, none] [] s2.2) (hE : ∀ x, e = .inr x → V 171 [none, none, some (.int x2), some (.long x3), none, some (.int x5), some (.long x6), none, none, none, none] [] x) : V 136 [some (rf g 47), none, some (.int x2), some (.long x3), none, some (.int x5), some (.long x6), none, some (.int s.1), none, none] [] s.2 := by
  unfold l_X12_madeUp_136 at h
  refine i_iload S dX12_madeUp_136 rfl ?_
  refine i_bipush (v := 64) S dX12_madeUp_138 bp_64 ?_
  refine i_icmp_ge (tgt := 171) S dX12_madeUp_140 (by decide) (fun q1 => ?_) (fun q1 => ?_)
  · replace h := (if_pos q1).symm.trans h
    refine i_mask (L1 := [none, none, some (.int x2), some (.long x3), none, some (.int x5), some (.long x6), none, none, none, none]) S [false, false, true, true, false, true, true, false, false, false, false] rfl ?_
    have hz := hE _ (Option.some.inj h).symm
    exact hz
  · replace h := (if_neg q1).symm.trans h
    refine i_aload_n S dX12_madeUp_143 rfl ?_
    obtain ⟨hL2, h⟩ := onLn h
    refine i_getR S fl_X12_89 (k47 hL2) (r47_44 hL2) rfl dX12_madeUp_144 ?_
    refine i_bipush (v := 64) S dX12_madeUp_147 bp_64 ?_
    refine i_aload_n S dX12_madeUp_149 rfl ?_
    refine i_getIv (v := gI s.2 47 6) S fl_X12_146 (k47 hL2) rfl rfl dX12_madeUp_150 ?_
    refine i_imul S dX12_madeUp_153 ?_
    refine i_iload S dX12_madeUp_154 rfl ?_
    refine i_iadd S dX12_madeUp_156 ?_
    refine i_aload_n S dX12_madeUp_157 rfl ?_
    refine i_getR S fl_X12_132 (k47 hL2) (r47_63 hL2) rfl dX12_madeUp_158 ?_
    refine i_iload S dX12_madeUp_161 rfl ?_
    obtain ⟨hi4, h⟩ := gd h
    refine i_ialdv (v := gI s.2 86 (ix s.1)) S (k86 hL2) hi4 rfl dX12_madeUp_163 ?_
    obtain ⟨hi6, h⟩ := gd h
    refine i_iast S (k72 hL2) hi6 dX12_madeUp_164 ?_
    refine i_iinc (L1 := [some (rf g 47), none, some (.int x2), some (.long x3), none, some (.int x5), some (.long x6), none, some (.int (s.1 + (1 : Int32))), none, none]) S dX12_madeUp_165 rfl ic_1 (by decide) rfl ?_
    refine i_goto (tgt := 136) S dX12_madeUp_168 (by decide) ?_
    have hz := hC _ (Option.some.inj h).symm
    exact hz
set_option maxHeartbeats 4000000 in
set_option maxRecDepth 100000 in
theorem c_X12_madeUp (g : Gx) (d : Nat) {x1 : Int32} {x2 : Int32} {w : Mm} {p : (Int64 × Mm)} (hL : Lay w) (h : f_X12_madeUp x1 x2 w = some p) : Call g (d + 11) yX12_madeUp cX12_madeUp 11 (some .long) [rf g 47, .int x1, .int x2] w (some (.long p.1)) p.2 := by
  refine call_of (L0 := [some (rf g 47), some (.int x1), some (.int x2), none, none, none, none, none, none, none, none]) (by decide) rfl (Nat.le_of_ble_eq_true rfl) (fun V S0 => ?_)
  have S := S0.b
  unfold f_X12_madeUp at h
  refine i_iload_n S dX12_madeUp_0 rfl ?_
  refine i_i2l S dX12_madeUp_1 ?_
  refine i_lconst (v := 1) S dX12_madeUp_2 lc_1 ?_
  refine i_ldc2 S kl_X12_157 dX12_madeUp_3 ?_
  refine i_callS (As := [.long x1.toInt64, .long ((1 : Int64)), .long ((9 : Int64))]) (st1 := [.int (f_X12_lies x1.toInt64 (1 : Int64) (9 : Int64))]) S (c_X12_lies g (d + 9) rfl) mw_X12_lies lk_X12_138 im_X12_lies dX12_madeUp_6 rfl rfl (Nat.le_of_ble_eq_true rfl) rfl ?_
  refine i_if_eq (tgt := 22) S dX12_madeUp_9 (by decide) (fun q1 => ?_) (fun q1 => ?_)
  · replace h := (if_pos q1).symm.trans h
    refine i_ldc2 S kl_X12_374 dX12_madeUp_22 ?_
    cases h
    exact i_lret S0 dX12_madeUp_25
  · replace h := (if_neg q1).symm.trans h
    refine i_iload_n S dX12_madeUp_12 rfl ?_
    refine i_i2l S dX12_madeUp_13 ?_
    refine i_lconst (v := 0) S dX12_madeUp_14 lc_0 ?_
    refine i_lconst (v := 1) S dX12_madeUp_15 lc_1 ?_
    refine i_callS (As := [.long x2.toInt64, .long ((0 : Int64)), .long ((1 : Int64))]) (st1 := [.int (f_X12_lies x2.toInt64 (0 : Int64) (1 : Int64))]) S (c_X12_lies g (d + 9) rfl) mw_X12_lies lk_X12_138 im_X12_lies dX12_madeUp_16 rfl rfl (Nat.le_of_ble_eq_true rfl) rfl ?_
    refine i_if_ne (tgt := 26) S dX12_madeUp_19 (by decide) (fun q2 => ?_) (fun q2 => ?_)
    · replace h := (if_neg q2).symm.trans h
      refine i_aload_n S dX12_madeUp_26 rfl ?_
      refine i_aload_n S dX12_madeUp_27 rfl ?_
      refine i_getIv (v := gI w 47 6) S fl_X12_146 (k47 hL) rfl rfl dX12_madeUp_28 ?_
      obtain ⟨p3, e3, h⟩ := bn h
      refine i_callV (As := [.int (gI w 47 6)]) (st1 := [.long p3.1]) S (c_X12_talkOf g (d + 1) hL e3) mw_X12_talkOf lk_X12_376 im_X12_talkOf se_X12_talkOf ci_12.1 ci_12.2.1 (k47 hL) dX12_madeUp_31 rfl rfl (Nat.le_of_ble_eq_true rfl) rfl ?_
      refine i_lstore_n (L1 := [some (rf g 47), some (.int x1), some (.int x2), some (.long p3.1), none, none, none, none, none, none, none]) S dX12_madeUp_34 (by decide) rfl ?_
      refine i_aload_n S dX12_madeUp_35 rfl ?_
      refine i_aload_n S dX12_madeUp_36 rfl ?_
      obtain ⟨hL4, h⟩ := onLn h
      refine i_getIv (v := gI p3.2 47 6) S fl_X12_146 (k47 hL4) rfl rfl dX12_madeUp_37 ?_
      obtain ⟨p5, e5, h⟩ := bn h
      refine i_callV (As := [.int (gI p3.2 47 6)]) (st1 := []) S (c_X12_lays g (d + 6) hL4 e5) mw_X12_lays lk_X12_332 im_X12_lays se_X12_lays ci_12.1 ci_12.2.1 (k47 hL4) dX12_madeUp_40 rfl rfl (Nat.le_of_ble_eq_true rfl) rfl ?_
      refine i_iconst (v := 0) S dX12_madeUp_43 ic_0 ?_
      refine i_istore (L1 := [some (rf g 47), some (.int x1), some (.int x2), some (.long p3.1), none, some (.int ((0 : Int32))), none, none, none, none, none]) S dX12_madeUp_44 (by decide) rfl ?_
      obtain ⟨p6, e6, h⟩ := bn h
      have hE6 : V 81 [some (rf g 47), some (.int x1), some (.int x2), some (.long p3.1), none, none, none, none, none, none, none] [] p6 := by
        refine i_iconst (v := 0) S dX12_madeUp_81 ic_0 ?_
        refine i_istore (L1 := [some (rf g 47), some (.int x1), some (.int x2), some (.long p3.1), none, some (.int ((0 : Int32))), none, none, none, none, none]) S dX12_madeUp_82 (by decide) rfl ?_
        refine i_ldc2 S kl_X12_421 dX12_madeUp_84 ?_
        refine i_lstore (L1 := [some (rf g 47), some (.int x1), some (.int x2), some (.long p3.1), none, some (.int ((0 : Int32))), some (.long ((1000000000000000 : Int64))), none, none, none, none]) S dX12_madeUp_87 (by decide) rfl ?_
        refine i_iconst (v := 0) S dX12_madeUp_89 ic_0 ?_
        refine i_istore (L1 := [some (rf g 47), some (.int x1), some (.int x2), some (.long p3.1), none, some (.int ((0 : Int32))), some (.long ((1000000000000000 : Int64))), none, some (.int ((0 : Int32))), none, none]) S dX12_madeUp_90 (by decide) rfl ?_
        obtain ⟨p7, e7, h⟩ := bn h
        have hE7 : V 133 [some (rf g 47), none, some (.int x2), some (.long p3.1), none, some (.int p7.1), some (.long p7.2.1), none, none, none, none] [] p7.2.2 := by
          refine i_iconst (v := 0) S dX12_madeUp_133 ic_0 ?_
          refine i_istore (L1 := [some (rf g 47), none, some (.int x2), some (.long p3.1), none, some (.int p7.1), some (.long p7.2.1), none, some (.int ((0 : Int32))), none, none]) S dX12_madeUp_134 (by decide) rfl ?_
          obtain ⟨p8, e8, h⟩ := bn h
          have hE8 : V 171 [none, none, some (.int x2), some (.long p3.1), none, some (.int p7.1), some (.long p7.2.1), none, none, none, none] [] p8 := by
            refine i_iload_n S dX12_madeUp_171 rfl ?_
            refine i_if_ne (tgt := 181) S dX12_madeUp_172 (by decide) (fun q9 => ?_) (fun q9 => ?_)
            · replace h := (if_neg q9).symm.trans h
              refine i_lload_n S dX12_madeUp_181 rfl ?_
              refine i_lload S dX12_madeUp_182 rfl ?_
              refine i_lsub S dX12_madeUp_184 ?_
              cases h
              exact i_lret S0 dX12_madeUp_185
            · replace h := (if_pos q9).symm.trans h
              refine i_iload S dX12_madeUp_175 rfl ?_
              refine i_i2l S dX12_madeUp_177 ?_
              refine i_goto (tgt := 185) S dX12_madeUp_178 (by decide) ?_
              cases h
              exact i_lret S0 dX12_madeUp_185
          exact wh_V (P := fun sv8 => V 136 [some (rf g 47), none, some (.int x2), some (.long p3.1), none, some (.int p7.1), some (.long p7.2.1), none, some (.int sv8.1), none, none] [] sv8.2) (E := fun xv8 => V 171 [none, none, some (.int x2), some (.long p3.1), none, some (.int p7.1), some (.long p7.2.1), none, none, none, none] [] xv8) (fun sv8 ev hb hc he => t_l_X12_madeUp_136   S  sv8 ev hb hc he) FUEL _ _ e8 hE8
        exact wh_V (P := fun sv7 => V 92 [some (rf g 47), some (.int x1), some (.int x2), some (.long p3.1), none, some (.int sv7.1), some (.long sv7.2.1), none, some (.int sv7.2.2.1), none, none] [] sv7.2.2.2) (E := fun xv7 => V 133 [some (rf g 47), none, some (.int x2), some (.long p3.1), none, some (.int xv7.1), some (.long xv7.2.1), none, none, none, none] [] xv7.2.2) (fun sv7 ev hb hc he => t_l_X12_madeUp_92   S  sv7 ev hb hc he) FUEL _ _ e7 hE7
      exact wh_V (P := fun sv6 => V 46 [some (rf g 47), some (.int x1), some (.int x2), some (.long p3.1), none, some (.int sv6.1), none, none, none, none, none] [] sv6.2) (E := fun xv6 => V 81 [some (rf g 47), some (.int x1), some (.int x2), some (.long p3.1), none, none, none, none, none, none, none] [] xv6) (fun sv6 ev hb hc he => t_l_X12_madeUp_46   S  sv6 ev hb hc he) FUEL _ _ e6 hE6
    · replace h := (if_pos q2).symm.trans h
      refine i_ldc2 S kl_X12_374 dX12_madeUp_22 ?_
      cases h
      exact i_lret S0 dX12_madeUp_25
/-! WordYearModel.numberAt -/
noncomputable def l_X12_numberAt_4 (x1 : Int32) (w : Mm) (s : Int32 × Int32) : Option ((Int32 × Int32) ⊕ (Int32)) := if (4 : Int32) ≤ s.2 then (some (.inr s.1)) else (if inb (((4 : Int32) * x1) + s.2) 300 = true then (some (.inl ((s.1 <<< ((8 : Int32) &&& 31)) ||| ((gI w 48 (ix (((4 : Int32) * x1) + s.2))) &&& (255 : Int32)), s.2 + (1 : Int32)))) else none)
noncomputable def f_X12_numberAt (x1 : Int32) (w : Mm) : Option Int32 := Option.bind (wh (l_X12_numberAt_4 x1 w) FUEL ((0 : Int32), (0 : Int32))) (fun p1 => some p1)
set_option maxHeartbeats 4000000 in
set_option maxRecDepth 100000 in
theorem t_l_X12_numberAt_4 {g : Gx} {V : Vt} {d : Nat} (S : MachB g yX12_numberAt cX12_numberAt 4 (d) V) {x1 : Int32} {w : Mm} (hL : Lay w) (s : Int32 × Int32) (e : (Int32 × Int32) ⊕ (Int32)) (h : l_X12_numberAt_4 x1 w s = some e) (hC : ∀ s2, e = .inl s2 → V 4 [some (rf g 47), some (.int x1), some (.int s2.1), some (.int s2.2)] [] w) (hE : ∀ x, e = .inr x → V 35 [none, none, some (.int x), none] [] w) : V 4 [some (rf g 47), some (.int x1), some (.int s.1), some (.int s.2)] [] w := by
  unfold l_X12_numberAt_4 at h
  refine i_iload_n S dX12_numberAt_4 rfl ?_
  refine i_iconst (v := 4) S dX12_numberAt_5 ic_4 ?_
  refine i_icmp_ge (tgt := 35) S dX12_numberAt_6 (by decide) (fun q1 => ?_) (fun q1 => ?_)
  · replace h := (if_pos q1).symm.trans h
    refine i_mask (L1 := [none, none, some (.int s.1), none]) S [false, false, true, false] rfl ?_
    have hz := hE _ (Option.some.inj h).symm
    exact hz
  · replace h := (if_neg q1).symm.trans h
    refine i_iload_n S dX12_numberAt_9 rfl ?_
    refine i_bipush (v := 8) S dX12_numberAt_10 bp_8 ?_
    refine i_ishl S dX12_numberAt_12 ?_
    refine i_aload_n S dX12_numberAt_13 rfl ?_
    refine i_getR S fl_X12_7 (k47 hL) (r47_0 hL) rfl dX12_numberAt_14 ?_
    refine i_iconst (v := 4) S dX12_numberAt_17 ic_4 ?_
    refine i_iload_n S dX12_numberAt_18 rfl ?_
    refine i_imul S dX12_numberAt_19 ?_
    refine i_iload_n S dX12_numberAt_20 rfl ?_
    refine i_iadd S dX12_numberAt_21 ?_
    obtain ⟨hi3, h⟩ := gd h
    refine i_baldv (v := gI w 48 (ix (((4 : Int32) * x1) + s.2))) S (k48 hL) hi3 rfl dX12_numberAt_22 ?_
    refine i_sipush (v := 255) S dX12_numberAt_23 sp_255 ?_
    refine i_iand S dX12_numberAt_26 ?_
    refine i_ior S dX12_numberAt_27 ?_
    refine i_istore_n (L1 := [some (rf g 47), some (.int x1), some (.int ((s.1 <<< ((8 : Int32) &&& 31)) ||| ((gI w 48 (ix (((4 : Int32) * x1) + s.2))) &&& (255 : Int32)))), some (.int s.2)]) S dX12_numberAt_28 (by decide) rfl ?_
    refine i_iinc (L1 := [some (rf g 47), some (.int x1), some (.int ((s.1 <<< ((8 : Int32) &&& 31)) ||| ((gI w 48 (ix (((4 : Int32) * x1) + s.2))) &&& (255 : Int32)))), some (.int (s.2 + (1 : Int32)))]) S dX12_numberAt_29 rfl ic_1 (by decide) rfl ?_
    refine i_goto (tgt := 4) S dX12_numberAt_32 (by decide) ?_
    have hz := hC _ (Option.some.inj h).symm
    exact hz
set_option maxHeartbeats 4000000 in
set_option maxRecDepth 100000 in
theorem c_X12_numberAt (g : Gx) (d : Nat) {x1 : Int32} {w : Mm} {p : Int32} (hL : Lay w) (h : f_X12_numberAt x1 w = some p) : Call g (d + 1) yX12_numberAt cX12_numberAt 4 (some .int) [rf g 47, .int x1] w (some (.int p)) w := by
  refine call_of (L0 := [some (rf g 47), some (.int x1), none, none]) (by decide) rfl (Nat.le_of_ble_eq_true rfl) (fun V S0 => ?_)
  have S := S0.b
  unfold f_X12_numberAt at h
  refine i_iconst (v := 0) S dX12_numberAt_0 ic_0 ?_
  refine i_istore_n (L1 := [some (rf g 47), some (.int x1), some (.int ((0 : Int32))), none]) S dX12_numberAt_1 (by decide) rfl ?_
  refine i_iconst (v := 0) S dX12_numberAt_2 ic_0 ?_
  refine i_istore_n (L1 := [some (rf g 47), some (.int x1), some (.int ((0 : Int32))), some (.int ((0 : Int32)))]) S dX12_numberAt_3 (by decide) rfl ?_
  obtain ⟨p1, e1, h⟩ := bn h
  have hE1 : V 35 [none, none, some (.int p1), none] [] w := by
    refine i_iload_n S dX12_numberAt_35 rfl ?_
    cases h
    exact i_iret S0 rfl dX12_numberAt_36
  exact wh_V (P := fun sv1 => V 4 [some (rf g 47), some (.int x1), some (.int sv1.1), some (.int sv1.2)] [] w) (E := fun xv1 => V 35 [none, none, some (.int xv1), none] [] w) (fun sv1 ev hb hc he => t_l_X12_numberAt_4 (w := w)  S hL sv1 ev hb hc he) FUEL _ _ e1 hE1
/-! WordYearModel.check -/
noncomputable def l_X12_check_40 (x1 : Int32) (x2 : Int32) (s : Int32 × Mm) : Option ((Int32 × Mm) ⊕ (Nat × Int32 × Mm)) := if x2 ≤ s.1 then (some (.inr (0, 0, s.2))) else (onL s.2 (Option.bind (f_X12_numberAt s.1 s.2) (fun p3 => Option.bind (f_X12_brief x1 s.1 s.2) (fun p4 => if p3 = p4.1 then (some (.inl (s.1 + (1 : Int32), p4.2))) else (some (.inr (1, s.1, p4.2)))))))
noncomputable def f_X12_check (x1 : Int32) (x2 : Int32) (w : Mm) : Option (Int32 × Mm) := Option.bind (f_X12_isTongue x1 w) (fun p1 => if p1 = 0 then (some ((-2 : Int32), w)) else (if (f_X12_lies x2.toInt64 (0 : Int64) (64 : Int64)) = 0 then (some ((-2 : Int32), w)) else (if x2 ≤ ((gI w 47 1) / (4 : Int32)) then (Option.bind (wh (l_X12_check_40 x1 x2) FUEL ((0 : Int32), sI w 47 1 (0 : Int32))) (fun p5 => if p5.1 = 0 then (some ((-1 : Int32), p5.2.2)) else (some (p5.2.1, p5.2.2)))) else (some ((-2 : Int32), w)))))
set_option maxHeartbeats 4000000 in
set_option maxRecDepth 100000 in
theorem t_l_X12_check_40 {g : Gx} {V : Vt} {d : Nat} (S : MachB g yX12_check cX12_check 4 (d + 6) V) {x1 : Int32} {x2 : Int32}  (s : Int32 × Mm) (e : (Int32 × Mm) ⊕ (Nat × Int32 × Mm)) (h : l_X12_check_40 x1 x2 s = some e) (hC : ∀ s2, e = .inl s2 → V 40 [some (rf g 47), some (.int x1), some (.int x2), some (.int s2.1)] [] s2.2) (hE : ∀ x, e = .inr x → if x.1 = 0 then V 67 [none, none, none, none] [] x.2.2 else (V 59 [none, none, none, some (.int x.2.1)] [] x.2.2)) : V 40 [some (rf g 47), some (.int x1), some (.int x2), some (.int s.1)] [] s.2 := by
  unfold l_X12_check_40 at h
  refine i_iload_n S dX12_check_40 rfl ?_
  refine i_iload_n S dX12_check_41 rfl ?_
  refine i_icmp_ge (tgt := 67) S dX12_check_42 (by decide) (fun q1 => ?_) (fun q1 => ?_)
  · replace h := (if_pos q1).symm.trans h
    refine i_mask (L1 := [none, none, none, none]) S [false, false, false, false] rfl ?_
    have hz := hE _ (Option.some.inj h).symm
    exact hz
  · replace h := (if_neg q1).symm.trans h
    refine i_aload_n S dX12_check_45 rfl ?_
    refine i_iload_n S dX12_check_46 rfl ?_
    obtain ⟨hL2, h⟩ := onLn h
    obtain ⟨p3, e3, h⟩ := bn h
    refine i_callV (As := [.int s.1]) (st1 := [.int p3]) S (c_X12_numberAt g (d + 5) hL2 e3) mw_X12_numberAt lk_X12_475 im_X12_numberAt se_X12_numberAt ci_12.1 ci_12.2.1 (k47 hL2) dX12_check_47 rfl rfl (Nat.le_of_ble_eq_true rfl) rfl ?_
    refine i_aload_n S dX12_check_50 rfl ?_
    refine i_iload_n S dX12_check_51 rfl ?_
    refine i_iload_n S dX12_check_52 rfl ?_
    obtain ⟨p4, e4, h⟩ := bn h
    refine i_callV (As := [.int x1, .int s.1]) (st1 := [.int p4.1, .int p3]) S (c_X12_brief g d hL2 e4) mw_X12_brief lk_X12_478 im_X12_brief se_X12_brief ci_12.1 ci_12.2.1 (k47 hL2) dX12_check_53 rfl rfl (Nat.le_of_ble_eq_true rfl) rfl ?_
    refine i_icmp_eq (tgt := 61) S dX12_check_56 (by decide) (fun q5 => ?_) (fun q5 => ?_)
    · replace h := (if_pos q5).symm.trans h
      refine i_iinc (L1 := [some (rf g 47), some (.int x1), some (.int x2), some (.int (s.1 + (1 : Int32)))]) S dX12_check_61 rfl ic_1 (by decide) rfl ?_
      refine i_goto (tgt := 40) S dX12_check_64 (by decide) ?_
      have hz := hC _ (Option.some.inj h).symm
      exact hz
    · replace h := (if_neg q5).symm.trans h
      refine i_mask (L1 := [none, none, none, some (.int s.1)]) S [false, false, false, true] rfl ?_
      have hz := hE _ (Option.some.inj h).symm
      exact hz
set_option maxHeartbeats 4000000 in
set_option maxRecDepth 100000 in
theorem c_X12_check (g : Gx) (d : Nat) {x1 : Int32} {x2 : Int32} {w : Mm} {p : (Int32 × Mm)} (hL : Lay w) (h : f_X12_check x1 x2 w = some p) : Call g (d + 7) yX12_check cX12_check 4 (some .int) [rf g 47, .int x1, .int x2] w (some (.int p.1)) p.2 := by
  refine call_of (L0 := [some (rf g 47), some (.int x1), some (.int x2), none]) (by decide) rfl (Nat.le_of_ble_eq_true rfl) (fun V S0 => ?_)
  have S := S0.b
  unfold f_X12_check at h
  refine i_aload_n S dX12_check_0 rfl ?_
  refine i_iload_n S dX12_check_1 rfl ?_
  obtain ⟨p1, e1, h⟩ := bn h
  refine i_callV (As := [.int x1]) (st1 := [.int p1]) S (c_X12_isTongue g (d + 4) hL e1) mw_X12_isTongue lk_X12_335 im_X12_isTongue se_X12_isTongue ci_12.1 ci_12.2.1 (k47 hL) dX12_check_2 rfl rfl (Nat.le_of_ble_eq_true rfl) rfl ?_
  refine i_if_eq (tgt := 30) S dX12_check_5 (by decide) (fun q2 => ?_) (fun q2 => ?_)
  · replace h := (if_pos q2).symm.trans h
    refine i_bipush (v := -2) S dX12_check_30 bp_m2 ?_
    cases h
    exact i_iret S0 rfl dX12_check_32
  · replace h := (if_neg q2).symm.trans h
    refine i_iload_n S dX12_check_8 rfl ?_
    refine i_i2l S dX12_check_9 ?_
    refine i_lconst (v := 0) S dX12_check_10 lc_0 ?_
    refine i_ldc2 S kl_X12_473 dX12_check_11 ?_
    refine i_callS (As := [.long x2.toInt64, .long ((0 : Int64)), .long ((64 : Int64))]) (st1 := [.int (f_X12_lies x2.toInt64 (0 : Int64) (64 : Int64))]) S (c_X12_lies g (d + 5) rfl) mw_X12_lies lk_X12_138 im_X12_lies dX12_check_14 rfl rfl (Nat.le_of_ble_eq_true rfl) rfl ?_
    refine i_if_eq (tgt := 30) S dX12_check_17 (by decide) (fun q3 => ?_) (fun q3 => ?_)
    · replace h := (if_pos q3).symm.trans h
      refine i_bipush (v := -2) S dX12_check_30 bp_m2 ?_
      cases h
      exact i_iret S0 rfl dX12_check_32
    · replace h := (if_neg q3).symm.trans h
      refine i_iload_n S dX12_check_20 rfl ?_
      refine i_aload_n S dX12_check_21 rfl ?_
      refine i_getIv (v := gI w 47 1) S fl_X12_174 (k47 hL) rfl rfl dX12_check_22 ?_
      refine i_iconst (v := 4) S dX12_check_25 ic_4 ?_
      refine i_idiv S dX12_check_26 (by decide) ?_
      refine i_icmp_le (tgt := 33) S dX12_check_27 (by decide) (fun q4 => ?_) (fun q4 => ?_)
      · replace h := (if_pos q4).symm.trans h
        refine i_aload_n S dX12_check_33 rfl ?_
        refine i_iconst (v := 0) S dX12_check_34 ic_0 ?_
        refine i_putI S fl_X12_174 (k47 hL) rfl rfl rfl dX12_check_35 ?_
        refine i_iconst (v := 0) S dX12_check_38 ic_0 ?_
        refine i_istore_n (L1 := [some (rf g 47), some (.int x1), some (.int x2), some (.int ((0 : Int32)))]) S dX12_check_39 (by decide) rfl ?_
        obtain ⟨p5, e5, h⟩ := bn h
        have hE5 : if p5.1 = 0 then V 67 [none, none, none, none] [] p5.2.2 else (V 59 [none, none, none, some (.int p5.2.1)] [] p5.2.2) := by
          by_cases hx5_0 : p5.1 = 0
          · rw [if_pos hx5_0]
            replace h := (if_pos hx5_0).symm.trans h
            refine i_iconst (v := -1) S dX12_check_67 ic_m1 ?_
            cases h
            exact i_iret S0 rfl dX12_check_68
          · rw [if_neg hx5_0]
            replace h := (if_neg hx5_0).symm.trans h
            refine i_iload_n S dX12_check_59 rfl ?_
            cases h
            exact i_iret S0 rfl dX12_check_60
        exact wh_V (P := fun sv5 => V 40 [some (rf g 47), some (.int x1), some (.int x2), some (.int sv5.1)] [] sv5.2) (E := fun xv5 => if xv5.1 = 0 then V 67 [none, none, none, none] [] xv5.2.2 else (V 59 [none, none, none, some (.int xv5.2.1)] [] xv5.2.2)) (fun sv5 ev hb hc he => t_l_X12_check_40   S  sv5 ev hb hc he) FUEL _ _ e5 hE5
      · replace h := (if_neg q4).symm.trans h
        refine i_bipush (v := -2) S dX12_check_30 bp_m2 ?_
        cases h
        exact i_iret S0 rfl dX12_check_32
/-! WordYearModel.lawsTold -/
noncomputable def l_X12_lawsTold_4 (w : Mm) (s : Int32 × Int32) : Option ((Int32 × Int32) ⊕ (Int32)) := if (4 : Int32) ≤ s.2 then (some (.inr s.1)) else (if inb s.2 4 = true then (Option.bind (if (gI w 79 (ix s.2)) = 0 then (some (0 : Int32)) else (some ((1 : Int32) <<< (s.2 &&& 31)))) (fun p5 => some (.inl (s.1 ||| p5, s.2 + (1 : Int32))))) else none)
noncomputable def f_X12_lawsTold  (w : Mm) : Option Int32 := Option.bind (wh (l_X12_lawsTold_4 w) FUEL ((0 : Int32), (0 : Int32))) (fun p1 => some p1)
set_option maxHeartbeats 4000000 in
set_option maxRecDepth 100000 in
theorem t_l_X12_lawsTold_4 {g : Gx} {V : Vt} {d : Nat} (S : MachB g yX12_lawsTold cX12_lawsTold 3 (d) V) {w : Mm} (hL : Lay w) (s : Int32 × Int32) (e : (Int32 × Int32) ⊕ (Int32)) (h : l_X12_lawsTold_4 w s = some e) (hC : ∀ s2, e = .inl s2 → V 4 [some (rf g 47), some (.int s2.1), some (.int s2.2)] [] w) (hE : ∀ x, e = .inr x → V 34 [none, some (.int x), none] [] w) : V 4 [some (rf g 47), some (.int s.1), some (.int s.2)] [] w := by
  unfold l_X12_lawsTold_4 at h
  refine i_iload_n S dX12_lawsTold_4 rfl ?_
  refine i_iconst (v := 4) S dX12_lawsTold_5 ic_4 ?_
  refine i_icmp_ge (tgt := 34) S dX12_lawsTold_6 (by decide) (fun q1 => ?_) (fun q1 => ?_)
  · replace h := (if_pos q1).symm.trans h
    refine i_mask (L1 := [none, some (.int s.1), none]) S [false, true, false] rfl ?_
    have hz := hE _ (Option.some.inj h).symm
    exact hz
  · replace h := (if_neg q1).symm.trans h
    refine i_iload_n S dX12_lawsTold_9 rfl ?_
    refine i_aload_n S dX12_lawsTold_10 rfl ?_
    refine i_getR S fl_X12_111 (k47 hL) (r47_55 hL) rfl dX12_lawsTold_11 ?_
    refine i_iload_n S dX12_lawsTold_14 rfl ?_
    obtain ⟨hi3, h⟩ := gd h
    refine i_zaldv (v := gI w 79 (ix s.2)) S (k79 hL) hi3 rfl dX12_lawsTold_15 ?_
    obtain ⟨p5, e5, h⟩ := bn h
    have hj5 : ∀ q5, p5 = q5 → V 26 [some (rf g 47), none, some (.int s.2)] [.int q5, .int s.1] w := by
      intro q5 hq5
      subst hq5
      refine i_ior S dX12_lawsTold_26 ?_
      refine i_istore_n (L1 := [some (rf g 47), some (.int (s.1 ||| p5)), some (.int s.2)]) S dX12_lawsTold_27 (by decide) rfl ?_
      refine i_iinc (L1 := [some (rf g 47), some (.int (s.1 ||| p5)), some (.int (s.2 + (1 : Int32)))]) S dX12_lawsTold_28 rfl ic_1 (by decide) rfl ?_
      refine i_goto (tgt := 4) S dX12_lawsTold_31 (by decide) ?_
      have hz := hC _ (Option.some.inj h).symm
      exact hz
    replace h := e5
    clear e5
    refine i_if_eq (tgt := 25) S dX12_lawsTold_16 (by decide) (fun q4 => ?_) (fun q4 => ?_)
    · replace h := (if_pos q4).symm.trans h
      refine i_iconst (v := 0) S dX12_lawsTold_25 ic_0 ?_
      refine i_mask (L1 := [some (rf g 47), none, some (.int s.2)]) S [true, false, true] rfl ?_
      have hz := hj5 _ (Option.some.inj h).symm
      exact hz
    · replace h := (if_neg q4).symm.trans h
      refine i_iconst (v := 1) S dX12_lawsTold_19 ic_1 ?_
      refine i_iload_n S dX12_lawsTold_20 rfl ?_
      refine i_ishl S dX12_lawsTold_21 ?_
      refine i_goto (tgt := 26) S dX12_lawsTold_22 (by decide) ?_
      refine i_mask (L1 := [some (rf g 47), none, some (.int s.2)]) S [true, false, true] rfl ?_
      have hz := hj5 _ (Option.some.inj h).symm
      exact hz
set_option maxHeartbeats 4000000 in
set_option maxRecDepth 100000 in
theorem c_X12_lawsTold (g : Gx) (d : Nat)  {w : Mm} {p : Int32} (hL : Lay w) (h : f_X12_lawsTold w = some p) : Call g (d + 1) yX12_lawsTold cX12_lawsTold 3 (some .int) [rf g 47] w (some (.int p)) w := by
  refine call_of (L0 := [some (rf g 47), none, none]) (by decide) rfl (Nat.le_of_ble_eq_true rfl) (fun V S0 => ?_)
  have S := S0.b
  unfold f_X12_lawsTold at h
  refine i_iconst (v := 0) S dX12_lawsTold_0 ic_0 ?_
  refine i_istore_n (L1 := [some (rf g 47), some (.int ((0 : Int32))), none]) S dX12_lawsTold_1 (by decide) rfl ?_
  refine i_iconst (v := 0) S dX12_lawsTold_2 ic_0 ?_
  refine i_istore_n (L1 := [some (rf g 47), some (.int ((0 : Int32))), some (.int ((0 : Int32)))]) S dX12_lawsTold_3 (by decide) rfl ?_
  obtain ⟨p1, e1, h⟩ := bn h
  have hE1 : V 34 [none, some (.int p1), none] [] w := by
    refine i_iload_n S dX12_lawsTold_34 rfl ?_
    cases h
    exact i_iret S0 rfl dX12_lawsTold_35
  exact wh_V (P := fun sv1 => V 4 [some (rf g 47), some (.int sv1.1), some (.int sv1.2)] [] w) (E := fun xv1 => V 34 [none, some (.int xv1), none] [] w) (fun sv1 ev hb hc he => t_l_X12_lawsTold_4 (w := w)  S hL sv1 ev hb hc he) FUEL _ _ e1 hE1
/-! WordYearModel.count -/
noncomputable def f_X12_count (x1 : Int32) (w : Mm) : Option Int32 := if (f_X12_lies ((x1 - (10 : Int32)).toInt64) (0 : Int64) (((gI w 47 2) - (1 : Int32)).toInt64)) = 0 then (if (f_X12_isSort (x1 - (20 : Int32))) = 0 then (if x1 = 0 then (some (gI w 47 2)) else (if x1 = 1 then (some (gI w 47 6)) else (if x1 = 2 then (some (gI w 47 4)) else (if x1 = 3 then (some (gI w 47 3)) else (if x1 = 4 then (some (gI w 47 17)) else (if x1 = 5 then (some (gI w 47 1)) else (if x1 = 6 then (some (gI w 47 5)) else (if x1 = 7 then (Option.bind (f_X12_lawsTold w) (fun p11 => some p11)) else (some (-1 : Int32)))))))))) else (if inb (x1 - (20 : Int32)) 4 = true then (some (gI w 53 (ix (x1 - (20 : Int32))))) else none)) else (if inb (x1 - (10 : Int32)) 10 = true then (some (gI w 52 (ix (x1 - (10 : Int32))))) else none)
set_option maxHeartbeats 4000000 in
set_option maxRecDepth 100000 in
theorem c_X12_count (g : Gx) (d : Nat) {x1 : Int32} {w : Mm} {p : Int32} (hL : Lay w) (h : f_X12_count x1 w = some p) : Call g (d + 3) yX12_count cX12_count 2 (some .int) [rf g 47, .int x1] w (some (.int p)) w := by
  refine call_of (L0 := [some (rf g 47), some (.int x1)]) (by decide) rfl (Nat.le_of_ble_eq_true rfl) (fun V S0 => ?_)
  have S := S0.b
  unfold f_X12_count at h
  refine i_iload_n S dX12_count_0 rfl ?_
  refine i_bipush (v := 10) S dX12_count_1 bp_10 ?_
  refine i_isub S dX12_count_3 ?_
  refine i_i2l S dX12_count_4 ?_
  refine i_lconst (v := 0) S dX12_count_5 lc_0 ?_
  refine i_aload_n S dX12_count_6 rfl ?_
  refine i_getIv (v := gI w 47 2) S fl_X12_135 (k47 hL) rfl rfl dX12_count_7 ?_
  refine i_iconst (v := 1) S dX12_count_10 ic_1 ?_
  refine i_isub S dX12_count_11 ?_
  refine i_i2l S dX12_count_12 ?_
  refine i_callS (As := [.long ((x1 - (10 : Int32)).toInt64), .long ((0 : Int64)), .long (((gI w 47 2) - (1 : Int32)).toInt64)]) (st1 := [.int (f_X12_lies ((x1 - (10 : Int32)).toInt64) (0 : Int64) (((gI w 47 2) - (1 : Int32)).toInt64))]) S (c_X12_lies g (d + 1) rfl) mw_X12_lies lk_X12_138 im_X12_lies dX12_count_13 rfl rfl (Nat.le_of_ble_eq_true rfl) rfl ?_
  refine i_if_eq (tgt := 29) S dX12_count_16 (by decide) (fun q1 => ?_) (fun q1 => ?_)
  · replace h := (if_pos q1).symm.trans h
    refine i_iload_n S dX12_count_29 rfl ?_
    refine i_bipush (v := 20) S dX12_count_30 bp_20 ?_
    refine i_isub S dX12_count_32 ?_
    refine i_callS (As := [.int (x1 - (20 : Int32))]) (st1 := [.int (f_X12_isSort (x1 - (20 : Int32)))]) S (c_X12_isSort g d rfl) mw_X12_isSort lk_X12_162 im_X12_isSort dX12_count_33 rfl rfl (Nat.le_of_ble_eq_true rfl) rfl ?_
    refine i_if_eq (tgt := 49) S dX12_count_36 (by decide) (fun q2 => ?_) (fun q2 => ?_)
    · replace h := (if_pos q2).symm.trans h
      refine i_iload_n S dX12_count_49 rfl ?_
      by_cases q3 : x1 = 0
      · replace h := (if_pos q3).symm.trans h
        refine i_tswIn (tgt := 96) (off := 46) S dX12_count_50 (by rw [q3]; decide) (by rw [q3]; decide) (by rw [q3]; decide) (by decide) ?_
        refine i_aload_n S dX12_count_96 rfl ?_
        refine i_getIv (v := gI w 47 2) S fl_X12_135 (k47 hL) rfl rfl dX12_count_97 ?_
        cases h
        exact i_iret S0 rfl dX12_count_100
      · replace h := (if_neg q3).symm.trans h
        by_cases q4 : x1 = 1
        · replace h := (if_pos q4).symm.trans h
          refine i_tswIn (tgt := 101) (off := 51) S dX12_count_50 (by rw [q4]; decide) (by rw [q4]; decide) (by rw [q4]; decide) (by decide) ?_
          refine i_aload_n S dX12_count_101 rfl ?_
          refine i_getIv (v := gI w 47 6) S fl_X12_146 (k47 hL) rfl rfl dX12_count_102 ?_
          cases h
          exact i_iret S0 rfl dX12_count_105
        · replace h := (if_neg q4).symm.trans h
          by_cases q5 : x1 = 2
          · replace h := (if_pos q5).symm.trans h
            refine i_tswIn (tgt := 106) (off := 56) S dX12_count_50 (by rw [q5]; decide) (by rw [q5]; decide) (by rw [q5]; decide) (by decide) ?_
            refine i_aload_n S dX12_count_106 rfl ?_
            refine i_getIv (v := gI w 47 4) S fl_X12_386 (k47 hL) rfl rfl dX12_count_107 ?_
            cases h
            exact i_iret S0 rfl dX12_count_110
          · replace h := (if_neg q5).symm.trans h
            by_cases q6 : x1 = 3
            · replace h := (if_pos q6).symm.trans h
              refine i_tswIn (tgt := 111) (off := 61) S dX12_count_50 (by rw [q6]; decide) (by rw [q6]; decide) (by rw [q6]; decide) (by decide) ?_
              refine i_aload_n S dX12_count_111 rfl ?_
              refine i_getIv (v := gI w 47 3) S fl_X12_167 (k47 hL) rfl rfl dX12_count_112 ?_
              cases h
              exact i_iret S0 rfl dX12_count_115
            · replace h := (if_neg q6).symm.trans h
              by_cases q7 : x1 = 4
              · replace h := (if_pos q7).symm.trans h
                refine i_tswIn (tgt := 116) (off := 66) S dX12_count_50 (by rw [q7]; decide) (by rw [q7]; decide) (by rw [q7]; decide) (by decide) ?_
                refine i_aload_n S dX12_count_116 rfl ?_
                refine i_getIv (v := gI w 47 17) S fl_X12_291 (k47 hL) rfl rfl dX12_count_117 ?_
                cases h
                exact i_iret S0 rfl dX12_count_120
              · replace h := (if_neg q7).symm.trans h
                by_cases q8 : x1 = 5
                · replace h := (if_pos q8).symm.trans h
                  refine i_tswIn (tgt := 121) (off := 71) S dX12_count_50 (by rw [q8]; decide) (by rw [q8]; decide) (by rw [q8]; decide) (by decide) ?_
                  refine i_aload_n S dX12_count_121 rfl ?_
                  refine i_getIv (v := gI w 47 1) S fl_X12_174 (k47 hL) rfl rfl dX12_count_122 ?_
                  cases h
                  exact i_iret S0 rfl dX12_count_125
                · replace h := (if_neg q8).symm.trans h
                  by_cases q9 : x1 = 6
                  · replace h := (if_pos q9).symm.trans h
                    refine i_tswIn (tgt := 126) (off := 76) S dX12_count_50 (by rw [q9]; decide) (by rw [q9]; decide) (by rw [q9]; decide) (by decide) ?_
                    refine i_aload_n S dX12_count_126 rfl ?_
                    refine i_getIv (v := gI w 47 5) S fl_X12_13 (k47 hL) rfl rfl dX12_count_127 ?_
                    cases h
                    exact i_iret S0 rfl dX12_count_130
                  · replace h := (if_neg q9).symm.trans h
                    by_cases q10 : x1 = 7
                    · replace h := (if_pos q10).symm.trans h
                      refine i_tswIn (tgt := 131) (off := 81) S dX12_count_50 (by rw [q10]; decide) (by rw [q10]; decide) (by rw [q10]; decide) (by decide) ?_
                      refine i_aload_n S dX12_count_131 rfl ?_
                      obtain ⟨p11, e11, h⟩ := bn h
                      refine i_callV (As := []) (st1 := [.int p11]) S (c_X12_lawsTold g (d + 1) hL e11) mw_X12_lawsTold lk_X12_481 im_X12_lawsTold se_X12_lawsTold ci_12.1 ci_12.2.1 (k47 hL) dX12_count_132 rfl rfl (Nat.le_of_ble_eq_true rfl) rfl ?_
                      cases h
                      exact i_iret S0 rfl dX12_count_135
                    · replace h := (if_neg q10).symm.trans h
                      refine i_tswD (tgt := 136) S dX12_count_50 (by decide) (fun j hj => match j, hj with | 0, _ => Or.inr (tsne q3 (by decide)) | 1, _ => Or.inr (tsne q4 (by decide)) | 2, _ => Or.inr (tsne q5 (by decide)) | 3, _ => Or.inr (tsne q6 (by decide)) | 4, _ => Or.inr (tsne q7 (by decide)) | 5, _ => Or.inr (tsne q8 (by decide)) | 6, _ => Or.inr (tsne q9 (by decide)) | 7, _ => Or.inr (tsne q10 (by decide)) | j + 8, hj => absurd hj (by show ¬ j + 8 < 8; omega)) (by decide) ?_
                      refine i_iconst (v := -1) S dX12_count_136 ic_m1 ?_
                      cases h
                      exact i_iret S0 rfl dX12_count_137
    · replace h := (if_neg q2).symm.trans h
      refine i_aload_n S dX12_count_39 rfl ?_
      refine i_getR S fl_X12_30 (k47 hL) (r47_12 hL) rfl dX12_count_40 ?_
      refine i_iload_n S dX12_count_43 rfl ?_
      refine i_bipush (v := 20) S dX12_count_44 bp_20 ?_
      refine i_isub S dX12_count_46 ?_
      obtain ⟨hi13, h⟩ := gd h
      refine i_ialdv (v := gI w 53 (ix (x1 - (20 : Int32)))) S (k53 hL) hi13 rfl dX12_count_47 ?_
      cases h
      exact i_iret S0 rfl dX12_count_48
  · replace h := (if_neg q1).symm.trans h
    refine i_aload_n S dX12_count_19 rfl ?_
    refine i_getR S fl_X12_27 (k47 hL) (r47_11 hL) rfl dX12_count_20 ?_
    refine i_iload_n S dX12_count_23 rfl ?_
    refine i_bipush (v := 10) S dX12_count_24 bp_10 ?_
    refine i_isub S dX12_count_26 ?_
    obtain ⟨hi15, h⟩ := gd h
    refine i_ialdv (v := gI w 52 (ix (x1 - (10 : Int32)))) S (k52 hL) hi15 rfl dX12_count_27 ?_
    cases h
    exact i_iret S0 rfl dX12_count_28
