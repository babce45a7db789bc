/-! WordYear$NearLaw.run -/
noncomputable def l_X4_run_13 (o0 : Nat) (x2 : Int32) (s : Int32 × Int32 × Int32 × Mm) : Option ((Int32 × Int32 × Int32 × Mm) ⊕ (Nat × Int32 × Mm)) := if (160 : Int32) ≤ s.2.2.1 then (some (.inr (0, s.1, s.2.2.2))) else (if s.2.1 < 0 then (some (.inr (0, s.1, s.2.2.2))) else (if x2 ≤ s.2.1 then (some (.inr (0, s.1, s.2.2.2))) else (if (160 : Int32) ≤ s.2.1 then (some (.inr (0, s.1, s.2.2.2))) else (onL s.2.2.2 (if inb s.2.1 160 = true then (Option.bind (mg (if (gI s.2.2.2 (o0 + 1) (ix s.2.1)) = 0 then (some (.inl ())) else (if (gI s.2.2.2 (o0 + 1) (ix s.2.1)) = (1 : Int32) then (some (.inl ())) else (if s.1 ≤ 0 then (some (.inr (s.1, s.2.1 + (1 : Int32), s.2.2.2))) else (if (24 : Int32) < s.1 then (some (.inr (s.1, s.2.1 + (1 : Int32), s.2.2.2))) else (if inb (s.1 - (1 : Int32)) 24 = true then (if (gI s.2.2.2 (o0 + 1) (ix s.2.1)) = (10 : Int32) then (some (.inr (s.1, s.2.1 + (1 : Int32), sI s.2.2.2 (o0 + 7) (ix (s.1 - (1 : Int32))) ((1 : Int32) - (gI s.2.2.2 (o0 + 7) (ix (s.1 - (1 : Int32)))))))) else (mg (if (gI s.2.2.2 (o0 + 1) (ix s.2.1)) = (11 : Int32) then (some (.inl ())) else (if (gI s.2.2.2 (o0 + 1) (ix s.2.1)) = (12 : Int32) then (some (.inl ())) else (if s.1 ≤ (1 : Int32) then (some (.inr (.inr (s.1, s.2.1 + (1 : Int32), s.2.2.2)))) else (if inb ((s.1 + (-1 : Int32)) - (1 : Int32)) 24 = true then (Option.bind (f_X4_joined o0 (gI s.2.2.2 (o0 + 1) (ix s.2.1)) (gI s.2.2.2 (o0 + 7) (ix ((s.1 + (-1 : Int32)) - (1 : Int32)))) (gI s.2.2.2 (o0 + 7) (ix (s.1 - (1 : Int32)))) s.2.2.2) (fun p40 => onL p40.2 (some (.inr (.inr (s.1 + (-1 : Int32), s.2.1 + (1 : Int32), sI p40.2 (o0 + 7) (ix ((s.1 + (-1 : Int32)) - (1 : Int32))) p40.1)))))) else none)))) (fun p29 => Option.bind (if (gI s.2.2.2 (o0 + 7) (ix (s.1 - (1 : Int32)))) = 0 then (some (0 : Int32)) else (some (1 : Int32))) (fun p31 => Option.bind (if (gI s.2.2.2 (o0 + 1) (ix s.2.1)) = (11 : Int32) then (some (1 : Int32)) else (some (0 : Int32))) (fun p33 => if p31 = p33 then (some (.inr (s.1, gI s.2.2.2 (o0 + 2) (ix s.2.1), s.2.2.2))) else (some (.inr (s.1 + (-1 : Int32), s.2.1 + (1 : Int32), s.2.2.2)))))))) else none))))) (fun p12 => if (24 : Int32) ≤ s.1 then (some (s.1, s.2.1 + (1 : Int32), s.2.2.2)) else (Option.bind (if (gI s.2.2.2 (o0 + 1) (ix s.2.1)) = 0 then (some (gI s.2.2.2 (o0 + 2) (ix s.2.1))) else (if inb ((gI s.2.2.2 (o0 + 2) (ix s.2.1)) &&& (7 : Int32)) 8 = true then (some (gI s.2.2.2 (o0 + 6) (ix ((gI s.2.2.2 (o0 + 2) (ix s.2.1)) &&& (7 : Int32))))) else none)) (fun p15 => if inb s.1 24 = true then (some (s.1 + (1 : Int32), s.2.1 + (1 : Int32), sI s.2.2.2 (o0 + 7) (ix s.1) p15)) else none)))) (fun p9 => onL p9.2.2 (if (gI p9.2.2 o0 8) = 0 then (some (.inl (p9.1, p9.2.1, s.2.2.1 + (1 : Int32), p9.2.2))) else (some (.inr (1, 0, p9.2.2)))))) else none)))))
noncomputable def f_X4_run (o0 : Nat) (x1 : Int32) (x2 : Int32) (w : Mm) : Option (Int32 × Mm) := Option.bind (wh (l_X4_run_13 o0 x2) FUEL ((0 : Int32), x1, (0 : Int32), sI w o0 8 (0 : Int32))) (fun p1 => if p1.1 = 0 then (if p1.2.1 ≤ 0 then (some ((0 : Int32), p1.2.2)) else (onL p1.2.2 (some (gI p1.2.2 (o0 + 7) (ix (0 : Int32)), p1.2.2)))) else (some ((0 : Int32), p1.2.2)))
set_option maxHeartbeats 4000000 in
set_option maxRecDepth 100000 in
theorem t_l_X4_run_13 {g : Gx} {V : Vt} {d : Nat} (S : MachB g yX4_run cX4_run 9 (d + 1) V) {o0 : Nat} {x2 : Int32} (ho0 : isNL o0 = true) (s : Int32 × Int32 × Int32 × Mm) (e : (Int32 × Int32 × Int32 × Mm) ⊕ (Nat × Int32 × Mm)) (h : l_X4_run_13 o0 x2 s = some e) (hC : ∀ s2, e = .inl s2 → V 13 [some (rf g o0), none, some (.int x2), some (.int s2.1), some (.int s2.2.1), some (.int s2.2.2.1), none, none, none] [] s2.2.2.2) (hE : ∀ x, e = .inr x → if x.1 = 0 then V 264 [some (rf g o0), none, none, some (.int x.2.1), none, none, none, none, none] [] x.2.2 else (V 252 [none, none, none, none, none, none, none, none, none] [] x.2.2)) : V 13 [some (rf g o0), none, some (.int x2), some (.int s.1), some (.int s.2.1), some (.int s.2.2.1), none, none, none] [] s.2.2.2 := by
  unfold l_X4_run_13 at h
  refine i_iload S dX4_run_13 rfl ?_
  refine i_sipush (v := 160) S dX4_run_15 sp_160 ?_
  refine i_icmp_ge (tgt := 264) S dX4_run_18 (by decide) (fun q1 => ?_) (fun q1 => ?_)
  · replace h := (if_pos q1).symm.trans h
    refine i_mask (L1 := [some (rf g o0), none, none, some (.int s.1), none, none, none, none, none]) S [true, false, false, true, false, false, false, false, false] rfl ?_
    have hz := hE _ (Option.some.inj h).symm
    exact hz
  · replace h := (if_neg q1).symm.trans h
    refine i_iload S dX4_run_21 rfl ?_
    refine i_if_lt (tgt := 264) S dX4_run_23 (by decide) (fun q2 => ?_) (fun q2 => ?_)
    · replace h := (if_pos q2).symm.trans h
      refine i_mask (L1 := [some (rf g o0), none, none, some (.int s.1), none, none, none, none, none]) S [true, false, false, true, false, false, false, false, false] rfl ?_
      have hz := hE _ (Option.some.inj h).symm
      exact hz
    · replace h := (if_neg q2).symm.trans h
      refine i_iload S dX4_run_26 rfl ?_
      refine i_iload_n S dX4_run_28 rfl ?_
      refine i_icmp_ge (tgt := 264) S dX4_run_29 (by decide) (fun q3 => ?_) (fun q3 => ?_)
      · replace h := (if_pos q3).symm.trans h
        refine i_mask (L1 := [some (rf g o0), none, none, some (.int s.1), none, none, none, none, none]) S [true, false, false, true, false, false, false, false, false] rfl ?_
        have hz := hE _ (Option.some.inj h).symm
        exact hz
      · replace h := (if_neg q3).symm.trans h
        refine i_iload S dX4_run_32 rfl ?_
        refine i_sipush (v := 160) S dX4_run_34 sp_160 ?_
        refine i_icmp_ge (tgt := 264) S dX4_run_37 (by decide) (fun q4 => ?_) (fun q4 => ?_)
        · replace h := (if_pos q4).symm.trans h
          refine i_mask (L1 := [some (rf g o0), none, none, some (.int s.1), none, none, none, none, none]) S [true, false, false, true, false, false, false, false, false] rfl ?_
          have hz := hE _ (Option.some.inj h).symm
          exact hz
        · replace h := (if_neg q4).symm.trans h
          refine i_aload_n S dX4_run_40 rfl ?_
          obtain ⟨hL5, h⟩ := onLn h
          refine i_getR S fl_X4_11 (nl_k0 hL5 ho0) (nl_r0 hL5 ho0) rfl dX4_run_41 ?_
          refine i_iload S dX4_run_44 rfl ?_
          obtain ⟨hi7, h⟩ := gd h
          refine i_ialdv (v := gI s.2.2.2 (o0 + 1) (ix s.2.1)) S (nl_k1 hL5 ho0) hi7 rfl dX4_run_46 ?_
          refine i_istore (L1 := [some (rf g o0), none, some (.int x2), some (.int s.1), some (.int s.2.1), some (.int s.2.2.1), some (.int (gI s.2.2.2 (o0 + 1) (ix s.2.1))), none, none]) S dX4_run_47 (by decide) rfl ?_
          refine i_iload S dX4_run_49 rfl ?_
          refine i_iconst (v := 1) S dX4_run_51 ic_1 ?_
          refine i_iadd S dX4_run_52 ?_
          refine i_istore (L1 := [some (rf g o0), none, some (.int x2), some (.int s.1), some (.int s.2.1), some (.int s.2.2.1), some (.int (gI s.2.2.2 (o0 + 1) (ix s.2.1))), some (.int (s.2.1 + (1 : Int32))), none]) S dX4_run_53 (by decide) rfl ?_
          refine i_iload S dX4_run_55 rfl ?_
          obtain ⟨p9, e9, h⟩ := bn h
          have hj9 : ∀ q9, p9 = q9 → V 245 [some (rf g o0), none, some (.int x2), some (.int q9.1), none, some (.int s.2.2.1), none, some (.int q9.2.1), none] [] q9.2.2 := by
            intro q9 hq9
            subst hq9
            refine i_aload_n S dX4_run_245 rfl ?_
            obtain ⟨hL10, h⟩ := onLn h
            refine i_getIv (v := gI p9.2.2 o0 8) S fl_X4_56 (nl_k0 hL10 ho0) rfl rfl dX4_run_246 ?_
            refine i_if_eq (tgt := 254) S dX4_run_249 (by decide) (fun q11 => ?_) (fun q11 => ?_)
            · replace h := (if_pos q11).symm.trans h
              refine i_iload S dX4_run_254 rfl ?_
              refine i_istore (L1 := [some (rf g o0), none, some (.int x2), some (.int p9.1), some (.int p9.2.1), some (.int s.2.2.1), none, some (.int p9.2.1), none]) S dX4_run_256 (by decide) rfl ?_
              refine i_iinc (L1 := [some (rf g o0), none, some (.int x2), some (.int p9.1), some (.int p9.2.1), some (.int (s.2.2.1 + (1 : Int32))), none, some (.int p9.2.1), none]) S dX4_run_258 rfl ic_1 (by decide) rfl ?_
              refine i_goto (tgt := 13) S dX4_run_261 (by decide) ?_
              refine i_mask (L1 := [some (rf g o0), none, some (.int x2), some (.int p9.1), some (.int p9.2.1), some (.int (s.2.2.1 + (1 : Int32))), none, none, none]) S [true, false, true, true, true, true, false, false, false] rfl ?_
              have hz := hC _ (Option.some.inj h).symm
              exact hz
            · replace h := (if_neg q11).symm.trans h
              refine i_mask (L1 := [none, none, none, none, none, none, none, none, none]) S [false, false, false, false, false, false, false, false, false] rfl ?_
              have hz := hE _ (Option.some.inj h).symm
              exact hz
          replace h := e9
          clear e9
          obtain ⟨s12, e12, hm12, ho12⟩ := mgn h
          have hj12 : ∀ p12, s12 = .inl p12 → V 66 [some (rf g o0), none, some (.int x2), some (.int s.1), some (.int s.2.1), some (.int s.2.2.1), some (.int (gI s.2.2.2 (o0 + 1) (ix s.2.1))), some (.int (s.2.1 + (1 : Int32))), none] [] s.2.2.2 := by
            intro p12 ep12
            have h := hm12 p12 ep12
            refine i_iload_n S dX4_run_66 rfl ?_
            refine i_bipush (v := 24) S dX4_run_67 bp_24 ?_
            refine i_icmp_ge (tgt := 245) S dX4_run_69 (by decide) (fun q13 => ?_) (fun q13 => ?_)
            · replace h := (if_pos q13).symm.trans h
              refine i_mask (L1 := [some (rf g o0), none, some (.int x2), some (.int s.1), none, some (.int s.2.2.1), none, some (.int (s.2.1 + (1 : Int32))), none]) S [true, false, true, true, false, true, false, true, false] rfl ?_
              have hz := hj9 _ (Option.some.inj h).symm
              exact hz
            · replace h := (if_neg q13).symm.trans h
              refine i_aload_n S dX4_run_72 rfl ?_
              refine i_getR S fl_X4_30 (nl_k0 hL5 ho0) (nl_r6 hL5 ho0) rfl dX4_run_73 ?_
              refine i_iload_n S dX4_run_76 rfl ?_
              refine i_iload S dX4_run_77 rfl ?_
              obtain ⟨p15, e15, h⟩ := bn h
              have hj15 : ∀ q15, p15 = q15 → V 107 [some (rf g o0), none, some (.int x2), some (.int s.1), none, some (.int s.2.2.1), none, some (.int (s.2.1 + (1 : Int32))), none] [.int q15, .int s.1, rf g ((o0 + 7))] s.2.2.2 := by
                intro q15 hq15
                subst hq15
                obtain ⟨hi17, h⟩ := gd h
                refine i_iast S (nl_k7 hL5 ho0) hi17 dX4_run_107 ?_
                refine i_iinc (L1 := [some (rf g o0), none, some (.int x2), some (.int (s.1 + (1 : Int32))), none, some (.int s.2.2.1), none, some (.int (s.2.1 + (1 : Int32))), none]) S dX4_run_108 rfl ic_1 (by decide) rfl ?_
                refine i_goto (tgt := 245) S dX4_run_111 (by decide) ?_
                have hz := hj9 _ (Option.some.inj h).symm
                exact hz
              replace h := e15
              clear e15
              refine i_if_ne (tgt := 92) S dX4_run_79 (by decide) (fun q14 => ?_) (fun q14 => ?_)
              · replace h := (if_neg q14).symm.trans h
                refine i_aload_n S dX4_run_92 rfl ?_
                refine i_getR S fl_X4_27 (nl_k0 hL5 ho0) (nl_r5 hL5 ho0) rfl dX4_run_93 ?_
                refine i_aload_n S dX4_run_96 rfl ?_
                refine i_getR S fl_X4_15 (nl_k0 hL5 ho0) (nl_r1 hL5 ho0) rfl dX4_run_97 ?_
                refine i_iload S dX4_run_100 rfl ?_
                refine i_ialdv (v := gI s.2.2.2 (o0 + 2) (ix s.2.1)) S (nl_k2 hL5 ho0) hi7 rfl dX4_run_102 ?_
                refine i_bipush (v := 7) S dX4_run_103 bp_7 ?_
                refine i_iand S dX4_run_105 ?_
                obtain ⟨hi20, h⟩ := gd h
                refine i_ialdv (v := gI s.2.2.2 (o0 + 6) (ix ((gI s.2.2.2 (o0 + 2) (ix s.2.1)) &&& (7 : Int32)))) S (nl_k6 hL5 ho0) hi20 rfl dX4_run_106 ?_
                refine i_mask (L1 := [some (rf g o0), none, some (.int x2), some (.int s.1), none, some (.int s.2.2.1), none, some (.int (s.2.1 + (1 : Int32))), none]) S [true, false, true, true, false, true, false, true, false] rfl ?_
                have hz := hj15 _ (Option.some.inj h).symm
                exact hz
              · replace h := (if_pos q14).symm.trans h
                refine i_aload_n S dX4_run_82 rfl ?_
                refine i_getR S fl_X4_15 (nl_k0 hL5 ho0) (nl_r1 hL5 ho0) rfl dX4_run_83 ?_
                refine i_iload S dX4_run_86 rfl ?_
                refine i_ialdv (v := gI s.2.2.2 (o0 + 2) (ix s.2.1)) S (nl_k2 hL5 ho0) hi7 rfl dX4_run_88 ?_
                refine i_goto (tgt := 107) S dX4_run_89 (by decide) ?_
                refine i_mask (L1 := [some (rf g o0), none, some (.int x2), some (.int s.1), none, some (.int s.2.2.1), none, some (.int (s.2.1 + (1 : Int32))), none]) S [true, false, true, true, false, true, false, true, false] rfl ?_
                have hz := hj15 _ (Option.some.inj h).symm
                exact hz
          replace h := e12
          clear e12
          refine i_if_eq (tgt := 66) S dX4_run_57 (by decide) (fun q8 => ?_) (fun q8 => ?_)
          · replace h := (if_pos q8).symm.trans h
            have hz := hj12 _ (Option.some.inj h).symm
            exact hz
          · replace h := (if_neg q8).symm.trans h
            refine i_iload S dX4_run_60 rfl ?_
            refine i_iconst (v := 1) S dX4_run_62 ic_1 ?_
            refine i_icmp_ne (tgt := 114) S dX4_run_63 (by decide) (fun q22 => ?_) (fun q22 => ?_)
            · replace h := (if_neg q22).symm.trans h
              refine i_iload_n S dX4_run_114 rfl ?_
              refine i_if_le (tgt := 245) S dX4_run_115 (by decide) (fun q23 => ?_) (fun q23 => ?_)
              · replace h := (if_pos q23).symm.trans h
                replace h := ho12 _ (Option.some.inj h).symm
                refine i_mask (L1 := [some (rf g o0), none, some (.int x2), some (.int s.1), none, some (.int s.2.2.1), none, some (.int (s.2.1 + (1 : Int32))), none]) S [true, false, true, true, false, true, false, true, false] rfl ?_
                have hz := hj9 _ (Option.some.inj h).symm
                exact hz
              · replace h := (if_neg q23).symm.trans h
                refine i_iload_n S dX4_run_118 rfl ?_
                refine i_bipush (v := 24) S dX4_run_119 bp_24 ?_
                refine i_icmp_gt (tgt := 245) S dX4_run_121 (by decide) (fun q24 => ?_) (fun q24 => ?_)
                · replace h := (if_pos q24).symm.trans h
                  replace h := ho12 _ (Option.some.inj h).symm
                  refine i_mask (L1 := [some (rf g o0), none, some (.int x2), some (.int s.1), none, some (.int s.2.2.1), none, some (.int (s.2.1 + (1 : Int32))), none]) S [true, false, true, true, false, true, false, true, false] rfl ?_
                  have hz := hj9 _ (Option.some.inj h).symm
                  exact hz
                · replace h := (if_neg q24).symm.trans h
                  refine i_aload_n S dX4_run_124 rfl ?_
                  refine i_getR S fl_X4_30 (nl_k0 hL5 ho0) (nl_r6 hL5 ho0) rfl dX4_run_125 ?_
                  refine i_iload_n S dX4_run_128 rfl ?_
                  refine i_iconst (v := 1) S dX4_run_129 ic_1 ?_
                  refine i_isub S dX4_run_130 ?_
                  obtain ⟨hi26, h⟩ := gd h
                  refine i_ialdv (v := gI s.2.2.2 (o0 + 7) (ix (s.1 - (1 : Int32)))) S (nl_k7 hL5 ho0) hi26 rfl dX4_run_131 ?_
                  refine i_istore (L1 := [some (rf g o0), none, some (.int x2), some (.int s.1), some (.int s.2.1), some (.int s.2.2.1), some (.int (gI s.2.2.2 (o0 + 1) (ix s.2.1))), some (.int (s.2.1 + (1 : Int32))), some (.int (gI s.2.2.2 (o0 + 7) (ix (s.1 - (1 : Int32)))))]) S dX4_run_132 (by decide) rfl ?_
                  refine i_iload S dX4_run_134 rfl ?_
                  refine i_bipush (v := 10) S dX4_run_136 bp_10 ?_
                  refine i_icmp_ne (tgt := 156) S dX4_run_138 (by decide) (fun q27 => ?_) (fun q27 => ?_)
                  · replace h := (if_neg q27).symm.trans h
                    refine i_iload S dX4_run_156 rfl ?_
                    refine i_bipush (v := 11) S dX4_run_158 bp_11 ?_
                    obtain ⟨s29, e29, hm29, ho29⟩ := mgn h
                    have hj29 : ∀ p29, s29 = .inl p29 → V 170 [some (rf g o0), none, some (.int x2), some (.int s.1), some (.int s.2.1), some (.int s.2.2.1), some (.int (gI s.2.2.2 (o0 + 1) (ix s.2.1))), some (.int (s.2.1 + (1 : Int32))), some (.int (gI s.2.2.2 (o0 + 7) (ix (s.1 - (1 : Int32)))))] [] s.2.2.2 := by
                      intro p29 ep29
                      have h := hm29 p29 ep29
                      refine i_iload S dX4_run_170 rfl ?_
                      obtain ⟨p31, e31, h⟩ := bn h
                      have hj31 : ∀ q31, p31 = q31 → V 180 [some (rf g o0), none, some (.int x2), some (.int s.1), some (.int s.2.1), some (.int s.2.2.1), some (.int (gI s.2.2.2 (o0 + 1) (ix s.2.1))), some (.int (s.2.1 + (1 : Int32))), none] [.int q31] s.2.2.2 := by
                        intro q31 hq31
                        subst hq31
                        refine i_iload S dX4_run_180 rfl ?_
                        refine i_bipush (v := 11) S dX4_run_182 bp_11 ?_
                        obtain ⟨p33, e33, h⟩ := bn h
                        have hj33 : ∀ q33, p33 = q33 → V 192 [some (rf g o0), none, some (.int x2), some (.int s.1), some (.int s.2.1), some (.int s.2.2.1), none, some (.int (s.2.1 + (1 : Int32))), none] [.int q33, .int p31] s.2.2.2 := by
                          intro q33 hq33
                          subst hq33
                          refine i_icmp_ne (tgt := 207) S dX4_run_192 (by decide) (fun q34 => ?_) (fun q34 => ?_)
                          · replace h := (if_neg q34).symm.trans h
                            refine i_iinc (L1 := [some (rf g o0), none, some (.int x2), some (.int (s.1 + (-1 : Int32))), some (.int s.2.1), some (.int s.2.2.1), none, some (.int (s.2.1 + (1 : Int32))), none]) S dX4_run_207 rfl ic_m1 (by decide) rfl ?_
                            refine i_goto (tgt := 245) S dX4_run_210 (by decide) ?_
                            replace h := ho12 _ (Option.some.inj h).symm
                            refine i_mask (L1 := [some (rf g o0), none, some (.int x2), some (.int (s.1 + (-1 : Int32))), none, some (.int s.2.2.1), none, some (.int (s.2.1 + (1 : Int32))), none]) S [true, false, true, true, false, true, false, true, false] rfl ?_
                            have hz := hj9 _ (Option.some.inj h).symm
                            exact hz
                          · replace h := (if_pos q34).symm.trans h
                            refine i_aload_n S dX4_run_195 rfl ?_
                            refine i_getR S fl_X4_15 (nl_k0 hL5 ho0) (nl_r1 hL5 ho0) rfl dX4_run_196 ?_
                            refine i_iload S dX4_run_199 rfl ?_
                            refine i_ialdv (v := gI s.2.2.2 (o0 + 2) (ix s.2.1)) S (nl_k2 hL5 ho0) hi7 rfl dX4_run_201 ?_
                            refine i_istore (L1 := [some (rf g o0), none, some (.int x2), some (.int s.1), some (.int s.2.1), some (.int s.2.2.1), none, some (.int (gI s.2.2.2 (o0 + 2) (ix s.2.1))), none]) S dX4_run_202 (by decide) rfl ?_
                            refine i_goto (tgt := 245) S dX4_run_204 (by decide) ?_
                            replace h := ho12 _ (Option.some.inj h).symm
                            refine i_mask (L1 := [some (rf g o0), none, some (.int x2), some (.int s.1), none, some (.int s.2.2.1), none, some (.int (gI s.2.2.2 (o0 + 2) (ix s.2.1))), none]) S [true, false, true, true, false, true, false, true, false] rfl ?_
                            have hz := hj9 _ (Option.some.inj h).symm
                            exact hz
                        replace h := e33
                        clear e33
                        refine i_icmp_ne (tgt := 191) S dX4_run_184 (by decide) (fun q32 => ?_) (fun q32 => ?_)
                        · replace h := (if_neg q32).symm.trans h
                          refine i_iconst (v := 0) S dX4_run_191 ic_0 ?_
                          refine i_mask (L1 := [some (rf g o0), none, some (.int x2), some (.int s.1), some (.int s.2.1), some (.int s.2.2.1), none, some (.int (s.2.1 + (1 : Int32))), none]) S [true, false, true, true, true, true, false, true, false] rfl ?_
                          have hz := hj33 _ (Option.some.inj h).symm
                          exact hz
                        · replace h := (if_pos q32).symm.trans h
                          refine i_iconst (v := 1) S dX4_run_187 ic_1 ?_
                          refine i_goto (tgt := 192) S dX4_run_188 (by decide) ?_
                          refine i_mask (L1 := [some (rf g o0), none, some (.int x2), some (.int s.1), some (.int s.2.1), some (.int s.2.2.1), none, some (.int (s.2.1 + (1 : Int32))), none]) S [true, false, true, true, true, true, false, true, false] rfl ?_
                          have hz := hj33 _ (Option.some.inj h).symm
                          exact hz
                      replace h := e31
                      clear e31
                      refine i_if_eq (tgt := 179) S dX4_run_172 (by decide) (fun q30 => ?_) (fun q30 => ?_)
                      · replace h := (if_pos q30).symm.trans h
                        refine i_iconst (v := 0) S dX4_run_179 ic_0 ?_
                        refine i_mask (L1 := [some (rf g o0), none, some (.int x2), some (.int s.1), some (.int s.2.1), some (.int s.2.2.1), some (.int (gI s.2.2.2 (o0 + 1) (ix s.2.1))), some (.int (s.2.1 + (1 : Int32))), none]) S [true, false, true, true, true, true, true, true, false] rfl ?_
                        have hz := hj31 _ (Option.some.inj h).symm
                        exact hz
                      · replace h := (if_neg q30).symm.trans h
                        refine i_iconst (v := 1) S dX4_run_175 ic_1 ?_
                        refine i_goto (tgt := 180) S dX4_run_176 (by decide) ?_
                        refine i_mask (L1 := [some (rf g o0), none, some (.int x2), some (.int s.1), some (.int s.2.1), some (.int s.2.2.1), some (.int (gI s.2.2.2 (o0 + 1) (ix s.2.1))), some (.int (s.2.1 + (1 : Int32))), none]) S [true, false, true, true, true, true, true, true, false] rfl ?_
                        have hz := hj31 _ (Option.some.inj h).symm
                        exact hz
                    replace h := e29
                    clear e29
                    refine i_icmp_eq (tgt := 170) S dX4_run_160 (by decide) (fun q28 => ?_) (fun q28 => ?_)
                    · replace h := (if_pos q28).symm.trans h
                      have hz := hj29 _ (Option.some.inj h).symm
                      exact hz
                    · replace h := (if_neg q28).symm.trans h
                      refine i_iload S dX4_run_163 rfl ?_
                      refine i_bipush (v := 12) S dX4_run_165 bp_12 ?_
                      refine i_icmp_ne (tgt := 213) S dX4_run_167 (by decide) (fun q36 => ?_) (fun q36 => ?_)
                      · replace h := (if_neg q36).symm.trans h
                        refine i_iload_n S dX4_run_213 rfl ?_
                        refine i_iconst (v := 1) S dX4_run_214 ic_1 ?_
                        refine i_icmp_le (tgt := 245) S dX4_run_215 (by decide) (fun q37 => ?_) (fun q37 => ?_)
                        · replace h := (if_pos q37).symm.trans h
                          replace h := ho29 _ (Option.some.inj h).symm
                          replace h := ho12 _ (Option.some.inj h).symm
                          refine i_mask (L1 := [some (rf g o0), none, some (.int x2), some (.int s.1), none, some (.int s.2.2.1), none, some (.int (s.2.1 + (1 : Int32))), none]) S [true, false, true, true, false, true, false, true, false] rfl ?_
                          have hz := hj9 _ (Option.some.inj h).symm
                          exact hz
                        · replace h := (if_neg q37).symm.trans h
                          refine i_iinc (L1 := [some (rf g o0), none, some (.int x2), some (.int (s.1 + (-1 : Int32))), some (.int s.2.1), some (.int s.2.2.1), some (.int (gI s.2.2.2 (o0 + 1) (ix s.2.1))), some (.int (s.2.1 + (1 : Int32))), some (.int (gI s.2.2.2 (o0 + 7) (ix (s.1 - (1 : Int32)))))]) S dX4_run_218 rfl ic_m1 (by decide) rfl ?_
                          refine i_aload_n S dX4_run_221 rfl ?_
                          refine i_getR S fl_X4_30 (nl_k0 hL5 ho0) (nl_r6 hL5 ho0) rfl dX4_run_222 ?_
                          refine i_iload_n S dX4_run_225 rfl ?_
                          refine i_iconst (v := 1) S dX4_run_226 ic_1 ?_
                          refine i_isub S dX4_run_227 ?_
                          refine i_aload_n S dX4_run_228 rfl ?_
                          refine i_iload S dX4_run_229 rfl ?_
                          refine i_aload_n S dX4_run_231 rfl ?_
                          refine i_getR S fl_X4_30 (nl_k0 hL5 ho0) (nl_r6 hL5 ho0) rfl dX4_run_232 ?_
                          refine i_iload_n S dX4_run_235 rfl ?_
                          refine i_iconst (v := 1) S dX4_run_236 ic_1 ?_
                          refine i_isub S dX4_run_237 ?_
                          obtain ⟨hi39, h⟩ := gd h
                          refine i_ialdv (v := gI s.2.2.2 (o0 + 7) (ix ((s.1 + (-1 : Int32)) - (1 : Int32)))) S (nl_k7 hL5 ho0) hi39 rfl dX4_run_238 ?_
                          refine i_iload S dX4_run_239 rfl ?_
                          obtain ⟨p40, e40, h⟩ := bn h
                          refine i_callV (As := [.int (gI s.2.2.2 (o0 + 1) (ix s.2.1)), .int (gI s.2.2.2 (o0 + 7) (ix ((s.1 + (-1 : Int32)) - (1 : Int32)))), .int (gI s.2.2.2 (o0 + 7) (ix (s.1 - (1 : Int32))))]) (st1 := [.int p40.1, .int ((s.1 + (-1 : Int32)) - (1 : Int32)), rf g ((o0 + 7))]) S (c_X4_joined g d hL5 ho0 e40) mw_X4_joined lk_X4_60 im_X4_joined se_X4_joined ci_4.1 ci_4.2.1 (nl_k0 hL5 ho0) dX4_run_241 rfl rfl (Nat.le_of_ble_eq_true rfl) rfl ?_
                          obtain ⟨hL41, h⟩ := onLn h
                          refine i_iast S (nl_k7 hL41 ho0) hi39 dX4_run_244 ?_
                          replace h := ho29 _ (Option.some.inj h).symm
                          replace h := ho12 _ (Option.some.inj h).symm
                          refine i_mask (L1 := [some (rf g o0), none, some (.int x2), some (.int (s.1 + (-1 : Int32))), none, some (.int s.2.2.1), none, some (.int (s.2.1 + (1 : Int32))), none]) S [true, false, true, true, false, true, false, true, false] rfl ?_
                          have hz := hj9 _ (Option.some.inj h).symm
                          exact hz
                      · replace h := (if_pos q36).symm.trans h
                        have hz := hj29 _ (Option.some.inj h).symm
                        exact hz
                  · replace h := (if_pos q27).symm.trans h
                    refine i_aload_n S dX4_run_141 rfl ?_
                    refine i_getR S fl_X4_30 (nl_k0 hL5 ho0) (nl_r6 hL5 ho0) rfl dX4_run_142 ?_
                    refine i_iload_n S dX4_run_145 rfl ?_
                    refine i_iconst (v := 1) S dX4_run_146 ic_1 ?_
                    refine i_isub S dX4_run_147 ?_
                    refine i_iconst (v := 1) S dX4_run_148 ic_1 ?_
                    refine i_iload S dX4_run_149 rfl ?_
                    refine i_isub S dX4_run_151 ?_
                    refine i_iast S (nl_k7 hL5 ho0) hi26 dX4_run_152 ?_
                    refine i_goto (tgt := 245) S dX4_run_153 (by decide) ?_
                    replace h := ho12 _ (Option.some.inj h).symm
                    refine i_mask (L1 := [some (rf g o0), none, some (.int x2), some (.int s.1), none, some (.int s.2.2.1), none, some (.int (s.2.1 + (1 : Int32))), none]) S [true, false, true, true, false, true, false, true, false] rfl ?_
                    have hz := hj9 _ (Option.some.inj h).symm
                    exact hz
            · replace h := (if_pos q22).symm.trans h
              have hz := hj12 _ (Option.some.inj h).symm
              exact hz
set_option maxHeartbeats 4000000 in
set_option maxRecDepth 100000 in
theorem c_X4_run (g : Gx) (d : Nat) {o0 : Nat} {x1 : Int32} {x2 : Int32} {w : Mm} {p : (Int32 × Mm)} (hL : Lay w) (ho0 : isNL o0 = true) (h : f_X4_run o0 x1 x2 w = some p) : Call g (d + 2) yX4_run cX4_run 9 (some .int) [rf g o0, .int x1, .int x2] w (some (.int p.1)) p.2 := by
  refine call_of (L0 := [some (rf g o0), some (.int x1), some (.int x2), none, none, none, none, none, none]) (by decide) rfl (Nat.le_of_ble_eq_true rfl) (fun V S0 => ?_)
  have S := S0.b
  unfold f_X4_run at h
  refine i_iconst (v := 0) S dX4_run_0 ic_0 ?_
  refine i_istore_n (L1 := [some (rf g o0), some (.int x1), some (.int x2), some (.int ((0 : Int32))), none, none, none, none, none]) S dX4_run_1 (by decide) rfl ?_
  refine i_aload_n S dX4_run_2 rfl ?_
  refine i_iconst (v := 0) S dX4_run_3 ic_0 ?_
  refine i_putI S fl_X4_56 (nl_k0 hL ho0) rfl rfl rfl dX4_run_4 ?_
  refine i_iload_n S dX4_run_7 rfl ?_
  refine i_istore (L1 := [some (rf g o0), some (.int x1), some (.int x2), some (.int ((0 : Int32))), some (.int x1), none, none, none, none]) S dX4_run_8 (by decide) rfl ?_
  refine i_iconst (v := 0) S dX4_run_10 ic_0 ?_
  refine i_istore (L1 := [some (rf g o0), some (.int x1), some (.int x2), some (.int ((0 : Int32))), some (.int x1), some (.int ((0 : Int32))), none, none, none]) S dX4_run_11 (by decide) rfl ?_
  refine i_mask (L1 := [some (rf g o0), none, some (.int x2), some (.int ((0 : Int32))), some (.int x1), some (.int ((0 : Int32))), none, none, none]) S [true, false, true, true, true, true, false, false, false] rfl ?_
  obtain ⟨p1, e1, h⟩ := bn h
  have hE1 : if p1.1 = 0 then V 264 [some (rf g o0), none, none, some (.int p1.2.1), none, none, none, none, none] [] p1.2.2 else (V 252 [none, none, none, none, none, none, none, none, none] [] p1.2.2) := by
    by_cases hx1_0 : p1.1 = 0
    · rw [if_pos hx1_0]
      replace h := (if_pos hx1_0).symm.trans h
      refine i_iload_n S dX4_run_264 rfl ?_
      refine i_if_le (tgt := 277) S dX4_run_265 (by decide) (fun q2 => ?_) (fun q2 => ?_)
      · replace h := (if_pos q2).symm.trans h
        refine i_iconst (v := 0) S dX4_run_277 ic_0 ?_
        cases h
        exact i_iret S0 rfl dX4_run_278
      · replace h := (if_neg q2).symm.trans h
        refine i_aload_n S dX4_run_268 rfl ?_
        obtain ⟨hL3, h⟩ := onLn h
        refine i_getR S fl_X4_30 (nl_k0 hL3 ho0) (nl_r6 hL3 ho0) rfl dX4_run_269 ?_
        refine i_iconst (v := 0) S dX4_run_272 ic_0 ?_
        refine i_ialdv (v := gI p1.2.2 (o0 + 7) (ix (0 : Int32))) S (nl_k7 hL3 ho0) (by decide) rfl dX4_run_273 ?_
        refine i_goto (tgt := 278) S dX4_run_274 (by decide) ?_
        cases h
        exact i_iret S0 rfl dX4_run_278
    · rw [if_neg hx1_0]
      replace h := (if_neg hx1_0).symm.trans h
      refine i_iconst (v := 0) S dX4_run_252 ic_0 ?_
      cases h
      exact i_iret S0 rfl dX4_run_253
  exact wh_V (P := fun sv1 => V 13 [some (rf g o0), none, some (.int x2), some (.int sv1.1), some (.int sv1.2.1), some (.int sv1.2.2.1), none, none, none] [] sv1.2.2.2) (E := fun xv1 => if xv1.1 = 0 then V 264 [some (rf g o0), none, none, some (.int xv1.2.1), none, none, none, none, none] [] xv1.2.2 else (V 252 [none, none, none, none, none, none, none, none, none] [] xv1.2.2)) (fun sv1 ev hb hc he => t_l_X4_run_13   S ho0 sv1 ev hb hc he) FUEL _ _ e1 hE1
/-! WordYear$NearLaw.extraFor -/
noncomputable def l_X4_extraFor_86 (o0 : Nat) (s : Int32 × Mm) : Option ((Int32 × Mm) ⊕ (Nat × Int32 × Mm)) := onL s.2 (if (gI s.2 o0 9) ≤ s.1 then (some (.inr (0, 0, s.2))) else (if (12 : Int32) ≤ s.1 then (some (.inr (0, 0, s.2))) else (if inb s.1 12 = true then (Option.bind (f_X4_run o0 (gI s.2 (o0 + 4) (ix s.1)) (gI s.2 (o0 + 5) (ix s.1)) s.2) (fun p7 => if p7.1 = 0 then (some (.inl (s.1 + (1 : Int32), p7.2))) else (some (.inr (1, s.1, p7.2))))) else none)))
noncomputable def f_X4_extraFor (o0 : Nat) (x1 : Int32) (x2 : Int32) (x3 : Int32) (w : Mm) : Option (Int32 × Mm) := Option.bind (wh (l_X4_extraFor_86 o0) FUEL ((0 : Int32), sI (sI (sI (sI (sI (sI (sI (sI w (o0 + 6) (ix (0 : Int32)) (f_J6_bitCount_0f7a4 x1)) (o0 + 6) (ix (1 : Int32)) (f_J6_bitCount_0f7a4 x2)) (o0 + 6) (ix (2 : Int32)) (f_J6_bitCount_0f7a4 (x1 &&& x2))) (o0 + 6) (ix (3 : Int32)) (f_J6_bitCount_0f7a4 (x2 &&& (x1 ^^^ (-1 : Int32))))) (o0 + 6) (ix (4 : Int32)) (f_J6_bitCount_0f7a4 (x1 &&& (x2 ^^^ (-1 : Int32))))) (o0 + 6) (ix (5 : Int32)) x1) (o0 + 6) (ix (6 : Int32)) x2) (o0 + 6) (ix (7 : Int32)) x3)) (fun p9 => if p9.1 = 0 then (some ((-1 : Int32), p9.2.2)) else (onL p9.2.2 (if inb p9.2.1 12 = true then (Option.bind (f_X4_run o0 (gI p9.2.2 (o0 + 3) (ix p9.2.1)) (gI p9.2.2 (o0 + 4) (ix p9.2.1)) p9.2.2) (fun p14 => if p14.1 < 0 then (some ((-1 : Int32), p14.2)) else (if (1000 : Int32) < p14.1 then (some ((-1 : Int32), p14.2)) else (some (p14.1, p14.2))))) else none)))
set_option maxHeartbeats 4000000 in
set_option maxRecDepth 100000 in
theorem t_l_X4_extraFor_86 {g : Gx} {V : Vt} {d : Nat} (S : MachB g yX4_extraFor cX4_extraFor 6 (d + 2) V) {o0 : Nat} (ho0 : isNL o0 = true) (s : Int32 × Mm) (e : (Int32 × Mm) ⊕ (Nat × Int32 × Mm)) (h : l_X4_extraFor_86 o0 s = some e) (hC : ∀ s2, e = .inl s2 → V 86 [some (rf g o0), none, none, none, some (.int s2.1), none] [] s2.2) (hE : ∀ x, e = .inr x → if x.1 = 0 then V 169 [none, none, none, none, none, none] [] x.2.2 else (V 123 [some (rf g o0), none, none, none, some (.int x.2.1), none] [] x.2.2)) : V 86 [some (rf g o0), none, none, none, some (.int s.1), none] [] s.2 := by
  unfold l_X4_extraFor_86 at h
  refine i_iload S dX4_extraFor_86 rfl ?_
  refine i_aload_n S dX4_extraFor_88 rfl ?_
  obtain ⟨hL1, h⟩ := onLn h
  refine i_getIv (v := gI s.2 o0 9) S fl_X4_37 (nl_k0 hL1 ho0) rfl rfl dX4_extraFor_89 ?_
  refine i_icmp_ge (tgt := 169) S dX4_extraFor_92 (by decide) (fun q2 => ?_) (fun q2 => ?_)
  · replace h := (if_pos q2).symm.trans h
    refine i_mask (L1 := [none, none, none, none, none, none]) S [false, false, false, false, false, false] rfl ?_
    have hz := hE _ (Option.some.inj h).symm
    exact hz
  · replace h := (if_neg q2).symm.trans h
    refine i_iload S dX4_extraFor_95 rfl ?_
    refine i_bipush (v := 12) S dX4_extraFor_97 bp_12 ?_
    refine i_icmp_ge (tgt := 169) S dX4_extraFor_99 (by decide) (fun q3 => ?_) (fun q3 => ?_)
    · replace h := (if_pos q3).symm.trans h
      refine i_mask (L1 := [none, none, none, none, none, none]) S [false, false, false, false, false, false] rfl ?_
      have hz := hE _ (Option.some.inj h).symm
      exact hz
    · replace h := (if_neg q3).symm.trans h
      refine i_aload_n S dX4_extraFor_102 rfl ?_
      refine i_aload_n S dX4_extraFor_103 rfl ?_
      refine i_getR S fl_X4_21 (nl_k0 hL1 ho0) (nl_r3 hL1 ho0) rfl dX4_extraFor_104 ?_
      refine i_iload S dX4_extraFor_107 rfl ?_
      obtain ⟨hi5, h⟩ := gd h
      refine i_ialdv (v := gI s.2 (o0 + 4) (ix s.1)) S (nl_k4 hL1 ho0) hi5 rfl dX4_extraFor_109 ?_
      refine i_aload_n S dX4_extraFor_110 rfl ?_
      refine i_getR S fl_X4_24 (nl_k0 hL1 ho0) (nl_r4 hL1 ho0) rfl dX4_extraFor_111 ?_
      refine i_iload S dX4_extraFor_114 rfl ?_
      refine i_ialdv (v := gI s.2 (o0 + 5) (ix s.1)) S (nl_k5 hL1 ho0) hi5 rfl dX4_extraFor_116 ?_
      obtain ⟨p7, e7, h⟩ := bn h
      refine i_callV (As := [.int (gI s.2 (o0 + 4) (ix s.1)), .int (gI s.2 (o0 + 5) (ix s.1))]) (st1 := [.int p7.1]) S (c_X4_run g d hL1 ho0 e7) mw_X4_run lk_X4_52 im_X4_run se_X4_run ci_4.1 ci_4.2.1 (nl_k0 hL1 ho0) dX4_extraFor_117 rfl rfl (Nat.le_of_ble_eq_true rfl) rfl ?_
      refine i_if_eq (tgt := 163) S dX4_extraFor_120 (by decide) (fun q8 => ?_) (fun q8 => ?_)
      · replace h := (if_pos q8).symm.trans h
        refine i_iinc (L1 := [some (rf g o0), none, none, none, some (.int (s.1 + (1 : Int32))), none]) S dX4_extraFor_163 rfl ic_1 (by decide) rfl ?_
        refine i_goto (tgt := 86) S dX4_extraFor_166 (by decide) ?_
        have hz := hC _ (Option.some.inj h).symm
        exact hz
      · replace h := (if_neg q8).symm.trans h
        have hz := hE _ (Option.some.inj h).symm
        exact hz
set_option maxHeartbeats 4000000 in
set_option maxRecDepth 100000 in
theorem c_X4_extraFor (g : Gx) (d : Nat) {o0 : Nat} {x1 : Int32} {x2 : Int32} {x3 : Int32} {w : Mm} {p : (Int32 × Mm)} (hL : Lay w) (ho0 : isNL o0 = true) (h : f_X4_extraFor o0 x1 x2 x3 w = some p) : Call g (d + 3) yX4_extraFor cX4_extraFor 6 (some .int) [rf g o0, .int x1, .int x2, .int x3] w (some (.int p.1)) p.2 := by
  refine call_of (L0 := [some (rf g o0), some (.int x1), some (.int x2), some (.int x3), none, none]) (by decide) rfl (Nat.le_of_ble_eq_true rfl) (fun V S0 => ?_)
  have S := S0.b
  unfold f_X4_extraFor at h
  refine i_aload_n S dX4_extraFor_0 rfl ?_
  refine i_getR S fl_X4_27 (nl_k0 hL ho0) (nl_r5 hL ho0) rfl dX4_extraFor_1 ?_
  refine i_iconst (v := 0) S dX4_extraFor_4 ic_0 ?_
  refine i_iload_n S dX4_extraFor_5 rfl ?_
  refine i_callS (As := [.int x1]) (st1 := [.int (f_J6_bitCount_0f7a4 x1), .int ((0 : Int32)), rf g ((o0 + 6))]) S (c_J6_bitCount_0f7a4 g (d + 1) rfl) mw_J6_bitCount_0f7a4 lk_X4_46 im_J6_bitCount_0f7a4 dX4_extraFor_6 rfl rfl (Nat.le_of_ble_eq_true rfl) rfl ?_
  refine i_iast S (nl_k6 hL ho0) (by decide) dX4_extraFor_9 ?_
  refine i_aload_n S dX4_extraFor_10 rfl ?_
  refine i_getR S fl_X4_27 (nl_k0 hL ho0) (nl_r5 hL ho0) rfl dX4_extraFor_11 ?_
  refine i_iconst (v := 1) S dX4_extraFor_14 ic_1 ?_
  refine i_iload_n S dX4_extraFor_15 rfl ?_
  refine i_callS (As := [.int x2]) (st1 := [.int (f_J6_bitCount_0f7a4 x2), .int ((1 : Int32)), rf g ((o0 + 6))]) S (c_J6_bitCount_0f7a4 g (d + 1) rfl) mw_J6_bitCount_0f7a4 lk_X4_46 im_J6_bitCount_0f7a4 dX4_extraFor_16 rfl rfl (Nat.le_of_ble_eq_true rfl) rfl ?_
  refine i_iast S (nl_k6 hL ho0) (by decide) dX4_extraFor_19 ?_
  refine i_aload_n S dX4_extraFor_20 rfl ?_
  refine i_getR S fl_X4_27 (nl_k0 hL ho0) (nl_r5 hL ho0) rfl dX4_extraFor_21 ?_
  refine i_iconst (v := 2) S dX4_extraFor_24 ic_2 ?_
  refine i_iload_n S dX4_extraFor_25 rfl ?_
  refine i_iload_n S dX4_extraFor_26 rfl ?_
  refine i_iand S dX4_extraFor_27 ?_
  refine i_callS (As := [.int (x1 &&& x2)]) (st1 := [.int (f_J6_bitCount_0f7a4 (x1 &&& x2)), .int ((2 : Int32)), rf g ((o0 + 6))]) S (c_J6_bitCount_0f7a4 g (d + 1) rfl) mw_J6_bitCount_0f7a4 lk_X4_46 im_J6_bitCount_0f7a4 dX4_extraFor_28 rfl rfl (Nat.le_of_ble_eq_true rfl) rfl ?_
  refine i_iast S (nl_k6 hL ho0) (by decide) dX4_extraFor_31 ?_
  refine i_aload_n S dX4_extraFor_32 rfl ?_
  refine i_getR S fl_X4_27 (nl_k0 hL ho0) (nl_r5 hL ho0) rfl dX4_extraFor_33 ?_
  refine i_iconst (v := 3) S dX4_extraFor_36 ic_3 ?_
  refine i_iload_n S dX4_extraFor_37 rfl ?_
  refine i_iload_n S dX4_extraFor_38 rfl ?_
  refine i_iconst (v := -1) S dX4_extraFor_39 ic_m1 ?_
  refine i_ixor S dX4_extraFor_40 ?_
  refine i_iand S dX4_extraFor_41 ?_
  refine i_callS (As := [.int (x2 &&& (x1 ^^^ (-1 : Int32)))]) (st1 := [.int (f_J6_bitCount_0f7a4 (x2 &&& (x1 ^^^ (-1 : Int32)))), .int ((3 : Int32)), rf g ((o0 + 6))]) S (c_J6_bitCount_0f7a4 g (d + 1) rfl) mw_J6_bitCount_0f7a4 lk_X4_46 im_J6_bitCount_0f7a4 dX4_extraFor_42 rfl rfl (Nat.le_of_ble_eq_true rfl) rfl ?_
  refine i_iast S (nl_k6 hL ho0) (by decide) dX4_extraFor_45 ?_
  refine i_aload_n S dX4_extraFor_46 rfl ?_
  refine i_getR S fl_X4_27 (nl_k0 hL ho0) (nl_r5 hL ho0) rfl dX4_extraFor_47 ?_
  refine i_iconst (v := 4) S dX4_extraFor_50 ic_4 ?_
  refine i_iload_n S dX4_extraFor_51 rfl ?_
  refine i_iload_n S dX4_extraFor_52 rfl ?_
  refine i_iconst (v := -1) S dX4_extraFor_53 ic_m1 ?_
  refine i_ixor S dX4_extraFor_54 ?_
  refine i_iand S dX4_extraFor_55 ?_
  refine i_callS (As := [.int (x1 &&& (x2 ^^^ (-1 : Int32)))]) (st1 := [.int (f_J6_bitCount_0f7a4 (x1 &&& (x2 ^^^ (-1 : Int32)))), .int ((4 : Int32)), rf g ((o0 + 6))]) S (c_J6_bitCount_0f7a4 g (d + 1) rfl) mw_J6_bitCount_0f7a4 lk_X4_46 im_J6_bitCount_0f7a4 dX4_extraFor_56 rfl rfl (Nat.le_of_ble_eq_true rfl) rfl ?_
  refine i_iast S (nl_k6 hL ho0) (by decide) dX4_extraFor_59 ?_
  refine i_aload_n S dX4_extraFor_60 rfl ?_
  refine i_getR S fl_X4_27 (nl_k0 hL ho0) (nl_r5 hL ho0) rfl dX4_extraFor_61 ?_
  refine i_iconst (v := 5) S dX4_extraFor_64 ic_5 ?_
  refine i_iload_n S dX4_extraFor_65 rfl ?_
  refine i_iast S (nl_k6 hL ho0) (by decide) dX4_extraFor_66 ?_
  refine i_aload_n S dX4_extraFor_67 rfl ?_
  refine i_getR S fl_X4_27 (nl_k0 hL ho0) (nl_r5 hL ho0) rfl dX4_extraFor_68 ?_
  refine i_bipush (v := 6) S dX4_extraFor_71 bp_6 ?_
  refine i_iload_n S dX4_extraFor_73 rfl ?_
  refine i_iast S (nl_k6 hL ho0) (by decide) dX4_extraFor_74 ?_
  refine i_aload_n S dX4_extraFor_75 rfl ?_
  refine i_getR S fl_X4_27 (nl_k0 hL ho0) (nl_r5 hL ho0) rfl dX4_extraFor_76 ?_
  refine i_bipush (v := 7) S dX4_extraFor_79 bp_7 ?_
  refine i_iload_n S dX4_extraFor_81 rfl ?_
  refine i_iast S (nl_k6 hL ho0) (by decide) dX4_extraFor_82 ?_
  refine i_iconst (v := 0) S dX4_extraFor_83 ic_0 ?_
  refine i_istore (L1 := [some (rf g o0), some (.int x1), some (.int x2), some (.int x3), some (.int ((0 : Int32))), none]) S dX4_extraFor_84 (by decide) rfl ?_
  refine i_mask (L1 := [some (rf g o0), none, none, none, some (.int ((0 : Int32))), none]) S [true, false, false, false, true, false] rfl ?_
  obtain ⟨p9, e9, h⟩ := bn h
  have hE9 : if p9.1 = 0 then V 169 [none, none, none, none, none, none] [] p9.2.2 else (V 123 [some (rf g o0), none, none, none, some (.int p9.2.1), none] [] p9.2.2) := by
    by_cases hx9_0 : p9.1 = 0
    · rw [if_pos hx9_0]
      replace h := (if_pos hx9_0).symm.trans h
      refine i_iconst (v := -1) S dX4_extraFor_169 ic_m1 ?_
      cases h
      exact i_iret S0 rfl dX4_extraFor_170
    · rw [if_neg hx9_0]
      replace h := (if_neg hx9_0).symm.trans h
      refine i_aload_n S dX4_extraFor_123 rfl ?_
      refine i_aload_n S dX4_extraFor_124 rfl ?_
      obtain ⟨hL10, h⟩ := onLn h
      refine i_getR S fl_X4_18 (nl_k0 hL10 ho0) (nl_r2 hL10 ho0) rfl dX4_extraFor_125 ?_
      refine i_iload S dX4_extraFor_128 rfl ?_
      obtain ⟨hi12, h⟩ := gd h
      refine i_ialdv (v := gI p9.2.2 (o0 + 3) (ix p9.2.1)) S (nl_k3 hL10 ho0) hi12 rfl dX4_extraFor_130 ?_
      refine i_aload_n S dX4_extraFor_131 rfl ?_
      refine i_getR S fl_X4_21 (nl_k0 hL10 ho0) (nl_r3 hL10 ho0) rfl dX4_extraFor_132 ?_
      refine i_iload S dX4_extraFor_135 rfl ?_
      refine i_ialdv (v := gI p9.2.2 (o0 + 4) (ix p9.2.1)) S (nl_k4 hL10 ho0) hi12 rfl dX4_extraFor_137 ?_
      obtain ⟨p14, e14, h⟩ := bn h
      refine i_callV (As := [.int (gI p9.2.2 (o0 + 3) (ix p9.2.1)), .int (gI p9.2.2 (o0 + 4) (ix p9.2.1))]) (st1 := [.int p14.1]) S (c_X4_run g d hL10 ho0 e14) mw_X4_run lk_X4_52 im_X4_run se_X4_run ci_4.1 ci_4.2.1 (nl_k0 hL10 ho0) dX4_extraFor_138 rfl rfl (Nat.le_of_ble_eq_true rfl) rfl ?_
      refine i_istore (L1 := [some (rf g o0), none, none, none, some (.int p9.2.1), some (.int p14.1)]) S dX4_extraFor_141 (by decide) rfl ?_
      refine i_iload S dX4_extraFor_143 rfl ?_
      refine i_if_lt (tgt := 161) S dX4_extraFor_145 (by decide) (fun q15 => ?_) (fun q15 => ?_)
      · replace h := (if_pos q15).symm.trans h
        refine i_iconst (v := -1) S dX4_extraFor_161 ic_m1 ?_
        cases h
        exact i_iret S0 rfl dX4_extraFor_162
      · replace h := (if_neg q15).symm.trans h
        refine i_iload S dX4_extraFor_148 rfl ?_
        refine i_sipush (v := 1000) S dX4_extraFor_150 sp_1000 ?_
        refine i_icmp_gt (tgt := 161) S dX4_extraFor_153 (by decide) (fun q16 => ?_) (fun q16 => ?_)
        · replace h := (if_pos q16).symm.trans h
          refine i_iconst (v := -1) S dX4_extraFor_161 ic_m1 ?_
          cases h
          exact i_iret S0 rfl dX4_extraFor_162
        · replace h := (if_neg q16).symm.trans h
          refine i_iload S dX4_extraFor_156 rfl ?_
          refine i_goto (tgt := 162) S dX4_extraFor_158 (by decide) ?_
          cases h
          exact i_iret S0 rfl dX4_extraFor_162
  exact wh_V (P := fun sv9 => V 86 [some (rf g o0), none, none, none, some (.int sv9.1), none] [] sv9.2) (E := fun xv9 => if xv9.1 = 0 then V 169 [none, none, none, none, none, none] [] xv9.2.2 else (V 123 [some (rf g o0), none, none, none, some (.int xv9.2.1), none] [] xv9.2.2)) (fun sv9 ev hb hc he => t_l_X4_extraFor_86   S ho0 sv9 ev hb hc he) FUEL _ _ e9 hE9
/-! WordYear$Tongues.price -/
noncomputable def l_X9_price_120 (o1 : Nat) (x3 : Int32) (o6 : Nat) (s : Int32 × Int32 × Int32 × Mm) : Option ((Int32 × Int32 × Int32 × Mm) ⊕ (Int32 × Int32 × Mm)) := if (64 : Int32) ≤ s.2.2.1 then (some (.inr (s.1, s.2.1, s.2.2.2))) else (if isSp s.2.2.2 o1 = true then (if inb s.2.2.1 64 = true then (Option.bind (if s.2.2.1 = x3 then (some (s.1, s.2.1, s.2.2.2)) else (if s.1 ≤ (gI s.2.2.2 (o1 + 1) (ix s.2.2.1)) then (some (s.1, s.2.1, s.2.2.2)) else (onL s.2.2.2 (Option.bind (f_X4_extraFor 16 x3 s.2.2.1 (gI s.2.2.2 (o1 + 1) (ix s.2.2.1)) s.2.2.2) (fun p9 => if p9.1 = (-1 : Int32) then (some (s.1, s.2.1, p9.2)) else (if s.1 ≤ ((gI s.2.2.2 (o1 + 1) (ix s.2.2.1)) + p9.1) then (some (s.1, s.2.1, p9.2)) else (some ((gI s.2.2.2 (o1 + 1) (ix s.2.2.1)) + p9.1, s.2.2.1, p9.2)))))))) (fun p6 => some (.inl (p6.1, p6.2.1, s.2.2.1 + (1 : Int32), p6.2.2)))) else none) else none)
noncomputable def l_X9_price_120b (o1 : Nat) (x3 : Int32) (o6 : Nat) (s : Int32 × Int32 × Int32 × Mm) : Option ((Int32 × Int32 × Int32 × Mm) ⊕ (Int32 × Int32 × Mm)) := if (64 : Int32) ≤ s.2.2.1 then (some (.inr (s.1, s.2.1, s.2.2.2))) else (if isSp s.2.2.2 o1 = true then (if inb s.2.2.1 64 = true then (Option.bind (if s.2.2.1 = x3 then (some (s.1, s.2.1, s.2.2.2)) else (if s.1 ≤ (gI s.2.2.2 (o1 + 1) (ix s.2.2.1)) then (some (s.1, s.2.1, s.2.2.2)) else (onL s.2.2.2 (Option.bind (f_X4_extraFor 16 x3 s.2.2.1 (gI s.2.2.2 (o1 + 1) (ix s.2.2.1)) s.2.2.2) (fun p9 => if p9.1 = (-1 : Int32) then (some (s.1, s.2.1, p9.2)) else (if s.1 ≤ ((gI s.2.2.2 (o1 + 1) (ix s.2.2.1)) + p9.1) then (some (s.1, s.2.1, p9.2)) else (some ((gI s.2.2.2 (o1 + 1) (ix s.2.2.1)) + p9.1, s.2.2.1, p9.2)))))))) (fun p6 => some (.inl (p6.1, p6.2.1, s.2.2.1 + (1 : Int32), p6.2.2)))) else none) else none)
noncomputable def f_X9_price (o1 : Nat) (x2 : Int32) (w : Mm) : Option (Int32 × Mm) := if inb (x2 &&& (63 : Int32)) 64 = true then (Option.bind (if (gI w o1 8) = (gI w 14 5) then (some w) else (some (sL (sI w o1 8 (gI w 14 5)) o1 7 (0 : Int64)))) (fun p4 => if isSp p4 o1 = true then (onq (gR p4 o1 6) (onL p4 (if (gI p4 16 9) ≤ 0 then (if (268435456 : Int32) ≤ (gI w (o1 + 1) (ix (x2 &&& (63 : Int32)))) then (some ((-2 : Int32), p4)) else (some (((gI w (o1 + 1) (ix (x2 &&& (63 : Int32)))) <<< ((6 : Int32) &&& 31)) ||| (x2 &&& (63 : Int32)), p4))) else (Option.bind (alq p4 20 64) (fun p10 => if isSp p10.2 o1 = true then (if isSp (sR p10.2 o1 6 (some p10.1)) o1 = true then (if (((gL p10.2 o1 7) >>> ((x2 &&& (63 : Int32)).toInt64 &&& 63)) &&& (1 : Int64)) = (1 : Int64) then (some (gI p10.2 p10.1 (ix (x2 &&& (63 : Int32))), sR p10.2 o1 6 (some p10.1))) else (Option.bind (wh (l_X9_price_120 o1 (x2 &&& (63 : Int32)) p10.1) FUEL (gI w (o1 + 1) (ix (x2 &&& (63 : Int32))), x2 &&& (63 : Int32), (0 : Int32), sR p10.2 o1 6 (some p10.1))) (fun p14 => if isSp p14.2.2 o1 = true then (Option.bind (if (268435456 : Int32) ≤ p14.1 then (some (-2 : Int32)) else (some ((p14.1 <<< ((6 : Int32) &&& 31)) ||| p14.2.1))) (fun p17 => if gK (sL p14.2.2 o1 7 ((gL p14.2.2 o1 7) ||| ((1 : Int64) <<< ((x2 &&& (63 : Int32)).toInt64 &&& 63)))) p10.1 = some (20, 64) then (some (gI (sI (sL p14.2.2 o1 7 ((gL p14.2.2 o1 7) ||| ((1 : Int64) <<< ((x2 &&& (63 : Int32)).toInt64 &&& 63)))) p10.1 (ix (x2 &&& (63 : Int32))) p17) p10.1 (ix (x2 &&& (63 : Int32))), sI (sL p14.2.2 o1 7 ((gL p14.2.2 o1 7) ||| ((1 : Int64) <<< ((x2 &&& (63 : Int32)).toInt64 &&& 63)))) p10.1 (ix (x2 &&& (63 : Int32))) p17)) else none)) else none))) else none) else none)))) (fun a6 => if (((gL p4 o1 7) >>> ((x2 &&& (63 : Int32)).toInt64 &&& 63)) &&& (1 : Int64)) = (1 : Int64) then (if gK p4 a6 = some (20, 64) then (some (gI p4 a6 (ix (x2 &&& (63 : Int32))), p4)) else none) else (Option.bind (wh (l_X9_price_120b o1 (x2 &&& (63 : Int32)) a6) FUEL (gI w (o1 + 1) (ix (x2 &&& (63 : Int32))), x2 &&& (63 : Int32), (0 : Int32), p4)) (fun p23 => if isSp p23.2.2 o1 = true then (Option.bind (if (268435456 : Int32) ≤ p23.1 then (some (-2 : Int32)) else (some ((p23.1 <<< ((6 : Int32) &&& 31)) ||| p23.2.1))) (fun p26 => if gK (sL p23.2.2 o1 7 ((gL p23.2.2 o1 7) ||| ((1 : Int64) <<< ((x2 &&& (63 : Int32)).toInt64 &&& 63)))) a6 = some (20, 64) then (some (gI (sI (sL p23.2.2 o1 7 ((gL p23.2.2 o1 7) ||| ((1 : Int64) <<< ((x2 &&& (63 : Int32)).toInt64 &&& 63)))) a6 (ix (x2 &&& (63 : Int32))) p26) a6 (ix (x2 &&& (63 : Int32))), sI (sL p23.2.2 o1 7 ((gL p23.2.2 o1 7) ||| ((1 : Int64) <<< ((x2 &&& (63 : Int32)).toInt64 &&& 63)))) a6 (ix (x2 &&& (63 : Int32))) p26)) else none)) else none)))) else none)) else none
set_option maxHeartbeats 4000000 in
set_option maxRecDepth 100000 in
theorem t_l_X9_price_120 {g : Gx} {V : Vt} {d : Nat} (S : MachB g yX9_price cX9_price 10 (d + 3) V) {o1 : Nat} {x3 : Int32} {o6 : Nat}  (s : Int32 × Int32 × Int32 × Mm) (e : (Int32 × Int32 × Int32 × Mm) ⊕ (Int32 × Int32 × Mm)) (h : l_X9_price_120 o1 x3 o6 s = some e) (hC : ∀ s2, e = .inl s2 → V 120 [some (rf g 14), some (rf g o1), none, some (.int x3), some (.int s2.1), some (.int s2.2.1), some (rf g o6), some (.int s2.2.2.1), none, none] [] s2.2.2.2) (hE : ∀ x, e = .inr x → V 196 [none, some (rf g o1), none, some (.int x3), some (.int x.1), some (.int x.2.1), some (rf g o6), none, none, none] [] x.2.2) : V 120 [some (rf g 14), some (rf g o1), none, some (.int x3), some (.int s.1), some (.int s.2.1), some (rf g o6), some (.int s.2.2.1), none, none] [] s.2.2.2 := by
  unfold l_X9_price_120 at h
  refine i_iload S dX9_price_120 rfl ?_
  refine i_bipush (v := 64) S dX9_price_122 bp_64 ?_
  refine i_icmp_ge (tgt := 196) S dX9_price_124 (by decide) (fun q1 => ?_) (fun q1 => ?_)
  · replace h := (if_pos q1).symm.trans h
    refine i_mask (L1 := [none, some (rf g o1), none, some (.int x3), some (.int s.1), some (.int s.2.1), some (rf g o6), none, none, none]) S [false, true, false, true, true, true, true, false, false, false] rfl ?_
    have hz := hE _ (Option.some.inj h).symm
    exact hz
  · replace h := (if_neg q1).symm.trans h
    refine i_aload_n S dX9_price_127 rfl ?_
    obtain ⟨hs2, h⟩ := gd h
    refine i_getR S fl_X9_52 (sp_k0 hs2) (sp_r1 hs2) rfl dX9_price_128 ?_
    refine i_iload S dX9_price_131 rfl ?_
    obtain ⟨hi4, h⟩ := gd h
    refine i_ialdv (v := gI s.2.2.2 (o1 + 1) (ix s.2.2.1)) S (sp_k1 hs2) hi4 rfl dX9_price_133 ?_
    refine i_istore (L1 := [some (rf g 14), some (rf g o1), none, some (.int x3), some (.int s.1), some (.int s.2.1), some (rf g o6), some (.int s.2.2.1), some (.int (gI s.2.2.2 (o1 + 1) (ix s.2.2.1))), none]) S dX9_price_134 (by decide) rfl ?_
    refine i_iload S dX9_price_136 rfl ?_
    refine i_iload_n S dX9_price_138 rfl ?_
    obtain ⟨p6, e6, h⟩ := bn h
    have hj6 : ∀ q6, p6 = q6 → V 190 [some (rf g 14), some (rf g o1), none, some (.int x3), some (.int q6.1), some (.int q6.2.1), some (rf g o6), some (.int s.2.2.1), none, none] [] q6.2.2 := by
      intro q6 hq6
      subst hq6
      refine i_iinc (L1 := [some (rf g 14), some (rf g o1), none, some (.int x3), some (.int p6.1), some (.int p6.2.1), some (rf g o6), some (.int (s.2.2.1 + (1 : Int32))), none, none]) S dX9_price_190 rfl ic_1 (by decide) rfl ?_
      refine i_goto (tgt := 120) S dX9_price_193 (by decide) ?_
      have hz := hC _ (Option.some.inj h).symm
      exact hz
    replace h := e6
    clear e6
    refine i_icmp_eq (tgt := 190) S dX9_price_139 (by decide) (fun q5 => ?_) (fun q5 => ?_)
    · replace h := (if_pos q5).symm.trans h
      refine i_mask (L1 := [some (rf g 14), some (rf g o1), none, some (.int x3), some (.int s.1), some (.int s.2.1), some (rf g o6), some (.int s.2.2.1), none, none]) S [true, true, false, true, true, true, true, true, false, false] rfl ?_
      have hz := hj6 _ (Option.some.inj h).symm
      exact hz
    · replace h := (if_neg q5).symm.trans h
      refine i_iload S dX9_price_142 rfl ?_
      refine i_iload S dX9_price_144 rfl ?_
      refine i_icmp_ge (tgt := 190) S dX9_price_146 (by decide) (fun q7 => ?_) (fun q7 => ?_)
      · replace h := (if_pos q7).symm.trans h
        refine i_mask (L1 := [some (rf g 14), some (rf g o1), none, some (.int x3), some (.int s.1), some (.int s.2.1), some (rf g o6), some (.int s.2.2.1), none, none]) S [true, true, false, true, true, true, true, true, false, false] rfl ?_
        have hz := hj6 _ (Option.some.inj h).symm
        exact hz
      · replace h := (if_neg q7).symm.trans h
        refine i_aload_n S dX9_price_149 rfl ?_
        obtain ⟨hL8, h⟩ := onLn h
        refine i_getR S fl_X9_20 (k14 hL8) (r14_4 hL8) rfl dX9_price_150 ?_
        refine i_iload_n S dX9_price_153 rfl ?_
        refine i_iload S dX9_price_154 rfl ?_
        refine i_iload S dX9_price_156 rfl ?_
        obtain ⟨p9, e9, h⟩ := bn h
        refine i_callV (As := [.int x3, .int s.2.2.1, .int (gI s.2.2.2 (o1 + 1) (ix s.2.2.1))]) (st1 := [.int p9.1]) S (c_X4_extraFor g d hL8 (by decide) e9) mw_X4_extraFor lk_X9_67 im_X4_extraFor se_X4_extraFor ci_4.1 ci_4.2.1 (k16 hL8) dX9_price_158 rfl rfl (Nat.le_of_ble_eq_true rfl) rfl ?_
        refine i_istore (L1 := [some (rf g 14), some (rf g o1), none, some (.int x3), some (.int s.1), some (.int s.2.1), some (rf g o6), some (.int s.2.2.1), some (.int (gI s.2.2.2 (o1 + 1) (ix s.2.2.1))), some (.int p9.1)]) S dX9_price_161 (by decide) rfl ?_
        refine i_iload S dX9_price_163 rfl ?_
        refine i_iconst (v := -1) S dX9_price_165 ic_m1 ?_
        refine i_icmp_eq (tgt := 190) S dX9_price_166 (by decide) (fun q10 => ?_) (fun q10 => ?_)
        · replace h := (if_pos q10).symm.trans h
          refine i_mask (L1 := [some (rf g 14), some (rf g o1), none, some (.int x3), some (.int s.1), some (.int s.2.1), some (rf g o6), some (.int s.2.2.1), none, none]) S [true, true, false, true, true, true, true, true, false, false] rfl ?_
          have hz := hj6 _ (Option.some.inj h).symm
          exact hz
        · replace h := (if_neg q10).symm.trans h
          refine i_iload S dX9_price_169 rfl ?_
          refine i_iload S dX9_price_171 rfl ?_
          refine i_iadd S dX9_price_173 ?_
          refine i_iload S dX9_price_174 rfl ?_
          refine i_icmp_ge (tgt := 190) S dX9_price_176 (by decide) (fun q11 => ?_) (fun q11 => ?_)
          · replace h := (if_pos q11).symm.trans h
            refine i_mask (L1 := [some (rf g 14), some (rf g o1), none, some (.int x3), some (.int s.1), some (.int s.2.1), some (rf g o6), some (.int s.2.2.1), none, none]) S [true, true, false, true, true, true, true, true, false, false] rfl ?_
            have hz := hj6 _ (Option.some.inj h).symm
            exact hz
          · replace h := (if_neg q11).symm.trans h
            refine i_iload S dX9_price_179 rfl ?_
            refine i_iload S dX9_price_181 rfl ?_
            refine i_iadd S dX9_price_183 ?_
            refine i_istore (L1 := [some (rf g 14), some (rf g o1), none, some (.int x3), some (.int ((gI s.2.2.2 (o1 + 1) (ix s.2.2.1)) + p9.1)), some (.int s.2.1), some (rf g o6), some (.int s.2.2.1), some (.int (gI s.2.2.2 (o1 + 1) (ix s.2.2.1))), some (.int p9.1)]) S dX9_price_184 (by decide) rfl ?_
            refine i_iload S dX9_price_186 rfl ?_
            refine i_istore (L1 := [some (rf g 14), some (rf g o1), none, some (.int x3), some (.int ((gI s.2.2.2 (o1 + 1) (ix s.2.2.1)) + p9.1)), some (.int s.2.2.1), some (rf g o6), some (.int s.2.2.1), some (.int (gI s.2.2.2 (o1 + 1) (ix s.2.2.1))), some (.int p9.1)]) S dX9_price_188 (by decide) rfl ?_
            refine i_mask (L1 := [some (rf g 14), some (rf g o1), none, some (.int x3), some (.int ((gI s.2.2.2 (o1 + 1) (ix s.2.2.1)) + p9.1)), some (.int s.2.2.1), some (rf g o6), some (.int s.2.2.1), none, none]) S [true, true, false, true, true, true, true, true, false, false] rfl ?_
            have hz := hj6 _ (Option.some.inj h).symm
            exact hz
set_option maxHeartbeats 4000000 in
set_option maxRecDepth 100000 in
theorem t_l_X9_price_120b {g : Gx} {V : Vt} {d : Nat} (S : MachB g yX9_price cX9_price 10 (d + 3) V) {o1 : Nat} {x3 : Int32} {o6 : Nat}  (s : Int32 × Int32 × Int32 × Mm) (e : (Int32 × Int32 × Int32 × Mm) ⊕ (Int32 × Int32 × Mm)) (h : l_X9_price_120b o1 x3 o6 s = some e) (hC : ∀ s2, e = .inl s2 → V 120 [some (rf g 14), some (rf g o1), none, some (.int x3), some (.int s2.1), some (.int s2.2.1), some (rf g o6), some (.int s2.2.2.1), none, none] [] s2.2.2.2) (hE : ∀ x, e = .inr x → V 196 [none, some (rf g o1), none, some (.int x3), some (.int x.1), some (.int x.2.1), some (rf g o6), none, none, none] [] x.2.2) : V 120 [some (rf g 14), some (rf g o1), none, some (.int x3), some (.int s.1), some (.int s.2.1), some (rf g o6), some (.int s.2.2.1), none, none] [] s.2.2.2 := by
  unfold l_X9_price_120b at h
  refine i_iload S dX9_price_120 rfl ?_
  refine i_bipush (v := 64) S dX9_price_122 bp_64 ?_
  refine i_icmp_ge (tgt := 196) S dX9_price_124 (by decide) (fun q1 => ?_) (fun q1 => ?_)
  · replace h := (if_pos q1).symm.trans h
    refine i_mask (L1 := [none, some (rf g o1), none, some (.int x3), some (.int s.1), some (.int s.2.1), some (rf g o6), none, none, none]) S [false, true, false, true, true, true, true, false, false, false] rfl ?_
    have hz := hE _ (Option.some.inj h).symm
    exact hz
  · replace h := (if_neg q1).symm.trans h
    refine i_aload_n S dX9_price_127 rfl ?_
    obtain ⟨hs2, h⟩ := gd h
    refine i_getR S fl_X9_52 (sp_k0 hs2) (sp_r1 hs2) rfl dX9_price_128 ?_
    refine i_iload S dX9_price_131 rfl ?_
    obtain ⟨hi4, h⟩ := gd h
    refine i_ialdv (v := gI s.2.2.2 (o1 + 1) (ix s.2.2.1)) S (sp_k1 hs2) hi4 rfl dX9_price_133 ?_
    refine i_istore (L1 := [some (rf g 14), some (rf g o1), none, some (.int x3), some (.int s.1), some (.int s.2.1), some (rf g o6), some (.int s.2.2.1), some (.int (gI s.2.2.2 (o1 + 1) (ix s.2.2.1))), none]) S dX9_price_134 (by decide) rfl ?_
    refine i_iload S dX9_price_136 rfl ?_
    refine i_iload_n S dX9_price_138 rfl ?_
    obtain ⟨p6, e6, h⟩ := bn h
    have hj6 : ∀ q6, p6 = q6 → V 190 [some (rf g 14), some (rf g o1), none, some (.int x3), some (.int q6.1), some (.int q6.2.1), some (rf g o6), some (.int s.2.2.1), none, none] [] q6.2.2 := by
      intro q6 hq6
      subst hq6
      refine i_iinc (L1 := [some (rf g 14), some (rf g o1), none, some (.int x3), some (.int p6.1), some (.int p6.2.1), some (rf g o6), some (.int (s.2.2.1 + (1 : Int32))), none, none]) S dX9_price_190 rfl ic_1 (by decide) rfl ?_
      refine i_goto (tgt := 120) S dX9_price_193 (by decide) ?_
      have hz := hC _ (Option.some.inj h).symm
      exact hz
    replace h := e6
    clear e6
    refine i_icmp_eq (tgt := 190) S dX9_price_139 (by decide) (fun q5 => ?_) (fun q5 => ?_)
    · replace h := (if_pos q5).symm.trans h
      refine i_mask (L1 := [some (rf g 14), some (rf g o1), none, some (.int x3), some (.int s.1), some (.int s.2.1), some (rf g o6), some (.int s.2.2.1), none, none]) S [true, true, false, true, true, true, true, true, false, false] rfl ?_
      have hz := hj6 _ (Option.some.inj h).symm
      exact hz
    · replace h := (if_neg q5).symm.trans h
      refine i_iload S dX9_price_142 rfl ?_
      refine i_iload S dX9_price_144 rfl ?_
      refine i_icmp_ge (tgt := 190) S dX9_price_146 (by decide) (fun q7 => ?_) (fun q7 => ?_)
      · replace h := (if_pos q7).symm.trans h
        refine i_mask (L1 := [some (rf g 14), some (rf g o1), none, some (.int x3), some (.int s.1), some (.int s.2.1), some (rf g o6), some (.int s.2.2.1), none, none]) S [true, true, false, true, true, true, true, true, false, false] rfl ?_
        have hz := hj6 _ (Option.some.inj h).symm
        exact hz
      · replace h := (if_neg q7).symm.trans h
        refine i_aload_n S dX9_price_149 rfl ?_
        obtain ⟨hL8, h⟩ := onLn h
        refine i_getR S fl_X9_20 (k14 hL8) (r14_4 hL8) rfl dX9_price_150 ?_
        refine i_iload_n S dX9_price_153 rfl ?_
        refine i_iload S dX9_price_154 rfl ?_
        refine i_iload S dX9_price_156 rfl ?_
        obtain ⟨p9, e9, h⟩ := bn h
        refine i_callV (As := [.int x3, .int s.2.2.1, .int (gI s.2.2.2 (o1 + 1) (ix s.2.2.1))]) (st1 := [.int p9.1]) S (c_X4_extraFor g d hL8 (by decide) e9) mw_X4_extraFor lk_X9_67 im_X4_extraFor se_X4_extraFor ci_4.1 ci_4.2.1 (k16 hL8) dX9_price_158 rfl rfl (Nat.le_of_ble_eq_true rfl) rfl ?_
        refine i_istore (L1 := [some (rf g 14), some (rf g o1), none, some (.int x3), some (.int s.1), some (.int s.2.1), some (rf g o6), some (.int s.2.2.1), some (.int (gI s.2.2.2 (o1 + 1) (ix s.2.2.1))), some (.int p9.1)]) S dX9_price_161 (by decide) rfl ?_
        refine i_iload S dX9_price_163 rfl ?_
        refine i_iconst (v := -1) S dX9_price_165 ic_m1 ?_
        refine i_icmp_eq (tgt := 190) S dX9_price_166 (by decide) (fun q10 => ?_) (fun q10 => ?_)
        · replace h := (if_pos q10).symm.trans h
          refine i_mask (L1 := [some (rf g 14), some (rf g o1), none, some (.int x3), some (.int s.1), some (.int s.2.1), some (rf g o6), some (.int s.2.2.1), none, none]) S [true, true, false, true, true, true, true, true, false, false] rfl ?_
          have hz := hj6 _ (Option.some.inj h).symm
          exact hz
        · replace h := (if_neg q10).symm.trans h
          refine i_iload S dX9_price_169 rfl ?_
          refine i_iload S dX9_price_171 rfl ?_
          refine i_iadd S dX9_price_173 ?_
          refine i_iload S dX9_price_174 rfl ?_
          refine i_icmp_ge (tgt := 190) S dX9_price_176 (by decide) (fun q11 => ?_) (fun q11 => ?_)
          · replace h := (if_pos q11).symm.trans h
            refine i_mask (L1 := [some (rf g 14), some (rf g o1), none, some (.int x3), some (.int s.1), some (.int s.2.1), some (rf g o6), some (.int s.2.2.1), none, none]) S [true, true, false, true, true, true, true, true, false, false] rfl ?_
            have hz := hj6 _ (Option.some.inj h).symm
            exact hz
          · replace h := (if_neg q11).symm.trans h
            refine i_iload S dX9_price_179 rfl ?_
            refine i_iload S dX9_price_181 rfl ?_
            refine i_iadd S dX9_price_183 ?_
            refine i_istore (L1 := [some (rf g 14), some (rf g o1), none, some (.int x3), some (.int ((gI s.2.2.2 (o1 + 1) (ix s.2.2.1)) + p9.1)), some (.int s.2.1), some (rf g o6), some (.int s.2.2.1), some (.int (gI s.2.2.2 (o1 + 1) (ix s.2.2.1))), some (.int p9.1)]) S dX9_price_184 (by decide) rfl ?_
            refine i_iload S dX9_price_186 rfl ?_
            refine i_istore (L1 := [some (rf g 14), some (rf g o1), none, some (.int x3), some (.int ((gI s.2.2.2 (o1 + 1) (ix s.2.2.1)) + p9.1)), some (.int s.2.2.1), some (rf g o6), some (.int s.2.2.1), some (.int (gI s.2.2.2 (o1 + 1) (ix s.2.2.1))), some (.int p9.1)]) S dX9_price_188 (by decide) rfl ?_
            refine i_mask (L1 := [some (rf g 14), some (rf g o1), none, some (.int x3), some (.int ((gI s.2.2.2 (o1 + 1) (ix s.2.2.1)) + p9.1)), some (.int s.2.2.1), some (rf g o6), some (.int s.2.2.1), none, none]) S [true, true, false, true, true, true, true, true, false, false] rfl ?_
            have hz := hj6 _ (Option.some.inj h).symm
            exact hz
set_option maxHeartbeats 4000000 in
set_option maxRecDepth 100000 in
theorem c_X9_price (g : Gx) (d : Nat) {o1 : Nat} {x2 : Int32} {w : Mm} {p : (Int32 × Mm)} (hL : Lay w) (ho1 : isSp w o1 = true) (h : f_X9_price o1 x2 w = some p) : Call g (d + 4) yX9_price cX9_price 10 (some .int) [rf g 14, rf g o1, .int x2] w (some (.int p.1)) p.2 := by
  refine call_of (L0 := [some (rf g 14), some (rf g o1), some (.int x2), none, none, none, none, none, none, none]) (by decide) rfl (Nat.le_of_ble_eq_true rfl) (fun V S0 => ?_)
  have S := S0.b
  unfold f_X9_price at h
  refine i_iload_n S dX9_price_0 rfl ?_
  refine i_bipush (v := 63) S dX9_price_1 bp_63 ?_
  refine i_iand S dX9_price_3 ?_
  refine i_istore_n (L1 := [some (rf g 14), some (rf g o1), some (.int x2), some (.int (x2 &&& (63 : Int32))), none, none, none, none, none, none]) S dX9_price_4 (by decide) rfl ?_
  refine i_aload_n S dX9_price_5 rfl ?_
  refine i_getR S fl_X9_52 (sp_k0 ho1) (sp_r1 ho1) rfl dX9_price_6 ?_
  refine i_iload_n S dX9_price_9 rfl ?_
  obtain ⟨hi2, h⟩ := gd h
  refine i_ialdv (v := gI w (o1 + 1) (ix (x2 &&& (63 : Int32)))) S (sp_k1 ho1) hi2 rfl dX9_price_10 ?_
  refine i_istore (L1 := [some (rf g 14), some (rf g o1), some (.int x2), some (.int (x2 &&& (63 : Int32))), some (.int (gI w (o1 + 1) (ix (x2 &&& (63 : Int32))))), none, none, none, none, none]) S dX9_price_11 (by decide) rfl ?_
  refine i_iload_n S dX9_price_13 rfl ?_
  refine i_istore (L1 := [some (rf g 14), some (rf g o1), some (.int x2), some (.int (x2 &&& (63 : Int32))), some (.int (gI w (o1 + 1) (ix (x2 &&& (63 : Int32))))), some (.int (x2 &&& (63 : Int32))), none, none, none, none]) S dX9_price_14 (by decide) rfl ?_
  refine i_aload_n S dX9_price_16 rfl ?_
  refine i_getIv (v := gI w o1 8) S fl_X9_56 (sp_k0 ho1) rfl rfl dX9_price_17 ?_
  refine i_aload_n S dX9_price_20 rfl ?_
  refine i_getIv (v := gI w 14 5) S fl_X9_43 (k14 hL) rfl rfl dX9_price_21 ?_
  obtain ⟨p4, e4, h⟩ := bn h
  have hj4 : ∀ q4, p4 = q4 → V 40 [some (rf g 14), some (rf g o1), none, some (.int (x2 &&& (63 : Int32))), some (.int (gI w (o1 + 1) (ix (x2 &&& (63 : Int32))))), some (.int (x2 &&& (63 : Int32))), none, none, none, none] [] q4 := by
    intro q4 hq4
    subst hq4
    refine i_aload_n S dX9_price_40 rfl ?_
    obtain ⟨hs5, h⟩ := gd h
    refine i_getRq S fl_X9_61 (sp_k0 hs5) rfl dX9_price_41 (fun hq6 => ?_) (fun a6 hq6 => ?_)
    · replace h := onq_n hq6 h
      refine i_astoreN (L1 := [some (rf g 14), some (rf g o1), none, some (.int (x2 &&& (63 : Int32))), some (.int (gI w (o1 + 1) (ix (x2 &&& (63 : Int32))))), some (.int (x2 &&& (63 : Int32))), some (.null), none, none, none]) S dX9_price_44 (by decide) rfl ?_
      refine i_aloadN S dX9_price_46 rfl ?_
      refine i_ifnonnullN S dX9_price_48 ?_
      refine i_aload_n S dX9_price_51 rfl ?_
      obtain ⟨hL7, h⟩ := onLn h
      refine i_getR S fl_X9_20 (k14 hL7) (r14_4 hL7) rfl dX9_price_52 ?_
      refine i_getIv (v := gI p4 16 9) S fl_X9_64 (k16 hL7) rfl rfl dX9_price_55 ?_
      refine i_if_le (tgt := 73) S dX9_price_58 (by decide) (fun q8 => ?_) (fun q8 => ?_)
      · replace h := (if_pos q8).symm.trans h
        refine i_aloadN S dX9_price_73 rfl ?_
        refine i_ifnonnullN S dX9_price_75 ?_
        refine i_iload S dX9_price_78 rfl ?_
        refine i_ldc S kc_X9_47 dX9_price_80 ?_
        refine i_icmp_ge (tgt := 96) S dX9_price_82 (by decide) (fun q9 => ?_) (fun q9 => ?_)
        · replace h := (if_pos q9).symm.trans h
          refine i_bipush (v := -2) S dX9_price_96 bp_m2 ?_
          cases h
          exact i_iret S0 rfl dX9_price_98
        · replace h := (if_neg q9).symm.trans h
          refine i_iload S dX9_price_85 rfl ?_
          refine i_bipush (v := 6) S dX9_price_87 bp_6 ?_
          refine i_ishl S dX9_price_89 ?_
          refine i_iload S dX9_price_90 rfl ?_
          refine i_ior S dX9_price_92 ?_
          refine i_goto (tgt := 98) S dX9_price_93 (by decide) ?_
          cases h
          exact i_iret S0 rfl dX9_price_98
      · replace h := (if_neg q8).symm.trans h
        refine i_bipush (v := 64) S dX9_price_61 bp_64 ?_
        obtain ⟨p10, e10, h⟩ := bn h
        refine i_newaqI (N := 64) S ac_int (by decide) (by decide) (by decide) e10 dX9_price_63 ?_
        refine i_astore (L1 := [some (rf g 14), some (rf g o1), none, some (.int (x2 &&& (63 : Int32))), some (.int (gI w (o1 + 1) (ix (x2 &&& (63 : Int32))))), some (.int (x2 &&& (63 : Int32))), some (rf g p10.1), none, none, none]) S dX9_price_65 (by decide) rfl ?_
        refine i_aload_n S dX9_price_67 rfl ?_
        refine i_aload S dX9_price_68 rfl ?_
        obtain ⟨hs11, h⟩ := gd h
        refine i_putR (x := some p10.1) S fl_X9_61 (sp_k0 hs11) rfl rfl rfl dX9_price_70 ?_
        refine i_aload S dX9_price_73 rfl ?_
        refine i_ifnonnull (tgt := 99) S dX9_price_75 (by decide) ?_
        refine i_aload_n S dX9_price_99 rfl ?_
        obtain ⟨hs12, h⟩ := gd h
        refine i_getLv (v := gL p10.2 o1 7) S fl_X9_57 (sp_k0 hs12) rfl rfl dX9_price_100 ?_
        refine i_iload_n S dX9_price_103 rfl ?_
        refine i_lshr S dX9_price_104 ?_
        refine i_lconst (v := 1) S dX9_price_105 lc_1 ?_
        refine i_land S dX9_price_106 ?_
        refine i_lconst (v := 1) S dX9_price_107 lc_1 ?_
        refine i_lc_ne (tgt := 117) S dX9_price_108 dX9_price_109 (by decide) (fun q13 => ?_) (fun q13 => ?_)
        · replace h := (if_neg q13).symm.trans h
          refine i_iconst (v := 0) S dX9_price_117 ic_0 ?_
          refine i_istore (L1 := [some (rf g 14), some (rf g o1), none, some (.int (x2 &&& (63 : Int32))), some (.int (gI w (o1 + 1) (ix (x2 &&& (63 : Int32))))), some (.int (x2 &&& (63 : Int32))), some (rf g p10.1), some (.int ((0 : Int32))), none, none]) S dX9_price_118 (by decide) rfl ?_
          obtain ⟨p14, e14, h⟩ := bn h
          have hE14 : V 196 [none, some (rf g o1), none, some (.int (x2 &&& (63 : Int32))), some (.int p14.1), some (.int p14.2.1), some (rf g p10.1), none, none, none] [] p14.2.2 := by
            refine i_aload_n S dX9_price_196 rfl ?_
            refine i_dup S dX9_price_197 rfl ?_
            obtain ⟨hs15, h⟩ := gd h
            refine i_getLv (v := gL p14.2.2 o1 7) S fl_X9_57 (sp_k0 hs15) rfl rfl dX9_price_198 ?_
            refine i_lconst (v := 1) S dX9_price_201 lc_1 ?_
            refine i_iload_n S dX9_price_202 rfl ?_
            refine i_lshl S dX9_price_203 ?_
            refine i_lor S dX9_price_204 ?_
            refine i_putL S fl_X9_57 (sp_k0 hs15) rfl rfl rfl dX9_price_205 ?_
            refine i_aload S dX9_price_208 rfl ?_
            refine i_iload_n S dX9_price_210 rfl ?_
            refine i_iload S dX9_price_211 rfl ?_
            refine i_ldc S kc_X9_47 dX9_price_213 ?_
            obtain ⟨p17, e17, h⟩ := bn h
            have hj17 : ∀ q17, p17 = q17 → V 231 [none, none, none, some (.int (x2 &&& (63 : Int32))), none, none, some (rf g p10.1), none, none, none] [.int q17, .int (x2 &&& (63 : Int32)), rf g p10.1] (sL p14.2.2 o1 7 ((gL p14.2.2 o1 7) ||| ((1 : Int64) <<< ((x2 &&& (63 : Int32)).toInt64 &&& 63)))) := by
              intro q17 hq17
              subst hq17
              obtain ⟨hk18, h⟩ := gd h
              refine i_iast S hk18 hi2 dX9_price_231 ?_
              refine i_aload S dX9_price_232 rfl ?_
              refine i_iload_n S dX9_price_234 rfl ?_
              refine i_ialdv (v := gI (sI (sL p14.2.2 o1 7 ((gL p14.2.2 o1 7) ||| ((1 : Int64) <<< ((x2 &&& (63 : Int32)).toInt64 &&& 63)))) p10.1 (ix (x2 &&& (63 : Int32))) p17) p10.1 (ix (x2 &&& (63 : Int32)))) S hk18 hi2 rfl dX9_price_235 ?_
              cases h
              exact i_iret S0 rfl dX9_price_236
            replace h := e17
            clear e17
            refine i_icmp_ge (tgt := 229) S dX9_price_215 (by decide) (fun q16 => ?_) (fun q16 => ?_)
            · replace h := (if_pos q16).symm.trans h
              refine i_bipush (v := -2) S dX9_price_229 bp_m2 ?_
              refine i_mask (L1 := [none, none, none, some (.int (x2 &&& (63 : Int32))), none, none, some (rf g p10.1), none, none, none]) S [false, false, false, true, false, false, true, false, false, false] rfl ?_
              have hz := hj17 _ (Option.some.inj h).symm
              exact hz
            · replace h := (if_neg q16).symm.trans h
              refine i_iload S dX9_price_218 rfl ?_
              refine i_bipush (v := 6) S dX9_price_220 bp_6 ?_
              refine i_ishl S dX9_price_222 ?_
              refine i_iload S dX9_price_223 rfl ?_
              refine i_ior S dX9_price_225 ?_
              refine i_goto (tgt := 231) S dX9_price_226 (by decide) ?_
              refine i_mask (L1 := [none, none, none, some (.int (x2 &&& (63 : Int32))), none, none, some (rf g p10.1), none, none, none]) S [false, false, false, true, false, false, true, false, false, false] rfl ?_
              have hz := hj17 _ (Option.some.inj h).symm
              exact hz
          exact wh_V (P := fun sv14 => V 120 [some (rf g 14), some (rf g o1), none, some (.int (x2 &&& (63 : Int32))), some (.int sv14.1), some (.int sv14.2.1), some (rf g p10.1), some (.int sv14.2.2.1), none, none] [] sv14.2.2.2) (E := fun xv14 => V 196 [none, some (rf g o1), none, some (.int (x2 &&& (63 : Int32))), some (.int xv14.1), some (.int xv14.2.1), some (rf g p10.1), none, none, none] [] xv14.2.2) (fun sv14 ev hb hc he => t_l_X9_price_120   S  sv14 ev hb hc he) FUEL _ _ e14 hE14
        · replace h := (if_pos q13).symm.trans h
          refine i_aload S dX9_price_112 rfl ?_
          refine i_iload_n S dX9_price_114 rfl ?_
          refine i_ialdv (v := gI p10.2 p10.1 (ix (x2 &&& (63 : Int32)))) S (alq_K e10) hi2 rfl dX9_price_115 ?_
          cases h
          exact i_iret S0 rfl dX9_price_116
    · replace h := onq_s hq6 h
      refine i_astore (L1 := [some (rf g 14), some (rf g o1), none, some (.int (x2 &&& (63 : Int32))), some (.int (gI w (o1 + 1) (ix (x2 &&& (63 : Int32))))), some (.int (x2 &&& (63 : Int32))), some (rf g a6), none, none, none]) S dX9_price_44 (by decide) rfl ?_
      refine i_aload S dX9_price_46 rfl ?_
      refine i_ifnonnull (tgt := 73) S dX9_price_48 (by decide) ?_
      refine i_aload S dX9_price_73 rfl ?_
      refine i_ifnonnull (tgt := 99) S dX9_price_75 (by decide) ?_
      refine i_aload_n S dX9_price_99 rfl ?_
      refine i_getLv (v := gL p4 o1 7) S fl_X9_57 (sp_k0 hs5) rfl rfl dX9_price_100 ?_
      refine i_iload_n S dX9_price_103 rfl ?_
      refine i_lshr S dX9_price_104 ?_
      refine i_lconst (v := 1) S dX9_price_105 lc_1 ?_
      refine i_land S dX9_price_106 ?_
      refine i_lconst (v := 1) S dX9_price_107 lc_1 ?_
      refine i_lc_ne (tgt := 117) S dX9_price_108 dX9_price_109 (by decide) (fun q22 => ?_) (fun q22 => ?_)
      · replace h := (if_neg q22).symm.trans h
        refine i_iconst (v := 0) S dX9_price_117 ic_0 ?_
        refine i_istore (L1 := [some (rf g 14), some (rf g o1), none, some (.int (x2 &&& (63 : Int32))), some (.int (gI w (o1 + 1) (ix (x2 &&& (63 : Int32))))), some (.int (x2 &&& (63 : Int32))), some (rf g a6), some (.int ((0 : Int32))), none, none]) S dX9_price_118 (by decide) rfl ?_
        obtain ⟨p23, e23, h⟩ := bn h
        have hE23 : V 196 [none, some (rf g o1), none, some (.int (x2 &&& (63 : Int32))), some (.int p23.1), some (.int p23.2.1), some (rf g a6), none, none, none] [] p23.2.2 := by
          refine i_aload_n S dX9_price_196 rfl ?_
          refine i_dup S dX9_price_197 rfl ?_
          obtain ⟨hs24, h⟩ := gd h
          refine i_getLv (v := gL p23.2.2 o1 7) S fl_X9_57 (sp_k0 hs24) rfl rfl dX9_price_198 ?_
          refine i_lconst (v := 1) S dX9_price_201 lc_1 ?_
          refine i_iload_n S dX9_price_202 rfl ?_
          refine i_lshl S dX9_price_203 ?_
          refine i_lor S dX9_price_204 ?_
          refine i_putL S fl_X9_57 (sp_k0 hs24) rfl rfl rfl dX9_price_205 ?_
          refine i_aload S dX9_price_208 rfl ?_
          refine i_iload_n S dX9_price_210 rfl ?_
          refine i_iload S dX9_price_211 rfl ?_
          refine i_ldc S kc_X9_47 dX9_price_213 ?_
          obtain ⟨p26, e26, h⟩ := bn h
          have hj26 : ∀ q26, p26 = q26 → V 231 [none, none, none, some (.int (x2 &&& (63 : Int32))), none, none, some (rf g a6), none, none, none] [.int q26, .int (x2 &&& (63 : Int32)), rf g a6] (sL p23.2.2 o1 7 ((gL p23.2.2 o1 7) ||| ((1 : Int64) <<< ((x2 &&& (63 : Int32)).toInt64 &&& 63)))) := by
            intro q26 hq26
            subst hq26
            obtain ⟨hk27, h⟩ := gd h
            refine i_iast S hk27 hi2 dX9_price_231 ?_
            refine i_aload S dX9_price_232 rfl ?_
            refine i_iload_n S dX9_price_234 rfl ?_
            refine i_ialdv (v := gI (sI (sL p23.2.2 o1 7 ((gL p23.2.2 o1 7) ||| ((1 : Int64) <<< ((x2 &&& (63 : Int32)).toInt64 &&& 63)))) a6 (ix (x2 &&& (63 : Int32))) p26) a6 (ix (x2 &&& (63 : Int32)))) S hk27 hi2 rfl dX9_price_235 ?_
            cases h
            exact i_iret S0 rfl dX9_price_236
          replace h := e26
          clear e26
          refine i_icmp_ge (tgt := 229) S dX9_price_215 (by decide) (fun q25 => ?_) (fun q25 => ?_)
          · replace h := (if_pos q25).symm.trans h
            refine i_bipush (v := -2) S dX9_price_229 bp_m2 ?_
            refine i_mask (L1 := [none, none, none, some (.int (x2 &&& (63 : Int32))), none, none, some (rf g a6), none, none, none]) S [false, false, false, true, false, false, true, false, false, false] rfl ?_
            have hz := hj26 _ (Option.some.inj h).symm
            exact hz
          · replace h := (if_neg q25).symm.trans h
            refine i_iload S dX9_price_218 rfl ?_
            refine i_bipush (v := 6) S dX9_price_220 bp_6 ?_
            refine i_ishl S dX9_price_222 ?_
            refine i_iload S dX9_price_223 rfl ?_
            refine i_ior S dX9_price_225 ?_
            refine i_goto (tgt := 231) S dX9_price_226 (by decide) ?_
            refine i_mask (L1 := [none, none, none, some (.int (x2 &&& (63 : Int32))), none, none, some (rf g a6), none, none, none]) S [false, false, false, true, false, false, true, false, false, false] rfl ?_
            have hz := hj26 _ (Option.some.inj h).symm
            exact hz
        exact wh_V (P := fun sv23 => V 120 [some (rf g 14), some (rf g o1), none, some (.int (x2 &&& (63 : Int32))), some (.int sv23.1), some (.int sv23.2.1), some (rf g a6), some (.int sv23.2.2.1), none, none] [] sv23.2.2.2) (E := fun xv23 => V 196 [none, some (rf g o1), none, some (.int (x2 &&& (63 : Int32))), some (.int xv23.1), some (.int xv23.2.1), some (rf g a6), none, none, none] [] xv23.2.2) (fun sv23 ev hb hc he => t_l_X9_price_120b   S  sv23 ev hb hc he) FUEL _ _ e23 hE23
      · replace h := (if_pos q22).symm.trans h
        refine i_aload S dX9_price_112 rfl ?_
        refine i_iload_n S dX9_price_114 rfl ?_
        obtain ⟨hk30, h⟩ := gd h
        refine i_ialdv (v := gI p4 a6 (ix (x2 &&& (63 : Int32)))) S hk30 hi2 rfl dX9_price_115 ?_
        cases h
        exact i_iret S0 rfl dX9_price_116
  replace h := e4
  clear e4
  refine i_icmp_eq (tgt := 40) S dX9_price_24 (by decide) (fun q3 => ?_) (fun q3 => ?_)
  · replace h := (if_pos q3).symm.trans h
    refine i_mask (L1 := [some (rf g 14), some (rf g o1), none, some (.int (x2 &&& (63 : Int32))), some (.int (gI w (o1 + 1) (ix (x2 &&& (63 : Int32))))), some (.int (x2 &&& (63 : Int32))), none, none, none, none]) S [true, true, false, true, true, true, false, false, false, false] rfl ?_
    have hz := hj4 _ (Option.some.inj h).symm
    exact hz
  · replace h := (if_neg q3).symm.trans h
    refine i_aload_n S dX9_price_27 rfl ?_
    refine i_aload_n S dX9_price_28 rfl ?_
    refine i_getIv (v := gI w 14 5) S fl_X9_43 (k14 hL) rfl rfl dX9_price_29 ?_
    refine i_putI S fl_X9_56 (sp_k0 ho1) rfl rfl rfl dX9_price_32 ?_
    refine i_aload_n S dX9_price_35 rfl ?_
    refine i_lconst (v := 0) S dX9_price_36 lc_0 ?_
    refine i_putL S fl_X9_57 (sp_k0 ho1) rfl rfl rfl dX9_price_37 ?_
    refine i_mask (L1 := [some (rf g 14), some (rf g o1), none, some (.int (x2 &&& (63 : Int32))), some (.int (gI w (o1 + 1) (ix (x2 &&& (63 : Int32))))), some (.int (x2 &&& (63 : Int32))), none, none, none, none]) S [true, true, false, true, true, true, false, false, false, false] rfl ?_
    have hz := hj4 _ (Option.some.inj h).symm
    exact hz
