/-! WordYearModel.byPoints -/
noncomputable def l_X12_byPoints_34 (x1 : Int32) (x2 : Int32) (x3 : Int32) (s : Int32 × Int32 × Mm) : Option ((Int32 × Int32 × Mm) ⊕ (Int32 × Mm)) := if (4 : Int32) ≤ s.2.1 then (some (.inr (s.1, s.2.2))) else (onL s.2.2 (if inb s.2.1 4 = true then (Option.bind (f_X12_behind x3 s.2.1 s.2.2) (fun p5 => some (.inl (s.1 + ((gI s.2.2 53 (ix s.2.1)) * p5.1), s.2.1 + (1 : Int32), p5.2)))) else none))
noncomputable def l_X12_byPoints_6  (s : Int32 × Int32 × Int32 × Mm) : Option ((Int32 × Int32 × Int32 × Mm) ⊕ (Int32 × Mm)) := onL s.2.2.2 (if (gI s.2.2.2 47 2) ≤ s.2.2.1 then (some (.inr (s.1, s.2.2.2))) else (Option.bind (if (f_X12_has (gI s.2.2.2 47 6) s.2.2.1) = 0 then (some (s.1, s.2.1, s.2.2.2)) else (Option.bind (wh (l_X12_byPoints_34 s.1 s.2.1 s.2.2.1) FUEL ((0 : Int32), (0 : Int32), s.2.2.2)) (fun p5 => mg (if s.1 = (-1 : Int32) then (some (.inl ())) else (if s.2.1 < p5.1 then (some (.inl ())) else (some (.inr (s.1, s.2.1, p5.2))))) (fun p7 => some (s.2.2.1, p5.1, p5.2))))) (fun p4 => some (.inl (p4.1, p4.2.1, s.2.2.1 + (1 : Int32), p4.2.2)))))
noncomputable def f_X12_byPoints  (w : Mm) : Option (Int32 × Mm) := Option.bind (wh l_X12_byPoints_6 FUEL ((-1 : Int32), (0 : Int32), (0 : Int32), w)) (fun p1 => some (p1.1, p1.2))
set_option maxHeartbeats 4000000 in
set_option maxRecDepth 100000 in
theorem t_l_X12_byPoints_34 {g : Gx} {V : Vt} {d : Nat} (S : MachB g yX12_byPoints cX12_byPoints 6 (d + 11) V) {x1 : Int32} {x2 : Int32} {x3 : Int32}  (s : Int32 × Int32 × Mm) (e : (Int32 × Int32 × Mm) ⊕ (Int32 × Mm)) (h : l_X12_byPoints_34 x1 x2 x3 s = some e) (hC : ∀ s2, e = .inl s2 → V 34 [some (rf g 47), some (.int x1), some (.int x2), some (.int x3), some (.int s2.1), some (.int s2.2.1)] [] s2.2.2) (hE : ∀ x, e = .inr x → V 66 [some (rf g 47), some (.int x1), some (.int x2), some (.int x3), some (.int x.1), none] [] x.2) : V 34 [some (rf g 47), some (.int x1), some (.int x2), some (.int x3), some (.int s.1), some (.int s.2.1)] [] s.2.2 := by
  unfold l_X12_byPoints_34 at h
  refine i_iload S dX12_byPoints_34 rfl ?_
  refine i_iconst (v := 4) S dX12_byPoints_36 ic_4 ?_
  refine i_icmp_ge (tgt := 66) S dX12_byPoints_37 (by decide) (fun q1 => ?_) (fun q1 => ?_)
  · replace h := (if_pos q1).symm.trans h
    refine i_mask (L1 := [some (rf g 47), some (.int x1), some (.int x2), some (.int x3), some (.int s.1), none]) S [true, true, true, true, true, false] rfl ?_
    have hz := hE _ (Option.some.inj h).symm
    exact hz
  · replace h := (if_neg q1).symm.trans h
    refine i_iload S dX12_byPoints_40 rfl ?_
    refine i_aload_n S dX12_byPoints_42 rfl ?_
    obtain ⟨hL2, h⟩ := onLn h
    refine i_getR S fl_X12_30 (k47 hL2) (r47_12 hL2) rfl dX12_byPoints_43 ?_
    refine i_iload S dX12_byPoints_46 rfl ?_
    obtain ⟨hi4, h⟩ := gd h
    refine i_ialdv (v := gI s.2.2 53 (ix s.2.1)) S (k53 hL2) hi4 rfl dX12_byPoints_48 ?_
    refine i_aload_n S dX12_byPoints_49 rfl ?_
    refine i_iload_n S dX12_byPoints_50 rfl ?_
    refine i_iload S dX12_byPoints_51 rfl ?_
    obtain ⟨p5, e5, h⟩ := bn h
    refine i_callV (As := [.int x3, .int s.2.1]) (st1 := [.int p5.1, .int (gI s.2.2 53 (ix s.2.1)), .int s.1]) S (c_X12_behind g d hL2 e5) mw_X12_behind lk_X12_400 im_X12_behind se_X12_behind ci_12.1 ci_12.2.1 (k47 hL2) dX12_byPoints_53 rfl rfl (Nat.le_of_ble_eq_true rfl) rfl ?_
    refine i_imul S dX12_byPoints_56 ?_
    refine i_iadd S dX12_byPoints_57 ?_
    refine i_istore (L1 := [some (rf g 47), some (.int x1), some (.int x2), some (.int x3), some (.int (s.1 + ((gI s.2.2 53 (ix s.2.1)) * p5.1))), some (.int s.2.1)]) S dX12_byPoints_58 (by decide) rfl ?_
    refine i_iinc (L1 := [some (rf g 47), some (.int x1), some (.int x2), some (.int x3), some (.int (s.1 + ((gI s.2.2 53 (ix s.2.1)) * p5.1))), some (.int (s.2.1 + (1 : Int32)))]) S dX12_byPoints_60 rfl ic_1 (by decide) rfl ?_
    refine i_goto (tgt := 34) S dX12_byPoints_63 (by decide) ?_
    have hz := hC _ (Option.some.inj h).symm
    exact hz
set_option maxHeartbeats 4000000 in
set_option maxRecDepth 100000 in
theorem t_l_X12_byPoints_6 {g : Gx} {V : Vt} {d : Nat} (S : MachB g yX12_byPoints cX12_byPoints 6 (d + 11) V)   (s : Int32 × Int32 × Int32 × Mm) (e : (Int32 × Int32 × Int32 × Mm) ⊕ (Int32 × Mm)) (h : l_X12_byPoints_6  s = some e) (hC : ∀ s2, e = .inl s2 → V 6 [some (rf g 47), some (.int s2.1), some (.int s2.2.1), some (.int s2.2.2.1), none, none] [] s2.2.2.2) (hE : ∀ x, e = .inr x → V 91 [none, some (.int x.1), none, none, none, none] [] x.2) : V 6 [some (rf g 47), some (.int s.1), some (.int s.2.1), some (.int s.2.2.1), none, none] [] s.2.2.2 := by
  unfold l_X12_byPoints_6 at h
  refine i_iload_n S dX12_byPoints_6 rfl ?_
  refine i_aload_n S dX12_byPoints_7 rfl ?_
  obtain ⟨hL1, h⟩ := onLn h
  refine i_getIv (v := gI s.2.2.2 47 2) S fl_X12_135 (k47 hL1) rfl rfl dX12_byPoints_8 ?_
  refine i_icmp_ge (tgt := 91) S dX12_byPoints_11 (by decide) (fun q2 => ?_) (fun q2 => ?_)
  · replace h := (if_pos q2).symm.trans h
    refine i_mask (L1 := [none, some (.int s.1), none, none, none, none]) S [false, true, false, false, false, false] rfl ?_
    have hz := hE _ (Option.some.inj h).symm
    exact hz
  · replace h := (if_neg q2).symm.trans h
    refine i_aload_n S dX12_byPoints_14 rfl ?_
    refine i_getIv (v := gI s.2.2.2 47 6) S fl_X12_146 (k47 hL1) rfl rfl dX12_byPoints_15 ?_
    refine i_iload_n S dX12_byPoints_18 rfl ?_
    refine i_callS (As := [.int (gI s.2.2.2 47 6), .int s.2.2.1]) (st1 := [.int (f_X12_has (gI s.2.2.2 47 6) s.2.2.1)]) S (c_X12_has g (d + 10) rfl) mw_X12_has lk_X12_149 im_X12_has dX12_byPoints_19 rfl rfl (Nat.le_of_ble_eq_true rfl) rfl ?_
    obtain ⟨p4, e4, h⟩ := bn h
    have hj4 : ∀ q4, p4 = q4 → V 85 [some (rf g 47), some (.int q4.1), some (.int q4.2.1), some (.int s.2.2.1), none, none] [] q4.2.2 := by
      intro q4 hq4
      subst hq4
      refine i_iinc (L1 := [some (rf g 47), some (.int p4.1), some (.int p4.2.1), some (.int (s.2.2.1 + (1 : Int32))), none, none]) S dX12_byPoints_85 rfl ic_1 (by decide) rfl ?_
      refine i_goto (tgt := 6) S dX12_byPoints_88 (by decide) ?_
      have hz := hC _ (Option.some.inj h).symm
      exact hz
    replace h := e4
    clear e4
    refine i_if_ne (tgt := 28) S dX12_byPoints_22 (by decide) (fun q3 => ?_) (fun q3 => ?_)
    · replace h := (if_neg q3).symm.trans h
      refine i_iconst (v := 0) S dX12_byPoints_28 ic_0 ?_
      refine i_istore (L1 := [some (rf g 47), some (.int s.1), some (.int s.2.1), some (.int s.2.2.1), some (.int ((0 : Int32))), none]) S dX12_byPoints_29 (by decide) rfl ?_
      refine i_iconst (v := 0) S dX12_byPoints_31 ic_0 ?_
      refine i_istore (L1 := [some (rf g 47), some (.int s.1), some (.int s.2.1), some (.int s.2.2.1), some (.int ((0 : Int32))), some (.int ((0 : Int32)))]) S dX12_byPoints_32 (by decide) rfl ?_
      obtain ⟨p5, e5, h⟩ := bn h
      have hE5 : V 66 [some (rf g 47), some (.int s.1), some (.int s.2.1), some (.int s.2.2.1), some (.int p5.1), none] [] p5.2 := by
        refine i_iload_n S dX12_byPoints_66 rfl ?_
        refine i_iconst (v := -1) S dX12_byPoints_67 ic_m1 ?_
        obtain ⟨s7, e7, hm7, ho7⟩ := mgn h
        have hj7 : ∀ p7, s7 = .inl p7 → V 80 [some (rf g 47), none, none, some (.int s.2.2.1), some (.int p5.1), none] [] p5.2 := by
          intro p7 ep7
          have h := hm7 p7 ep7
          refine i_iload_n S dX12_byPoints_80 rfl ?_
          refine i_istore_n (L1 := [some (rf g 47), some (.int s.2.2.1), none, some (.int s.2.2.1), some (.int p5.1), none]) S dX12_byPoints_81 (by decide) rfl ?_
          refine i_iload S dX12_byPoints_82 rfl ?_
          refine i_istore_n (L1 := [some (rf g 47), some (.int s.2.2.1), some (.int p5.1), some (.int s.2.2.1), some (.int p5.1), none]) S dX12_byPoints_84 (by decide) rfl ?_
          refine i_mask (L1 := [some (rf g 47), some (.int s.2.2.1), some (.int p5.1), some (.int s.2.2.1), none, none]) S [true, true, true, true, false, false] rfl ?_
          have hz := hj4 _ (Option.some.inj h).symm
          exact hz
        replace h := e7
        clear e7
        refine i_icmp_eq (tgt := 80) S dX12_byPoints_68 (by decide) (fun q6 => ?_) (fun q6 => ?_)
        · replace h := (if_pos q6).symm.trans h
          refine i_mask (L1 := [some (rf g 47), none, none, some (.int s.2.2.1), some (.int p5.1), none]) S [true, false, false, true, true, false] rfl ?_
          have hz := hj7 _ (Option.some.inj h).symm
          exact hz
        · replace h := (if_neg q6).symm.trans h
          refine i_iload S dX12_byPoints_71 rfl ?_
          refine i_iload_n S dX12_byPoints_73 rfl ?_
          refine i_icmp_gt (tgt := 80) S dX12_byPoints_74 (by decide) (fun q8 => ?_) (fun q8 => ?_)
          · replace h := (if_pos q8).symm.trans h
            refine i_mask (L1 := [some (rf g 47), none, none, some (.int s.2.2.1), some (.int p5.1), none]) S [true, false, false, true, true, false] rfl ?_
            have hz := hj7 _ (Option.some.inj h).symm
            exact hz
          · replace h := (if_neg q8).symm.trans h
            refine i_goto (tgt := 85) S dX12_byPoints_77 (by decide) ?_
            replace h := ho7 _ (Option.some.inj h).symm
            refine i_mask (L1 := [some (rf g 47), some (.int s.1), some (.int s.2.1), some (.int s.2.2.1), none, none]) S [true, true, true, true, false, false] rfl ?_
            have hz := hj4 _ (Option.some.inj h).symm
            exact hz
      exact wh_V (P := fun sv5 => V 34 [some (rf g 47), some (.int s.1), some (.int s.2.1), some (.int s.2.2.1), some (.int sv5.1), some (.int sv5.2.1)] [] sv5.2.2) (E := fun xv5 => V 66 [some (rf g 47), some (.int s.1), some (.int s.2.1), some (.int s.2.2.1), some (.int xv5.1), none] [] xv5.2) (fun sv5 ev hb hc he => t_l_X12_byPoints_34   S  sv5 ev hb hc he) FUEL _ _ e5 hE5
    · replace h := (if_pos q3).symm.trans h
      refine i_goto (tgt := 85) S dX12_byPoints_25 (by decide) ?_
      have hz := hj4 _ (Option.some.inj h).symm
      exact hz
set_option maxHeartbeats 4000000 in
set_option maxRecDepth 100000 in
theorem c_X12_byPoints (g : Gx) (d : Nat)  {w : Mm} {p : (Int32 × Mm)} (hL : Lay w) (h : f_X12_byPoints w = some p) : Call g (d + 12) yX12_byPoints cX12_byPoints 6 (some .int) [rf g 47] w (some (.int p.1)) p.2 := by
  refine call_of (L0 := [some (rf g 47), none, none, none, none, none]) (by decide) rfl (Nat.le_of_ble_eq_true rfl) (fun V S0 => ?_)
  have S := S0.b
  unfold f_X12_byPoints at h
  refine i_iconst (v := -1) S dX12_byPoints_0 ic_m1 ?_
  refine i_istore_n (L1 := [some (rf g 47), some (.int ((-1 : Int32))), none, none, none, none]) S dX12_byPoints_1 (by decide) rfl ?_
  refine i_iconst (v := 0) S dX12_byPoints_2 ic_0 ?_
  refine i_istore_n (L1 := [some (rf g 47), some (.int ((-1 : Int32))), some (.int ((0 : Int32))), none, none, none]) S dX12_byPoints_3 (by decide) rfl ?_
  refine i_iconst (v := 0) S dX12_byPoints_4 ic_0 ?_
  refine i_istore_n (L1 := [some (rf g 47), some (.int ((-1 : Int32))), some (.int ((0 : Int32))), some (.int ((0 : Int32))), none, none]) S dX12_byPoints_5 (by decide) rfl ?_
  obtain ⟨p1, e1, h⟩ := bn h
  have hE1 : V 91 [none, some (.int p1.1), none, none, none, none] [] p1.2 := by
    refine i_iload_n S dX12_byPoints_91 rfl ?_
    cases h
    exact i_iret S0 rfl dX12_byPoints_92
  exact wh_V (P := fun sv1 => V 6 [some (rf g 47), some (.int sv1.1), some (.int sv1.2.1), some (.int sv1.2.2.1), none, none] [] sv1.2.2.2) (E := fun xv1 => V 91 [none, some (.int xv1.1), none, none, none, none] [] xv1.2) (fun sv1 ev hb hc he => t_l_X12_byPoints_6   S  sv1 ev hb hc he) FUEL _ _ e1 hE1
/-! WordYearModel.aheadOfAll -/
noncomputable def l_X12_aheadOfAll_28 (x1 : Int32) (s : Int32 × Int32 × Mm) : Option ((Int32 × Int32 × Mm) ⊕ (Int32 × Mm)) := onL s.2.2 (if (gI s.2.2 47 2) ≤ s.2.1 then (some (.inr (s.1, s.2.2))) else (Option.bind (mg (if s.1 = 0 then (some (.inl s.2.2)) else (mg (if s.2.1 = x1 then (some (.inl s.2.2)) else (if (f_X12_has (gI s.2.2 47 6) s.2.1) = 0 then (some (.inl s.2.2)) else (Option.bind (f_X12_aheadVotes x1 s.2.1 s.2.2) (fun p9 => onL p9.2 (Option.bind (f_X12_voters p9.2) (fun p11 => if ((2 : Int32) * p9.1) ≤ p11 then (some (.inr (.inl p9.2))) else (some (.inl p9.2)))))))) (fun p7 => some (.inr ((1 : Int32), p7))))) (fun p5 => some ((0 : Int32), p5))) (fun p4 => some (.inl (p4.1, s.2.1 + (1 : Int32), p4.2)))))
noncomputable def l_X12_aheadOfAll_2  (s : Int32 × Mm) : Option ((Int32 × Mm) ⊕ (Nat × Int32 × Mm)) := onL s.2 (if (gI s.2 47 2) ≤ s.1 then (some (.inr (0, 0, s.2))) else (mg (if (f_X12_has (gI s.2 47 6) s.1) = 0 then (some (.inl s.2)) else (Option.bind (wh (l_X12_aheadOfAll_28 s.1) FUEL ((1 : Int32), (0 : Int32), s.2)) (fun p5 => if p5.1 = 0 then (some (.inl p5.2)) else (some (.inr (.inr (1, s.1, p5.2))))))) (fun p4 => some (.inl (s.1 + (1 : Int32), p4)))))
noncomputable def f_X12_aheadOfAll  (w : Mm) : Option (Int32 × Mm) := Option.bind (wh l_X12_aheadOfAll_2 FUEL ((0 : Int32), w)) (fun p1 => if p1.1 = 0 then (some ((-1 : Int32), p1.2.2)) else (some (p1.2.1, p1.2.2)))
set_option maxHeartbeats 4000000 in
set_option maxRecDepth 100000 in
theorem t_l_X12_aheadOfAll_28 {g : Gx} {V : Vt} {d : Nat} (S : MachB g yX12_aheadOfAll cX12_aheadOfAll 4 (d + 11) V) {x1 : Int32}  (s : Int32 × Int32 × Mm) (e : (Int32 × Int32 × Mm) ⊕ (Int32 × Mm)) (h : l_X12_aheadOfAll_28 x1 s = some e) (hC : ∀ s2, e = .inl s2 → V 28 [some (rf g 47), some (.int x1), some (.int s2.1), some (.int s2.2.1)] [] s2.2.2) (hE : ∀ x, e = .inr x → V 83 [some (rf g 47), some (.int x1), some (.int x.1), none] [] x.2) : V 28 [some (rf g 47), some (.int x1), some (.int s.1), some (.int s.2.1)] [] s.2.2 := by
  unfold l_X12_aheadOfAll_28 at h
  refine i_iload_n S dX12_aheadOfAll_28 rfl ?_
  refine i_aload_n S dX12_aheadOfAll_29 rfl ?_
  obtain ⟨hL1, h⟩ := onLn h
  refine i_getIv (v := gI s.2.2 47 2) S fl_X12_135 (k47 hL1) rfl rfl dX12_aheadOfAll_30 ?_
  refine i_icmp_ge (tgt := 83) S dX12_aheadOfAll_33 (by decide) (fun q2 => ?_) (fun q2 => ?_)
  · replace h := (if_pos q2).symm.trans h
    refine i_mask (L1 := [some (rf g 47), some (.int x1), some (.int s.1), none]) S [true, true, true, false] rfl ?_
    have hz := hE _ (Option.some.inj h).symm
    exact hz
  · replace h := (if_neg q2).symm.trans h
    refine i_iload_n S dX12_aheadOfAll_36 rfl ?_
    obtain ⟨p4, e4, h⟩ := bn h
    have hj4 : ∀ q4, p4 = q4 → V 76 [some (rf g 47), some (.int x1), none, some (.int s.2.1)] [.int q4.1] q4.2 := by
      intro q4 hq4
      subst hq4
      refine i_istore_n (L1 := [some (rf g 47), some (.int x1), some (.int p4.1), some (.int s.2.1)]) S dX12_aheadOfAll_76 (by decide) rfl ?_
      refine i_iinc (L1 := [some (rf g 47), some (.int x1), some (.int p4.1), some (.int (s.2.1 + (1 : Int32)))]) S dX12_aheadOfAll_77 rfl ic_1 (by decide) rfl ?_
      refine i_goto (tgt := 28) S dX12_aheadOfAll_80 (by decide) ?_
      have hz := hC _ (Option.some.inj h).symm
      exact hz
    replace h := e4
    clear e4
    obtain ⟨s5, e5, hm5, ho5⟩ := mgn h
    have hj5 : ∀ p5, s5 = .inl p5 → V 75 [some (rf g 47), some (.int x1), none, some (.int s.2.1)] [] p5 := by
      intro p5 ep5
      have h := hm5 p5 ep5
      refine i_iconst (v := 0) S dX12_aheadOfAll_75 ic_0 ?_
      have hz := hj4 _ (Option.some.inj h).symm
      exact hz
    replace h := e5
    clear e5
    refine i_if_eq (tgt := 75) S dX12_aheadOfAll_37 (by decide) (fun q3 => ?_) (fun q3 => ?_)
    · replace h := (if_pos q3).symm.trans h
      refine i_mask (L1 := [some (rf g 47), some (.int x1), none, some (.int s.2.1)]) S [true, true, false, true] rfl ?_
      have hz := hj5 _ (Option.some.inj h).symm
      exact hz
    · replace h := (if_neg q3).symm.trans h
      refine i_iload_n S dX12_aheadOfAll_40 rfl ?_
      refine i_iload_n S dX12_aheadOfAll_41 rfl ?_
      obtain ⟨s7, e7, hm7, ho7⟩ := mgn h
      have hj7 : ∀ p7, s7 = .inl p7 → V 71 [some (rf g 47), some (.int x1), none, some (.int s.2.1)] [] p7 := by
        intro p7 ep7
        have h := hm7 p7 ep7
        refine i_iconst (v := 1) S dX12_aheadOfAll_71 ic_1 ?_
        refine i_goto (tgt := 76) S dX12_aheadOfAll_72 (by decide) ?_
        replace h := ho5 _ (Option.some.inj h).symm
        have hz := hj4 _ (Option.some.inj h).symm
        exact hz
      replace h := e7
      clear e7
      refine i_icmp_eq (tgt := 71) S dX12_aheadOfAll_42 (by decide) (fun q6 => ?_) (fun q6 => ?_)
      · replace h := (if_pos q6).symm.trans h
        refine i_mask (L1 := [some (rf g 47), some (.int x1), none, some (.int s.2.1)]) S [true, true, false, true] rfl ?_
        have hz := hj7 _ (Option.some.inj h).symm
        exact hz
      · replace h := (if_neg q6).symm.trans h
        refine i_aload_n S dX12_aheadOfAll_45 rfl ?_
        refine i_getIv (v := gI s.2.2 47 6) S fl_X12_146 (k47 hL1) rfl rfl dX12_aheadOfAll_46 ?_
        refine i_iload_n S dX12_aheadOfAll_49 rfl ?_
        refine i_callS (As := [.int (gI s.2.2 47 6), .int s.2.1]) (st1 := [.int (f_X12_has (gI s.2.2 47 6) s.2.1)]) S (c_X12_has g (d + 10) rfl) mw_X12_has lk_X12_149 im_X12_has dX12_aheadOfAll_50 rfl rfl (Nat.le_of_ble_eq_true rfl) rfl ?_
        refine i_if_eq (tgt := 71) S dX12_aheadOfAll_53 (by decide) (fun q8 => ?_) (fun q8 => ?_)
        · replace h := (if_pos q8).symm.trans h
          refine i_mask (L1 := [some (rf g 47), some (.int x1), none, some (.int s.2.1)]) S [true, true, false, true] rfl ?_
          have hz := hj7 _ (Option.some.inj h).symm
          exact hz
        · replace h := (if_neg q8).symm.trans h
          refine i_iconst (v := 2) S dX12_aheadOfAll_56 ic_2 ?_
          refine i_aload_n S dX12_aheadOfAll_57 rfl ?_
          refine i_iload_n S dX12_aheadOfAll_58 rfl ?_
          refine i_iload_n S dX12_aheadOfAll_59 rfl ?_
          obtain ⟨p9, e9, h⟩ := bn h
          refine i_callV (As := [.int x1, .int s.2.1]) (st1 := [.int p9.1, .int ((2 : Int32))]) S (c_X12_aheadVotes g d hL1 e9) mw_X12_aheadVotes lk_X12_406 im_X12_aheadVotes se_X12_aheadVotes ci_12.1 ci_12.2.1 (k47 hL1) dX12_aheadOfAll_60 rfl rfl (Nat.le_of_ble_eq_true rfl) rfl ?_
          refine i_imul S dX12_aheadOfAll_63 ?_
          refine i_aload_n S dX12_aheadOfAll_64 rfl ?_
          obtain ⟨hL10, h⟩ := onLn h
          obtain ⟨p11, e11, h⟩ := bn h
          refine i_callV (As := []) (st1 := [.int p11, .int ((2 : Int32) * p9.1)]) S (c_X12_voters g (d + 10) hL10 e11) mw_X12_voters lk_X12_409 im_X12_voters se_X12_voters ci_12.1 ci_12.2.1 (k47 hL10) dX12_aheadOfAll_65 rfl rfl (Nat.le_of_ble_eq_true rfl) rfl ?_
          refine i_icmp_le (tgt := 75) S dX12_aheadOfAll_68 (by decide) (fun q12 => ?_) (fun q12 => ?_)
          · replace h := (if_pos q12).symm.trans h
            replace h := ho7 _ (Option.some.inj h).symm
            refine i_mask (L1 := [some (rf g 47), some (.int x1), none, some (.int s.2.1)]) S [true, true, false, true] rfl ?_
            have hz := hj5 _ (Option.some.inj h).symm
            exact hz
          · replace h := (if_neg q12).symm.trans h
            refine i_mask (L1 := [some (rf g 47), some (.int x1), none, some (.int s.2.1)]) S [true, true, false, true] rfl ?_
            have hz := hj7 _ (Option.some.inj h).symm
            exact hz
set_option maxHeartbeats 4000000 in
set_option maxRecDepth 100000 in
theorem t_l_X12_aheadOfAll_2 {g : Gx} {V : Vt} {d : Nat} (S : MachB g yX12_aheadOfAll cX12_aheadOfAll 4 (d + 11) V)   (s : Int32 × Mm) (e : (Int32 × Mm) ⊕ (Nat × Int32 × Mm)) (h : l_X12_aheadOfAll_2  s = some e) (hC : ∀ s2, e = .inl s2 → V 2 [some (rf g 47), some (.int s2.1), none, none] [] s2.2) (hE : ∀ x, e = .inr x → if x.1 = 0 then V 95 [none, none, none, none] [] x.2.2 else (V 87 [none, some (.int x.2.1), none, none] [] x.2.2)) : V 2 [some (rf g 47), some (.int s.1), none, none] [] s.2 := by
  unfold l_X12_aheadOfAll_2 at h
  refine i_iload_n S dX12_aheadOfAll_2 rfl ?_
  refine i_aload_n S dX12_aheadOfAll_3 rfl ?_
  obtain ⟨hL1, h⟩ := onLn h
  refine i_getIv (v := gI s.2 47 2) S fl_X12_135 (k47 hL1) rfl rfl dX12_aheadOfAll_4 ?_
  refine i_icmp_ge (tgt := 95) S dX12_aheadOfAll_7 (by decide) (fun q2 => ?_) (fun q2 => ?_)
  · replace h := (if_pos q2).symm.trans h
    refine i_mask (L1 := [none, none, none, none]) S [false, false, false, false] rfl ?_
    have hz := hE _ (Option.some.inj h).symm
    exact hz
  · replace h := (if_neg q2).symm.trans h
    refine i_aload_n S dX12_aheadOfAll_10 rfl ?_
    refine i_getIv (v := gI s.2 47 6) S fl_X12_146 (k47 hL1) rfl rfl dX12_aheadOfAll_11 ?_
    refine i_iload_n S dX12_aheadOfAll_14 rfl ?_
    refine i_callS (As := [.int (gI s.2 47 6), .int s.1]) (st1 := [.int (f_X12_has (gI s.2 47 6) s.1)]) S (c_X12_has g (d + 10) rfl) mw_X12_has lk_X12_149 im_X12_has dX12_aheadOfAll_15 rfl rfl (Nat.le_of_ble_eq_true rfl) rfl ?_
    obtain ⟨s4, e4, hm4, ho4⟩ := mgn h
    have hj4 : ∀ p4, s4 = .inl p4 → V 89 [some (rf g 47), some (.int s.1), none, none] [] p4 := by
      intro p4 ep4
      have h := hm4 p4 ep4
      refine i_iinc (L1 := [some (rf g 47), some (.int (s.1 + (1 : Int32))), none, none]) S dX12_aheadOfAll_89 rfl ic_1 (by decide) rfl ?_
      refine i_goto (tgt := 2) S dX12_aheadOfAll_92 (by decide) ?_
      have hz := hC _ (Option.some.inj h).symm
      exact hz
    replace h := e4
    clear e4
    refine i_if_ne (tgt := 24) S dX12_aheadOfAll_18 (by decide) (fun q3 => ?_) (fun q3 => ?_)
    · replace h := (if_neg q3).symm.trans h
      refine i_iconst (v := 1) S dX12_aheadOfAll_24 ic_1 ?_
      refine i_istore_n (L1 := [some (rf g 47), some (.int s.1), some (.int ((1 : Int32))), none]) S dX12_aheadOfAll_25 (by decide) rfl ?_
      refine i_iconst (v := 0) S dX12_aheadOfAll_26 ic_0 ?_
      refine i_istore_n (L1 := [some (rf g 47), some (.int s.1), some (.int ((1 : Int32))), some (.int ((0 : Int32)))]) S dX12_aheadOfAll_27 (by decide) rfl ?_
      obtain ⟨p5, e5, h⟩ := bn h
      have hE5 : V 83 [some (rf g 47), some (.int s.1), some (.int p5.1), none] [] p5.2 := by
        refine i_iload_n S dX12_aheadOfAll_83 rfl ?_
        refine i_if_eq (tgt := 89) S dX12_aheadOfAll_84 (by decide) (fun q6 => ?_) (fun q6 => ?_)
        · replace h := (if_pos q6).symm.trans h
          refine i_mask (L1 := [some (rf g 47), some (.int s.1), none, none]) S [true, true, false, false] rfl ?_
          have hz := hj4 _ (Option.some.inj h).symm
          exact hz
        · replace h := (if_neg q6).symm.trans h
          replace h := ho4 _ (Option.some.inj h).symm
          refine i_mask (L1 := [none, some (.int s.1), none, none]) S [false, true, false, false] rfl ?_
          have hz := hE _ (Option.some.inj h).symm
          exact hz
      exact wh_V (P := fun sv5 => V 28 [some (rf g 47), some (.int s.1), some (.int sv5.1), some (.int sv5.2.1)] [] sv5.2.2) (E := fun xv5 => V 83 [some (rf g 47), some (.int s.1), some (.int xv5.1), none] [] xv5.2) (fun sv5 ev hb hc he => t_l_X12_aheadOfAll_28   S  sv5 ev hb hc he) FUEL _ _ e5 hE5
    · replace h := (if_pos q3).symm.trans h
      refine i_goto (tgt := 89) S dX12_aheadOfAll_21 (by decide) ?_
      have hz := hj4 _ (Option.some.inj h).symm
      exact hz
set_option maxHeartbeats 4000000 in
set_option maxRecDepth 100000 in
theorem c_X12_aheadOfAll (g : Gx) (d : Nat)  {w : Mm} {p : (Int32 × Mm)} (hL : Lay w) (h : f_X12_aheadOfAll w = some p) : Call g (d + 12) yX12_aheadOfAll cX12_aheadOfAll 4 (some .int) [rf g 47] w (some (.int p.1)) p.2 := by
  refine call_of (L0 := [some (rf g 47), none, none, none]) (by decide) rfl (Nat.le_of_ble_eq_true rfl) (fun V S0 => ?_)
  have S := S0.b
  unfold f_X12_aheadOfAll at h
  refine i_iconst (v := 0) S dX12_aheadOfAll_0 ic_0 ?_
  refine i_istore_n (L1 := [some (rf g 47), some (.int ((0 : Int32))), none, none]) S dX12_aheadOfAll_1 (by decide) rfl ?_
  obtain ⟨p1, e1, h⟩ := bn h
  have hE1 : if p1.1 = 0 then V 95 [none, none, none, none] [] p1.2.2 else (V 87 [none, some (.int p1.2.1), none, none] [] p1.2.2) := by
    by_cases hx1_0 : p1.1 = 0
    · rw [if_pos hx1_0]
      replace h := (if_pos hx1_0).symm.trans h
      refine i_iconst (v := -1) S dX12_aheadOfAll_95 ic_m1 ?_
      cases h
      exact i_iret S0 rfl dX12_aheadOfAll_96
    · rw [if_neg hx1_0]
      replace h := (if_neg hx1_0).symm.trans h
      refine i_iload_n S dX12_aheadOfAll_87 rfl ?_
      cases h
      exact i_iret S0 rfl dX12_aheadOfAll_88
  exact wh_V (P := fun sv1 => V 2 [some (rf g 47), some (.int sv1.1), none, none] [] sv1.2) (E := fun xv1 => if xv1.1 = 0 then V 95 [none, none, none, none] [] xv1.2.2 else (V 87 [none, some (.int xv1.2.1), none, none] [] xv1.2.2)) (fun sv1 ev hb hc he => t_l_X12_aheadOfAll_2   S  sv1 ev hb hc he) FUEL _ _ e1 hE1
/-! WordYearModel.vote -/
noncomputable def f_X12_vote (x1 : Int32) (w : Mm) : Option (Int32 × Mm) := if (f_X12_lies x1.toInt64 (0 : Int64) (3 : Int64)) = 0 then (some ((-1 : Int32), w)) else (if (gI w 47 6) = 0 then (some ((-1 : Int32), w)) else (Option.bind (f_X12_voters w) (fun p3 => if p3 = 0 then (some ((-1 : Int32), w)) else (Option.bind (f_X12_firstOf (-1 : Int32) w) (fun p5 => if x1 = 0 then (some (p5.1, p5.2)) else (if x1 = (2 : Int32) then (onL p5.2 (Option.bind (f_X12_byPoints p5.2) (fun p20 => some (p20.1, p20.2)))) else (if x1 = (3 : Int32) then (onL p5.2 (Option.bind (f_X12_aheadOfAll p5.2) (fun p18 => some (p18.1, p18.2)))) else (onL p5.2 (Option.bind (f_X12_firstOf p5.1 p5.2) (fun p10 => if p10.1 = (-1 : Int32) then (some (p5.1, p10.2)) else (onL p10.2 (Option.bind (f_X12_aheadVotes p10.1 p5.1 p10.2) (fun p13 => onL p13.2 (Option.bind (f_X12_aheadVotes p5.1 p10.1 p13.2) (fun p15 => if p13.1 ≤ p15.1 then (some (p5.1, p15.2)) else (some (p10.1, p15.2)))))))))))))))))
set_option maxHeartbeats 4000000 in
set_option maxRecDepth 100000 in
theorem c_X12_vote (g : Gx) (d : Nat) {x1 : Int32} {w : Mm} {p : (Int32 × Mm)} (hL : Lay w) (h : f_X12_vote x1 w = some p) : Call g (d + 14) yX12_vote cX12_vote 4 (some .int) [rf g 47, .int x1] w (some (.int p.1)) p.2 := by
  refine call_of (L0 := [some (rf g 47), some (.int x1), none, none]) (by decide) rfl (Nat.le_of_ble_eq_true rfl) (fun V S0 => ?_)
  have S := S0.b
  unfold f_X12_vote at h
  refine i_iload_n S dX12_vote_0 rfl ?_
  refine i_i2l S dX12_vote_1 ?_
  refine i_lconst (v := 0) S dX12_vote_2 lc_0 ?_
  refine i_ldc2 S kl_X12_144 dX12_vote_3 ?_
  refine i_callS (As := [.long x1.toInt64, .long ((0 : Int64)), .long ((3 : Int64))]) (st1 := [.int (f_X12_lies x1.toInt64 (0 : Int64) (3 : Int64))]) S (c_X12_lies g (d + 12) rfl) mw_X12_lies lk_X12_138 im_X12_lies dX12_vote_6 rfl rfl (Nat.le_of_ble_eq_true rfl) rfl ?_
  refine i_if_eq (tgt := 26) S dX12_vote_9 (by decide) (fun q1 => ?_) (fun q1 => ?_)
  · replace h := (if_pos q1).symm.trans h
    refine i_iconst (v := -1) S dX12_vote_26 ic_m1 ?_
    cases h
    exact i_iret S0 rfl dX12_vote_27
  · replace h := (if_neg q1).symm.trans h
    refine i_aload_n S dX12_vote_12 rfl ?_
    refine i_getIv (v := gI w 47 6) S fl_X12_146 (k47 hL) rfl rfl dX12_vote_13 ?_
    refine i_if_eq (tgt := 26) S dX12_vote_16 (by decide) (fun q2 => ?_) (fun q2 => ?_)
    · replace h := (if_pos q2).symm.trans h
      refine i_iconst (v := -1) S dX12_vote_26 ic_m1 ?_
      cases h
      exact i_iret S0 rfl dX12_vote_27
    · replace h := (if_neg q2).symm.trans h
      refine i_aload_n S dX12_vote_19 rfl ?_
      obtain ⟨p3, e3, h⟩ := bn h
      refine i_callV (As := []) (st1 := [.int p3]) S (c_X12_voters g (d + 12) hL e3) mw_X12_voters lk_X12_409 im_X12_voters se_X12_voters ci_12.1 ci_12.2.1 (k47 hL) dX12_vote_20 rfl rfl (Nat.le_of_ble_eq_true rfl) rfl ?_
      refine i_if_ne (tgt := 28) S dX12_vote_23 (by decide) (fun q4 => ?_) (fun q4 => ?_)
      · replace h := (if_neg q4).symm.trans h
        refine i_aload_n S dX12_vote_28 rfl ?_
        refine i_iconst (v := -1) S dX12_vote_29 ic_m1 ?_
        obtain ⟨p5, e5, h⟩ := bn h
        refine i_callV (As := [.int ((-1 : Int32))]) (st1 := [.int p5.1]) S (c_X12_firstOf g d hL e5) mw_X12_firstOf lk_X12_412 im_X12_firstOf se_X12_firstOf ci_12.1 ci_12.2.1 (k47 hL) dX12_vote_30 rfl rfl (Nat.le_of_ble_eq_true rfl) rfl ?_
        refine i_istore_n (L1 := [some (rf g 47), some (.int x1), some (.int p5.1), none]) S dX12_vote_33 (by decide) rfl ?_
        refine i_iload_n S dX12_vote_34 rfl ?_
        refine i_if_ne (tgt := 40) S dX12_vote_35 (by decide) (fun q6 => ?_) (fun q6 => ?_)
        · replace h := (if_neg q6).symm.trans h
          refine i_iload_n S dX12_vote_40 rfl ?_
          refine i_iconst (v := 2) S dX12_vote_41 ic_2 ?_
          refine i_icmp_ne (tgt := 50) S dX12_vote_42 (by decide) (fun q7 => ?_) (fun q7 => ?_)
          · replace h := (if_neg q7).symm.trans h
            refine i_iload_n S dX12_vote_50 rfl ?_
            refine i_iconst (v := 3) S dX12_vote_51 ic_3 ?_
            refine i_icmp_ne (tgt := 60) S dX12_vote_52 (by decide) (fun q8 => ?_) (fun q8 => ?_)
            · replace h := (if_neg q8).symm.trans h
              refine i_aload_n S dX12_vote_60 rfl ?_
              refine i_iload_n S dX12_vote_61 rfl ?_
              obtain ⟨hL9, h⟩ := onLn h
              obtain ⟨p10, e10, h⟩ := bn h
              refine i_callV (As := [.int p5.1]) (st1 := [.int p10.1]) S (c_X12_firstOf g d hL9 e10) mw_X12_firstOf lk_X12_412 im_X12_firstOf se_X12_firstOf ci_12.1 ci_12.2.1 (k47 hL9) dX12_vote_62 rfl rfl (Nat.le_of_ble_eq_true rfl) rfl ?_
              refine i_istore_n (L1 := [some (rf g 47), some (.int x1), some (.int p5.1), some (.int p10.1)]) S dX12_vote_65 (by decide) rfl ?_
              refine i_iload_n S dX12_vote_66 rfl ?_
              refine i_iconst (v := -1) S dX12_vote_67 ic_m1 ?_
              refine i_icmp_eq (tgt := 90) S dX12_vote_68 (by decide) (fun q11 => ?_) (fun q11 => ?_)
              · replace h := (if_pos q11).symm.trans h
                refine i_iload_n S dX12_vote_90 rfl ?_
                cases h
                exact i_iret S0 rfl dX12_vote_91
              · replace h := (if_neg q11).symm.trans h
                refine i_aload_n S dX12_vote_71 rfl ?_
                refine i_iload_n S dX12_vote_72 rfl ?_
                refine i_iload_n S dX12_vote_73 rfl ?_
                obtain ⟨hL12, h⟩ := onLn h
                obtain ⟨p13, e13, h⟩ := bn h
                refine i_callV (As := [.int p10.1, .int p5.1]) (st1 := [.int p13.1]) S (c_X12_aheadVotes g (d + 2) hL12 e13) mw_X12_aheadVotes lk_X12_406 im_X12_aheadVotes se_X12_aheadVotes ci_12.1 ci_12.2.1 (k47 hL12) dX12_vote_74 rfl rfl (Nat.le_of_ble_eq_true rfl) rfl ?_
                refine i_aload_n S dX12_vote_77 rfl ?_
                refine i_iload_n S dX12_vote_78 rfl ?_
                refine i_iload_n S dX12_vote_79 rfl ?_
                obtain ⟨hL14, h⟩ := onLn h
                obtain ⟨p15, e15, h⟩ := bn h
                refine i_callV (As := [.int p5.1, .int p10.1]) (st1 := [.int p15.1, .int p13.1]) S (c_X12_aheadVotes g (d + 2) hL14 e15) mw_X12_aheadVotes lk_X12_406 im_X12_aheadVotes se_X12_aheadVotes ci_12.1 ci_12.2.1 (k47 hL14) dX12_vote_80 rfl rfl (Nat.le_of_ble_eq_true rfl) rfl ?_
                refine i_icmp_le (tgt := 90) S dX12_vote_83 (by decide) (fun q16 => ?_) (fun q16 => ?_)
                · replace h := (if_pos q16).symm.trans h
                  refine i_iload_n S dX12_vote_90 rfl ?_
                  cases h
                  exact i_iret S0 rfl dX12_vote_91
                · replace h := (if_neg q16).symm.trans h
                  refine i_iload_n S dX12_vote_86 rfl ?_
                  refine i_goto (tgt := 91) S dX12_vote_87 (by decide) ?_
                  cases h
                  exact i_iret S0 rfl dX12_vote_91
            · replace h := (if_pos q8).symm.trans h
              refine i_aload_n S dX12_vote_55 rfl ?_
              obtain ⟨hL17, h⟩ := onLn h
              obtain ⟨p18, e18, h⟩ := bn h
              refine i_callV (As := []) (st1 := [.int p18.1]) S (c_X12_aheadOfAll g (d + 1) hL17 e18) mw_X12_aheadOfAll lk_X12_418 im_X12_aheadOfAll se_X12_aheadOfAll ci_12.1 ci_12.2.1 (k47 hL17) dX12_vote_56 rfl rfl (Nat.le_of_ble_eq_true rfl) rfl ?_
              cases h
              exact i_iret S0 rfl dX12_vote_59
          · replace h := (if_pos q7).symm.trans h
            refine i_aload_n S dX12_vote_45 rfl ?_
            obtain ⟨hL19, h⟩ := onLn h
            obtain ⟨p20, e20, h⟩ := bn h
            refine i_callV (As := []) (st1 := [.int p20.1]) S (c_X12_byPoints g (d + 1) hL19 e20) mw_X12_byPoints lk_X12_415 im_X12_byPoints se_X12_byPoints ci_12.1 ci_12.2.1 (k47 hL19) dX12_vote_46 rfl rfl (Nat.le_of_ble_eq_true rfl) rfl ?_
            cases h
            exact i_iret S0 rfl dX12_vote_49
        · replace h := (if_pos q6).symm.trans h
          refine i_iload_n S dX12_vote_38 rfl ?_
          cases h
          exact i_iret S0 rfl dX12_vote_39
      · replace h := (if_pos q4).symm.trans h
        refine i_iconst (v := -1) S dX12_vote_26 ic_m1 ?_
        cases h
        exact i_iret S0 rfl dX12_vote_27
/-! WordYearModel.laysOrder -/
noncomputable def l_X12_laysOrder_68 (x2 : Int32) (x3 : Int32) (x4 : Int32) (s : Int32 × Mm) : Option ((Int32 × Mm) ⊕ (Mm)) := onL s.2 (if (gI s.2 47 2) ≤ s.1 then (some (.inr s.2)) else (if x4 ≤ x2 then (some (.inr s.2)) else (Option.bind (if (f_X12_has x3 s.1) = 0 then (some s.2) else (Option.bind (f_X12_talkOf (x3 &&& (((1 : Int32) <<< (s.1 &&& 31)) ^^^ (-1 : Int32))) s.2) (fun p6 => onL p6.2 (if inb (x3 &&& (((1 : Int32) <<< (s.1 &&& 31)) ^^^ (-1 : Int32))) 1024 = true then (if inb x3 1024 = true then (if (gL p6.2 76 (ix x3)) ≤ (p6.1 + (gL p6.2 76 (ix (x3 &&& (((1 : Int32) <<< (s.1 &&& 31)) ^^^ (-1 : Int32)))))) then (some p6.2) else (Option.bind (f_X12_talkOf (x3 &&& (((1 : Int32) <<< (s.1 &&& 31)) ^^^ (-1 : Int32))) p6.2) (fun p13 => onL p13.2 (some (sL p13.2 76 (ix x3) (p13.1 + (gL p13.2 76 (ix (x3 &&& (((1 : Int32) <<< (s.1 &&& 31)) ^^^ (-1 : Int32))))))))))) else none) else none)))) (fun p5 => some (.inl (s.1 + (1 : Int32), p5))))))
noncomputable def l_X12_laysOrder_12 (x2 : Int32) (s : Int32 × Mm) : Option ((Int32 × Mm) ⊕ (Mm)) := onL s.2 (if (gI s.2 47 6) < s.1 then (some (.inr s.2)) else (Option.bind (f_X12_sizeOf s.1) (fun p3 => Option.bind (if (s.1 &&& ((gI s.2 47 6) ^^^ (-1 : Int32))) = 0 then (if x2 ≤ p3 then (Option.bind (if p3 = x2 then (some (0 : Int64)) else (some (1000000000000000 : Int64))) (fun p8 => if inb s.1 1024 = true then (Option.bind (wh (l_X12_laysOrder_68 x2 s.1 p3) FUEL ((0 : Int32), sL s.2 76 (ix s.1) p8)) (fun p11 => some p11)) else none)) else (some s.2)) else (some s.2)) (fun p5 => some (.inl (s.1 + (1 : Int32), p5))))))
noncomputable def f_X12_laysOrder (x1 : Int32) (w : Mm) : Option Mm := Option.bind (f_X12_sizeOf (gI w 47 6)) (fun p1 => Option.bind (wh (l_X12_laysOrder_12 (p1 - x1)) FUEL ((0 : Int32), w)) (fun p2 => some p2))
set_option maxHeartbeats 4000000 in
set_option maxRecDepth 100000 in
theorem t_l_X12_laysOrder_68 {g : Gx} {V : Vt} {d : Nat} (S : MachB g yX12_laysOrder cX12_laysOrder 7 (d + 9) V) {x2 : Int32} {x3 : Int32} {x4 : Int32}  (s : Int32 × Mm) (e : (Int32 × Mm) ⊕ (Mm)) (h : l_X12_laysOrder_68 x2 x3 x4 s = some e) (hC : ∀ s2, e = .inl s2 → V 68 [some (rf g 47), none, some (.int x2), some (.int x3), some (.int x4), some (.int s2.1), none] [] s2.2) (hE : ∀ x, e = .inr x → V 152 [some (rf g 47), none, some (.int x2), some (.int x3), none, none, none] [] x) : V 68 [some (rf g 47), none, some (.int x2), some (.int x3), some (.int x4), some (.int s.1), none] [] s.2 := by
  unfold l_X12_laysOrder_68 at h
  refine i_iload S dX12_laysOrder_68 rfl ?_
  refine i_aload_n S dX12_laysOrder_70 rfl ?_
  obtain ⟨hL1, h⟩ := onLn h
  refine i_getIv (v := gI s.2 47 2) S fl_X12_135 (k47 hL1) rfl rfl dX12_laysOrder_71 ?_
  refine i_icmp_ge (tgt := 152) S dX12_laysOrder_74 (by decide) (fun q2 => ?_) (fun q2 => ?_)
  · replace h := (if_pos q2).symm.trans h
    refine i_mask (L1 := [some (rf g 47), none, some (.int x2), some (.int x3), none, none, none]) S [true, false, true, true, false, false, false] rfl ?_
    have hz := hE _ (Option.some.inj h).symm
    exact hz
  · replace h := (if_neg q2).symm.trans h
    refine i_iload S dX12_laysOrder_77 rfl ?_
    refine i_iload_n S dX12_laysOrder_79 rfl ?_
    refine i_icmp_le (tgt := 152) S dX12_laysOrder_80 (by decide) (fun q3 => ?_) (fun q3 => ?_)
    · replace h := (if_pos q3).symm.trans h
      refine i_mask (L1 := [some (rf g 47), none, some (.int x2), some (.int x3), none, none, none]) S [true, false, true, true, false, false, false] rfl ?_
      have hz := hE _ (Option.some.inj h).symm
      exact hz
    · replace h := (if_neg q3).symm.trans h
      refine i_iload_n S dX12_laysOrder_83 rfl ?_
      refine i_iconst (v := 1) S dX12_laysOrder_84 ic_1 ?_
      refine i_iload S dX12_laysOrder_85 rfl ?_
      refine i_ishl S dX12_laysOrder_87 ?_
      refine i_iconst (v := -1) S dX12_laysOrder_88 ic_m1 ?_
      refine i_ixor S dX12_laysOrder_89 ?_
      refine i_iand S dX12_laysOrder_90 ?_
      refine i_istore (L1 := [some (rf g 47), none, some (.int x2), some (.int x3), some (.int x4), some (.int s.1), some (.int (x3 &&& (((1 : Int32) <<< (s.1 &&& 31)) ^^^ (-1 : Int32))))]) S dX12_laysOrder_91 (by decide) rfl ?_
      refine i_iload_n S dX12_laysOrder_93 rfl ?_
      refine i_iload S dX12_laysOrder_94 rfl ?_
      refine i_callS (As := [.int x3, .int s.1]) (st1 := [.int (f_X12_has x3 s.1)]) S (c_X12_has g (d + 8) rfl) mw_X12_has lk_X12_149 im_X12_has dX12_laysOrder_96 rfl rfl (Nat.le_of_ble_eq_true rfl) rfl ?_
      obtain ⟨p5, e5, h⟩ := bn h
      have hj5 : ∀ q5, p5 = q5 → V 146 [some (rf g 47), none, some (.int x2), some (.int x3), some (.int x4), some (.int s.1), none] [] q5 := by
        intro q5 hq5
        subst hq5
        refine i_iinc (L1 := [some (rf g 47), none, some (.int x2), some (.int x3), some (.int x4), some (.int (s.1 + (1 : Int32))), none]) S dX12_laysOrder_146 rfl ic_1 (by decide) rfl ?_
        refine i_goto (tgt := 68) S dX12_laysOrder_149 (by decide) ?_
        have hz := hC _ (Option.some.inj h).symm
        exact hz
      replace h := e5
      clear e5
      refine i_if_eq (tgt := 146) S dX12_laysOrder_99 (by decide) (fun q4 => ?_) (fun q4 => ?_)
      · replace h := (if_pos q4).symm.trans h
        refine i_mask (L1 := [some (rf g 47), none, some (.int x2), some (.int x3), some (.int x4), some (.int s.1), none]) S [true, false, true, true, true, true, false] rfl ?_
        have hz := hj5 _ (Option.some.inj h).symm
        exact hz
      · replace h := (if_neg q4).symm.trans h
        refine i_aload_n S dX12_laysOrder_102 rfl ?_
        refine i_iload S dX12_laysOrder_103 rfl ?_
        obtain ⟨p6, e6, h⟩ := bn h
        refine i_callV (As := [.int (x3 &&& (((1 : Int32) <<< (s.1 &&& 31)) ^^^ (-1 : Int32)))]) (st1 := [.long p6.1]) S (c_X12_talkOf g d hL1 e6) mw_X12_talkOf lk_X12_376 im_X12_talkOf se_X12_talkOf ci_12.1 ci_12.2.1 (k47 hL1) dX12_laysOrder_105 rfl rfl (Nat.le_of_ble_eq_true rfl) rfl ?_
        refine i_aload_n S dX12_laysOrder_108 rfl ?_
        obtain ⟨hL7, h⟩ := onLn h
        refine i_getR S fl_X12_102 (k47 hL7) (r47_52 hL7) rfl dX12_laysOrder_109 ?_
        refine i_iload S dX12_laysOrder_112 rfl ?_
        obtain ⟨hi9, h⟩ := gd h
        refine i_laldv (v := gL p6.2 76 (ix (x3 &&& (((1 : Int32) <<< (s.1 &&& 31)) ^^^ (-1 : Int32))))) S (k76 hL7) hi9 rfl dX12_laysOrder_114 ?_
        refine i_ladd S dX12_laysOrder_115 ?_
        refine i_aload_n S dX12_laysOrder_116 rfl ?_
        refine i_getR S fl_X12_102 (k47 hL7) (r47_52 hL7) rfl dX12_laysOrder_117 ?_
        refine i_iload_n S dX12_laysOrder_120 rfl ?_
        obtain ⟨hi11, h⟩ := gd h
        refine i_laldv (v := gL p6.2 76 (ix x3)) S (k76 hL7) hi11 rfl dX12_laysOrder_121 ?_
        refine i_lc_ge (tgt := 146) S dX12_laysOrder_122 dX12_laysOrder_123 (by decide) (fun q12 => ?_) (fun q12 => ?_)
        · replace h := (if_pos q12).symm.trans h
          refine i_mask (L1 := [some (rf g 47), none, some (.int x2), some (.int x3), some (.int x4), some (.int s.1), none]) S [true, false, true, true, true, true, false] rfl ?_
          have hz := hj5 _ (Option.some.inj h).symm
          exact hz
        · replace h := (if_neg q12).symm.trans h
          refine i_aload_n S dX12_laysOrder_126 rfl ?_
          refine i_getR S fl_X12_102 (k47 hL7) (r47_52 hL7) rfl dX12_laysOrder_127 ?_
          refine i_iload_n S dX12_laysOrder_130 rfl ?_
          refine i_aload_n S dX12_laysOrder_131 rfl ?_
          refine i_iload S dX12_laysOrder_132 rfl ?_
          obtain ⟨p13, e13, h⟩ := bn h
          refine i_callV (As := [.int (x3 &&& (((1 : Int32) <<< (s.1 &&& 31)) ^^^ (-1 : Int32)))]) (st1 := [.long p13.1, .int x3, rf g 76]) S (c_X12_talkOf g d hL7 e13) mw_X12_talkOf lk_X12_376 im_X12_talkOf se_X12_talkOf ci_12.1 ci_12.2.1 (k47 hL7) dX12_laysOrder_134 rfl rfl (Nat.le_of_ble_eq_true rfl) rfl ?_
          refine i_aload_n S dX12_laysOrder_137 rfl ?_
          obtain ⟨hL14, h⟩ := onLn h
          refine i_getR S fl_X12_102 (k47 hL14) (r47_52 hL14) rfl dX12_laysOrder_138 ?_
          refine i_iload S dX12_laysOrder_141 rfl ?_
          refine i_laldv (v := gL p13.2 76 (ix (x3 &&& (((1 : Int32) <<< (s.1 &&& 31)) ^^^ (-1 : Int32))))) S (k76 hL14) hi9 rfl dX12_laysOrder_143 ?_
          refine i_ladd S dX12_laysOrder_144 ?_
          refine i_last S (k76 hL14) hi11 dX12_laysOrder_145 ?_
          refine i_mask (L1 := [some (rf g 47), none, some (.int x2), some (.int x3), some (.int x4), some (.int s.1), none]) S [true, false, true, true, true, true, false] rfl ?_
          have hz := hj5 _ (Option.some.inj h).symm
          exact hz
set_option maxHeartbeats 4000000 in
set_option maxRecDepth 100000 in
theorem t_l_X12_laysOrder_12 {g : Gx} {V : Vt} {d : Nat} (S : MachB g yX12_laysOrder cX12_laysOrder 7 (d + 9) V) {x2 : Int32}  (s : Int32 × Mm) (e : (Int32 × Mm) ⊕ (Mm)) (h : l_X12_laysOrder_12 x2 s = some e) (hC : ∀ s2, e = .inl s2 → V 12 [some (rf g 47), none, some (.int x2), some (.int s2.1), none, none, none] [] s2.2) (hE : ∀ x, e = .inr x → V 158 [none, none, none, none, none, none, none] [] x) : V 12 [some (rf g 47), none, some (.int x2), some (.int s.1), none, none, none] [] s.2 := by
  unfold l_X12_laysOrder_12 at h
  refine i_iload_n S dX12_laysOrder_12 rfl ?_
  refine i_aload_n S dX12_laysOrder_13 rfl ?_
  obtain ⟨hL1, h⟩ := onLn h
  refine i_getIv (v := gI s.2 47 6) S fl_X12_146 (k47 hL1) rfl rfl dX12_laysOrder_14 ?_
  refine i_icmp_gt (tgt := 158) S dX12_laysOrder_17 (by decide) (fun q2 => ?_) (fun q2 => ?_)
  · replace h := (if_pos q2).symm.trans h
    refine i_mask (L1 := [none, none, none, none, none, none, none]) S [false, false, false, false, false, false, false] rfl ?_
    have hz := hE _ (Option.some.inj h).symm
    exact hz
  · replace h := (if_neg q2).symm.trans h
    refine i_iload_n S dX12_laysOrder_20 rfl ?_
    obtain ⟨p3, e3, h⟩ := bn h
    refine i_callS (As := [.int s.1]) (st1 := [.int p3]) S (c_X12_sizeOf g (d + 8) e3) mw_X12_sizeOf lk_X12_297 im_X12_sizeOf dX12_laysOrder_21 rfl rfl (Nat.le_of_ble_eq_true rfl) rfl ?_
    refine i_istore (L1 := [some (rf g 47), none, some (.int x2), some (.int s.1), some (.int p3), none, none]) S dX12_laysOrder_24 (by decide) rfl ?_
    refine i_iload_n S dX12_laysOrder_26 rfl ?_
    refine i_aload_n S dX12_laysOrder_27 rfl ?_
    refine i_getIv (v := gI s.2 47 6) S fl_X12_146 (k47 hL1) rfl rfl dX12_laysOrder_28 ?_
    refine i_iconst (v := -1) S dX12_laysOrder_31 ic_m1 ?_
    refine i_ixor S dX12_laysOrder_32 ?_
    refine i_iand S dX12_laysOrder_33 ?_
    obtain ⟨p5, e5, h⟩ := bn h
    have hj5 : ∀ q5, p5 = q5 → V 152 [some (rf g 47), none, some (.int x2), some (.int s.1), none, none, none] [] q5 := by
      intro q5 hq5
      subst hq5
      refine i_iinc (L1 := [some (rf g 47), none, some (.int x2), some (.int (s.1 + (1 : Int32))), none, none, none]) S dX12_laysOrder_152 rfl ic_1 (by decide) rfl ?_
      refine i_goto (tgt := 12) S dX12_laysOrder_155 (by decide) ?_
      have hz := hC _ (Option.some.inj h).symm
      exact hz
    replace h := e5
    clear e5
    refine i_if_ne (tgt := 152) S dX12_laysOrder_34 (by decide) (fun q4 => ?_) (fun q4 => ?_)
    · replace h := (if_neg q4).symm.trans h
      refine i_mask (L1 := [some (rf g 47), none, some (.int x2), some (.int s.1), none, none, none]) S [true, false, true, true, false, false, false] rfl ?_
      have hz := hj5 _ (Option.some.inj h).symm
      exact hz
    · replace h := (if_pos q4).symm.trans h
      refine i_iload S dX12_laysOrder_37 rfl ?_
      refine i_iload_n S dX12_laysOrder_39 rfl ?_
      refine i_icmp_ge (tgt := 46) S dX12_laysOrder_40 (by decide) (fun q6 => ?_) (fun q6 => ?_)
      · replace h := (if_pos q6).symm.trans h
        refine i_aload_n S dX12_laysOrder_46 rfl ?_
        refine i_getR S fl_X12_102 (k47 hL1) (r47_52 hL1) rfl dX12_laysOrder_47 ?_
        refine i_iload_n S dX12_laysOrder_50 rfl ?_
        refine i_iload S dX12_laysOrder_51 rfl ?_
        refine i_iload_n S dX12_laysOrder_53 rfl ?_
        obtain ⟨p8, e8, h⟩ := bn h
        have hj8 : ∀ q8, p8 = q8 → V 64 [some (rf g 47), none, some (.int x2), some (.int s.1), some (.int p3), none, none] [.long q8, .int s.1, rf g 76] s.2 := by
          intro q8 hq8
          subst hq8
          obtain ⟨hi10, h⟩ := gd h
          refine i_last S (k76 hL1) hi10 dX12_laysOrder_64 ?_
          refine i_iconst (v := 0) S dX12_laysOrder_65 ic_0 ?_
          refine i_istore (L1 := [some (rf g 47), none, some (.int x2), some (.int s.1), some (.int p3), some (.int ((0 : Int32))), none]) S dX12_laysOrder_66 (by decide) rfl ?_
          obtain ⟨p11, e11, h⟩ := bn h
          have hE11 : V 152 [some (rf g 47), none, some (.int x2), some (.int s.1), none, none, none] [] p11 := by
            have hz := hj5 _ (Option.some.inj h).symm
            exact hz
          exact wh_V (P := fun sv11 => V 68 [some (rf g 47), none, some (.int x2), some (.int s.1), some (.int p3), some (.int sv11.1), none] [] sv11.2) (E := fun xv11 => V 152 [some (rf g 47), none, some (.int x2), some (.int s.1), none, none, none] [] xv11) (fun sv11 ev hb hc he => t_l_X12_laysOrder_68   S  sv11 ev hb hc he) FUEL _ _ e11 hE11
        replace h := e8
        clear e8
        refine i_icmp_ne (tgt := 61) S dX12_laysOrder_54 (by decide) (fun q7 => ?_) (fun q7 => ?_)
        · replace h := (if_neg q7).symm.trans h
          refine i_ldc2 S kl_X12_421 dX12_laysOrder_61 ?_
          have hz := hj8 _ (Option.some.inj h).symm
          exact hz
        · replace h := (if_pos q7).symm.trans h
          refine i_lconst (v := 0) S dX12_laysOrder_57 lc_0 ?_
          refine i_goto (tgt := 64) S dX12_laysOrder_58 (by decide) ?_
          have hz := hj8 _ (Option.some.inj h).symm
          exact hz
      · replace h := (if_neg q6).symm.trans h
        refine i_goto (tgt := 152) S dX12_laysOrder_43 (by decide) ?_
        refine i_mask (L1 := [some (rf g 47), none, some (.int x2), some (.int s.1), none, none, none]) S [true, false, true, true, false, false, false] rfl ?_
        have hz := hj5 _ (Option.some.inj h).symm
        exact hz
set_option maxHeartbeats 4000000 in
set_option maxRecDepth 100000 in
theorem c_X12_laysOrder (g : Gx) (d : Nat) {x1 : Int32} {w : Mm} {p : Mm} (hL : Lay w) (h : f_X12_laysOrder x1 w = some p) : Call g (d + 10) yX12_laysOrder cX12_laysOrder 7 none [rf g 47, .int x1] w none p := by
  refine call_of (L0 := [some (rf g 47), some (.int x1), none, none, none, none, none]) (by decide) rfl (Nat.le_of_ble_eq_true rfl) (fun V S0 => ?_)
  have S := S0.b
  unfold f_X12_laysOrder at h
  refine i_aload_n S dX12_laysOrder_0 rfl ?_
  refine i_getIv (v := gI w 47 6) S fl_X12_146 (k47 hL) rfl rfl dX12_laysOrder_1 ?_
  obtain ⟨p1, e1, h⟩ := bn h
  refine i_callS (As := [.int (gI w 47 6)]) (st1 := [.int p1]) S (c_X12_sizeOf g (d + 8) e1) mw_X12_sizeOf lk_X12_297 im_X12_sizeOf dX12_laysOrder_4 rfl rfl (Nat.le_of_ble_eq_true rfl) rfl ?_
  refine i_iload_n S dX12_laysOrder_7 rfl ?_
  refine i_isub S dX12_laysOrder_8 ?_
  refine i_istore_n (L1 := [some (rf g 47), some (.int x1), some (.int (p1 - x1)), none, none, none, none]) S dX12_laysOrder_9 (by decide) rfl ?_
  refine i_iconst (v := 0) S dX12_laysOrder_10 ic_0 ?_
  refine i_istore_n (L1 := [some (rf g 47), some (.int x1), some (.int (p1 - x1)), some (.int ((0 : Int32))), none, none, none]) S dX12_laysOrder_11 (by decide) rfl ?_
  refine i_mask (L1 := [some (rf g 47), none, some (.int (p1 - x1)), some (.int ((0 : Int32))), none, none, none]) S [true, false, true, true, false, false, false] rfl ?_
  obtain ⟨p2, e2, h⟩ := bn h
  have hE2 : V 158 [none, none, none, none, none, none, none] [] p2 := by
    cases h
    exact i_vret S0 dX12_laysOrder_158
  exact wh_V (P := fun sv2 => V 12 [some (rf g 47), none, some (.int (p1 - x1)), some (.int sv2.1), none, none, none] [] sv2.2) (E := fun xv2 => V 158 [none, none, none, none, none, none, none] [] xv2) (fun sv2 ev hb hc he => t_l_X12_laysOrder_12   S  sv2 ev hb hc he) FUEL _ _ e2 hE2
/-! WordYearModel.isOrder -/
noncomputable def f_X12_isOrder (x1 : Int32) (w : Mm) : Option Int32 := if (f_X12_lies x1.toInt64 (1 : Int64) (6 : Int64)) = 0 then (some (0 : Int32)) else (Option.bind (f_X12_sizeOf (gI w 47 6)) (fun p2 => if p2 < x1 then (some (0 : Int32)) else (some (1 : Int32))))
set_option maxHeartbeats 4000000 in
set_option maxRecDepth 100000 in
theorem c_X12_isOrder (g : Gx) (d : Nat) {x1 : Int32} {w : Mm} {p : Int32} (hL : Lay w) (h : f_X12_isOrder x1 w = some p) : Call g (d + 2) yX12_isOrder cX12_isOrder 2 (some .boolean) [rf g 47, .int x1] w (some (.int p)) w := by
  refine call_of (L0 := [some (rf g 47), some (.int x1)]) (by decide) rfl (Nat.le_of_ble_eq_true rfl) (fun V S0 => ?_)
  have S := S0.b
  unfold f_X12_isOrder at h
  refine i_iload_n S dX12_isOrder_0 rfl ?_
  refine i_i2l S dX12_isOrder_1 ?_
  refine i_lconst (v := 1) S dX12_isOrder_2 lc_1 ?_
  refine i_ldc2 S kl_X12_423 dX12_isOrder_3 ?_
  refine i_callS (As := [.long x1.toInt64, .long ((1 : Int64)), .long ((6 : Int64))]) (st1 := [.int (f_X12_lies x1.toInt64 (1 : Int64) (6 : Int64))]) S (c_X12_lies g d rfl) mw_X12_lies lk_X12_138 im_X12_lies dX12_isOrder_6 rfl rfl (Nat.le_of_ble_eq_true rfl) rfl ?_
  refine i_if_eq (tgt := 27) S dX12_isOrder_9 (by decide) (fun q1 => ?_) (fun q1 => ?_)
  · replace h := (if_pos q1).symm.trans h
    refine i_iconst (v := 0) S dX12_isOrder_27 ic_0 ?_
    cases h
    exact i_iret S0 rfl dX12_isOrder_28
  · replace h := (if_neg q1).symm.trans h
    refine i_iload_n S dX12_isOrder_12 rfl ?_
    refine i_aload_n S dX12_isOrder_13 rfl ?_
    refine i_getIv (v := gI w 47 6) S fl_X12_146 (k47 hL) rfl rfl dX12_isOrder_14 ?_
    obtain ⟨p2, e2, h⟩ := bn h
    refine i_callS (As := [.int (gI w 47 6)]) (st1 := [.int p2, .int x1]) S (c_X12_sizeOf g d e2) mw_X12_sizeOf lk_X12_297 im_X12_sizeOf dX12_isOrder_17 rfl rfl (Nat.le_of_ble_eq_true rfl) rfl ?_
    refine i_icmp_gt (tgt := 27) S dX12_isOrder_20 (by decide) (fun q3 => ?_) (fun q3 => ?_)
    · replace h := (if_pos q3).symm.trans h
      refine i_iconst (v := 0) S dX12_isOrder_27 ic_0 ?_
      cases h
      exact i_iret S0 rfl dX12_isOrder_28
    · replace h := (if_neg q3).symm.trans h
      refine i_iconst (v := 1) S dX12_isOrder_23 ic_1 ?_
      refine i_goto (tgt := 28) S dX12_isOrder_24 (by decide) ?_
      cases h
      exact i_iret S0 rfl dX12_isOrder_28
/-! WordYearModel.order -/
noncomputable def l_X12_order_67 (x2 : Int32) (x3 : Int32) (x5 : Int32) (s : Int32 × Mm) : Option ((Int32 × Mm) ⊕ (Int32 × Mm)) := mg (if (f_X12_has x3 s.1) = 0 then (some (.inl s.2)) else (onL s.2 (Option.bind (f_X12_talkOf (x3 &&& (((1 : Int32) <<< (s.1 &&& 31)) ^^^ (-1 : Int32))) s.2) (fun p4 => onL p4.2 (if inb (x3 &&& (((1 : Int32) <<< (s.1 &&& 31)) ^^^ (-1 : Int32))) 1024 = true then (if inb x3 1024 = true then (if (p4.1 + (gL p4.2 76 (ix (x3 &&& (((1 : Int32) <<< (s.1 &&& 31)) ^^^ (-1 : Int32)))))) = (gL p4.2 76 (ix x3)) then (some (.inr (.inr (s.1, p4.2)))) else (some (.inl p4.2))) else none) else none))))) (fun p2 => some (.inl (s.1 + (1 : Int32), p2)))
noncomputable def l_X12_order_58 (x2 : Int32) (s : Int32 × Int32 × Int32 × Mm) : Option ((Int32 × Int32 × Int32 × Mm) ⊕ (Int32 × Mm)) := if x2 < s.2.2.1 then (some (.inr (s.2.1, s.2.2.2))) else (Option.bind (wh (l_X12_order_67 x2 s.1 s.2.2.1) FUEL ((0 : Int32), s.2.2.2)) (fun p2 => some (.inl (s.1 &&& (((1 : Int32) <<< (p2.1 &&& 31)) ^^^ (-1 : Int32)), p2.1, s.2.2.1 + (1 : Int32), p2.2))))
noncomputable def f_X12_order (x1 : Int32) (x2 : Int32) (w : Mm) : Option (Int64 × Mm) := Option.bind (f_X12_isOrder x1 w) (fun p1 => if p1 = 0 then (some ((-1 : Int64), w)) else (if (f_X12_lies x2.toInt64 (-1 : Int64) ((x1 - (1 : Int32)).toInt64)) = 0 then (some ((-1 : Int64), w)) else (Option.bind (f_X12_laysOrder x1 w) (fun p4 => if x2 = (-1 : Int32) then (onL p4 (if inb (gI p4 47 6) 1024 = true then (some (gL p4 76 (ix (gI p4 47 6)), p4)) else none)) else (onL p4 (Option.bind (wh (l_X12_order_58 x2) FUEL (gI p4 47 6, (0 : Int32), (0 : Int32), p4)) (fun p7 => some (p7.1.toInt64, p7.2))))))))
set_option maxHeartbeats 4000000 in
set_option maxRecDepth 100000 in
theorem t_l_X12_order_67 {g : Gx} {V : Vt} {d : Nat} (S : MachB g yX12_order cX12_order 6 (d + 10) V) {x2 : Int32} {x3 : Int32} {x5 : Int32}  (s : Int32 × Mm) (e : (Int32 × Mm) ⊕ (Int32 × Mm)) (h : l_X12_order_67 x2 x3 x5 s = some e) (hC : ∀ s2, e = .inl s2 → V 67 [some (rf g 47), none, some (.int x2), some (.int x3), some (.int s2.1), some (.int x5)] [] s2.2) (hE : ∀ x, e = .inr x → V 118 [some (rf g 47), none, some (.int x2), some (.int x3), some (.int x.1), some (.int x5)] [] x.2) : V 67 [some (rf g 47), none, some (.int x2), some (.int x3), some (.int s.1), some (.int x5)] [] s.2 := by
  unfold l_X12_order_67 at h
  refine i_iload_n S dX12_order_67 rfl ?_
  refine i_iload S dX12_order_68 rfl ?_
  refine i_callS (As := [.int x3, .int s.1]) (st1 := [.int (f_X12_has x3 s.1)]) S (c_X12_has g (d + 9) rfl) mw_X12_has lk_X12_149 im_X12_has dX12_order_70 rfl rfl (Nat.le_of_ble_eq_true rfl) rfl ?_
  obtain ⟨s2, e2, hm2, ho2⟩ := mgn h
  have hj2 : ∀ p2, s2 = .inl p2 → V 112 [some (rf g 47), none, some (.int x2), some (.int x3), some (.int s.1), some (.int x5)] [] p2 := by
    intro p2 ep2
    have h := hm2 p2 ep2
    refine i_iinc (L1 := [some (rf g 47), none, some (.int x2), some (.int x3), some (.int (s.1 + (1 : Int32))), some (.int x5)]) S dX12_order_112 rfl ic_1 (by decide) rfl ?_
    refine i_goto (tgt := 67) S dX12_order_115 (by decide) ?_
    have hz := hC _ (Option.some.inj h).symm
    exact hz
  replace h := e2
  clear e2
  refine i_if_eq (tgt := 112) S dX12_order_73 (by decide) (fun q1 => ?_) (fun q1 => ?_)
  · replace h := (if_pos q1).symm.trans h
    have hz := hj2 _ (Option.some.inj h).symm
    exact hz
  · replace h := (if_neg q1).symm.trans h
    refine i_aload_n S dX12_order_76 rfl ?_
    refine i_iload_n S dX12_order_77 rfl ?_
    refine i_iconst (v := 1) S dX12_order_78 ic_1 ?_
    refine i_iload S dX12_order_79 rfl ?_
    refine i_ishl S dX12_order_81 ?_
    refine i_iconst (v := -1) S dX12_order_82 ic_m1 ?_
    refine i_ixor S dX12_order_83 ?_
    refine i_iand S dX12_order_84 ?_
    obtain ⟨hL3, h⟩ := onLn h
    obtain ⟨p4, e4, h⟩ := bn h
    refine i_callV (As := [.int (x3 &&& (((1 : Int32) <<< (s.1 &&& 31)) ^^^ (-1 : Int32)))]) (st1 := [.long p4.1]) S (c_X12_talkOf g (d + 1) hL3 e4) mw_X12_talkOf lk_X12_376 im_X12_talkOf se_X12_talkOf ci_12.1 ci_12.2.1 (k47 hL3) dX12_order_85 rfl rfl (Nat.le_of_ble_eq_true rfl) rfl ?_
    refine i_aload_n S dX12_order_88 rfl ?_
    obtain ⟨hL5, h⟩ := onLn h
    refine i_getR S fl_X12_102 (k47 hL5) (r47_52 hL5) rfl dX12_order_89 ?_
    refine i_iload_n S dX12_order_92 rfl ?_
    refine i_iconst (v := 1) S dX12_order_93 ic_1 ?_
    refine i_iload S dX12_order_94 rfl ?_
    refine i_ishl S dX12_order_96 ?_
    refine i_iconst (v := -1) S dX12_order_97 ic_m1 ?_
    refine i_ixor S dX12_order_98 ?_
    refine i_iand S dX12_order_99 ?_
    obtain ⟨hi7, h⟩ := gd h
    refine i_laldv (v := gL p4.2 76 (ix (x3 &&& (((1 : Int32) <<< (s.1 &&& 31)) ^^^ (-1 : Int32))))) S (k76 hL5) hi7 rfl dX12_order_100 ?_
    refine i_ladd S dX12_order_101 ?_
    refine i_aload_n S dX12_order_102 rfl ?_
    refine i_getR S fl_X12_102 (k47 hL5) (r47_52 hL5) rfl dX12_order_103 ?_
    refine i_iload_n S dX12_order_106 rfl ?_
    obtain ⟨hi9, h⟩ := gd h
    refine i_laldv (v := gL p4.2 76 (ix x3)) S (k76 hL5) hi9 rfl dX12_order_107 ?_
    refine i_lc_eq (tgt := 118) S dX12_order_108 dX12_order_109 (by decide) (fun q10 => ?_) (fun q10 => ?_)
    · replace h := (if_pos q10).symm.trans h
      replace h := ho2 _ (Option.some.inj h).symm
      have hz := hE _ (Option.some.inj h).symm
      exact hz
    · replace h := (if_neg q10).symm.trans h
      have hz := hj2 _ (Option.some.inj h).symm
      exact hz
set_option maxHeartbeats 4000000 in
set_option maxRecDepth 100000 in
theorem t_l_X12_order_58 {g : Gx} {V : Vt} {d : Nat} (S : MachB g yX12_order cX12_order 6 (d + 10) V) {x2 : Int32}  (s : Int32 × Int32 × Int32 × Mm) (e : (Int32 × Int32 × Int32 × Mm) ⊕ (Int32 × Mm)) (h : l_X12_order_58 x2 s = some e) (hC : ∀ s2, e = .inl s2 → V 58 [some (rf g 47), none, some (.int x2), some (.int s2.1), some (.int s2.2.1), some (.int s2.2.2.1)] [] s2.2.2.2) (hE : ∀ x, e = .inr x → V 133 [none, none, none, none, some (.int x.1), none] [] x.2) : V 58 [some (rf g 47), none, some (.int x2), some (.int s.1), some (.int s.2.1), some (.int s.2.2.1)] [] s.2.2.2 := by
  unfold l_X12_order_58 at h
  refine i_iload S dX12_order_58 rfl ?_
  refine i_iload_n S dX12_order_60 rfl ?_
  refine i_icmp_gt (tgt := 133) S dX12_order_61 (by decide) (fun q1 => ?_) (fun q1 => ?_)
  · replace h := (if_pos q1).symm.trans h
    refine i_mask (L1 := [none, none, none, none, some (.int s.2.1), none]) S [false, false, false, false, true, false] rfl ?_
    have hz := hE _ (Option.some.inj h).symm
    exact hz
  · replace h := (if_neg q1).symm.trans h
    refine i_iconst (v := 0) S dX12_order_64 ic_0 ?_
    refine i_istore (L1 := [some (rf g 47), none, some (.int x2), some (.int s.1), some (.int ((0 : Int32))), some (.int s.2.2.1)]) S dX12_order_65 (by decide) rfl ?_
    obtain ⟨p2, e2, h⟩ := bn h
    have hE2 : V 118 [some (rf g 47), none, some (.int x2), some (.int s.1), some (.int p2.1), some (.int s.2.2.1)] [] p2.2 := by
      refine i_iload_n S dX12_order_118 rfl ?_
      refine i_iconst (v := 1) S dX12_order_119 ic_1 ?_
      refine i_iload S dX12_order_120 rfl ?_
      refine i_ishl S dX12_order_122 ?_
      refine i_iconst (v := -1) S dX12_order_123 ic_m1 ?_
      refine i_ixor S dX12_order_124 ?_
      refine i_iand S dX12_order_125 ?_
      refine i_istore_n (L1 := [some (rf g 47), none, some (.int x2), some (.int (s.1 &&& (((1 : Int32) <<< (p2.1 &&& 31)) ^^^ (-1 : Int32)))), some (.int p2.1), some (.int s.2.2.1)]) S dX12_order_126 (by decide) rfl ?_
      refine i_iinc (L1 := [some (rf g 47), none, some (.int x2), some (.int (s.1 &&& (((1 : Int32) <<< (p2.1 &&& 31)) ^^^ (-1 : Int32)))), some (.int p2.1), some (.int (s.2.2.1 + (1 : Int32)))]) S dX12_order_127 rfl ic_1 (by decide) rfl ?_
      refine i_goto (tgt := 58) S dX12_order_130 (by decide) ?_
      have hz := hC _ (Option.some.inj h).symm
      exact hz
    exact wh_V (P := fun sv2 => V 67 [some (rf g 47), none, some (.int x2), some (.int s.1), some (.int sv2.1), some (.int s.2.2.1)] [] sv2.2) (E := fun xv2 => V 118 [some (rf g 47), none, some (.int x2), some (.int s.1), some (.int xv2.1), some (.int s.2.2.1)] [] xv2.2) (fun sv2 ev hb hc he => t_l_X12_order_67   S  sv2 ev hb hc he) FUEL _ _ e2 hE2
set_option maxHeartbeats 4000000 in
set_option maxRecDepth 100000 in
theorem c_X12_order (g : Gx) (d : Nat) {x1 : Int32} {x2 : Int32} {w : Mm} {p : (Int64 × Mm)} (hL : Lay w) (h : f_X12_order x1 x2 w = some p) : Call g (d + 11) yX12_order cX12_order 6 (some .long) [rf g 47, .int x1, .int x2] w (some (.long p.1)) p.2 := by
  refine call_of (L0 := [some (rf g 47), some (.int x1), some (.int x2), none, none, none]) (by decide) rfl (Nat.le_of_ble_eq_true rfl) (fun V S0 => ?_)
  have S := S0.b
  unfold f_X12_order at h
  refine i_aload_n S dX12_order_0 rfl ?_
  refine i_iload_n S dX12_order_1 rfl ?_
  obtain ⟨p1, e1, h⟩ := bn h
  refine i_callV (As := [.int x1]) (st1 := [.int p1]) S (c_X12_isOrder g (d + 8) hL e1) mw_X12_isOrder lk_X12_425 im_X12_isOrder se_X12_isOrder ci_12.1 ci_12.2.1 (k47 hL) dX12_order_2 rfl rfl (Nat.le_of_ble_eq_true rfl) rfl ?_
  refine i_if_eq (tgt := 23) S dX12_order_5 (by decide) (fun q2 => ?_) (fun q2 => ?_)
  · replace h := (if_pos q2).symm.trans h
    refine i_ldc2 S kl_X12_374 dX12_order_23 ?_
    cases h
    exact i_lret S0 dX12_order_26
  · replace h := (if_neg q2).symm.trans h
    refine i_iload_n S dX12_order_8 rfl ?_
    refine i_i2l S dX12_order_9 ?_
    refine i_ldc2 S kl_X12_374 dX12_order_10 ?_
    refine i_iload_n S dX12_order_13 rfl ?_
    refine i_iconst (v := 1) S dX12_order_14 ic_1 ?_
    refine i_isub S dX12_order_15 ?_
    refine i_i2l S dX12_order_16 ?_
    refine i_callS (As := [.long x2.toInt64, .long ((-1 : Int64)), .long ((x1 - (1 : Int32)).toInt64)]) (st1 := [.int (f_X12_lies x2.toInt64 (-1 : Int64) ((x1 - (1 : Int32)).toInt64))]) S (c_X12_lies g (d + 9) rfl) mw_X12_lies lk_X12_138 im_X12_lies dX12_order_17 rfl rfl (Nat.le_of_ble_eq_true rfl) rfl ?_
    refine i_if_ne (tgt := 27) S dX12_order_20 (by decide) (fun q3 => ?_) (fun q3 => ?_)
    · replace h := (if_neg q3).symm.trans h
      refine i_aload_n S dX12_order_27 rfl ?_
      refine i_iload_n S dX12_order_28 rfl ?_
      obtain ⟨p4, e4, h⟩ := bn h
      refine i_callV (As := [.int x1]) (st1 := []) S (c_X12_laysOrder g d hL e4) mw_X12_laysOrder lk_X12_428 im_X12_laysOrder se_X12_laysOrder ci_12.1 ci_12.2.1 (k47 hL) dX12_order_29 rfl rfl (Nat.le_of_ble_eq_true rfl) rfl ?_
      refine i_iload_n S dX12_order_32 rfl ?_
      refine i_iconst (v := -1) S dX12_order_33 ic_m1 ?_
      refine i_icmp_ne (tgt := 47) S dX12_order_34 (by decide) (fun q5 => ?_) (fun q5 => ?_)
      · replace h := (if_neg q5).symm.trans h
        refine i_aload_n S dX12_order_47 rfl ?_
        obtain ⟨hL6, h⟩ := onLn h
        refine i_getIv (v := gI p4 47 6) S fl_X12_146 (k47 hL6) rfl rfl dX12_order_48 ?_
        refine i_istore_n (L1 := [some (rf g 47), some (.int x1), some (.int x2), some (.int (gI p4 47 6)), none, none]) S dX12_order_51 (by decide) rfl ?_
        refine i_iconst (v := 0) S dX12_order_52 ic_0 ?_
        refine i_istore (L1 := [some (rf g 47), some (.int x1), some (.int x2), some (.int (gI p4 47 6)), some (.int ((0 : Int32))), none]) S dX12_order_53 (by decide) rfl ?_
        refine i_iconst (v := 0) S dX12_order_55 ic_0 ?_
        refine i_istore (L1 := [some (rf g 47), some (.int x1), some (.int x2), some (.int (gI p4 47 6)), some (.int ((0 : Int32))), some (.int ((0 : Int32)))]) S dX12_order_56 (by decide) rfl ?_
        refine i_mask (L1 := [some (rf g 47), none, some (.int x2), some (.int (gI p4 47 6)), some (.int ((0 : Int32))), some (.int ((0 : Int32)))]) S [true, false, true, true, true, true] rfl ?_
        obtain ⟨p7, e7, h⟩ := bn h
        have hE7 : V 133 [none, none, none, none, some (.int p7.1), none] [] p7.2 := by
          refine i_iload S dX12_order_133 rfl ?_
          refine i_i2l S dX12_order_135 ?_
          cases h
          exact i_lret S0 dX12_order_136
        exact wh_V (P := fun sv7 => V 58 [some (rf g 47), none, some (.int x2), some (.int sv7.1), some (.int sv7.2.1), some (.int sv7.2.2.1)] [] sv7.2.2.2) (E := fun xv7 => V 133 [none, none, none, none, some (.int xv7.1), none] [] xv7.2) (fun sv7 ev hb hc he => t_l_X12_order_58   S  sv7 ev hb hc he) FUEL _ _ e7 hE7
      · replace h := (if_pos q5).symm.trans h
        refine i_aload_n S dX12_order_37 rfl ?_
        obtain ⟨hL8, h⟩ := onLn h
        refine i_getR S fl_X12_102 (k47 hL8) (r47_52 hL8) rfl dX12_order_38 ?_
        refine i_aload_n S dX12_order_41 rfl ?_
        refine i_getIv (v := gI p4 47 6) S fl_X12_146 (k47 hL8) rfl rfl dX12_order_42 ?_
        obtain ⟨hi10, h⟩ := gd h
        refine i_laldv (v := gL p4 76 (ix (gI p4 47 6))) S (k76 hL8) hi10 rfl dX12_order_45 ?_
        cases h
        exact i_lret S0 dX12_order_46
    · replace h := (if_pos q3).symm.trans h
      refine i_ldc2 S kl_X12_374 dX12_order_23 ?_
      cases h
      exact i_lret S0 dX12_order_26
/-! WordYearModel.gap -/
noncomputable def l_X12_gap_28 (x1 : Int32) (s : Int64 × Int32 × Int32 × Mm) : Option ((Int64 × Int32 × Int32 × Mm) ⊕ (Int64 × Mm)) := if x1 ≤ s.2.2.1 then (some (.inr (s.1, s.2.2.2))) else (onL s.2.2.2 (Option.bind (f_X12_leastOf s.2.1 s.2.2.2) (fun p3 => onL p3.2 (Option.bind (f_X12_talkOf (s.2.1 &&& (((1 : Int32) <<< (p3.1 &&& 31)) ^^^ (-1 : Int32))) p3.2) (fun p5 => some (.inl (s.1 + p5.1, s.2.1 &&& (((1 : Int32) <<< (p3.1 &&& 31)) ^^^ (-1 : Int32)), s.2.2.1 + (1 : Int32), p5.2)))))))
noncomputable def f_X12_gap (x1 : Int32) (w : Mm) : Option (Int64 × Mm) := Option.bind (f_X12_isOrder x1 w) (fun p1 => if p1 = 0 then (some ((-1 : Int64), w)) else (Option.bind (f_X12_laysOrder x1 w) (fun p3 => onL p3 (Option.bind (wh (l_X12_gap_28 x1) FUEL ((0 : Int64), gI p3 47 6, (0 : Int32), p3)) (fun p5 => onL p5.2 (if inb (gI p5.2 47 6) 1024 = true then (some (p5.1 - (gL p5.2 76 (ix (gI p5.2 47 6))), p5.2)) else none))))))
set_option maxHeartbeats 4000000 in
set_option maxRecDepth 100000 in
theorem t_l_X12_gap_28 {g : Gx} {V : Vt} {d : Nat} (S : MachB g yX12_gap cX12_gap 6 (d + 10) V) {x1 : Int32}  (s : Int64 × Int32 × Int32 × Mm) (e : (Int64 × Int32 × Int32 × Mm) ⊕ (Int64 × Mm)) (h : l_X12_gap_28 x1 s = some e) (hC : ∀ s2, e = .inl s2 → V 28 [some (rf g 47), some (.int x1), some (.long s2.1), none, some (.int s2.2.1), some (.int s2.2.2.1)] [] s2.2.2.2) (hE : ∀ x, e = .inr x → V 64 [some (rf g 47), none, some (.long x.1), none, none, none] [] x.2) : V 28 [some (rf g 47), some (.int x1), some (.long s.1), none, some (.int s.2.1), some (.int s.2.2.1)] [] s.2.2.2 := by
  unfold l_X12_gap_28 at h
  refine i_iload S dX12_gap_28 rfl ?_
  refine i_iload_n S dX12_gap_30 rfl ?_
  refine i_icmp_ge (tgt := 64) S dX12_gap_31 (by decide) (fun q1 => ?_) (fun q1 => ?_)
  · replace h := (if_pos q1).symm.trans h
    refine i_mask (L1 := [some (rf g 47), none, some (.long s.1), none, none, none]) S [true, false, true, false, false, false] rfl ?_
    have hz := hE _ (Option.some.inj h).symm
    exact hz
  · replace h := (if_neg q1).symm.trans h
    refine i_iload S dX12_gap_34 rfl ?_
    refine i_iconst (v := 1) S dX12_gap_36 ic_1 ?_
    refine i_aload_n S dX12_gap_37 rfl ?_
    refine i_iload S dX12_gap_38 rfl ?_
    obtain ⟨hL2, h⟩ := onLn h
    obtain ⟨p3, e3, h⟩ := bn h
    refine i_callV (As := [.int s.2.1]) (st1 := [.int p3.1, .int ((1 : Int32)), .int s.2.1]) S (c_X12_leastOf g d hL2 e3) mw_X12_leastOf lk_X12_391 im_X12_leastOf se_X12_leastOf ci_12.1 ci_12.2.1 (k47 hL2) dX12_gap_40 rfl rfl (Nat.le_of_ble_eq_true rfl) rfl ?_
    refine i_ishl S dX12_gap_43 ?_
    refine i_iconst (v := -1) S dX12_gap_44 ic_m1 ?_
    refine i_ixor S dX12_gap_45 ?_
    refine i_iand S dX12_gap_46 ?_
    refine i_istore (L1 := [some (rf g 47), some (.int x1), some (.long s.1), none, some (.int (s.2.1 &&& (((1 : Int32) <<< (p3.1 &&& 31)) ^^^ (-1 : Int32)))), some (.int s.2.2.1)]) S dX12_gap_47 (by decide) rfl ?_
    refine i_lload_n S dX12_gap_49 rfl ?_
    refine i_aload_n S dX12_gap_50 rfl ?_
    refine i_iload S dX12_gap_51 rfl ?_
    obtain ⟨hL4, h⟩ := onLn h
    obtain ⟨p5, e5, h⟩ := bn h
    refine i_callV (As := [.int (s.2.1 &&& (((1 : Int32) <<< (p3.1 &&& 31)) ^^^ (-1 : Int32)))]) (st1 := [.long p5.1, .long s.1]) S (c_X12_talkOf g (d + 1) hL4 e5) mw_X12_talkOf lk_X12_376 im_X12_talkOf se_X12_talkOf ci_12.1 ci_12.2.1 (k47 hL4) dX12_gap_53 rfl rfl (Nat.le_of_ble_eq_true rfl) rfl ?_
    refine i_ladd S dX12_gap_56 ?_
    refine i_lstore_n (L1 := [some (rf g 47), some (.int x1), some (.long (s.1 + p5.1)), none, some (.int (s.2.1 &&& (((1 : Int32) <<< (p3.1 &&& 31)) ^^^ (-1 : Int32)))), some (.int s.2.2.1)]) S dX12_gap_57 (by decide) rfl ?_
    refine i_iinc (L1 := [some (rf g 47), some (.int x1), some (.long (s.1 + p5.1)), none, some (.int (s.2.1 &&& (((1 : Int32) <<< (p3.1 &&& 31)) ^^^ (-1 : Int32)))), some (.int (s.2.2.1 + (1 : Int32)))]) S dX12_gap_58 rfl ic_1 (by decide) rfl ?_
    refine i_goto (tgt := 28) S dX12_gap_61 (by decide) ?_
    have hz := hC _ (Option.some.inj h).symm
    exact hz
set_option maxHeartbeats 4000000 in
set_option maxRecDepth 100000 in
theorem c_X12_gap (g : Gx) (d : Nat) {x1 : Int32} {w : Mm} {p : (Int64 × Mm)} (hL : Lay w) (h : f_X12_gap x1 w = some p) : Call g (d + 11) yX12_gap cX12_gap 6 (some .long) [rf g 47, .int x1] w (some (.long p.1)) p.2 := by
  refine call_of (L0 := [some (rf g 47), some (.int x1), none, none, none, none]) (by decide) rfl (Nat.le_of_ble_eq_true rfl) (fun V S0 => ?_)
  have S := S0.b
  unfold f_X12_gap at h
  refine i_aload_n S dX12_gap_0 rfl ?_
  refine i_iload_n S dX12_gap_1 rfl ?_
  obtain ⟨p1, e1, h⟩ := bn h
  refine i_callV (As := [.int x1]) (st1 := [.int p1]) S (c_X12_isOrder g (d + 8) hL e1) mw_X12_isOrder lk_X12_425 im_X12_isOrder se_X12_isOrder ci_12.1 ci_12.2.1 (k47 hL) dX12_gap_2 rfl rfl (Nat.le_of_ble_eq_true rfl) rfl ?_
  refine i_if_ne (tgt := 12) S dX12_gap_5 (by decide) (fun q2 => ?_) (fun q2 => ?_)
  · replace h := (if_neg q2).symm.trans h
    refine i_aload_n S dX12_gap_12 rfl ?_
    refine i_iload_n S dX12_gap_13 rfl ?_
    obtain ⟨p3, e3, h⟩ := bn h
    refine i_callV (As := [.int x1]) (st1 := []) S (c_X12_laysOrder g d hL e3) mw_X12_laysOrder lk_X12_428 im_X12_laysOrder se_X12_laysOrder ci_12.1 ci_12.2.1 (k47 hL) dX12_gap_14 rfl rfl (Nat.le_of_ble_eq_true rfl) rfl ?_
    refine i_lconst (v := 0) S dX12_gap_17 lc_0 ?_
    refine i_lstore_n (L1 := [some (rf g 47), some (.int x1), some (.long ((0 : Int64))), none, none, none]) S dX12_gap_18 (by decide) rfl ?_
    refine i_aload_n S dX12_gap_19 rfl ?_
    obtain ⟨hL4, h⟩ := onLn h
    refine i_getIv (v := gI p3 47 6) S fl_X12_146 (k47 hL4) rfl rfl dX12_gap_20 ?_
    refine i_istore (L1 := [some (rf g 47), some (.int x1), some (.long ((0 : Int64))), none, some (.int (gI p3 47 6)), none]) S dX12_gap_23 (by decide) rfl ?_
    refine i_iconst (v := 0) S dX12_gap_25 ic_0 ?_
    refine i_istore (L1 := [some (rf g 47), some (.int x1), some (.long ((0 : Int64))), none, some (.int (gI p3 47 6)), some (.int ((0 : Int32)))]) S dX12_gap_26 (by decide) rfl ?_
    obtain ⟨p5, e5, h⟩ := bn h
    have hE5 : V 64 [some (rf g 47), none, some (.long p5.1), none, none, none] [] p5.2 := by
      refine i_lload_n S dX12_gap_64 rfl ?_
      refine i_aload_n S dX12_gap_65 rfl ?_
      obtain ⟨hL6, h⟩ := onLn h
      refine i_getR S fl_X12_102 (k47 hL6) (r47_52 hL6) rfl dX12_gap_66 ?_
      refine i_aload_n S dX12_gap_69 rfl ?_
      refine i_getIv (v := gI p5.2 47 6) S fl_X12_146 (k47 hL6) rfl rfl dX12_gap_70 ?_
      obtain ⟨hi8, h⟩ := gd h
      refine i_laldv (v := gL p5.2 76 (ix (gI p5.2 47 6))) S (k76 hL6) hi8 rfl dX12_gap_73 ?_
      refine i_lsub S dX12_gap_74 ?_
      cases h
      exact i_lret S0 dX12_gap_75
    exact wh_V (P := fun sv5 => V 28 [some (rf g 47), some (.int x1), some (.long sv5.1), none, some (.int sv5.2.1), some (.int sv5.2.2.1)] [] sv5.2.2.2) (E := fun xv5 => V 64 [some (rf g 47), none, some (.long xv5.1), none, none, none] [] xv5.2) (fun sv5 ev hb hc he => t_l_X12_gap_28   S  sv5 ev hb hc he) FUEL _ _ e5 hE5
  · replace h := (if_pos q2).symm.trans h
    refine i_ldc2 S kl_X12_374 dX12_gap_8 ?_
    cases h
    exact i_lret S0 dX12_gap_11
