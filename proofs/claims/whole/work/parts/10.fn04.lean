/-! WordYear$Ballot.withMostPoints -/
noncomputable def l_X0_withMostPoints_48 (x1 : Int32) (x2 : Int32) (x3 : Int32) (x4 : Int32) (w : Mm) (s : Int32 × Int32) : Option ((Int32 × Int32) ⊕ (Int32)) := if (4 : Int32) ≤ s.2 then (some (.inr s.1)) else (if inb s.2 4 = true then (Option.bind (f_X0_placeOf s.2 x4 w) (fun p4 => some (.inl (s.1 + ((gI w 7 (ix s.2)) * (x1 - p4)), s.2 + (1 : Int32))))) else none)
noncomputable def l_X0_withMostPoints_20 (x1 : Int32) (w : Mm) (s : Int32 × Int32 × Int32) : Option ((Int32 × Int32 × Int32) ⊕ (Int32)) := if (10 : Int32) ≤ s.2.2 then (some (.inr s.1)) else (Option.bind (if (f_X11_contains (gI w 1 5) s.2.2) = 0 then (some (s.1, s.2.1)) else (Option.bind (wh (l_X0_withMostPoints_48 x1 s.1 s.2.1 s.2.2 w) FUEL ((0 : Int32), (0 : Int32))) (fun p4 => if p4 ≤ s.2.1 then (some (s.1, s.2.1)) else (some (s.2.2, p4))))) (fun p3 => some (.inl (p3.1, p3.2, s.2.2 + (1 : Int32)))))
noncomputable def f_X0_withMostPoints  (w : Mm) : Option Int32 := Option.bind (wh (l_X0_withMostPoints_20 ((f_J6_bitCount_0f7a4 (gI w 1 5)) - (1 : Int32)) w) FUEL ((-1 : Int32), (-1 : Int32), (0 : Int32))) (fun p1 => some p1)
set_option maxHeartbeats 4000000 in
set_option maxRecDepth 100000 in
theorem t_l_X0_withMostPoints_48 {g : Gx} {V : Vt} {d : Nat} (S : MachB g yX0_withMostPoints cX0_withMostPoints 7 (d + 1) V) {x1 : Int32} {x2 : Int32} {x3 : Int32} {x4 : Int32} {w : Mm} (hL : Lay w) (s : Int32 × Int32) (e : (Int32 × Int32) ⊕ (Int32)) (h : l_X0_withMostPoints_48 x1 x2 x3 x4 w s = some e) (hC : ∀ s2, e = .inl s2 → V 48 [some (rf g 41), some (.int x1), some (.int x2), some (.int x3), some (.int x4), some (.int s2.1), some (.int s2.2)] [] w) (hE : ∀ x, e = .inr x → V 86 [some (rf g 41), some (.int x1), some (.int x2), some (.int x3), some (.int x4), some (.int x), none] [] w) : V 48 [some (rf g 41), some (.int x1), some (.int x2), some (.int x3), some (.int x4), some (.int s.1), some (.int s.2)] [] w := by
  unfold l_X0_withMostPoints_48 at h
  refine i_iload S dX0_withMostPoints_48 rfl ?_
  refine i_iconst (v := 4) S dX0_withMostPoints_50 ic_4 ?_
  refine i_icmp_ge (tgt := 86) S dX0_withMostPoints_51 (by decide) (fun q1 => ?_) (fun q1 => ?_)
  · replace h := (if_pos q1).symm.trans h
    refine i_mask (L1 := [some (rf g 41), some (.int x1), some (.int x2), some (.int x3), some (.int x4), some (.int s.1), none]) S [true, true, true, true, true, true, false] rfl ?_
    have hz := hE _ (Option.some.inj h).symm
    exact hz
  · replace h := (if_neg q1).symm.trans h
    refine i_iload S dX0_withMostPoints_54 rfl ?_
    refine i_aload_n S dX0_withMostPoints_56 rfl ?_
    refine i_getR S fl_X0_23 (k41 hL) (r41_1 hL) rfl dX0_withMostPoints_57 ?_
    refine i_getR S fl_X0_78 (k6 hL) (r6_0 hL) rfl dX0_withMostPoints_60 ?_
    refine i_iload S dX0_withMostPoints_63 rfl ?_
    obtain ⟨hi3, h⟩ := gd h
    refine i_ialdv (v := gI w 7 (ix s.2)) S (k7 hL) hi3 rfl dX0_withMostPoints_65 ?_
    refine i_iload_n S dX0_withMostPoints_66 rfl ?_
    refine i_aload_n S dX0_withMostPoints_67 rfl ?_
    refine i_iload S dX0_withMostPoints_68 rfl ?_
    refine i_iload S dX0_withMostPoints_70 rfl ?_
    obtain ⟨p4, e4, h⟩ := bn h
    refine i_callV (As := [.int s.2, .int x4]) (st1 := [.int p4, .int x1, .int (gI w 7 (ix s.2)), .int s.1]) S (c_X0_placeOf g d hL e4) mw_X0_placeOf lk_X0_75 im_X0_placeOf se_X0_placeOf ci_0.1 ci_0.2.1 (k41 hL) dX0_withMostPoints_72 rfl rfl (Nat.le_of_ble_eq_true rfl) rfl ?_
    refine i_isub S dX0_withMostPoints_75 ?_
    refine i_imul S dX0_withMostPoints_76 ?_
    refine i_iadd S dX0_withMostPoints_77 ?_
    refine i_istore (L1 := [some (rf g 41), some (.int x1), some (.int x2), some (.int x3), some (.int x4), some (.int (s.1 + ((gI w 7 (ix s.2)) * (x1 - p4)))), some (.int s.2)]) S dX0_withMostPoints_78 (by decide) rfl ?_
    refine i_iinc (L1 := [some (rf g 41), some (.int x1), some (.int x2), some (.int x3), some (.int x4), some (.int (s.1 + ((gI w 7 (ix s.2)) * (x1 - p4)))), some (.int (s.2 + (1 : Int32)))]) S dX0_withMostPoints_80 rfl ic_1 (by decide) rfl ?_
    refine i_goto (tgt := 48) S dX0_withMostPoints_83 (by decide) ?_
    have hz := hC _ (Option.some.inj h).symm
    exact hz
set_option maxHeartbeats 4000000 in
set_option maxRecDepth 100000 in
theorem t_l_X0_withMostPoints_20 {g : Gx} {V : Vt} {d : Nat} (S : MachB g yX0_withMostPoints cX0_withMostPoints 7 (d + 1) V) {x1 : Int32} {w : Mm} (hL : Lay w) (s : Int32 × Int32 × Int32) (e : (Int32 × Int32 × Int32) ⊕ (Int32)) (h : l_X0_withMostPoints_20 x1 w s = some e) (hC : ∀ s2, e = .inl s2 → V 20 [some (rf g 41), some (.int x1), some (.int s2.1), some (.int s2.2.1), some (.int s2.2.2), none, none] [] w) (hE : ∀ x, e = .inr x → V 104 [none, none, some (.int x), none, none, none, none] [] w) : V 20 [some (rf g 41), some (.int x1), some (.int s.1), some (.int s.2.1), some (.int s.2.2), none, none] [] w := by
  unfold l_X0_withMostPoints_20 at h
  refine i_iload S dX0_withMostPoints_20 rfl ?_
  refine i_bipush (v := 10) S dX0_withMostPoints_22 bp_10 ?_
  refine i_icmp_ge (tgt := 104) S dX0_withMostPoints_24 (by decide) (fun q1 => ?_) (fun q1 => ?_)
  · replace h := (if_pos q1).symm.trans h
    refine i_mask (L1 := [none, none, some (.int s.1), none, none, none, none]) S [false, false, true, false, false, false, false] rfl ?_
    have hz := hE _ (Option.some.inj h).symm
    exact hz
  · replace h := (if_neg q1).symm.trans h
    refine i_aload_n S dX0_withMostPoints_27 rfl ?_
    refine i_getR S fl_X0_19 (k41 hL) (r41_0 hL) rfl dX0_withMostPoints_28 ?_
    refine i_getIv (v := gI w 1 5) S fl_X0_31 (k1 hL) rfl rfl dX0_withMostPoints_31 ?_
    refine i_iload S dX0_withMostPoints_34 rfl ?_
    refine i_callSN (As := [.int (gI w 1 5), .int s.2.2]) (st1 := [.int (f_X11_contains (gI w 1 5) s.2.2)]) S (c_X11_contains g d rfl) mw_X11_contains lk_X0_47 im_X11_contains dX0_withMostPoints_36 rfl rfl (Nat.le_of_ble_eq_true rfl) rfl ?_
    obtain ⟨p3, e3, h⟩ := bn h
    have hj3 : ∀ q3, p3 = q3 → V 98 [some (rf g 41), some (.int x1), some (.int q3.1), some (.int q3.2), some (.int s.2.2), none, none] [] w := by
      intro q3 hq3
      subst hq3
      refine i_iinc (L1 := [some (rf g 41), some (.int x1), some (.int p3.1), some (.int p3.2), some (.int (s.2.2 + (1 : Int32))), none, none]) S dX0_withMostPoints_98 rfl ic_1 (by decide) rfl ?_
      refine i_goto (tgt := 20) S dX0_withMostPoints_101 (by decide) ?_
      have hz := hC _ (Option.some.inj h).symm
      exact hz
    replace h := e3
    clear e3
    refine i_if_eq (tgt := 98) S dX0_withMostPoints_39 (by decide) (fun q2 => ?_) (fun q2 => ?_)
    · replace h := (if_pos q2).symm.trans h
      have hz := hj3 _ (Option.some.inj h).symm
      exact hz
    · replace h := (if_neg q2).symm.trans h
      refine i_iconst (v := 0) S dX0_withMostPoints_42 ic_0 ?_
      refine i_istore (L1 := [some (rf g 41), some (.int x1), some (.int s.1), some (.int s.2.1), some (.int s.2.2), some (.int ((0 : Int32))), none]) S dX0_withMostPoints_43 (by decide) rfl ?_
      refine i_iconst (v := 0) S dX0_withMostPoints_45 ic_0 ?_
      refine i_istore (L1 := [some (rf g 41), some (.int x1), some (.int s.1), some (.int s.2.1), some (.int s.2.2), some (.int ((0 : Int32))), some (.int ((0 : Int32)))]) S dX0_withMostPoints_46 (by decide) rfl ?_
      obtain ⟨p4, e4, h⟩ := bn h
      have hE4 : V 86 [some (rf g 41), some (.int x1), some (.int s.1), some (.int s.2.1), some (.int s.2.2), some (.int p4), none] [] w := by
        refine i_iload S dX0_withMostPoints_86 rfl ?_
        refine i_iload_n S dX0_withMostPoints_88 rfl ?_
        refine i_icmp_le (tgt := 98) S dX0_withMostPoints_89 (by decide) (fun q5 => ?_) (fun q5 => ?_)
        · replace h := (if_pos q5).symm.trans h
          refine i_mask (L1 := [some (rf g 41), some (.int x1), some (.int s.1), some (.int s.2.1), some (.int s.2.2), none, none]) S [true, true, true, true, true, false, false] rfl ?_
          have hz := hj3 _ (Option.some.inj h).symm
          exact hz
        · replace h := (if_neg q5).symm.trans h
          refine i_iload S dX0_withMostPoints_92 rfl ?_
          refine i_istore_n (L1 := [some (rf g 41), some (.int x1), some (.int s.2.2), some (.int s.2.1), some (.int s.2.2), some (.int p4), none]) S dX0_withMostPoints_94 (by decide) rfl ?_
          refine i_iload S dX0_withMostPoints_95 rfl ?_
          refine i_istore_n (L1 := [some (rf g 41), some (.int x1), some (.int s.2.2), some (.int p4), some (.int s.2.2), some (.int p4), none]) S dX0_withMostPoints_97 (by decide) rfl ?_
          refine i_mask (L1 := [some (rf g 41), some (.int x1), some (.int s.2.2), some (.int p4), some (.int s.2.2), none, none]) S [true, true, true, true, true, false, false] rfl ?_
          have hz := hj3 _ (Option.some.inj h).symm
          exact hz
      exact wh_V (P := fun sv4 => V 48 [some (rf g 41), some (.int x1), some (.int s.1), some (.int s.2.1), some (.int s.2.2), some (.int sv4.1), some (.int sv4.2)] [] w) (E := fun xv4 => V 86 [some (rf g 41), some (.int x1), some (.int s.1), some (.int s.2.1), some (.int s.2.2), some (.int xv4), none] [] w) (fun sv4 ev hb hc he => t_l_X0_withMostPoints_48 (w := w)  S hL sv4 ev hb hc he) FUEL _ _ e4 hE4
set_option maxHeartbeats 4000000 in
set_option maxRecDepth 100000 in
theorem c_X0_withMostPoints (g : Gx) (d : Nat)  {w : Mm} {p : Int32} (hL : Lay w) (h : f_X0_withMostPoints w = some p) : Call g (d + 2) yX0_withMostPoints cX0_withMostPoints 7 (some .int) [rf g 41] w (some (.int p)) w := by
  refine call_of (L0 := [some (rf g 41), none, none, none, none, none, none]) (by decide) rfl (Nat.le_of_ble_eq_true rfl) (fun V S0 => ?_)
  have S := S0.b
  unfold f_X0_withMostPoints at h
  refine i_aload_n S dX0_withMostPoints_0 rfl ?_
  refine i_getR S fl_X0_19 (k41 hL) (r41_0 hL) rfl dX0_withMostPoints_1 ?_
  refine i_getIv (v := gI w 1 5) S fl_X0_31 (k1 hL) rfl rfl dX0_withMostPoints_4 ?_
  refine i_callS (As := [.int (gI w 1 5)]) (st1 := [.int (f_J6_bitCount_0f7a4 (gI w 1 5))]) S (c_J6_bitCount_0f7a4 g d rfl) mw_J6_bitCount_0f7a4 lk_X0_86 im_J6_bitCount_0f7a4 dX0_withMostPoints_7 rfl rfl (Nat.le_of_ble_eq_true rfl) rfl ?_
  refine i_iconst (v := 1) S dX0_withMostPoints_10 ic_1 ?_
  refine i_isub S dX0_withMostPoints_11 ?_
  refine i_istore_n (L1 := [some (rf g 41), some (.int ((f_J6_bitCount_0f7a4 (gI w 1 5)) - (1 : Int32))), none, none, none, none, none]) S dX0_withMostPoints_12 (by decide) rfl ?_
  refine i_iconst (v := -1) S dX0_withMostPoints_13 ic_m1 ?_
  refine i_istore_n (L1 := [some (rf g 41), some (.int ((f_J6_bitCount_0f7a4 (gI w 1 5)) - (1 : Int32))), some (.int ((-1 : Int32))), none, none, none, none]) S dX0_withMostPoints_14 (by decide) rfl ?_
  refine i_iconst (v := -1) S dX0_withMostPoints_15 ic_m1 ?_
  refine i_istore_n (L1 := [some (rf g 41), some (.int ((f_J6_bitCount_0f7a4 (gI w 1 5)) - (1 : Int32))), some (.int ((-1 : Int32))), some (.int ((-1 : Int32))), none, none, none]) S dX0_withMostPoints_16 (by decide) rfl ?_
  refine i_iconst (v := 0) S dX0_withMostPoints_17 ic_0 ?_
  refine i_istore (L1 := [some (rf g 41), some (.int ((f_J6_bitCount_0f7a4 (gI w 1 5)) - (1 : Int32))), some (.int ((-1 : Int32))), some (.int ((-1 : Int32))), some (.int ((0 : Int32))), none, none]) S dX0_withMostPoints_18 (by decide) rfl ?_
  obtain ⟨p1, e1, h⟩ := bn h
  have hE1 : V 104 [none, none, some (.int p1), none, none, none, none] [] w := by
    refine i_iload_n S dX0_withMostPoints_104 rfl ?_
    cases h
    exact i_iret S0 rfl dX0_withMostPoints_105
  exact wh_V (P := fun sv1 => V 20 [some (rf g 41), some (.int ((f_J6_bitCount_0f7a4 (gI w 1 5)) - (1 : Int32))), some (.int sv1.1), some (.int sv1.2.1), some (.int sv1.2.2), none, none] [] w) (E := fun xv1 => V 104 [none, none, some (.int xv1), none, none, none, none] [] w) (fun sv1 ev hb hc he => t_l_X0_withMostPoints_20 (w := w)  S hL sv1 ev hb hc he) FUEL _ _ e1 hE1
/-! WordYear$Ballot.elect -/
noncomputable def l_X0_elect_2 (x1 : Int32) (s : Int32 × Mm) : Option ((Int32 × Mm) ⊕ (Mm)) := if (4 : Int32) ≤ s.1 then (some (.inr s.2)) else (onL s.2 (Option.bind (f_X0_rank s.1 s.2) (fun p3 => some (.inl (s.1 + (1 : Int32), p3)))))
noncomputable def f_X0_elect (x1 : Int32) (w : Mm) : Option (Int32 × Mm) := Option.bind (wh (l_X0_elect_2 x1) FUEL ((0 : Int32), w)) (fun p1 => if x1 = 0 then (onL p1 (Option.bind (f_X0_firstWithMost (-1 : Int32) p1) (fun p4 => some (p4, p1)))) else (if x1 = 1 then (onL p1 (Option.bind (f_X0_runoff p1) (fun p7 => some (p7, p1)))) else (if x1 = 2 then (onL p1 (Option.bind (f_X0_withMostPoints p1) (fun p10 => some (p10, p1)))) else (onL p1 (Option.bind (f_X0_aheadOfAll p1) (fun p12 => some (p12, p1)))))))
set_option maxHeartbeats 4000000 in
set_option maxRecDepth 100000 in
theorem t_l_X0_elect_2 {g : Gx} {V : Vt} {d : Nat} (S : MachB g yX0_elect cX0_elect 3 (d + 6) V) {x1 : Int32}  (s : Int32 × Mm) (e : (Int32 × Mm) ⊕ (Mm)) (h : l_X0_elect_2 x1 s = some e) (hC : ∀ s2, e = .inl s2 → V 2 [some (rf g 41), some (.int x1), some (.int s2.1)] [] s2.2) (hE : ∀ x, e = .inr x → V 18 [some (rf g 41), some (.int x1), none] [] x) : V 2 [some (rf g 41), some (.int x1), some (.int s.1)] [] s.2 := by
  unfold l_X0_elect_2 at h
  refine i_iload_n S dX0_elect_2 rfl ?_
  refine i_iconst (v := 4) S dX0_elect_3 ic_4 ?_
  refine i_icmp_ge (tgt := 18) S dX0_elect_4 (by decide) (fun q1 => ?_) (fun q1 => ?_)
  · replace h := (if_pos q1).symm.trans h
    refine i_mask (L1 := [some (rf g 41), some (.int x1), none]) S [true, true, false] rfl ?_
    have hz := hE _ (Option.some.inj h).symm
    exact hz
  · replace h := (if_neg q1).symm.trans h
    refine i_aload_n S dX0_elect_7 rfl ?_
    refine i_iload_n S dX0_elect_8 rfl ?_
    obtain ⟨hL2, h⟩ := onLn h
    obtain ⟨p3, e3, h⟩ := bn h
    refine i_callV (As := [.int s.1]) (st1 := []) S (c_X0_rank g d hL2 e3) mw_X0_rank lk_X0_57 im_X0_rank se_X0_rank ci_0.1 ci_0.2.1 (k41 hL2) dX0_elect_9 rfl rfl (Nat.le_of_ble_eq_true rfl) rfl ?_
    refine i_iinc (L1 := [some (rf g 41), some (.int x1), some (.int (s.1 + (1 : Int32)))]) S dX0_elect_12 rfl ic_1 (by decide) rfl ?_
    refine i_goto (tgt := 2) S dX0_elect_15 (by decide) ?_
    have hz := hC _ (Option.some.inj h).symm
    exact hz
set_option maxHeartbeats 4000000 in
set_option maxRecDepth 100000 in
theorem c_X0_elect (g : Gx) (d : Nat) {x1 : Int32} {w : Mm} {p : (Int32 × Mm)} (hL : Lay w) (h : f_X0_elect x1 w = some p) : Call g (d + 7) yX0_elect cX0_elect 3 (some .int) [rf g 41, .int x1] w (some (.int p.1)) p.2 := by
  refine call_of (L0 := [some (rf g 41), some (.int x1), none]) (by decide) rfl (Nat.le_of_ble_eq_true rfl) (fun V S0 => ?_)
  have S := S0.b
  unfold f_X0_elect at h
  refine i_iconst (v := 0) S dX0_elect_0 ic_0 ?_
  refine i_istore_n (L1 := [some (rf g 41), some (.int x1), some (.int ((0 : Int32)))]) S dX0_elect_1 (by decide) rfl ?_
  obtain ⟨p1, e1, h⟩ := bn h
  have hE1 : V 18 [some (rf g 41), some (.int x1), none] [] p1 := by
    refine i_iload_n S dX0_elect_18 rfl ?_
    by_cases q2 : x1 = 0
    · replace h := (if_pos q2).symm.trans h
      refine i_tswIn (tgt := 44) (off := 25) S dX0_elect_19 (by rw [q2]; decide) (by rw [q2]; decide) (by rw [q2]; decide) (by decide) ?_
      refine i_aload_n S dX0_elect_44 rfl ?_
      refine i_iconst (v := -1) S dX0_elect_45 ic_m1 ?_
      obtain ⟨hL3, h⟩ := onLn h
      obtain ⟨p4, e4, h⟩ := bn h
      refine i_callV (As := [.int ((-1 : Int32))]) (st1 := [.int p4]) S (c_X0_firstWithMost g (d + 4) hL3 e4) mw_X0_firstWithMost lk_X0_61 im_X0_firstWithMost se_X0_firstWithMost ci_0.1 ci_0.2.1 (k41 hL3) dX0_elect_46 rfl rfl (Nat.le_of_ble_eq_true rfl) rfl ?_
      cases h
      exact i_iret S0 rfl dX0_elect_49
    · replace h := (if_neg q2).symm.trans h
      by_cases q5 : x1 = 1
      · replace h := (if_pos q5).symm.trans h
        refine i_tswIn (tgt := 50) (off := 31) S dX0_elect_19 (by rw [q5]; decide) (by rw [q5]; decide) (by rw [q5]; decide) (by decide) ?_
        refine i_aload_n S dX0_elect_50 rfl ?_
        obtain ⟨hL6, h⟩ := onLn h
        obtain ⟨p7, e7, h⟩ := bn h
        refine i_callV (As := []) (st1 := [.int p7]) S (c_X0_runoff g (d + 3) hL6 e7) mw_X0_runoff lk_X0_65 im_X0_runoff se_X0_runoff ci_0.1 ci_0.2.1 (k41 hL6) dX0_elect_51 rfl rfl (Nat.le_of_ble_eq_true rfl) rfl ?_
        cases h
        exact i_iret S0 rfl dX0_elect_54
      · replace h := (if_neg q5).symm.trans h
        by_cases q8 : x1 = 2
        · replace h := (if_pos q8).symm.trans h
          refine i_tswIn (tgt := 55) (off := 36) S dX0_elect_19 (by rw [q8]; decide) (by rw [q8]; decide) (by rw [q8]; decide) (by decide) ?_
          refine i_aload_n S dX0_elect_55 rfl ?_
          obtain ⟨hL9, h⟩ := onLn h
          obtain ⟨p10, e10, h⟩ := bn h
          refine i_callV (As := []) (st1 := [.int p10]) S (c_X0_withMostPoints g (d + 4) hL9 e10) mw_X0_withMostPoints lk_X0_69 im_X0_withMostPoints se_X0_withMostPoints ci_0.1 ci_0.2.1 (k41 hL9) dX0_elect_56 rfl rfl (Nat.le_of_ble_eq_true rfl) rfl ?_
          cases h
          exact i_iret S0 rfl dX0_elect_59
        · replace h := (if_neg q8).symm.trans h
          refine i_tswD (tgt := 60) S dX0_elect_19 (by decide) (fun j hj => match j, hj with | 0, _ => Or.inr (tsne q2 (by decide)) | 1, _ => Or.inr (tsne q5 (by decide)) | 2, _ => Or.inr (tsne q8 (by decide)) | j + 3, hj => absurd hj (by show ¬ j + 3 < 3; omega)) (by decide) ?_
          refine i_aload_n S dX0_elect_60 rfl ?_
          obtain ⟨hL11, h⟩ := onLn h
          obtain ⟨p12, e12, h⟩ := bn h
          refine i_callV (As := []) (st1 := [.int p12]) S (c_X0_aheadOfAll g (d + 3) hL11 e12) mw_X0_aheadOfAll lk_X0_72 im_X0_aheadOfAll se_X0_aheadOfAll ci_0.1 ci_0.2.1 (k41 hL11) dX0_elect_61 rfl rfl (Nat.le_of_ble_eq_true rfl) rfl ?_
          cases h
          exact i_iret S0 rfl dX0_elect_64
  exact wh_V (P := fun sv1 => V 2 [some (rf g 41), some (.int x1), some (.int sv1.1)] [] sv1.2) (E := fun xv1 => V 18 [some (rf g 41), some (.int x1), none] [] xv1) (fun sv1 ev hb hc he => t_l_X0_elect_2   S  sv1 ev hb hc he) FUEL _ _ e1 hE1
/-! WordYear$Demand.<init> -/
noncomputable def f_X1_init (o0 : Nat) (w : Mm) : Option Mm := Option.bind (alq w 20 4) (fun p1 => if gK p1.2 o0 = some (1, 7) then (Option.bind (alq (sR p1.2 o0 0 (some p1.1)) 20 24) (fun p3 => Option.bind (alq (sR p3.2 o0 1 (some p3.1)) 20 24) (fun p4 => Option.bind (alq (sR p4.2 o0 2 (some p4.1)) 20 24) (fun p5 => Option.bind (alq (sR p5.2 o0 3 (some p5.1)) 20 24) (fun p6 => some (sI (sR p6.2 o0 4 (some p6.1)) o0 6 (1000 : Int32))))))) else none)
set_option maxHeartbeats 4000000 in
set_option maxRecDepth 100000 in
theorem c_X1_init (g : Gx) (d : Nat) {o0 : Nat} {w : Mm} {p : Mm}  (h : f_X1_init o0 w = some p) : Call g (d + 1) yX1_init cX1_init 1 none [rf g o0] w none p := by
  refine call_of (L0 := [some (rf g o0)]) (by decide) rfl (Nat.le_of_ble_eq_true rfl) (fun V S0 => ?_)
  have S := S0.b
  unfold f_X1_init at h
  refine i_aload_n S dX1_init_0 rfl ?_
  refine i_objInit S lk_X1_3 im_obj cd_obj dX1_init_1 (Nat.le_of_ble_eq_true rfl) ?_
  refine i_aload_n S dX1_init_4 rfl ?_
  refine i_iconst (v := 4) S dX1_init_5 ic_4 ?_
  obtain ⟨p1, e1, h⟩ := bn h
  refine i_newaqI (N := 4) S ac_int (by decide) (by decide) (by decide) e1 dX1_init_6 ?_
  obtain ⟨hk2, h⟩ := gd h
  refine i_putFR (x := some p1.1) S fl_X1_9 hk2 rfl rfl (fun C T h => ci_d1 h 0 (by decide)) rfl rfl dX1_init_8 ?_
  refine i_aload_n S dX1_init_11 rfl ?_
  refine i_bipush (v := 24) S dX1_init_12 bp_24 ?_
  obtain ⟨p3, e3, h⟩ := bn h
  refine i_newaqI (N := 24) S ac_int (by decide) (by decide) (by decide) e3 dX1_init_14 ?_
  refine i_putFR (x := some p3.1) S fl_X1_15 (alq_old e3 hk2) rfl rfl (fun C T h => ci_d1 h 1 (by decide)) rfl rfl dX1_init_16 ?_
  refine i_aload_n S dX1_init_19 rfl ?_
  refine i_bipush (v := 24) S dX1_init_20 bp_24 ?_
  obtain ⟨p4, e4, h⟩ := bn h
  refine i_newaqI (N := 24) S ac_int (by decide) (by decide) (by decide) e4 dX1_init_22 ?_
  refine i_putFR (x := some p4.1) S fl_X1_18 (alq_old e4 (alq_old e3 hk2)) rfl rfl (fun C T h => ci_d1 h 2 (by decide)) rfl rfl dX1_init_24 ?_
  refine i_aload_n S dX1_init_27 rfl ?_
  refine i_bipush (v := 24) S dX1_init_28 bp_24 ?_
  obtain ⟨p5, e5, h⟩ := bn h
  refine i_newaqI (N := 24) S ac_int (by decide) (by decide) (by decide) e5 dX1_init_30 ?_
  refine i_putFR (x := some p5.1) S fl_X1_21 (alq_old e5 (alq_old e4 (alq_old e3 hk2))) rfl rfl (fun C T h => ci_d1 h 3 (by decide)) rfl rfl dX1_init_32 ?_
  refine i_aload_n S dX1_init_35 rfl ?_
  refine i_bipush (v := 24) S dX1_init_36 bp_24 ?_
  obtain ⟨p6, e6, h⟩ := bn h
  refine i_newaqI (N := 24) S ac_int (by decide) (by decide) (by decide) e6 dX1_init_38 ?_
  refine i_putFR (x := some p6.1) S fl_X1_24 (alq_old e6 (alq_old e5 (alq_old e4 (alq_old e3 hk2)))) rfl rfl (fun C T h => ci_d1 h 4 (by decide)) rfl rfl dX1_init_40 ?_
  refine i_aload_n S dX1_init_43 rfl ?_
  refine i_sipush (v := 1000) S dX1_init_44 sp_1000 ?_
  refine i_putI S fl_X1_27 (alq_old e6 (alq_old e5 (alq_old e4 (alq_old e3 hk2)))) rfl rfl rfl dX1_init_47 ?_
  cases h
  exact i_vret S0 dX1_init_50
/-! WordYear$Demand.add -/
noncomputable def f_X1_add (x1 : Int32) (x2 : Int32) (x3 : Int32) (x4 : Int32) (w : Mm) : Option (Int32 × Mm) := if (gI w 6 5) < 0 then (some ((-1 : Int32), w)) else (if (gI w 6 5) < (24 : Int32) then (if inb (gI w 6 5) 24 = true then (some (((gI w 6 5) + (1 : Int32)) - (1 : Int32), sI (sI (sI (sI (sI w 8 (ix (gI w 6 5)) x1) 9 (ix (gI w 6 5)) x2) 10 (ix (gI w 6 5)) x3) 11 (ix (gI w 6 5)) x4) 6 5 ((gI w 6 5) + (1 : Int32)))) else none) else (some ((-1 : Int32), w)))
set_option maxHeartbeats 4000000 in
set_option maxRecDepth 100000 in
theorem c_X1_add (g : Gx) (d : Nat) {x1 : Int32} {x2 : Int32} {x3 : Int32} {x4 : Int32} {w : Mm} {p : (Int32 × Mm)} (hL : Lay w) (h : f_X1_add x1 x2 x3 x4 w = some p) : Call g (d + 1) yX1_add cX1_add 5 (some .int) [rf g 6, .int x1, .int x2, .int x3, .int x4] w (some (.int p.1)) p.2 := by
  refine call_of (L0 := [some (rf g 6), some (.int x1), some (.int x2), some (.int x3), some (.int x4)]) (by decide) rfl (Nat.le_of_ble_eq_true rfl) (fun V S0 => ?_)
  have S := S0.b
  unfold f_X1_add at h
  refine i_aload_n S dX1_add_0 rfl ?_
  refine i_getIv (v := gI w 6 5) S fl_X1_31 (k6 hL) rfl rfl dX1_add_1 ?_
  refine i_if_lt (tgt := 16) S dX1_add_4 (by decide) (fun q1 => ?_) (fun q1 => ?_)
  · replace h := (if_pos q1).symm.trans h
    refine i_iconst (v := -1) S dX1_add_16 ic_m1 ?_
    cases h
    exact i_iret S0 rfl dX1_add_17
  · replace h := (if_neg q1).symm.trans h
    refine i_aload_n S dX1_add_7 rfl ?_
    refine i_getIv (v := gI w 6 5) S fl_X1_31 (k6 hL) rfl rfl dX1_add_8 ?_
    refine i_bipush (v := 24) S dX1_add_11 bp_24 ?_
    refine i_icmp_lt (tgt := 18) S dX1_add_13 (by decide) (fun q2 => ?_) (fun q2 => ?_)
    · replace h := (if_pos q2).symm.trans h
      refine i_aload_n S dX1_add_18 rfl ?_
      refine i_getR S fl_X1_15 (k6 hL) (r6_1 hL) rfl dX1_add_19 ?_
      refine i_aload_n S dX1_add_22 rfl ?_
      refine i_getIv (v := gI w 6 5) S fl_X1_31 (k6 hL) rfl rfl dX1_add_23 ?_
      refine i_iload_n S dX1_add_26 rfl ?_
      obtain ⟨hi4, h⟩ := gd h
      refine i_iast S (k8 hL) hi4 dX1_add_27 ?_
      refine i_aload_n S dX1_add_28 rfl ?_
      refine i_getR S fl_X1_18 (k6 hL) (r6_2 hL) rfl dX1_add_29 ?_
      refine i_aload_n S dX1_add_32 rfl ?_
      refine i_getIv (v := gI w 6 5) S fl_X1_31 (k6 hL) rfl rfl dX1_add_33 ?_
      refine i_iload_n S dX1_add_36 rfl ?_
      refine i_iast S (k9 hL) hi4 dX1_add_37 ?_
      refine i_aload_n S dX1_add_38 rfl ?_
      refine i_getR S fl_X1_21 (k6 hL) (r6_3 hL) rfl dX1_add_39 ?_
      refine i_aload_n S dX1_add_42 rfl ?_
      refine i_getIv (v := gI w 6 5) S fl_X1_31 (k6 hL) rfl rfl dX1_add_43 ?_
      refine i_iload_n S dX1_add_46 rfl ?_
      refine i_iast S (k10 hL) hi4 dX1_add_47 ?_
      refine i_aload_n S dX1_add_48 rfl ?_
      refine i_getR S fl_X1_24 (k6 hL) (r6_4 hL) rfl dX1_add_49 ?_
      refine i_aload_n S dX1_add_52 rfl ?_
      refine i_getIv (v := gI w 6 5) S fl_X1_31 (k6 hL) rfl rfl dX1_add_53 ?_
      refine i_iload S dX1_add_56 rfl ?_
      refine i_iast S (k11 hL) hi4 dX1_add_58 ?_
      refine i_aload_n S dX1_add_59 rfl ?_
      refine i_dup S dX1_add_60 rfl ?_
      refine i_getIv (v := gI w 6 5) S fl_X1_31 (k6 hL) rfl rfl dX1_add_61 ?_
      refine i_iconst (v := 1) S dX1_add_64 ic_1 ?_
      refine i_iadd S dX1_add_65 ?_
      refine i_putI S fl_X1_31 (k6 hL) rfl rfl rfl dX1_add_66 ?_
      refine i_aload_n S dX1_add_69 rfl ?_
      refine i_getIv (v := (gI w 6 5) + (1 : Int32)) S fl_X1_31 (k6 hL) rfl rfl dX1_add_70 ?_
      refine i_iconst (v := 1) S dX1_add_73 ic_1 ?_
      refine i_isub S dX1_add_74 ?_
      cases h
      exact i_iret S0 rfl dX1_add_75
    · replace h := (if_neg q2).symm.trans h
      refine i_iconst (v := -1) S dX1_add_16 ic_m1 ?_
      cases h
      exact i_iret S0 rfl dX1_add_17
/-! WordYear$Dictionary.<init> -/
noncomputable def f_X2_init (o0 : Nat) (o1 : Nat) (o2 : Nat) (w : Mm) : Option Mm := Option.bind (alq w 20 10) (fun p1 => if gK p1.2 o0 = some (2, 3) then (some (sR (sR (sR p1.2 o0 2 (some p1.1)) o0 0 (some o1)) o0 1 (some o2))) else none)
set_option maxHeartbeats 4000000 in
set_option maxRecDepth 100000 in
theorem c_X2_init (g : Gx) (d : Nat) {o0 : Nat} {o1 : Nat} {o2 : Nat} {w : Mm} {p : Mm}  (h : f_X2_init o0 o1 o2 w = some p) : Call g (d + 1) yX2_init cX2_init 3 none [rf g o0, rf g o1, rf g o2] w none p := by
  refine call_of (L0 := [some (rf g o0), some (rf g o1), some (rf g o2)]) (by decide) rfl (Nat.le_of_ble_eq_true rfl) (fun V S0 => ?_)
  have S := S0.b
  unfold f_X2_init at h
  refine i_aload_n S dX2_init_0 rfl ?_
  refine i_objInit S lk_X2_3 im_obj cd_obj dX2_init_1 (Nat.le_of_ble_eq_true rfl) ?_
  refine i_aload_n S dX2_init_4 rfl ?_
  refine i_bipush (v := 10) S dX2_init_5 bp_10 ?_
  obtain ⟨p1, e1, h⟩ := bn h
  refine i_newaqI (N := 10) S ac_int (by decide) (by decide) (by decide) e1 dX2_init_7 ?_
  obtain ⟨hk2, h⟩ := gd h
  refine i_putFR (x := some p1.1) S fl_X2_9 hk2 rfl rfl (fun C T h => ci_d2 h 2 (by decide)) rfl rfl dX2_init_9 ?_
  refine i_aload_n S dX2_init_12 rfl ?_
  refine i_aload_n S dX2_init_13 rfl ?_
  refine i_putFR (x := some o1) S fl_X2_15 hk2 rfl rfl (fun C T h => ci_d2 h 0 (by decide)) rfl rfl dX2_init_14 ?_
  refine i_aload_n S dX2_init_17 rfl ?_
  refine i_aload_n S dX2_init_18 rfl ?_
  refine i_putFR (x := some o2) S fl_X2_19 hk2 rfl rfl (fun C T h => ci_d2 h 1 (by decide)) rfl rfl dX2_init_19 ?_
  cases h
  exact i_vret S0 dX2_init_22
/-! WordYear.mannerFirst -/
noncomputable def f_X11_mannerFirst (x0 : Int32) : Int32 := (x0 >>> ((6 : Int32) &&& 31)) &&& (63 : Int32)
set_option maxHeartbeats 4000000 in
set_option maxRecDepth 100000 in
theorem c_X11_mannerFirst (g : Gx) (d : Nat) {x0 : Int32} {w : Mm} {p : Int32}  (h : f_X11_mannerFirst x0 = p) : Call g (d + 1) yX11_mannerFirst cX11_mannerFirst 1 (some .int) [.int x0] w (some (.int p)) w := by
  refine call_of (L0 := [some (.int x0)]) (by decide) rfl (Nat.le_of_ble_eq_true rfl) (fun V S0 => ?_)
  have S := S0.b
  unfold f_X11_mannerFirst at h
  refine i_iload_n S dX11_mannerFirst_0 rfl ?_
  refine i_bipush (v := 6) S dX11_mannerFirst_1 bp_6 ?_
  refine i_ishr S dX11_mannerFirst_3 ?_
  refine i_bipush (v := 63) S dX11_mannerFirst_4 bp_63 ?_
  refine i_iand S dX11_mannerFirst_6 ?_
  subst h
  exact i_iret S0 rfl dX11_mannerFirst_7
/-! WordYear.mannerKind -/
noncomputable def f_X11_mannerKind (x0 : Int32) : Int32 := x0 >>> ((12 : Int32) &&& 31)
set_option maxHeartbeats 4000000 in
set_option maxRecDepth 100000 in
theorem c_X11_mannerKind (g : Gx) (d : Nat) {x0 : Int32} {w : Mm} {p : Int32}  (h : f_X11_mannerKind x0 = p) : Call g (d + 1) yX11_mannerKind cX11_mannerKind 1 (some .int) [.int x0] w (some (.int p)) w := by
  refine call_of (L0 := [some (.int x0)]) (by decide) rfl (Nat.le_of_ble_eq_true rfl) (fun V S0 => ?_)
  have S := S0.b
  unfold f_X11_mannerKind at h
  refine i_iload_n S dX11_mannerKind_0 rfl ?_
  refine i_bipush (v := 12) S dX11_mannerKind_1 bp_12 ?_
  refine i_ishr S dX11_mannerKind_3 ?_
  subst h
  exact i_iret S0 rfl dX11_mannerKind_4
/-! WordYear.mannerSecond -/
noncomputable def f_X11_mannerSecond (x0 : Int32) : Int32 := x0 &&& (63 : Int32)
set_option maxHeartbeats 4000000 in
set_option maxRecDepth 100000 in
theorem c_X11_mannerSecond (g : Gx) (d : Nat) {x0 : Int32} {w : Mm} {p : Int32}  (h : f_X11_mannerSecond x0 = p) : Call g (d + 1) yX11_mannerSecond cX11_mannerSecond 1 (some .int) [.int x0] w (some (.int p)) w := by
  refine call_of (L0 := [some (.int x0)]) (by decide) rfl (Nat.le_of_ble_eq_true rfl) (fun V S0 => ?_)
  have S := S0.b
  unfold f_X11_mannerSecond at h
  refine i_iload_n S dX11_mannerSecond_0 rfl ?_
  refine i_bipush (v := 63) S dX11_mannerSecond_1 bp_63 ?_
  refine i_iand S dX11_mannerSecond_3 ?_
  subst h
  exact i_iret S0 rfl dX11_mannerSecond_4
/-! WordYear$Dictionary.lowestOf -/
noncomputable def l_X2_lowestOf_2 (x0 : Int64) (s : Int32) : Option ((Int32) ⊕ (Nat × Int32)) := if (64 : Int32) ≤ s then (some (.inr (0, 0))) else (if ((x0 >>> (s.toInt64 &&& 63)) &&& (1 : Int64)) = (1 : Int64) then (some (.inr (1, s))) else (some (.inl (s + (1 : Int32)))))
noncomputable def f_X2_lowestOf (x0 : Int64) : Option Int32 := Option.bind (wh (l_X2_lowestOf_2 x0) FUEL (0 : Int32)) (fun p1 => if p1.1 = 0 then (some (0 : Int32)) else (some p1.2))
set_option maxHeartbeats 4000000 in
set_option maxRecDepth 100000 in
theorem t_l_X2_lowestOf_2 {g : Gx} {V : Vt} {d : Nat} (S : MachB g yX2_lowestOf cX2_lowestOf 3 (d) V) {x0 : Int64} {w : Mm}  (s : Int32) (e : (Int32) ⊕ (Nat × Int32)) (h : l_X2_lowestOf_2 x0 s = some e) (hC : ∀ s2, e = .inl s2 → V 2 [some (.long x0), none, some (.int s2)] [] w) (hE : ∀ x, e = .inr x → if x.1 = 0 then V 26 [none, none, none] [] w else (V 18 [none, none, some (.int x.2)] [] w)) : V 2 [some (.long x0), none, some (.int s)] [] w := by
  unfold l_X2_lowestOf_2 at h
  refine i_iload_n S dX2_lowestOf_2 rfl ?_
  refine i_bipush (v := 64) S dX2_lowestOf_3 bp_64 ?_
  refine i_icmp_ge (tgt := 26) S dX2_lowestOf_5 (by decide) (fun q1 => ?_) (fun q1 => ?_)
  · replace h := (if_pos q1).symm.trans h
    refine i_mask (L1 := [none, none, none]) S [false, false, false] rfl ?_
    have hz := hE _ (Option.some.inj h).symm
    exact hz
  · replace h := (if_neg q1).symm.trans h
    refine i_lload_n S dX2_lowestOf_8 rfl ?_
    refine i_iload_n S dX2_lowestOf_9 rfl ?_
    refine i_lshr S dX2_lowestOf_10 ?_
    refine i_lconst (v := 1) S dX2_lowestOf_11 lc_1 ?_
    refine i_land S dX2_lowestOf_12 ?_
    refine i_lconst (v := 1) S dX2_lowestOf_13 lc_1 ?_
    refine i_lc_ne (tgt := 20) S dX2_lowestOf_14 dX2_lowestOf_15 (by decide) (fun q2 => ?_) (fun q2 => ?_)
    · replace h := (if_neg q2).symm.trans h
      refine i_iinc (L1 := [some (.long x0), none, some (.int (s + (1 : Int32)))]) S dX2_lowestOf_20 rfl ic_1 (by decide) rfl ?_
      refine i_goto (tgt := 2) S dX2_lowestOf_23 (by decide) ?_
      have hz := hC _ (Option.some.inj h).symm
      exact hz
    · replace h := (if_pos q2).symm.trans h
      refine i_mask (L1 := [none, none, some (.int s)]) S [false, false, true] rfl ?_
      have hz := hE _ (Option.some.inj h).symm
      exact hz
set_option maxHeartbeats 4000000 in
set_option maxRecDepth 100000 in
theorem c_X2_lowestOf (g : Gx) (d : Nat) {x0 : Int64} {w : Mm} {p : Int32}  (h : f_X2_lowestOf x0 = some p) : Call g (d + 1) yX2_lowestOf cX2_lowestOf 3 (some .int) [.long x0] w (some (.int p)) w := by
  refine call_of (L0 := [some (.long x0), none, none]) (by decide) rfl (Nat.le_of_ble_eq_true rfl) (fun V S0 => ?_)
  have S := S0.b
  unfold f_X2_lowestOf at h
  refine i_iconst (v := 0) S dX2_lowestOf_0 ic_0 ?_
  refine i_istore_n (L1 := [some (.long x0), none, some (.int ((0 : Int32)))]) S dX2_lowestOf_1 (by decide) rfl ?_
  obtain ⟨p1, e1, h⟩ := bn h
  have hE1 : if p1.1 = 0 then V 26 [none, none, none] [] w else (V 18 [none, none, some (.int p1.2)] [] w) := by
    by_cases hx1_0 : p1.1 = 0
    · rw [if_pos hx1_0]
      replace h := (if_pos hx1_0).symm.trans h
      refine i_iconst (v := 0) S dX2_lowestOf_26 ic_0 ?_
      cases h
      exact i_iret S0 rfl dX2_lowestOf_27
    · rw [if_neg hx1_0]
      replace h := (if_neg hx1_0).symm.trans h
      refine i_iload_n S dX2_lowestOf_18 rfl ?_
      cases h
      exact i_iret S0 rfl dX2_lowestOf_19
  exact wh_V (P := fun sv1 => V 2 [some (.long x0), none, some (.int sv1)] [] w) (E := fun xv1 => if xv1.1 = 0 then V 26 [none, none, none] [] w else (V 18 [none, none, some (.int xv1.2)] [] w)) (fun sv1 ev hb hc he => t_l_X2_lowestOf_2   S  sv1 ev hb hc he) FUEL _ _ e1 hE1
/-! WordYear.packManner -/
noncomputable def f_X11_packManner (x0 : Int32) (x1 : Int32) (x2 : Int32) : Int32 := ((x0 <<< ((12 : Int32) &&& 31)) ||| (x1 <<< ((6 : Int32) &&& 31))) ||| x2
set_option maxHeartbeats 4000000 in
set_option maxRecDepth 100000 in
theorem c_X11_packManner (g : Gx) (d : Nat) {x0 : Int32} {x1 : Int32} {x2 : Int32} {w : Mm} {p : Int32}  (h : f_X11_packManner x0 x1 x2 = p) : Call g (d + 1) yX11_packManner cX11_packManner 3 (some .int) [.int x0, .int x1, .int x2] w (some (.int p)) w := by
  refine call_of (L0 := [some (.int x0), some (.int x1), some (.int x2)]) (by decide) rfl (Nat.le_of_ble_eq_true rfl) (fun V S0 => ?_)
  have S := S0.b
  unfold f_X11_packManner at h
  refine i_iload_n S dX11_packManner_0 rfl ?_
  refine i_bipush (v := 12) S dX11_packManner_1 bp_12 ?_
  refine i_ishl S dX11_packManner_3 ?_
  refine i_iload_n S dX11_packManner_4 rfl ?_
  refine i_bipush (v := 6) S dX11_packManner_5 bp_6 ?_
  refine i_ishl S dX11_packManner_7 ?_
  refine i_ior S dX11_packManner_8 ?_
  refine i_iload_n S dX11_packManner_9 rfl ?_
  refine i_ior S dX11_packManner_10 ?_
  subst h
  exact i_iret S0 rfl dX11_packManner_11
/-! WordYear$Speech.pairOf -/
noncomputable def l_X7_pairOf_66 (o0 : Nat) (x1 : Int32) (x2 : Int32) (x3 : Int32) (x4 : Int32) (w : Mm) (s : Int32) : Option ((Int32) ⊕ (Nat × Int32)) := if (64 : Int32) ≤ s then (some (.inr (0, 0))) else (Option.bind (if x1 = (2 : Int32) then (some (x4 &&& s)) else (some (x4 ||| s))) (fun p3 => mg (if p3 = x2 then (if inb x4 64 = true then (if inb s 64 = true then (if ((gI w (o0 + 1) (ix x4)) + (gI w (o0 + 1) (ix s))) = x3 then (some (.inr (.inr (1, s)))) else (some (.inl ()))) else none) else none) else (some (.inl ()))) (fun p5 => some (.inl (s + (1 : Int32))))))
noncomputable def l_X7_pairOf_3 (o0 : Nat) (x1 : Int32) (x2 : Int32) (x3 : Int32) (w : Mm) (s : Int32) : Option ((Int32) ⊕ (Nat × Int32 × Int32)) := if (64 : Int32) ≤ s then (some (.inr (0, 0, 0))) else (Option.bind (if x1 = (2 : Int32) then (if (s &&& x2) = x2 then (some (1 : Int32)) else (some (0 : Int32))) else (if (s ||| x2) = x2 then (some (1 : Int32)) else (some (0 : Int32)))) (fun p3 => mg (if p3 = 0 then (some (.inl ())) else (if inb s 64 = true then (if x3 ≤ (gI w (o0 + 1) (ix s)) then (some (.inl ())) else (Option.bind (wh (l_X7_pairOf_66 o0 x1 x2 x3 s w) FUEL s) (fun p9 => if p9.1 = 0 then (some (.inl ())) else (some (.inr (.inr (1, s, p9.2))))))) else none)) (fun p5 => some (.inl (s + (1 : Int32))))))
noncomputable def f_X7_pairOf (o0 : Nat) (x1 : Int32) (x2 : Int32) (x3 : Int32) (w : Mm) : Option Int32 := Option.bind (wh (l_X7_pairOf_3 o0 x1 x2 x3 w) FUEL (0 : Int32)) (fun p1 => if p1.1 = 0 then (some (-1 : Int32)) else (some (f_X11_packManner x1 p1.2.1 p1.2.2)))
set_option maxHeartbeats 4000000 in
set_option maxRecDepth 100000 in
theorem t_l_X7_pairOf_66 {g : Gx} {V : Vt} {d : Nat} (S : MachB g yX7_pairOf cX7_pairOf 8 (d + 1) V) {o0 : Nat} {x1 : Int32} {x2 : Int32} {x3 : Int32} {x4 : Int32} {w : Mm} (hL : Lay w) (ho0 : isSp w o0 = true) (s : Int32) (e : (Int32) ⊕ (Nat × Int32)) (h : l_X7_pairOf_66 o0 x1 x2 x3 x4 w s = some e) (hC : ∀ s2, e = .inl s2 → V 66 [some (rf g o0), some (.int x1), some (.int x2), some (.int x3), some (.int x4), none, some (.int s2), none] [] w) (hE : ∀ x, e = .inr x → if x.1 = 0 then V 133 [some (rf g o0), some (.int x1), some (.int x2), some (.int x3), some (.int x4), none, none, none] [] w else (V 118 [none, some (.int x1), none, none, some (.int x4), none, some (.int x.2), none] [] w)) : V 66 [some (rf g o0), some (.int x1), some (.int x2), some (.int x3), some (.int x4), none, some (.int s), none] [] w := by
  unfold l_X7_pairOf_66 at h
  refine i_iload S dX7_pairOf_66 rfl ?_
  refine i_bipush (v := 64) S dX7_pairOf_68 bp_64 ?_
  refine i_icmp_ge (tgt := 133) S dX7_pairOf_70 (by decide) (fun q1 => ?_) (fun q1 => ?_)
  · replace h := (if_pos q1).symm.trans h
    refine i_mask (L1 := [some (rf g o0), some (.int x1), some (.int x2), some (.int x3), some (.int x4), none, none, none]) S [true, true, true, true, true, false, false, false] rfl ?_
    have hz := hE _ (Option.some.inj h).symm
    exact hz
  · replace h := (if_neg q1).symm.trans h
    refine i_iload_n S dX7_pairOf_73 rfl ?_
    refine i_iconst (v := 2) S dX7_pairOf_74 ic_2 ?_
    obtain ⟨p3, e3, h⟩ := bn h
    have hj3 : ∀ q3, p3 = q3 → V 91 [some (rf g o0), some (.int x1), some (.int x2), some (.int x3), some (.int x4), none, some (.int s), none] [.int q3] w := by
      intro q3 hq3
      subst hq3
      refine i_istore (L1 := [some (rf g o0), some (.int x1), some (.int x2), some (.int x3), some (.int x4), none, some (.int s), some (.int p3)]) S dX7_pairOf_91 (by decide) rfl ?_
      refine i_iload S dX7_pairOf_93 rfl ?_
      refine i_iload_n S dX7_pairOf_95 rfl ?_
      obtain ⟨s5, e5, hm5, ho5⟩ := mgn h
      have hj5 : ∀ p5, s5 = .inl p5 → V 127 [some (rf g o0), some (.int x1), some (.int x2), some (.int x3), some (.int x4), none, some (.int s), none] [] w := by
        intro p5 ep5
        have h := hm5 p5 ep5
        refine i_iinc (L1 := [some (rf g o0), some (.int x1), some (.int x2), some (.int x3), some (.int x4), none, some (.int (s + (1 : Int32))), none]) S dX7_pairOf_127 rfl ic_1 (by decide) rfl ?_
        refine i_goto (tgt := 66) S dX7_pairOf_130 (by decide) ?_
        have hz := hC _ (Option.some.inj h).symm
        exact hz
      replace h := e5
      clear e5
      refine i_icmp_ne (tgt := 127) S dX7_pairOf_96 (by decide) (fun q4 => ?_) (fun q4 => ?_)
      · replace h := (if_neg q4).symm.trans h
        refine i_mask (L1 := [some (rf g o0), some (.int x1), some (.int x2), some (.int x3), some (.int x4), none, some (.int s), none]) S [true, true, true, true, true, false, true, false] rfl ?_
        have hz := hj5 _ (Option.some.inj h).symm
        exact hz
      · replace h := (if_pos q4).symm.trans h
        refine i_aload_n S dX7_pairOf_99 rfl ?_
        refine i_getR S fl_X7_9 (sp_k0 ho0) (sp_r1 ho0) rfl dX7_pairOf_100 ?_
        refine i_iload S dX7_pairOf_103 rfl ?_
        obtain ⟨hi7, h⟩ := gd h
        refine i_ialdv (v := gI w (o0 + 1) (ix x4)) S (sp_k1 ho0) hi7 rfl dX7_pairOf_105 ?_
        refine i_aload_n S dX7_pairOf_106 rfl ?_
        refine i_getR S fl_X7_9 (sp_k0 ho0) (sp_r1 ho0) rfl dX7_pairOf_107 ?_
        refine i_iload S dX7_pairOf_110 rfl ?_
        obtain ⟨hi9, h⟩ := gd h
        refine i_ialdv (v := gI w (o0 + 1) (ix s)) S (sp_k1 ho0) hi9 rfl dX7_pairOf_112 ?_
        refine i_iadd S dX7_pairOf_113 ?_
        refine i_iload_n S dX7_pairOf_114 rfl ?_
        refine i_icmp_ne (tgt := 127) S dX7_pairOf_115 (by decide) (fun q10 => ?_) (fun q10 => ?_)
        · replace h := (if_neg q10).symm.trans h
          refine i_mask (L1 := [some (rf g o0), some (.int x1), some (.int x2), some (.int x3), some (.int x4), none, some (.int s), none]) S [true, true, true, true, true, false, true, false] rfl ?_
          have hz := hj5 _ (Option.some.inj h).symm
          exact hz
        · replace h := (if_pos q10).symm.trans h
          replace h := ho5 _ (Option.some.inj h).symm
          refine i_mask (L1 := [none, some (.int x1), none, none, some (.int x4), none, some (.int s), none]) S [false, true, false, false, true, false, true, false] rfl ?_
          have hz := hE _ (Option.some.inj h).symm
          exact hz
    replace h := e3
    clear e3
    refine i_icmp_ne (tgt := 86) S dX7_pairOf_75 (by decide) (fun q2 => ?_) (fun q2 => ?_)
    · replace h := (if_neg q2).symm.trans h
      refine i_iload S dX7_pairOf_86 rfl ?_
      refine i_iload S dX7_pairOf_88 rfl ?_
      refine i_ior S dX7_pairOf_90 ?_
      have hz := hj3 _ (Option.some.inj h).symm
      exact hz
    · replace h := (if_pos q2).symm.trans h
      refine i_iload S dX7_pairOf_78 rfl ?_
      refine i_iload S dX7_pairOf_80 rfl ?_
      refine i_iand S dX7_pairOf_82 ?_
      refine i_goto (tgt := 91) S dX7_pairOf_83 (by decide) ?_
      have hz := hj3 _ (Option.some.inj h).symm
      exact hz
set_option maxHeartbeats 4000000 in
set_option maxRecDepth 100000 in
theorem t_l_X7_pairOf_3 {g : Gx} {V : Vt} {d : Nat} (S : MachB g yX7_pairOf cX7_pairOf 8 (d + 1) V) {o0 : Nat} {x1 : Int32} {x2 : Int32} {x3 : Int32} {w : Mm} (hL : Lay w) (ho0 : isSp w o0 = true) (s : Int32) (e : (Int32) ⊕ (Nat × Int32 × Int32)) (h : l_X7_pairOf_3 o0 x1 x2 x3 w s = some e) (hC : ∀ s2, e = .inl s2 → V 3 [some (rf g o0), some (.int x1), some (.int x2), some (.int x3), some (.int s2), none, none, none] [] w) (hE : ∀ x, e = .inr x → if x.1 = 0 then V 139 [none, none, none, none, none, none, none, none] [] w else (V 118 [none, some (.int x1), none, none, some (.int x.2.1), none, some (.int x.2.2), none] [] w)) : V 3 [some (rf g o0), some (.int x1), some (.int x2), some (.int x3), some (.int s), none, none, none] [] w := by
  unfold l_X7_pairOf_3 at h
  refine i_iload S dX7_pairOf_3 rfl ?_
  refine i_bipush (v := 64) S dX7_pairOf_5 bp_64 ?_
  refine i_icmp_ge (tgt := 139) S dX7_pairOf_7 (by decide) (fun q1 => ?_) (fun q1 => ?_)
  · replace h := (if_pos q1).symm.trans h
    refine i_mask (L1 := [none, none, none, none, none, none, none, none]) S [false, false, false, false, false, false, false, false] rfl ?_
    have hz := hE _ (Option.some.inj h).symm
    exact hz
  · replace h := (if_neg q1).symm.trans h
    refine i_iload_n S dX7_pairOf_10 rfl ?_
    refine i_iconst (v := 2) S dX7_pairOf_11 ic_2 ?_
    obtain ⟨p3, e3, h⟩ := bn h
    have hj3 : ∀ q3, p3 = q3 → V 44 [some (rf g o0), some (.int x1), some (.int x2), some (.int x3), some (.int s), none, none, none] [.int q3] w := by
      intro q3 hq3
      subst hq3
      refine i_istore (L1 := [some (rf g o0), some (.int x1), some (.int x2), some (.int x3), some (.int s), some (.int p3), none, none]) S dX7_pairOf_44 (by decide) rfl ?_
      refine i_iload S dX7_pairOf_46 rfl ?_
      obtain ⟨s5, e5, hm5, ho5⟩ := mgn h
      have hj5 : ∀ p5, s5 = .inl p5 → V 133 [some (rf g o0), some (.int x1), some (.int x2), some (.int x3), some (.int s), none, none, none] [] w := by
        intro p5 ep5
        have h := hm5 p5 ep5
        refine i_iinc (L1 := [some (rf g o0), some (.int x1), some (.int x2), some (.int x3), some (.int (s + (1 : Int32))), none, none, none]) S dX7_pairOf_133 rfl ic_1 (by decide) rfl ?_
        refine i_goto (tgt := 3) S dX7_pairOf_136 (by decide) ?_
        have hz := hC _ (Option.some.inj h).symm
        exact hz
      replace h := e5
      clear e5
      refine i_if_eq (tgt := 133) S dX7_pairOf_48 (by decide) (fun q4 => ?_) (fun q4 => ?_)
      · replace h := (if_pos q4).symm.trans h
        refine i_mask (L1 := [some (rf g o0), some (.int x1), some (.int x2), some (.int x3), some (.int s), none, none, none]) S [true, true, true, true, true, false, false, false] rfl ?_
        have hz := hj5 _ (Option.some.inj h).symm
        exact hz
      · replace h := (if_neg q4).symm.trans h
        refine i_aload_n S dX7_pairOf_51 rfl ?_
        refine i_getR S fl_X7_9 (sp_k0 ho0) (sp_r1 ho0) rfl dX7_pairOf_52 ?_
        refine i_iload S dX7_pairOf_55 rfl ?_
        obtain ⟨hi7, h⟩ := gd h
        refine i_ialdv (v := gI w (o0 + 1) (ix s)) S (sp_k1 ho0) hi7 rfl dX7_pairOf_57 ?_
        refine i_iload_n S dX7_pairOf_58 rfl ?_
        refine i_icmp_ge (tgt := 133) S dX7_pairOf_59 (by decide) (fun q8 => ?_) (fun q8 => ?_)
        · replace h := (if_pos q8).symm.trans h
          refine i_mask (L1 := [some (rf g o0), some (.int x1), some (.int x2), some (.int x3), some (.int s), none, none, none]) S [true, true, true, true, true, false, false, false] rfl ?_
          have hz := hj5 _ (Option.some.inj h).symm
          exact hz
        · replace h := (if_neg q8).symm.trans h
          refine i_iload S dX7_pairOf_62 rfl ?_
          refine i_istore (L1 := [some (rf g o0), some (.int x1), some (.int x2), some (.int x3), some (.int s), some (.int p3), some (.int s), none]) S dX7_pairOf_64 (by decide) rfl ?_
          refine i_mask (L1 := [some (rf g o0), some (.int x1), some (.int x2), some (.int x3), some (.int s), none, some (.int s), none]) S [true, true, true, true, true, false, true, false] rfl ?_
          obtain ⟨p9, e9, h⟩ := bn h
          have hE9 : if p9.1 = 0 then V 133 [some (rf g o0), some (.int x1), some (.int x2), some (.int x3), some (.int s), none, none, none] [] w else (V 118 [none, some (.int x1), none, none, some (.int s), none, some (.int p9.2), none] [] w) := by
            by_cases hx9_0 : p9.1 = 0
            · rw [if_pos hx9_0]
              replace h := (if_pos hx9_0).symm.trans h
              have hz := hj5 _ (Option.some.inj h).symm
              exact hz
            · rw [if_neg hx9_0]
              replace h := (if_neg hx9_0).symm.trans h
              replace h := ho5 _ (Option.some.inj h).symm
              have hz := hE _ (Option.some.inj h).symm
              exact hz
          exact wh_V (P := fun sv9 => V 66 [some (rf g o0), some (.int x1), some (.int x2), some (.int x3), some (.int s), none, some (.int sv9), none] [] w) (E := fun xv9 => if xv9.1 = 0 then V 133 [some (rf g o0), some (.int x1), some (.int x2), some (.int x3), some (.int s), none, none, none] [] w else (V 118 [none, some (.int x1), none, none, some (.int s), none, some (.int xv9.2), none] [] w)) (fun sv9 ev hb hc he => t_l_X7_pairOf_66 (w := w)  S hL ho0 sv9 ev hb hc he) FUEL _ _ e9 hE9
    replace h := e3
    clear e3
    refine i_icmp_ne (tgt := 31) S dX7_pairOf_12 (by decide) (fun q2 => ?_) (fun q2 => ?_)
    · replace h := (if_neg q2).symm.trans h
      refine i_iload S dX7_pairOf_31 rfl ?_
      refine i_iload_n S dX7_pairOf_33 rfl ?_
      refine i_ior S dX7_pairOf_34 ?_
      refine i_iload_n S dX7_pairOf_35 rfl ?_
      refine i_icmp_ne (tgt := 43) S dX7_pairOf_36 (by decide) (fun q10 => ?_) (fun q10 => ?_)
      · replace h := (if_neg q10).symm.trans h
        refine i_iconst (v := 0) S dX7_pairOf_43 ic_0 ?_
        have hz := hj3 _ (Option.some.inj h).symm
        exact hz
      · replace h := (if_pos q10).symm.trans h
        refine i_iconst (v := 1) S dX7_pairOf_39 ic_1 ?_
        refine i_goto (tgt := 44) S dX7_pairOf_40 (by decide) ?_
        have hz := hj3 _ (Option.some.inj h).symm
        exact hz
    · replace h := (if_pos q2).symm.trans h
      refine i_iload S dX7_pairOf_15 rfl ?_
      refine i_iload_n S dX7_pairOf_17 rfl ?_
      refine i_iand S dX7_pairOf_18 ?_
      refine i_iload_n S dX7_pairOf_19 rfl ?_
      refine i_icmp_ne (tgt := 27) S dX7_pairOf_20 (by decide) (fun q11 => ?_) (fun q11 => ?_)
      · replace h := (if_neg q11).symm.trans h
        refine i_iconst (v := 0) S dX7_pairOf_27 ic_0 ?_
        refine i_goto (tgt := 44) S dX7_pairOf_28 (by decide) ?_
        have hz := hj3 _ (Option.some.inj h).symm
        exact hz
      · replace h := (if_pos q11).symm.trans h
        refine i_iconst (v := 1) S dX7_pairOf_23 ic_1 ?_
        refine i_goto (tgt := 44) S dX7_pairOf_24 (by decide) ?_
        have hz := hj3 _ (Option.some.inj h).symm
        exact hz
set_option maxHeartbeats 4000000 in
set_option maxRecDepth 100000 in
theorem c_X7_pairOf (g : Gx) (d : Nat) {o0 : Nat} {x1 : Int32} {x2 : Int32} {x3 : Int32} {w : Mm} {p : Int32} (hL : Lay w) (ho0 : isSp w o0 = true) (h : f_X7_pairOf o0 x1 x2 x3 w = some p) : Call g (d + 2) yX7_pairOf cX7_pairOf 8 (some .int) [rf g o0, .int x1, .int x2, .int x3] w (some (.int p)) w := by
  refine call_of (L0 := [some (rf g o0), some (.int x1), some (.int x2), some (.int x3), none, none, none, none]) (by decide) rfl (Nat.le_of_ble_eq_true rfl) (fun V S0 => ?_)
  have S := S0.b
  unfold f_X7_pairOf at h
  refine i_iconst (v := 0) S dX7_pairOf_0 ic_0 ?_
  refine i_istore (L1 := [some (rf g o0), some (.int x1), some (.int x2), some (.int x3), some (.int ((0 : Int32))), none, none, none]) S dX7_pairOf_1 (by decide) rfl ?_
  obtain ⟨p1, e1, h⟩ := bn h
  have hE1 : if p1.1 = 0 then V 139 [none, none, none, none, none, none, none, none] [] w else (V 118 [none, some (.int x1), none, none, some (.int p1.2.1), none, some (.int p1.2.2), none] [] w) := by
    by_cases hx1_0 : p1.1 = 0
    · rw [if_pos hx1_0]
      replace h := (if_pos hx1_0).symm.trans h
      refine i_iconst (v := -1) S dX7_pairOf_139 ic_m1 ?_
      cases h
      exact i_iret S0 rfl dX7_pairOf_140
    · rw [if_neg hx1_0]
      replace h := (if_neg hx1_0).symm.trans h
      refine i_iload_n S dX7_pairOf_118 rfl ?_
      refine i_iload S dX7_pairOf_119 rfl ?_
      refine i_iload S dX7_pairOf_121 rfl ?_
      refine i_callSN (As := [.int x1, .int p1.2.1, .int p1.2.2]) (st1 := [.int (f_X11_packManner x1 p1.2.1 p1.2.2)]) S (c_X11_packManner g d rfl) mw_X11_packManner lk_X7_68 im_X11_packManner dX7_pairOf_123 rfl rfl (Nat.le_of_ble_eq_true rfl) rfl ?_
      cases h
      exact i_iret S0 rfl dX7_pairOf_126
  exact wh_V (P := fun sv1 => V 3 [some (rf g o0), some (.int x1), some (.int x2), some (.int x3), some (.int sv1), none, none, none] [] w) (E := fun xv1 => if xv1.1 = 0 then V 139 [none, none, none, none, none, none, none, none] [] w else (V 118 [none, some (.int x1), none, none, some (.int xv1.2.1), none, some (.int xv1.2.2), none] [] w)) (fun sv1 ev hb hc he => t_l_X7_pairOf_3 (w := w)  S hL ho0 sv1 ev hb hc he) FUEL _ _ e1 hE1
/-! WordYear$Speech.manner -/
noncomputable def l_X7_manner_12 (o0 : Nat) (x1 : Int32) (x2 : Int32) (w : Mm) (s : Int32) : Option ((Int32) ⊕ (Nat × Int32)) := if (10 : Int32) ≤ s then (some (.inr (0, 0))) else (mg (if (f_X11_contains (gI w o0 2) s) = 0 then (some (.inl ())) else (Option.bind (f_X3_isPlain s w) (fun p4 => if p4 = 0 then (some (.inl ())) else (Option.bind (f_X3_meaningOf s w) (fun p6 => if p6 = x1 then (Option.bind (f_X3_lengthOf s w) (fun p8 => if p8 = x2 then (some (.inr (.inr (1, s)))) else (some (.inl ())))) else (some (.inl ()))))))) (fun p3 => some (.inl (s + (1 : Int32)))))
noncomputable def f_X7_manner (o0 : Nat) (x1 : Int32) (w : Mm) : Option Int32 := if inb (x1 &&& (63 : Int32)) 64 = true then (Option.bind (wh (l_X7_manner_12 o0 x1 (gI w (o0 + 1) (ix (x1 &&& (63 : Int32)))) w) FUEL (0 : Int32)) (fun p3 => if p3.1 = 0 then (mg (if (gI w o0 3) ≤ 0 then (some (.inl ())) else (if inb ((63 : Int32) ^^^ (x1 &&& (63 : Int32))) 64 = true then (if ((gI w (o0 + 1) (ix ((63 : Int32) ^^^ (x1 &&& (63 : Int32))))) + (gI w o0 3)) = (gI w (o0 + 1) (ix (x1 &&& (63 : Int32)))) then (some (.inr (f_X11_packManner (1 : Int32) ((63 : Int32) ^^^ (x1 &&& (63 : Int32))) (0 : Int32)))) else (some (.inl ()))) else none)) (fun p5 => Option.bind (if (gI w o0 4) ≤ 0 then (some (-1 : Int32)) else (Option.bind (f_X7_pairOf o0 (2 : Int32) x1 ((gI w (o0 + 1) (ix (x1 &&& (63 : Int32)))) - (gI w o0 4)) w) (fun p10 => some p10))) (fun p7 => if p7 = (-1 : Int32) then (Option.bind (f_X7_pairOf o0 (3 : Int32) x1 ((gI w (o0 + 1) (ix (x1 &&& (63 : Int32)))) - (gI w o0 5)) w) (fun p9 => some p9)) else (some p7)))) else (some (f_X11_packManner (0 : Int32) p3.2 (0 : Int32))))) else none
set_option maxHeartbeats 4000000 in
set_option maxRecDepth 100000 in
theorem t_l_X7_manner_12 {g : Gx} {V : Vt} {d : Nat} (S : MachB g yX7_manner cX7_manner 5 (d + 2) V) {o0 : Nat} {x1 : Int32} {x2 : Int32} {w : Mm} (hL : Lay w) (ho0 : isSp w o0 = true) (s : Int32) (e : (Int32) ⊕ (Nat × Int32)) (h : l_X7_manner_12 o0 x1 x2 w s = some e) (hC : ∀ s2, e = .inl s2 → V 12 [some (rf g o0), some (.int x1), some (.int x2), some (.int s2), none] [] w) (hE : ∀ x, e = .inr x → if x.1 = 0 then V 77 [some (rf g o0), some (.int x1), some (.int x2), none, none] [] w else (V 64 [none, none, none, some (.int x.2), none] [] w)) : V 12 [some (rf g o0), some (.int x1), some (.int x2), some (.int s), none] [] w := by
  unfold l_X7_manner_12 at h
  refine i_iload_n S dX7_manner_12 rfl ?_
  refine i_bipush (v := 10) S dX7_manner_13 bp_10 ?_
  refine i_icmp_ge (tgt := 77) S dX7_manner_15 (by decide) (fun q1 => ?_) (fun q1 => ?_)
  · replace h := (if_pos q1).symm.trans h
    refine i_mask (L1 := [some (rf g o0), some (.int x1), some (.int x2), none, none]) S [true, true, true, false, false] rfl ?_
    have hz := hE _ (Option.some.inj h).symm
    exact hz
  · replace h := (if_neg q1).symm.trans h
    refine i_aload_n S dX7_manner_18 rfl ?_
    refine i_getIv (v := gI w o0 2) S fl_X7_22 (sp_k0 ho0) rfl rfl dX7_manner_19 ?_
    refine i_iload_n S dX7_manner_22 rfl ?_
    refine i_callSN (As := [.int (gI w o0 2), .int s]) (st1 := [.int (f_X11_contains (gI w o0 2) s)]) S (c_X11_contains g (d + 1) rfl) mw_X11_contains lk_X7_31 im_X11_contains dX7_manner_23 rfl rfl (Nat.le_of_ble_eq_true rfl) rfl ?_
    obtain ⟨s3, e3, hm3, ho3⟩ := mgn h
    have hj3 : ∀ p3, s3 = .inl p3 → V 71 [some (rf g o0), some (.int x1), some (.int x2), some (.int s), none] [] w := by
      intro p3 ep3
      have h := hm3 p3 ep3
      refine i_iinc (L1 := [some (rf g o0), some (.int x1), some (.int x2), some (.int (s + (1 : Int32))), none]) S dX7_manner_71 rfl ic_1 (by decide) rfl ?_
      refine i_goto (tgt := 12) S dX7_manner_74 (by decide) ?_
      have hz := hC _ (Option.some.inj h).symm
      exact hz
    replace h := e3
    clear e3
    refine i_if_eq (tgt := 71) S dX7_manner_26 (by decide) (fun q2 => ?_) (fun q2 => ?_)
    · replace h := (if_pos q2).symm.trans h
      have hz := hj3 _ (Option.some.inj h).symm
      exact hz
    · replace h := (if_neg q2).symm.trans h
      refine i_aload_n S dX7_manner_29 rfl ?_
      refine i_getR S fl_X7_18 (sp_k0 ho0) (sp_r0 ho0) rfl dX7_manner_30 ?_
      refine i_iload_n S dX7_manner_33 rfl ?_
      obtain ⟨p4, e4, h⟩ := bn h
      refine i_callV (As := [.int s]) (st1 := [.int p4]) S (c_X3_isPlain g d hL e4) mw_X3_isPlain lk_X7_35 im_X3_isPlain se_X3_isPlain ci_3.1 ci_3.2.1 (k1 hL) dX7_manner_34 rfl rfl (Nat.le_of_ble_eq_true rfl) rfl ?_
      refine i_if_eq (tgt := 71) S dX7_manner_37 (by decide) (fun q5 => ?_) (fun q5 => ?_)
      · replace h := (if_pos q5).symm.trans h
        have hz := hj3 _ (Option.some.inj h).symm
        exact hz
      · replace h := (if_neg q5).symm.trans h
        refine i_aload_n S dX7_manner_40 rfl ?_
        refine i_getR S fl_X7_18 (sp_k0 ho0) (sp_r0 ho0) rfl dX7_manner_41 ?_
        refine i_iload_n S dX7_manner_44 rfl ?_
        obtain ⟨p6, e6, h⟩ := bn h
        refine i_callV (As := [.int s]) (st1 := [.int p6]) S (c_X3_meaningOf g d hL e6) mw_X3_meaningOf lk_X7_41 im_X3_meaningOf se_X3_meaningOf ci_3.1 ci_3.2.1 (k1 hL) dX7_manner_45 rfl rfl (Nat.le_of_ble_eq_true rfl) rfl ?_
        refine i_iload_n S dX7_manner_48 rfl ?_
        refine i_icmp_ne (tgt := 71) S dX7_manner_49 (by decide) (fun q7 => ?_) (fun q7 => ?_)
        · replace h := (if_neg q7).symm.trans h
          have hz := hj3 _ (Option.some.inj h).symm
          exact hz
        · replace h := (if_pos q7).symm.trans h
          refine i_aload_n S dX7_manner_52 rfl ?_
          refine i_getR S fl_X7_18 (sp_k0 ho0) (sp_r0 ho0) rfl dX7_manner_53 ?_
          refine i_iload_n S dX7_manner_56 rfl ?_
          obtain ⟨p8, e8, h⟩ := bn h
          refine i_callV (As := [.int s]) (st1 := [.int p8]) S (c_X3_lengthOf g d hL e8) mw_X3_lengthOf lk_X7_45 im_X3_lengthOf se_X3_lengthOf ci_3.1 ci_3.2.1 (k1 hL) dX7_manner_57 rfl rfl (Nat.le_of_ble_eq_true rfl) rfl ?_
          refine i_iload_n S dX7_manner_60 rfl ?_
          refine i_icmp_ne (tgt := 71) S dX7_manner_61 (by decide) (fun q9 => ?_) (fun q9 => ?_)
          · replace h := (if_neg q9).symm.trans h
            have hz := hj3 _ (Option.some.inj h).symm
            exact hz
          · replace h := (if_pos q9).symm.trans h
            replace h := ho3 _ (Option.some.inj h).symm
            refine i_mask (L1 := [none, none, none, some (.int s), none]) S [false, false, false, true, false] rfl ?_
            have hz := hE _ (Option.some.inj h).symm
            exact hz
set_option maxHeartbeats 4000000 in
set_option maxRecDepth 100000 in
theorem c_X7_manner (g : Gx) (d : Nat) {o0 : Nat} {x1 : Int32} {w : Mm} {p : Int32} (hL : Lay w) (ho0 : isSp w o0 = true) (h : f_X7_manner o0 x1 w = some p) : Call g (d + 3) yX7_manner cX7_manner 5 (some .int) [rf g o0, .int x1] w (some (.int p)) w := by
  refine call_of (L0 := [some (rf g o0), some (.int x1), none, none, none]) (by decide) rfl (Nat.le_of_ble_eq_true rfl) (fun V S0 => ?_)
  have S := S0.b
  unfold f_X7_manner at h
  refine i_aload_n S dX7_manner_0 rfl ?_
  refine i_getR S fl_X7_9 (sp_k0 ho0) (sp_r1 ho0) rfl dX7_manner_1 ?_
  refine i_iload_n S dX7_manner_4 rfl ?_
  refine i_bipush (v := 63) S dX7_manner_5 bp_63 ?_
  refine i_iand S dX7_manner_7 ?_
  obtain ⟨hi2, h⟩ := gd h
  refine i_ialdv (v := gI w (o0 + 1) (ix (x1 &&& (63 : Int32)))) S (sp_k1 ho0) hi2 rfl dX7_manner_8 ?_
  refine i_istore_n (L1 := [some (rf g o0), some (.int x1), some (.int (gI w (o0 + 1) (ix (x1 &&& (63 : Int32))))), none, none]) S dX7_manner_9 (by decide) rfl ?_
  refine i_iconst (v := 0) S dX7_manner_10 ic_0 ?_
  refine i_istore_n (L1 := [some (rf g o0), some (.int x1), some (.int (gI w (o0 + 1) (ix (x1 &&& (63 : Int32))))), some (.int ((0 : Int32))), none]) S dX7_manner_11 (by decide) rfl ?_
  obtain ⟨p3, e3, h⟩ := bn h
  have hE3 : if p3.1 = 0 then V 77 [some (rf g o0), some (.int x1), some (.int (gI w (o0 + 1) (ix (x1 &&& (63 : Int32))))), none, none] [] w else (V 64 [none, none, none, some (.int p3.2), none] [] w) := by
    by_cases hx3_0 : p3.1 = 0
    · rw [if_pos hx3_0]
      replace h := (if_pos hx3_0).symm.trans h
      refine i_bipush (v := 63) S dX7_manner_77 bp_63 ?_
      refine i_iload_n S dX7_manner_79 rfl ?_
      refine i_bipush (v := 63) S dX7_manner_80 bp_63 ?_
      refine i_iand S dX7_manner_82 ?_
      refine i_ixor S dX7_manner_83 ?_
      refine i_istore_n (L1 := [some (rf g o0), some (.int x1), some (.int (gI w (o0 + 1) (ix (x1 &&& (63 : Int32))))), some (.int ((63 : Int32) ^^^ (x1 &&& (63 : Int32)))), none]) S dX7_manner_84 (by decide) rfl ?_
      refine i_aload_n S dX7_manner_85 rfl ?_
      refine i_getIv (v := gI w o0 3) S fl_X7_56 (sp_k0 ho0) rfl rfl dX7_manner_86 ?_
      obtain ⟨s5, e5, hm5, ho5⟩ := mgn h
      have hj5 : ∀ p5, s5 = .inl p5 → V 114 [some (rf g o0), some (.int x1), some (.int (gI w (o0 + 1) (ix (x1 &&& (63 : Int32))))), none, none] [] w := by
        intro p5 ep5
        have h := hm5 p5 ep5
        refine i_aload_n S dX7_manner_114 rfl ?_
        refine i_getIv (v := gI w o0 4) S fl_X7_59 (sp_k0 ho0) rfl rfl dX7_manner_115 ?_
        obtain ⟨p7, e7, h⟩ := bn h
        have hj7 : ∀ q7, p7 = q7 → V 137 [some (rf g o0), some (.int x1), some (.int (gI w (o0 + 1) (ix (x1 &&& (63 : Int32))))), none, none] [.int q7] w := by
          intro q7 hq7
          subst hq7
          refine i_istore (L1 := [some (rf g o0), some (.int x1), some (.int (gI w (o0 + 1) (ix (x1 &&& (63 : Int32))))), none, some (.int p7)]) S dX7_manner_137 (by decide) rfl ?_
          refine i_iload S dX7_manner_139 rfl ?_
          refine i_iconst (v := -1) S dX7_manner_141 ic_m1 ?_
          refine i_icmp_eq (tgt := 150) S dX7_manner_142 (by decide) (fun q8 => ?_) (fun q8 => ?_)
          · replace h := (if_pos q8).symm.trans h
            refine i_aload_n S dX7_manner_150 rfl ?_
            refine i_iconst (v := 3) S dX7_manner_151 ic_3 ?_
            refine i_iload_n S dX7_manner_152 rfl ?_
            refine i_iload_n S dX7_manner_153 rfl ?_
            refine i_aload_n S dX7_manner_154 rfl ?_
            refine i_getIv (v := gI w o0 5) S fl_X7_62 (sp_k0 ho0) rfl rfl dX7_manner_155 ?_
            refine i_isub S dX7_manner_158 ?_
            obtain ⟨p9, e9, h⟩ := bn h
            refine i_callV (As := [.int ((3 : Int32)), .int x1, .int ((gI w (o0 + 1) (ix (x1 &&& (63 : Int32)))) - (gI w o0 5))]) (st1 := [.int p9]) S (c_X7_pairOf g d hL ho0 e9) mw_X7_pairOf lk_X7_72 im_X7_pairOf se_X7_pairOf ci_7.1 ci_7.2.1 (sp_k0 ho0) dX7_manner_159 rfl rfl (Nat.le_of_ble_eq_true rfl) rfl ?_
            cases h
            exact i_iret S0 rfl dX7_manner_162
          · replace h := (if_neg q8).symm.trans h
            refine i_iload S dX7_manner_145 rfl ?_
            refine i_goto (tgt := 162) S dX7_manner_147 (by decide) ?_
            cases h
            exact i_iret S0 rfl dX7_manner_162
        replace h := e7
        clear e7
        refine i_if_le (tgt := 136) S dX7_manner_118 (by decide) (fun q6 => ?_) (fun q6 => ?_)
        · replace h := (if_pos q6).symm.trans h
          refine i_iconst (v := -1) S dX7_manner_136 ic_m1 ?_
          have hz := hj7 _ (Option.some.inj h).symm
          exact hz
        · replace h := (if_neg q6).symm.trans h
          refine i_aload_n S dX7_manner_121 rfl ?_
          refine i_iconst (v := 2) S dX7_manner_122 ic_2 ?_
          refine i_iload_n S dX7_manner_123 rfl ?_
          refine i_iload_n S dX7_manner_124 rfl ?_
          refine i_aload_n S dX7_manner_125 rfl ?_
          refine i_getIv (v := gI w o0 4) S fl_X7_59 (sp_k0 ho0) rfl rfl dX7_manner_126 ?_
          refine i_isub S dX7_manner_129 ?_
          obtain ⟨p10, e10, h⟩ := bn h
          refine i_callV (As := [.int ((2 : Int32)), .int x1, .int ((gI w (o0 + 1) (ix (x1 &&& (63 : Int32)))) - (gI w o0 4))]) (st1 := [.int p10]) S (c_X7_pairOf g d hL ho0 e10) mw_X7_pairOf lk_X7_72 im_X7_pairOf se_X7_pairOf ci_7.1 ci_7.2.1 (sp_k0 ho0) dX7_manner_130 rfl rfl (Nat.le_of_ble_eq_true rfl) rfl ?_
          refine i_goto (tgt := 137) S dX7_manner_133 (by decide) ?_
          have hz := hj7 _ (Option.some.inj h).symm
          exact hz
      replace h := e5
      clear e5
      refine i_if_le (tgt := 114) S dX7_manner_89 (by decide) (fun q4 => ?_) (fun q4 => ?_)
      · replace h := (if_pos q4).symm.trans h
        refine i_mask (L1 := [some (rf g o0), some (.int x1), some (.int (gI w (o0 + 1) (ix (x1 &&& (63 : Int32))))), none, none]) S [true, true, true, false, false] rfl ?_
        have hz := hj5 _ (Option.some.inj h).symm
        exact hz
      · replace h := (if_neg q4).symm.trans h
        refine i_aload_n S dX7_manner_92 rfl ?_
        refine i_getR S fl_X7_9 (sp_k0 ho0) (sp_r1 ho0) rfl dX7_manner_93 ?_
        refine i_iload_n S dX7_manner_96 rfl ?_
        obtain ⟨hi12, h⟩ := gd h
        refine i_ialdv (v := gI w (o0 + 1) (ix ((63 : Int32) ^^^ (x1 &&& (63 : Int32))))) S (sp_k1 ho0) hi12 rfl dX7_manner_97 ?_
        refine i_aload_n S dX7_manner_98 rfl ?_
        refine i_getIv (v := gI w o0 3) S fl_X7_56 (sp_k0 ho0) rfl rfl dX7_manner_99 ?_
        refine i_iadd S dX7_manner_102 ?_
        refine i_iload_n S dX7_manner_103 rfl ?_
        refine i_icmp_ne (tgt := 114) S dX7_manner_104 (by decide) (fun q13 => ?_) (fun q13 => ?_)
        · replace h := (if_neg q13).symm.trans h
          refine i_mask (L1 := [some (rf g o0), some (.int x1), some (.int (gI w (o0 + 1) (ix (x1 &&& (63 : Int32))))), none, none]) S [true, true, true, false, false] rfl ?_
          have hz := hj5 _ (Option.some.inj h).symm
          exact hz
        · replace h := (if_pos q13).symm.trans h
          refine i_iconst (v := 1) S dX7_manner_107 ic_1 ?_
          refine i_iload_n S dX7_manner_108 rfl ?_
          refine i_iconst (v := 0) S dX7_manner_109 ic_0 ?_
          refine i_callSN (As := [.int ((1 : Int32)), .int ((63 : Int32) ^^^ (x1 &&& (63 : Int32))), .int ((0 : Int32))]) (st1 := [.int (f_X11_packManner (1 : Int32) ((63 : Int32) ^^^ (x1 &&& (63 : Int32))) (0 : Int32))]) S (c_X11_packManner g (d + 1) rfl) mw_X11_packManner lk_X7_68 im_X11_packManner dX7_manner_110 rfl rfl (Nat.le_of_ble_eq_true rfl) rfl ?_
          replace h := ho5 _ (Option.some.inj h).symm
          cases h
          exact i_iret S0 rfl dX7_manner_113
    · rw [if_neg hx3_0]
      replace h := (if_neg hx3_0).symm.trans h
      refine i_iconst (v := 0) S dX7_manner_64 ic_0 ?_
      refine i_iload_n S dX7_manner_65 rfl ?_
      refine i_iconst (v := 0) S dX7_manner_66 ic_0 ?_
      refine i_callSN (As := [.int ((0 : Int32)), .int p3.2, .int ((0 : Int32))]) (st1 := [.int (f_X11_packManner (0 : Int32) p3.2 (0 : Int32))]) S (c_X11_packManner g (d + 1) rfl) mw_X11_packManner lk_X7_68 im_X11_packManner dX7_manner_67 rfl rfl (Nat.le_of_ble_eq_true rfl) rfl ?_
      cases h
      exact i_iret S0 rfl dX7_manner_70
  exact wh_V (P := fun sv3 => V 12 [some (rf g o0), some (.int x1), some (.int (gI w (o0 + 1) (ix (x1 &&& (63 : Int32))))), some (.int sv3), none] [] w) (E := fun xv3 => if xv3.1 = 0 then V 77 [some (rf g o0), some (.int x1), some (.int (gI w (o0 + 1) (ix (x1 &&& (63 : Int32))))), none, none] [] w else (V 64 [none, none, none, some (.int xv3.2), none] [] w)) (fun sv3 ev hb hc he => t_l_X7_manner_12 (w := w)  S hL ho0 sv3 ev hb hc he) FUEL _ _ e3 hE3
/-! WordYear$Speech.shortest -/
noncomputable def f_X7_shortest (o0 : Nat) (x1 : Int32) (w : Mm) : Option Int32 := if inb (x1 &&& (63 : Int32)) 64 = true then (if (268435456 : Int32) ≤ (gI w (o0 + 1) (ix (x1 &&& (63 : Int32)))) then (some (-2 : Int32)) else (some (gI w (o0 + 1) (ix (x1 &&& (63 : Int32)))))) else none
set_option maxHeartbeats 4000000 in
set_option maxRecDepth 100000 in
theorem c_X7_shortest (g : Gx) (d : Nat) {o0 : Nat} {x1 : Int32} {w : Mm} {p : Int32} (hL : Lay w) (ho0 : isSp w o0 = true) (h : f_X7_shortest o0 x1 w = some p) : Call g (d + 1) yX7_shortest cX7_shortest 3 (some .int) [rf g o0, .int x1] w (some (.int p)) w := by
  refine call_of (L0 := [some (rf g o0), some (.int x1), none]) (by decide) rfl (Nat.le_of_ble_eq_true rfl) (fun V S0 => ?_)
  have S := S0.b
  unfold f_X7_shortest at h
  refine i_aload_n S dX7_shortest_0 rfl ?_
  refine i_getR S fl_X7_9 (sp_k0 ho0) (sp_r1 ho0) rfl dX7_shortest_1 ?_
  refine i_iload_n S dX7_shortest_4 rfl ?_
  refine i_bipush (v := 63) S dX7_shortest_5 bp_63 ?_
  refine i_iand S dX7_shortest_7 ?_
  obtain ⟨hi2, h⟩ := gd h
  refine i_ialdv (v := gI w (o0 + 1) (ix (x1 &&& (63 : Int32)))) S (sp_k1 ho0) hi2 rfl dX7_shortest_8 ?_
  refine i_istore_n (L1 := [some (rf g o0), some (.int x1), some (.int (gI w (o0 + 1) (ix (x1 &&& (63 : Int32)))))]) S dX7_shortest_9 (by decide) rfl ?_
  refine i_iload_n S dX7_shortest_10 rfl ?_
  refine i_ldc S kc_X7_30 dX7_shortest_11 ?_
  refine i_icmp_ge (tgt := 20) S dX7_shortest_13 (by decide) (fun q3 => ?_) (fun q3 => ?_)
  · replace h := (if_pos q3).symm.trans h
    refine i_bipush (v := -2) S dX7_shortest_20 bp_m2 ?_
    cases h
    exact i_iret S0 rfl dX7_shortest_22
  · replace h := (if_neg q3).symm.trans h
    refine i_iload_n S dX7_shortest_16 rfl ?_
    refine i_goto (tgt := 22) S dX7_shortest_17 (by decide) ?_
    cases h
    exact i_iret S0 rfl dX7_shortest_22
/-! WordYear$Dictionary.entry -/
noncomputable def l_X2_entry_61 (x2 : Int32) (o3 : Nat) (w : Mm) (s : Int64 × Int64 × Int32 × Int32) : Option ((Int64 × Int64 × Int32 × Int32) ⊕ (Int32)) := if (64 : Int32) ≤ s.2.2.2 then (some (.inr s.2.2.1)) else (if s.1 = s.2.1 then (some (.inr s.2.2.1)) else (Option.bind (f_X2_lowestOf (s.1 &&& (s.2.1 ^^^ (-1 : Int64)))) (fun p3 => Option.bind (f_X7_manner o3 p3 w) (fun p4 => Option.bind (if (f_X11_mannerKind p4) = 0 then (some (s.1, s.2.2.1 ||| ((1 : Int32) <<< ((f_X11_mannerFirst p4) &&& 31)))) else (Option.bind (f_X3_shortestOf (f_X11_mannerKind p4) x2 w) (fun p7 => Option.bind (if (f_X11_mannerKind p4) = (1 : Int32) then (some (0 : Int64)) else (some ((1 : Int64) <<< ((f_X11_mannerSecond p4).toInt64 &&& 63)))) (fun p9 => some ((s.1 ||| ((1 : Int64) <<< ((f_X11_mannerFirst p4).toInt64 &&& 63))) ||| p9, s.2.2.1 ||| ((1 : Int32) <<< (p7 &&& 31))))))) (fun p6 => some (.inl (p6.1, s.2.1 ||| ((1 : Int64) <<< (p3.toInt64 &&& 63)), p6.2, s.2.2.2 + (1 : Int32))))))))
noncomputable def f_X2_entry (x1 : Int32) (w : Mm) : Option (Int32 × Mm) := Option.bind (f_X9_speech (f_X11_without (gI w 1 5) x1) w) (fun p1 => onL p1.2 (Option.bind (f_X3_meaningOf x1 p1.2) (fun p3 => if isSp p1.2 p1.1 = true then (Option.bind (f_X7_shortest p1.1 p3 p1.2) (fun p5 => if p5 = (-2 : Int32) then (some ((0 : Int32), p1.2)) else (Option.bind (f_X3_meaningOf x1 p1.2) (fun p7 => Option.bind (wh (l_X2_entry_61 (f_X11_without (gI w 1 5) x1) p1.1 p1.2) FUEL ((1 : Int64) <<< (p7.toInt64 &&& 63), (0 : Int64), (0 : Int32), (0 : Int32))) (fun p8 => some (p8, p1.2)))))) else none)))
set_option maxHeartbeats 4000000 in
set_option maxRecDepth 100000 in
theorem t_l_X2_entry_61 {g : Gx} {V : Vt} {d : Nat} (S : MachB g yX2_entry cX2_entry 13 (d + 5) V) {x2 : Int32} {o3 : Nat} {w : Mm} (hL : Lay w) (ho3 : isSp w o3 = true) (s : Int64 × Int64 × Int32 × Int32) (e : (Int64 × Int64 × Int32 × Int32) ⊕ (Int32)) (h : l_X2_entry_61 x2 o3 w s = some e) (hC : ∀ s2, e = .inl s2 → V 61 [some (rf g 45), none, some (.int x2), some (rf g o3), some (.long s2.1), none, some (.long s2.2.1), none, some (.int s2.2.2.1), some (.int s2.2.2.2), none, none, none] [] w) (hE : ∀ x, e = .inr x → V 191 [none, none, none, none, none, none, none, none, some (.int x), none, none, none, none] [] w) : V 61 [some (rf g 45), none, some (.int x2), some (rf g o3), some (.long s.1), none, some (.long s.2.1), none, some (.int s.2.2.1), some (.int s.2.2.2), none, none, none] [] w := by
  unfold l_X2_entry_61 at h
  refine i_iload S dX2_entry_61 rfl ?_
  refine i_bipush (v := 64) S dX2_entry_63 bp_64 ?_
  refine i_icmp_ge (tgt := 191) S dX2_entry_65 (by decide) (fun q1 => ?_) (fun q1 => ?_)
  · replace h := (if_pos q1).symm.trans h
    refine i_mask (L1 := [none, none, none, none, none, none, none, none, some (.int s.2.2.1), none, none, none, none]) S [false, false, false, false, false, false, false, false, true, false, false, false, false] rfl ?_
    have hz := hE _ (Option.some.inj h).symm
    exact hz
  · replace h := (if_neg q1).symm.trans h
    refine i_lload S dX2_entry_68 rfl ?_
    refine i_lload S dX2_entry_70 rfl ?_
    refine i_lc_eq (tgt := 191) S dX2_entry_72 dX2_entry_73 (by decide) (fun q2 => ?_) (fun q2 => ?_)
    · replace h := (if_pos q2).symm.trans h
      refine i_mask (L1 := [none, none, none, none, none, none, none, none, some (.int s.2.2.1), none, none, none, none]) S [false, false, false, false, false, false, false, false, true, false, false, false, false] rfl ?_
      have hz := hE _ (Option.some.inj h).symm
      exact hz
    · replace h := (if_neg q2).symm.trans h
      refine i_lload S dX2_entry_76 rfl ?_
      refine i_lload S dX2_entry_78 rfl ?_
      refine i_ldc2 S kl_X2_48 dX2_entry_80 ?_
      refine i_lxor S dX2_entry_83 ?_
      refine i_land S dX2_entry_84 ?_
      obtain ⟨p3, e3, h⟩ := bn h
      refine i_callS (As := [.long (s.1 &&& (s.2.1 ^^^ (-1 : Int64)))]) (st1 := [.int p3]) S (c_X2_lowestOf g (d + 4) e3) mw_X2_lowestOf lk_X2_50 im_X2_lowestOf dX2_entry_85 rfl rfl (Nat.le_of_ble_eq_true rfl) rfl ?_
      refine i_istore (L1 := [some (rf g 45), none, some (.int x2), some (rf g o3), some (.long s.1), none, some (.long s.2.1), none, some (.int s.2.2.1), some (.int s.2.2.2), some (.int p3), none, none]) S dX2_entry_88 (by decide) rfl ?_
      refine i_lload S dX2_entry_90 rfl ?_
      refine i_lconst (v := 1) S dX2_entry_92 lc_1 ?_
      refine i_iload S dX2_entry_93 rfl ?_
      refine i_lshl S dX2_entry_95 ?_
      refine i_lor S dX2_entry_96 ?_
      refine i_lstore (L1 := [some (rf g 45), none, some (.int x2), some (rf g o3), some (.long s.1), none, some (.long (s.2.1 ||| ((1 : Int64) <<< (p3.toInt64 &&& 63)))), none, some (.int s.2.2.1), some (.int s.2.2.2), some (.int p3), none, none]) S dX2_entry_97 (by decide) rfl ?_
      refine i_aload_n S dX2_entry_99 rfl ?_
      refine i_iload S dX2_entry_100 rfl ?_
      obtain ⟨p4, e4, h⟩ := bn h
      refine i_callV (As := [.int p3]) (st1 := [.int p4]) S (c_X7_manner g (d + 2) hL ho3 e4) mw_X7_manner lk_X2_54 im_X7_manner se_X7_manner ci_7.1 ci_7.2.1 (sp_k0 ho3) dX2_entry_102 rfl rfl (Nat.le_of_ble_eq_true rfl) rfl ?_
      refine i_istore (L1 := [some (rf g 45), none, some (.int x2), some (rf g o3), some (.long s.1), none, some (.long (s.2.1 ||| ((1 : Int64) <<< (p3.toInt64 &&& 63)))), none, some (.int s.2.2.1), some (.int s.2.2.2), some (.int p3), some (.int p4), none]) S dX2_entry_105 (by decide) rfl ?_
      refine i_iload S dX2_entry_107 rfl ?_
      refine i_callSN (As := [.int p4]) (st1 := [.int (f_X11_mannerKind p4)]) S (c_X11_mannerKind g (d + 4) rfl) mw_X11_mannerKind lk_X2_57 im_X11_mannerKind dX2_entry_109 rfl rfl (Nat.le_of_ble_eq_true rfl) rfl ?_
      refine i_istore (L1 := [some (rf g 45), none, some (.int x2), some (rf g o3), some (.long s.1), none, some (.long (s.2.1 ||| ((1 : Int64) <<< (p3.toInt64 &&& 63)))), none, some (.int s.2.2.1), some (.int s.2.2.2), some (.int p3), some (.int p4), some (.int (f_X11_mannerKind p4))]) S dX2_entry_112 (by decide) rfl ?_
      refine i_iload S dX2_entry_114 rfl ?_
      obtain ⟨p6, e6, h⟩ := bn h
      have hj6 : ∀ q6, p6 = q6 → V 185 [some (rf g 45), none, some (.int x2), some (rf g o3), some (.long q6.1), none, some (.long (s.2.1 ||| ((1 : Int64) <<< (p3.toInt64 &&& 63)))), none, some (.int q6.2), some (.int s.2.2.2), none, none, none] [] w := by
        intro q6 hq6
        subst hq6
        refine i_iinc (L1 := [some (rf g 45), none, some (.int x2), some (rf g o3), some (.long p6.1), none, some (.long (s.2.1 ||| ((1 : Int64) <<< (p3.toInt64 &&& 63)))), none, some (.int p6.2), some (.int (s.2.2.2 + (1 : Int32))), none, none, none]) S dX2_entry_185 rfl ic_1 (by decide) rfl ?_
        refine i_goto (tgt := 61) S dX2_entry_188 (by decide) ?_
        have hz := hC _ (Option.some.inj h).symm
        exact hz
      replace h := e6
      clear e6
      refine i_if_ne (tgt := 134) S dX2_entry_116 (by decide) (fun q5 => ?_) (fun q5 => ?_)
      · replace h := (if_neg q5).symm.trans h
        refine i_iload S dX2_entry_134 rfl ?_
        refine i_iconst (v := 1) S dX2_entry_136 ic_1 ?_
        refine i_aload_n S dX2_entry_137 rfl ?_
        refine i_getR S fl_X2_15 (k45 hL) (r45_0 hL) rfl dX2_entry_138 ?_
        refine i_iload S dX2_entry_141 rfl ?_
        refine i_iload_n S dX2_entry_143 rfl ?_
        obtain ⟨p7, e7, h⟩ := bn h
        refine i_callV (As := [.int (f_X11_mannerKind p4), .int x2]) (st1 := [.int p7, .int ((1 : Int32)), .int s.2.2.1]) S (c_X3_shortestOf g (d + 3) hL e7) mw_X3_shortestOf lk_X2_63 im_X3_shortestOf se_X3_shortestOf ci_3.1 ci_3.2.1 (k1 hL) dX2_entry_144 rfl rfl (Nat.le_of_ble_eq_true rfl) rfl ?_
        refine i_ishl S dX2_entry_147 ?_
        refine i_ior S dX2_entry_148 ?_
        refine i_istore (L1 := [some (rf g 45), none, some (.int x2), some (rf g o3), some (.long s.1), none, some (.long (s.2.1 ||| ((1 : Int64) <<< (p3.toInt64 &&& 63)))), none, some (.int (s.2.2.1 ||| ((1 : Int32) <<< (p7 &&& 31)))), some (.int s.2.2.2), some (.int p3), some (.int p4), some (.int (f_X11_mannerKind p4))]) S dX2_entry_149 (by decide) rfl ?_
        refine i_lload S dX2_entry_151 rfl ?_
        refine i_lconst (v := 1) S dX2_entry_153 lc_1 ?_
        refine i_iload S dX2_entry_154 rfl ?_
        refine i_callSN (As := [.int p4]) (st1 := [.int (f_X11_mannerFirst p4), .long ((1 : Int64)), .long s.1]) S (c_X11_mannerFirst g (d + 4) rfl) mw_X11_mannerFirst lk_X2_60 im_X11_mannerFirst dX2_entry_156 rfl rfl (Nat.le_of_ble_eq_true rfl) rfl ?_
        refine i_lshl S dX2_entry_159 ?_
        refine i_lor S dX2_entry_160 ?_
        refine i_lstore (L1 := [some (rf g 45), none, some (.int x2), some (rf g o3), some (.long (s.1 ||| ((1 : Int64) <<< ((f_X11_mannerFirst p4).toInt64 &&& 63)))), none, some (.long (s.2.1 ||| ((1 : Int64) <<< (p3.toInt64 &&& 63)))), none, some (.int (s.2.2.1 ||| ((1 : Int32) <<< (p7 &&& 31)))), some (.int s.2.2.2), some (.int p3), some (.int p4), some (.int (f_X11_mannerKind p4))]) S dX2_entry_161 (by decide) rfl ?_
        refine i_lload S dX2_entry_163 rfl ?_
        refine i_iload S dX2_entry_165 rfl ?_
        refine i_iconst (v := 1) S dX2_entry_167 ic_1 ?_
        obtain ⟨p9, e9, h⟩ := bn h
        have hj9 : ∀ q9, p9 = q9 → V 182 [some (rf g 45), none, some (.int x2), some (rf g o3), none, none, some (.long (s.2.1 ||| ((1 : Int64) <<< (p3.toInt64 &&& 63)))), none, some (.int (s.2.2.1 ||| ((1 : Int32) <<< (p7 &&& 31)))), some (.int s.2.2.2), none, none, none] [.long q9, .long (s.1 ||| ((1 : Int64) <<< ((f_X11_mannerFirst p4).toInt64 &&& 63)))] w := by
          intro q9 hq9
          subst hq9
          refine i_lor S dX2_entry_182 ?_
          refine i_lstore (L1 := [some (rf g 45), none, some (.int x2), some (rf g o3), some (.long ((s.1 ||| ((1 : Int64) <<< ((f_X11_mannerFirst p4).toInt64 &&& 63))) ||| p9)), none, some (.long (s.2.1 ||| ((1 : Int64) <<< (p3.toInt64 &&& 63)))), none, some (.int (s.2.2.1 ||| ((1 : Int32) <<< (p7 &&& 31)))), some (.int s.2.2.2), none, none, none]) S dX2_entry_183 (by decide) rfl ?_
          have hz := hj6 _ (Option.some.inj h).symm
          exact hz
        replace h := e9
        clear e9
        refine i_icmp_ne (tgt := 175) S dX2_entry_168 (by decide) (fun q8 => ?_) (fun q8 => ?_)
        · replace h := (if_neg q8).symm.trans h
          refine i_lconst (v := 1) S dX2_entry_175 lc_1 ?_
          refine i_iload S dX2_entry_176 rfl ?_
          refine i_callSN (As := [.int p4]) (st1 := [.int (f_X11_mannerSecond p4), .long ((1 : Int64)), .long (s.1 ||| ((1 : Int64) <<< ((f_X11_mannerFirst p4).toInt64 &&& 63)))]) S (c_X11_mannerSecond g (d + 4) rfl) mw_X11_mannerSecond lk_X2_66 im_X11_mannerSecond dX2_entry_178 rfl rfl (Nat.le_of_ble_eq_true rfl) rfl ?_
          refine i_lshl S dX2_entry_181 ?_
          refine i_mask (L1 := [some (rf g 45), none, some (.int x2), some (rf g o3), none, none, some (.long (s.2.1 ||| ((1 : Int64) <<< (p3.toInt64 &&& 63)))), none, some (.int (s.2.2.1 ||| ((1 : Int32) <<< (p7 &&& 31)))), some (.int s.2.2.2), none, none, none]) S [true, false, true, true, false, false, true, false, true, true, false, false, false] rfl ?_
          have hz := hj9 _ (Option.some.inj h).symm
          exact hz
        · replace h := (if_pos q8).symm.trans h
          refine i_lconst (v := 0) S dX2_entry_171 lc_0 ?_
          refine i_goto (tgt := 182) S dX2_entry_172 (by decide) ?_
          refine i_mask (L1 := [some (rf g 45), none, some (.int x2), some (rf g o3), none, none, some (.long (s.2.1 ||| ((1 : Int64) <<< (p3.toInt64 &&& 63)))), none, some (.int (s.2.2.1 ||| ((1 : Int32) <<< (p7 &&& 31)))), some (.int s.2.2.2), none, none, none]) S [true, false, true, true, false, false, true, false, true, true, false, false, false] rfl ?_
          have hz := hj9 _ (Option.some.inj h).symm
          exact hz
      · replace h := (if_pos q5).symm.trans h
        refine i_iload S dX2_entry_119 rfl ?_
        refine i_iconst (v := 1) S dX2_entry_121 ic_1 ?_
        refine i_iload S dX2_entry_122 rfl ?_
        refine i_callSN (As := [.int p4]) (st1 := [.int (f_X11_mannerFirst p4), .int ((1 : Int32)), .int s.2.2.1]) S (c_X11_mannerFirst g (d + 4) rfl) mw_X11_mannerFirst lk_X2_60 im_X11_mannerFirst dX2_entry_124 rfl rfl (Nat.le_of_ble_eq_true rfl) rfl ?_
        refine i_ishl S dX2_entry_127 ?_
        refine i_ior S dX2_entry_128 ?_
        refine i_istore (L1 := [some (rf g 45), none, some (.int x2), some (rf g o3), some (.long s.1), none, some (.long (s.2.1 ||| ((1 : Int64) <<< (p3.toInt64 &&& 63)))), none, some (.int (s.2.2.1 ||| ((1 : Int32) <<< ((f_X11_mannerFirst p4) &&& 31)))), some (.int s.2.2.2), some (.int p3), some (.int p4), some (.int (f_X11_mannerKind p4))]) S dX2_entry_129 (by decide) rfl ?_
        refine i_goto (tgt := 185) S dX2_entry_131 (by decide) ?_
        refine i_mask (L1 := [some (rf g 45), none, some (.int x2), some (rf g o3), some (.long s.1), none, some (.long (s.2.1 ||| ((1 : Int64) <<< (p3.toInt64 &&& 63)))), none, some (.int (s.2.2.1 ||| ((1 : Int32) <<< ((f_X11_mannerFirst p4) &&& 31)))), some (.int s.2.2.2), none, none, none]) S [true, false, true, true, true, false, true, false, true, true, false, false, false] rfl ?_
        have hz := hj6 _ (Option.some.inj h).symm
        exact hz
set_option maxHeartbeats 4000000 in
set_option maxRecDepth 100000 in
theorem c_X2_entry (g : Gx) (d : Nat) {x1 : Int32} {w : Mm} {p : (Int32 × Mm)} (hL : Lay w) (h : f_X2_entry x1 w = some p) : Call g (d + 6) yX2_entry cX2_entry 13 (some .int) [rf g 45, .int x1] w (some (.int p.1)) p.2 := by
  refine call_of (L0 := [some (rf g 45), some (.int x1), none, none, none, none, none, none, none, none, none, none, none]) (by decide) rfl (Nat.le_of_ble_eq_true rfl) (fun V S0 => ?_)
  have S := S0.b
  unfold f_X2_entry at h
  refine i_aload_n S dX2_entry_0 rfl ?_
  refine i_getR S fl_X2_15 (k45 hL) (r45_0 hL) rfl dX2_entry_1 ?_
  refine i_getIv (v := gI w 1 5) S fl_X2_23 (k1 hL) rfl rfl dX2_entry_4 ?_
  refine i_iload_n S dX2_entry_7 rfl ?_
  refine i_callSN (As := [.int (gI w 1 5), .int x1]) (st1 := [.int (f_X11_without (gI w 1 5) x1)]) S (c_X11_without g (d + 4) rfl) mw_X11_without lk_X2_29 im_X11_without dX2_entry_8 rfl rfl (Nat.le_of_ble_eq_true rfl) rfl ?_
  refine i_istore_n (L1 := [some (rf g 45), some (.int x1), some (.int (f_X11_without (gI w 1 5) x1)), none, none, none, none, none, none, none, none, none, none]) S dX2_entry_11 (by decide) rfl ?_
  refine i_aload_n S dX2_entry_12 rfl ?_
  refine i_getR S fl_X2_19 (k45 hL) (r45_1 hL) rfl dX2_entry_13 ?_
  refine i_iload_n S dX2_entry_16 rfl ?_
  obtain ⟨p1, e1, h⟩ := bn h
  refine i_callV (As := [.int (f_X11_without (gI w 1 5) x1)]) (st1 := [rf g p1.1]) S (c_X9_speech g d hL e1) mw_X9_speech lk_X2_33 im_X9_speech se_X9_speech ci_9.1 ci_9.2.1 (k14 hL) dX2_entry_17 rfl rfl (Nat.le_of_ble_eq_true rfl) rfl ?_
  refine i_astore_n (L1 := [some (rf g 45), some (.int x1), some (.int (f_X11_without (gI w 1 5) x1)), some (rf g p1.1), none, none, none, none, none, none, none, none, none]) S dX2_entry_20 (by decide) rfl ?_
  refine i_aload_n S dX2_entry_21 rfl ?_
  refine i_aload_n S dX2_entry_22 rfl ?_
  obtain ⟨hL2, h⟩ := onLn h
  refine i_getR S fl_X2_15 (k45 hL2) (r45_0 hL2) rfl dX2_entry_23 ?_
  refine i_iload_n S dX2_entry_26 rfl ?_
  obtain ⟨p3, e3, h⟩ := bn h
  refine i_callV (As := [.int x1]) (st1 := [.int p3, rf g p1.1]) S (c_X3_meaningOf g (d + 3) hL2 e3) mw_X3_meaningOf lk_X2_39 im_X3_meaningOf se_X3_meaningOf ci_3.1 ci_3.2.1 (k1 hL2) dX2_entry_27 rfl rfl (Nat.le_of_ble_eq_true rfl) rfl ?_
  obtain ⟨hs4, h⟩ := gd h
  obtain ⟨p5, e5, h⟩ := bn h
  refine i_callV (As := [.int p3]) (st1 := [.int p5]) S (c_X7_shortest g (d + 4) hL2 hs4 e5) mw_X7_shortest lk_X2_43 im_X7_shortest se_X7_shortest ci_7.1 ci_7.2.1 (sp_k0 hs4) dX2_entry_30 rfl rfl (Nat.le_of_ble_eq_true rfl) rfl ?_
  refine i_bipush (v := -2) S dX2_entry_33 bp_m2 ?_
  refine i_icmp_ne (tgt := 40) S dX2_entry_35 (by decide) (fun q6 => ?_) (fun q6 => ?_)
  · replace h := (if_neg q6).symm.trans h
    refine i_lconst (v := 1) S dX2_entry_40 lc_1 ?_
    refine i_aload_n S dX2_entry_41 rfl ?_
    refine i_getR S fl_X2_15 (k45 hL2) (r45_0 hL2) rfl dX2_entry_42 ?_
    refine i_iload_n S dX2_entry_45 rfl ?_
    obtain ⟨p7, e7, h⟩ := bn h
    refine i_callV (As := [.int x1]) (st1 := [.int p7, .long ((1 : Int64))]) S (c_X3_meaningOf g (d + 3) hL2 e7) mw_X3_meaningOf lk_X2_39 im_X3_meaningOf se_X3_meaningOf ci_3.1 ci_3.2.1 (k1 hL2) dX2_entry_46 rfl rfl (Nat.le_of_ble_eq_true rfl) rfl ?_
    refine i_lshl S dX2_entry_49 ?_
    refine i_lstore (L1 := [some (rf g 45), some (.int x1), some (.int (f_X11_without (gI w 1 5) x1)), some (rf g p1.1), some (.long ((1 : Int64) <<< (p7.toInt64 &&& 63))), none, none, none, none, none, none, none, none]) S dX2_entry_50 (by decide) rfl ?_
    refine i_lconst (v := 0) S dX2_entry_52 lc_0 ?_
    refine i_lstore (L1 := [some (rf g 45), some (.int x1), some (.int (f_X11_without (gI w 1 5) x1)), some (rf g p1.1), some (.long ((1 : Int64) <<< (p7.toInt64 &&& 63))), none, some (.long ((0 : Int64))), none, none, none, none, none, none]) S dX2_entry_53 (by decide) rfl ?_
    refine i_iconst (v := 0) S dX2_entry_55 ic_0 ?_
    refine i_istore (L1 := [some (rf g 45), some (.int x1), some (.int (f_X11_without (gI w 1 5) x1)), some (rf g p1.1), some (.long ((1 : Int64) <<< (p7.toInt64 &&& 63))), none, some (.long ((0 : Int64))), none, some (.int ((0 : Int32))), none, none, none, none]) S dX2_entry_56 (by decide) rfl ?_
    refine i_iconst (v := 0) S dX2_entry_58 ic_0 ?_
    refine i_istore (L1 := [some (rf g 45), some (.int x1), some (.int (f_X11_without (gI w 1 5) x1)), some (rf g p1.1), some (.long ((1 : Int64) <<< (p7.toInt64 &&& 63))), none, some (.long ((0 : Int64))), none, some (.int ((0 : Int32))), some (.int ((0 : Int32))), none, none, none]) S dX2_entry_59 (by decide) rfl ?_
    refine i_mask (L1 := [some (rf g 45), none, some (.int (f_X11_without (gI w 1 5) x1)), some (rf g p1.1), some (.long ((1 : Int64) <<< (p7.toInt64 &&& 63))), none, some (.long ((0 : Int64))), none, some (.int ((0 : Int32))), some (.int ((0 : Int32))), none, none, none]) S [true, false, true, true, true, false, true, false, true, true, false, false, false] rfl ?_
    obtain ⟨p8, e8, h⟩ := bn h
    have hE8 : V 191 [none, none, none, none, none, none, none, none, some (.int p8), none, none, none, none] [] p1.2 := by
      refine i_iload S dX2_entry_191 rfl ?_
      cases h
      exact i_iret S0 rfl dX2_entry_193
    exact wh_V (P := fun sv8 => V 61 [some (rf g 45), none, some (.int (f_X11_without (gI w 1 5) x1)), some (rf g p1.1), some (.long sv8.1), none, some (.long sv8.2.1), none, some (.int sv8.2.2.1), some (.int sv8.2.2.2), none, none, none] [] p1.2) (E := fun xv8 => V 191 [none, none, none, none, none, none, none, none, some (.int xv8), none, none, none, none] [] p1.2) (fun sv8 ev hb hc he => t_l_X2_entry_61 (w := p1.2)  S hL2 hs4 sv8 ev hb hc he) FUEL _ _ e8 hE8
  · replace h := (if_pos q6).symm.trans h
    refine i_iconst (v := 0) S dX2_entry_38 ic_0 ?_
    cases h
    exact i_iret S0 rfl dX2_entry_39
/-! WordYear$Lexicon.isPlainInUse -/
noncomputable def f_X3_isPlainInUse (x1 : Int32) (w : Mm) : Option Int32 := if (f_X11_contains (gI w 1 5) x1) = 0 then (some (0 : Int32)) else (if inb x1 10 = true then (if (gI w 2 (ix x1)) = 0 then (some (1 : Int32)) else (some (0 : Int32))) else none)
set_option maxHeartbeats 4000000 in
set_option maxRecDepth 100000 in
theorem c_X3_isPlainInUse (g : Gx) (d : Nat) {x1 : Int32} {w : Mm} {p : Int32} (hL : Lay w) (h : f_X3_isPlainInUse x1 w = some p) : Call g (d + 2) yX3_isPlainInUse cX3_isPlainInUse 2 (some .boolean) [rf g 1, .int x1] w (some (.int p)) w := by
  refine call_of (L0 := [some (rf g 1), some (.int x1)]) (by decide) rfl (Nat.le_of_ble_eq_true rfl) (fun V S0 => ?_)
  have S := S0.b
  unfold f_X3_isPlainInUse at h
  refine i_aload_n S dX3_isPlainInUse_0 rfl ?_
  refine i_getIv (v := gI w 1 5) S fl_X3_28 (k1 hL) rfl rfl dX3_isPlainInUse_1 ?_
  refine i_iload_n S dX3_isPlainInUse_4 rfl ?_
  refine i_callSN (As := [.int (gI w 1 5), .int x1]) (st1 := [.int (f_X11_contains (gI w 1 5) x1)]) S (c_X11_contains g d rfl) mw_X11_contains lk_X3_31 im_X11_contains dX3_isPlainInUse_5 rfl rfl (Nat.le_of_ble_eq_true rfl) rfl ?_
  refine i_if_eq (tgt := 24) S dX3_isPlainInUse_8 (by decide) (fun q1 => ?_) (fun q1 => ?_)
  · replace h := (if_pos q1).symm.trans h
    refine i_iconst (v := 0) S dX3_isPlainInUse_24 ic_0 ?_
    cases h
    exact i_iret S0 rfl dX3_isPlainInUse_25
  · replace h := (if_neg q1).symm.trans h
    refine i_aload_n S dX3_isPlainInUse_11 rfl ?_
    refine i_getR S fl_X3_9 (k1 hL) (r1_0 hL) rfl dX3_isPlainInUse_12 ?_
    refine i_iload_n S dX3_isPlainInUse_15 rfl ?_
    obtain ⟨hi3, h⟩ := gd h
    refine i_ialdv (v := gI w 2 (ix x1)) S (k2 hL) hi3 rfl dX3_isPlainInUse_16 ?_
    refine i_if_ne (tgt := 24) S dX3_isPlainInUse_17 (by decide) (fun q4 => ?_) (fun q4 => ?_)
    · replace h := (if_neg q4).symm.trans h
      refine i_iconst (v := 0) S dX3_isPlainInUse_24 ic_0 ?_
      cases h
      exact i_iret S0 rfl dX3_isPlainInUse_25
    · replace h := (if_pos q4).symm.trans h
      refine i_iconst (v := 1) S dX3_isPlainInUse_20 ic_1 ?_
      refine i_goto (tgt := 25) S dX3_isPlainInUse_21 (by decide) ?_
      cases h
      exact i_iret S0 rfl dX3_isPlainInUse_25
