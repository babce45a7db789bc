/-! WordYear$Rule.startsSingle -/
noncomputable def f_X6_startsSingle (x0 : Int32) : Int32 := if x0 = (45 : Int32) then ((1 : Int32)) else (if x0 = (40 : Int32) then ((1 : Int32)) else (if (f_X6_isLetter x0) = 0 then ((0 : Int32)) else ((1 : Int32))))
set_option maxHeartbeats 4000000 in
set_option maxRecDepth 100000 in
theorem c_X6_startsSingle (g : Gx) (d : Nat) {x0 : Int32} {w : Mm} {p : Int32}  (h : f_X6_startsSingle x0 = p) : Call g (d + 2) yX6_startsSingle cX6_startsSingle 1 (some .boolean) [.int x0] w (some (.int p)) w := by
  refine call_of (L0 := [some (.int x0)]) (by decide) rfl (Nat.le_of_ble_eq_true rfl) (fun V S0 => ?_)
  have S := S0.b
  unfold f_X6_startsSingle at h
  refine i_iload_n S dX6_startsSingle_0 rfl ?_
  refine i_bipush (v := 45) S dX6_startsSingle_1 bp_45 ?_
  refine i_icmp_eq (tgt := 19) S dX6_startsSingle_3 (by decide) (fun q1 => ?_) (fun q1 => ?_)
  · replace h := (if_pos q1).symm.trans h
    refine i_iconst (v := 1) S dX6_startsSingle_19 ic_1 ?_
    refine i_goto (tgt := 24) S dX6_startsSingle_20 (by decide) ?_
    subst h
    exact i_iret S0 rfl dX6_startsSingle_24
  · replace h := (if_neg q1).symm.trans h
    refine i_iload_n S dX6_startsSingle_6 rfl ?_
    refine i_bipush (v := 40) S dX6_startsSingle_7 bp_40 ?_
    refine i_icmp_eq (tgt := 19) S dX6_startsSingle_9 (by decide) (fun q2 => ?_) (fun q2 => ?_)
    · replace h := (if_pos q2).symm.trans h
      refine i_iconst (v := 1) S dX6_startsSingle_19 ic_1 ?_
      refine i_goto (tgt := 24) S dX6_startsSingle_20 (by decide) ?_
      subst h
      exact i_iret S0 rfl dX6_startsSingle_24
    · replace h := (if_neg q2).symm.trans h
      refine i_iload_n S dX6_startsSingle_12 rfl ?_
      refine i_callS (As := [.int x0]) (st1 := [.int (f_X6_isLetter x0)]) S (c_X6_isLetter g d rfl) mw_X6_isLetter lk_X6_88 im_X6_isLetter dX6_startsSingle_13 rfl rfl (Nat.le_of_ble_eq_true rfl) rfl ?_
      refine i_if_eq (tgt := 23) S dX6_startsSingle_16 (by decide) (fun q3 => ?_) (fun q3 => ?_)
      · replace h := (if_pos q3).symm.trans h
        refine i_iconst (v := 0) S dX6_startsSingle_23 ic_0 ?_
        subst h
        exact i_iret S0 rfl dX6_startsSingle_24
      · replace h := (if_neg q3).symm.trans h
        refine i_iconst (v := 1) S dX6_startsSingle_19 ic_1 ?_
        refine i_goto (tgt := 24) S dX6_startsSingle_20 (by decide) ?_
        subst h
        exact i_iret S0 rfl dX6_startsSingle_24
theorem b_X6_startsSingle (x0 : Int32) : isB (f_X6_startsSingle x0) = true := by
  unfold f_X6_startsSingle
  repeat' split
  all_goals first | rfl | exact b_X6_isLetter _
/-! WordYear$Rule.both -/
noncomputable def l_X6_both_8 (rec : Nat → Nat → Int32 → Mm → Option (Int32 × Mm)) (o0 : Nat) (x1 : Int32) (s : Int32 × Int32 × Mm) : Option ((Int32 × Int32 × Mm) ⊕ (Int32 × Mm)) := if (60 : Int32) ≤ s.2.1 then (some (.inr (s.1, s.2.2))) else (onL s.2.2 (Option.bind (f_X8_sign s.2.2) (fun p3 => if (f_X6_startsSingle p3) = 0 then (some (.inr (s.1, s.2.2))) else (Option.bind (rec 2 o0 x1 (sI s.2.2 o0 7 ((gI s.2.2 o0 7) + (1 : Int32)))) (fun p5 => some (.inl (s.1 &&& p5.1, s.2.1 + (1 : Int32), p5.2)))))))
noncomputable def gf_X6_both (rec : Nat → Nat → Int32 → Mm → Option (Int32 × Mm)) (o0 : Nat) (x1 : Int32) (w : Mm) : Option (Int32 × Mm) := Option.bind (rec 2 o0 x1 w) (fun p1 => Option.bind (wh (l_X6_both_8 rec o0 x1) FUEL (p1.1, (0 : Int32), p1.2)) (fun p2 => some (p2.1, p2.2)))
set_option maxHeartbeats 4000000 in
set_option maxRecDepth 100000 in
theorem t_l_X6_both_8 {g : Gx} {V : Vt} {dq : Nat} {rec : Nat → Nat → Int32 → Mm → Option (Int32 × Mm)} (hk0 : 3 ≤ dq) (hrec0 : ∀ (g : Gx) (o0 : Nat) (x1 : Int32) (w : Mm) {p : (Int32 × Mm)}, Lay w → isRl o0 = true → rec 0 o0 x1 w = some p → Call g (dq) yX6_both cX6_both 4 (some .int) [rf g o0, .int x1] w (some (.int p.1)) p.2) (hrec1 : ∀ (g : Gx) (o0 : Nat) (x1 : Int32) (w : Mm) {p : (Int32 × Mm)}, Lay w → isRl o0 = true → rec 1 o0 x1 w = some p → Call g (dq) yX6_either cX6_either 4 (some .int) [rf g o0, .int x1] w (some (.int p.1)) p.2) (hrec2 : ∀ (g : Gx) (o0 : Nat) (x1 : Int32) (w : Mm) {p : (Int32 × Mm)}, Lay w → isRl o0 = true → rec 2 o0 x1 w = some p → Call g (dq) yX6_single cX6_single 4 (some .int) [rf g o0, .int x1] w (some (.int p.1)) p.2) (S : MachB g yX6_both cX6_both 4 (dq) V) {o0 : Nat} {x1 : Int32} (ho0 : isRl o0 = true) (s : Int32 × Int32 × Mm) (e : (Int32 × Int32 × Mm) ⊕ (Int32 × Mm)) (h : l_X6_both_8 rec o0 x1 s = some e) (hC : ∀ s2, e = .inl s2 → V 8 [some (rf g o0), some (.int x1), some (.int s2.1), some (.int s2.2.1)] [] s2.2.2) (hE : ∀ x, e = .inr x → V 51 [none, none, some (.int x.1), none] [] x.2) : V 8 [some (rf g o0), some (.int x1), some (.int s.1), some (.int s.2.1)] [] s.2.2 := by
  unfold l_X6_both_8 at h
  refine i_iload_n S dX6_both_8 rfl ?_
  refine i_bipush (v := 60) S dX6_both_9 bp_60 ?_
  refine i_icmp_ge (tgt := 51) S dX6_both_11 (by decide) (fun q1 => ?_) (fun q1 => ?_)
  · replace h := (if_pos q1).symm.trans h
    refine i_mask (L1 := [none, none, some (.int s.1), none]) S [false, false, true, false] rfl ?_
    have hz := hE _ (Option.some.inj h).symm
    exact hz
  · replace h := (if_neg q1).symm.trans h
    refine i_aload_n S dX6_both_14 rfl ?_
    obtain ⟨hL2, h⟩ := onLn h
    refine i_getR S fl_X6_9 (rl_k hL2 ho0) (rl_r0 hL2 ho0) rfl dX6_both_15 ?_
    obtain ⟨p3, e3, h⟩ := bn h
    refine i_callV (As := []) (st1 := [.int p3]) S (Call.lift (by omega) (c_X8_sign g ((dq - 1)) hL2 e3)) mw_X8_sign lk_X6_75 im_X8_sign se_X8_sign ci_8.1 ci_8.2.1 (k12 hL2) dX6_both_18 rfl rfl (Nat.le_of_ble_eq_true rfl) rfl ?_
    refine i_callS (As := [.int p3]) (st1 := [.int (f_X6_startsSingle p3)]) S (Call.lift (by omega) (c_X6_startsSingle g ((dq - 2)) rfl)) mw_X6_startsSingle lk_X6_84 im_X6_startsSingle dX6_both_21 rfl rfl (Nat.le_of_ble_eq_true rfl) rfl ?_
    refine i_if_eq (tgt := 51) S dX6_both_24 (by decide) (fun q4 => ?_) (fun q4 => ?_)
    · replace h := (if_pos q4).symm.trans h
      refine i_mask (L1 := [none, none, some (.int s.1), none]) S [false, false, true, false] rfl ?_
      have hz := hE _ (Option.some.inj h).symm
      exact hz
    · replace h := (if_neg q4).symm.trans h
      refine i_aload_n S dX6_both_27 rfl ?_
      refine i_dup S dX6_both_28 rfl ?_
      refine i_getIv (v := gI s.2.2 o0 7) S fl_X6_29 (rl_k hL2 ho0) rfl rfl dX6_both_29 ?_
      refine i_iconst (v := 1) S dX6_both_32 ic_1 ?_
      refine i_iadd S dX6_both_33 ?_
      refine i_putI S fl_X6_29 (rl_k hL2 ho0) rfl rfl rfl dX6_both_34 ?_
      refine i_iload_n S dX6_both_37 rfl ?_
      refine i_aload_n S dX6_both_38 rfl ?_
      refine i_iload_n S dX6_both_39 rfl ?_
      obtain ⟨p5, e5, h⟩ := bn h
      refine i_callV (As := [.int x1]) (st1 := [.int p5.1, .int s.1]) S (hrec2 _ _ _ _ hL2 ho0 e5) mw_X6_single lk_X6_81 im_X6_single se_X6_single ci_6.1 ci_6.2.1 (rl_k hL2 ho0) dX6_both_40 rfl rfl (Nat.le_of_ble_eq_true rfl) rfl ?_
      refine i_iand S dX6_both_43 ?_
      refine i_istore_n (L1 := [some (rf g o0), some (.int x1), some (.int (s.1 &&& p5.1)), some (.int s.2.1)]) S dX6_both_44 (by decide) rfl ?_
      refine i_iinc (L1 := [some (rf g o0), some (.int x1), some (.int (s.1 &&& p5.1)), some (.int (s.2.1 + (1 : Int32)))]) S dX6_both_45 rfl ic_1 (by decide) rfl ?_
      refine i_goto (tgt := 8) S dX6_both_48 (by decide) ?_
      have hz := hC _ (Option.some.inj h).symm
      exact hz
set_option maxHeartbeats 4000000 in
set_option maxRecDepth 100000 in
theorem cb_X6_both (g : Gx) {dq : Nat} {rec : Nat → Nat → Int32 → Mm → Option (Int32 × Mm)} (hk0 : 3 ≤ dq) (hrec0 : ∀ (g : Gx) (o0 : Nat) (x1 : Int32) (w : Mm) {p : (Int32 × Mm)}, Lay w → isRl o0 = true → rec 0 o0 x1 w = some p → Call g (dq) yX6_both cX6_both 4 (some .int) [rf g o0, .int x1] w (some (.int p.1)) p.2) (hrec1 : ∀ (g : Gx) (o0 : Nat) (x1 : Int32) (w : Mm) {p : (Int32 × Mm)}, Lay w → isRl o0 = true → rec 1 o0 x1 w = some p → Call g (dq) yX6_either cX6_either 4 (some .int) [rf g o0, .int x1] w (some (.int p.1)) p.2) (hrec2 : ∀ (g : Gx) (o0 : Nat) (x1 : Int32) (w : Mm) {p : (Int32 × Mm)}, Lay w → isRl o0 = true → rec 2 o0 x1 w = some p → Call g (dq) yX6_single cX6_single 4 (some .int) [rf g o0, .int x1] w (some (.int p.1)) p.2) {o0 : Nat} {x1 : Int32} {w : Mm} {p : (Int32 × Mm)} (hL : Lay w) (ho0 : isRl o0 = true) (h : gf_X6_both rec o0 x1 w = some p) : Call g (dq + 1) yX6_both cX6_both 4 (some .int) [rf g o0, .int x1] w (some (.int p.1)) p.2 := by
  refine call_of (L0 := [some (rf g o0), some (.int x1), none, none]) (by decide) rfl (Nat.le_of_ble_eq_true rfl) (fun V S0 => ?_)
  have S := S0.b
  unfold gf_X6_both at h
  refine i_aload_n S dX6_both_0 rfl ?_
  refine i_iload_n S dX6_both_1 rfl ?_
  obtain ⟨p1, e1, h⟩ := bn h
  refine i_callV (As := [.int x1]) (st1 := [.int p1.1]) S (hrec2 _ _ _ _ hL ho0 e1) mw_X6_single lk_X6_81 im_X6_single se_X6_single ci_6.1 ci_6.2.1 (rl_k hL ho0) dX6_both_2 rfl rfl (Nat.le_of_ble_eq_true rfl) rfl ?_
  refine i_istore_n (L1 := [some (rf g o0), some (.int x1), some (.int p1.1), none]) S dX6_both_5 (by decide) rfl ?_
  refine i_iconst (v := 0) S dX6_both_6 ic_0 ?_
  refine i_istore_n (L1 := [some (rf g o0), some (.int x1), some (.int p1.1), some (.int ((0 : Int32)))]) S dX6_both_7 (by decide) rfl ?_
  obtain ⟨p2, e2, h⟩ := bn h
  have hE2 : V 51 [none, none, some (.int p2.1), none] [] p2.2 := by
    refine i_iload_n S dX6_both_51 rfl ?_
    cases h
    exact i_iret S0 rfl dX6_both_52
  exact wh_V (P := fun sv2 => V 8 [some (rf g o0), some (.int x1), some (.int sv2.1), some (.int sv2.2.1)] [] sv2.2.2) (E := fun xv2 => V 51 [none, none, some (.int xv2.1), none] [] xv2.2) (fun sv2 ev hb hc he => t_l_X6_both_8  hk0 hrec0 hrec1 hrec2 S ho0 sv2 ev hb hc he) FUEL _ _ e2 hE2
/-! WordYear$Rule.either -/
noncomputable def l_X6_either_8 (rec : Nat → Nat → Int32 → Mm → Option (Int32 × Mm)) (o0 : Nat) (x1 : Int32) (s : Int32 × Int32 × Mm) : Option ((Int32 × Int32 × Mm) ⊕ (Int32 × Mm)) := if (60 : Int32) ≤ s.2.1 then (some (.inr (s.1, s.2.2))) else (onL s.2.2 (Option.bind (f_X8_sign s.2.2) (fun p3 => if p3 = (43 : Int32) then (Option.bind (f_X8_step s.2.2) (fun p5 => onL p5 (Option.bind (rec 0 o0 x1 (sI p5 o0 8 ((gI p5 o0 8) + (1 : Int32)))) (fun p7 => some (.inl (s.1 ||| p7.1, s.2.1 + (1 : Int32), p7.2)))))) else (some (.inr (s.1, s.2.2))))))
noncomputable def gf_X6_either (rec : Nat → Nat → Int32 → Mm → Option (Int32 × Mm)) (o0 : Nat) (x1 : Int32) (w : Mm) : Option (Int32 × Mm) := Option.bind (rec 0 o0 x1 w) (fun p1 => Option.bind (wh (l_X6_either_8 rec o0 x1) FUEL (p1.1, (0 : Int32), p1.2)) (fun p2 => some (p2.1, p2.2)))
set_option maxHeartbeats 4000000 in
set_option maxRecDepth 100000 in
theorem t_l_X6_either_8 {g : Gx} {V : Vt} {dq : Nat} {rec : Nat → Nat → Int32 → Mm → Option (Int32 × Mm)} (hk0 : 3 ≤ dq) (hrec0 : ∀ (g : Gx) (o0 : Nat) (x1 : Int32) (w : Mm) {p : (Int32 × Mm)}, Lay w → isRl o0 = true → rec 0 o0 x1 w = some p → Call g (dq) yX6_both cX6_both 4 (some .int) [rf g o0, .int x1] w (some (.int p.1)) p.2) (hrec1 : ∀ (g : Gx) (o0 : Nat) (x1 : Int32) (w : Mm) {p : (Int32 × Mm)}, Lay w → isRl o0 = true → rec 1 o0 x1 w = some p → Call g (dq) yX6_either cX6_either 4 (some .int) [rf g o0, .int x1] w (some (.int p.1)) p.2) (hrec2 : ∀ (g : Gx) (o0 : Nat) (x1 : Int32) (w : Mm) {p : (Int32 × Mm)}, Lay w → isRl o0 = true → rec 2 o0 x1 w = some p → Call g (dq) yX6_single cX6_single 4 (some .int) [rf g o0, .int x1] w (some (.int p.1)) p.2) (S : MachB g yX6_either cX6_either 4 (dq) V) {o0 : Nat} {x1 : Int32} (ho0 : isRl o0 = true) (s : Int32 × Int32 × Mm) (e : (Int32 × Int32 × Mm) ⊕ (Int32 × Mm)) (h : l_X6_either_8 rec o0 x1 s = some e) (hC : ∀ s2, e = .inl s2 → V 8 [some (rf g o0), some (.int x1), some (.int s2.1), some (.int s2.2.1)] [] s2.2.2) (hE : ∀ x, e = .inr x → V 57 [none, none, some (.int x.1), none] [] x.2) : V 8 [some (rf g o0), some (.int x1), some (.int s.1), some (.int s.2.1)] [] s.2.2 := by
  unfold l_X6_either_8 at h
  refine i_iload_n S dX6_either_8 rfl ?_
  refine i_bipush (v := 60) S dX6_either_9 bp_60 ?_
  refine i_icmp_ge (tgt := 57) S dX6_either_11 (by decide) (fun q1 => ?_) (fun q1 => ?_)
  · replace h := (if_pos q1).symm.trans h
    refine i_mask (L1 := [none, none, some (.int s.1), none]) S [false, false, true, false] rfl ?_
    have hz := hE _ (Option.some.inj h).symm
    exact hz
  · replace h := (if_neg q1).symm.trans h
    refine i_aload_n S dX6_either_14 rfl ?_
    obtain ⟨hL2, h⟩ := onLn h
    refine i_getR S fl_X6_9 (rl_k hL2 ho0) (rl_r0 hL2 ho0) rfl dX6_either_15 ?_
    obtain ⟨p3, e3, h⟩ := bn h
    refine i_callV (As := []) (st1 := [.int p3]) S (Call.lift (by omega) (c_X8_sign g ((dq - 1)) hL2 e3)) mw_X8_sign lk_X6_75 im_X8_sign se_X8_sign ci_8.1 ci_8.2.1 (k12 hL2) dX6_either_18 rfl rfl (Nat.le_of_ble_eq_true rfl) rfl ?_
    refine i_bipush (v := 43) S dX6_either_21 bp_43 ?_
    refine i_icmp_ne (tgt := 57) S dX6_either_23 (by decide) (fun q4 => ?_) (fun q4 => ?_)
    · replace h := (if_neg q4).symm.trans h
      refine i_mask (L1 := [none, none, some (.int s.1), none]) S [false, false, true, false] rfl ?_
      have hz := hE _ (Option.some.inj h).symm
      exact hz
    · replace h := (if_pos q4).symm.trans h
      refine i_aload_n S dX6_either_26 rfl ?_
      refine i_getR S fl_X6_9 (rl_k hL2 ho0) (rl_r0 hL2 ho0) rfl dX6_either_27 ?_
      obtain ⟨p5, e5, h⟩ := bn h
      refine i_callV (As := []) (st1 := []) S (Call.lift (by omega) (c_X8_step g ((dq - 1)) hL2 e5)) mw_X8_step lk_X6_78 im_X8_step se_X8_step ci_8.1 ci_8.2.1 (k12 hL2) dX6_either_30 rfl rfl (Nat.le_of_ble_eq_true rfl) rfl ?_
      refine i_aload_n S dX6_either_33 rfl ?_
      refine i_dup S dX6_either_34 rfl ?_
      obtain ⟨hL6, h⟩ := onLn h
      refine i_getIv (v := gI p5 o0 8) S fl_X6_32 (rl_k hL6 ho0) rfl rfl dX6_either_35 ?_
      refine i_iconst (v := 1) S dX6_either_38 ic_1 ?_
      refine i_iadd S dX6_either_39 ?_
      refine i_putI S fl_X6_32 (rl_k hL6 ho0) rfl rfl rfl dX6_either_40 ?_
      refine i_iload_n S dX6_either_43 rfl ?_
      refine i_aload_n S dX6_either_44 rfl ?_
      refine i_iload_n S dX6_either_45 rfl ?_
      obtain ⟨p7, e7, h⟩ := bn h
      refine i_callV (As := [.int x1]) (st1 := [.int p7.1, .int s.1]) S (hrec0 _ _ _ _ hL6 ho0 e7) mw_X6_both lk_X6_72 im_X6_both se_X6_both ci_6.1 ci_6.2.1 (rl_k hL6 ho0) dX6_either_46 rfl rfl (Nat.le_of_ble_eq_true rfl) rfl ?_
      refine i_ior S dX6_either_49 ?_
      refine i_istore_n (L1 := [some (rf g o0), some (.int x1), some (.int (s.1 ||| p7.1)), some (.int s.2.1)]) S dX6_either_50 (by decide) rfl ?_
      refine i_iinc (L1 := [some (rf g o0), some (.int x1), some (.int (s.1 ||| p7.1)), some (.int (s.2.1 + (1 : Int32)))]) S dX6_either_51 rfl ic_1 (by decide) rfl ?_
      refine i_goto (tgt := 8) S dX6_either_54 (by decide) ?_
      have hz := hC _ (Option.some.inj h).symm
      exact hz
set_option maxHeartbeats 4000000 in
set_option maxRecDepth 100000 in
theorem cb_X6_either (g : Gx) {dq : Nat} {rec : Nat → Nat → Int32 → Mm → Option (Int32 × Mm)} (hk0 : 3 ≤ dq) (hrec0 : ∀ (g : Gx) (o0 : Nat) (x1 : Int32) (w : Mm) {p : (Int32 × Mm)}, Lay w → isRl o0 = true → rec 0 o0 x1 w = some p → Call g (dq) yX6_both cX6_both 4 (some .int) [rf g o0, .int x1] w (some (.int p.1)) p.2) (hrec1 : ∀ (g : Gx) (o0 : Nat) (x1 : Int32) (w : Mm) {p : (Int32 × Mm)}, Lay w → isRl o0 = true → rec 1 o0 x1 w = some p → Call g (dq) yX6_either cX6_either 4 (some .int) [rf g o0, .int x1] w (some (.int p.1)) p.2) (hrec2 : ∀ (g : Gx) (o0 : Nat) (x1 : Int32) (w : Mm) {p : (Int32 × Mm)}, Lay w → isRl o0 = true → rec 2 o0 x1 w = some p → Call g (dq) yX6_single cX6_single 4 (some .int) [rf g o0, .int x1] w (some (.int p.1)) p.2) {o0 : Nat} {x1 : Int32} {w : Mm} {p : (Int32 × Mm)} (hL : Lay w) (ho0 : isRl o0 = true) (h : gf_X6_either rec o0 x1 w = some p) : Call g (dq + 1) yX6_either cX6_either 4 (some .int) [rf g o0, .int x1] w (some (.int p.1)) p.2 := by
  refine call_of (L0 := [some (rf g o0), some (.int x1), none, none]) (by decide) rfl (Nat.le_of_ble_eq_true rfl) (fun V S0 => ?_)
  have S := S0.b
  unfold gf_X6_either at h
  refine i_aload_n S dX6_either_0 rfl ?_
  refine i_iload_n S dX6_either_1 rfl ?_
  obtain ⟨p1, e1, h⟩ := bn h
  refine i_callV (As := [.int x1]) (st1 := [.int p1.1]) S (hrec0 _ _ _ _ hL ho0 e1) mw_X6_both lk_X6_72 im_X6_both se_X6_both ci_6.1 ci_6.2.1 (rl_k hL ho0) dX6_either_2 rfl rfl (Nat.le_of_ble_eq_true rfl) rfl ?_
  refine i_istore_n (L1 := [some (rf g o0), some (.int x1), some (.int p1.1), none]) S dX6_either_5 (by decide) rfl ?_
  refine i_iconst (v := 0) S dX6_either_6 ic_0 ?_
  refine i_istore_n (L1 := [some (rf g o0), some (.int x1), some (.int p1.1), some (.int ((0 : Int32)))]) S dX6_either_7 (by decide) rfl ?_
  obtain ⟨p2, e2, h⟩ := bn h
  have hE2 : V 57 [none, none, some (.int p2.1), none] [] p2.2 := by
    refine i_iload_n S dX6_either_57 rfl ?_
    cases h
    exact i_iret S0 rfl dX6_either_58
  exact wh_V (P := fun sv2 => V 8 [some (rf g o0), some (.int x1), some (.int sv2.1), some (.int sv2.2.1)] [] sv2.2.2) (E := fun xv2 => V 57 [none, none, some (.int xv2.1), none] [] xv2.2) (fun sv2 ev hb hc he => t_l_X6_either_8  hk0 hrec0 hrec1 hrec2 S ho0 sv2 ev hb hc he) FUEL _ _ e2 hE2
/-! WordYear$Rule.single -/
noncomputable def gf_X6_single (rec : Nat → Nat → Int32 → Mm → Option (Int32 × Mm)) (o0 : Nat) (x1 : Int32) (w : Mm) : Option (Int32 × Mm) := Option.bind (f_X8_sign w) (fun p1 => if (f_X6_isLetter p1) = 0 then (if (f_X6_startsSingle p1) = 0 then (Option.bind (f_X8_fail (1 : Int32) w) (fun p13 => some ((0 : Int32), p13))) else (Option.bind (f_X8_opens x1 w) (fun p4 => if p4.1 = 0 then (some ((0 : Int32), p4.2)) else (if p1 = (45 : Int32) then (onL p4.2 (Option.bind (rec 2 o0 (x1 + (1 : Int32)) (sI p4.2 o0 6 ((gI p4.2 o0 6) + (1 : Int32)))) (fun p12 => some ((63 : Int32) ^^^ p12.1, p12.2)))) else (onL p4.2 (Option.bind (rec 1 o0 (x1 + (1 : Int32)) p4.2) (fun p8 => onL p8.2 (Option.bind (f_X8_pass (41 : Int32) p8.2) (fun p10 => some (p8.1, p10)))))))))) else (Option.bind (f_X6_letter o0 (p1 - (97 : Int32)) w) (fun p14 => some (p14.1, p14.2))))
set_option maxHeartbeats 4000000 in
set_option maxRecDepth 100000 in
theorem cb_X6_single (g : Gx) {dq : Nat} {rec : Nat → Nat → Int32 → Mm → Option (Int32 × Mm)} (hk0 : 3 ≤ dq) (hrec0 : ∀ (g : Gx) (o0 : Nat) (x1 : Int32) (w : Mm) {p : (Int32 × Mm)}, Lay w → isRl o0 = true → rec 0 o0 x1 w = some p → Call g (dq) yX6_both cX6_both 4 (some .int) [rf g o0, .int x1] w (some (.int p.1)) p.2) (hrec1 : ∀ (g : Gx) (o0 : Nat) (x1 : Int32) (w : Mm) {p : (Int32 × Mm)}, Lay w → isRl o0 = true → rec 1 o0 x1 w = some p → Call g (dq) yX6_either cX6_either 4 (some .int) [rf g o0, .int x1] w (some (.int p.1)) p.2) (hrec2 : ∀ (g : Gx) (o0 : Nat) (x1 : Int32) (w : Mm) {p : (Int32 × Mm)}, Lay w → isRl o0 = true → rec 2 o0 x1 w = some p → Call g (dq) yX6_single cX6_single 4 (some .int) [rf g o0, .int x1] w (some (.int p.1)) p.2) {o0 : Nat} {x1 : Int32} {w : Mm} {p : (Int32 × Mm)} (hL : Lay w) (ho0 : isRl o0 = true) (h : gf_X6_single rec o0 x1 w = some p) : Call g (dq + 1) yX6_single cX6_single 4 (some .int) [rf g o0, .int x1] w (some (.int p.1)) p.2 := by
  refine call_of (L0 := [some (rf g o0), some (.int x1), none, none]) (by decide) rfl (Nat.le_of_ble_eq_true rfl) (fun V S0 => ?_)
  have S := S0.b
  unfold gf_X6_single at h
  refine i_aload_n S dX6_single_0 rfl ?_
  refine i_getR S fl_X6_9 (rl_k hL ho0) (rl_r0 hL ho0) rfl dX6_single_1 ?_
  obtain ⟨p1, e1, h⟩ := bn h
  refine i_callV (As := []) (st1 := [.int p1]) S (Call.lift (by omega) (c_X8_sign g ((dq - 1)) hL e1)) mw_X8_sign lk_X6_75 im_X8_sign se_X8_sign ci_8.1 ci_8.2.1 (k12 hL) dX6_single_4 rfl rfl (Nat.le_of_ble_eq_true rfl) rfl ?_
  refine i_istore_n (L1 := [some (rf g o0), some (.int x1), some (.int p1), none]) S dX6_single_7 (by decide) rfl ?_
  refine i_iload_n S dX6_single_8 rfl ?_
  refine i_callS (As := [.int p1]) (st1 := [.int (f_X6_isLetter p1)]) S (Call.lift (by omega) (c_X6_isLetter g ((dq - 1)) rfl)) mw_X6_isLetter lk_X6_88 im_X6_isLetter dX6_single_9 rfl rfl (Nat.le_of_ble_eq_true rfl) rfl ?_
  refine i_if_eq (tgt := 24) S dX6_single_12 (by decide) (fun q2 => ?_) (fun q2 => ?_)
  · replace h := (if_pos q2).symm.trans h
    refine i_iload_n S dX6_single_24 rfl ?_
    refine i_callS (As := [.int p1]) (st1 := [.int (f_X6_startsSingle p1)]) S (Call.lift (by omega) (c_X6_startsSingle g ((dq - 2)) rfl)) mw_X6_startsSingle lk_X6_84 im_X6_startsSingle dX6_single_25 rfl rfl (Nat.le_of_ble_eq_true rfl) rfl ?_
    refine i_if_ne (tgt := 41) S dX6_single_28 (by decide) (fun q3 => ?_) (fun q3 => ?_)
    · replace h := (if_neg q3).symm.trans h
      refine i_aload_n S dX6_single_41 rfl ?_
      refine i_getR S fl_X6_9 (rl_k hL ho0) (rl_r0 hL ho0) rfl dX6_single_42 ?_
      refine i_iload_n S dX6_single_45 rfl ?_
      obtain ⟨p4, e4, h⟩ := bn h
      refine i_callV (As := [.int x1]) (st1 := [.int p4.1]) S (Call.lift (by omega) (c_X8_opens g ((dq - 2)) hL e4)) mw_X8_opens lk_X6_94 im_X8_opens se_X8_opens ci_8.1 ci_8.2.1 (k12 hL) dX6_single_46 rfl rfl (Nat.le_of_ble_eq_true rfl) rfl ?_
      refine i_if_ne (tgt := 54) S dX6_single_49 (by decide) (fun q5 => ?_) (fun q5 => ?_)
      · replace h := (if_neg q5).symm.trans h
        refine i_iload_n S dX6_single_54 rfl ?_
        refine i_bipush (v := 45) S dX6_single_55 bp_45 ?_
        refine i_icmp_ne (tgt := 81) S dX6_single_57 (by decide) (fun q6 => ?_) (fun q6 => ?_)
        · replace h := (if_neg q6).symm.trans h
          refine i_aload_n S dX6_single_81 rfl ?_
          refine i_iload_n S dX6_single_82 rfl ?_
          refine i_iconst (v := 1) S dX6_single_83 ic_1 ?_
          refine i_iadd S dX6_single_84 ?_
          obtain ⟨hL7, h⟩ := onLn h
          obtain ⟨p8, e8, h⟩ := bn h
          refine i_callV (As := [.int (x1 + (1 : Int32))]) (st1 := [.int p8.1]) S (hrec1 _ _ _ _ hL7 ho0 e8) mw_X6_either lk_X6_41 im_X6_either se_X6_either ci_6.1 ci_6.2.1 (rl_k hL7 ho0) dX6_single_85 rfl rfl (Nat.le_of_ble_eq_true rfl) rfl ?_
          refine i_istore_n (L1 := [some (rf g o0), some (.int x1), some (.int p1), some (.int p8.1)]) S dX6_single_88 (by decide) rfl ?_
          refine i_aload_n S dX6_single_89 rfl ?_
          obtain ⟨hL9, h⟩ := onLn h
          refine i_getR S fl_X6_9 (rl_k hL9 ho0) (rl_r0 hL9 ho0) rfl dX6_single_90 ?_
          refine i_bipush (v := 41) S dX6_single_93 bp_41 ?_
          obtain ⟨p10, e10, h⟩ := bn h
          refine i_callV (As := [.int ((41 : Int32))]) (st1 := []) S (Call.lift (by omega) (c_X8_pass g ((dq - 2)) hL9 e10)) mw_X8_pass lk_X6_97 im_X8_pass se_X8_pass ci_8.1 ci_8.2.1 (k12 hL9) dX6_single_95 rfl rfl (Nat.le_of_ble_eq_true rfl) rfl ?_
          refine i_iload_n S dX6_single_98 rfl ?_
          cases h
          exact i_iret S0 rfl dX6_single_99
        · replace h := (if_pos q6).symm.trans h
          refine i_aload_n S dX6_single_60 rfl ?_
          refine i_dup S dX6_single_61 rfl ?_
          obtain ⟨hL11, h⟩ := onLn h
          refine i_getIv (v := gI p4.2 o0 6) S fl_X6_26 (rl_k hL11 ho0) rfl rfl dX6_single_62 ?_
          refine i_iconst (v := 1) S dX6_single_65 ic_1 ?_
          refine i_iadd S dX6_single_66 ?_
          refine i_putI S fl_X6_26 (rl_k hL11 ho0) rfl rfl rfl dX6_single_67 ?_
          refine i_bipush (v := 63) S dX6_single_70 bp_63 ?_
          refine i_aload_n S dX6_single_72 rfl ?_
          refine i_iload_n S dX6_single_73 rfl ?_
          refine i_iconst (v := 1) S dX6_single_74 ic_1 ?_
          refine i_iadd S dX6_single_75 ?_
          obtain ⟨p12, e12, h⟩ := bn h
          refine i_callV (As := [.int (x1 + (1 : Int32))]) (st1 := [.int p12.1, .int ((63 : Int32))]) S (hrec2 _ _ _ _ hL11 ho0 e12) mw_X6_single lk_X6_81 im_X6_single se_X6_single ci_6.1 ci_6.2.1 (rl_k hL11 ho0) dX6_single_76 rfl rfl (Nat.le_of_ble_eq_true rfl) rfl ?_
          refine i_ixor S dX6_single_79 ?_
          cases h
          exact i_iret S0 rfl dX6_single_80
      · replace h := (if_pos q5).symm.trans h
        refine i_iconst (v := 0) S dX6_single_52 ic_0 ?_
        cases h
        exact i_iret S0 rfl dX6_single_53
    · replace h := (if_pos q3).symm.trans h
      refine i_aload_n S dX6_single_31 rfl ?_
      refine i_getR S fl_X6_9 (rl_k hL ho0) (rl_r0 hL ho0) rfl dX6_single_32 ?_
      refine i_iconst (v := 1) S dX6_single_35 ic_1 ?_
      obtain ⟨p13, e13, h⟩ := bn h
      refine i_callV (As := [.int ((1 : Int32))]) (st1 := []) S (Call.lift (by omega) (c_X8_fail g ((dq - 1)) hL e13)) mw_X8_fail lk_X6_52 im_X8_fail se_X8_fail ci_8.1 ci_8.2.1 (k12 hL) dX6_single_36 rfl rfl (Nat.le_of_ble_eq_true rfl) rfl ?_
      refine i_iconst (v := 0) S dX6_single_39 ic_0 ?_
      cases h
      exact i_iret S0 rfl dX6_single_40
  · replace h := (if_neg q2).symm.trans h
    refine i_aload_n S dX6_single_15 rfl ?_
    refine i_iload_n S dX6_single_16 rfl ?_
    refine i_bipush (v := 97) S dX6_single_17 bp_97 ?_
    refine i_isub S dX6_single_19 ?_
    obtain ⟨p14, e14, h⟩ := bn h
    refine i_callV (As := [.int (p1 - (97 : Int32))]) (st1 := [.int p14.1]) S (Call.lift (by omega) (c_X6_letter g ((dq - 3)) hL ho0 e14)) mw_X6_letter lk_X6_91 im_X6_letter se_X6_letter ci_6.1 ci_6.2.1 (rl_k hL ho0) dX6_single_20 rfl rfl (Nat.le_of_ble_eq_true rfl) rfl ?_
    cases h
    exact i_iret S0 rfl dX6_single_23
noncomputable def rc_X6_both : Nat → Nat → Nat → Int32 → Mm → Option (Int32 × Mm)
  | 0, _, _, _, _ => none
  | n + 1, j, o0, x1, w => if j = 0 then gf_X6_both (rc_X6_both n) o0 x1 w else if j = 1 then gf_X6_either (rc_X6_both n) o0 x1 w else gf_X6_single (rc_X6_both n) o0 x1 w
set_option maxHeartbeats 4000000 in
theorem rt_X6_both (dk : Nat) (hk : 3 ≤ dk) : ∀ n : Nat, (∀ (g : Gx) (o0 : Nat) (x1 : Int32) (w : Mm) {p : (Int32 × Mm)}, Lay w → isRl o0 = true → rc_X6_both n 0 o0 x1 w = some p → Call g (dk + n) yX6_both cX6_both 4 (some .int) [rf g o0, .int x1] w (some (.int p.1)) p.2) ∧ (∀ (g : Gx) (o0 : Nat) (x1 : Int32) (w : Mm) {p : (Int32 × Mm)}, Lay w → isRl o0 = true → rc_X6_both n 1 o0 x1 w = some p → Call g (dk + n) yX6_either cX6_either 4 (some .int) [rf g o0, .int x1] w (some (.int p.1)) p.2) ∧ (∀ (g : Gx) (o0 : Nat) (x1 : Int32) (w : Mm) {p : (Int32 × Mm)}, Lay w → isRl o0 = true → rc_X6_both n 2 o0 x1 w = some p → Call g (dk + n) yX6_single cX6_single 4 (some .int) [rf g o0, .int x1] w (some (.int p.1)) p.2)
  | 0 => ⟨(by intro g _ _ w p hL ho0 h; cases h), (by intro g _ _ w p hL ho0 h; cases h), (by intro g _ _ w p hL ho0 h; cases h)⟩
  | n + 1 => by
    obtain ⟨h0, h1, h2⟩ := rt_X6_both dk hk n
    exact ⟨(by intro g _ _ w p hL ho0 h; exact cb_X6_both g (dq := dk + n) (by omega) h0 h1 h2 hL ho0 h), (by intro g _ _ w p hL ho0 h; exact cb_X6_either g (dq := dk + n) (by omega) h0 h1 h2 hL ho0 h), (by intro g _ _ w p hL ho0 h; exact cb_X6_single g (dq := dk + n) (by omega) h0 h1 h2 hL ho0 h)⟩
noncomputable def f_X6_both (o0 : Nat) (x1 : Int32) (w : Mm) : Option (Int32 × Mm) := rc_X6_both 100 0 o0 x1 w
theorem c_X6_both (g : Gx) (d : Nat) {o0 : Nat} {x1 : Int32} {w : Mm} {p : (Int32 × Mm)} (hL : Lay w) (ho0 : isRl o0 = true) (h : f_X6_both o0 x1 w = some p) : Call g (d + 103) yX6_both cX6_both 4 (some .int) [rf g o0, .int x1] w (some (.int p.1)) p.2 := (rt_X6_both (d + 3) (by omega) 100).1 g o0 x1 w hL ho0 h
noncomputable def f_X6_either (o0 : Nat) (x1 : Int32) (w : Mm) : Option (Int32 × Mm) := rc_X6_both 100 1 o0 x1 w
theorem c_X6_either (g : Gx) (d : Nat) {o0 : Nat} {x1 : Int32} {w : Mm} {p : (Int32 × Mm)} (hL : Lay w) (ho0 : isRl o0 = true) (h : f_X6_either o0 x1 w = some p) : Call g (d + 103) yX6_either cX6_either 4 (some .int) [rf g o0, .int x1] w (some (.int p.1)) p.2 := (rt_X6_both (d + 3) (by omega) 100).2.1 g o0 x1 w hL ho0 h
noncomputable def f_X6_single (o0 : Nat) (x1 : Int32) (w : Mm) : Option (Int32 × Mm) := rc_X6_both 100 2 o0 x1 w
theorem c_X6_single (g : Gx) (d : Nat) {o0 : Nat} {x1 : Int32} {w : Mm} {p : (Int32 × Mm)} (hL : Lay w) (ho0 : isRl o0 = true) (h : f_X6_single o0 x1 w = some p) : Call g (d + 103) yX6_single cX6_single 4 (some .int) [rf g o0, .int x1] w (some (.int p.1)) p.2 := (rt_X6_both (d + 3) (by omega) 100).2.2 g o0 x1 w hL ho0 h
/-! WordYear$Rule.read -/
noncomputable def f_X6_read (o0 : Nat) (x1 : Int32) (w : Mm) : Option (Int32 × Mm) := Option.bind (f_X8_startText x1 (sI (sI (sI (sI (sI w o0 4 (0 : Int32)) o0 5 (0 : Int32)) o0 6 (0 : Int32)) o0 7 (0 : Int32)) o0 8 (0 : Int32))) (fun p1 => onL p1 (Option.bind (f_X6_either o0 (0 : Int32) p1) (fun p3 => onL p3.2 (Option.bind (f_X8_isAtEnd (sI p3.2 o0 3 p3.1)) (fun p5 => Option.bind (if p5 = 0 then (Option.bind (f_X8_fail (1 : Int32) (sI p3.2 o0 3 p3.1)) (fun p13 => some p13)) else (some (sI p3.2 o0 3 p3.1))) (fun p7 => onL p7 (Option.bind (if (gI p7 12 4) = 0 then (some (1 : Int32)) else (some (0 : Int32))) (fun p10 => if isB p10 = true then (if (gI (sI p7 o0 2 p10) o0 2) = 0 then (some (gI (sI p7 o0 2 p10) 12 4, sI p7 o0 2 p10)) else (some (gI (sI p7 o0 2 p10) o0 3, sI p7 o0 2 p10))) else none))))))))
set_option maxHeartbeats 4000000 in
set_option maxRecDepth 100000 in
theorem c_X6_read (g : Gx) (d : Nat) {o0 : Nat} {x1 : Int32} {w : Mm} {p : (Int32 × Mm)} (hL : Lay w) (ho0 : isRl o0 = true) (h : f_X6_read o0 x1 w = some p) : Call g (d + 104) yX6_read cX6_read 2 (some .int) [rf g o0, .int x1] w (some (.int p.1)) p.2 := by
  refine call_of (L0 := [some (rf g o0), some (.int x1)]) (by decide) rfl (Nat.le_of_ble_eq_true rfl) (fun V S0 => ?_)
  have S := S0.b
  unfold f_X6_read at h
  refine i_aload_n S dX6_read_0 rfl ?_
  refine i_iconst (v := 0) S dX6_read_1 ic_0 ?_
  refine i_putI S fl_X6_19 (rl_k hL ho0) rfl rfl rfl dX6_read_2 ?_
  refine i_aload_n S dX6_read_5 rfl ?_
  refine i_iconst (v := 0) S dX6_read_6 ic_0 ?_
  refine i_putI S fl_X6_23 (rl_k hL ho0) rfl rfl rfl dX6_read_7 ?_
  refine i_aload_n S dX6_read_10 rfl ?_
  refine i_iconst (v := 0) S dX6_read_11 ic_0 ?_
  refine i_putI S fl_X6_26 (rl_k hL ho0) rfl rfl rfl dX6_read_12 ?_
  refine i_aload_n S dX6_read_15 rfl ?_
  refine i_iconst (v := 0) S dX6_read_16 ic_0 ?_
  refine i_putI S fl_X6_29 (rl_k hL ho0) rfl rfl rfl dX6_read_17 ?_
  refine i_aload_n S dX6_read_20 rfl ?_
  refine i_iconst (v := 0) S dX6_read_21 ic_0 ?_
  refine i_putI S fl_X6_32 (rl_k hL ho0) rfl rfl rfl dX6_read_22 ?_
  refine i_aload_n S dX6_read_25 rfl ?_
  refine i_getR S fl_X6_9 (rl_k hL ho0) (rl_r0 hL ho0) rfl dX6_read_26 ?_
  refine i_iload_n S dX6_read_29 rfl ?_
  obtain ⟨p1, e1, h⟩ := bn h
  refine i_callV (As := [.int x1]) (st1 := []) S (c_X8_startText g (d + 102) hL e1) mw_X8_startText lk_X6_35 im_X8_startText se_X8_startText ci_8.1 ci_8.2.1 (k12 hL) dX6_read_30 rfl rfl (Nat.le_of_ble_eq_true rfl) rfl ?_
  refine i_aload_n S dX6_read_33 rfl ?_
  refine i_aload_n S dX6_read_34 rfl ?_
  refine i_iconst (v := 0) S dX6_read_35 ic_0 ?_
  obtain ⟨hL2, h⟩ := onLn h
  obtain ⟨p3, e3, h⟩ := bn h
  refine i_callV (As := [.int ((0 : Int32))]) (st1 := [.int p3.1, rf g o0]) S (c_X6_either g d hL2 ho0 e3) mw_X6_either lk_X6_41 im_X6_either se_X6_either ci_6.1 ci_6.2.1 (rl_k hL2 ho0) dX6_read_36 rfl rfl (Nat.le_of_ble_eq_true rfl) rfl ?_
  obtain ⟨hL4, h⟩ := onLn h
  refine i_putI S fl_X6_45 (rl_k hL4 ho0) rfl rfl rfl dX6_read_39 ?_
  refine i_aload_n S dX6_read_42 rfl ?_
  refine i_getR S fl_X6_9 (rl_k hL4 ho0) (rl_r0 hL4 ho0) rfl dX6_read_43 ?_
  obtain ⟨p5, e5, h⟩ := bn h
  refine i_callV (As := []) (st1 := [.int p5]) S (c_X8_isAtEnd g (d + 102) hL4 e5) mw_X8_isAtEnd lk_X6_48 im_X8_isAtEnd se_X8_isAtEnd ci_8.1 ci_8.2.1 (k12 hL4) dX6_read_46 rfl rfl (Nat.le_of_ble_eq_true rfl) rfl ?_
  obtain ⟨p7, e7, h⟩ := bn h
  have hj7 : ∀ q7, p7 = q7 → V 60 [some (rf g o0), none] [] q7 := by
    intro q7 hq7
    subst hq7
    refine i_aload_n S dX6_read_60 rfl ?_
    refine i_aload_n S dX6_read_61 rfl ?_
    obtain ⟨hL8, h⟩ := onLn h
    refine i_getR S fl_X6_9 (rl_k hL8 ho0) (rl_r0 hL8 ho0) rfl dX6_read_62 ?_
    refine i_getIv (v := gI p7 12 4) S fl_X6_55 (k12 hL8) rfl rfl dX6_read_65 ?_
    obtain ⟨p10, e10, h⟩ := bn h
    have hj10 : ∀ q10, p10 = q10 → V 76 [some (rf g o0), none] [.int q10, rf g o0] p7 := by
      intro q10 hq10
      subst hq10
      obtain ⟨hb11, h⟩ := gd h
      refine i_putI S fl_X6_58 (rl_k hL8 ho0) rfl (isB_n hb11) (isB_f hb11) dX6_read_76 ?_
      refine i_aload_n S dX6_read_79 rfl ?_
      refine i_getIv (v := gI (sI p7 o0 2 p10) o0 2) S fl_X6_58 (rl_k hL8 ho0) rfl rfl dX6_read_80 ?_
      refine i_if_eq (tgt := 93) S dX6_read_83 (by decide) (fun q12 => ?_) (fun q12 => ?_)
      · replace h := (if_pos q12).symm.trans h
        refine i_aload_n S dX6_read_93 rfl ?_
        refine i_getR S fl_X6_9 (rl_k hL8 ho0) (rl_r0 hL8 ho0) rfl dX6_read_94 ?_
        refine i_getIv (v := gI (sI p7 o0 2 p10) 12 4) S fl_X6_55 (k12 hL8) rfl rfl dX6_read_97 ?_
        cases h
        exact i_iret S0 rfl dX6_read_100
      · replace h := (if_neg q12).symm.trans h
        refine i_aload_n S dX6_read_86 rfl ?_
        refine i_getIv (v := gI (sI p7 o0 2 p10) o0 3) S fl_X6_45 (rl_k hL8 ho0) rfl rfl dX6_read_87 ?_
        refine i_goto (tgt := 100) S dX6_read_90 (by decide) ?_
        cases h
        exact i_iret S0 rfl dX6_read_100
    replace h := e10
    clear e10
    refine i_if_ne (tgt := 75) S dX6_read_68 (by decide) (fun q9 => ?_) (fun q9 => ?_)
    · replace h := (if_neg q9).symm.trans h
      refine i_iconst (v := 0) S dX6_read_75 ic_0 ?_
      have hz := hj10 _ (Option.some.inj h).symm
      exact hz
    · replace h := (if_pos q9).symm.trans h
      refine i_iconst (v := 1) S dX6_read_71 ic_1 ?_
      refine i_goto (tgt := 76) S dX6_read_72 (by decide) ?_
      have hz := hj10 _ (Option.some.inj h).symm
      exact hz
  replace h := e7
  clear e7
  refine i_if_ne (tgt := 60) S dX6_read_49 (by decide) (fun q6 => ?_) (fun q6 => ?_)
  · replace h := (if_neg q6).symm.trans h
    refine i_mask (L1 := [some (rf g o0), none]) S [true, false] rfl ?_
    have hz := hj7 _ (Option.some.inj h).symm
    exact hz
  · replace h := (if_pos q6).symm.trans h
    refine i_aload_n S dX6_read_52 rfl ?_
    refine i_getR S fl_X6_9 (rl_k hL4 ho0) (rl_r0 hL4 ho0) rfl dX6_read_53 ?_
    refine i_iconst (v := 1) S dX6_read_56 ic_1 ?_
    obtain ⟨p13, e13, h⟩ := bn h
    refine i_callV (As := [.int ((1 : Int32))]) (st1 := []) S (c_X8_fail g (d + 102) hL4 e13) mw_X8_fail lk_X6_52 im_X8_fail se_X8_fail ci_8.1 ci_8.2.1 (k12 hL4) dX6_read_57 rfl rfl (Nat.le_of_ble_eq_true rfl) rfl ?_
    refine i_mask (L1 := [some (rf g o0), none]) S [true, false] rfl ?_
    have hz := hj7 _ (Option.some.inj h).symm
    exact hz
/-! WordYear$Rule.takeOver -/
noncomputable def f_X6_takeOver (o0 : Nat) (o1 : Nat) (w : Mm) : Option Mm := if isB (gI w o1 2) = true then (some (sI (sI (sI (sI (sI (sI (sI w o0 2 (gI w o1 2)) o0 3 (gI (sI w o0 2 (gI w o1 2)) o1 3)) o0 4 (gI (sI (sI w o0 2 (gI w o1 2)) o0 3 (gI (sI w o0 2 (gI w o1 2)) o1 3)) o1 4)) o0 5 (gI (sI (sI (sI w o0 2 (gI w o1 2)) o0 3 (gI (sI w o0 2 (gI w o1 2)) o1 3)) o0 4 (gI (sI (sI w o0 2 (gI w o1 2)) o0 3 (gI (sI w o0 2 (gI w o1 2)) o1 3)) o1 4)) o1 5)) o0 6 (gI (sI (sI (sI (sI w o0 2 (gI w o1 2)) o0 3 (gI (sI w o0 2 (gI w o1 2)) o1 3)) o0 4 (gI (sI (sI w o0 2 (gI w o1 2)) o0 3 (gI (sI w o0 2 (gI w o1 2)) o1 3)) o1 4)) o0 5 (gI (sI (sI (sI w o0 2 (gI w o1 2)) o0 3 (gI (sI w o0 2 (gI w o1 2)) o1 3)) o0 4 (gI (sI (sI w o0 2 (gI w o1 2)) o0 3 (gI (sI w o0 2 (gI w o1 2)) o1 3)) o1 4)) o1 5)) o1 6)) o0 7 (gI (sI (sI (sI (sI (sI w o0 2 (gI w o1 2)) o0 3 (gI (sI w o0 2 (gI w o1 2)) o1 3)) o0 4 (gI (sI (sI w o0 2 (gI w o1 2)) o0 3 (gI (sI w o0 2 (gI w o1 2)) o1 3)) o1 4)) o0 5 (gI (sI (sI (sI w o0 2 (gI w o1 2)) o0 3 (gI (sI w o0 2 (gI w o1 2)) o1 3)) o0 4 (gI (sI (sI w o0 2 (gI w o1 2)) o0 3 (gI (sI w o0 2 (gI w o1 2)) o1 3)) o1 4)) o1 5)) o0 6 (gI (sI (sI (sI (sI w o0 2 (gI w o1 2)) o0 3 (gI (sI w o0 2 (gI w o1 2)) o1 3)) o0 4 (gI (sI (sI w o0 2 (gI w o1 2)) o0 3 (gI (sI w o0 2 (gI w o1 2)) o1 3)) o1 4)) o0 5 (gI (sI (sI (sI w o0 2 (gI w o1 2)) o0 3 (gI (sI w o0 2 (gI w o1 2)) o1 3)) o0 4 (gI (sI (sI w o0 2 (gI w o1 2)) o0 3 (gI (sI w o0 2 (gI w o1 2)) o1 3)) o1 4)) o1 5)) o1 6)) o1 7)) o0 8 (gI (sI (sI (sI (sI (sI (sI w o0 2 (gI w o1 2)) o0 3 (gI (sI w o0 2 (gI w o1 2)) o1 3)) o0 4 (gI (sI (sI w o0 2 (gI w o1 2)) o0 3 (gI (sI w o0 2 (gI w o1 2)) o1 3)) o1 4)) o0 5 (gI (sI (sI (sI w o0 2 (gI w o1 2)) o0 3 (gI (sI w o0 2 (gI w o1 2)) o1 3)) o0 4 (gI (sI (sI w o0 2 (gI w o1 2)) o0 3 (gI (sI w o0 2 (gI w o1 2)) o1 3)) o1 4)) o1 5)) o0 6 (gI (sI (sI (sI (sI w o0 2 (gI w o1 2)) o0 3 (gI (sI w o0 2 (gI w o1 2)) o1 3)) o0 4 (gI (sI (sI w o0 2 (gI w o1 2)) o0 3 (gI (sI w o0 2 (gI w o1 2)) o1 3)) o1 4)) o0 5 (gI (sI (sI (sI w o0 2 (gI w o1 2)) o0 3 (gI (sI w o0 2 (gI w o1 2)) o1 3)) o0 4 (gI (sI (sI w o0 2 (gI w o1 2)) o0 3 (gI (sI w o0 2 (gI w o1 2)) o1 3)) o1 4)) o1 5)) o1 6)) o0 7 (gI (sI (sI (sI (sI (sI w o0 2 (gI w o1 2)) o0 3 (gI (sI w o0 2 (gI w o1 2)) o1 3)) o0 4 (gI (sI (sI w o0 2 (gI w o1 2)) o0 3 (gI (sI w o0 2 (gI w o1 2)) o1 3)) o1 4)) o0 5 (gI (sI (sI (sI w o0 2 (gI w o1 2)) o0 3 (gI (sI w o0 2 (gI w o1 2)) o1 3)) o0 4 (gI (sI (sI w o0 2 (gI w o1 2)) o0 3 (gI (sI w o0 2 (gI w o1 2)) o1 3)) o1 4)) o1 5)) o0 6 (gI (sI (sI (sI (sI w o0 2 (gI w o1 2)) o0 3 (gI (sI w o0 2 (gI w o1 2)) o1 3)) o0 4 (gI (sI (sI w o0 2 (gI w o1 2)) o0 3 (gI (sI w o0 2 (gI w o1 2)) o1 3)) o1 4)) o0 5 (gI (sI (sI (sI w o0 2 (gI w o1 2)) o0 3 (gI (sI w o0 2 (gI w o1 2)) o1 3)) o0 4 (gI (sI (sI w o0 2 (gI w o1 2)) o0 3 (gI (sI w o0 2 (gI w o1 2)) o1 3)) o1 4)) o1 5)) o1 6)) o1 7)) o1 8))) else none
set_option maxHeartbeats 4000000 in
set_option maxRecDepth 100000 in
theorem c_X6_takeOver (g : Gx) (d : Nat) {o0 : Nat} {o1 : Nat} {w : Mm} {p : Mm} (hL : Lay w) (ho0 : isRl o0 = true) (ho1 : isRl o1 = true) (h : f_X6_takeOver o0 o1 w = some p) : Call g (d + 1) yX6_takeOver cX6_takeOver 2 none [rf g o0, rf g o1] w none p := by
  refine call_of (L0 := [some (rf g o0), some (rf g o1)]) (by decide) rfl (Nat.le_of_ble_eq_true rfl) (fun V S0 => ?_)
  have S := S0.b
  unfold f_X6_takeOver at h
  refine i_aload_n S dX6_takeOver_0 rfl ?_
  refine i_aload_n S dX6_takeOver_1 rfl ?_
  refine i_getIv (v := gI w o1 2) S fl_X6_58 (rl_k hL ho1) rfl rfl dX6_takeOver_2 ?_
  obtain ⟨hb1, h⟩ := gd h
  refine i_putI S fl_X6_58 (rl_k hL ho0) rfl (isB_n hb1) (isB_f hb1) dX6_takeOver_5 ?_
  refine i_aload_n S dX6_takeOver_8 rfl ?_
  refine i_aload_n S dX6_takeOver_9 rfl ?_
  refine i_getIv (v := gI (sI w o0 2 (gI w o1 2)) o1 3) S fl_X6_45 (rl_k hL ho1) rfl rfl dX6_takeOver_10 ?_
  refine i_putI S fl_X6_45 (rl_k hL ho0) rfl rfl rfl dX6_takeOver_13 ?_
  refine i_aload_n S dX6_takeOver_16 rfl ?_
  refine i_aload_n S dX6_takeOver_17 rfl ?_
  refine i_getIv (v := gI (sI (sI w o0 2 (gI w o1 2)) o0 3 (gI (sI w o0 2 (gI w o1 2)) o1 3)) o1 4) S fl_X6_19 (rl_k hL ho1) rfl rfl dX6_takeOver_18 ?_
  refine i_putI S fl_X6_19 (rl_k hL ho0) rfl rfl rfl dX6_takeOver_21 ?_
  refine i_aload_n S dX6_takeOver_24 rfl ?_
  refine i_aload_n S dX6_takeOver_25 rfl ?_
  refine i_getIv (v := gI (sI (sI (sI w o0 2 (gI w o1 2)) o0 3 (gI (sI w o0 2 (gI w o1 2)) o1 3)) o0 4 (gI (sI (sI w o0 2 (gI w o1 2)) o0 3 (gI (sI w o0 2 (gI w o1 2)) o1 3)) o1 4)) o1 5) S fl_X6_23 (rl_k hL ho1) rfl rfl dX6_takeOver_26 ?_
  refine i_putI S fl_X6_23 (rl_k hL ho0) rfl rfl rfl dX6_takeOver_29 ?_
  refine i_aload_n S dX6_takeOver_32 rfl ?_
  refine i_aload_n S dX6_takeOver_33 rfl ?_
  refine i_getIv (v := gI (sI (sI (sI (sI w o0 2 (gI w o1 2)) o0 3 (gI (sI w o0 2 (gI w o1 2)) o1 3)) o0 4 (gI (sI (sI w o0 2 (gI w o1 2)) o0 3 (gI (sI w o0 2 (gI w o1 2)) o1 3)) o1 4)) o0 5 (gI (sI (sI (sI w o0 2 (gI w o1 2)) o0 3 (gI (sI w o0 2 (gI w o1 2)) o1 3)) o0 4 (gI (sI (sI w o0 2 (gI w o1 2)) o0 3 (gI (sI w o0 2 (gI w o1 2)) o1 3)) o1 4)) o1 5)) o1 6) S fl_X6_26 (rl_k hL ho1) rfl rfl dX6_takeOver_34 ?_
  refine i_putI S fl_X6_26 (rl_k hL ho0) rfl rfl rfl dX6_takeOver_37 ?_
  refine i_aload_n S dX6_takeOver_40 rfl ?_
  refine i_aload_n S dX6_takeOver_41 rfl ?_
  refine i_getIv (v := gI (sI (sI (sI (sI (sI w o0 2 (gI w o1 2)) o0 3 (gI (sI w o0 2 (gI w o1 2)) o1 3)) o0 4 (gI (sI (sI w o0 2 (gI w o1 2)) o0 3 (gI (sI w o0 2 (gI w o1 2)) o1 3)) o1 4)) o0 5 (gI (sI (sI (sI w o0 2 (gI w o1 2)) o0 3 (gI (sI w o0 2 (gI w o1 2)) o1 3)) o0 4 (gI (sI (sI w o0 2 (gI w o1 2)) o0 3 (gI (sI w o0 2 (gI w o1 2)) o1 3)) o1 4)) o1 5)) o0 6 (gI (sI (sI (sI (sI w o0 2 (gI w o1 2)) o0 3 (gI (sI w o0 2 (gI w o1 2)) o1 3)) o0 4 (gI (sI (sI w o0 2 (gI w o1 2)) o0 3 (gI (sI w o0 2 (gI w o1 2)) o1 3)) o1 4)) o0 5 (gI (sI (sI (sI w o0 2 (gI w o1 2)) o0 3 (gI (sI w o0 2 (gI w o1 2)) o1 3)) o0 4 (gI (sI (sI w o0 2 (gI w o1 2)) o0 3 (gI (sI w o0 2 (gI w o1 2)) o1 3)) o1 4)) o1 5)) o1 6)) o1 7) S fl_X6_29 (rl_k hL ho1) rfl rfl dX6_takeOver_42 ?_
  refine i_putI S fl_X6_29 (rl_k hL ho0) rfl rfl rfl dX6_takeOver_45 ?_
  refine i_aload_n S dX6_takeOver_48 rfl ?_
  refine i_aload_n S dX6_takeOver_49 rfl ?_
  refine i_getIv (v := gI (sI (sI (sI (sI (sI (sI w o0 2 (gI w o1 2)) o0 3 (gI (sI w o0 2 (gI w o1 2)) o1 3)) o0 4 (gI (sI (sI w o0 2 (gI w o1 2)) o0 3 (gI (sI w o0 2 (gI w o1 2)) o1 3)) o1 4)) o0 5 (gI (sI (sI (sI w o0 2 (gI w o1 2)) o0 3 (gI (sI w o0 2 (gI w o1 2)) o1 3)) o0 4 (gI (sI (sI w o0 2 (gI w o1 2)) o0 3 (gI (sI w o0 2 (gI w o1 2)) o1 3)) o1 4)) o1 5)) o0 6 (gI (sI (sI (sI (sI w o0 2 (gI w o1 2)) o0 3 (gI (sI w o0 2 (gI w o1 2)) o1 3)) o0 4 (gI (sI (sI w o0 2 (gI w o1 2)) o0 3 (gI (sI w o0 2 (gI w o1 2)) o1 3)) o1 4)) o0 5 (gI (sI (sI (sI w o0 2 (gI w o1 2)) o0 3 (gI (sI w o0 2 (gI w o1 2)) o1 3)) o0 4 (gI (sI (sI w o0 2 (gI w o1 2)) o0 3 (gI (sI w o0 2 (gI w o1 2)) o1 3)) o1 4)) o1 5)) o1 6)) o0 7 (gI (sI (sI (sI (sI (sI w o0 2 (gI w o1 2)) o0 3 (gI (sI w o0 2 (gI w o1 2)) o1 3)) o0 4 (gI (sI (sI w o0 2 (gI w o1 2)) o0 3 (gI (sI w o0 2 (gI w o1 2)) o1 3)) o1 4)) o0 5 (gI (sI (sI (sI w o0 2 (gI w o1 2)) o0 3 (gI (sI w o0 2 (gI w o1 2)) o1 3)) o0 4 (gI (sI (sI w o0 2 (gI w o1 2)) o0 3 (gI (sI w o0 2 (gI w o1 2)) o1 3)) o1 4)) o1 5)) o0 6 (gI (sI (sI (sI (sI w o0 2 (gI w o1 2)) o0 3 (gI (sI w o0 2 (gI w o1 2)) o1 3)) o0 4 (gI (sI (sI w o0 2 (gI w o1 2)) o0 3 (gI (sI w o0 2 (gI w o1 2)) o1 3)) o1 4)) o0 5 (gI (sI (sI (sI w o0 2 (gI w o1 2)) o0 3 (gI (sI w o0 2 (gI w o1 2)) o1 3)) o0 4 (gI (sI (sI w o0 2 (gI w o1 2)) o0 3 (gI (sI w o0 2 (gI w o1 2)) o1 3)) o1 4)) o1 5)) o1 6)) o1 7)) o1 8) S fl_X6_32 (rl_k hL ho1) rfl rfl dX6_takeOver_50 ?_
  refine i_putI S fl_X6_32 (rl_k hL ho0) rfl rfl rfl dX6_takeOver_53 ?_
  cases h
  exact i_vret S0 dX6_takeOver_56
/-! WordYear$Rule.fullLength -/
noncomputable def f_X6_fullLength (o0 : Nat) (w : Mm) : Option Int32 := Option.bind (f_X3_all w) (fun p1 => Option.bind (f_X3_joinLength (1 : Int32) p1 w) (fun p2 => Option.bind (f_X3_joinLength (2 : Int32) p1 w) (fun p3 => Option.bind (f_X3_joinLength (3 : Int32) p1 w) (fun p4 => some ((((gI w o0 5) + ((gI w o0 6) * p2)) + ((gI w o0 7) * p3)) + ((gI w o0 8) * p4))))))
set_option maxHeartbeats 4000000 in
set_option maxRecDepth 100000 in
theorem c_X6_fullLength (g : Gx) (d : Nat) {o0 : Nat} {w : Mm} {p : Int32} (hL : Lay w) (ho0 : isRl o0 = true) (h : f_X6_fullLength o0 w = some p) : Call g (d + 4) yX6_fullLength cX6_fullLength 2 (some .int) [rf g o0] w (some (.int p)) w := by
  refine call_of (L0 := [some (rf g o0), none]) (by decide) rfl (Nat.le_of_ble_eq_true rfl) (fun V S0 => ?_)
  have S := S0.b
  unfold f_X6_fullLength at h
  refine i_aload_n S dX6_fullLength_0 rfl ?_
  refine i_getR S fl_X6_15 (rl_k hL ho0) (rl_r1 hL ho0) rfl dX6_fullLength_1 ?_
  obtain ⟨p1, e1, h⟩ := bn h
  refine i_callV (As := []) (st1 := [.int p1]) S (c_X3_all g (d + 2) hL e1) mw_X3_all lk_X6_62 im_X3_all se_X3_all ci_3.1 ci_3.2.1 (k1 hL) dX6_fullLength_4 rfl rfl (Nat.le_of_ble_eq_true rfl) rfl ?_
  refine i_istore_n (L1 := [some (rf g o0), some (.int p1)]) S dX6_fullLength_7 (by decide) rfl ?_
  refine i_aload_n S dX6_fullLength_8 rfl ?_
  refine i_getIv (v := gI w o0 5) S fl_X6_23 (rl_k hL ho0) rfl rfl dX6_fullLength_9 ?_
  refine i_aload_n S dX6_fullLength_12 rfl ?_
  refine i_getIv (v := gI w o0 6) S fl_X6_26 (rl_k hL ho0) rfl rfl dX6_fullLength_13 ?_
  refine i_aload_n S dX6_fullLength_16 rfl ?_
  refine i_getR S fl_X6_15 (rl_k hL ho0) (rl_r1 hL ho0) rfl dX6_fullLength_17 ?_
  refine i_iconst (v := 1) S dX6_fullLength_20 ic_1 ?_
  refine i_iload_n S dX6_fullLength_21 rfl ?_
  obtain ⟨p2, e2, h⟩ := bn h
  refine i_callV (As := [.int ((1 : Int32)), .int p1]) (st1 := [.int p2, .int (gI w o0 6), .int (gI w o0 5)]) S (c_X3_joinLength g d hL e2) mw_X3_joinLength lk_X6_68 im_X3_joinLength se_X3_joinLength ci_3.1 ci_3.2.1 (k1 hL) dX6_fullLength_22 rfl rfl (Nat.le_of_ble_eq_true rfl) rfl ?_
  refine i_imul S dX6_fullLength_25 ?_
  refine i_iadd S dX6_fullLength_26 ?_
  refine i_aload_n S dX6_fullLength_27 rfl ?_
  refine i_getIv (v := gI w o0 7) S fl_X6_29 (rl_k hL ho0) rfl rfl dX6_fullLength_28 ?_
  refine i_aload_n S dX6_fullLength_31 rfl ?_
  refine i_getR S fl_X6_15 (rl_k hL ho0) (rl_r1 hL ho0) rfl dX6_fullLength_32 ?_
  refine i_iconst (v := 2) S dX6_fullLength_35 ic_2 ?_
  refine i_iload_n S dX6_fullLength_36 rfl ?_
  obtain ⟨p3, e3, h⟩ := bn h
  refine i_callV (As := [.int ((2 : Int32)), .int p1]) (st1 := [.int p3, .int (gI w o0 7), .int ((gI w o0 5) + ((gI w o0 6) * p2))]) S (c_X3_joinLength g d hL e3) mw_X3_joinLength lk_X6_68 im_X3_joinLength se_X3_joinLength ci_3.1 ci_3.2.1 (k1 hL) dX6_fullLength_37 rfl rfl (Nat.le_of_ble_eq_true rfl) rfl ?_
  refine i_imul S dX6_fullLength_40 ?_
  refine i_iadd S dX6_fullLength_41 ?_
  refine i_aload_n S dX6_fullLength_42 rfl ?_
  refine i_getIv (v := gI w o0 8) S fl_X6_32 (rl_k hL ho0) rfl rfl dX6_fullLength_43 ?_
  refine i_aload_n S dX6_fullLength_46 rfl ?_
  refine i_getR S fl_X6_15 (rl_k hL ho0) (rl_r1 hL ho0) rfl dX6_fullLength_47 ?_
  refine i_iconst (v := 3) S dX6_fullLength_50 ic_3 ?_
  refine i_iload_n S dX6_fullLength_51 rfl ?_
  obtain ⟨p4, e4, h⟩ := bn h
  refine i_callV (As := [.int ((3 : Int32)), .int p1]) (st1 := [.int p4, .int (gI w o0 8), .int (((gI w o0 5) + ((gI w o0 6) * p2)) + ((gI w o0 7) * p3))]) S (c_X3_joinLength g d hL e4) mw_X3_joinLength lk_X6_68 im_X3_joinLength se_X3_joinLength ci_3.1 ci_3.2.1 (k1 hL) dX6_fullLength_52 rfl rfl (Nat.le_of_ble_eq_true rfl) rfl ?_
  refine i_imul S dX6_fullLength_55 ?_
  refine i_iadd S dX6_fullLength_56 ?_
  cases h
  exact i_iret S0 rfl dX6_fullLength_57
/-! WordYear$Tape.<init> -/
noncomputable def f_X8_init (o0 : Nat) (w : Mm) : Option Mm := Option.bind (alq w 20 300) (fun p1 => if gK p1.2 o0 = some (8, 5) then (some (sR p1.2 o0 0 (some p1.1))) else none)
set_option maxHeartbeats 4000000 in
set_option maxRecDepth 100000 in
theorem c_X8_init (g : Gx) (d : Nat) {o0 : Nat} {w : Mm} {p : Mm}  (h : f_X8_init o0 w = some p) : Call g (d + 1) yX8_init cX8_init 1 none [rf g o0] w none p := by
  refine call_of (L0 := [some (rf g o0)]) (by decide) rfl (Nat.le_of_ble_eq_true rfl) (fun V S0 => ?_)
  have S := S0.b
  unfold f_X8_init at h
  refine i_aload_n S dX8_init_0 rfl ?_
  refine i_objInit S lk_X8_3 im_obj cd_obj dX8_init_1 (Nat.le_of_ble_eq_true rfl) ?_
  refine i_aload_n S dX8_init_4 rfl ?_
  refine i_sipush (v := 300) S dX8_init_5 sp_300 ?_
  obtain ⟨p1, e1, h⟩ := bn h
  refine i_newaqI (N := 300) S ac_int (by decide) (by decide) (by decide) e1 dX8_init_8 ?_
  obtain ⟨hk2, h⟩ := gd h
  refine i_putFR (x := some p1.1) S fl_X8_9 hk2 rfl rfl (fun C T h => ci_d8 h 0 (by decide)) rfl rfl dX8_init_10 ?_
  cases h
  exact i_vret S0 dX8_init_13
/-! WordYear$Tape.push -/
noncomputable def l_X8_push_3 (x1 : Int32) (s : Int32 × Mm) : Option ((Int32 × Mm) ⊕ (Mm)) := if s.1 < 0 then (some (.inr s.2)) else (onL s.2 (Option.bind (if (gI s.2 12 1) < 0 then (some s.2) else (if (300 : Int32) ≤ (gI s.2 12 1) then (some s.2) else (if inb (gI s.2 12 1) 300 = true then (some (sI (sI s.2 13 (ix (gI s.2 12 1)) ((x1 >>> (s.1 &&& 31)) &&& (255 : Int32))) 12 1 ((gI s.2 12 1) + (1 : Int32)))) else none))) (fun p4 => some (.inl (s.1 + (-8 : Int32), p4)))))
noncomputable def f_X8_push (x1 : Int32) (w : Mm) : Option Mm := Option.bind (wh (l_X8_push_3 x1) FUEL ((24 : Int32), w)) (fun p1 => some p1)
set_option maxHeartbeats 4000000 in
set_option maxRecDepth 100000 in
theorem t_l_X8_push_3 {g : Gx} {V : Vt} {d : Nat} (S : MachB g yX8_push cX8_push 3 (d) V) {x1 : Int32}  (s : Int32 × Mm) (e : (Int32 × Mm) ⊕ (Mm)) (h : l_X8_push_3 x1 s = some e) (hC : ∀ s2, e = .inl s2 → V 3 [some (rf g 12), some (.int x1), some (.int s2.1)] [] s2.2) (hE : ∀ x, e = .inr x → V 56 [none, none, none] [] x) : V 3 [some (rf g 12), some (.int x1), some (.int s.1)] [] s.2 := by
  unfold l_X8_push_3 at h
  refine i_iload_n S dX8_push_3 rfl ?_
  refine i_if_lt (tgt := 56) S dX8_push_4 (by decide) (fun q1 => ?_) (fun q1 => ?_)
  · replace h := (if_pos q1).symm.trans h
    refine i_mask (L1 := [none, none, none]) S [false, false, false] rfl ?_
    have hz := hE _ (Option.some.inj h).symm
    exact hz
  · replace h := (if_neg q1).symm.trans h
    refine i_aload_n S dX8_push_7 rfl ?_
    obtain ⟨hL2, h⟩ := onLn h
    refine i_getIv (v := gI s.2 12 1) S fl_X8_15 (k12 hL2) rfl rfl dX8_push_8 ?_
    obtain ⟨p4, e4, h⟩ := bn h
    have hj4 : ∀ q4, p4 = q4 → V 50 [some (rf g 12), some (.int x1), some (.int s.1)] [] q4 := by
      intro q4 hq4
      subst hq4
      refine i_iinc (L1 := [some (rf g 12), some (.int x1), some (.int (s.1 + (-8 : Int32)))]) S dX8_push_50 rfl ic_m8 (by decide) rfl ?_
      refine i_goto (tgt := 3) S dX8_push_53 (by decide) ?_
      have hz := hC _ (Option.some.inj h).symm
      exact hz
    replace h := e4
    clear e4
    refine i_if_lt (tgt := 50) S dX8_push_11 (by decide) (fun q3 => ?_) (fun q3 => ?_)
    · replace h := (if_pos q3).symm.trans h
      have hz := hj4 _ (Option.some.inj h).symm
      exact hz
    · replace h := (if_neg q3).symm.trans h
      refine i_aload_n S dX8_push_14 rfl ?_
      refine i_getIv (v := gI s.2 12 1) S fl_X8_15 (k12 hL2) rfl rfl dX8_push_15 ?_
      refine i_sipush (v := 300) S dX8_push_18 sp_300 ?_
      refine i_icmp_ge (tgt := 50) S dX8_push_21 (by decide) (fun q5 => ?_) (fun q5 => ?_)
      · replace h := (if_pos q5).symm.trans h
        have hz := hj4 _ (Option.some.inj h).symm
        exact hz
      · replace h := (if_neg q5).symm.trans h
        refine i_aload_n S dX8_push_24 rfl ?_
        refine i_getR S fl_X8_9 (k12 hL2) (r12_0 hL2) rfl dX8_push_25 ?_
        refine i_aload_n S dX8_push_28 rfl ?_
        refine i_getIv (v := gI s.2 12 1) S fl_X8_15 (k12 hL2) rfl rfl dX8_push_29 ?_
        refine i_iload_n S dX8_push_32 rfl ?_
        refine i_iload_n S dX8_push_33 rfl ?_
        refine i_ishr S dX8_push_34 ?_
        refine i_sipush (v := 255) S dX8_push_35 sp_255 ?_
        refine i_iand S dX8_push_38 ?_
        obtain ⟨hi7, h⟩ := gd h
        refine i_iast S (k13 hL2) hi7 dX8_push_39 ?_
        refine i_aload_n S dX8_push_40 rfl ?_
        refine i_dup S dX8_push_41 rfl ?_
        refine i_getIv (v := gI s.2 12 1) S fl_X8_15 (k12 hL2) rfl rfl dX8_push_42 ?_
        refine i_iconst (v := 1) S dX8_push_45 ic_1 ?_
        refine i_iadd S dX8_push_46 ?_
        refine i_putI S fl_X8_15 (k12 hL2) rfl rfl rfl dX8_push_47 ?_
        have hz := hj4 _ (Option.some.inj h).symm
        exact hz
set_option maxHeartbeats 4000000 in
set_option maxRecDepth 100000 in
theorem c_X8_push (g : Gx) (d : Nat) {x1 : Int32} {w : Mm} {p : Mm} (hL : Lay w) (h : f_X8_push x1 w = some p) : Call g (d + 1) yX8_push cX8_push 3 none [rf g 12, .int x1] w none p := by
  refine call_of (L0 := [some (rf g 12), some (.int x1), none]) (by decide) rfl (Nat.le_of_ble_eq_true rfl) (fun V S0 => ?_)
  have S := S0.b
  unfold f_X8_push at h
  refine i_bipush (v := 24) S dX8_push_0 bp_24 ?_
  refine i_istore_n (L1 := [some (rf g 12), some (.int x1), some (.int ((24 : Int32)))]) S dX8_push_2 (by decide) rfl ?_
  obtain ⟨p1, e1, h⟩ := bn h
  have hE1 : V 56 [none, none, none] [] p1 := by
    cases h
    exact i_vret S0 dX8_push_56
  exact wh_V (P := fun sv1 => V 3 [some (rf g 12), some (.int x1), some (.int sv1.1)] [] sv1.2) (E := fun xv1 => V 56 [none, none, none] [] xv1) (fun sv1 ev hb hc he => t_l_X8_push_3   S  sv1 ev hb hc he) FUEL _ _ e1 hE1
/-! WordYear$Tape.wipe -/
noncomputable def f_X8_wipe  (w : Mm) : Option Mm := some (sI w 12 1 (0 : Int32))
set_option maxHeartbeats 4000000 in
set_option maxRecDepth 100000 in
theorem c_X8_wipe (g : Gx) (d : Nat)  {w : Mm} {p : Mm} (hL : Lay w) (h : f_X8_wipe w = some p) : Call g (d + 1) yX8_wipe cX8_wipe 1 none [rf g 12] w none p := by
  refine call_of (L0 := [some (rf g 12)]) (by decide) rfl (Nat.le_of_ble_eq_true rfl) (fun V S0 => ?_)
  have S := S0.b
  unfold f_X8_wipe at h
  refine i_aload_n S dX8_wipe_0 rfl ?_
  refine i_iconst (v := 0) S dX8_wipe_1 ic_0 ?_
  refine i_putI S fl_X8_15 (k12 hL) rfl rfl rfl dX8_wipe_2 ?_
  cases h
  exact i_vret S0 dX8_wipe_5
/-! WordYear$Tape.byteAt -/
noncomputable def f_X8_byteAt (x1 : Int32) (w : Mm) : Option Int32 := if x1 < 0 then (some (-1 : Int32)) else (if (gI w 12 1) ≤ x1 then (some (-1 : Int32)) else (if (300 : Int32) ≤ x1 then (some (-1 : Int32)) else (if inb x1 300 = true then (some (gI w 13 (ix x1))) else none)))
set_option maxHeartbeats 4000000 in
set_option maxRecDepth 100000 in
theorem c_X8_byteAt (g : Gx) (d : Nat) {x1 : Int32} {w : Mm} {p : Int32} (hL : Lay w) (h : f_X8_byteAt x1 w = some p) : Call g (d + 1) yX8_byteAt cX8_byteAt 2 (some .int) [rf g 12, .int x1] w (some (.int p)) w := by
  refine call_of (L0 := [some (rf g 12), some (.int x1)]) (by decide) rfl (Nat.le_of_ble_eq_true rfl) (fun V S0 => ?_)
  have S := S0.b
  unfold f_X8_byteAt at h
  refine i_iload_n S dX8_byteAt_0 rfl ?_
  refine i_if_lt (tgt := 28) S dX8_byteAt_1 (by decide) (fun q1 => ?_) (fun q1 => ?_)
  · replace h := (if_pos q1).symm.trans h
    refine i_iconst (v := -1) S dX8_byteAt_28 ic_m1 ?_
    cases h
    exact i_iret S0 rfl dX8_byteAt_29
  · replace h := (if_neg q1).symm.trans h
    refine i_iload_n S dX8_byteAt_4 rfl ?_
    refine i_aload_n S dX8_byteAt_5 rfl ?_
    refine i_getIv (v := gI w 12 1) S fl_X8_15 (k12 hL) rfl rfl dX8_byteAt_6 ?_
    refine i_icmp_ge (tgt := 28) S dX8_byteAt_9 (by decide) (fun q2 => ?_) (fun q2 => ?_)
    · replace h := (if_pos q2).symm.trans h
      refine i_iconst (v := -1) S dX8_byteAt_28 ic_m1 ?_
      cases h
      exact i_iret S0 rfl dX8_byteAt_29
    · replace h := (if_neg q2).symm.trans h
      refine i_iload_n S dX8_byteAt_12 rfl ?_
      refine i_sipush (v := 300) S dX8_byteAt_13 sp_300 ?_
      refine i_icmp_ge (tgt := 28) S dX8_byteAt_16 (by decide) (fun q3 => ?_) (fun q3 => ?_)
      · replace h := (if_pos q3).symm.trans h
        refine i_iconst (v := -1) S dX8_byteAt_28 ic_m1 ?_
        cases h
        exact i_iret S0 rfl dX8_byteAt_29
      · replace h := (if_neg q3).symm.trans h
        refine i_aload_n S dX8_byteAt_19 rfl ?_
        refine i_getR S fl_X8_9 (k12 hL) (r12_0 hL) rfl dX8_byteAt_20 ?_
        refine i_iload_n S dX8_byteAt_23 rfl ?_
        obtain ⟨hi5, h⟩ := gd h
        refine i_ialdv (v := gI w 13 (ix x1)) S (k13 hL) hi5 rfl dX8_byteAt_24 ?_
        refine i_goto (tgt := 29) S dX8_byteAt_25 (by decide) ?_
        cases h
        exact i_iret S0 rfl dX8_byteAt_29
/-! WordYear$Tape.numberAt -/
noncomputable def l_X8_numberAt_4 (x1 : Int32) (w : Mm) (s : Int32 × Int32) : Option ((Int32 × Int32) ⊕ (Int32)) := if (4 : Int32) ≤ s.2 then (some (.inr s.1)) else (Option.bind (f_X8_byteAt (((4 : Int32) * x1) + s.2) w) (fun p2 => some (.inl ((s.1 <<< ((8 : Int32) &&& 31)) ||| (p2 &&& (255 : Int32)), s.2 + (1 : Int32)))))
noncomputable def f_X8_numberAt (x1 : Int32) (w : Mm) : Option Int32 := Option.bind (wh (l_X8_numberAt_4 x1 w) FUEL ((0 : Int32), (0 : Int32))) (fun p1 => some p1)
set_option maxHeartbeats 4000000 in
set_option maxRecDepth 100000 in
theorem t_l_X8_numberAt_4 {g : Gx} {V : Vt} {d : Nat} (S : MachB g yX8_numberAt cX8_numberAt 4 (d + 1) V) {x1 : Int32} {w : Mm} (hL : Lay w) (s : Int32 × Int32) (e : (Int32 × Int32) ⊕ (Int32)) (h : l_X8_numberAt_4 x1 w s = some e) (hC : ∀ s2, e = .inl s2 → V 4 [some (rf g 12), some (.int x1), some (.int s2.1), some (.int s2.2)] [] w) (hE : ∀ x, e = .inr x → V 34 [none, none, some (.int x), none] [] w) : V 4 [some (rf g 12), some (.int x1), some (.int s.1), some (.int s.2)] [] w := by
  unfold l_X8_numberAt_4 at h
  refine i_iload_n S dX8_numberAt_4 rfl ?_
  refine i_iconst (v := 4) S dX8_numberAt_5 ic_4 ?_
  refine i_icmp_ge (tgt := 34) S dX8_numberAt_6 (by decide) (fun q1 => ?_) (fun q1 => ?_)
  · replace h := (if_pos q1).symm.trans h
    refine i_mask (L1 := [none, none, some (.int s.1), none]) S [false, false, true, false] rfl ?_
    have hz := hE _ (Option.some.inj h).symm
    exact hz
  · replace h := (if_neg q1).symm.trans h
    refine i_iload_n S dX8_numberAt_9 rfl ?_
    refine i_bipush (v := 8) S dX8_numberAt_10 bp_8 ?_
    refine i_ishl S dX8_numberAt_12 ?_
    refine i_aload_n S dX8_numberAt_13 rfl ?_
    refine i_iconst (v := 4) S dX8_numberAt_14 ic_4 ?_
    refine i_iload_n S dX8_numberAt_15 rfl ?_
    refine i_imul S dX8_numberAt_16 ?_
    refine i_iload_n S dX8_numberAt_17 rfl ?_
    refine i_iadd S dX8_numberAt_18 ?_
    obtain ⟨p2, e2, h⟩ := bn h
    refine i_callV (As := [.int (((4 : Int32) * x1) + s.2)]) (st1 := [.int p2, .int (s.1 <<< ((8 : Int32) &&& 31))]) S (c_X8_byteAt g d hL e2) mw_X8_byteAt lk_X8_19 im_X8_byteAt se_X8_byteAt ci_8.1 ci_8.2.1 (k12 hL) dX8_numberAt_19 rfl rfl (Nat.le_of_ble_eq_true rfl) rfl ?_
    refine i_sipush (v := 255) S dX8_numberAt_22 sp_255 ?_
    refine i_iand S dX8_numberAt_25 ?_
    refine i_ior S dX8_numberAt_26 ?_
    refine i_istore_n (L1 := [some (rf g 12), some (.int x1), some (.int ((s.1 <<< ((8 : Int32) &&& 31)) ||| (p2 &&& (255 : Int32)))), some (.int s.2)]) S dX8_numberAt_27 (by decide) rfl ?_
    refine i_iinc (L1 := [some (rf g 12), some (.int x1), some (.int ((s.1 <<< ((8 : Int32) &&& 31)) ||| (p2 &&& (255 : Int32)))), some (.int (s.2 + (1 : Int32)))]) S dX8_numberAt_28 rfl ic_1 (by decide) rfl ?_
    refine i_goto (tgt := 4) S dX8_numberAt_31 (by decide) ?_
    have hz := hC _ (Option.some.inj h).symm
    exact hz
set_option maxHeartbeats 4000000 in
set_option maxRecDepth 100000 in
theorem c_X8_numberAt (g : Gx) (d : Nat) {x1 : Int32} {w : Mm} {p : Int32} (hL : Lay w) (h : f_X8_numberAt x1 w = some p) : Call g (d + 2) yX8_numberAt cX8_numberAt 4 (some .int) [rf g 12, .int x1] w (some (.int p)) w := by
  refine call_of (L0 := [some (rf g 12), some (.int x1), none, none]) (by decide) rfl (Nat.le_of_ble_eq_true rfl) (fun V S0 => ?_)
  have S := S0.b
  unfold f_X8_numberAt at h
  refine i_iconst (v := 0) S dX8_numberAt_0 ic_0 ?_
  refine i_istore_n (L1 := [some (rf g 12), some (.int x1), some (.int ((0 : Int32))), none]) S dX8_numberAt_1 (by decide) rfl ?_
  refine i_iconst (v := 0) S dX8_numberAt_2 ic_0 ?_
  refine i_istore_n (L1 := [some (rf g 12), some (.int x1), some (.int ((0 : Int32))), some (.int ((0 : Int32)))]) S dX8_numberAt_3 (by decide) rfl ?_
  obtain ⟨p1, e1, h⟩ := bn h
  have hE1 : V 34 [none, none, some (.int p1), none] [] w := by
    refine i_iload_n S dX8_numberAt_34 rfl ?_
    cases h
    exact i_iret S0 rfl dX8_numberAt_35
  exact wh_V (P := fun sv1 => V 4 [some (rf g 12), some (.int x1), some (.int sv1.1), some (.int sv1.2)] [] w) (E := fun xv1 => V 34 [none, none, some (.int xv1), none] [] w) (fun sv1 ev hb hc he => t_l_X8_numberAt_4 (w := w)  S hL sv1 ev hb hc he) FUEL _ _ e1 hE1
/-! WordYear$Tongues.<init> -/
noncomputable def f_X9_init (o0 : Nat) (o1 : Nat) (o2 : Nat) (w : Mm) : Option Mm := Option.bind (alq w 24 1024) (fun p1 => if gK p1.2 o0 = some (9, 6) then (Option.bind (alq (sR p1.2 o0 2 (some p1.1)) 4 10) (fun p3 => Option.bind (f_X4_init p3.1 p3.2) (fun p4 => if gK p4 o0 = some (9, 6) then (Option.bind (alq (sR (sR (sR p4 o0 4 (some p3.1)) o0 0 (some o1)) o0 1 (some o2)) 7 10) (fun p6 => Option.bind (f_X7_init p6.1 o1 p6.2) (fun p7 => if gK p7 o0 = some (9, 6) then (some (sR p7 o0 3 (some p6.1))) else none))) else none))) else none)
set_option maxHeartbeats 4000000 in
set_option maxRecDepth 100000 in
theorem c_X9_init (g : Gx) (d : Nat) {o0 : Nat} {o1 : Nat} {o2 : Nat} {w : Mm} {p : Mm}  (h : f_X9_init o0 o1 o2 w = some p) : Call g (d + 2) yX9_init cX9_init 3 none [rf g o0, rf g o1, rf g o2] w none p := by
  refine call_of (L0 := [some (rf g o0), some (rf g o1), some (rf g o2)]) (by decide) rfl (Nat.le_of_ble_eq_true rfl) (fun V S0 => ?_)
  have S := S0.b
  unfold f_X9_init at h
  refine i_aload_n S dX9_init_0 rfl ?_
  refine i_objInit S lk_X9_3 im_obj cd_obj dX9_init_1 (Nat.le_of_ble_eq_true rfl) ?_
  refine i_aload_n S dX9_init_4 rfl ?_
  refine i_sipush (v := 1024) S dX9_init_5 sp_1024 ?_
  obtain ⟨p1, e1, h⟩ := bn h
  refine i_anewq24 (N := 1024) S cl_X9_9 ao_7 (by decide) (by decide) (by decide) e1 dX9_init_8 ?_
  obtain ⟨hk2, h⟩ := gd h
  refine i_putFR (x := some p1.1) S fl_X9_11 hk2 rfl rfl (fun C T h => ci_d9 h 2 (by decide)) rfl rfl dX9_init_11 ?_
  refine i_aload_n S dX9_init_14 rfl ?_
  obtain ⟨p3, e3, h⟩ := bn h
  refine i_newq S CL_X9_17 e3 dX9_init_15 ?_
  refine i_dup S dX9_init_18 rfl ?_
  obtain ⟨p4, e4, h⟩ := bn h
  refine i_callIN (As := []) (st1 := [rf g p3.1, rf g o0]) S (c_X4_init g d e4) mw_X4_init rfl rfl lk_X9_19 im_X4_init dX9_init_19 rfl rfl (Nat.le_of_ble_eq_true rfl) rfl ?_
  obtain ⟨hk5, h⟩ := gd h
  refine i_putFR (x := some p3.1) S fl_X9_20 hk5 rfl rfl (fun C T h => ci_d9 h 4 (by decide)) rfl rfl dX9_init_22 ?_
  refine i_aload_n S dX9_init_25 rfl ?_
  refine i_aload_n S dX9_init_26 rfl ?_
  refine i_putFR (x := some o1) S fl_X9_24 hk5 rfl rfl (fun C T h => ci_d9 h 0 (by decide)) rfl rfl dX9_init_27 ?_
  refine i_aload_n S dX9_init_30 rfl ?_
  refine i_aload_n S dX9_init_31 rfl ?_
  refine i_putFR (x := some o2) S fl_X9_28 hk5 rfl rfl (fun C T h => ci_d9 h 1 (by decide)) rfl rfl dX9_init_32 ?_
  refine i_aload_n S dX9_init_35 rfl ?_
  obtain ⟨p6, e6, h⟩ := bn h
  refine i_newq S CL_X9_9 e6 dX9_init_36 ?_
  refine i_dup S dX9_init_39 rfl ?_
  refine i_aload_n S dX9_init_40 rfl ?_
  obtain ⟨p7, e7, h⟩ := bn h
  refine i_callI (As := [rf g o1]) (st1 := [rf g p6.1, rf g o0]) S (c_X7_init g d e7) mw_X7_init rfl rfl lk_X9_32 im_X7_init dX9_init_41 rfl rfl (Nat.le_of_ble_eq_true rfl) rfl ?_
  obtain ⟨hk8, h⟩ := gd h
  refine i_putFR (x := some p6.1) S fl_X9_35 hk8 rfl rfl (fun C T h => ci_d9 h 3 (by decide)) rfl rfl dX9_init_44 ?_
  cases h
  exact i_vret S0 dX9_init_47
/-! WordYear$Tongues.takeLaw -/
noncomputable def f_X9_takeLaw (o1 : Nat) (w : Mm) : Option Mm := Option.bind (f_X4_takeOver 16 o1 w) (fun p1 => onL p1 (some (sI p1 14 5 ((gI p1 14 5) + (1 : Int32)))))
set_option maxHeartbeats 4000000 in
set_option maxRecDepth 100000 in
theorem c_X9_takeLaw (g : Gx) (d : Nat) {o1 : Nat} {w : Mm} {p : Mm} (hL : Lay w) (ho1 : isNL o1 = true) (h : f_X9_takeLaw o1 w = some p) : Call g (d + 2) yX9_takeLaw cX9_takeLaw 2 none [rf g 14, rf g o1] w none p := by
  refine call_of (L0 := [some (rf g 14), some (rf g o1)]) (by decide) rfl (Nat.le_of_ble_eq_true rfl) (fun V S0 => ?_)
  have S := S0.b
  unfold f_X9_takeLaw at h
  refine i_aload_n S dX9_takeLaw_0 rfl ?_
  refine i_getR S fl_X9_20 (k14 hL) (r14_4 hL) rfl dX9_takeLaw_1 ?_
  refine i_aload_n S dX9_takeLaw_4 rfl ?_
  obtain ⟨p1, e1, h⟩ := bn h
  refine i_callV (As := [rf g o1]) (st1 := []) S (c_X4_takeOver g d hL (by decide) ho1 e1) mw_X4_takeOver lk_X9_39 im_X4_takeOver se_X4_takeOver ci_4.1 ci_4.2.1 (k16 hL) dX9_takeLaw_5 rfl rfl (Nat.le_of_ble_eq_true rfl) rfl ?_
  refine i_aload_n S dX9_takeLaw_8 rfl ?_
  refine i_dup S dX9_takeLaw_9 rfl ?_
  obtain ⟨hL2, h⟩ := onLn h
  refine i_getIv (v := gI p1 14 5) S fl_X9_43 (k14 hL2) rfl rfl dX9_takeLaw_10 ?_
  refine i_iconst (v := 1) S dX9_takeLaw_13 ic_1 ?_
  refine i_iadd S dX9_takeLaw_14 ?_
  refine i_putI S fl_X9_43 (k14 hL2) rfl rfl rfl dX9_takeLaw_15 ?_
  cases h
  exact i_vret S0 dX9_takeLaw_18
/-! WordYear$Tongues.missed -/
noncomputable def l_X9_missed_11 (o2 : Nat) (s : Int32 × Int32 × Mm) : Option ((Int32 × Int32 × Mm) ⊕ (Int32 × Mm)) := onL s.2.2 (if (gI s.2.2 6 5) ≤ s.2.1 then (some (.inr (s.1, s.2.2))) else (if (24 : Int32) ≤ s.2.1 then (some (.inr (s.1, s.2.2))) else (if inb s.2.1 24 = true then (Option.bind (if (gI s.2.2 11 (ix s.2.1)) ≤ 0 then (some (s.1, s.2.2)) else (if isSp s.2.2 o2 = true then (Option.bind (f_X9_price o2 (gI s.2.2 9 (ix s.2.1)) s.2.2) (fun p10 => mg (if p10.1 = (-2 : Int32) then (some (.inl ())) else (onL p10.2 (if (p10.1 >>> ((6 : Int32) &&& 31)) ≤ (gI p10.2 11 (ix s.2.1)) then (some (.inr (s.1, p10.2))) else (some (.inl ()))))) (fun p12 => some (s.1 ||| ((1 : Int32) <<< (s.2.1 &&& 31)), p10.2)))) else none)) (fun p7 => some (.inl (p7.1, s.2.1 + (1 : Int32), p7.2)))) else none)))
noncomputable def f_X9_missed (x1 : Int32) (w : Mm) : Option (Int32 × Mm) := Option.bind (f_X9_speech x1 w) (fun p1 => Option.bind (wh (l_X9_missed_11 p1.1) FUEL ((0 : Int32), (0 : Int32), p1.2)) (fun p2 => some (p2.1, p2.2)))
set_option maxHeartbeats 4000000 in
set_option maxRecDepth 100000 in
theorem t_l_X9_missed_11 {g : Gx} {V : Vt} {d : Nat} (S : MachB g yX9_missed cX9_missed 6 (d + 5) V) {o2 : Nat}  (s : Int32 × Int32 × Mm) (e : (Int32 × Int32 × Mm) ⊕ (Int32 × Mm)) (h : l_X9_missed_11 o2 s = some e) (hC : ∀ s2, e = .inl s2 → V 11 [some (rf g 14), none, some (rf g o2), some (.int s2.1), some (.int s2.2.1), none] [] s2.2.2) (hE : ∀ x, e = .inr x → V 98 [none, none, none, some (.int x.1), none, none] [] x.2) : V 11 [some (rf g 14), none, some (rf g o2), some (.int s.1), some (.int s.2.1), none] [] s.2.2 := by
  unfold l_X9_missed_11 at h
  refine i_iload S dX9_missed_11 rfl ?_
  refine i_aload_n S dX9_missed_13 rfl ?_
  obtain ⟨hL1, h⟩ := onLn h
  refine i_getR S fl_X9_28 (k14 hL1) (r14_1 hL1) rfl dX9_missed_14 ?_
  refine i_getIv (v := gI s.2.2 6 5) S fl_X9_71 (k6 hL1) rfl rfl dX9_missed_17 ?_
  refine i_icmp_ge (tgt := 98) S dX9_missed_20 (by decide) (fun q2 => ?_) (fun q2 => ?_)
  · replace h := (if_pos q2).symm.trans h
    refine i_mask (L1 := [none, none, none, some (.int s.1), none, none]) S [false, false, false, true, false, false] rfl ?_
    have hz := hE _ (Option.some.inj h).symm
    exact hz
  · replace h := (if_neg q2).symm.trans h
    refine i_iload S dX9_missed_23 rfl ?_
    refine i_bipush (v := 24) S dX9_missed_25 bp_24 ?_
    refine i_icmp_ge (tgt := 98) S dX9_missed_27 (by decide) (fun q3 => ?_) (fun q3 => ?_)
    · replace h := (if_pos q3).symm.trans h
      refine i_mask (L1 := [none, none, none, some (.int s.1), none, none]) S [false, false, false, true, false, false] rfl ?_
      have hz := hE _ (Option.some.inj h).symm
      exact hz
    · replace h := (if_neg q3).symm.trans h
      refine i_aload_n S dX9_missed_30 rfl ?_
      refine i_getR S fl_X9_28 (k14 hL1) (r14_1 hL1) rfl dX9_missed_31 ?_
      refine i_getR S fl_X9_102 (k6 hL1) (r6_4 hL1) rfl dX9_missed_34 ?_
      refine i_iload S dX9_missed_37 rfl ?_
      obtain ⟨hi5, h⟩ := gd h
      refine i_ialdv (v := gI s.2.2 11 (ix s.2.1)) S (k11 hL1) hi5 rfl dX9_missed_39 ?_
      obtain ⟨p7, e7, h⟩ := bn h
      have hj7 : ∀ q7, p7 = q7 → V 92 [some (rf g 14), none, some (rf g o2), some (.int q7.1), some (.int s.2.1), none] [] q7.2 := by
        intro q7 hq7
        subst hq7
        refine i_iinc (L1 := [some (rf g 14), none, some (rf g o2), some (.int p7.1), some (.int (s.2.1 + (1 : Int32))), none]) S dX9_missed_92 rfl ic_1 (by decide) rfl ?_
        refine i_goto (tgt := 11) S dX9_missed_95 (by decide) ?_
        have hz := hC _ (Option.some.inj h).symm
        exact hz
      replace h := e7
      clear e7
      refine i_if_le (tgt := 92) S dX9_missed_40 (by decide) (fun q6 => ?_) (fun q6 => ?_)
      · replace h := (if_pos q6).symm.trans h
        have hz := hj7 _ (Option.some.inj h).symm
        exact hz
      · replace h := (if_neg q6).symm.trans h
        refine i_aload_n S dX9_missed_43 rfl ?_
        refine i_aload_n S dX9_missed_44 rfl ?_
        refine i_aload_n S dX9_missed_45 rfl ?_
        refine i_getR S fl_X9_28 (k14 hL1) (r14_1 hL1) rfl dX9_missed_46 ?_
        refine i_getR S fl_X9_82 (k6 hL1) (r6_2 hL1) rfl dX9_missed_49 ?_
        refine i_iload S dX9_missed_52 rfl ?_
        refine i_ialdv (v := gI s.2.2 9 (ix s.2.1)) S (k9 hL1) hi5 rfl dX9_missed_54 ?_
        obtain ⟨hs9, h⟩ := gd h
        obtain ⟨p10, e10, h⟩ := bn h
        refine i_callV (As := [rf g o2, .int (gI s.2.2 9 (ix s.2.1))]) (st1 := [.int p10.1]) S (c_X9_price g (d + 1) hL1 hs9 e10) mw_X9_price lk_X9_85 im_X9_price se_X9_price ci_9.1 ci_9.2.1 (k14 hL1) dX9_missed_55 rfl rfl (Nat.le_of_ble_eq_true rfl) rfl ?_
        refine i_istore (L1 := [some (rf g 14), none, some (rf g o2), some (.int s.1), some (.int s.2.1), some (.int p10.1)]) S dX9_missed_58 (by decide) rfl ?_
        refine i_iload S dX9_missed_60 rfl ?_
        refine i_bipush (v := -2) S dX9_missed_62 bp_m2 ?_
        obtain ⟨s12, e12, hm12, ho12⟩ := mgn h
        have hj12 : ∀ p12, s12 = .inl p12 → V 85 [some (rf g 14), none, some (rf g o2), some (.int s.1), some (.int s.2.1), none] [] p10.2 := by
          intro p12 ep12
          have h := hm12 p12 ep12
          refine i_iload_n S dX9_missed_85 rfl ?_
          refine i_iconst (v := 1) S dX9_missed_86 ic_1 ?_
          refine i_iload S dX9_missed_87 rfl ?_
          refine i_ishl S dX9_missed_89 ?_
          refine i_ior S dX9_missed_90 ?_
          refine i_istore_n (L1 := [some (rf g 14), none, some (rf g o2), some (.int (s.1 ||| ((1 : Int32) <<< (s.2.1 &&& 31)))), some (.int s.2.1), none]) S dX9_missed_91 (by decide) rfl ?_
          have hz := hj7 _ (Option.some.inj h).symm
          exact hz
        replace h := e12
        clear e12
        refine i_icmp_eq (tgt := 85) S dX9_missed_64 (by decide) (fun q11 => ?_) (fun q11 => ?_)
        · replace h := (if_pos q11).symm.trans h
          refine i_mask (L1 := [some (rf g 14), none, some (rf g o2), some (.int s.1), some (.int s.2.1), none]) S [true, false, true, true, true, false] rfl ?_
          have hz := hj12 _ (Option.some.inj h).symm
          exact hz
        · replace h := (if_neg q11).symm.trans h
          refine i_iload S dX9_missed_67 rfl ?_
          refine i_bipush (v := 6) S dX9_missed_69 bp_6 ?_
          refine i_ishr S dX9_missed_71 ?_
          refine i_aload_n S dX9_missed_72 rfl ?_
          obtain ⟨hL13, h⟩ := onLn h
          refine i_getR S fl_X9_28 (k14 hL13) (r14_1 hL13) rfl dX9_missed_73 ?_
          refine i_getR S fl_X9_102 (k6 hL13) (r6_4 hL13) rfl dX9_missed_76 ?_
          refine i_iload S dX9_missed_79 rfl ?_
          refine i_ialdv (v := gI p10.2 11 (ix s.2.1)) S (k11 hL13) hi5 rfl dX9_missed_81 ?_
          refine i_icmp_le (tgt := 92) S dX9_missed_82 (by decide) (fun q15 => ?_) (fun q15 => ?_)
          · replace h := (if_pos q15).symm.trans h
            replace h := ho12 _ (Option.some.inj h).symm
            refine i_mask (L1 := [some (rf g 14), none, some (rf g o2), some (.int s.1), some (.int s.2.1), none]) S [true, false, true, true, true, false] rfl ?_
            have hz := hj7 _ (Option.some.inj h).symm
            exact hz
          · replace h := (if_neg q15).symm.trans h
            refine i_mask (L1 := [some (rf g 14), none, some (rf g o2), some (.int s.1), some (.int s.2.1), none]) S [true, false, true, true, true, false] rfl ?_
            have hz := hj12 _ (Option.some.inj h).symm
            exact hz
set_option maxHeartbeats 4000000 in
set_option maxRecDepth 100000 in
theorem c_X9_missed (g : Gx) (d : Nat) {x1 : Int32} {w : Mm} {p : (Int32 × Mm)} (hL : Lay w) (h : f_X9_missed x1 w = some p) : Call g (d + 6) yX9_missed cX9_missed 6 (some .int) [rf g 14, .int x1] w (some (.int p.1)) p.2 := by
  refine call_of (L0 := [some (rf g 14), some (.int x1), none, none, none, none]) (by decide) rfl (Nat.le_of_ble_eq_true rfl) (fun V S0 => ?_)
  have S := S0.b
  unfold f_X9_missed at h
  refine i_aload_n S dX9_missed_0 rfl ?_
  refine i_iload_n S dX9_missed_1 rfl ?_
  obtain ⟨p1, e1, h⟩ := bn h
  refine i_callV (As := [.int x1]) (st1 := [rf g p1.1]) S (c_X9_speech g d hL e1) mw_X9_speech lk_X9_98 im_X9_speech se_X9_speech ci_9.1 ci_9.2.1 (k14 hL) dX9_missed_2 rfl rfl (Nat.le_of_ble_eq_true rfl) rfl ?_
  refine i_astore_n (L1 := [some (rf g 14), some (.int x1), some (rf g p1.1), none, none, none]) S dX9_missed_5 (by decide) rfl ?_
  refine i_iconst (v := 0) S dX9_missed_6 ic_0 ?_
  refine i_istore_n (L1 := [some (rf g 14), some (.int x1), some (rf g p1.1), some (.int ((0 : Int32))), none, none]) S dX9_missed_7 (by decide) rfl ?_
  refine i_iconst (v := 0) S dX9_missed_8 ic_0 ?_
  refine i_istore (L1 := [some (rf g 14), some (.int x1), some (rf g p1.1), some (.int ((0 : Int32))), some (.int ((0 : Int32))), none]) S dX9_missed_9 (by decide) rfl ?_
  refine i_mask (L1 := [some (rf g 14), none, some (rf g p1.1), some (.int ((0 : Int32))), some (.int ((0 : Int32))), none]) S [true, false, true, true, true, false] rfl ?_
  obtain ⟨p2, e2, h⟩ := bn h
  have hE2 : V 98 [none, none, none, some (.int p2.1), none, none] [] p2.2 := by
    refine i_iload_n S dX9_missed_98 rfl ?_
    cases h
    exact i_iret S0 rfl dX9_missed_99
  exact wh_V (P := fun sv2 => V 11 [some (rf g 14), none, some (rf g p1.1), some (.int sv2.1), some (.int sv2.2.1), none] [] sv2.2.2) (E := fun xv2 => V 98 [none, none, none, some (.int xv2.1), none, none] [] xv2.2) (fun sv2 ev hb hc he => t_l_X9_missed_11   S  sv2 ev hb hc he) FUEL _ _ e2 hE2
/-! WordYear$Tongues.childsWord -/
noncomputable def l_X9_childsWord_29 (x1 : Int32) (x2 : Int32) (o3 : Nat) (x4 : Int64) (s : Int64 × Int32 × Int32 × Mm) : Option ((Int64 × Int32 × Int32 × Mm) ⊕ (Int64 × Int32 × Mm)) := if (64 : Int32) ≤ s.2.2.1 then (some (.inr (s.1, s.2.1, s.2.2.2))) else (if isSp s.2.2.2 o3 = true then (if inb s.2.2.1 64 = true then (Option.bind (if (gI s.2.2.2 (o3 + 1) (ix s.2.2.1)) ≤ x1 then (some (x4, s.2.2.2)) else (onL s.2.2.2 (Option.bind (f_X7_solve 24 (gI s.2.2.2 1 5) s.2.2.1 x1 s.2.2.2) (fun p12 => onL p12 (Option.bind (f_X9_yearly 24 (-1 : Int32) p12) (fun p14 => some (p14.1, p14.2))))))) (fun p6 => Option.bind (mg (if s.2.1 = (-1 : Int32) then (some (.inl ())) else (if s.1 ≤ p6.1 then (some (.inr (s.1, s.2.1))) else (some (.inl ())))) (fun p9 => some (p6.1, s.2.2.1))) (fun p8 => some (.inl (p8.1, p8.2, s.2.2.1 + (1 : Int32), p6.2))))) else none) else none)
noncomputable def f_X9_childsWord (x1 : Int32) (x2 : Int32) (w : Mm) : Option (Int64 × Mm) := Option.bind (f_X9_speech (gI w 1 5) w) (fun p1 => if isSp p1.2 p1.1 = true then (onL p1.2 (Option.bind (f_X9_yearly p1.1 (-1 : Int32) p1.2) (fun p4 => Option.bind (wh (l_X9_childsWord_29 x1 x2 p1.1 p4.1) FUEL ((0 : Int64), (-1 : Int32), (0 : Int32), p4.2)) (fun p5 => if x2 = 0 then (some (p5.2.1.toInt64, p5.2.2)) else (some (p4.1 - p5.1, p5.2.2)))))) else none)
set_option maxHeartbeats 4000000 in
set_option maxRecDepth 100000 in
theorem t_l_X9_childsWord_29 {g : Gx} {V : Vt} {d : Nat} (S : MachB g yX9_childsWord cX9_childsWord 12 (d + 5) V) {x1 : Int32} {x2 : Int32} {o3 : Nat} {x4 : Int64}  (s : Int64 × Int32 × Int32 × Mm) (e : (Int64 × Int32 × Int32 × Mm) ⊕ (Int64 × Int32 × Mm)) (h : l_X9_childsWord_29 x1 x2 o3 x4 s = some e) (hC : ∀ s2, e = .inl s2 → V 29 [some (rf g 14), some (.int x1), some (.int x2), some (rf g o3), some (.long x4), none, some (.long s2.1), none, some (.int s2.2.1), some (.int s2.2.2.1), none, none] [] s2.2.2.2) (hE : ∀ x, e = .inr x → V 107 [none, none, some (.int x2), none, some (.long x4), none, some (.long x.1), none, some (.int x.2.1), none, none, none] [] x.2.2) : V 29 [some (rf g 14), some (.int x1), some (.int x2), some (rf g o3), some (.long x4), none, some (.long s.1), none, some (.int s.2.1), some (.int s.2.2.1), none, none] [] s.2.2.2 := by
  unfold l_X9_childsWord_29 at h
  refine i_iload S dX9_childsWord_29 rfl ?_
  refine i_bipush (v := 64) S dX9_childsWord_31 bp_64 ?_
  refine i_icmp_ge (tgt := 107) S dX9_childsWord_33 (by decide) (fun q1 => ?_) (fun q1 => ?_)
  · replace h := (if_pos q1).symm.trans h
    refine i_mask (L1 := [none, none, some (.int x2), none, some (.long x4), none, some (.long s.1), none, some (.int s.2.1), none, none, none]) S [false, false, true, false, true, false, true, false, true, false, false, false] rfl ?_
    have hz := hE _ (Option.some.inj h).symm
    exact hz
  · replace h := (if_neg q1).symm.trans h
    refine i_lload S dX9_childsWord_36 rfl ?_
    refine i_lstore (L1 := [some (rf g 14), some (.int x1), some (.int x2), some (rf g o3), some (.long x4), none, some (.long s.1), none, some (.int s.2.1), some (.int s.2.2.1), some (.long x4), none]) S dX9_childsWord_38 (by decide) rfl ?_
    refine i_iload_n S dX9_childsWord_40 rfl ?_
    refine i_aload_n S dX9_childsWord_41 rfl ?_
    obtain ⟨hs2, h⟩ := gd h
    refine i_getR S fl_X9_52 (sp_k0 hs2) (sp_r1 hs2) rfl dX9_childsWord_42 ?_
    refine i_iload S dX9_childsWord_45 rfl ?_
    obtain ⟨hi4, h⟩ := gd h
    refine i_ialdv (v := gI s.2.2.2 (o3 + 1) (ix s.2.2.1)) S (sp_k1 hs2) hi4 rfl dX9_childsWord_47 ?_
    obtain ⟨p6, e6, h⟩ := bn h
    have hj6 : ∀ q6, p6 = q6 → V 79 [some (rf g 14), some (.int x1), some (.int x2), some (rf g o3), some (.long x4), none, some (.long s.1), none, some (.int s.2.1), some (.int s.2.2.1), some (.long q6.1), none] [] q6.2 := by
      intro q6 hq6
      subst hq6
      refine i_iload S dX9_childsWord_79 rfl ?_
      refine i_iconst (v := -1) S dX9_childsWord_81 ic_m1 ?_
      obtain ⟨p8, e8, h⟩ := bn h
      have hj8 : ∀ q8, p8 = q8 → V 101 [some (rf g 14), some (.int x1), some (.int x2), some (rf g o3), some (.long x4), none, some (.long q8.1), none, some (.int q8.2), some (.int s.2.2.1), none, none] [] p6.2 := by
        intro q8 hq8
        subst hq8
        refine i_iinc (L1 := [some (rf g 14), some (.int x1), some (.int x2), some (rf g o3), some (.long x4), none, some (.long p8.1), none, some (.int p8.2), some (.int (s.2.2.1 + (1 : Int32))), none, none]) S dX9_childsWord_101 rfl ic_1 (by decide) rfl ?_
        refine i_goto (tgt := 29) S dX9_childsWord_104 (by decide) ?_
        have hz := hC _ (Option.some.inj h).symm
        exact hz
      replace h := e8
      clear e8
      obtain ⟨s9, e9, hm9, ho9⟩ := mgn h
      have hj9 : ∀ p9, s9 = .inl p9 → V 93 [some (rf g 14), some (.int x1), some (.int x2), some (rf g o3), some (.long x4), none, none, none, none, some (.int s.2.2.1), some (.long p6.1), none] [] p6.2 := by
        intro p9 ep9
        have h := hm9 p9 ep9
        refine i_lload S dX9_childsWord_93 rfl ?_
        refine i_lstore (L1 := [some (rf g 14), some (.int x1), some (.int x2), some (rf g o3), some (.long x4), none, some (.long p6.1), none, none, some (.int s.2.2.1), some (.long p6.1), none]) S dX9_childsWord_95 (by decide) rfl ?_
        refine i_iload S dX9_childsWord_97 rfl ?_
        refine i_istore (L1 := [some (rf g 14), some (.int x1), some (.int x2), some (rf g o3), some (.long x4), none, some (.long p6.1), none, some (.int s.2.2.1), some (.int s.2.2.1), some (.long p6.1), none]) S dX9_childsWord_99 (by decide) rfl ?_
        refine i_mask (L1 := [some (rf g 14), some (.int x1), some (.int x2), some (rf g o3), some (.long x4), none, some (.long p6.1), none, some (.int s.2.2.1), some (.int s.2.2.1), none, none]) S [true, true, true, true, true, false, true, false, true, true, false, false] rfl ?_
        have hz := hj8 _ (Option.some.inj h).symm
        exact hz
      replace h := e9
      clear e9
      refine i_icmp_eq (tgt := 93) S dX9_childsWord_82 (by decide) (fun q7 => ?_) (fun q7 => ?_)
      · replace h := (if_pos q7).symm.trans h
        refine i_mask (L1 := [some (rf g 14), some (.int x1), some (.int x2), some (rf g o3), some (.long x4), none, none, none, none, some (.int s.2.2.1), some (.long p6.1), none]) S [true, true, true, true, true, false, false, false, false, true, true, false] rfl ?_
        have hz := hj9 _ (Option.some.inj h).symm
        exact hz
      · replace h := (if_neg q7).symm.trans h
        refine i_lload S dX9_childsWord_85 rfl ?_
        refine i_lload S dX9_childsWord_87 rfl ?_
        refine i_lc_ge (tgt := 101) S dX9_childsWord_89 dX9_childsWord_90 (by decide) (fun q10 => ?_) (fun q10 => ?_)
        · replace h := (if_pos q10).symm.trans h
          replace h := ho9 _ (Option.some.inj h).symm
          refine i_mask (L1 := [some (rf g 14), some (.int x1), some (.int x2), some (rf g o3), some (.long x4), none, some (.long s.1), none, some (.int s.2.1), some (.int s.2.2.1), none, none]) S [true, true, true, true, true, false, true, false, true, true, false, false] rfl ?_
          have hz := hj8 _ (Option.some.inj h).symm
          exact hz
        · replace h := (if_neg q10).symm.trans h
          refine i_mask (L1 := [some (rf g 14), some (.int x1), some (.int x2), some (rf g o3), some (.long x4), none, none, none, none, some (.int s.2.2.1), some (.long p6.1), none]) S [true, true, true, true, true, false, false, false, false, true, true, false] rfl ?_
          have hz := hj9 _ (Option.some.inj h).symm
          exact hz
    replace h := e6
    clear e6
    refine i_icmp_ge (tgt := 79) S dX9_childsWord_48 (by decide) (fun q5 => ?_) (fun q5 => ?_)
    · replace h := (if_pos q5).symm.trans h
      have hz := hj6 _ (Option.some.inj h).symm
      exact hz
    · replace h := (if_neg q5).symm.trans h
      refine i_aload_n S dX9_childsWord_51 rfl ?_
      obtain ⟨hL11, h⟩ := onLn h
      refine i_getR S fl_X9_35 (k14 hL11) (r14_3 hL11) rfl dX9_childsWord_52 ?_
      refine i_aload_n S dX9_childsWord_55 rfl ?_
      refine i_getR S fl_X9_24 (k14 hL11) (r14_0 hL11) rfl dX9_childsWord_56 ?_
      refine i_getIv (v := gI s.2.2.2 1 5) S fl_X9_105 (k1 hL11) rfl rfl dX9_childsWord_59 ?_
      refine i_iload S dX9_childsWord_62 rfl ?_
      refine i_iload_n S dX9_childsWord_64 rfl ?_
      obtain ⟨p12, e12, h⟩ := bn h
      refine i_callV (As := [.int (gI s.2.2.2 1 5), .int s.2.2.1, .int x1]) (st1 := []) S (c_X7_solve g (d + 1) hL11 (sp_24 hL11) e12) mw_X7_solve lk_X9_48 im_X7_solve se_X7_solve ci_7.1 ci_7.2.1 (k24 hL11) dX9_childsWord_65 rfl rfl (Nat.le_of_ble_eq_true rfl) rfl ?_
      refine i_aload_n S dX9_childsWord_68 rfl ?_
      refine i_aload_n S dX9_childsWord_69 rfl ?_
      obtain ⟨hL13, h⟩ := onLn h
      refine i_getR S fl_X9_35 (k14 hL13) (r14_3 hL13) rfl dX9_childsWord_70 ?_
      refine i_iconst (v := -1) S dX9_childsWord_73 ic_m1 ?_
      obtain ⟨p14, e14, h⟩ := bn h
      refine i_callV (As := [rf g 24, .int ((-1 : Int32))]) (st1 := [.long p14.1]) S (c_X9_yearly g d hL13 (sp_24 hL13) e14) mw_X9_yearly lk_X9_110 im_X9_yearly se_X9_yearly ci_9.1 ci_9.2.1 (k14 hL13) dX9_childsWord_74 rfl rfl (Nat.le_of_ble_eq_true rfl) rfl ?_
      refine i_lstore (L1 := [some (rf g 14), some (.int x1), some (.int x2), some (rf g o3), some (.long x4), none, some (.long s.1), none, some (.int s.2.1), some (.int s.2.2.1), some (.long p14.1), none]) S dX9_childsWord_77 (by decide) rfl ?_
      have hz := hj6 _ (Option.some.inj h).symm
      exact hz
set_option maxHeartbeats 4000000 in
set_option maxRecDepth 100000 in
theorem c_X9_childsWord (g : Gx) (d : Nat) {x1 : Int32} {x2 : Int32} {w : Mm} {p : (Int64 × Mm)} (hL : Lay w) (h : f_X9_childsWord x1 x2 w = some p) : Call g (d + 6) yX9_childsWord cX9_childsWord 12 (some .long) [rf g 14, .int x1, .int x2] w (some (.long p.1)) p.2 := by
  refine call_of (L0 := [some (rf g 14), some (.int x1), some (.int x2), none, none, none, none, none, none, none, none, none]) (by decide) rfl (Nat.le_of_ble_eq_true rfl) (fun V S0 => ?_)
  have S := S0.b
  unfold f_X9_childsWord at h
  refine i_aload_n S dX9_childsWord_0 rfl ?_
  refine i_aload_n S dX9_childsWord_1 rfl ?_
  refine i_getR S fl_X9_24 (k14 hL) (r14_0 hL) rfl dX9_childsWord_2 ?_
  refine i_getIv (v := gI w 1 5) S fl_X9_105 (k1 hL) rfl rfl dX9_childsWord_5 ?_
  obtain ⟨p1, e1, h⟩ := bn h
  refine i_callV (As := [.int (gI w 1 5)]) (st1 := [rf g p1.1]) S (c_X9_speech g d hL e1) mw_X9_speech lk_X9_98 im_X9_speech se_X9_speech ci_9.1 ci_9.2.1 (k14 hL) dX9_childsWord_8 rfl rfl (Nat.le_of_ble_eq_true rfl) rfl ?_
  refine i_astore_n (L1 := [some (rf g 14), some (.int x1), some (.int x2), some (rf g p1.1), none, none, none, none, none, none, none, none]) S dX9_childsWord_11 (by decide) rfl ?_
  refine i_aload_n S dX9_childsWord_12 rfl ?_
  refine i_aload_n S dX9_childsWord_13 rfl ?_
  refine i_iconst (v := -1) S dX9_childsWord_14 ic_m1 ?_
  obtain ⟨hs2, h⟩ := gd h
  obtain ⟨hL3, h⟩ := onLn h
  obtain ⟨p4, e4, h⟩ := bn h
  refine i_callV (As := [rf g p1.1, .int ((-1 : Int32))]) (st1 := [.long p4.1]) S (c_X9_yearly g d hL3 hs2 e4) mw_X9_yearly lk_X9_110 im_X9_yearly se_X9_yearly ci_9.1 ci_9.2.1 (k14 hL3) dX9_childsWord_15 rfl rfl (Nat.le_of_ble_eq_true rfl) rfl ?_
  refine i_lstore (L1 := [some (rf g 14), some (.int x1), some (.int x2), some (rf g p1.1), some (.long p4.1), none, none, none, none, none, none, none]) S dX9_childsWord_18 (by decide) rfl ?_
  refine i_lconst (v := 0) S dX9_childsWord_20 lc_0 ?_
  refine i_lstore (L1 := [some (rf g 14), some (.int x1), some (.int x2), some (rf g p1.1), some (.long p4.1), none, some (.long ((0 : Int64))), none, none, none, none, none]) S dX9_childsWord_21 (by decide) rfl ?_
  refine i_iconst (v := -1) S dX9_childsWord_23 ic_m1 ?_
  refine i_istore (L1 := [some (rf g 14), some (.int x1), some (.int x2), some (rf g p1.1), some (.long p4.1), none, some (.long ((0 : Int64))), none, some (.int ((-1 : Int32))), none, none, none]) S dX9_childsWord_24 (by decide) rfl ?_
  refine i_iconst (v := 0) S dX9_childsWord_26 ic_0 ?_
  refine i_istore (L1 := [some (rf g 14), some (.int x1), some (.int x2), some (rf g p1.1), some (.long p4.1), none, some (.long ((0 : Int64))), none, some (.int ((-1 : Int32))), some (.int ((0 : Int32))), none, none]) S dX9_childsWord_27 (by decide) rfl ?_
  obtain ⟨p5, e5, h⟩ := bn h
  have hE5 : V 107 [none, none, some (.int x2), none, some (.long p4.1), none, some (.long p5.1), none, some (.int p5.2.1), none, none, none] [] p5.2.2 := by
    refine i_iload_n S dX9_childsWord_107 rfl ?_
    refine i_if_ne (tgt := 117) S dX9_childsWord_108 (by decide) (fun q6 => ?_) (fun q6 => ?_)
    · replace h := (if_neg q6).symm.trans h
      refine i_lload S dX9_childsWord_117 rfl ?_
      refine i_lload S dX9_childsWord_119 rfl ?_
      refine i_lsub S dX9_childsWord_121 ?_
      cases h
      exact i_lret S0 dX9_childsWord_122
    · replace h := (if_pos q6).symm.trans h
      refine i_iload S dX9_childsWord_111 rfl ?_
      refine i_i2l S dX9_childsWord_113 ?_
      refine i_goto (tgt := 122) S dX9_childsWord_114 (by decide) ?_
      cases h
      exact i_lret S0 dX9_childsWord_122
  exact wh_V (P := fun sv5 => V 29 [some (rf g 14), some (.int x1), some (.int x2), some (rf g p1.1), some (.long p4.1), none, some (.long sv5.1), none, some (.int sv5.2.1), some (.int sv5.2.2.1), none, none] [] sv5.2.2.2) (E := fun xv5 => V 107 [none, none, some (.int x2), none, some (.long p4.1), none, some (.long xv5.1), none, some (.int xv5.2.1), none, none, none] [] xv5.2.2) (fun sv5 ev hb hc he => t_l_X9_childsWord_29   S  sv5 ev hb hc he) FUEL _ _ e5 hE5
/-! WordYear$Years.<init> -/
noncomputable def f_X10_init (o0 : Nat) (o1 : Nat) (o2 : Nat) (w : Mm) : Option Mm := if gK w o0 = some (10, 2) then (some (sR (sR w o0 0 (some o1)) o0 1 (some o2))) else none
set_option maxHeartbeats 4000000 in
set_option maxRecDepth 100000 in
theorem c_X10_init (g : Gx) (d : Nat) {o0 : Nat} {o1 : Nat} {o2 : Nat} {w : Mm} {p : Mm}  (h : f_X10_init o0 o1 o2 w = some p) : Call g (d + 1) yX10_init cX10_init 3 none [rf g o0, rf g o1, rf g o2] w none p := by
  refine call_of (L0 := [some (rf g o0), some (rf g o1), some (rf g o2)]) (by decide) rfl (Nat.le_of_ble_eq_true rfl) (fun V S0 => ?_)
  have S := S0.b
  unfold f_X10_init at h
  refine i_aload_n S dX10_init_0 rfl ?_
  refine i_objInit S lk_X10_3 im_obj cd_obj dX10_init_1 (Nat.le_of_ble_eq_true rfl) ?_
  refine i_aload_n S dX10_init_4 rfl ?_
  refine i_aload_n S dX10_init_5 rfl ?_
  obtain ⟨hk1, h⟩ := gd h
  refine i_putFR (x := some o1) S fl_X10_9 hk1 rfl rfl (fun C T h => ci_d10 h 0 (by decide)) rfl rfl dX10_init_6 ?_
  refine i_aload_n S dX10_init_9 rfl ?_
  refine i_aload_n S dX10_init_10 rfl ?_
  refine i_putFR (x := some o2) S fl_X10_15 hk1 rfl rfl (fun C T h => ci_d10 h 1 (by decide)) rfl rfl dX10_init_11 ?_
  cases h
  exact i_vret S0 dX10_init_14
