/-! WordYear$Dictionary.circles -/
noncomputable def l_X2_circles_2  (s : Int32 × Mm) : Option ((Int32 × Mm) ⊕ (Mm)) := if (10 : Int32) ≤ s.1 then (some (.inr s.2)) else (onL s.2 (Option.bind (f_X3_isPlainInUse s.1 s.2) (fun p3 => Option.bind (if p3 = 0 then (some ((0 : Int32), s.2)) else (Option.bind (f_X2_entry s.1 s.2) (fun p9 => some (p9.1, p9.2)))) (fun p5 => onL p5.2 (if inb s.1 10 = true then (some (.inl (s.1 + (1 : Int32), sI p5.2 46 (ix s.1) p5.1))) else none)))))
noncomputable def l_X2_circles_50 (x1 : Int32) (s : Int32 × Mm) : Option ((Int32 × Mm) ⊕ (Mm)) := if (10 : Int32) ≤ s.1 then (some (.inr s.2)) else (onL s.2 (if inb s.1 10 = true then (Option.bind (if (f_X11_contains (gI s.2 46 (ix s.1)) x1) = 0 then (some s.2) else (if inb x1 10 = true then (some (sI s.2 46 (ix s.1) ((gI s.2 46 (ix s.1)) ||| (gI s.2 46 (ix x1))))) else none)) (fun p6 => some (.inl (s.1 + (1 : Int32), p6)))) else none))
noncomputable def l_X2_circles_42  (s : Int32 × Mm) : Option ((Int32 × Mm) ⊕ (Mm)) := if (10 : Int32) ≤ s.1 then (some (.inr s.2)) else (Option.bind (wh (l_X2_circles_50 s.1) FUEL ((0 : Int32), s.2)) (fun p2 => some (.inl (s.1 + (1 : Int32), p2))))
noncomputable def l_X2_circles_100 (w : Mm) (s : Int32 × Int32) : Option ((Int32 × Int32) ⊕ (Int32)) := if (10 : Int32) ≤ s.2 then (some (.inr s.1)) else (if inb s.2 10 = true then (Option.bind (if (f_X11_contains (gI w 46 (ix s.2)) s.2) = 0 then (some s.1) else (some (s.1 ||| ((1 : Int32) <<< (s.2 &&& 31))))) (fun p5 => some (.inl (p5, s.2 + (1 : Int32))))) else none)
noncomputable def f_X2_circles  (w : Mm) : Option (Int32 × Mm) := Option.bind (wh l_X2_circles_2 FUEL ((0 : Int32), w)) (fun p1 => Option.bind (wh l_X2_circles_42 FUEL ((0 : Int32), p1)) (fun p2 => onL p2 (Option.bind (wh (l_X2_circles_100 p2) FUEL ((0 : Int32), (0 : Int32))) (fun p4 => some (p4, p2)))))
set_option maxHeartbeats 4000000 in
set_option maxRecDepth 100000 in
theorem t_l_X2_circles_2 {g : Gx} {V : Vt} {d : Nat} (S : MachB g yX2_circles cX2_circles 3 (d + 6) V)   (s : Int32 × Mm) (e : (Int32 × Mm) ⊕ (Mm)) (h : l_X2_circles_2  s = some e) (hC : ∀ s2, e = .inl s2 → V 2 [some (rf g 45), some (.int s2.1), none] [] s2.2) (hE : ∀ x, e = .inr x → V 40 [some (rf g 45), none, none] [] x) : V 2 [some (rf g 45), some (.int s.1), none] [] s.2 := by
  unfold l_X2_circles_2 at h
  refine i_iload_n S dX2_circles_2 rfl ?_
  refine i_bipush (v := 10) S dX2_circles_3 bp_10 ?_
  refine i_icmp_ge (tgt := 40) S dX2_circles_5 (by decide) (fun q1 => ?_) (fun q1 => ?_)
  · replace h := (if_pos q1).symm.trans h
    refine i_mask (L1 := [some (rf g 45), none, none]) S [true, false, false] rfl ?_
    have hz := hE _ (Option.some.inj h).symm
    exact hz
  · replace h := (if_neg q1).symm.trans h
    refine i_aload_n S dX2_circles_8 rfl ?_
    obtain ⟨hL2, h⟩ := onLn h
    refine i_getR S fl_X2_9 (k45 hL2) (r45_2 hL2) rfl dX2_circles_9 ?_
    refine i_iload_n S dX2_circles_12 rfl ?_
    refine i_aload_n S dX2_circles_13 rfl ?_
    refine i_getR S fl_X2_15 (k45 hL2) (r45_0 hL2) rfl dX2_circles_14 ?_
    refine i_iload_n S dX2_circles_17 rfl ?_
    obtain ⟨p3, e3, h⟩ := bn h
    refine i_callV (As := [.int s.1]) (st1 := [.int p3, .int s.1, rf g 46]) S (c_X3_isPlainInUse g (d + 4) hL2 e3) mw_X3_isPlainInUse lk_X2_69 im_X3_isPlainInUse se_X3_isPlainInUse ci_3.1 ci_3.2.1 (k1 hL2) dX2_circles_18 rfl rfl (Nat.le_of_ble_eq_true rfl) rfl ?_
    obtain ⟨p5, e5, h⟩ := bn h
    have hj5 : ∀ q5, p5 = q5 → V 33 [some (rf g 45), some (.int s.1), none] [.int q5.1, .int s.1, rf g 46] q5.2 := by
      intro q5 hq5
      subst hq5
      obtain ⟨hL6, h⟩ := onLn h
      obtain ⟨hi8, h⟩ := gd h
      refine i_iast S (k46 hL6) hi8 dX2_circles_33 ?_
      refine i_iinc (L1 := [some (rf g 45), some (.int (s.1 + (1 : Int32))), none]) S dX2_circles_34 rfl ic_1 (by decide) rfl ?_
      refine i_goto (tgt := 2) S dX2_circles_37 (by decide) ?_
      have hz := hC _ (Option.some.inj h).symm
      exact hz
    replace h := e5
    clear e5
    refine i_if_eq (tgt := 32) S dX2_circles_21 (by decide) (fun q4 => ?_) (fun q4 => ?_)
    · replace h := (if_pos q4).symm.trans h
      refine i_iconst (v := 0) S dX2_circles_32 ic_0 ?_
      have hz := hj5 _ (Option.some.inj h).symm
      exact hz
    · replace h := (if_neg q4).symm.trans h
      refine i_aload_n S dX2_circles_24 rfl ?_
      refine i_iload_n S dX2_circles_25 rfl ?_
      obtain ⟨p9, e9, h⟩ := bn h
      refine i_callV (As := [.int s.1]) (st1 := [.int p9.1, .int s.1, rf g 46]) S (c_X2_entry g d hL2 e9) mw_X2_entry lk_X2_73 im_X2_entry se_X2_entry ci_2.1 ci_2.2.1 (k45 hL2) dX2_circles_26 rfl rfl (Nat.le_of_ble_eq_true rfl) rfl ?_
      refine i_goto (tgt := 33) S dX2_circles_29 (by decide) ?_
      have hz := hj5 _ (Option.some.inj h).symm
      exact hz
set_option maxHeartbeats 4000000 in
set_option maxRecDepth 100000 in
theorem t_l_X2_circles_50 {g : Gx} {V : Vt} {d : Nat} (S : MachB g yX2_circles cX2_circles 3 (d + 6) V) {x1 : Int32}  (s : Int32 × Mm) (e : (Int32 × Mm) ⊕ (Mm)) (h : l_X2_circles_50 x1 s = some e) (hC : ∀ s2, e = .inl s2 → V 50 [some (rf g 45), some (.int x1), some (.int s2.1)] [] s2.2) (hE : ∀ x, e = .inr x → V 90 [some (rf g 45), some (.int x1), none] [] x) : V 50 [some (rf g 45), some (.int x1), some (.int s.1)] [] s.2 := by
  unfold l_X2_circles_50 at h
  refine i_iload_n S dX2_circles_50 rfl ?_
  refine i_bipush (v := 10) S dX2_circles_51 bp_10 ?_
  refine i_icmp_ge (tgt := 90) S dX2_circles_53 (by decide) (fun q1 => ?_) (fun q1 => ?_)
  · replace h := (if_pos q1).symm.trans h
    refine i_mask (L1 := [some (rf g 45), some (.int x1), none]) S [true, true, false] rfl ?_
    have hz := hE _ (Option.some.inj h).symm
    exact hz
  · replace h := (if_neg q1).symm.trans h
    refine i_aload_n S dX2_circles_56 rfl ?_
    obtain ⟨hL2, h⟩ := onLn h
    refine i_getR S fl_X2_9 (k45 hL2) (r45_2 hL2) rfl dX2_circles_57 ?_
    refine i_iload_n S dX2_circles_60 rfl ?_
    obtain ⟨hi4, h⟩ := gd h
    refine i_ialdv (v := gI s.2 46 (ix s.1)) S (k46 hL2) hi4 rfl dX2_circles_61 ?_
    refine i_iload_n S dX2_circles_62 rfl ?_
    refine i_callSN (As := [.int (gI s.2 46 (ix s.1)), .int x1]) (st1 := [.int (f_X11_contains (gI s.2 46 (ix s.1)) x1)]) S (c_X11_contains g (d + 5) rfl) mw_X11_contains lk_X2_76 im_X11_contains dX2_circles_63 rfl rfl (Nat.le_of_ble_eq_true rfl) rfl ?_
    obtain ⟨p6, e6, h⟩ := bn h
    have hj6 : ∀ q6, p6 = q6 → V 84 [some (rf g 45), some (.int x1), some (.int s.1)] [] q6 := by
      intro q6 hq6
      subst hq6
      refine i_iinc (L1 := [some (rf g 45), some (.int x1), some (.int (s.1 + (1 : Int32)))]) S dX2_circles_84 rfl ic_1 (by decide) rfl ?_
      refine i_goto (tgt := 50) S dX2_circles_87 (by decide) ?_
      have hz := hC _ (Option.some.inj h).symm
      exact hz
    replace h := e6
    clear e6
    refine i_if_eq (tgt := 84) S dX2_circles_66 (by decide) (fun q5 => ?_) (fun q5 => ?_)
    · replace h := (if_pos q5).symm.trans h
      have hz := hj6 _ (Option.some.inj h).symm
      exact hz
    · replace h := (if_neg q5).symm.trans h
      refine i_aload_n S dX2_circles_69 rfl ?_
      refine i_getR S fl_X2_9 (k45 hL2) (r45_2 hL2) rfl dX2_circles_70 ?_
      refine i_iload_n S dX2_circles_73 rfl ?_
      refine i_dup2 S dX2_circles_74 rfl rfl ?_
      refine i_ialdv (v := gI s.2 46 (ix s.1)) S (k46 hL2) hi4 rfl dX2_circles_75 ?_
      refine i_aload_n S dX2_circles_76 rfl ?_
      refine i_getR S fl_X2_9 (k45 hL2) (r45_2 hL2) rfl dX2_circles_77 ?_
      refine i_iload_n S dX2_circles_80 rfl ?_
      obtain ⟨hi9, h⟩ := gd h
      refine i_ialdv (v := gI s.2 46 (ix x1)) S (k46 hL2) hi9 rfl dX2_circles_81 ?_
      refine i_ior S dX2_circles_82 ?_
      refine i_iast S (k46 hL2) hi4 dX2_circles_83 ?_
      have hz := hj6 _ (Option.some.inj h).symm
      exact hz
set_option maxHeartbeats 4000000 in
set_option maxRecDepth 100000 in
theorem t_l_X2_circles_42 {g : Gx} {V : Vt} {d : Nat} (S : MachB g yX2_circles cX2_circles 3 (d + 6) V)   (s : Int32 × Mm) (e : (Int32 × Mm) ⊕ (Mm)) (h : l_X2_circles_42  s = some e) (hC : ∀ s2, e = .inl s2 → V 42 [some (rf g 45), some (.int s2.1), none] [] s2.2) (hE : ∀ x, e = .inr x → V 96 [some (rf g 45), none, none] [] x) : V 42 [some (rf g 45), some (.int s.1), none] [] s.2 := by
  unfold l_X2_circles_42 at h
  refine i_iload_n S dX2_circles_42 rfl ?_
  refine i_bipush (v := 10) S dX2_circles_43 bp_10 ?_
  refine i_icmp_ge (tgt := 96) S dX2_circles_45 (by decide) (fun q1 => ?_) (fun q1 => ?_)
  · replace h := (if_pos q1).symm.trans h
    refine i_mask (L1 := [some (rf g 45), none, none]) S [true, false, false] rfl ?_
    have hz := hE _ (Option.some.inj h).symm
    exact hz
  · replace h := (if_neg q1).symm.trans h
    refine i_iconst (v := 0) S dX2_circles_48 ic_0 ?_
    refine i_istore_n (L1 := [some (rf g 45), some (.int s.1), some (.int ((0 : Int32)))]) S dX2_circles_49 (by decide) rfl ?_
    obtain ⟨p2, e2, h⟩ := bn h
    have hE2 : V 90 [some (rf g 45), some (.int s.1), none] [] p2 := by
      refine i_iinc (L1 := [some (rf g 45), some (.int (s.1 + (1 : Int32))), none]) S dX2_circles_90 rfl ic_1 (by decide) rfl ?_
      refine i_goto (tgt := 42) S dX2_circles_93 (by decide) ?_
      have hz := hC _ (Option.some.inj h).symm
      exact hz
    exact wh_V (P := fun sv2 => V 50 [some (rf g 45), some (.int s.1), some (.int sv2.1)] [] sv2.2) (E := fun xv2 => V 90 [some (rf g 45), some (.int s.1), none] [] xv2) (fun sv2 ev hb hc he => t_l_X2_circles_50   S  sv2 ev hb hc he) FUEL _ _ e2 hE2
set_option maxHeartbeats 4000000 in
set_option maxRecDepth 100000 in
theorem t_l_X2_circles_100 {g : Gx} {V : Vt} {d : Nat} (S : MachB g yX2_circles cX2_circles 3 (d + 6) V) {w : Mm} (hL : Lay w) (s : Int32 × Int32) (e : (Int32 × Int32) ⊕ (Int32)) (h : l_X2_circles_100 w s = some e) (hC : ∀ s2, e = .inl s2 → V 100 [some (rf g 45), some (.int s2.1), some (.int s2.2)] [] w) (hE : ∀ x, e = .inr x → V 131 [none, some (.int x), none] [] w) : V 100 [some (rf g 45), some (.int s.1), some (.int s.2)] [] w := by
  unfold l_X2_circles_100 at h
  refine i_iload_n S dX2_circles_100 rfl ?_
  refine i_bipush (v := 10) S dX2_circles_101 bp_10 ?_
  refine i_icmp_ge (tgt := 131) S dX2_circles_103 (by decide) (fun q1 => ?_) (fun q1 => ?_)
  · replace h := (if_pos q1).symm.trans h
    refine i_mask (L1 := [none, some (.int s.1), none]) S [false, true, false] rfl ?_
    have hz := hE _ (Option.some.inj h).symm
    exact hz
  · replace h := (if_neg q1).symm.trans h
    refine i_aload_n S dX2_circles_106 rfl ?_
    refine i_getR S fl_X2_9 (k45 hL) (r45_2 hL) rfl dX2_circles_107 ?_
    refine i_iload_n S dX2_circles_110 rfl ?_
    obtain ⟨hi3, h⟩ := gd h
    refine i_ialdv (v := gI w 46 (ix s.2)) S (k46 hL) hi3 rfl dX2_circles_111 ?_
    refine i_iload_n S dX2_circles_112 rfl ?_
    refine i_callSN (As := [.int (gI w 46 (ix s.2)), .int s.2]) (st1 := [.int (f_X11_contains (gI w 46 (ix s.2)) s.2)]) S (c_X11_contains g (d + 5) rfl) mw_X11_contains lk_X2_76 im_X11_contains dX2_circles_113 rfl rfl (Nat.le_of_ble_eq_true rfl) rfl ?_
    obtain ⟨p5, e5, h⟩ := bn h
    have hj5 : ∀ q5, p5 = q5 → V 125 [some (rf g 45), some (.int q5), some (.int s.2)] [] w := by
      intro q5 hq5
      subst hq5
      refine i_iinc (L1 := [some (rf g 45), some (.int p5), some (.int (s.2 + (1 : Int32)))]) S dX2_circles_125 rfl ic_1 (by decide) rfl ?_
      refine i_goto (tgt := 100) S dX2_circles_128 (by decide) ?_
      have hz := hC _ (Option.some.inj h).symm
      exact hz
    replace h := e5
    clear e5
    refine i_if_eq (tgt := 125) S dX2_circles_116 (by decide) (fun q4 => ?_) (fun q4 => ?_)
    · replace h := (if_pos q4).symm.trans h
      have hz := hj5 _ (Option.some.inj h).symm
      exact hz
    · replace h := (if_neg q4).symm.trans h
      refine i_iload_n S dX2_circles_119 rfl ?_
      refine i_iconst (v := 1) S dX2_circles_120 ic_1 ?_
      refine i_iload_n S dX2_circles_121 rfl ?_
      refine i_ishl S dX2_circles_122 ?_
      refine i_ior S dX2_circles_123 ?_
      refine i_istore_n (L1 := [some (rf g 45), some (.int (s.1 ||| ((1 : Int32) <<< (s.2 &&& 31)))), some (.int s.2)]) S dX2_circles_124 (by decide) rfl ?_
      have hz := hj5 _ (Option.some.inj h).symm
      exact hz
set_option maxHeartbeats 4000000 in
set_option maxRecDepth 100000 in
theorem c_X2_circles (g : Gx) (d : Nat)  {w : Mm} {p : (Int32 × Mm)} (hL : Lay w) (h : f_X2_circles w = some p) : Call g (d + 7) yX2_circles cX2_circles 3 (some .int) [rf g 45] w (some (.int p.1)) p.2 := by
  refine call_of (L0 := [some (rf g 45), none, none]) (by decide) rfl (Nat.le_of_ble_eq_true rfl) (fun V S0 => ?_)
  have S := S0.b
  unfold f_X2_circles at h
  refine i_iconst (v := 0) S dX2_circles_0 ic_0 ?_
  refine i_istore_n (L1 := [some (rf g 45), some (.int ((0 : Int32))), none]) S dX2_circles_1 (by decide) rfl ?_
  obtain ⟨p1, e1, h⟩ := bn h
  have hE1 : V 40 [some (rf g 45), none, none] [] p1 := by
    refine i_iconst (v := 0) S dX2_circles_40 ic_0 ?_
    refine i_istore_n (L1 := [some (rf g 45), some (.int ((0 : Int32))), none]) S dX2_circles_41 (by decide) rfl ?_
    obtain ⟨p2, e2, h⟩ := bn h
    have hE2 : V 96 [some (rf g 45), none, none] [] p2 := by
      refine i_iconst (v := 0) S dX2_circles_96 ic_0 ?_
      refine i_istore_n (L1 := [some (rf g 45), some (.int ((0 : Int32))), none]) S dX2_circles_97 (by decide) rfl ?_
      refine i_iconst (v := 0) S dX2_circles_98 ic_0 ?_
      refine i_istore_n (L1 := [some (rf g 45), some (.int ((0 : Int32))), some (.int ((0 : Int32)))]) S dX2_circles_99 (by decide) rfl ?_
      obtain ⟨hL3, h⟩ := onLn h
      obtain ⟨p4, e4, h⟩ := bn h
      have hE4 : V 131 [none, some (.int p4), none] [] p2 := by
        refine i_iload_n S dX2_circles_131 rfl ?_
        cases h
        exact i_iret S0 rfl dX2_circles_132
      exact wh_V (P := fun sv4 => V 100 [some (rf g 45), some (.int sv4.1), some (.int sv4.2)] [] p2) (E := fun xv4 => V 131 [none, some (.int xv4), none] [] p2) (fun sv4 ev hb hc he => t_l_X2_circles_100 (w := p2)  S hL3 sv4 ev hb hc he) FUEL _ _ e4 hE4
    exact wh_V (P := fun sv2 => V 42 [some (rf g 45), some (.int sv2.1), none] [] sv2.2) (E := fun xv2 => V 96 [some (rf g 45), none, none] [] xv2) (fun sv2 ev hb hc he => t_l_X2_circles_42   S  sv2 ev hb hc he) FUEL _ _ e2 hE2
  exact wh_V (P := fun sv1 => V 2 [some (rf g 45), some (.int sv1.1), none] [] sv1.2) (E := fun xv1 => V 40 [some (rf g 45), none, none] [] xv1) (fun sv1 ev hb hc he => t_l_X2_circles_2   S  sv1 ev hb hc he) FUEL _ _ e1 hE1
/-! WordYear$Dictionary.tellsAll -/
noncomputable def l_X2_tellsAll_2 (x1 : Int32) (s : Int32 × Mm) : Option ((Int32 × Mm) ⊕ (Nat × Mm)) := if (10 : Int32) ≤ s.1 then (some (.inr (0, s.2))) else (onL s.2 (Option.bind (f_X3_isPlainInUse s.1 s.2) (fun p3 => mg (if p3 = 0 then (some (.inl s.2)) else (if (f_X11_contains x1 s.1) = 0 then (Option.bind (f_X9_speech x1 s.2) (fun p7 => onL p7.2 (Option.bind (f_X3_meaningOf s.1 p7.2) (fun p9 => if isSp p7.2 p7.1 = true then (Option.bind (f_X7_shortest p7.1 p9 p7.2) (fun p11 => if p11 = (-2 : Int32) then (some (.inr (.inr (1, p7.2)))) else (some (.inl p7.2)))) else none)))) else (some (.inl s.2)))) (fun p5 => some (.inl (s.1 + (1 : Int32), p5))))))
noncomputable def f_X2_tellsAll (x1 : Int32) (w : Mm) : Option (Int32 × Mm) := Option.bind (wh (l_X2_tellsAll_2 x1) FUEL ((0 : Int32), w)) (fun p1 => if p1.1 = 0 then (some ((1 : Int32), p1.2)) else (some ((0 : Int32), p1.2)))
set_option maxHeartbeats 4000000 in
set_option maxRecDepth 100000 in
theorem t_l_X2_tellsAll_2 {g : Gx} {V : Vt} {d : Nat} (S : MachB g yX2_tellsAll cX2_tellsAll 3 (d + 5) V) {x1 : Int32}  (s : Int32 × Mm) (e : (Int32 × Mm) ⊕ (Nat × Mm)) (h : l_X2_tellsAll_2 x1 s = some e) (hC : ∀ s2, e = .inl s2 → V 2 [some (rf g 45), some (.int x1), some (.int s2.1)] [] s2.2) (hE : ∀ x, e = .inr x → if x.1 = 0 then V 59 [none, none, none] [] x.2 else (V 51 [none, none, none] [] x.2)) : V 2 [some (rf g 45), some (.int x1), some (.int s.1)] [] s.2 := by
  unfold l_X2_tellsAll_2 at h
  refine i_iload_n S dX2_tellsAll_2 rfl ?_
  refine i_bipush (v := 10) S dX2_tellsAll_3 bp_10 ?_
  refine i_icmp_ge (tgt := 59) S dX2_tellsAll_5 (by decide) (fun q1 => ?_) (fun q1 => ?_)
  · replace h := (if_pos q1).symm.trans h
    refine i_mask (L1 := [none, none, none]) S [false, false, false] rfl ?_
    have hz := hE _ (Option.some.inj h).symm
    exact hz
  · replace h := (if_neg q1).symm.trans h
    refine i_aload_n S dX2_tellsAll_8 rfl ?_
    obtain ⟨hL2, h⟩ := onLn h
    refine i_getR S fl_X2_15 (k45 hL2) (r45_0 hL2) rfl dX2_tellsAll_9 ?_
    refine i_iload_n S dX2_tellsAll_12 rfl ?_
    obtain ⟨p3, e3, h⟩ := bn h
    refine i_callV (As := [.int s.1]) (st1 := [.int p3]) S (c_X3_isPlainInUse g (d + 3) hL2 e3) mw_X3_isPlainInUse lk_X2_69 im_X3_isPlainInUse se_X3_isPlainInUse ci_3.1 ci_3.2.1 (k1 hL2) dX2_tellsAll_13 rfl rfl (Nat.le_of_ble_eq_true rfl) rfl ?_
    obtain ⟨s5, e5, hm5, ho5⟩ := mgn h
    have hj5 : ∀ p5, s5 = .inl p5 → V 53 [some (rf g 45), some (.int x1), some (.int s.1)] [] p5 := by
      intro p5 ep5
      have h := hm5 p5 ep5
      refine i_iinc (L1 := [some (rf g 45), some (.int x1), some (.int (s.1 + (1 : Int32)))]) S dX2_tellsAll_53 rfl ic_1 (by decide) rfl ?_
      refine i_goto (tgt := 2) S dX2_tellsAll_56 (by decide) ?_
      have hz := hC _ (Option.some.inj h).symm
      exact hz
    replace h := e5
    clear e5
    refine i_if_eq (tgt := 53) S dX2_tellsAll_16 (by decide) (fun q4 => ?_) (fun q4 => ?_)
    · replace h := (if_pos q4).symm.trans h
      have hz := hj5 _ (Option.some.inj h).symm
      exact hz
    · replace h := (if_neg q4).symm.trans h
      refine i_iload_n S dX2_tellsAll_19 rfl ?_
      refine i_iload_n S dX2_tellsAll_20 rfl ?_
      refine i_callSN (As := [.int x1, .int s.1]) (st1 := [.int (f_X11_contains x1 s.1)]) S (c_X11_contains g (d + 4) rfl) mw_X11_contains lk_X2_76 im_X11_contains dX2_tellsAll_21 rfl rfl (Nat.le_of_ble_eq_true rfl) rfl ?_
      refine i_if_ne (tgt := 53) S dX2_tellsAll_24 (by decide) (fun q6 => ?_) (fun q6 => ?_)
      · replace h := (if_neg q6).symm.trans h
        have hz := hj5 _ (Option.some.inj h).symm
        exact hz
      · replace h := (if_pos q6).symm.trans h
        refine i_aload_n S dX2_tellsAll_27 rfl ?_
        refine i_getR S fl_X2_19 (k45 hL2) (r45_1 hL2) rfl dX2_tellsAll_28 ?_
        refine i_iload_n S dX2_tellsAll_31 rfl ?_
        obtain ⟨p7, e7, h⟩ := bn h
        refine i_callV (As := [.int x1]) (st1 := [rf g p7.1]) S (c_X9_speech g d hL2 e7) mw_X9_speech lk_X2_33 im_X9_speech se_X9_speech ci_9.1 ci_9.2.1 (k14 hL2) dX2_tellsAll_32 rfl rfl (Nat.le_of_ble_eq_true rfl) rfl ?_
        refine i_aload_n S dX2_tellsAll_35 rfl ?_
        obtain ⟨hL8, h⟩ := onLn h
        refine i_getR S fl_X2_15 (k45 hL8) (r45_0 hL8) rfl dX2_tellsAll_36 ?_
        refine i_iload_n S dX2_tellsAll_39 rfl ?_
        obtain ⟨p9, e9, h⟩ := bn h
        refine i_callV (As := [.int s.1]) (st1 := [.int p9, rf g p7.1]) S (c_X3_meaningOf g (d + 3) hL8 e9) mw_X3_meaningOf lk_X2_39 im_X3_meaningOf se_X3_meaningOf ci_3.1 ci_3.2.1 (k1 hL8) dX2_tellsAll_40 rfl rfl (Nat.le_of_ble_eq_true rfl) rfl ?_
        obtain ⟨hs10, h⟩ := gd h
        obtain ⟨p11, e11, h⟩ := bn h
        refine i_callV (As := [.int p9]) (st1 := [.int p11]) S (c_X7_shortest g (d + 4) hL8 hs10 e11) mw_X7_shortest lk_X2_43 im_X7_shortest se_X7_shortest ci_7.1 ci_7.2.1 (sp_k0 hs10) dX2_tellsAll_43 rfl rfl (Nat.le_of_ble_eq_true rfl) rfl ?_
        refine i_bipush (v := -2) S dX2_tellsAll_46 bp_m2 ?_
        refine i_icmp_ne (tgt := 53) S dX2_tellsAll_48 (by decide) (fun q12 => ?_) (fun q12 => ?_)
        · replace h := (if_neg q12).symm.trans h
          have hz := hj5 _ (Option.some.inj h).symm
          exact hz
        · replace h := (if_pos q12).symm.trans h
          replace h := ho5 _ (Option.some.inj h).symm
          refine i_mask (L1 := [none, none, none]) S [false, false, false] rfl ?_
          have hz := hE _ (Option.some.inj h).symm
          exact hz
set_option maxHeartbeats 4000000 in
set_option maxRecDepth 100000 in
theorem c_X2_tellsAll (g : Gx) (d : Nat) {x1 : Int32} {w : Mm} {p : (Int32 × Mm)} (hL : Lay w) (h : f_X2_tellsAll x1 w = some p) : Call g (d + 6) yX2_tellsAll cX2_tellsAll 3 (some .boolean) [rf g 45, .int x1] w (some (.int p.1)) p.2 := by
  refine call_of (L0 := [some (rf g 45), some (.int x1), none]) (by decide) rfl (Nat.le_of_ble_eq_true rfl) (fun V S0 => ?_)
  have S := S0.b
  unfold f_X2_tellsAll at h
  refine i_iconst (v := 0) S dX2_tellsAll_0 ic_0 ?_
  refine i_istore_n (L1 := [some (rf g 45), some (.int x1), some (.int ((0 : Int32)))]) S dX2_tellsAll_1 (by decide) rfl ?_
  obtain ⟨p1, e1, h⟩ := bn h
  have hE1 : if p1.1 = 0 then V 59 [none, none, none] [] p1.2 else (V 51 [none, none, none] [] p1.2) := by
    by_cases hx1_0 : p1.1 = 0
    · rw [if_pos hx1_0]
      replace h := (if_pos hx1_0).symm.trans h
      refine i_iconst (v := 1) S dX2_tellsAll_59 ic_1 ?_
      cases h
      exact i_iret S0 rfl dX2_tellsAll_60
    · rw [if_neg hx1_0]
      replace h := (if_neg hx1_0).symm.trans h
      refine i_iconst (v := 0) S dX2_tellsAll_51 ic_0 ?_
      cases h
      exact i_iret S0 rfl dX2_tellsAll_52
  exact wh_V (P := fun sv1 => V 2 [some (rf g 45), some (.int x1), some (.int sv1.1)] [] sv1.2) (E := fun xv1 => if xv1.1 = 0 then V 59 [none, none, none] [] xv1.2 else (V 51 [none, none, none] [] xv1.2)) (fun sv1 ev hb hc he => t_l_X2_tellsAll_2   S  sv1 ev hb hc he) FUEL _ _ e1 hE1
/-! WordYear$Dictionary.smallestKey -/
noncomputable def l_X2_smallestKey_10 (x1 : Int32) (s : Int32 × Mm) : Option ((Int32 × Mm) ⊕ (Nat × Int32 × Mm)) := if (1024 : Int32) ≤ s.1 then (some (.inr (0, 0, s.2))) else (onL s.2 (mg (if (s.1 &&& (gI s.2 1 5)) = s.1 then (if (f_J6_bitCount_0f7a4 s.1) = x1 then (Option.bind (f_X2_tellsAll s.1 s.2) (fun p6 => if p6.1 = 0 then (some (.inl p6.2)) else (some (.inr (.inr (1, s.1, p6.2)))))) else (some (.inl s.2))) else (some (.inl s.2))) (fun p4 => some (.inl (s.1 + (1 : Int32), p4)))))
noncomputable def l_X2_smallestKey_2  (s : Int32 × Mm) : Option ((Int32 × Mm) ⊕ (Nat × Int32 × Mm)) := if (10 : Int32) < s.1 then (some (.inr (0, 0, s.2))) else (Option.bind (wh (l_X2_smallestKey_10 s.1) FUEL ((0 : Int32), s.2)) (fun p2 => if p2.1 = 0 then (some (.inl (s.1 + (1 : Int32), p2.2.2))) else (some (.inr (1, p2.2.1, p2.2.2)))))
noncomputable def f_X2_smallestKey  (w : Mm) : Option (Int32 × Mm) := Option.bind (wh l_X2_smallestKey_2 FUEL ((0 : Int32), w)) (fun p1 => if p1.1 = 0 then (onL p1.2.2 (some (gI p1.2.2 1 5, p1.2.2))) else (some (p1.2.1, p1.2.2)))
set_option maxHeartbeats 4000000 in
set_option maxRecDepth 100000 in
theorem t_l_X2_smallestKey_10 {g : Gx} {V : Vt} {d : Nat} (S : MachB g yX2_smallestKey cX2_smallestKey 3 (d + 6) V) {x1 : Int32}  (s : Int32 × Mm) (e : (Int32 × Mm) ⊕ (Nat × Int32 × Mm)) (h : l_X2_smallestKey_10 x1 s = some e) (hC : ∀ s2, e = .inl s2 → V 10 [some (rf g 45), some (.int x1), some (.int s2.1)] [] s2.2) (hE : ∀ x, e = .inr x → if x.1 = 0 then V 54 [some (rf g 45), some (.int x1), none] [] x.2.2 else (V 46 [none, none, some (.int x.2.1)] [] x.2.2)) : V 10 [some (rf g 45), some (.int x1), some (.int s.1)] [] s.2 := by
  unfold l_X2_smallestKey_10 at h
  refine i_iload_n S dX2_smallestKey_10 rfl ?_
  refine i_sipush (v := 1024) S dX2_smallestKey_11 sp_1024 ?_
  refine i_icmp_ge (tgt := 54) S dX2_smallestKey_14 (by decide) (fun q1 => ?_) (fun q1 => ?_)
  · replace h := (if_pos q1).symm.trans h
    refine i_mask (L1 := [some (rf g 45), some (.int x1), none]) S [true, true, false] rfl ?_
    have hz := hE _ (Option.some.inj h).symm
    exact hz
  · replace h := (if_neg q1).symm.trans h
    refine i_iload_n S dX2_smallestKey_17 rfl ?_
    refine i_aload_n S dX2_smallestKey_18 rfl ?_
    obtain ⟨hL2, h⟩ := onLn h
    refine i_getR S fl_X2_15 (k45 hL2) (r45_0 hL2) rfl dX2_smallestKey_19 ?_
    refine i_getIv (v := gI s.2 1 5) S fl_X2_23 (k1 hL2) rfl rfl dX2_smallestKey_22 ?_
    refine i_iand S dX2_smallestKey_25 ?_
    refine i_iload_n S dX2_smallestKey_26 rfl ?_
    obtain ⟨s4, e4, hm4, ho4⟩ := mgn h
    have hj4 : ∀ p4, s4 = .inl p4 → V 48 [some (rf g 45), some (.int x1), some (.int s.1)] [] p4 := by
      intro p4 ep4
      have h := hm4 p4 ep4
      refine i_iinc (L1 := [some (rf g 45), some (.int x1), some (.int (s.1 + (1 : Int32)))]) S dX2_smallestKey_48 rfl ic_1 (by decide) rfl ?_
      refine i_goto (tgt := 10) S dX2_smallestKey_51 (by decide) ?_
      have hz := hC _ (Option.some.inj h).symm
      exact hz
    replace h := e4
    clear e4
    refine i_icmp_ne (tgt := 48) S dX2_smallestKey_27 (by decide) (fun q3 => ?_) (fun q3 => ?_)
    · replace h := (if_neg q3).symm.trans h
      have hz := hj4 _ (Option.some.inj h).symm
      exact hz
    · replace h := (if_pos q3).symm.trans h
      refine i_iload_n S dX2_smallestKey_30 rfl ?_
      refine i_callS (As := [.int s.1]) (st1 := [.int (f_J6_bitCount_0f7a4 s.1)]) S (c_J6_bitCount_0f7a4 g (d + 5) rfl) mw_J6_bitCount_0f7a4 lk_X2_80 im_J6_bitCount_0f7a4 dX2_smallestKey_31 rfl rfl (Nat.le_of_ble_eq_true rfl) rfl ?_
      refine i_iload_n S dX2_smallestKey_34 rfl ?_
      refine i_icmp_ne (tgt := 48) S dX2_smallestKey_35 (by decide) (fun q5 => ?_) (fun q5 => ?_)
      · replace h := (if_neg q5).symm.trans h
        have hz := hj4 _ (Option.some.inj h).symm
        exact hz
      · replace h := (if_pos q5).symm.trans h
        refine i_aload_n S dX2_smallestKey_38 rfl ?_
        refine i_iload_n S dX2_smallestKey_39 rfl ?_
        obtain ⟨p6, e6, h⟩ := bn h
        refine i_callV (As := [.int s.1]) (st1 := [.int p6.1]) S (c_X2_tellsAll g d hL2 e6) mw_X2_tellsAll lk_X2_85 im_X2_tellsAll se_X2_tellsAll ci_2.1 ci_2.2.1 (k45 hL2) dX2_smallestKey_40 rfl rfl (Nat.le_of_ble_eq_true rfl) rfl ?_
        refine i_if_eq (tgt := 48) S dX2_smallestKey_43 (by decide) (fun q7 => ?_) (fun q7 => ?_)
        · replace h := (if_pos q7).symm.trans h
          have hz := hj4 _ (Option.some.inj h).symm
          exact hz
        · replace h := (if_neg q7).symm.trans h
          replace h := ho4 _ (Option.some.inj h).symm
          refine i_mask (L1 := [none, none, some (.int s.1)]) S [false, false, true] rfl ?_
          have hz := hE _ (Option.some.inj h).symm
          exact hz
set_option maxHeartbeats 4000000 in
set_option maxRecDepth 100000 in
theorem t_l_X2_smallestKey_2 {g : Gx} {V : Vt} {d : Nat} (S : MachB g yX2_smallestKey cX2_smallestKey 3 (d + 6) V)   (s : Int32 × Mm) (e : (Int32 × Mm) ⊕ (Nat × Int32 × Mm)) (h : l_X2_smallestKey_2  s = some e) (hC : ∀ s2, e = .inl s2 → V 2 [some (rf g 45), some (.int s2.1), none] [] s2.2) (hE : ∀ x, e = .inr x → if x.1 = 0 then V 60 [some (rf g 45), none, none] [] x.2.2 else (V 46 [none, none, some (.int x.2.1)] [] x.2.2)) : V 2 [some (rf g 45), some (.int s.1), none] [] s.2 := by
  unfold l_X2_smallestKey_2 at h
  refine i_iload_n S dX2_smallestKey_2 rfl ?_
  refine i_bipush (v := 10) S dX2_smallestKey_3 bp_10 ?_
  refine i_icmp_gt (tgt := 60) S dX2_smallestKey_5 (by decide) (fun q1 => ?_) (fun q1 => ?_)
  · replace h := (if_pos q1).symm.trans h
    refine i_mask (L1 := [some (rf g 45), none, none]) S [true, false, false] rfl ?_
    have hz := hE _ (Option.some.inj h).symm
    exact hz
  · replace h := (if_neg q1).symm.trans h
    refine i_iconst (v := 0) S dX2_smallestKey_8 ic_0 ?_
    refine i_istore_n (L1 := [some (rf g 45), some (.int s.1), some (.int ((0 : Int32)))]) S dX2_smallestKey_9 (by decide) rfl ?_
    obtain ⟨p2, e2, h⟩ := bn h
    have hE2 : if p2.1 = 0 then V 54 [some (rf g 45), some (.int s.1), none] [] p2.2.2 else (V 46 [none, none, some (.int p2.2.1)] [] p2.2.2) := by
      by_cases hx2_0 : p2.1 = 0
      · rw [if_pos hx2_0]
        replace h := (if_pos hx2_0).symm.trans h
        refine i_iinc (L1 := [some (rf g 45), some (.int (s.1 + (1 : Int32))), none]) S dX2_smallestKey_54 rfl ic_1 (by decide) rfl ?_
        refine i_goto (tgt := 2) S dX2_smallestKey_57 (by decide) ?_
        have hz := hC _ (Option.some.inj h).symm
        exact hz
      · rw [if_neg hx2_0]
        replace h := (if_neg hx2_0).symm.trans h
        have hz := hE _ (Option.some.inj h).symm
        exact hz
    exact wh_V (P := fun sv2 => V 10 [some (rf g 45), some (.int s.1), some (.int sv2.1)] [] sv2.2) (E := fun xv2 => if xv2.1 = 0 then V 54 [some (rf g 45), some (.int s.1), none] [] xv2.2.2 else (V 46 [none, none, some (.int xv2.2.1)] [] xv2.2.2)) (fun sv2 ev hb hc he => t_l_X2_smallestKey_10   S  sv2 ev hb hc he) FUEL _ _ e2 hE2
set_option maxHeartbeats 4000000 in
set_option maxRecDepth 100000 in
theorem c_X2_smallestKey (g : Gx) (d : Nat)  {w : Mm} {p : (Int32 × Mm)} (hL : Lay w) (h : f_X2_smallestKey w = some p) : Call g (d + 7) yX2_smallestKey cX2_smallestKey 3 (some .int) [rf g 45] w (some (.int p.1)) p.2 := by
  refine call_of (L0 := [some (rf g 45), none, none]) (by decide) rfl (Nat.le_of_ble_eq_true rfl) (fun V S0 => ?_)
  have S := S0.b
  unfold f_X2_smallestKey at h
  refine i_iconst (v := 0) S dX2_smallestKey_0 ic_0 ?_
  refine i_istore_n (L1 := [some (rf g 45), some (.int ((0 : Int32))), none]) S dX2_smallestKey_1 (by decide) rfl ?_
  obtain ⟨p1, e1, h⟩ := bn h
  have hE1 : if p1.1 = 0 then V 60 [some (rf g 45), none, none] [] p1.2.2 else (V 46 [none, none, some (.int p1.2.1)] [] p1.2.2) := by
    by_cases hx1_0 : p1.1 = 0
    · rw [if_pos hx1_0]
      replace h := (if_pos hx1_0).symm.trans h
      refine i_aload_n S dX2_smallestKey_60 rfl ?_
      obtain ⟨hL2, h⟩ := onLn h
      refine i_getR S fl_X2_15 (k45 hL2) (r45_0 hL2) rfl dX2_smallestKey_61 ?_
      refine i_getIv (v := gI p1.2.2 1 5) S fl_X2_23 (k1 hL2) rfl rfl dX2_smallestKey_64 ?_
      cases h
      exact i_iret S0 rfl dX2_smallestKey_67
    · rw [if_neg hx1_0]
      replace h := (if_neg hx1_0).symm.trans h
      refine i_iload_n S dX2_smallestKey_46 rfl ?_
      cases h
      exact i_iret S0 rfl dX2_smallestKey_47
  exact wh_V (P := fun sv1 => V 2 [some (rf g 45), some (.int sv1.1), none] [] sv1.2) (E := fun xv1 => if xv1.1 = 0 then V 60 [some (rf g 45), none, none] [] xv1.2.2 else (V 46 [none, none, some (.int xv1.2.1)] [] xv1.2.2)) (fun sv1 ev hb hc he => t_l_X2_smallestKey_2   S  sv1 ev hb hc he) FUEL _ _ e1 hE1
/-! WordYear$Lexicon.<init> -/
noncomputable def f_X3_init (o0 : Nat) (w : Mm) : Option Mm := Option.bind (alq w 20 10) (fun p1 => if gK p1.2 o0 = some (3, 7) then (Option.bind (alq (sR p1.2 o0 0 (some p1.1)) 20 10) (fun p3 => Option.bind (alq (sR p3.2 o0 1 (some p3.1)) 20 10) (fun p4 => Option.bind (alq (sR p4.2 o0 2 (some p4.1)) 20 10) (fun p5 => some (sR p5.2 o0 3 (some p5.1)))))) else none)
set_option maxHeartbeats 4000000 in
set_option maxRecDepth 100000 in
theorem c_X3_init (g : Gx) (d : Nat) {o0 : Nat} {w : Mm} {p : Mm}  (h : f_X3_init o0 w = some p) : Call g (d + 1) yX3_init cX3_init 1 none [rf g o0] w none p := by
  refine call_of (L0 := [some (rf g o0)]) (by decide) rfl (Nat.le_of_ble_eq_true rfl) (fun V S0 => ?_)
  have S := S0.b
  unfold f_X3_init at h
  refine i_aload_n S dX3_init_0 rfl ?_
  refine i_objInit S lk_X3_3 im_obj cd_obj dX3_init_1 (Nat.le_of_ble_eq_true rfl) ?_
  refine i_aload_n S dX3_init_4 rfl ?_
  refine i_bipush (v := 10) S dX3_init_5 bp_10 ?_
  obtain ⟨p1, e1, h⟩ := bn h
  refine i_newaqI (N := 10) S ac_int (by decide) (by decide) (by decide) e1 dX3_init_7 ?_
  obtain ⟨hk2, h⟩ := gd h
  refine i_putFR (x := some p1.1) S fl_X3_9 hk2 rfl rfl (fun C T h => ci_d3 h 0 (by decide)) rfl rfl dX3_init_9 ?_
  refine i_aload_n S dX3_init_12 rfl ?_
  refine i_bipush (v := 10) S dX3_init_13 bp_10 ?_
  obtain ⟨p3, e3, h⟩ := bn h
  refine i_newaqI (N := 10) S ac_int (by decide) (by decide) (by decide) e3 dX3_init_15 ?_
  refine i_putFR (x := some p3.1) S fl_X3_15 (alq_old e3 hk2) rfl rfl (fun C T h => ci_d3 h 1 (by decide)) rfl rfl dX3_init_17 ?_
  refine i_aload_n S dX3_init_20 rfl ?_
  refine i_bipush (v := 10) S dX3_init_21 bp_10 ?_
  obtain ⟨p4, e4, h⟩ := bn h
  refine i_newaqI (N := 10) S ac_int (by decide) (by decide) (by decide) e4 dX3_init_23 ?_
  refine i_putFR (x := some p4.1) S fl_X3_18 (alq_old e4 (alq_old e3 hk2)) rfl rfl (fun C T h => ci_d3 h 2 (by decide)) rfl rfl dX3_init_25 ?_
  refine i_aload_n S dX3_init_28 rfl ?_
  refine i_bipush (v := 10) S dX3_init_29 bp_10 ?_
  obtain ⟨p5, e5, h⟩ := bn h
  refine i_newaqI (N := 10) S ac_int (by decide) (by decide) (by decide) e5 dX3_init_31 ?_
  refine i_putFR (x := some p5.1) S fl_X3_21 (alq_old e5 (alq_old e4 (alq_old e3 hk2))) rfl rfl (fun C T h => ci_d3 h 3 (by decide)) rfl rfl dX3_init_33 ?_
  cases h
  exact i_vret S0 dX3_init_36
/-! WordYear$Lexicon.add -/
noncomputable def f_X3_add (x1 : Int32) (x2 : Int32) (x3 : Int32) (w : Mm) : Option (Int32 × Mm) := if (gI w 1 4) < 0 then (some ((-1 : Int32), w)) else (if (gI w 1 4) < (10 : Int32) then (if inb (gI w 1 4) 10 = true then (some (((gI w 1 4) + (1 : Int32)) - (1 : Int32), sI (sI (sI (sI (sI (sI w 2 (ix (gI w 1 4)) x1) 3 (ix (gI w 1 4)) x2) 4 (ix (gI w 1 4)) x3) 5 (ix (gI w 1 4)) (-1 : Int32)) 1 5 ((gI w 1 5) ||| ((1 : Int32) <<< ((gI w 1 4) &&& 31)))) 1 4 ((gI w 1 4) + (1 : Int32)))) else none) else (some ((-1 : Int32), w)))
set_option maxHeartbeats 4000000 in
set_option maxRecDepth 100000 in
theorem c_X3_add (g : Gx) (d : Nat) {x1 : Int32} {x2 : Int32} {x3 : Int32} {w : Mm} {p : (Int32 × Mm)} (hL : Lay w) (h : f_X3_add x1 x2 x3 w = some p) : Call g (d + 1) yX3_add cX3_add 4 (some .int) [rf g 1, .int x1, .int x2, .int x3] w (some (.int p.1)) p.2 := by
  refine call_of (L0 := [some (rf g 1), some (.int x1), some (.int x2), some (.int x3)]) (by decide) rfl (Nat.le_of_ble_eq_true rfl) (fun V S0 => ?_)
  have S := S0.b
  unfold f_X3_add at h
  refine i_aload_n S dX3_add_0 rfl ?_
  refine i_getIv (v := gI w 1 4) S fl_X3_24 (k1 hL) rfl rfl dX3_add_1 ?_
  refine i_if_lt (tgt := 16) S dX3_add_4 (by decide) (fun q1 => ?_) (fun q1 => ?_)
  · replace h := (if_pos q1).symm.trans h
    refine i_iconst (v := -1) S dX3_add_16 ic_m1 ?_
    cases h
    exact i_iret S0 rfl dX3_add_17
  · replace h := (if_neg q1).symm.trans h
    refine i_aload_n S dX3_add_7 rfl ?_
    refine i_getIv (v := gI w 1 4) S fl_X3_24 (k1 hL) rfl rfl dX3_add_8 ?_
    refine i_bipush (v := 10) S dX3_add_11 bp_10 ?_
    refine i_icmp_lt (tgt := 18) S dX3_add_13 (by decide) (fun q2 => ?_) (fun q2 => ?_)
    · replace h := (if_pos q2).symm.trans h
      refine i_aload_n S dX3_add_18 rfl ?_
      refine i_getR S fl_X3_9 (k1 hL) (r1_0 hL) rfl dX3_add_19 ?_
      refine i_aload_n S dX3_add_22 rfl ?_
      refine i_getIv (v := gI w 1 4) S fl_X3_24 (k1 hL) rfl rfl dX3_add_23 ?_
      refine i_iload_n S dX3_add_26 rfl ?_
      obtain ⟨hi4, h⟩ := gd h
      refine i_iast S (k2 hL) hi4 dX3_add_27 ?_
      refine i_aload_n S dX3_add_28 rfl ?_
      refine i_getR S fl_X3_15 (k1 hL) (r1_1 hL) rfl dX3_add_29 ?_
      refine i_aload_n S dX3_add_32 rfl ?_
      refine i_getIv (v := gI w 1 4) S fl_X3_24 (k1 hL) rfl rfl dX3_add_33 ?_
      refine i_iload_n S dX3_add_36 rfl ?_
      refine i_iast S (k3 hL) hi4 dX3_add_37 ?_
      refine i_aload_n S dX3_add_38 rfl ?_
      refine i_getR S fl_X3_18 (k1 hL) (r1_2 hL) rfl dX3_add_39 ?_
      refine i_aload_n S dX3_add_42 rfl ?_
      refine i_getIv (v := gI w 1 4) S fl_X3_24 (k1 hL) rfl rfl dX3_add_43 ?_
      refine i_iload_n S dX3_add_46 rfl ?_
      refine i_iast S (k4 hL) hi4 dX3_add_47 ?_
      refine i_aload_n S dX3_add_48 rfl ?_
      refine i_getR S fl_X3_21 (k1 hL) (r1_3 hL) rfl dX3_add_49 ?_
      refine i_aload_n S dX3_add_52 rfl ?_
      refine i_getIv (v := gI w 1 4) S fl_X3_24 (k1 hL) rfl rfl dX3_add_53 ?_
      refine i_iconst (v := -1) S dX3_add_56 ic_m1 ?_
      refine i_iast S (k5 hL) hi4 dX3_add_57 ?_
      refine i_aload_n S dX3_add_58 rfl ?_
      refine i_dup S dX3_add_59 rfl ?_
      refine i_getIv (v := gI w 1 5) S fl_X3_28 (k1 hL) rfl rfl dX3_add_60 ?_
      refine i_iconst (v := 1) S dX3_add_63 ic_1 ?_
      refine i_aload_n S dX3_add_64 rfl ?_
      refine i_getIv (v := gI w 1 4) S fl_X3_24 (k1 hL) rfl rfl dX3_add_65 ?_
      refine i_ishl S dX3_add_68 ?_
      refine i_ior S dX3_add_69 ?_
      refine i_putI S fl_X3_28 (k1 hL) rfl rfl rfl dX3_add_70 ?_
      refine i_aload_n S dX3_add_73 rfl ?_
      refine i_dup S dX3_add_74 rfl ?_
      refine i_getIv (v := gI w 1 4) S fl_X3_24 (k1 hL) rfl rfl dX3_add_75 ?_
      refine i_iconst (v := 1) S dX3_add_78 ic_1 ?_
      refine i_iadd S dX3_add_79 ?_
      refine i_putI S fl_X3_24 (k1 hL) rfl rfl rfl dX3_add_80 ?_
      refine i_aload_n S dX3_add_83 rfl ?_
      refine i_getIv (v := (gI w 1 4) + (1 : Int32)) S fl_X3_24 (k1 hL) rfl rfl dX3_add_84 ?_
      refine i_iconst (v := 1) S dX3_add_87 ic_1 ?_
      refine i_isub S dX3_add_88 ?_
      cases h
      exact i_iret S0 rfl dX3_add_89
    · replace h := (if_neg q2).symm.trans h
      refine i_iconst (v := -1) S dX3_add_16 ic_m1 ?_
      cases h
      exact i_iret S0 rfl dX3_add_17
/-! WordYear$Lexicon.strikeOut -/
noncomputable def f_X3_strikeOut (x1 : Int32) (w : Mm) : Option (Int32 × Mm) := if (f_X11_contains (gI w 1 5) x1) = 0 then (some ((-1 : Int32), w)) else (if inb x1 10 = true then (some (((gI w 1 6) + (1 : Int32)) - (1 : Int32), sI (sI (sI w 5 (ix x1) (gI w 1 6)) 1 5 (f_X11_without (gI w 1 5) x1)) 1 6 ((gI w 1 6) + (1 : Int32)))) else none)
set_option maxHeartbeats 4000000 in
set_option maxRecDepth 100000 in
theorem c_X3_strikeOut (g : Gx) (d : Nat) {x1 : Int32} {w : Mm} {p : (Int32 × Mm)} (hL : Lay w) (h : f_X3_strikeOut x1 w = some p) : Call g (d + 2) yX3_strikeOut cX3_strikeOut 2 (some .int) [rf g 1, .int x1] w (some (.int p.1)) p.2 := by
  refine call_of (L0 := [some (rf g 1), some (.int x1)]) (by decide) rfl (Nat.le_of_ble_eq_true rfl) (fun V S0 => ?_)
  have S := S0.b
  unfold f_X3_strikeOut at h
  refine i_aload_n S dX3_strikeOut_0 rfl ?_
  refine i_getIv (v := gI w 1 5) S fl_X3_28 (k1 hL) rfl rfl dX3_strikeOut_1 ?_
  refine i_iload_n S dX3_strikeOut_4 rfl ?_
  refine i_callSN (As := [.int (gI w 1 5), .int x1]) (st1 := [.int (f_X11_contains (gI w 1 5) x1)]) S (c_X11_contains g d rfl) mw_X11_contains lk_X3_31 im_X11_contains dX3_strikeOut_5 rfl rfl (Nat.le_of_ble_eq_true rfl) rfl ?_
  refine i_if_ne (tgt := 13) S dX3_strikeOut_8 (by decide) (fun q1 => ?_) (fun q1 => ?_)
  · replace h := (if_neg q1).symm.trans h
    refine i_aload_n S dX3_strikeOut_13 rfl ?_
    refine i_getR S fl_X3_21 (k1 hL) (r1_3 hL) rfl dX3_strikeOut_14 ?_
    refine i_iload_n S dX3_strikeOut_17 rfl ?_
    refine i_aload_n S dX3_strikeOut_18 rfl ?_
    refine i_getIv (v := gI w 1 6) S fl_X3_35 (k1 hL) rfl rfl dX3_strikeOut_19 ?_
    obtain ⟨hi3, h⟩ := gd h
    refine i_iast S (k5 hL) hi3 dX3_strikeOut_22 ?_
    refine i_aload_n S dX3_strikeOut_23 rfl ?_
    refine i_aload_n S dX3_strikeOut_24 rfl ?_
    refine i_getIv (v := gI w 1 5) S fl_X3_28 (k1 hL) rfl rfl dX3_strikeOut_25 ?_
    refine i_iload_n S dX3_strikeOut_28 rfl ?_
    refine i_callSN (As := [.int (gI w 1 5), .int x1]) (st1 := [.int (f_X11_without (gI w 1 5) x1), rf g 1]) S (c_X11_without g d rfl) mw_X11_without lk_X3_38 im_X11_without dX3_strikeOut_29 rfl rfl (Nat.le_of_ble_eq_true rfl) rfl ?_
    refine i_putI S fl_X3_28 (k1 hL) rfl rfl rfl dX3_strikeOut_32 ?_
    refine i_aload_n S dX3_strikeOut_35 rfl ?_
    refine i_dup S dX3_strikeOut_36 rfl ?_
    refine i_getIv (v := gI w 1 6) S fl_X3_35 (k1 hL) rfl rfl dX3_strikeOut_37 ?_
    refine i_iconst (v := 1) S dX3_strikeOut_40 ic_1 ?_
    refine i_iadd S dX3_strikeOut_41 ?_
    refine i_putI S fl_X3_35 (k1 hL) rfl rfl rfl dX3_strikeOut_42 ?_
    refine i_aload_n S dX3_strikeOut_45 rfl ?_
    refine i_getIv (v := (gI w 1 6) + (1 : Int32)) S fl_X3_35 (k1 hL) rfl rfl dX3_strikeOut_46 ?_
    refine i_iconst (v := 1) S dX3_strikeOut_49 ic_1 ?_
    refine i_isub S dX3_strikeOut_50 ?_
    cases h
    exact i_iret S0 rfl dX3_strikeOut_51
  · replace h := (if_pos q1).symm.trans h
    refine i_iconst (v := -1) S dX3_strikeOut_11 ic_m1 ?_
    cases h
    exact i_iret S0 rfl dX3_strikeOut_12
/-! WordYear.within -/
noncomputable def f_X11_within (x0 : Int32) (x1 : Int32) (x2 : Int32) : Int32 := if x0 < x1 then ((0 : Int32)) else (if x2 < x0 then ((0 : Int32)) else ((1 : Int32)))
set_option maxHeartbeats 4000000 in
set_option maxRecDepth 100000 in
theorem c_X11_within (g : Gx) (d : Nat) {x0 : Int32} {x1 : Int32} {x2 : Int32} {w : Mm} {p : Int32}  (h : f_X11_within x0 x1 x2 = p) : Call g (d + 1) yX11_within cX11_within 3 (some .boolean) [.int x0, .int x1, .int x2] w (some (.int p)) w := by
  refine call_of (L0 := [some (.int x0), some (.int x1), some (.int x2)]) (by decide) rfl (Nat.le_of_ble_eq_true rfl) (fun V S0 => ?_)
  have S := S0.b
  unfold f_X11_within at h
  refine i_iload_n S dX11_within_0 rfl ?_
  refine i_iload_n S dX11_within_1 rfl ?_
  refine i_icmp_lt (tgt := 14) S dX11_within_2 (by decide) (fun q1 => ?_) (fun q1 => ?_)
  · replace h := (if_pos q1).symm.trans h
    refine i_iconst (v := 0) S dX11_within_14 ic_0 ?_
    subst h
    exact i_iret S0 rfl dX11_within_15
  · replace h := (if_neg q1).symm.trans h
    refine i_iload_n S dX11_within_5 rfl ?_
    refine i_iload_n S dX11_within_6 rfl ?_
    refine i_icmp_gt (tgt := 14) S dX11_within_7 (by decide) (fun q2 => ?_) (fun q2 => ?_)
    · replace h := (if_pos q2).symm.trans h
      refine i_iconst (v := 0) S dX11_within_14 ic_0 ?_
      subst h
      exact i_iret S0 rfl dX11_within_15
    · replace h := (if_neg q2).symm.trans h
      refine i_iconst (v := 1) S dX11_within_10 ic_1 ?_
      refine i_goto (tgt := 15) S dX11_within_11 (by decide) ?_
      subst h
      exact i_iret S0 rfl dX11_within_15
theorem b_X11_within (x0 : Int32) (x1 : Int32) (x2 : Int32) : isB (f_X11_within x0 x1 x2) = true := by
  unfold f_X11_within
  repeat' split
  all_goals first | rfl
/-! WordYear$Lexicon.isTongue -/
noncomputable def f_X3_isTongue (x1 : Int32) (w : Mm) : Option Int32 := Option.bind (f_X3_all w) (fun p1 => some (f_X11_within x1 (0 : Int32) p1))
set_option maxHeartbeats 4000000 in
set_option maxRecDepth 100000 in
theorem c_X3_isTongue (g : Gx) (d : Nat) {x1 : Int32} {w : Mm} {p : Int32} (hL : Lay w) (h : f_X3_isTongue x1 w = some p) : Call g (d + 2) yX3_isTongue cX3_isTongue 2 (some .boolean) [rf g 1, .int x1] w (some (.int p)) w := by
  refine call_of (L0 := [some (rf g 1), some (.int x1)]) (by decide) rfl (Nat.le_of_ble_eq_true rfl) (fun V S0 => ?_)
  have S := S0.b
  unfold f_X3_isTongue at h
  refine i_iload_n S dX3_isTongue_0 rfl ?_
  refine i_iconst (v := 0) S dX3_isTongue_1 ic_0 ?_
  refine i_aload_n S dX3_isTongue_2 rfl ?_
  obtain ⟨p1, e1, h⟩ := bn h
  refine i_callV (As := []) (st1 := [.int p1, .int ((0 : Int32)), .int x1]) S (c_X3_all g d hL e1) mw_X3_all lk_X3_42 im_X3_all se_X3_all ci_3.1 ci_3.2.1 (k1 hL) dX3_isTongue_3 rfl rfl (Nat.le_of_ble_eq_true rfl) rfl ?_
  refine i_callSN (As := [.int x1, .int ((0 : Int32)), .int p1]) (st1 := [.int (f_X11_within x1 (0 : Int32) p1)]) S (c_X11_within g d rfl) mw_X11_within lk_X3_46 im_X11_within dX3_isTongue_6 rfl rfl (Nat.le_of_ble_eq_true rfl) rfl ?_
  cases h
  exact i_iret S0 (isB_n (b_X11_within _ _ _)) dX3_isTongue_9
/-! WordYear$Lexicon.yearOf -/
noncomputable def f_X3_yearOf (x1 : Int32) (w : Mm) : Option Int32 := Option.bind (f_X3_all w) (fun p1 => if (f_X11_contains p1 x1) = 0 then (some (-1 : Int32)) else (if inb x1 10 = true then (some (gI w 5 (ix x1))) else none))
set_option maxHeartbeats 4000000 in
set_option maxRecDepth 100000 in
theorem c_X3_yearOf (g : Gx) (d : Nat) {x1 : Int32} {w : Mm} {p : Int32} (hL : Lay w) (h : f_X3_yearOf x1 w = some p) : Call g (d + 2) yX3_yearOf cX3_yearOf 2 (some .int) [rf g 1, .int x1] w (some (.int p)) w := by
  refine call_of (L0 := [some (rf g 1), some (.int x1)]) (by decide) rfl (Nat.le_of_ble_eq_true rfl) (fun V S0 => ?_)
  have S := S0.b
  unfold f_X3_yearOf at h
  refine i_aload_n S dX3_yearOf_0 rfl ?_
  obtain ⟨p1, e1, h⟩ := bn h
  refine i_callV (As := []) (st1 := [.int p1]) S (c_X3_all g d hL e1) mw_X3_all lk_X3_42 im_X3_all se_X3_all ci_3.1 ci_3.2.1 (k1 hL) dX3_yearOf_1 rfl rfl (Nat.le_of_ble_eq_true rfl) rfl ?_
  refine i_iload_n S dX3_yearOf_4 rfl ?_
  refine i_callSN (As := [.int p1, .int x1]) (st1 := [.int (f_X11_contains p1 x1)]) S (c_X11_contains g d rfl) mw_X11_contains lk_X3_31 im_X11_contains dX3_yearOf_5 rfl rfl (Nat.le_of_ble_eq_true rfl) rfl ?_
  refine i_if_eq (tgt := 20) S dX3_yearOf_8 (by decide) (fun q2 => ?_) (fun q2 => ?_)
  · replace h := (if_pos q2).symm.trans h
    refine i_iconst (v := -1) S dX3_yearOf_20 ic_m1 ?_
    cases h
    exact i_iret S0 rfl dX3_yearOf_21
  · replace h := (if_neg q2).symm.trans h
    refine i_aload_n S dX3_yearOf_11 rfl ?_
    refine i_getR S fl_X3_21 (k1 hL) (r1_3 hL) rfl dX3_yearOf_12 ?_
    refine i_iload_n S dX3_yearOf_15 rfl ?_
    obtain ⟨hi4, h⟩ := gd h
    refine i_ialdv (v := gI w 5 (ix x1)) S (k5 hL) hi4 rfl dX3_yearOf_16 ?_
    refine i_goto (tgt := 21) S dX3_yearOf_17 (by decide) ?_
    cases h
    exact i_iret S0 rfl dX3_yearOf_21
/-! WordYear$NearLaw.<init> -/
noncomputable def f_X4_init (o0 : Nat) (w : Mm) : Option Mm := Option.bind (alq w 20 160) (fun p1 => if gK p1.2 o0 = some (4, 10) then (Option.bind (alq (sR p1.2 o0 0 (some p1.1)) 20 160) (fun p3 => Option.bind (alq (sR p3.2 o0 1 (some p3.1)) 20 12) (fun p4 => Option.bind (alq (sR p4.2 o0 2 (some p4.1)) 20 12) (fun p5 => Option.bind (alq (sR p5.2 o0 3 (some p5.1)) 20 12) (fun p6 => Option.bind (alq (sR p6.2 o0 4 (some p6.1)) 20 8) (fun p7 => Option.bind (alq (sR p7.2 o0 5 (some p7.1)) 20 24) (fun p8 => some (sR p8.2 o0 6 (some p8.1))))))))) else none)
set_option maxHeartbeats 4000000 in
set_option maxRecDepth 100000 in
theorem c_X4_init (g : Gx) (d : Nat) {o0 : Nat} {w : Mm} {p : Mm}  (h : f_X4_init o0 w = some p) : Call g (d + 1) yX4_init cX4_init 1 none [rf g o0] w none p := by
  refine call_of (L0 := [some (rf g o0)]) (by decide) rfl (Nat.le_of_ble_eq_true rfl) (fun V S0 => ?_)
  have S := S0.b
  unfold f_X4_init at h
  refine i_aload_n S dX4_init_0 rfl ?_
  refine i_objInit S lk_X4_3 im_obj cd_obj dX4_init_1 (Nat.le_of_ble_eq_true rfl) ?_
  refine i_aload_n S dX4_init_4 rfl ?_
  refine i_sipush (v := 160) S dX4_init_5 sp_160 ?_
  obtain ⟨p1, e1, h⟩ := bn h
  refine i_newaqI (N := 160) S ac_int (by decide) (by decide) (by decide) e1 dX4_init_8 ?_
  obtain ⟨hk2, h⟩ := gd h
  refine i_putFR (x := some p1.1) S fl_X4_11 hk2 rfl rfl (fun C T h => ci_d4 h 0 (by decide)) rfl rfl dX4_init_10 ?_
  refine i_aload_n S dX4_init_13 rfl ?_
  refine i_sipush (v := 160) S dX4_init_14 sp_160 ?_
  obtain ⟨p3, e3, h⟩ := bn h
  refine i_newaqI (N := 160) S ac_int (by decide) (by decide) (by decide) e3 dX4_init_17 ?_
  refine i_putFR (x := some p3.1) S fl_X4_15 (alq_old e3 hk2) rfl rfl (fun C T h => ci_d4 h 1 (by decide)) rfl rfl dX4_init_19 ?_
  refine i_aload_n S dX4_init_22 rfl ?_
  refine i_bipush (v := 12) S dX4_init_23 bp_12 ?_
  obtain ⟨p4, e4, h⟩ := bn h
  refine i_newaqI (N := 12) S ac_int (by decide) (by decide) (by decide) e4 dX4_init_25 ?_
  refine i_putFR (x := some p4.1) S fl_X4_18 (alq_old e4 (alq_old e3 hk2)) rfl rfl (fun C T h => ci_d4 h 2 (by decide)) rfl rfl dX4_init_27 ?_
  refine i_aload_n S dX4_init_30 rfl ?_
  refine i_bipush (v := 12) S dX4_init_31 bp_12 ?_
  obtain ⟨p5, e5, h⟩ := bn h
  refine i_newaqI (N := 12) S ac_int (by decide) (by decide) (by decide) e5 dX4_init_33 ?_
  refine i_putFR (x := some p5.1) S fl_X4_21 (alq_old e5 (alq_old e4 (alq_old e3 hk2))) rfl rfl (fun C T h => ci_d4 h 3 (by decide)) rfl rfl dX4_init_35 ?_
  refine i_aload_n S dX4_init_38 rfl ?_
  refine i_bipush (v := 12) S dX4_init_39 bp_12 ?_
  obtain ⟨p6, e6, h⟩ := bn h
  refine i_newaqI (N := 12) S ac_int (by decide) (by decide) (by decide) e6 dX4_init_41 ?_
  refine i_putFR (x := some p6.1) S fl_X4_24 (alq_old e6 (alq_old e5 (alq_old e4 (alq_old e3 hk2)))) rfl rfl (fun C T h => ci_d4 h 4 (by decide)) rfl rfl dX4_init_43 ?_
  refine i_aload_n S dX4_init_46 rfl ?_
  refine i_bipush (v := 8) S dX4_init_47 bp_8 ?_
  obtain ⟨p7, e7, h⟩ := bn h
  refine i_newaqI (N := 8) S ac_int (by decide) (by decide) (by decide) e7 dX4_init_49 ?_
  refine i_putFR (x := some p7.1) S fl_X4_27 (alq_old e7 (alq_old e6 (alq_old e5 (alq_old e4 (alq_old e3 hk2))))) rfl rfl (fun C T h => ci_d4 h 5 (by decide)) rfl rfl dX4_init_51 ?_
  refine i_aload_n S dX4_init_54 rfl ?_
  refine i_bipush (v := 24) S dX4_init_55 bp_24 ?_
  obtain ⟨p8, e8, h⟩ := bn h
  refine i_newaqI (N := 24) S ac_int (by decide) (by decide) (by decide) e8 dX4_init_57 ?_
  refine i_putFR (x := some p8.1) S fl_X4_30 (alq_old e8 (alq_old e7 (alq_old e6 (alq_old e5 (alq_old e4 (alq_old e3 hk2)))))) rfl rfl (fun C T h => ci_d4 h 6 (by decide)) rfl rfl dX4_init_59 ?_
  cases h
  exact i_vret S0 dX4_init_62
/-! WordYear$NearLaw.clear -/
noncomputable def f_X4_clear (o0 : Nat) (w : Mm) : Option Mm := some (sI (sI w o0 7 (0 : Int32)) o0 9 (0 : Int32))
set_option maxHeartbeats 4000000 in
set_option maxRecDepth 100000 in
theorem c_X4_clear (g : Gx) (d : Nat) {o0 : Nat} {w : Mm} {p : Mm} (hL : Lay w) (ho0 : isNL o0 = true) (h : f_X4_clear o0 w = some p) : Call g (d + 1) yX4_clear cX4_clear 1 none [rf g o0] w none p := by
  refine call_of (L0 := [some (rf g o0)]) (by decide) rfl (Nat.le_of_ble_eq_true rfl) (fun V S0 => ?_)
  have S := S0.b
  unfold f_X4_clear at h
  refine i_aload_n S dX4_clear_0 rfl ?_
  refine i_iconst (v := 0) S dX4_clear_1 ic_0 ?_
  refine i_putI S fl_X4_33 (nl_k0 hL ho0) rfl rfl rfl dX4_clear_2 ?_
  refine i_aload_n S dX4_clear_5 rfl ?_
  refine i_iconst (v := 0) S dX4_clear_6 ic_0 ?_
  refine i_putI S fl_X4_37 (nl_k0 hL ho0) rfl rfl rfl dX4_clear_7 ?_
  cases h
  exact i_vret S0 dX4_clear_10
/-! WordYear$NearLaw.takeOver -/
noncomputable def f_X4_takeOver (o0 : Nat) (o1 : Nat) (w : Mm) : Option Mm := some (sI (sI (cpI (cpI (cpI (cpI (cpI w (o1 + 1) (o0 + 1) (ix (0 : Int32)) (ix (0 : Int32)) (ix (160 : Int32))) (o1 + 2) (o0 + 2) (ix (0 : Int32)) (ix (0 : Int32)) (ix (160 : Int32))) (o1 + 3) (o0 + 3) (ix (0 : Int32)) (ix (0 : Int32)) (ix (12 : Int32))) (o1 + 4) (o0 + 4) (ix (0 : Int32)) (ix (0 : Int32)) (ix (12 : Int32))) (o1 + 5) (o0 + 5) (ix (0 : Int32)) (ix (0 : Int32)) (ix (12 : Int32))) o0 7 (gI (cpI (cpI (cpI (cpI (cpI w (o1 + 1) (o0 + 1) (ix (0 : Int32)) (ix (0 : Int32)) (ix (160 : Int32))) (o1 + 2) (o0 + 2) (ix (0 : Int32)) (ix (0 : Int32)) (ix (160 : Int32))) (o1 + 3) (o0 + 3) (ix (0 : Int32)) (ix (0 : Int32)) (ix (12 : Int32))) (o1 + 4) (o0 + 4) (ix (0 : Int32)) (ix (0 : Int32)) (ix (12 : Int32))) (o1 + 5) (o0 + 5) (ix (0 : Int32)) (ix (0 : Int32)) (ix (12 : Int32))) o1 7)) o0 9 (gI (sI (cpI (cpI (cpI (cpI (cpI w (o1 + 1) (o0 + 1) (ix (0 : Int32)) (ix (0 : Int32)) (ix (160 : Int32))) (o1 + 2) (o0 + 2) (ix (0 : Int32)) (ix (0 : Int32)) (ix (160 : Int32))) (o1 + 3) (o0 + 3) (ix (0 : Int32)) (ix (0 : Int32)) (ix (12 : Int32))) (o1 + 4) (o0 + 4) (ix (0 : Int32)) (ix (0 : Int32)) (ix (12 : Int32))) (o1 + 5) (o0 + 5) (ix (0 : Int32)) (ix (0 : Int32)) (ix (12 : Int32))) o0 7 (gI (cpI (cpI (cpI (cpI (cpI w (o1 + 1) (o0 + 1) (ix (0 : Int32)) (ix (0 : Int32)) (ix (160 : Int32))) (o1 + 2) (o0 + 2) (ix (0 : Int32)) (ix (0 : Int32)) (ix (160 : Int32))) (o1 + 3) (o0 + 3) (ix (0 : Int32)) (ix (0 : Int32)) (ix (12 : Int32))) (o1 + 4) (o0 + 4) (ix (0 : Int32)) (ix (0 : Int32)) (ix (12 : Int32))) (o1 + 5) (o0 + 5) (ix (0 : Int32)) (ix (0 : Int32)) (ix (12 : Int32))) o1 7)) o1 9))
set_option maxHeartbeats 4000000 in
set_option maxRecDepth 100000 in
theorem c_X4_takeOver (g : Gx) (d : Nat) {o0 : Nat} {o1 : Nat} {w : Mm} {p : Mm} (hL : Lay w) (ho0 : isNL o0 = true) (ho1 : isNL o1 = true) (h : f_X4_takeOver o0 o1 w = some p) : Call g (d + 1) yX4_takeOver cX4_takeOver 2 none [rf g o0, rf g o1] w none p := by
  refine call_of (L0 := [some (rf g o0), some (rf g o1)]) (by decide) rfl (Nat.le_of_ble_eq_true rfl) (fun V S0 => ?_)
  have S := S0.b
  unfold f_X4_takeOver at h
  refine i_aload_n S dX4_takeOver_0 rfl ?_
  refine i_getR S fl_X4_11 (nl_k0 hL ho1) (nl_r0 hL ho1) rfl dX4_takeOver_1 ?_
  refine i_iconst (v := 0) S dX4_takeOver_4 ic_0 ?_
  refine i_aload_n S dX4_takeOver_5 rfl ?_
  refine i_getR S fl_X4_11 (nl_k0 hL ho0) (nl_r0 hL ho0) rfl dX4_takeOver_6 ?_
  refine i_iconst (v := 0) S dX4_takeOver_9 ic_0 ?_
  refine i_sipush (v := 160) S dX4_takeOver_10 sp_160 ?_
  refine i_copyI S lk_X4_40 (nl_k1 hL ho1) (nl_k1 hL ho0) (by decide) (by decide) (by decide) (by decide) (by decide) (Nat.le_of_ble_eq_true rfl) dX4_takeOver_13 ?_
  refine i_aload_n S dX4_takeOver_16 rfl ?_
  refine i_getR S fl_X4_15 (nl_k0 hL ho1) (nl_r1 hL ho1) rfl dX4_takeOver_17 ?_
  refine i_iconst (v := 0) S dX4_takeOver_20 ic_0 ?_
  refine i_aload_n S dX4_takeOver_21 rfl ?_
  refine i_getR S fl_X4_15 (nl_k0 hL ho0) (nl_r1 hL ho0) rfl dX4_takeOver_22 ?_
  refine i_iconst (v := 0) S dX4_takeOver_25 ic_0 ?_
  refine i_sipush (v := 160) S dX4_takeOver_26 sp_160 ?_
  refine i_copyI S lk_X4_40 (nl_k2 hL ho1) (nl_k2 hL ho0) (by decide) (by decide) (by decide) (by decide) (by decide) (Nat.le_of_ble_eq_true rfl) dX4_takeOver_29 ?_
  refine i_aload_n S dX4_takeOver_32 rfl ?_
  refine i_getR S fl_X4_18 (nl_k0 hL ho1) (nl_r2 hL ho1) rfl dX4_takeOver_33 ?_
  refine i_iconst (v := 0) S dX4_takeOver_36 ic_0 ?_
  refine i_aload_n S dX4_takeOver_37 rfl ?_
  refine i_getR S fl_X4_18 (nl_k0 hL ho0) (nl_r2 hL ho0) rfl dX4_takeOver_38 ?_
  refine i_iconst (v := 0) S dX4_takeOver_41 ic_0 ?_
  refine i_bipush (v := 12) S dX4_takeOver_42 bp_12 ?_
  refine i_copyI S lk_X4_40 (nl_k3 hL ho1) (nl_k3 hL ho0) (by decide) (by decide) (by decide) (by decide) (by decide) (Nat.le_of_ble_eq_true rfl) dX4_takeOver_44 ?_
  refine i_aload_n S dX4_takeOver_47 rfl ?_
  refine i_getR S fl_X4_21 (nl_k0 hL ho1) (nl_r3 hL ho1) rfl dX4_takeOver_48 ?_
  refine i_iconst (v := 0) S dX4_takeOver_51 ic_0 ?_
  refine i_aload_n S dX4_takeOver_52 rfl ?_
  refine i_getR S fl_X4_21 (nl_k0 hL ho0) (nl_r3 hL ho0) rfl dX4_takeOver_53 ?_
  refine i_iconst (v := 0) S dX4_takeOver_56 ic_0 ?_
  refine i_bipush (v := 12) S dX4_takeOver_57 bp_12 ?_
  refine i_copyI S lk_X4_40 (nl_k4 hL ho1) (nl_k4 hL ho0) (by decide) (by decide) (by decide) (by decide) (by decide) (Nat.le_of_ble_eq_true rfl) dX4_takeOver_59 ?_
  refine i_aload_n S dX4_takeOver_62 rfl ?_
  refine i_getR S fl_X4_24 (nl_k0 hL ho1) (nl_r4 hL ho1) rfl dX4_takeOver_63 ?_
  refine i_iconst (v := 0) S dX4_takeOver_66 ic_0 ?_
  refine i_aload_n S dX4_takeOver_67 rfl ?_
  refine i_getR S fl_X4_24 (nl_k0 hL ho0) (nl_r4 hL ho0) rfl dX4_takeOver_68 ?_
  refine i_iconst (v := 0) S dX4_takeOver_71 ic_0 ?_
  refine i_bipush (v := 12) S dX4_takeOver_72 bp_12 ?_
  refine i_copyI S lk_X4_40 (nl_k5 hL ho1) (nl_k5 hL ho0) (by decide) (by decide) (by decide) (by decide) (by decide) (Nat.le_of_ble_eq_true rfl) dX4_takeOver_74 ?_
  refine i_aload_n S dX4_takeOver_77 rfl ?_
  refine i_aload_n S dX4_takeOver_78 rfl ?_
  refine i_getIv (v := gI (cpI (cpI (cpI (cpI (cpI w (o1 + 1) (o0 + 1) (ix (0 : Int32)) (ix (0 : Int32)) (ix (160 : Int32))) (o1 + 2) (o0 + 2) (ix (0 : Int32)) (ix (0 : Int32)) (ix (160 : Int32))) (o1 + 3) (o0 + 3) (ix (0 : Int32)) (ix (0 : Int32)) (ix (12 : Int32))) (o1 + 4) (o0 + 4) (ix (0 : Int32)) (ix (0 : Int32)) (ix (12 : Int32))) (o1 + 5) (o0 + 5) (ix (0 : Int32)) (ix (0 : Int32)) (ix (12 : Int32))) o1 7) S fl_X4_33 (nl_k0 hL ho1) rfl rfl dX4_takeOver_79 ?_
  refine i_putI S fl_X4_33 (nl_k0 hL ho0) rfl rfl rfl dX4_takeOver_82 ?_
  refine i_aload_n S dX4_takeOver_85 rfl ?_
  refine i_aload_n S dX4_takeOver_86 rfl ?_
  refine i_getIv (v := gI (sI (cpI (cpI (cpI (cpI (cpI w (o1 + 1) (o0 + 1) (ix (0 : Int32)) (ix (0 : Int32)) (ix (160 : Int32))) (o1 + 2) (o0 + 2) (ix (0 : Int32)) (ix (0 : Int32)) (ix (160 : Int32))) (o1 + 3) (o0 + 3) (ix (0 : Int32)) (ix (0 : Int32)) (ix (12 : Int32))) (o1 + 4) (o0 + 4) (ix (0 : Int32)) (ix (0 : Int32)) (ix (12 : Int32))) (o1 + 5) (o0 + 5) (ix (0 : Int32)) (ix (0 : Int32)) (ix (12 : Int32))) o0 7 (gI (cpI (cpI (cpI (cpI (cpI w (o1 + 1) (o0 + 1) (ix (0 : Int32)) (ix (0 : Int32)) (ix (160 : Int32))) (o1 + 2) (o0 + 2) (ix (0 : Int32)) (ix (0 : Int32)) (ix (160 : Int32))) (o1 + 3) (o0 + 3) (ix (0 : Int32)) (ix (0 : Int32)) (ix (12 : Int32))) (o1 + 4) (o0 + 4) (ix (0 : Int32)) (ix (0 : Int32)) (ix (12 : Int32))) (o1 + 5) (o0 + 5) (ix (0 : Int32)) (ix (0 : Int32)) (ix (12 : Int32))) o1 7)) o1 9) S fl_X4_37 (nl_k0 hL ho1) rfl rfl dX4_takeOver_87 ?_
  refine i_putI S fl_X4_37 (nl_k0 hL ho0) rfl rfl rfl dX4_takeOver_90 ?_
  cases h
  exact i_vret S0 dX4_takeOver_93
/-! WordYear$NearLaw.put -/
noncomputable def f_X4_put (o0 : Nat) (x1 : Int32) (x2 : Int32) (w : Mm) : Option (Int32 × Mm) := if (gI w o0 7) < 0 then (some ((-1 : Int32), w)) else (if (gI w o0 7) < (160 : Int32) then (if inb (gI w o0 7) 160 = true then (if inb (gI (sI w (o0 + 1) (ix (gI w o0 7)) x1) o0 7) 160 = true then (some ((gI (sI (sI (sI w (o0 + 1) (ix (gI w o0 7)) x1) (o0 + 2) (ix (gI (sI w (o0 + 1) (ix (gI w o0 7)) x1) o0 7)) x2) o0 7 ((gI (sI (sI w (o0 + 1) (ix (gI w o0 7)) x1) (o0 + 2) (ix (gI (sI w (o0 + 1) (ix (gI w o0 7)) x1) o0 7)) x2) o0 7) + (1 : Int32))) o0 7) - (1 : Int32), sI (sI (sI w (o0 + 1) (ix (gI w o0 7)) x1) (o0 + 2) (ix (gI (sI w (o0 + 1) (ix (gI w o0 7)) x1) o0 7)) x2) o0 7 ((gI (sI (sI w (o0 + 1) (ix (gI w o0 7)) x1) (o0 + 2) (ix (gI (sI w (o0 + 1) (ix (gI w o0 7)) x1) o0 7)) x2) o0 7) + (1 : Int32)))) else none) else none) else (some ((-1 : Int32), w)))
set_option maxHeartbeats 4000000 in
set_option maxRecDepth 100000 in
theorem c_X4_put (g : Gx) (d : Nat) {o0 : Nat} {x1 : Int32} {x2 : Int32} {w : Mm} {p : (Int32 × Mm)} (hL : Lay w) (ho0 : isNL o0 = true) (h : f_X4_put o0 x1 x2 w = some p) : Call g (d + 1) yX4_put cX4_put 3 (some .int) [rf g o0, .int x1, .int x2] w (some (.int p.1)) p.2 := by
  refine call_of (L0 := [some (rf g o0), some (.int x1), some (.int x2)]) (by decide) rfl (Nat.le_of_ble_eq_true rfl) (fun V S0 => ?_)
  have S := S0.b
  unfold f_X4_put at h
  refine i_aload_n S dX4_put_0 rfl ?_
  refine i_getIv (v := gI w o0 7) S fl_X4_33 (nl_k0 hL ho0) rfl rfl dX4_put_1 ?_
  refine i_if_lt (tgt := 17) S dX4_put_4 (by decide) (fun q1 => ?_) (fun q1 => ?_)
  · replace h := (if_pos q1).symm.trans h
    refine i_iconst (v := -1) S dX4_put_17 ic_m1 ?_
    cases h
    exact i_iret S0 rfl dX4_put_18
  · replace h := (if_neg q1).symm.trans h
    refine i_aload_n S dX4_put_7 rfl ?_
    refine i_getIv (v := gI w o0 7) S fl_X4_33 (nl_k0 hL ho0) rfl rfl dX4_put_8 ?_
    refine i_sipush (v := 160) S dX4_put_11 sp_160 ?_
    refine i_icmp_lt (tgt := 19) S dX4_put_14 (by decide) (fun q2 => ?_) (fun q2 => ?_)
    · replace h := (if_pos q2).symm.trans h
      refine i_aload_n S dX4_put_19 rfl ?_
      refine i_getR S fl_X4_11 (nl_k0 hL ho0) (nl_r0 hL ho0) rfl dX4_put_20 ?_
      refine i_aload_n S dX4_put_23 rfl ?_
      refine i_getIv (v := gI w o0 7) S fl_X4_33 (nl_k0 hL ho0) rfl rfl dX4_put_24 ?_
      refine i_iload_n S dX4_put_27 rfl ?_
      obtain ⟨hi4, h⟩ := gd h
      refine i_iast S (nl_k1 hL ho0) hi4 dX4_put_28 ?_
      refine i_aload_n S dX4_put_29 rfl ?_
      refine i_getR S fl_X4_15 (nl_k0 hL ho0) (nl_r1 hL ho0) rfl dX4_put_30 ?_
      refine i_aload_n S dX4_put_33 rfl ?_
      refine i_getIv (v := gI (sI w (o0 + 1) (ix (gI w o0 7)) x1) o0 7) S fl_X4_33 (nl_k0 hL ho0) rfl rfl dX4_put_34 ?_
      refine i_iload_n S dX4_put_37 rfl ?_
      obtain ⟨hi6, h⟩ := gd h
      refine i_iast S (nl_k2 hL ho0) hi6 dX4_put_38 ?_
      refine i_aload_n S dX4_put_39 rfl ?_
      refine i_dup S dX4_put_40 rfl ?_
      refine i_getIv (v := gI (sI (sI w (o0 + 1) (ix (gI w o0 7)) x1) (o0 + 2) (ix (gI (sI w (o0 + 1) (ix (gI w o0 7)) x1) o0 7)) x2) o0 7) S fl_X4_33 (nl_k0 hL ho0) rfl rfl dX4_put_41 ?_
      refine i_iconst (v := 1) S dX4_put_44 ic_1 ?_
      refine i_iadd S dX4_put_45 ?_
      refine i_putI S fl_X4_33 (nl_k0 hL ho0) rfl rfl rfl dX4_put_46 ?_
      refine i_aload_n S dX4_put_49 rfl ?_
      refine i_getIv (v := gI (sI (sI (sI w (o0 + 1) (ix (gI w o0 7)) x1) (o0 + 2) (ix (gI (sI w (o0 + 1) (ix (gI w o0 7)) x1) o0 7)) x2) o0 7 ((gI (sI (sI w (o0 + 1) (ix (gI w o0 7)) x1) (o0 + 2) (ix (gI (sI w (o0 + 1) (ix (gI w o0 7)) x1) o0 7)) x2) o0 7) + (1 : Int32))) o0 7) S fl_X4_33 (nl_k0 hL ho0) rfl rfl dX4_put_50 ?_
      refine i_iconst (v := 1) S dX4_put_53 ic_1 ?_
      refine i_isub S dX4_put_54 ?_
      cases h
      exact i_iret S0 rfl dX4_put_55
    · replace h := (if_neg q2).symm.trans h
      refine i_iconst (v := -1) S dX4_put_17 ic_m1 ?_
      cases h
      exact i_iret S0 rfl dX4_put_18
/-! WordYear$NearLaw.land -/
noncomputable def f_X4_land (o0 : Nat) (x1 : Int32) (w : Mm) : Option Mm := if x1 < 0 then (some w) else (if (160 : Int32) ≤ x1 then (some w) else (if inb x1 160 = true then (some (sI w (o0 + 2) (ix x1) (gI w o0 7))) else none))
set_option maxHeartbeats 4000000 in
set_option maxRecDepth 100000 in
theorem c_X4_land (g : Gx) (d : Nat) {o0 : Nat} {x1 : Int32} {w : Mm} {p : Mm} (hL : Lay w) (ho0 : isNL o0 = true) (h : f_X4_land o0 x1 w = some p) : Call g (d + 1) yX4_land cX4_land 2 none [rf g o0, .int x1] w none p := by
  refine call_of (L0 := [some (rf g o0), some (.int x1)]) (by decide) rfl (Nat.le_of_ble_eq_true rfl) (fun V S0 => ?_)
  have S := S0.b
  unfold f_X4_land at h
  refine i_iload_n S dX4_land_0 rfl ?_
  refine i_if_lt (tgt := 21) S dX4_land_1 (by decide) (fun q1 => ?_) (fun q1 => ?_)
  · replace h := (if_pos q1).symm.trans h
    cases h
    exact i_vret S0 dX4_land_21
  · replace h := (if_neg q1).symm.trans h
    refine i_iload_n S dX4_land_4 rfl ?_
    refine i_sipush (v := 160) S dX4_land_5 sp_160 ?_
    refine i_icmp_ge (tgt := 21) S dX4_land_8 (by decide) (fun q2 => ?_) (fun q2 => ?_)
    · replace h := (if_pos q2).symm.trans h
      cases h
      exact i_vret S0 dX4_land_21
    · replace h := (if_neg q2).symm.trans h
      refine i_aload_n S dX4_land_11 rfl ?_
      refine i_getR S fl_X4_15 (nl_k0 hL ho0) (nl_r1 hL ho0) rfl dX4_land_12 ?_
      refine i_iload_n S dX4_land_15 rfl ?_
      refine i_aload_n S dX4_land_16 rfl ?_
      refine i_getIv (v := gI w o0 7) S fl_X4_33 (nl_k0 hL ho0) rfl rfl dX4_land_17 ?_
      obtain ⟨hi4, h⟩ := gd h
      refine i_iast S (nl_k2 hL ho0) hi4 dX4_land_20 ?_
      cases h
      exact i_vret S0 dX4_land_21
/-! WordYear$NearLaw.startPrice -/
noncomputable def f_X4_startPrice (o0 : Nat) (w : Mm) : Option Mm := if (gI w o0 9) < 0 then (some w) else (if (12 : Int32) ≤ (gI w o0 9) then (some w) else (if inb (gI w o0 9) 12 = true then (some (sI w (o0 + 3) (ix (gI w o0 9)) (gI w o0 7))) else none))
set_option maxHeartbeats 4000000 in
set_option maxRecDepth 100000 in
theorem c_X4_startPrice (g : Gx) (d : Nat) {o0 : Nat} {w : Mm} {p : Mm} (hL : Lay w) (ho0 : isNL o0 = true) (h : f_X4_startPrice o0 w = some p) : Call g (d + 1) yX4_startPrice cX4_startPrice 1 none [rf g o0] w none p := by
  refine call_of (L0 := [some (rf g o0)]) (by decide) rfl (Nat.le_of_ble_eq_true rfl) (fun V S0 => ?_)
  have S := S0.b
  unfold f_X4_startPrice at h
  refine i_aload_n S dX4_startPrice_0 rfl ?_
  refine i_getIv (v := gI w o0 9) S fl_X4_37 (nl_k0 hL ho0) rfl rfl dX4_startPrice_1 ?_
  refine i_if_lt (tgt := 29) S dX4_startPrice_4 (by decide) (fun q1 => ?_) (fun q1 => ?_)
  · replace h := (if_pos q1).symm.trans h
    cases h
    exact i_vret S0 dX4_startPrice_29
  · replace h := (if_neg q1).symm.trans h
    refine i_aload_n S dX4_startPrice_7 rfl ?_
    refine i_getIv (v := gI w o0 9) S fl_X4_37 (nl_k0 hL ho0) rfl rfl dX4_startPrice_8 ?_
    refine i_bipush (v := 12) S dX4_startPrice_11 bp_12 ?_
    refine i_icmp_ge (tgt := 29) S dX4_startPrice_13 (by decide) (fun q2 => ?_) (fun q2 => ?_)
    · replace h := (if_pos q2).symm.trans h
      cases h
      exact i_vret S0 dX4_startPrice_29
    · replace h := (if_neg q2).symm.trans h
      refine i_aload_n S dX4_startPrice_16 rfl ?_
      refine i_getR S fl_X4_18 (nl_k0 hL ho0) (nl_r2 hL ho0) rfl dX4_startPrice_17 ?_
      refine i_aload_n S dX4_startPrice_20 rfl ?_
      refine i_getIv (v := gI w o0 9) S fl_X4_37 (nl_k0 hL ho0) rfl rfl dX4_startPrice_21 ?_
      refine i_aload_n S dX4_startPrice_24 rfl ?_
      refine i_getIv (v := gI w o0 7) S fl_X4_33 (nl_k0 hL ho0) rfl rfl dX4_startPrice_25 ?_
      obtain ⟨hi4, h⟩ := gd h
      refine i_iast S (nl_k3 hL ho0) hi4 dX4_startPrice_28 ?_
      cases h
      exact i_vret S0 dX4_startPrice_29
/-! WordYear$NearLaw.startCondition -/
noncomputable def f_X4_startCondition (o0 : Nat) (w : Mm) : Option Mm := if (gI w o0 9) < 0 then (some w) else (if (12 : Int32) ≤ (gI w o0 9) then (some w) else (if inb (gI w o0 9) 12 = true then (some (sI w (o0 + 4) (ix (gI w o0 9)) (gI w o0 7))) else none))
set_option maxHeartbeats 4000000 in
set_option maxRecDepth 100000 in
theorem c_X4_startCondition (g : Gx) (d : Nat) {o0 : Nat} {w : Mm} {p : Mm} (hL : Lay w) (ho0 : isNL o0 = true) (h : f_X4_startCondition o0 w = some p) : Call g (d + 1) yX4_startCondition cX4_startCondition 1 none [rf g o0] w none p := by
  refine call_of (L0 := [some (rf g o0)]) (by decide) rfl (Nat.le_of_ble_eq_true rfl) (fun V S0 => ?_)
  have S := S0.b
  unfold f_X4_startCondition at h
  refine i_aload_n S dX4_startCondition_0 rfl ?_
  refine i_getIv (v := gI w o0 9) S fl_X4_37 (nl_k0 hL ho0) rfl rfl dX4_startCondition_1 ?_
  refine i_if_lt (tgt := 29) S dX4_startCondition_4 (by decide) (fun q1 => ?_) (fun q1 => ?_)
  · replace h := (if_pos q1).symm.trans h
    cases h
    exact i_vret S0 dX4_startCondition_29
  · replace h := (if_neg q1).symm.trans h
    refine i_aload_n S dX4_startCondition_7 rfl ?_
    refine i_getIv (v := gI w o0 9) S fl_X4_37 (nl_k0 hL ho0) rfl rfl dX4_startCondition_8 ?_
    refine i_bipush (v := 12) S dX4_startCondition_11 bp_12 ?_
    refine i_icmp_ge (tgt := 29) S dX4_startCondition_13 (by decide) (fun q2 => ?_) (fun q2 => ?_)
    · replace h := (if_pos q2).symm.trans h
      cases h
      exact i_vret S0 dX4_startCondition_29
    · replace h := (if_neg q2).symm.trans h
      refine i_aload_n S dX4_startCondition_16 rfl ?_
      refine i_getR S fl_X4_21 (nl_k0 hL ho0) (nl_r3 hL ho0) rfl dX4_startCondition_17 ?_
      refine i_aload_n S dX4_startCondition_20 rfl ?_
      refine i_getIv (v := gI w o0 9) S fl_X4_37 (nl_k0 hL ho0) rfl rfl dX4_startCondition_21 ?_
      refine i_aload_n S dX4_startCondition_24 rfl ?_
      refine i_getIv (v := gI w o0 7) S fl_X4_33 (nl_k0 hL ho0) rfl rfl dX4_startCondition_25 ?_
      obtain ⟨hi4, h⟩ := gd h
      refine i_iast S (nl_k4 hL ho0) hi4 dX4_startCondition_28 ?_
      cases h
      exact i_vret S0 dX4_startCondition_29
/-! WordYear$NearLaw.endClause -/
noncomputable def f_X4_endClause (o0 : Nat) (w : Mm) : Option Mm := if (gI w o0 9) < 0 then (some w) else (if (12 : Int32) ≤ (gI w o0 9) then (some w) else (if inb (gI w o0 9) 12 = true then (some (sI (sI w (o0 + 5) (ix (gI w o0 9)) (gI w o0 7)) o0 9 ((gI (sI w (o0 + 5) (ix (gI w o0 9)) (gI w o0 7)) o0 9) + (1 : Int32)))) else none))
set_option maxHeartbeats 4000000 in
set_option maxRecDepth 100000 in
theorem c_X4_endClause (g : Gx) (d : Nat) {o0 : Nat} {w : Mm} {p : Mm} (hL : Lay w) (ho0 : isNL o0 = true) (h : f_X4_endClause o0 w = some p) : Call g (d + 1) yX4_endClause cX4_endClause 1 none [rf g o0] w none p := by
  refine call_of (L0 := [some (rf g o0)]) (by decide) rfl (Nat.le_of_ble_eq_true rfl) (fun V S0 => ?_)
  have S := S0.b
  unfold f_X4_endClause at h
  refine i_aload_n S dX4_endClause_0 rfl ?_
  refine i_getIv (v := gI w o0 9) S fl_X4_37 (nl_k0 hL ho0) rfl rfl dX4_endClause_1 ?_
  refine i_if_lt (tgt := 39) S dX4_endClause_4 (by decide) (fun q1 => ?_) (fun q1 => ?_)
  · replace h := (if_pos q1).symm.trans h
    cases h
    exact i_vret S0 dX4_endClause_39
  · replace h := (if_neg q1).symm.trans h
    refine i_aload_n S dX4_endClause_7 rfl ?_
    refine i_getIv (v := gI w o0 9) S fl_X4_37 (nl_k0 hL ho0) rfl rfl dX4_endClause_8 ?_
    refine i_bipush (v := 12) S dX4_endClause_11 bp_12 ?_
    refine i_icmp_ge (tgt := 39) S dX4_endClause_13 (by decide) (fun q2 => ?_) (fun q2 => ?_)
    · replace h := (if_pos q2).symm.trans h
      cases h
      exact i_vret S0 dX4_endClause_39
    · replace h := (if_neg q2).symm.trans h
      refine i_aload_n S dX4_endClause_16 rfl ?_
      refine i_getR S fl_X4_24 (nl_k0 hL ho0) (nl_r4 hL ho0) rfl dX4_endClause_17 ?_
      refine i_aload_n S dX4_endClause_20 rfl ?_
      refine i_getIv (v := gI w o0 9) S fl_X4_37 (nl_k0 hL ho0) rfl rfl dX4_endClause_21 ?_
      refine i_aload_n S dX4_endClause_24 rfl ?_
      refine i_getIv (v := gI w o0 7) S fl_X4_33 (nl_k0 hL ho0) rfl rfl dX4_endClause_25 ?_
      obtain ⟨hi4, h⟩ := gd h
      refine i_iast S (nl_k5 hL ho0) hi4 dX4_endClause_28 ?_
      refine i_aload_n S dX4_endClause_29 rfl ?_
      refine i_dup S dX4_endClause_30 rfl ?_
      refine i_getIv (v := gI (sI w (o0 + 5) (ix (gI w o0 9)) (gI w o0 7)) o0 9) S fl_X4_37 (nl_k0 hL ho0) rfl rfl dX4_endClause_31 ?_
      refine i_iconst (v := 1) S dX4_endClause_34 ic_1 ?_
      refine i_iadd S dX4_endClause_35 ?_
      refine i_putI S fl_X4_37 (nl_k0 hL ho0) rfl rfl rfl dX4_endClause_36 ?_
      cases h
      exact i_vret S0 dX4_endClause_39
/-! WordYear$NearReader.<init> -/
noncomputable def f_X5_init (o0 : Nat) (o1 : Nat) (w : Mm) : Option Mm := Option.bind (alq w 4 10) (fun p1 => Option.bind (f_X4_init p1.1 p1.2) (fun p2 => if gK p2 o0 = some (5, 2) then (some (sR (sR p2 o0 1 (some p1.1)) o0 0 (some o1))) else none))
set_option maxHeartbeats 4000000 in
set_option maxRecDepth 100000 in
theorem c_X5_init (g : Gx) (d : Nat) {o0 : Nat} {o1 : Nat} {w : Mm} {p : Mm}  (h : f_X5_init o0 o1 w = some p) : Call g (d + 2) yX5_init cX5_init 2 none [rf g o0, rf g o1] w none p := by
  refine call_of (L0 := [some (rf g o0), some (rf g o1)]) (by decide) rfl (Nat.le_of_ble_eq_true rfl) (fun V S0 => ?_)
  have S := S0.b
  unfold f_X5_init at h
  refine i_aload_n S dX5_init_0 rfl ?_
  refine i_objInit S lk_X5_3 im_obj cd_obj dX5_init_1 (Nat.le_of_ble_eq_true rfl) ?_
  refine i_aload_n S dX5_init_4 rfl ?_
  obtain ⟨p1, e1, h⟩ := bn h
  refine i_newq S CL_X5_9 e1 dX5_init_5 ?_
  refine i_dup S dX5_init_8 rfl ?_
  obtain ⟨p2, e2, h⟩ := bn h
  refine i_callIN (As := []) (st1 := [rf g p1.1, rf g o0]) S (c_X4_init g d e2) mw_X4_init rfl rfl lk_X5_11 im_X4_init dX5_init_9 rfl rfl (Nat.le_of_ble_eq_true rfl) rfl ?_
  obtain ⟨hk3, h⟩ := gd h
  refine i_putFR (x := some p1.1) S fl_X5_12 hk3 rfl rfl (fun C T h => ci_d5 h 1 (by decide)) rfl rfl dX5_init_12 ?_
  refine i_aload_n S dX5_init_15 rfl ?_
  refine i_aload_n S dX5_init_16 rfl ?_
  refine i_putFR (x := some o1) S fl_X5_18 hk3 rfl rfl (fun C T h => ci_d5 h 0 (by decide)) rfl rfl dX5_init_17 ?_
  cases h
  exact i_vret S0 dX5_init_20
/-! WordYear$NearReader.isDigit -/
noncomputable def f_X5_isDigit (x0 : Int32) : Int32 := if x0 < (48 : Int32) then ((0 : Int32)) else (if (57 : Int32) < x0 then ((0 : Int32)) else ((1 : Int32)))
set_option maxHeartbeats 4000000 in
set_option maxRecDepth 100000 in
theorem c_X5_isDigit (g : Gx) (d : Nat) {x0 : Int32} {w : Mm} {p : Int32}  (h : f_X5_isDigit x0 = p) : Call g (d + 1) yX5_isDigit cX5_isDigit 1 (some .boolean) [.int x0] w (some (.int p)) w := by
  refine call_of (L0 := [some (.int x0)]) (by decide) rfl (Nat.le_of_ble_eq_true rfl) (fun V S0 => ?_)
  have S := S0.b
  unfold f_X5_isDigit at h
  refine i_iload_n S dX5_isDigit_0 rfl ?_
  refine i_bipush (v := 48) S dX5_isDigit_1 bp_48 ?_
  refine i_icmp_lt (tgt := 16) S dX5_isDigit_3 (by decide) (fun q1 => ?_) (fun q1 => ?_)
  · replace h := (if_pos q1).symm.trans h
    refine i_iconst (v := 0) S dX5_isDigit_16 ic_0 ?_
    subst h
    exact i_iret S0 rfl dX5_isDigit_17
  · replace h := (if_neg q1).symm.trans h
    refine i_iload_n S dX5_isDigit_6 rfl ?_
    refine i_bipush (v := 57) S dX5_isDigit_7 bp_57 ?_
    refine i_icmp_gt (tgt := 16) S dX5_isDigit_9 (by decide) (fun q2 => ?_) (fun q2 => ?_)
    · replace h := (if_pos q2).symm.trans h
      refine i_iconst (v := 0) S dX5_isDigit_16 ic_0 ?_
      subst h
      exact i_iret S0 rfl dX5_isDigit_17
    · replace h := (if_neg q2).symm.trans h
      refine i_iconst (v := 1) S dX5_isDigit_12 ic_1 ?_
      refine i_goto (tgt := 17) S dX5_isDigit_13 (by decide) ?_
      subst h
      exact i_iret S0 rfl dX5_isDigit_17
theorem b_X5_isDigit (x0 : Int32) : isB (f_X5_isDigit x0) = true := by
  unfold f_X5_isDigit
  repeat' split
  all_goals first | rfl
/-! WordYear$NearReader.letterOf -/
noncomputable def f_X5_letterOf (x0 : Int32) : Int32 := if x0 = 97 then ((5 : Int32)) else (if x0 = 98 then ((2 : Int32)) else (if x0 = 99 then ((6 : Int32)) else (if x0 = 108 then ((7 : Int32)) else (if x0 = 115 then ((1 : Int32)) else (if x0 = 119 then ((0 : Int32)) else (if x0 = 120 then ((3 : Int32)) else (if x0 = 121 then ((4 : Int32)) else ((-1 : Int32)))))))))
set_option maxHeartbeats 4000000 in
set_option maxRecDepth 100000 in
theorem c_X5_letterOf (g : Gx) (d : Nat) {x0 : Int32} {w : Mm} {p : Int32}  (h : f_X5_letterOf x0 = p) : Call g (d + 1) yX5_letterOf cX5_letterOf 1 (some .int) [.int x0] w (some (.int p)) w := by
  refine call_of (L0 := [some (.int x0)]) (by decide) rfl (Nat.le_of_ble_eq_true rfl) (fun V S0 => ?_)
  have S := S0.b
  unfold f_X5_letterOf at h
  refine i_iload_n S dX5_letterOf_0 rfl ?_
  by_cases q1 : x0 = 97
  · replace h := (if_pos q1).symm.trans h
    refine i_tswIn (tgt := 126) (off := 125) S dX5_letterOf_1 (by rw [q1]; decide) (by rw [q1]; decide) (by rw [q1]; decide) (by decide) ?_
    refine i_iconst (v := 5) S dX5_letterOf_126 ic_5 ?_
    subst h
    exact i_iret S0 rfl dX5_letterOf_127
  · replace h := (if_neg q1).symm.trans h
    by_cases q2 : x0 = 98
    · replace h := (if_pos q2).symm.trans h
      refine i_tswIn (tgt := 120) (off := 119) S dX5_letterOf_1 (by rw [q2]; decide) (by rw [q2]; decide) (by rw [q2]; decide) (by decide) ?_
      refine i_iconst (v := 2) S dX5_letterOf_120 ic_2 ?_
      subst h
      exact i_iret S0 rfl dX5_letterOf_121
    · replace h := (if_neg q2).symm.trans h
      by_cases q3 : x0 = 99
      · replace h := (if_pos q3).symm.trans h
        refine i_tswIn (tgt := 128) (off := 127) S dX5_letterOf_1 (by rw [q3]; decide) (by rw [q3]; decide) (by rw [q3]; decide) (by decide) ?_
        refine i_bipush (v := 6) S dX5_letterOf_128 bp_6 ?_
        subst h
        exact i_iret S0 rfl dX5_letterOf_130
      · replace h := (if_neg q3).symm.trans h
        by_cases q4 : x0 = 108
        · replace h := (if_pos q4).symm.trans h
          refine i_tswIn (tgt := 131) (off := 130) S dX5_letterOf_1 (by rw [q4]; decide) (by rw [q4]; decide) (by rw [q4]; decide) (by decide) ?_
          refine i_bipush (v := 7) S dX5_letterOf_131 bp_7 ?_
          subst h
          exact i_iret S0 rfl dX5_letterOf_133
        · replace h := (if_neg q4).symm.trans h
          by_cases q5 : x0 = 115
          · replace h := (if_pos q5).symm.trans h
            refine i_tswIn (tgt := 118) (off := 117) S dX5_letterOf_1 (by rw [q5]; decide) (by rw [q5]; decide) (by rw [q5]; decide) (by decide) ?_
            refine i_iconst (v := 1) S dX5_letterOf_118 ic_1 ?_
            subst h
            exact i_iret S0 rfl dX5_letterOf_119
          · replace h := (if_neg q5).symm.trans h
            by_cases q6 : x0 = 119
            · replace h := (if_pos q6).symm.trans h
              refine i_tswIn (tgt := 116) (off := 115) S dX5_letterOf_1 (by rw [q6]; decide) (by rw [q6]; decide) (by rw [q6]; decide) (by decide) ?_
              refine i_iconst (v := 0) S dX5_letterOf_116 ic_0 ?_
              subst h
              exact i_iret S0 rfl dX5_letterOf_117
            · replace h := (if_neg q6).symm.trans h
              by_cases q7 : x0 = 120
              · replace h := (if_pos q7).symm.trans h
                refine i_tswIn (tgt := 122) (off := 121) S dX5_letterOf_1 (by rw [q7]; decide) (by rw [q7]; decide) (by rw [q7]; decide) (by decide) ?_
                refine i_iconst (v := 3) S dX5_letterOf_122 ic_3 ?_
                subst h
                exact i_iret S0 rfl dX5_letterOf_123
              · replace h := (if_neg q7).symm.trans h
                by_cases q8 : x0 = 121
                · replace h := (if_pos q8).symm.trans h
                  refine i_tswIn (tgt := 124) (off := 123) S dX5_letterOf_1 (by rw [q8]; decide) (by rw [q8]; decide) (by rw [q8]; decide) (by decide) ?_
                  refine i_iconst (v := 4) S dX5_letterOf_124 ic_4 ?_
                  subst h
                  exact i_iret S0 rfl dX5_letterOf_125
                · replace h := (if_neg q8).symm.trans h
                  refine i_tswD (tgt := 134) S dX5_letterOf_1 (by decide) (fun j hj => match j, hj with | 0, _ => Or.inr (tsne q1 (by decide)) | 1, _ => Or.inr (tsne q2 (by decide)) | 2, _ => Or.inr (tsne q3 (by decide)) | 3, _ => Or.inl rfl | 4, _ => Or.inl rfl | 5, _ => Or.inl rfl | 6, _ => Or.inl rfl | 7, _ => Or.inl rfl | 8, _ => Or.inl rfl | 9, _ => Or.inl rfl | 10, _ => Or.inl rfl | 11, _ => Or.inr (tsne q4 (by decide)) | 12, _ => Or.inl rfl | 13, _ => Or.inl rfl | 14, _ => Or.inl rfl | 15, _ => Or.inl rfl | 16, _ => Or.inl rfl | 17, _ => Or.inl rfl | 18, _ => Or.inr (tsne q5 (by decide)) | 19, _ => Or.inl rfl | 20, _ => Or.inl rfl | 21, _ => Or.inl rfl | 22, _ => Or.inr (tsne q6 (by decide)) | 23, _ => Or.inr (tsne q7 (by decide)) | 24, _ => Or.inr (tsne q8 (by decide)) | j + 25, hj => absurd hj (by show ¬ j + 25 < 25; omega)) (by decide) ?_
                  refine i_iconst (v := -1) S dX5_letterOf_134 ic_m1 ?_
                  subst h
                  exact i_iret S0 rfl dX5_letterOf_135
/-! WordYear$Tape.fail -/
noncomputable def f_X8_fail (x1 : Int32) (w : Mm) : Option Mm := if (gI w 12 4) = 0 then (some (sI w 12 4 (((-1000 : Int32) * x1) - (gI w 12 3)))) else (some w)
set_option maxHeartbeats 4000000 in
set_option maxRecDepth 100000 in
theorem c_X8_fail (g : Gx) (d : Nat) {x1 : Int32} {w : Mm} {p : Mm} (hL : Lay w) (h : f_X8_fail x1 w = some p) : Call g (d + 1) yX8_fail cX8_fail 2 none [rf g 12, .int x1] w none p := by
  refine call_of (L0 := [some (rf g 12), some (.int x1)]) (by decide) rfl (Nat.le_of_ble_eq_true rfl) (fun V S0 => ?_)
  have S := S0.b
  unfold f_X8_fail at h
  refine i_aload_n S dX8_fail_0 rfl ?_
  refine i_getIv (v := gI w 12 4) S fl_X8_29 (k12 hL) rfl rfl dX8_fail_1 ?_
  refine i_if_ne (tgt := 21) S dX8_fail_4 (by decide) (fun q1 => ?_) (fun q1 => ?_)
  · replace h := (if_neg q1).symm.trans h
    cases h
    exact i_vret S0 dX8_fail_21
  · replace h := (if_pos q1).symm.trans h
    refine i_aload_n S dX8_fail_7 rfl ?_
    refine i_sipush (v := -1000) S dX8_fail_8 sp_m1000 ?_
    refine i_iload_n S dX8_fail_11 rfl ?_
    refine i_imul S dX8_fail_12 ?_
    refine i_aload_n S dX8_fail_13 rfl ?_
    refine i_getIv (v := gI w 12 3) S fl_X8_26 (k12 hL) rfl rfl dX8_fail_14 ?_
    refine i_isub S dX8_fail_17 ?_
    refine i_putI S fl_X8_29 (k12 hL) rfl rfl rfl dX8_fail_18 ?_
    cases h
    exact i_vret S0 dX8_fail_21
/-! WordYear$Tape.sign -/
noncomputable def f_X8_sign  (w : Mm) : Option Int32 := Option.bind (mg (if (gI w 12 4) = 0 then (if (gI w 12 3) < 0 then (some (.inl ())) else (if (gI w 12 2) ≤ (gI w 12 3) then (some (.inl ())) else (if (gI w 12 1) ≤ (gI w 12 3) then (some (.inl ())) else (if (300 : Int32) ≤ (gI w 12 3) then (some (.inl ())) else (some (.inr (1 : Int32))))))) else (some (.inl ()))) (fun p6 => some (0 : Int32))) (fun p2 => if p2 = 0 then (some (-1 : Int32)) else (if inb (gI w 12 3) 300 = true then (some (gI w 13 (ix (gI w 12 3)))) else none))
set_option maxHeartbeats 4000000 in
set_option maxRecDepth 100000 in
theorem c_X8_sign (g : Gx) (d : Nat)  {w : Mm} {p : Int32} (hL : Lay w) (h : f_X8_sign w = some p) : Call g (d + 1) yX8_sign cX8_sign 2 (some .int) [rf g 12] w (some (.int p)) w := by
  refine call_of (L0 := [some (rf g 12), none]) (by decide) rfl (Nat.le_of_ble_eq_true rfl) (fun V S0 => ?_)
  have S := S0.b
  unfold f_X8_sign at h
  refine i_aload_n S dX8_sign_0 rfl ?_
  refine i_getIv (v := gI w 12 4) S fl_X8_29 (k12 hL) rfl rfl dX8_sign_1 ?_
  obtain ⟨p2, e2, h⟩ := bn h
  have hj2 : ∀ q2, p2 = q2 → V 51 [some (rf g 12), none] [.int q2] w := by
    intro q2 hq2
    subst hq2
    refine i_istore_n (L1 := [some (rf g 12), some (.int p2)]) S dX8_sign_51 (by decide) rfl ?_
    refine i_iload_n S dX8_sign_52 rfl ?_
    refine i_if_eq (tgt := 68) S dX8_sign_53 (by decide) (fun q3 => ?_) (fun q3 => ?_)
    · replace h := (if_pos q3).symm.trans h
      refine i_iconst (v := -1) S dX8_sign_68 ic_m1 ?_
      cases h
      exact i_iret S0 rfl dX8_sign_69
    · replace h := (if_neg q3).symm.trans h
      refine i_aload_n S dX8_sign_56 rfl ?_
      refine i_getR S fl_X8_9 (k12 hL) (r12_0 hL) rfl dX8_sign_57 ?_
      refine i_aload_n S dX8_sign_60 rfl ?_
      refine i_getIv (v := gI w 12 3) S fl_X8_26 (k12 hL) rfl rfl dX8_sign_61 ?_
      obtain ⟨hi5, h⟩ := gd h
      refine i_ialdv (v := gI w 13 (ix (gI w 12 3))) S (k13 hL) hi5 rfl dX8_sign_64 ?_
      refine i_goto (tgt := 69) S dX8_sign_65 (by decide) ?_
      cases h
      exact i_iret S0 rfl dX8_sign_69
  replace h := e2
  clear e2
  obtain ⟨s6, e6, hm6, ho6⟩ := mgn h
  have hj6 : ∀ p6, s6 = .inl p6 → V 50 [some (rf g 12), none] [] w := by
    intro p6 ep6
    have h := hm6 p6 ep6
    refine i_iconst (v := 0) S dX8_sign_50 ic_0 ?_
    have hz := hj2 _ (Option.some.inj h).symm
    exact hz
  replace h := e6
  clear e6
  refine i_if_ne (tgt := 50) S dX8_sign_4 (by decide) (fun q1 => ?_) (fun q1 => ?_)
  · replace h := (if_neg q1).symm.trans h
    have hz := hj6 _ (Option.some.inj h).symm
    exact hz
  · replace h := (if_pos q1).symm.trans h
    refine i_aload_n S dX8_sign_7 rfl ?_
    refine i_getIv (v := gI w 12 3) S fl_X8_26 (k12 hL) rfl rfl dX8_sign_8 ?_
    refine i_if_lt (tgt := 50) S dX8_sign_11 (by decide) (fun q7 => ?_) (fun q7 => ?_)
    · replace h := (if_pos q7).symm.trans h
      have hz := hj6 _ (Option.some.inj h).symm
      exact hz
    · replace h := (if_neg q7).symm.trans h
      refine i_aload_n S dX8_sign_14 rfl ?_
      refine i_getIv (v := gI w 12 3) S fl_X8_26 (k12 hL) rfl rfl dX8_sign_15 ?_
      refine i_aload_n S dX8_sign_18 rfl ?_
      refine i_getIv (v := gI w 12 2) S fl_X8_23 (k12 hL) rfl rfl dX8_sign_19 ?_
      refine i_icmp_ge (tgt := 50) S dX8_sign_22 (by decide) (fun q8 => ?_) (fun q8 => ?_)
      · replace h := (if_pos q8).symm.trans h
        have hz := hj6 _ (Option.some.inj h).symm
        exact hz
      · replace h := (if_neg q8).symm.trans h
        refine i_aload_n S dX8_sign_25 rfl ?_
        refine i_getIv (v := gI w 12 3) S fl_X8_26 (k12 hL) rfl rfl dX8_sign_26 ?_
        refine i_aload_n S dX8_sign_29 rfl ?_
        refine i_getIv (v := gI w 12 1) S fl_X8_15 (k12 hL) rfl rfl dX8_sign_30 ?_
        refine i_icmp_ge (tgt := 50) S dX8_sign_33 (by decide) (fun q9 => ?_) (fun q9 => ?_)
        · replace h := (if_pos q9).symm.trans h
          have hz := hj6 _ (Option.some.inj h).symm
          exact hz
        · replace h := (if_neg q9).symm.trans h
          refine i_aload_n S dX8_sign_36 rfl ?_
          refine i_getIv (v := gI w 12 3) S fl_X8_26 (k12 hL) rfl rfl dX8_sign_37 ?_
          refine i_sipush (v := 300) S dX8_sign_40 sp_300 ?_
          refine i_icmp_ge (tgt := 50) S dX8_sign_43 (by decide) (fun q10 => ?_) (fun q10 => ?_)
          · replace h := (if_pos q10).symm.trans h
            have hz := hj6 _ (Option.some.inj h).symm
            exact hz
          · replace h := (if_neg q10).symm.trans h
            refine i_iconst (v := 1) S dX8_sign_46 ic_1 ?_
            refine i_goto (tgt := 51) S dX8_sign_47 (by decide) ?_
            replace h := ho6 _ (Option.some.inj h).symm
            have hz := hj2 _ (Option.some.inj h).symm
            exact hz
/-! WordYear$Tape.step -/
noncomputable def f_X8_step  (w : Mm) : Option Mm := some (sI w 12 3 ((gI w 12 3) + (1 : Int32)))
set_option maxHeartbeats 4000000 in
set_option maxRecDepth 100000 in
theorem c_X8_step (g : Gx) (d : Nat)  {w : Mm} {p : Mm} (hL : Lay w) (h : f_X8_step w = some p) : Call g (d + 1) yX8_step cX8_step 1 none [rf g 12] w none p := by
  refine call_of (L0 := [some (rf g 12)]) (by decide) rfl (Nat.le_of_ble_eq_true rfl) (fun V S0 => ?_)
  have S := S0.b
  unfold f_X8_step at h
  refine i_aload_n S dX8_step_0 rfl ?_
  refine i_dup S dX8_step_1 rfl ?_
  refine i_getIv (v := gI w 12 3) S fl_X8_26 (k12 hL) rfl rfl dX8_step_2 ?_
  refine i_iconst (v := 1) S dX8_step_5 ic_1 ?_
  refine i_iadd S dX8_step_6 ?_
  refine i_putI S fl_X8_26 (k12 hL) rfl rfl rfl dX8_step_7 ?_
  cases h
  exact i_vret S0 dX8_step_10
