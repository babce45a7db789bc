/-! WordYearModel.leadsTo -/
noncomputable def f_X12_leadsTo (x1 : Int32) (w : Mm) : Option (Int32 × Mm) := if inb x1 10 = true then (Option.bind (f_X12_briefOf ((gI w 47 6) &&& (((1 : Int32) <<< (x1 &&& 31)) ^^^ (-1 : Int32))) (gI w 50 (ix x1)) w) (fun p3 => if p3.1 < (1000000 : Int32) then (onL p3.2 (Option.bind (f_X12_wordsFor ((gI w 47 6) &&& (((1 : Int32) <<< (x1 &&& 31)) ^^^ (-1 : Int32))) (gI p3.2 50 (ix x1)) p3.2) (fun p7 => some (p7.1, p7.2)))) else (some ((0 : Int32), p3.2)))) else none
set_option maxHeartbeats 4000000 in
set_option maxRecDepth 100000 in
theorem c_X12_leadsTo (g : Gx) (d : Nat) {x1 : Int32} {w : Mm} {p : (Int32 × Mm)} (hL : Lay w) (h : f_X12_leadsTo x1 w = some p) : Call g (d + 9) yX12_leadsTo cX12_leadsTo 3 (some .int) [rf g 47, .int x1] w (some (.int p.1)) p.2 := by
  refine call_of (L0 := [some (rf g 47), some (.int x1), none]) (by decide) rfl (Nat.le_of_ble_eq_true rfl) (fun V S0 => ?_)
  have S := S0.b
  unfold f_X12_leadsTo at h
  refine i_aload_n S dX12_leadsTo_0 rfl ?_
  refine i_getIv (v := gI w 47 6) S fl_X12_146 (k47 hL) rfl rfl dX12_leadsTo_1 ?_
  refine i_iconst (v := 1) S dX12_leadsTo_4 ic_1 ?_
  refine i_iload_n S dX12_leadsTo_5 rfl ?_
  refine i_ishl S dX12_leadsTo_6 ?_
  refine i_iconst (v := -1) S dX12_leadsTo_7 ic_m1 ?_
  refine i_ixor S dX12_leadsTo_8 ?_
  refine i_iand S dX12_leadsTo_9 ?_
  refine i_istore_n (L1 := [some (rf g 47), some (.int x1), some (.int ((gI w 47 6) &&& (((1 : Int32) <<< (x1 &&& 31)) ^^^ (-1 : Int32))))]) S dX12_leadsTo_10 (by decide) rfl ?_
  refine i_aload_n S dX12_leadsTo_11 rfl ?_
  refine i_iload_n S dX12_leadsTo_12 rfl ?_
  refine i_aload_n S dX12_leadsTo_13 rfl ?_
  refine i_getR S fl_X12_21 (k47 hL) (r47_9 hL) rfl dX12_leadsTo_14 ?_
  refine i_iload_n S dX12_leadsTo_17 rfl ?_
  obtain ⟨hi2, h⟩ := gd h
  refine i_ialdv (v := gI w 50 (ix x1)) S (k50 hL) hi2 rfl dX12_leadsTo_18 ?_
  obtain ⟨p3, e3, h⟩ := bn h
  refine i_callV (As := [.int ((gI w 47 6) &&& (((1 : Int32) <<< (x1 &&& 31)) ^^^ (-1 : Int32))), .int (gI w 50 (ix x1))]) (st1 := [.int p3.1]) S (c_X12_briefOf g (d + 3) hL e3) mw_X12_briefOf lk_X12_338 im_X12_briefOf se_X12_briefOf ci_12.1 ci_12.2.1 (k47 hL) dX12_leadsTo_19 rfl rfl (Nat.le_of_ble_eq_true rfl) rfl ?_
  refine i_ldcw S kc_X12_324 dX12_leadsTo_22 ?_
  refine i_icmp_lt (tgt := 32) S dX12_leadsTo_25 (by decide) (fun q4 => ?_) (fun q4 => ?_)
  · replace h := (if_pos q4).symm.trans h
    refine i_aload_n S dX12_leadsTo_32 rfl ?_
    refine i_iload_n S dX12_leadsTo_33 rfl ?_
    refine i_aload_n S dX12_leadsTo_34 rfl ?_
    obtain ⟨hL5, h⟩ := onLn h
    refine i_getR S fl_X12_21 (k47 hL5) (r47_9 hL5) rfl dX12_leadsTo_35 ?_
    refine i_iload_n S dX12_leadsTo_38 rfl ?_
    refine i_ialdv (v := gI p3.2 50 (ix x1)) S (k50 hL5) hi2 rfl dX12_leadsTo_39 ?_
    obtain ⟨p7, e7, h⟩ := bn h
    refine i_callV (As := [.int ((gI w 47 6) &&& (((1 : Int32) <<< (x1 &&& 31)) ^^^ (-1 : Int32))), .int (gI p3.2 50 (ix x1))]) (st1 := [.int p7.1]) S (c_X12_wordsFor g d hL5 e7) mw_X12_wordsFor lk_X12_438 im_X12_wordsFor se_X12_wordsFor ci_12.1 ci_12.2.1 (k47 hL5) dX12_leadsTo_40 rfl rfl (Nat.le_of_ble_eq_true rfl) rfl ?_
    cases h
    exact i_iret S0 rfl dX12_leadsTo_43
  · replace h := (if_neg q4).symm.trans h
    refine i_iconst (v := 0) S dX12_leadsTo_28 ic_0 ?_
    refine i_goto (tgt := 43) S dX12_leadsTo_29 (by decide) ?_
    cases h
    exact i_iret S0 rfl dX12_leadsTo_43
/-! WordYearModel.leads -/
noncomputable def f_X12_leads (x1 : Int32) (w : Mm) : Option (Int32 × Mm) := Option.bind (f_X12_isMeant x1 w) (fun p1 => if p1 = 0 then (some ((-1 : Int32), w)) else (Option.bind (f_X12_leadsTo x1 w) (fun p3 => some (p3.1, p3.2))))
set_option maxHeartbeats 4000000 in
set_option maxRecDepth 100000 in
theorem c_X12_leads (g : Gx) (d : Nat) {x1 : Int32} {w : Mm} {p : (Int32 × Mm)} (hL : Lay w) (h : f_X12_leads x1 w = some p) : Call g (d + 10) yX12_leads cX12_leads 2 (some .int) [rf g 47, .int x1] w (some (.int p.1)) p.2 := by
  refine call_of (L0 := [some (rf g 47), some (.int x1)]) (by decide) rfl (Nat.le_of_ble_eq_true rfl) (fun V S0 => ?_)
  have S := S0.b
  unfold f_X12_leads at h
  refine i_aload_n S dX12_leads_0 rfl ?_
  refine i_iload_n S dX12_leads_1 rfl ?_
  obtain ⟨p1, e1, h⟩ := bn h
  refine i_callV (As := [.int x1]) (st1 := [.int p1]) S (c_X12_isMeant g (d + 6) hL e1) mw_X12_isMeant lk_X12_435 im_X12_isMeant se_X12_isMeant ci_12.1 ci_12.2.1 (k47 hL) dX12_leads_2 rfl rfl (Nat.le_of_ble_eq_true rfl) rfl ?_
  refine i_if_eq (tgt := 16) S dX12_leads_5 (by decide) (fun q2 => ?_) (fun q2 => ?_)
  · replace h := (if_pos q2).symm.trans h
    refine i_iconst (v := -1) S dX12_leads_16 ic_m1 ?_
    cases h
    exact i_iret S0 rfl dX12_leads_17
  · replace h := (if_neg q2).symm.trans h
    refine i_aload_n S dX12_leads_8 rfl ?_
    refine i_iload_n S dX12_leads_9 rfl ?_
    obtain ⟨p3, e3, h⟩ := bn h
    refine i_callV (As := [.int x1]) (st1 := [.int p3.1]) S (c_X12_leadsTo g d hL e3) mw_X12_leadsTo lk_X12_441 im_X12_leadsTo se_X12_leadsTo ci_12.1 ci_12.2.1 (k47 hL) dX12_leads_10 rfl rfl (Nat.le_of_ble_eq_true rfl) rfl ?_
    refine i_goto (tgt := 17) S dX12_leads_13 (by decide) ?_
    cases h
    exact i_iret S0 rfl dX12_leads_17
/-! WordYearModel.round -/
noncomputable def l_X12_round_44 (x1 : Int32) (x2 : Int32) (x4 : Int32) (s : Int32 × Int32 × Mm) : Option ((Int32 × Int32 × Mm) ⊕ (Int32 × Mm)) := onL s.2.2 (if (gI s.2.2 47 2) ≤ s.2.1 then (some (.inr (s.1, s.2.2))) else (Option.bind (if (f_X12_has s.1 s.2.1) = 0 then (some (s.1, s.2.2)) else (Option.bind (f_X12_isMeant s.2.1 s.2.2) (fun p5 => if p5 = 0 then (some (s.1, s.2.2)) else (Option.bind (f_X12_leadsTo s.2.1 s.2.2) (fun p7 => some (s.1 ||| p7.1, p7.2)))))) (fun p4 => some (.inl (p4.1, s.2.1 + (1 : Int32), p4.2)))))
noncomputable def l_X12_round_32 (x1 : Int32) (x2 : Int32) (s : Int32 × Int32 × Mm) : Option ((Int32 × Int32 × Mm) ⊕ (Int32 × Mm)) := onL s.2.2 (if (gI s.2.2 47 2) ≤ s.2.1 then (some (.inr (s.1, s.2.2))) else (Option.bind (wh (l_X12_round_44 x1 x2 s.2.1) FUEL (s.1, (0 : Int32), s.2.2)) (fun p3 => some (.inl (p3.1, s.2.1 + (1 : Int32), p3.2)))))
noncomputable def l_X12_round_4  (s : Int32 × Int32 × Mm) : Option ((Int32 × Int32 × Mm) ⊕ (Int32 × Mm)) := onL s.2.2 (if (gI s.2.2 47 2) ≤ s.2.1 then (some (.inr (s.1, s.2.2))) else (Option.bind (f_X12_isMeant s.2.1 s.2.2) (fun p3 => Option.bind (if p3 = 0 then (some (s.1, s.2.2)) else (Option.bind (f_X12_leadsTo s.2.1 s.2.2) (fun p6 => Option.bind (wh (l_X12_round_32 s.1 s.2.1) FUEL (p6.1, (0 : Int32), p6.2)) (fun p7 => Option.bind (if (f_X12_has p7.1 s.2.1) = 0 then (some (0 : Int32)) else (some ((1 : Int32) <<< (s.2.1 &&& 31)))) (fun p9 => some (s.1 ||| p9, p7.2)))))) (fun p5 => some (.inl (p5.1, s.2.1 + (1 : Int32), p5.2))))))
noncomputable def f_X12_round  (w : Mm) : Option (Int32 × Mm) := Option.bind (wh l_X12_round_4 FUEL ((0 : Int32), (0 : Int32), w)) (fun p1 => some (p1.1, p1.2))
set_option maxHeartbeats 4000000 in
set_option maxRecDepth 100000 in
theorem t_l_X12_round_44 {g : Gx} {V : Vt} {d : Nat} (S : MachB g yX12_round cX12_round 6 (d + 9) V) {x1 : Int32} {x2 : Int32} {x4 : Int32}  (s : Int32 × Int32 × Mm) (e : (Int32 × Int32 × Mm) ⊕ (Int32 × Mm)) (h : l_X12_round_44 x1 x2 x4 s = some e) (hC : ∀ s2, e = .inl s2 → V 44 [some (rf g 47), some (.int x1), some (.int x2), some (.int s2.1), some (.int x4), some (.int s2.2.1)] [] s2.2.2) (hE : ∀ x, e = .inr x → V 86 [some (rf g 47), some (.int x1), some (.int x2), some (.int x.1), some (.int x4), none] [] x.2) : V 44 [some (rf g 47), some (.int x1), some (.int x2), some (.int s.1), some (.int x4), some (.int s.2.1)] [] s.2.2 := by
  unfold l_X12_round_44 at h
  refine i_iload S dX12_round_44 rfl ?_
  refine i_aload_n S dX12_round_46 rfl ?_
  obtain ⟨hL1, h⟩ := onLn h
  refine i_getIv (v := gI s.2.2 47 2) S fl_X12_135 (k47 hL1) rfl rfl dX12_round_47 ?_
  refine i_icmp_ge (tgt := 86) S dX12_round_50 (by decide) (fun q2 => ?_) (fun q2 => ?_)
  · replace h := (if_pos q2).symm.trans h
    refine i_mask (L1 := [some (rf g 47), some (.int x1), some (.int x2), some (.int s.1), some (.int x4), none]) S [true, true, true, true, true, false] rfl ?_
    have hz := hE _ (Option.some.inj h).symm
    exact hz
  · replace h := (if_neg q2).symm.trans h
    refine i_iload_n S dX12_round_53 rfl ?_
    refine i_iload S dX12_round_54 rfl ?_
    refine i_callS (As := [.int s.1, .int s.2.1]) (st1 := [.int (f_X12_has s.1 s.2.1)]) S (c_X12_has g (d + 8) rfl) mw_X12_has lk_X12_149 im_X12_has dX12_round_56 rfl rfl (Nat.le_of_ble_eq_true rfl) rfl ?_
    obtain ⟨p4, e4, h⟩ := bn h
    have hj4 : ∀ q4, p4 = q4 → V 80 [some (rf g 47), some (.int x1), some (.int x2), some (.int q4.1), some (.int x4), some (.int s.2.1)] [] q4.2 := by
      intro q4 hq4
      subst hq4
      refine i_iinc (L1 := [some (rf g 47), some (.int x1), some (.int x2), some (.int p4.1), some (.int x4), some (.int (s.2.1 + (1 : Int32)))]) S dX12_round_80 rfl ic_1 (by decide) rfl ?_
      refine i_goto (tgt := 44) S dX12_round_83 (by decide) ?_
      have hz := hC _ (Option.some.inj h).symm
      exact hz
    replace h := e4
    clear e4
    refine i_if_eq (tgt := 80) S dX12_round_59 (by decide) (fun q3 => ?_) (fun q3 => ?_)
    · replace h := (if_pos q3).symm.trans h
      have hz := hj4 _ (Option.some.inj h).symm
      exact hz
    · replace h := (if_neg q3).symm.trans h
      refine i_aload_n S dX12_round_62 rfl ?_
      refine i_iload S dX12_round_63 rfl ?_
      obtain ⟨p5, e5, h⟩ := bn h
      refine i_callV (As := [.int s.2.1]) (st1 := [.int p5]) S (c_X12_isMeant g (d + 6) hL1 e5) mw_X12_isMeant lk_X12_435 im_X12_isMeant se_X12_isMeant ci_12.1 ci_12.2.1 (k47 hL1) dX12_round_65 rfl rfl (Nat.le_of_ble_eq_true rfl) rfl ?_
      refine i_if_eq (tgt := 80) S dX12_round_68 (by decide) (fun q6 => ?_) (fun q6 => ?_)
      · replace h := (if_pos q6).symm.trans h
        have hz := hj4 _ (Option.some.inj h).symm
        exact hz
      · replace h := (if_neg q6).symm.trans h
        refine i_iload_n S dX12_round_71 rfl ?_
        refine i_aload_n S dX12_round_72 rfl ?_
        refine i_iload S dX12_round_73 rfl ?_
        obtain ⟨p7, e7, h⟩ := bn h
        refine i_callV (As := [.int s.2.1]) (st1 := [.int p7.1, .int s.1]) S (c_X12_leadsTo g d hL1 e7) mw_X12_leadsTo lk_X12_441 im_X12_leadsTo se_X12_leadsTo ci_12.1 ci_12.2.1 (k47 hL1) dX12_round_75 rfl rfl (Nat.le_of_ble_eq_true rfl) rfl ?_
        refine i_ior S dX12_round_78 ?_
        refine i_istore_n (L1 := [some (rf g 47), some (.int x1), some (.int x2), some (.int (s.1 ||| p7.1)), some (.int x4), some (.int s.2.1)]) S dX12_round_79 (by decide) rfl ?_
        have hz := hj4 _ (Option.some.inj h).symm
        exact hz
set_option maxHeartbeats 4000000 in
set_option maxRecDepth 100000 in
theorem t_l_X12_round_32 {g : Gx} {V : Vt} {d : Nat} (S : MachB g yX12_round cX12_round 6 (d + 9) V) {x1 : Int32} {x2 : Int32}  (s : Int32 × Int32 × Mm) (e : (Int32 × Int32 × Mm) ⊕ (Int32 × Mm)) (h : l_X12_round_32 x1 x2 s = some e) (hC : ∀ s2, e = .inl s2 → V 32 [some (rf g 47), some (.int x1), some (.int x2), some (.int s2.1), some (.int s2.2.1), none] [] s2.2.2) (hE : ∀ x, e = .inr x → V 92 [some (rf g 47), some (.int x1), some (.int x2), some (.int x.1), none, none] [] x.2) : V 32 [some (rf g 47), some (.int x1), some (.int x2), some (.int s.1), some (.int s.2.1), none] [] s.2.2 := by
  unfold l_X12_round_32 at h
  refine i_iload S dX12_round_32 rfl ?_
  refine i_aload_n S dX12_round_34 rfl ?_
  obtain ⟨hL1, h⟩ := onLn h
  refine i_getIv (v := gI s.2.2 47 2) S fl_X12_135 (k47 hL1) rfl rfl dX12_round_35 ?_
  refine i_icmp_ge (tgt := 92) S dX12_round_38 (by decide) (fun q2 => ?_) (fun q2 => ?_)
  · replace h := (if_pos q2).symm.trans h
    refine i_mask (L1 := [some (rf g 47), some (.int x1), some (.int x2), some (.int s.1), none, none]) S [true, true, true, true, false, false] rfl ?_
    have hz := hE _ (Option.some.inj h).symm
    exact hz
  · replace h := (if_neg q2).symm.trans h
    refine i_iconst (v := 0) S dX12_round_41 ic_0 ?_
    refine i_istore (L1 := [some (rf g 47), some (.int x1), some (.int x2), some (.int s.1), some (.int s.2.1), some (.int ((0 : Int32)))]) S dX12_round_42 (by decide) rfl ?_
    obtain ⟨p3, e3, h⟩ := bn h
    have hE3 : V 86 [some (rf g 47), some (.int x1), some (.int x2), some (.int p3.1), some (.int s.2.1), none] [] p3.2 := by
      refine i_iinc (L1 := [some (rf g 47), some (.int x1), some (.int x2), some (.int p3.1), some (.int (s.2.1 + (1 : Int32))), none]) S dX12_round_86 rfl ic_1 (by decide) rfl ?_
      refine i_goto (tgt := 32) S dX12_round_89 (by decide) ?_
      have hz := hC _ (Option.some.inj h).symm
      exact hz
    exact wh_V (P := fun sv3 => V 44 [some (rf g 47), some (.int x1), some (.int x2), some (.int sv3.1), some (.int s.2.1), some (.int sv3.2.1)] [] sv3.2.2) (E := fun xv3 => V 86 [some (rf g 47), some (.int x1), some (.int x2), some (.int xv3.1), some (.int s.2.1), none] [] xv3.2) (fun sv3 ev hb hc he => t_l_X12_round_44   S  sv3 ev hb hc he) FUEL _ _ e3 hE3
set_option maxHeartbeats 4000000 in
set_option maxRecDepth 100000 in
theorem t_l_X12_round_4 {g : Gx} {V : Vt} {d : Nat} (S : MachB g yX12_round cX12_round 6 (d + 9) V)   (s : Int32 × Int32 × Mm) (e : (Int32 × Int32 × Mm) ⊕ (Int32 × Mm)) (h : l_X12_round_4  s = some e) (hC : ∀ s2, e = .inl s2 → V 4 [some (rf g 47), some (.int s2.1), some (.int s2.2.1), none, none, none] [] s2.2.2) (hE : ∀ x, e = .inr x → V 116 [none, some (.int x.1), none, none, none, none] [] x.2) : V 4 [some (rf g 47), some (.int s.1), some (.int s.2.1), none, none, none] [] s.2.2 := by
  unfold l_X12_round_4 at h
  refine i_iload_n S dX12_round_4 rfl ?_
  refine i_aload_n S dX12_round_5 rfl ?_
  obtain ⟨hL1, h⟩ := onLn h
  refine i_getIv (v := gI s.2.2 47 2) S fl_X12_135 (k47 hL1) rfl rfl dX12_round_6 ?_
  refine i_icmp_ge (tgt := 116) S dX12_round_9 (by decide) (fun q2 => ?_) (fun q2 => ?_)
  · replace h := (if_pos q2).symm.trans h
    refine i_mask (L1 := [none, some (.int s.1), none, none, none, none]) S [false, true, false, false, false, false] rfl ?_
    have hz := hE _ (Option.some.inj h).symm
    exact hz
  · replace h := (if_neg q2).symm.trans h
    refine i_aload_n S dX12_round_12 rfl ?_
    refine i_iload_n S dX12_round_13 rfl ?_
    obtain ⟨p3, e3, h⟩ := bn h
    refine i_callV (As := [.int s.2.1]) (st1 := [.int p3]) S (c_X12_isMeant g (d + 6) hL1 e3) mw_X12_isMeant lk_X12_435 im_X12_isMeant se_X12_isMeant ci_12.1 ci_12.2.1 (k47 hL1) dX12_round_14 rfl rfl (Nat.le_of_ble_eq_true rfl) rfl ?_
    obtain ⟨p5, e5, h⟩ := bn h
    have hj5 : ∀ q5, p5 = q5 → V 110 [some (rf g 47), some (.int q5.1), some (.int s.2.1), none, none, none] [] q5.2 := by
      intro q5 hq5
      subst hq5
      refine i_iinc (L1 := [some (rf g 47), some (.int p5.1), some (.int (s.2.1 + (1 : Int32))), none, none, none]) S dX12_round_110 rfl ic_1 (by decide) rfl ?_
      refine i_goto (tgt := 4) S dX12_round_113 (by decide) ?_
      have hz := hC _ (Option.some.inj h).symm
      exact hz
    replace h := e5
    clear e5
    refine i_if_ne (tgt := 23) S dX12_round_17 (by decide) (fun q4 => ?_) (fun q4 => ?_)
    · replace h := (if_neg q4).symm.trans h
      refine i_aload_n S dX12_round_23 rfl ?_
      refine i_iload_n S dX12_round_24 rfl ?_
      obtain ⟨p6, e6, h⟩ := bn h
      refine i_callV (As := [.int s.2.1]) (st1 := [.int p6.1]) S (c_X12_leadsTo g d hL1 e6) mw_X12_leadsTo lk_X12_441 im_X12_leadsTo se_X12_leadsTo ci_12.1 ci_12.2.1 (k47 hL1) dX12_round_25 rfl rfl (Nat.le_of_ble_eq_true rfl) rfl ?_
      refine i_istore_n (L1 := [some (rf g 47), some (.int s.1), some (.int s.2.1), some (.int p6.1), none, none]) S dX12_round_28 (by decide) rfl ?_
      refine i_iconst (v := 0) S dX12_round_29 ic_0 ?_
      refine i_istore (L1 := [some (rf g 47), some (.int s.1), some (.int s.2.1), some (.int p6.1), some (.int ((0 : Int32))), none]) S dX12_round_30 (by decide) rfl ?_
      obtain ⟨p7, e7, h⟩ := bn h
      have hE7 : V 92 [some (rf g 47), some (.int s.1), some (.int s.2.1), some (.int p7.1), none, none] [] p7.2 := by
        refine i_iload_n S dX12_round_92 rfl ?_
        refine i_iload_n S dX12_round_93 rfl ?_
        refine i_iload_n S dX12_round_94 rfl ?_
        refine i_callS (As := [.int p7.1, .int s.2.1]) (st1 := [.int (f_X12_has p7.1 s.2.1), .int s.1]) S (c_X12_has g (d + 8) rfl) mw_X12_has lk_X12_149 im_X12_has dX12_round_95 rfl rfl (Nat.le_of_ble_eq_true rfl) rfl ?_
        obtain ⟨p9, e9, h⟩ := bn h
        have hj9 : ∀ q9, p9 = q9 → V 108 [some (rf g 47), none, some (.int s.2.1), none, none, none] [.int q9, .int s.1] p7.2 := by
          intro q9 hq9
          subst hq9
          refine i_ior S dX12_round_108 ?_
          refine i_istore_n (L1 := [some (rf g 47), some (.int (s.1 ||| p9)), some (.int s.2.1), none, none, none]) S dX12_round_109 (by decide) rfl ?_
          have hz := hj5 _ (Option.some.inj h).symm
          exact hz
        replace h := e9
        clear e9
        refine i_if_eq (tgt := 107) S dX12_round_98 (by decide) (fun q8 => ?_) (fun q8 => ?_)
        · replace h := (if_pos q8).symm.trans h
          refine i_iconst (v := 0) S dX12_round_107 ic_0 ?_
          refine i_mask (L1 := [some (rf g 47), none, some (.int s.2.1), none, none, none]) S [true, false, true, false, false, false] rfl ?_
          have hz := hj9 _ (Option.some.inj h).symm
          exact hz
        · replace h := (if_neg q8).symm.trans h
          refine i_iconst (v := 1) S dX12_round_101 ic_1 ?_
          refine i_iload_n S dX12_round_102 rfl ?_
          refine i_ishl S dX12_round_103 ?_
          refine i_goto (tgt := 108) S dX12_round_104 (by decide) ?_
          refine i_mask (L1 := [some (rf g 47), none, some (.int s.2.1), none, none, none]) S [true, false, true, false, false, false] rfl ?_
          have hz := hj9 _ (Option.some.inj h).symm
          exact hz
      exact wh_V (P := fun sv7 => V 32 [some (rf g 47), some (.int s.1), some (.int s.2.1), some (.int sv7.1), some (.int sv7.2.1), none] [] sv7.2.2) (E := fun xv7 => V 92 [some (rf g 47), some (.int s.1), some (.int s.2.1), some (.int xv7.1), none, none] [] xv7.2) (fun sv7 ev hb hc he => t_l_X12_round_32   S  sv7 ev hb hc he) FUEL _ _ e7 hE7
    · replace h := (if_pos q4).symm.trans h
      refine i_goto (tgt := 110) S dX12_round_20 (by decide) ?_
      have hz := hj5 _ (Option.some.inj h).symm
      exact hz
set_option maxHeartbeats 4000000 in
set_option maxRecDepth 100000 in
theorem c_X12_round (g : Gx) (d : Nat)  {w : Mm} {p : (Int32 × Mm)} (hL : Lay w) (h : f_X12_round w = some p) : Call g (d + 10) yX12_round cX12_round 6 (some .int) [rf g 47] w (some (.int p.1)) p.2 := by
  refine call_of (L0 := [some (rf g 47), none, none, none, none, none]) (by decide) rfl (Nat.le_of_ble_eq_true rfl) (fun V S0 => ?_)
  have S := S0.b
  unfold f_X12_round at h
  refine i_iconst (v := 0) S dX12_round_0 ic_0 ?_
  refine i_istore_n (L1 := [some (rf g 47), some (.int ((0 : Int32))), none, none, none, none]) S dX12_round_1 (by decide) rfl ?_
  refine i_iconst (v := 0) S dX12_round_2 ic_0 ?_
  refine i_istore_n (L1 := [some (rf g 47), some (.int ((0 : Int32))), some (.int ((0 : Int32))), none, none, none]) S dX12_round_3 (by decide) rfl ?_
  obtain ⟨p1, e1, h⟩ := bn h
  have hE1 : V 116 [none, some (.int p1.1), none, none, none, none] [] p1.2 := by
    refine i_iload_n S dX12_round_116 rfl ?_
    cases h
    exact i_iret S0 rfl dX12_round_117
  exact wh_V (P := fun sv1 => V 4 [some (rf g 47), some (.int sv1.1), some (.int sv1.2.1), none, none, none] [] sv1.2.2) (E := fun xv1 => V 116 [none, some (.int xv1.1), none, none, none, none] [] xv1.2) (fun sv1 ev hb hc he => t_l_X12_round_4   S  sv1 ev hb hc he) FUEL _ _ e1 hE1
/-! WordYearModel.tellsAll -/
noncomputable def l_X12_tellsAll_2 (x1 : Int32) (s : Int32 × Mm) : Option ((Int32 × Mm) ⊕ (Nat × Mm)) := onL s.2 (if (gI s.2 47 2) ≤ s.1 then (some (.inr (0, s.2))) else (Option.bind (f_X12_isMeant s.1 s.2) (fun p3 => mg (if p3 = 0 then (some (.inl s.2)) else (if (f_X12_has x1 s.1) = 0 then (if inb s.1 10 = true then (Option.bind (f_X12_briefOf x1 (gI s.2 50 (ix s.1)) s.2) (fun p9 => if p9.1 < (1000000 : Int32) then (some (.inl p9.2)) else (some (.inr (.inr (1, p9.2)))))) else none) else (some (.inl s.2)))) (fun p5 => some (.inl (s.1 + (1 : Int32), p5))))))
noncomputable def f_X12_tellsAll (x1 : Int32) (w : Mm) : Option (Int32 × Mm) := Option.bind (wh (l_X12_tellsAll_2 x1) FUEL ((0 : Int32), w)) (fun p1 => if p1.1 = 0 then (some ((1 : Int32), p1.2)) else (some ((0 : Int32), p1.2)))
set_option maxHeartbeats 4000000 in
set_option maxRecDepth 100000 in
theorem t_l_X12_tellsAll_2 {g : Gx} {V : Vt} {d : Nat} (S : MachB g yX12_tellsAll cX12_tellsAll 3 (d + 5) V) {x1 : Int32}  (s : Int32 × Mm) (e : (Int32 × Mm) ⊕ (Nat × Mm)) (h : l_X12_tellsAll_2 x1 s = some e) (hC : ∀ s2, e = .inl s2 → V 2 [some (rf g 47), some (.int x1), some (.int s2.1)] [] s2.2) (hE : ∀ x, e = .inr x → if x.1 = 0 then V 51 [none, none, none] [] x.2 else (V 43 [none, none, none] [] x.2)) : V 2 [some (rf g 47), some (.int x1), some (.int s.1)] [] s.2 := by
  unfold l_X12_tellsAll_2 at h
  refine i_iload_n S dX12_tellsAll_2 rfl ?_
  refine i_aload_n S dX12_tellsAll_3 rfl ?_
  obtain ⟨hL1, h⟩ := onLn h
  refine i_getIv (v := gI s.2 47 2) S fl_X12_135 (k47 hL1) rfl rfl dX12_tellsAll_4 ?_
  refine i_icmp_ge (tgt := 51) S dX12_tellsAll_7 (by decide) (fun q2 => ?_) (fun q2 => ?_)
  · replace h := (if_pos q2).symm.trans h
    refine i_mask (L1 := [none, none, none]) S [false, false, false] rfl ?_
    have hz := hE _ (Option.some.inj h).symm
    exact hz
  · replace h := (if_neg q2).symm.trans h
    refine i_aload_n S dX12_tellsAll_10 rfl ?_
    refine i_iload_n S dX12_tellsAll_11 rfl ?_
    obtain ⟨p3, e3, h⟩ := bn h
    refine i_callV (As := [.int s.1]) (st1 := [.int p3]) S (c_X12_isMeant g (d + 2) hL1 e3) mw_X12_isMeant lk_X12_435 im_X12_isMeant se_X12_isMeant ci_12.1 ci_12.2.1 (k47 hL1) dX12_tellsAll_12 rfl rfl (Nat.le_of_ble_eq_true rfl) rfl ?_
    obtain ⟨s5, e5, hm5, ho5⟩ := mgn h
    have hj5 : ∀ p5, s5 = .inl p5 → V 45 [some (rf g 47), some (.int x1), some (.int s.1)] [] p5 := by
      intro p5 ep5
      have h := hm5 p5 ep5
      refine i_iinc (L1 := [some (rf g 47), some (.int x1), some (.int (s.1 + (1 : Int32)))]) S dX12_tellsAll_45 rfl ic_1 (by decide) rfl ?_
      refine i_goto (tgt := 2) S dX12_tellsAll_48 (by decide) ?_
      have hz := hC _ (Option.some.inj h).symm
      exact hz
    replace h := e5
    clear e5
    refine i_if_eq (tgt := 45) S dX12_tellsAll_15 (by decide) (fun q4 => ?_) (fun q4 => ?_)
    · replace h := (if_pos q4).symm.trans h
      have hz := hj5 _ (Option.some.inj h).symm
      exact hz
    · replace h := (if_neg q4).symm.trans h
      refine i_iload_n S dX12_tellsAll_18 rfl ?_
      refine i_iload_n S dX12_tellsAll_19 rfl ?_
      refine i_callS (As := [.int x1, .int s.1]) (st1 := [.int (f_X12_has x1 s.1)]) S (c_X12_has g (d + 4) rfl) mw_X12_has lk_X12_149 im_X12_has dX12_tellsAll_20 rfl rfl (Nat.le_of_ble_eq_true rfl) rfl ?_
      refine i_if_ne (tgt := 45) S dX12_tellsAll_23 (by decide) (fun q6 => ?_) (fun q6 => ?_)
      · replace h := (if_neg q6).symm.trans h
        have hz := hj5 _ (Option.some.inj h).symm
        exact hz
      · replace h := (if_pos q6).symm.trans h
        refine i_aload_n S dX12_tellsAll_26 rfl ?_
        refine i_iload_n S dX12_tellsAll_27 rfl ?_
        refine i_aload_n S dX12_tellsAll_28 rfl ?_
        refine i_getR S fl_X12_21 (k47 hL1) (r47_9 hL1) rfl dX12_tellsAll_29 ?_
        refine i_iload_n S dX12_tellsAll_32 rfl ?_
        obtain ⟨hi8, h⟩ := gd h
        refine i_ialdv (v := gI s.2 50 (ix s.1)) S (k50 hL1) hi8 rfl dX12_tellsAll_33 ?_
        obtain ⟨p9, e9, h⟩ := bn h
        refine i_callV (As := [.int x1, .int (gI s.2 50 (ix s.1))]) (st1 := [.int p9.1]) S (c_X12_briefOf g d hL1 e9) mw_X12_briefOf lk_X12_338 im_X12_briefOf se_X12_briefOf ci_12.1 ci_12.2.1 (k47 hL1) dX12_tellsAll_34 rfl rfl (Nat.le_of_ble_eq_true rfl) rfl ?_
        refine i_ldcw S kc_X12_324 dX12_tellsAll_37 ?_
        refine i_icmp_lt (tgt := 45) S dX12_tellsAll_40 (by decide) (fun q10 => ?_) (fun q10 => ?_)
        · replace h := (if_pos q10).symm.trans h
          have hz := hj5 _ (Option.some.inj h).symm
          exact hz
        · replace h := (if_neg q10).symm.trans h
          replace h := ho5 _ (Option.some.inj h).symm
          refine i_mask (L1 := [none, none, none]) S [false, false, false] rfl ?_
          have hz := hE _ (Option.some.inj h).symm
          exact hz
set_option maxHeartbeats 4000000 in
set_option maxRecDepth 100000 in
theorem c_X12_tellsAll (g : Gx) (d : Nat) {x1 : Int32} {w : Mm} {p : (Int32 × Mm)} (hL : Lay w) (h : f_X12_tellsAll x1 w = some p) : Call g (d + 6) yX12_tellsAll cX12_tellsAll 3 (some .boolean) [rf g 47, .int x1] w (some (.int p.1)) p.2 := by
  refine call_of (L0 := [some (rf g 47), some (.int x1), none]) (by decide) rfl (Nat.le_of_ble_eq_true rfl) (fun V S0 => ?_)
  have S := S0.b
  unfold f_X12_tellsAll at h
  refine i_iconst (v := 0) S dX12_tellsAll_0 ic_0 ?_
  refine i_istore_n (L1 := [some (rf g 47), some (.int x1), some (.int ((0 : Int32)))]) S dX12_tellsAll_1 (by decide) rfl ?_
  obtain ⟨p1, e1, h⟩ := bn h
  have hE1 : if p1.1 = 0 then V 51 [none, none, none] [] p1.2 else (V 43 [none, none, none] [] p1.2) := by
    by_cases hx1_0 : p1.1 = 0
    · rw [if_pos hx1_0]
      replace h := (if_pos hx1_0).symm.trans h
      refine i_iconst (v := 1) S dX12_tellsAll_51 ic_1 ?_
      cases h
      exact i_iret S0 rfl dX12_tellsAll_52
    · rw [if_neg hx1_0]
      replace h := (if_neg hx1_0).symm.trans h
      refine i_iconst (v := 0) S dX12_tellsAll_43 ic_0 ?_
      cases h
      exact i_iret S0 rfl dX12_tellsAll_44
  exact wh_V (P := fun sv1 => V 2 [some (rf g 47), some (.int x1), some (.int sv1.1)] [] sv1.2) (E := fun xv1 => if xv1.1 = 0 then V 51 [none, none, none] [] xv1.2 else (V 43 [none, none, none] [] xv1.2)) (fun sv1 ev hb hc he => t_l_X12_tellsAll_2   S  sv1 ev hb hc he) FUEL _ _ e1 hE1
/-! WordYearModel.fewest -/
noncomputable def l_X12_fewest_7  (s : Int32 × Int32 × Mm) : Option ((Int32 × Int32 × Mm) ⊕ (Int32 × Mm)) := onL s.2.2 (if (gI s.2.2 47 6) ≤ s.2.1 then (some (.inr (s.1, s.2.2))) else (Option.bind (if (s.2.1 &&& ((gI s.2.2 47 6) ^^^ (-1 : Int32))) = 0 then (Option.bind (f_X12_sizeOf s.2.1) (fun p5 => Option.bind (f_X12_sizeOf s.1) (fun p6 => mg (if p5 < p6 then (some (.inl ())) else (Option.bind (f_X12_sizeOf s.2.1) (fun p11 => Option.bind (f_X12_sizeOf s.1) (fun p12 => if p11 = p12 then (if s.1 ≤ s.2.1 then (some (.inr (s.1, s.2.2))) else (some (.inl ()))) else (some (.inr (s.1, s.2.2))))))) (fun p8 => Option.bind (f_X12_tellsAll s.2.1 s.2.2) (fun p9 => if p9.1 = 0 then (some (s.1, p9.2)) else (some (s.2.1, p9.2))))))) else (some (s.1, s.2.2))) (fun p4 => some (.inl (p4.1, s.2.1 + (1 : Int32), p4.2)))))
noncomputable def f_X12_fewest  (w : Mm) : Option (Int32 × Mm) := Option.bind (wh l_X12_fewest_7 FUEL (gI w 47 6, (0 : Int32), w)) (fun p1 => some (p1.1, p1.2))
set_option maxHeartbeats 4000000 in
set_option maxRecDepth 100000 in
theorem t_l_X12_fewest_7 {g : Gx} {V : Vt} {d : Nat} (S : MachB g yX12_fewest cX12_fewest 3 (d + 6) V)   (s : Int32 × Int32 × Mm) (e : (Int32 × Int32 × Mm) ⊕ (Int32 × Mm)) (h : l_X12_fewest_7  s = some e) (hC : ∀ s2, e = .inl s2 → V 7 [some (rf g 47), some (.int s2.1), some (.int s2.2.1)] [] s2.2.2) (hE : ∀ x, e = .inr x → V 69 [none, some (.int x.1), none] [] x.2) : V 7 [some (rf g 47), some (.int s.1), some (.int s.2.1)] [] s.2.2 := by
  unfold l_X12_fewest_7 at h
  refine i_iload_n S dX12_fewest_7 rfl ?_
  refine i_aload_n S dX12_fewest_8 rfl ?_
  obtain ⟨hL1, h⟩ := onLn h
  refine i_getIv (v := gI s.2.2 47 6) S fl_X12_146 (k47 hL1) rfl rfl dX12_fewest_9 ?_
  refine i_icmp_ge (tgt := 69) S dX12_fewest_12 (by decide) (fun q2 => ?_) (fun q2 => ?_)
  · replace h := (if_pos q2).symm.trans h
    refine i_mask (L1 := [none, some (.int s.1), none]) S [false, true, false] rfl ?_
    have hz := hE _ (Option.some.inj h).symm
    exact hz
  · replace h := (if_neg q2).symm.trans h
    refine i_iload_n S dX12_fewest_15 rfl ?_
    refine i_aload_n S dX12_fewest_16 rfl ?_
    refine i_getIv (v := gI s.2.2 47 6) S fl_X12_146 (k47 hL1) rfl rfl dX12_fewest_17 ?_
    refine i_iconst (v := -1) S dX12_fewest_20 ic_m1 ?_
    refine i_ixor S dX12_fewest_21 ?_
    refine i_iand S dX12_fewest_22 ?_
    obtain ⟨p4, e4, h⟩ := bn h
    have hj4 : ∀ q4, p4 = q4 → V 63 [some (rf g 47), some (.int q4.1), some (.int s.2.1)] [] q4.2 := by
      intro q4 hq4
      subst hq4
      refine i_iinc (L1 := [some (rf g 47), some (.int p4.1), some (.int (s.2.1 + (1 : Int32)))]) S dX12_fewest_63 rfl ic_1 (by decide) rfl ?_
      refine i_goto (tgt := 7) S dX12_fewest_66 (by decide) ?_
      have hz := hC _ (Option.some.inj h).symm
      exact hz
    replace h := e4
    clear e4
    refine i_if_ne (tgt := 63) S dX12_fewest_23 (by decide) (fun q3 => ?_) (fun q3 => ?_)
    · replace h := (if_neg q3).symm.trans h
      have hz := hj4 _ (Option.some.inj h).symm
      exact hz
    · replace h := (if_pos q3).symm.trans h
      refine i_iload_n S dX12_fewest_26 rfl ?_
      obtain ⟨p5, e5, h⟩ := bn h
      refine i_callS (As := [.int s.2.1]) (st1 := [.int p5]) S (c_X12_sizeOf g (d + 5) e5) mw_X12_sizeOf lk_X12_297 im_X12_sizeOf dX12_fewest_27 rfl rfl (Nat.le_of_ble_eq_true rfl) rfl ?_
      refine i_iload_n S dX12_fewest_30 rfl ?_
      obtain ⟨p6, e6, h⟩ := bn h
      refine i_callS (As := [.int s.1]) (st1 := [.int p6, .int p5]) S (c_X12_sizeOf g (d + 5) e6) mw_X12_sizeOf lk_X12_297 im_X12_sizeOf dX12_fewest_31 rfl rfl (Nat.le_of_ble_eq_true rfl) rfl ?_
      obtain ⟨s8, e8, hm8, ho8⟩ := mgn h
      have hj8 : ∀ p8, s8 = .inl p8 → V 53 [some (rf g 47), some (.int s.1), some (.int s.2.1)] [] s.2.2 := by
        intro p8 ep8
        have h := hm8 p8 ep8
        refine i_aload_n S dX12_fewest_53 rfl ?_
        refine i_iload_n S dX12_fewest_54 rfl ?_
        obtain ⟨p9, e9, h⟩ := bn h
        refine i_callV (As := [.int s.2.1]) (st1 := [.int p9.1]) S (c_X12_tellsAll g d hL1 e9) mw_X12_tellsAll lk_X12_444 im_X12_tellsAll se_X12_tellsAll ci_12.1 ci_12.2.1 (k47 hL1) dX12_fewest_55 rfl rfl (Nat.le_of_ble_eq_true rfl) rfl ?_
        refine i_if_eq (tgt := 63) S dX12_fewest_58 (by decide) (fun q10 => ?_) (fun q10 => ?_)
        · replace h := (if_pos q10).symm.trans h
          have hz := hj4 _ (Option.some.inj h).symm
          exact hz
        · replace h := (if_neg q10).symm.trans h
          refine i_iload_n S dX12_fewest_61 rfl ?_
          refine i_istore_n (L1 := [some (rf g 47), some (.int s.2.1), some (.int s.2.1)]) S dX12_fewest_62 (by decide) rfl ?_
          have hz := hj4 _ (Option.some.inj h).symm
          exact hz
      replace h := e8
      clear e8
      refine i_icmp_lt (tgt := 53) S dX12_fewest_34 (by decide) (fun q7 => ?_) (fun q7 => ?_)
      · replace h := (if_pos q7).symm.trans h
        have hz := hj8 _ (Option.some.inj h).symm
        exact hz
      · replace h := (if_neg q7).symm.trans h
        refine i_iload_n S dX12_fewest_37 rfl ?_
        obtain ⟨p11, e11, h⟩ := bn h
        refine i_callS (As := [.int s.2.1]) (st1 := [.int p11]) S (c_X12_sizeOf g (d + 5) e11) mw_X12_sizeOf lk_X12_297 im_X12_sizeOf dX12_fewest_38 rfl rfl (Nat.le_of_ble_eq_true rfl) rfl ?_
        refine i_iload_n S dX12_fewest_41 rfl ?_
        obtain ⟨p12, e12, h⟩ := bn h
        refine i_callS (As := [.int s.1]) (st1 := [.int p12, .int p11]) S (c_X12_sizeOf g (d + 5) e12) mw_X12_sizeOf lk_X12_297 im_X12_sizeOf dX12_fewest_42 rfl rfl (Nat.le_of_ble_eq_true rfl) rfl ?_
        refine i_icmp_ne (tgt := 63) S dX12_fewest_45 (by decide) (fun q13 => ?_) (fun q13 => ?_)
        · replace h := (if_neg q13).symm.trans h
          replace h := ho8 _ (Option.some.inj h).symm
          have hz := hj4 _ (Option.some.inj h).symm
          exact hz
        · replace h := (if_pos q13).symm.trans h
          refine i_iload_n S dX12_fewest_48 rfl ?_
          refine i_iload_n S dX12_fewest_49 rfl ?_
          refine i_icmp_ge (tgt := 63) S dX12_fewest_50 (by decide) (fun q14 => ?_) (fun q14 => ?_)
          · replace h := (if_pos q14).symm.trans h
            replace h := ho8 _ (Option.some.inj h).symm
            have hz := hj4 _ (Option.some.inj h).symm
            exact hz
          · replace h := (if_neg q14).symm.trans h
            have hz := hj8 _ (Option.some.inj h).symm
            exact hz
set_option maxHeartbeats 4000000 in
set_option maxRecDepth 100000 in
theorem c_X12_fewest (g : Gx) (d : Nat)  {w : Mm} {p : (Int32 × Mm)} (hL : Lay w) (h : f_X12_fewest w = some p) : Call g (d + 7) yX12_fewest cX12_fewest 3 (some .int) [rf g 47] w (some (.int p.1)) p.2 := by
  refine call_of (L0 := [some (rf g 47), none, none]) (by decide) rfl (Nat.le_of_ble_eq_true rfl) (fun V S0 => ?_)
  have S := S0.b
  unfold f_X12_fewest at h
  refine i_aload_n S dX12_fewest_0 rfl ?_
  refine i_getIv (v := gI w 47 6) S fl_X12_146 (k47 hL) rfl rfl dX12_fewest_1 ?_
  refine i_istore_n (L1 := [some (rf g 47), some (.int (gI w 47 6)), none]) S dX12_fewest_4 (by decide) rfl ?_
  refine i_iconst (v := 0) S dX12_fewest_5 ic_0 ?_
  refine i_istore_n (L1 := [some (rf g 47), some (.int (gI w 47 6)), some (.int ((0 : Int32)))]) S dX12_fewest_6 (by decide) rfl ?_
  obtain ⟨p1, e1, h⟩ := bn h
  have hE1 : V 69 [none, some (.int p1.1), none] [] p1.2 := by
    refine i_iload_n S dX12_fewest_69 rfl ?_
    cases h
    exact i_iret S0 rfl dX12_fewest_70
  exact wh_V (P := fun sv1 => V 7 [some (rf g 47), some (.int sv1.1), some (.int sv1.2.1)] [] sv1.2.2) (E := fun xv1 => V 69 [none, some (.int xv1.1), none] [] xv1.2) (fun sv1 ev hb hc he => t_l_X12_fewest_7   S  sv1 ev hb hc he) FUEL _ _ e1 hE1
/-! WordYearModel.startsD -/
noncomputable def f_X12_startsD (x0 : Int32) : Int32 := if x0 = (45 : Int32) then ((1 : Int32)) else (if x0 = (40 : Int32) then ((1 : Int32)) else (if x0 < (97 : Int32) then ((0 : Int32)) else (if (106 : Int32) < x0 then ((0 : Int32)) else ((1 : Int32)))))
set_option maxHeartbeats 4000000 in
set_option maxRecDepth 100000 in
theorem c_X12_startsD (g : Gx) (d : Nat) {x0 : Int32} {w : Mm} {p : Int32}  (h : f_X12_startsD x0 = p) : Call g (d + 1) yX12_startsD cX12_startsD 1 (some .boolean) [.int x0] w (some (.int p)) w := by
  refine call_of (L0 := [some (.int x0)]) (by decide) rfl (Nat.le_of_ble_eq_true rfl) (fun V S0 => ?_)
  have S := S0.b
  unfold f_X12_startsD at h
  refine i_iload_n S dX12_startsD_0 rfl ?_
  refine i_bipush (v := 45) S dX12_startsD_1 bp_45 ?_
  refine i_icmp_eq (tgt := 24) S dX12_startsD_3 (by decide) (fun q1 => ?_) (fun q1 => ?_)
  · replace h := (if_pos q1).symm.trans h
    refine i_iconst (v := 1) S dX12_startsD_24 ic_1 ?_
    refine i_goto (tgt := 29) S dX12_startsD_25 (by decide) ?_
    subst h
    exact i_iret S0 rfl dX12_startsD_29
  · replace h := (if_neg q1).symm.trans h
    refine i_iload_n S dX12_startsD_6 rfl ?_
    refine i_bipush (v := 40) S dX12_startsD_7 bp_40 ?_
    refine i_icmp_eq (tgt := 24) S dX12_startsD_9 (by decide) (fun q2 => ?_) (fun q2 => ?_)
    · replace h := (if_pos q2).symm.trans h
      refine i_iconst (v := 1) S dX12_startsD_24 ic_1 ?_
      refine i_goto (tgt := 29) S dX12_startsD_25 (by decide) ?_
      subst h
      exact i_iret S0 rfl dX12_startsD_29
    · replace h := (if_neg q2).symm.trans h
      refine i_iload_n S dX12_startsD_12 rfl ?_
      refine i_bipush (v := 97) S dX12_startsD_13 bp_97 ?_
      refine i_icmp_lt (tgt := 28) S dX12_startsD_15 (by decide) (fun q3 => ?_) (fun q3 => ?_)
      · replace h := (if_pos q3).symm.trans h
        refine i_iconst (v := 0) S dX12_startsD_28 ic_0 ?_
        subst h
        exact i_iret S0 rfl dX12_startsD_29
      · replace h := (if_neg q3).symm.trans h
        refine i_iload_n S dX12_startsD_18 rfl ?_
        refine i_bipush (v := 106) S dX12_startsD_19 bp_106 ?_
        refine i_icmp_gt (tgt := 28) S dX12_startsD_21 (by decide) (fun q4 => ?_) (fun q4 => ?_)
        · replace h := (if_pos q4).symm.trans h
          refine i_iconst (v := 0) S dX12_startsD_28 ic_0 ?_
          subst h
          exact i_iret S0 rfl dX12_startsD_29
        · replace h := (if_neg q4).symm.trans h
          refine i_iconst (v := 1) S dX12_startsD_24 ic_1 ?_
          refine i_goto (tgt := 29) S dX12_startsD_25 (by decide) ?_
          subst h
          exact i_iret S0 rfl dX12_startsD_29
theorem b_X12_startsD (x0 : Int32) : isB (f_X12_startsD x0) = true := by
  unfold f_X12_startsD
  repeat' split
  all_goals first | rfl
/-! WordYearModel.joinsValues -/
noncomputable def l_X12_joinsValues_0 (x1 : Int32) (s : Mm) : Option ((Mm) ⊕ (Mm)) := onL s (Option.bind (f_X12_top s) (fun p2 => mg (if p2 = (42 : Int32) then (some (.inl ())) else (if x1 = 0 then (some (.inr (.inr s))) else (Option.bind (f_X12_top s) (fun p23 => if p23 = (43 : Int32) then (some (.inl ())) else (some (.inr (.inr s))))))) (fun p4 => if inb ((gI s 47 62) - (1 : Int32)) 64 = true then (Option.bind (f_X12_top (sI s 47 62 ((gI s 47 62) - (1 : Int32)))) (fun p7 => Option.bind (if p7 = (42 : Int32) then (if inb (((gI s 47 62) - (1 : Int32)) - (1 : Int32)) 64 = true then (some ((gI s 85 (ix (((gI s 47 62) - (1 : Int32)) - (1 : Int32)))) &&& (gI s 85 (ix ((gI s 47 62) - (1 : Int32)))))) else none) else (if inb (((gI s 47 62) - (1 : Int32)) - (1 : Int32)) 64 = true then (some ((gI s 85 (ix (((gI s 47 62) - (1 : Int32)) - (1 : Int32)))) ||| (gI s 85 (ix ((gI s 47 62) - (1 : Int32)))))) else none)) (fun p9 => if inb (((gI s 47 62) - (1 : Int32)) - (1 : Int32)) 64 = true then (Option.bind (f_X12_top (sI (sI s 47 62 ((gI s 47 62) - (1 : Int32))) 85 (ix (((gI s 47 62) - (1 : Int32)) - (1 : Int32))) p9)) (fun p12 => Option.bind (if p12 = (42 : Int32) then (some (2 : Int32)) else (some (3 : Int32))) (fun p14 => if inb p14 4 = true then (some (.inl (sI (sI (sI (sI s 47 62 ((gI s 47 62) - (1 : Int32))) 85 (ix (((gI s 47 62) - (1 : Int32)) - (1 : Int32))) p9) 84 (ix p14) ((gI s 84 (ix p14)) + (1 : Int32))) 47 34 ((gI s 47 34) - (1 : Int32))))) else none))) else none))) else none)))
noncomputable def f_X12_joinsValues (x1 : Int32) (w : Mm) : Option Mm := Option.bind (wh (l_X12_joinsValues_0 x1) FUEL w) (fun p1 => some p1)
set_option maxHeartbeats 4000000 in
set_option maxRecDepth 100000 in
theorem t_l_X12_joinsValues_0 {g : Gx} {V : Vt} {d : Nat} (S : MachB g yX12_joinsValues cX12_joinsValues 3 (d + 1) V) {x1 : Int32}  (s : Mm) (e : (Mm) ⊕ (Mm)) (h : l_X12_joinsValues_0 x1 s = some e) (hC : ∀ s2, e = .inl s2 → V 0 [some (rf g 47), some (.int x1), none] [] s2) (hE : ∀ x, e = .inr x → V 127 [none, none, none] [] x) : V 0 [some (rf g 47), some (.int x1), none] [] s := by
  unfold l_X12_joinsValues_0 at h
  refine i_aload_n S dX12_joinsValues_0 rfl ?_
  obtain ⟨hL1, h⟩ := onLn h
  obtain ⟨p2, e2, h⟩ := bn h
  refine i_callV (As := []) (st1 := [.int p2]) S (c_X12_top g d hL1 e2) mw_X12_top lk_X12_221 im_X12_top se_X12_top ci_12.1 ci_12.2.1 (k47 hL1) dX12_joinsValues_1 rfl rfl (Nat.le_of_ble_eq_true rfl) rfl ?_
  refine i_bipush (v := 42) S dX12_joinsValues_4 bp_42 ?_
  obtain ⟨s4, e4, hm4, ho4⟩ := mgn h
  have hj4 : ∀ p4, s4 = .inl p4 → V 22 [some (rf g 47), some (.int x1), none] [] s := by
    intro p4 ep4
    have h := hm4 p4 ep4
    refine i_aload_n S dX12_joinsValues_22 rfl ?_
    refine i_dup S dX12_joinsValues_23 rfl ?_
    refine i_getIv (v := gI s 47 62) S fl_X12_447 (k47 hL1) rfl rfl dX12_joinsValues_24 ?_
    refine i_iconst (v := 1) S dX12_joinsValues_27 ic_1 ?_
    refine i_isub S dX12_joinsValues_28 ?_
    refine i_putI S fl_X12_447 (k47 hL1) rfl rfl rfl dX12_joinsValues_29 ?_
    refine i_aload_n S dX12_joinsValues_32 rfl ?_
    refine i_getR S fl_X12_129 (k47 hL1) (r47_61 hL1) rfl dX12_joinsValues_33 ?_
    refine i_aload_n S dX12_joinsValues_36 rfl ?_
    refine i_getIv (v := (gI s 47 62) - (1 : Int32)) S fl_X12_447 (k47 hL1) rfl rfl dX12_joinsValues_37 ?_
    obtain ⟨hi6, h⟩ := gd h
    refine i_ialdv (v := gI s 85 (ix ((gI s 47 62) - (1 : Int32)))) S (k85 hL1) hi6 rfl dX12_joinsValues_40 ?_
    refine i_istore_n (L1 := [some (rf g 47), some (.int x1), some (.int (gI s 85 (ix ((gI s 47 62) - (1 : Int32)))))]) S dX12_joinsValues_41 (by decide) rfl ?_
    refine i_aload_n S dX12_joinsValues_42 rfl ?_
    refine i_getR S fl_X12_129 (k47 hL1) (r47_61 hL1) rfl dX12_joinsValues_43 ?_
    refine i_aload_n S dX12_joinsValues_46 rfl ?_
    refine i_getIv (v := (gI s 47 62) - (1 : Int32)) S fl_X12_447 (k47 hL1) rfl rfl dX12_joinsValues_47 ?_
    refine i_iconst (v := 1) S dX12_joinsValues_50 ic_1 ?_
    refine i_isub S dX12_joinsValues_51 ?_
    refine i_aload_n S dX12_joinsValues_52 rfl ?_
    obtain ⟨p7, e7, h⟩ := bn h
    refine i_callV (As := []) (st1 := [.int p7, .int (((gI s 47 62) - (1 : Int32)) - (1 : Int32)), rf g 85]) S (c_X12_top g d hL1 e7) mw_X12_top lk_X12_221 im_X12_top se_X12_top ci_12.1 ci_12.2.1 (k47 hL1) dX12_joinsValues_53 rfl rfl (Nat.le_of_ble_eq_true rfl) rfl ?_
    refine i_bipush (v := 42) S dX12_joinsValues_56 bp_42 ?_
    obtain ⟨p9, e9, h⟩ := bn h
    have hj9 : ∀ q9, p9 = q9 → V 90 [some (rf g 47), some (.int x1), none] [.int q9, .int (((gI s 47 62) - (1 : Int32)) - (1 : Int32)), rf g 85] (sI s 47 62 ((gI s 47 62) - (1 : Int32))) := by
      intro q9 hq9
      subst hq9
      obtain ⟨hi11, h⟩ := gd h
      refine i_iast S (k85 hL1) hi11 dX12_joinsValues_90 ?_
      refine i_aload_n S dX12_joinsValues_91 rfl ?_
      refine i_getR S fl_X12_126 (k47 hL1) (r47_60 hL1) rfl dX12_joinsValues_92 ?_
      refine i_aload_n S dX12_joinsValues_95 rfl ?_
      obtain ⟨p12, e12, h⟩ := bn h
      refine i_callV (As := []) (st1 := [.int p12, rf g 84]) S (c_X12_top g d hL1 e12) mw_X12_top lk_X12_221 im_X12_top se_X12_top ci_12.1 ci_12.2.1 (k47 hL1) dX12_joinsValues_96 rfl rfl (Nat.le_of_ble_eq_true rfl) rfl ?_
      refine i_bipush (v := 42) S dX12_joinsValues_99 bp_42 ?_
      obtain ⟨p14, e14, h⟩ := bn h
      have hj14 : ∀ q14, p14 = q14 → V 109 [some (rf g 47), some (.int x1), none] [.int q14, rf g 84] (sI (sI s 47 62 ((gI s 47 62) - (1 : Int32))) 85 (ix (((gI s 47 62) - (1 : Int32)) - (1 : Int32))) p9) := by
        intro q14 hq14
        subst hq14
        refine i_dup2 S dX12_joinsValues_109 rfl rfl ?_
        obtain ⟨hi16, h⟩ := gd h
        refine i_ialdv (v := gI s 84 (ix p14)) S (k84 hL1) hi16 rfl dX12_joinsValues_110 ?_
        refine i_iconst (v := 1) S dX12_joinsValues_111 ic_1 ?_
        refine i_iadd S dX12_joinsValues_112 ?_
        refine i_iast S (k84 hL1) hi16 dX12_joinsValues_113 ?_
        refine i_aload_n S dX12_joinsValues_114 rfl ?_
        refine i_dup S dX12_joinsValues_115 rfl ?_
        refine i_getIv (v := gI s 47 34) S fl_X12_197 (k47 hL1) rfl rfl dX12_joinsValues_116 ?_
        refine i_iconst (v := 1) S dX12_joinsValues_119 ic_1 ?_
        refine i_isub S dX12_joinsValues_120 ?_
        refine i_putI S fl_X12_197 (k47 hL1) rfl rfl rfl dX12_joinsValues_121 ?_
        refine i_goto (tgt := 0) S dX12_joinsValues_124 (by decide) ?_
        have hz := hC _ (Option.some.inj h).symm
        exact hz
      replace h := e14
      clear e14
      refine i_icmp_ne (tgt := 108) S dX12_joinsValues_101 (by decide) (fun q13 => ?_) (fun q13 => ?_)
      · replace h := (if_neg q13).symm.trans h
        refine i_iconst (v := 3) S dX12_joinsValues_108 ic_3 ?_
        have hz := hj14 _ (Option.some.inj h).symm
        exact hz
      · replace h := (if_pos q13).symm.trans h
        refine i_iconst (v := 2) S dX12_joinsValues_104 ic_2 ?_
        refine i_goto (tgt := 109) S dX12_joinsValues_105 (by decide) ?_
        have hz := hj14 _ (Option.some.inj h).symm
        exact hz
    replace h := e9
    clear e9
    refine i_icmp_ne (tgt := 77) S dX12_joinsValues_58 (by decide) (fun q8 => ?_) (fun q8 => ?_)
    · replace h := (if_neg q8).symm.trans h
      refine i_aload_n S dX12_joinsValues_77 rfl ?_
      refine i_getR S fl_X12_129 (k47 hL1) (r47_61 hL1) rfl dX12_joinsValues_78 ?_
      refine i_aload_n S dX12_joinsValues_81 rfl ?_
      refine i_getIv (v := (gI s 47 62) - (1 : Int32)) S fl_X12_447 (k47 hL1) rfl rfl dX12_joinsValues_82 ?_
      refine i_iconst (v := 1) S dX12_joinsValues_85 ic_1 ?_
      refine i_isub S dX12_joinsValues_86 ?_
      obtain ⟨hi19, h⟩ := gd h
      refine i_ialdv (v := gI s 85 (ix (((gI s 47 62) - (1 : Int32)) - (1 : Int32)))) S (k85 hL1) hi19 rfl dX12_joinsValues_87 ?_
      refine i_iload_n S dX12_joinsValues_88 rfl ?_
      refine i_ior S dX12_joinsValues_89 ?_
      refine i_mask (L1 := [some (rf g 47), some (.int x1), none]) S [true, true, false] rfl ?_
      have hz := hj9 _ (Option.some.inj h).symm
      exact hz
    · replace h := (if_pos q8).symm.trans h
      refine i_aload_n S dX12_joinsValues_61 rfl ?_
      refine i_getR S fl_X12_129 (k47 hL1) (r47_61 hL1) rfl dX12_joinsValues_62 ?_
      refine i_aload_n S dX12_joinsValues_65 rfl ?_
      refine i_getIv (v := (gI s 47 62) - (1 : Int32)) S fl_X12_447 (k47 hL1) rfl rfl dX12_joinsValues_66 ?_
      refine i_iconst (v := 1) S dX12_joinsValues_69 ic_1 ?_
      refine i_isub S dX12_joinsValues_70 ?_
      obtain ⟨hi21, h⟩ := gd h
      refine i_ialdv (v := gI s 85 (ix (((gI s 47 62) - (1 : Int32)) - (1 : Int32)))) S (k85 hL1) hi21 rfl dX12_joinsValues_71 ?_
      refine i_iload_n S dX12_joinsValues_72 rfl ?_
      refine i_iand S dX12_joinsValues_73 ?_
      refine i_goto (tgt := 90) S dX12_joinsValues_74 (by decide) ?_
      refine i_mask (L1 := [some (rf g 47), some (.int x1), none]) S [true, true, false] rfl ?_
      have hz := hj9 _ (Option.some.inj h).symm
      exact hz
  replace h := e4
  clear e4
  refine i_icmp_eq (tgt := 22) S dX12_joinsValues_6 (by decide) (fun q3 => ?_) (fun q3 => ?_)
  · replace h := (if_pos q3).symm.trans h
    have hz := hj4 _ (Option.some.inj h).symm
    exact hz
  · replace h := (if_neg q3).symm.trans h
    refine i_iload_n S dX12_joinsValues_9 rfl ?_
    refine i_if_eq (tgt := 127) S dX12_joinsValues_10 (by decide) (fun q22 => ?_) (fun q22 => ?_)
    · replace h := (if_pos q22).symm.trans h
      replace h := ho4 _ (Option.some.inj h).symm
      refine i_mask (L1 := [none, none, none]) S [false, false, false] rfl ?_
      have hz := hE _ (Option.some.inj h).symm
      exact hz
    · replace h := (if_neg q22).symm.trans h
      refine i_aload_n S dX12_joinsValues_13 rfl ?_
      obtain ⟨p23, e23, h⟩ := bn h
      refine i_callV (As := []) (st1 := [.int p23]) S (c_X12_top g d hL1 e23) mw_X12_top lk_X12_221 im_X12_top se_X12_top ci_12.1 ci_12.2.1 (k47 hL1) dX12_joinsValues_14 rfl rfl (Nat.le_of_ble_eq_true rfl) rfl ?_
      refine i_bipush (v := 43) S dX12_joinsValues_17 bp_43 ?_
      refine i_icmp_ne (tgt := 127) S dX12_joinsValues_19 (by decide) (fun q24 => ?_) (fun q24 => ?_)
      · replace h := (if_neg q24).symm.trans h
        replace h := ho4 _ (Option.some.inj h).symm
        refine i_mask (L1 := [none, none, none]) S [false, false, false] rfl ?_
        have hz := hE _ (Option.some.inj h).symm
        exact hz
      · replace h := (if_pos q24).symm.trans h
        have hz := hj4 _ (Option.some.inj h).symm
        exact hz
set_option maxHeartbeats 4000000 in
set_option maxRecDepth 100000 in
theorem c_X12_joinsValues (g : Gx) (d : Nat) {x1 : Int32} {w : Mm} {p : Mm} (hL : Lay w) (h : f_X12_joinsValues x1 w = some p) : Call g (d + 2) yX12_joinsValues cX12_joinsValues 3 none [rf g 47, .int x1] w none p := by
  refine call_of (L0 := [some (rf g 47), some (.int x1), none]) (by decide) rfl (Nat.le_of_ble_eq_true rfl) (fun V S0 => ?_)
  have S := S0.b
  unfold f_X12_joinsValues at h
  obtain ⟨p1, e1, h⟩ := bn h
  have hE1 : V 127 [none, none, none] [] p1 := by
    cases h
    exact i_vret S0 dX12_joinsValues_127
  exact wh_V (P := fun sv1 => V 0 [some (rf g 47), some (.int x1), none] [] sv1) (E := fun xv1 => V 127 [none, none, none] [] xv1) (fun sv1 ev hb hc he => t_l_X12_joinsValues_0   S  sv1 ev hb hc he) FUEL _ _ e1 hE1
/-! WordYearModel.endsD -/
noncomputable def l_X12_endsD_0  (s : Mm) : Option ((Mm) ⊕ (Mm)) := onL s (Option.bind (f_X12_top s) (fun p2 => if p2 = (45 : Int32) then (if inb ((gI s 47 62) - (1 : Int32)) 64 = true then (some (.inl (sI (sI (sI (sI s 85 (ix ((gI s 47 62) - (1 : Int32))) ((63 : Int32) ^^^ (gI s 85 (ix ((gI s 47 62) - (1 : Int32)))))) 84 (ix (1 : Int32)) ((gI s 84 (ix (1 : Int32))) + (1 : Int32))) 47 34 ((gI s 47 34) - (1 : Int32))) 47 33 ((gI s 47 33) - (1 : Int32))))) else none) else (some (.inr s))))
noncomputable def f_X12_endsD  (w : Mm) : Option Mm := Option.bind (wh l_X12_endsD_0 FUEL w) (fun p1 => some p1)
set_option maxHeartbeats 4000000 in
set_option maxRecDepth 100000 in
theorem t_l_X12_endsD_0 {g : Gx} {V : Vt} {d : Nat} (S : MachB g yX12_endsD cX12_endsD 1 (d + 1) V)   (s : Mm) (e : (Mm) ⊕ (Mm)) (h : l_X12_endsD_0  s = some e) (hC : ∀ s2, e = .inl s2 → V 0 [some (rf g 47)] [] s2) (hE : ∀ x, e = .inr x → V 67 [none] [] x) : V 0 [some (rf g 47)] [] s := by
  unfold l_X12_endsD_0 at h
  refine i_aload_n S dX12_endsD_0 rfl ?_
  obtain ⟨hL1, h⟩ := onLn h
  obtain ⟨p2, e2, h⟩ := bn h
  refine i_callV (As := []) (st1 := [.int p2]) S (c_X12_top g d hL1 e2) mw_X12_top lk_X12_221 im_X12_top se_X12_top ci_12.1 ci_12.2.1 (k47 hL1) dX12_endsD_1 rfl rfl (Nat.le_of_ble_eq_true rfl) rfl ?_
  refine i_bipush (v := 45) S dX12_endsD_4 bp_45 ?_
  refine i_icmp_ne (tgt := 67) S dX12_endsD_6 (by decide) (fun q3 => ?_) (fun q3 => ?_)
  · replace h := (if_neg q3).symm.trans h
    refine i_mask (L1 := [none]) S [false] rfl ?_
    have hz := hE _ (Option.some.inj h).symm
    exact hz
  · replace h := (if_pos q3).symm.trans h
    refine i_aload_n S dX12_endsD_9 rfl ?_
    refine i_getR S fl_X12_129 (k47 hL1) (r47_61 hL1) rfl dX12_endsD_10 ?_
    refine i_aload_n S dX12_endsD_13 rfl ?_
    refine i_getIv (v := gI s 47 62) S fl_X12_447 (k47 hL1) rfl rfl dX12_endsD_14 ?_
    refine i_iconst (v := 1) S dX12_endsD_17 ic_1 ?_
    refine i_isub S dX12_endsD_18 ?_
    refine i_bipush (v := 63) S dX12_endsD_19 bp_63 ?_
    refine i_aload_n S dX12_endsD_21 rfl ?_
    refine i_getR S fl_X12_129 (k47 hL1) (r47_61 hL1) rfl dX12_endsD_22 ?_
    refine i_aload_n S dX12_endsD_25 rfl ?_
    refine i_getIv (v := gI s 47 62) S fl_X12_447 (k47 hL1) rfl rfl dX12_endsD_26 ?_
    refine i_iconst (v := 1) S dX12_endsD_29 ic_1 ?_
    refine i_isub S dX12_endsD_30 ?_
    obtain ⟨hi5, h⟩ := gd h
    refine i_ialdv (v := gI s 85 (ix ((gI s 47 62) - (1 : Int32)))) S (k85 hL1) hi5 rfl dX12_endsD_31 ?_
    refine i_ixor S dX12_endsD_32 ?_
    refine i_iast S (k85 hL1) hi5 dX12_endsD_33 ?_
    refine i_aload_n S dX12_endsD_34 rfl ?_
    refine i_getR S fl_X12_126 (k47 hL1) (r47_60 hL1) rfl dX12_endsD_35 ?_
    refine i_iconst (v := 1) S dX12_endsD_38 ic_1 ?_
    refine i_dup2 S dX12_endsD_39 rfl rfl ?_
    refine i_ialdv (v := gI s 84 (ix (1 : Int32))) S (k84 hL1) (by decide) rfl dX12_endsD_40 ?_
    refine i_iconst (v := 1) S dX12_endsD_41 ic_1 ?_
    refine i_iadd S dX12_endsD_42 ?_
    refine i_iast S (k84 hL1) (by decide) dX12_endsD_43 ?_
    refine i_aload_n S dX12_endsD_44 rfl ?_
    refine i_dup S dX12_endsD_45 rfl ?_
    refine i_getIv (v := gI s 47 34) S fl_X12_197 (k47 hL1) rfl rfl dX12_endsD_46 ?_
    refine i_iconst (v := 1) S dX12_endsD_49 ic_1 ?_
    refine i_isub S dX12_endsD_50 ?_
    refine i_putI S fl_X12_197 (k47 hL1) rfl rfl rfl dX12_endsD_51 ?_
    refine i_aload_n S dX12_endsD_54 rfl ?_
    refine i_dup S dX12_endsD_55 rfl ?_
    refine i_getIv (v := gI s 47 33) S fl_X12_200 (k47 hL1) rfl rfl dX12_endsD_56 ?_
    refine i_iconst (v := 1) S dX12_endsD_59 ic_1 ?_
    refine i_isub S dX12_endsD_60 ?_
    refine i_putI S fl_X12_200 (k47 hL1) rfl rfl rfl dX12_endsD_61 ?_
    refine i_goto (tgt := 0) S dX12_endsD_64 (by decide) ?_
    have hz := hC _ (Option.some.inj h).symm
    exact hz
set_option maxHeartbeats 4000000 in
set_option maxRecDepth 100000 in
theorem c_X12_endsD (g : Gx) (d : Nat)  {w : Mm} {p : Mm} (hL : Lay w) (h : f_X12_endsD w = some p) : Call g (d + 2) yX12_endsD cX12_endsD 1 none [rf g 47] w none p := by
  refine call_of (L0 := [some (rf g 47)]) (by decide) rfl (Nat.le_of_ble_eq_true rfl) (fun V S0 => ?_)
  have S := S0.b
  unfold f_X12_endsD at h
  obtain ⟨p1, e1, h⟩ := bn h
  have hE1 : V 67 [none] [] p1 := by
    cases h
    exact i_vret S0 dX12_endsD_67
  exact wh_V (P := fun sv1 => V 0 [some (rf g 47)] [] sv1) (E := fun xv1 => V 67 [none] [] xv1) (fun sv1 ev hb hc he => t_l_X12_endsD_0   S  sv1 ev hb hc he) FUEL _ _ e1 hE1
/-! WordYearModel.readsD -/
noncomputable def l_X12_readsD_0  (s : Mm) : Option ((Mm) ⊕ (Mm)) := onL s (Option.bind (f_X12_isGood s) (fun p2 => if p2 = 0 then (some (.inr s)) else (Option.bind (f_X12_here s) (fun p4 => mg (if p4 = (45 : Int32) then (some (.inl ())) else (Option.bind (f_X12_here s) (fun p8 => if p8 = (40 : Int32) then (some (.inl ())) else (some (.inr (.inr s)))))) (fun p6 => Option.bind (f_X12_opens s) (fun p7 => some (.inl p7)))))))
noncomputable def f_X12_readsD  (w : Mm) : Option Mm := Option.bind (wh l_X12_readsD_0 FUEL w) (fun p1 => onL p1 (Option.bind (f_X12_isGood p1) (fun p3 => if p3 = 0 then (some p1) else (Option.bind (f_X12_here p1) (fun p5 => Option.bind (if (f_X12_lies ((p5 - (97 : Int32)).toInt64) (0 : Int64) (9 : Int64)) = 0 then (Option.bind (f_X12_wrongs (1 : Int32) (gI p1 47 28) p1) (fun p24 => some p24)) else (mg (if (gI p1 47 2) ≤ (p5 - (97 : Int32)) then (some (.inl ())) else (if inb (p5 - (97 : Int32)) 10 = true then (if (gI p1 49 (ix (p5 - (97 : Int32)))) = 0 then (some (.inr p1)) else (some (.inl ()))) else none)) (fun p19 => Option.bind (f_X12_wrongs (2 : Int32) (gI p1 47 28) p1) (fun p20 => some p20)))) (fun p7 => onL p7 (Option.bind (f_X12_isGood p7) (fun p9 => if p9 = 0 then (some p7) else (if inb (p5 - (97 : Int32)) 10 = true then (if inb (gI p7 47 62) 64 = true then (Option.bind (f_X12_endsD (sI (sI (sI (sI p7 85 (ix (gI p7 47 62)) (gI p7 50 (ix (p5 - (97 : Int32))))) 47 62 ((gI p7 47 62) + (1 : Int32))) 83 (ix (p5 - (97 : Int32))) ((gI p7 83 (ix (p5 - (97 : Int32)))) + (1 : Int32))) 47 28 ((gI p7 47 28) + (1 : Int32)))) (fun p17 => some p17)) else none) else none)))))))))
set_option maxHeartbeats 4000000 in
set_option maxRecDepth 100000 in
theorem t_l_X12_readsD_0 {g : Gx} {V : Vt} {d : Nat} (S : MachB g yX12_readsD cX12_readsD 2 (d + 2) V)   (s : Mm) (e : (Mm) ⊕ (Mm)) (h : l_X12_readsD_0  s = some e) (hC : ∀ s2, e = .inl s2 → V 0 [some (rf g 47), none] [] s2) (hE : ∀ x, e = .inr x → V 32 [some (rf g 47), none] [] x) : V 0 [some (rf g 47), none] [] s := by
  unfold l_X12_readsD_0 at h
  refine i_aload_n S dX12_readsD_0 rfl ?_
  obtain ⟨hL1, h⟩ := onLn h
  obtain ⟨p2, e2, h⟩ := bn h
  refine i_callV (As := []) (st1 := [.int p2]) S (c_X12_isGood g (d + 1) hL1 e2) mw_X12_isGood lk_X12_190 im_X12_isGood se_X12_isGood ci_12.1 ci_12.2.1 (k47 hL1) dX12_readsD_1 rfl rfl (Nat.le_of_ble_eq_true rfl) rfl ?_
  refine i_if_eq (tgt := 32) S dX12_readsD_4 (by decide) (fun q3 => ?_) (fun q3 => ?_)
  · replace h := (if_pos q3).symm.trans h
    have hz := hE _ (Option.some.inj h).symm
    exact hz
  · replace h := (if_neg q3).symm.trans h
    refine i_aload_n S dX12_readsD_7 rfl ?_
    obtain ⟨p4, e4, h⟩ := bn h
    refine i_callV (As := []) (st1 := [.int p4]) S (c_X12_here g (d + 1) hL1 e4) mw_X12_here lk_X12_207 im_X12_here se_X12_here ci_12.1 ci_12.2.1 (k47 hL1) dX12_readsD_8 rfl rfl (Nat.le_of_ble_eq_true rfl) rfl ?_
    refine i_bipush (v := 45) S dX12_readsD_11 bp_45 ?_
    obtain ⟨s6, e6, hm6, ho6⟩ := mgn h
    have hj6 : ∀ p6, s6 = .inl p6 → V 25 [some (rf g 47), none] [] s := by
      intro p6 ep6
      have h := hm6 p6 ep6
      refine i_aload_n S dX12_readsD_25 rfl ?_
      obtain ⟨p7, e7, h⟩ := bn h
      refine i_callV (As := []) (st1 := []) S (c_X12_opens g d hL1 e7) mw_X12_opens lk_X12_233 im_X12_opens se_X12_opens ci_12.1 ci_12.2.1 (k47 hL1) dX12_readsD_26 rfl rfl (Nat.le_of_ble_eq_true rfl) rfl ?_
      refine i_goto (tgt := 0) S dX12_readsD_29 (by decide) ?_
      have hz := hC _ (Option.some.inj h).symm
      exact hz
    replace h := e6
    clear e6
    refine i_icmp_eq (tgt := 25) S dX12_readsD_13 (by decide) (fun q5 => ?_) (fun q5 => ?_)
    · replace h := (if_pos q5).symm.trans h
      have hz := hj6 _ (Option.some.inj h).symm
      exact hz
    · replace h := (if_neg q5).symm.trans h
      refine i_aload_n S dX12_readsD_16 rfl ?_
      obtain ⟨p8, e8, h⟩ := bn h
      refine i_callV (As := []) (st1 := [.int p8]) S (c_X12_here g (d + 1) hL1 e8) mw_X12_here lk_X12_207 im_X12_here se_X12_here ci_12.1 ci_12.2.1 (k47 hL1) dX12_readsD_17 rfl rfl (Nat.le_of_ble_eq_true rfl) rfl ?_
      refine i_bipush (v := 40) S dX12_readsD_20 bp_40 ?_
      refine i_icmp_ne (tgt := 32) S dX12_readsD_22 (by decide) (fun q9 => ?_) (fun q9 => ?_)
      · replace h := (if_neg q9).symm.trans h
        replace h := ho6 _ (Option.some.inj h).symm
        have hz := hE _ (Option.some.inj h).symm
        exact hz
      · replace h := (if_pos q9).symm.trans h
        have hz := hj6 _ (Option.some.inj h).symm
        exact hz
set_option maxHeartbeats 4000000 in
set_option maxRecDepth 100000 in
theorem c_X12_readsD (g : Gx) (d : Nat)  {w : Mm} {p : Mm} (hL : Lay w) (h : f_X12_readsD w = some p) : Call g (d + 3) yX12_readsD cX12_readsD 2 none [rf g 47] w none p := by
  refine call_of (L0 := [some (rf g 47), none]) (by decide) rfl (Nat.le_of_ble_eq_true rfl) (fun V S0 => ?_)
  have S := S0.b
  unfold f_X12_readsD at h
  obtain ⟨p1, e1, h⟩ := bn h
  have hE1 : V 32 [some (rf g 47), none] [] p1 := by
    refine i_aload_n S dX12_readsD_32 rfl ?_
    obtain ⟨hL2, h⟩ := onLn h
    obtain ⟨p3, e3, h⟩ := bn h
    refine i_callV (As := []) (st1 := [.int p3]) S (c_X12_isGood g (d + 1) hL2 e3) mw_X12_isGood lk_X12_190 im_X12_isGood se_X12_isGood ci_12.1 ci_12.2.1 (k47 hL2) dX12_readsD_33 rfl rfl (Nat.le_of_ble_eq_true rfl) rfl ?_
    refine i_if_ne (tgt := 40) S dX12_readsD_36 (by decide) (fun q4 => ?_) (fun q4 => ?_)
    · replace h := (if_neg q4).symm.trans h
      refine i_aload_n S dX12_readsD_40 rfl ?_
      obtain ⟨p5, e5, h⟩ := bn h
      refine i_callV (As := []) (st1 := [.int p5]) S (c_X12_here g (d + 1) hL2 e5) mw_X12_here lk_X12_207 im_X12_here se_X12_here ci_12.1 ci_12.2.1 (k47 hL2) dX12_readsD_41 rfl rfl (Nat.le_of_ble_eq_true rfl) rfl ?_
      refine i_bipush (v := 97) S dX12_readsD_44 bp_97 ?_
      refine i_isub S dX12_readsD_46 ?_
      refine i_istore_n (L1 := [some (rf g 47), some (.int (p5 - (97 : Int32)))]) S dX12_readsD_47 (by decide) rfl ?_
      refine i_iload_n S dX12_readsD_48 rfl ?_
      refine i_i2l S dX12_readsD_49 ?_
      refine i_lconst (v := 0) S dX12_readsD_50 lc_0 ?_
      refine i_ldc2 S kl_X12_157 dX12_readsD_51 ?_
      refine i_callS (As := [.long ((p5 - (97 : Int32)).toInt64), .long ((0 : Int64)), .long ((9 : Int64))]) (st1 := [.int (f_X12_lies ((p5 - (97 : Int32)).toInt64) (0 : Int64) (9 : Int64))]) S (c_X12_lies g (d + 1) rfl) mw_X12_lies lk_X12_138 im_X12_lies dX12_readsD_54 rfl rfl (Nat.le_of_ble_eq_true rfl) rfl ?_
      obtain ⟨p7, e7, h⟩ := bn h
      have hj7 : ∀ q7, p7 = q7 → V 98 [some (rf g 47), some (.int (p5 - (97 : Int32)))] [] q7 := by
        intro q7 hq7
        subst hq7
        refine i_aload_n S dX12_readsD_98 rfl ?_
        obtain ⟨hL8, h⟩ := onLn h
        obtain ⟨p9, e9, h⟩ := bn h
        refine i_callV (As := []) (st1 := [.int p9]) S (c_X12_isGood g (d + 1) hL8 e9) mw_X12_isGood lk_X12_190 im_X12_isGood se_X12_isGood ci_12.1 ci_12.2.1 (k47 hL8) dX12_readsD_99 rfl rfl (Nat.le_of_ble_eq_true rfl) rfl ?_
        refine i_if_ne (tgt := 106) S dX12_readsD_102 (by decide) (fun q10 => ?_) (fun q10 => ?_)
        · replace h := (if_neg q10).symm.trans h
          refine i_aload_n S dX12_readsD_106 rfl ?_
          refine i_getR S fl_X12_129 (k47 hL8) (r47_61 hL8) rfl dX12_readsD_107 ?_
          refine i_aload_n S dX12_readsD_110 rfl ?_
          refine i_getIv (v := gI p7 47 62) S fl_X12_447 (k47 hL8) rfl rfl dX12_readsD_111 ?_
          refine i_aload_n S dX12_readsD_114 rfl ?_
          refine i_getR S fl_X12_21 (k47 hL8) (r47_9 hL8) rfl dX12_readsD_115 ?_
          refine i_iload_n S dX12_readsD_118 rfl ?_
          obtain ⟨hi12, h⟩ := gd h
          refine i_ialdv (v := gI p7 50 (ix (p5 - (97 : Int32)))) S (k50 hL8) hi12 rfl dX12_readsD_119 ?_
          obtain ⟨hi14, h⟩ := gd h
          refine i_iast S (k85 hL8) hi14 dX12_readsD_120 ?_
          refine i_aload_n S dX12_readsD_121 rfl ?_
          refine i_dup S dX12_readsD_122 rfl ?_
          refine i_getIv (v := gI p7 47 62) S fl_X12_447 (k47 hL8) rfl rfl dX12_readsD_123 ?_
          refine i_iconst (v := 1) S dX12_readsD_126 ic_1 ?_
          refine i_iadd S dX12_readsD_127 ?_
          refine i_putI S fl_X12_447 (k47 hL8) rfl rfl rfl dX12_readsD_128 ?_
          refine i_aload_n S dX12_readsD_131 rfl ?_
          refine i_getR S fl_X12_123 (k47 hL8) (r47_59 hL8) rfl dX12_readsD_132 ?_
          refine i_iload_n S dX12_readsD_135 rfl ?_
          refine i_dup2 S dX12_readsD_136 rfl rfl ?_
          refine i_ialdv (v := gI p7 83 (ix (p5 - (97 : Int32)))) S (k83 hL8) hi12 rfl dX12_readsD_137 ?_
          refine i_iconst (v := 1) S dX12_readsD_138 ic_1 ?_
          refine i_iadd S dX12_readsD_139 ?_
          refine i_iast S (k83 hL8) hi12 dX12_readsD_140 ?_
          refine i_aload_n S dX12_readsD_141 rfl ?_
          refine i_dup S dX12_readsD_142 rfl ?_
          refine i_getIv (v := gI p7 47 28) S fl_X12_181 (k47 hL8) rfl rfl dX12_readsD_143 ?_
          refine i_iconst (v := 1) S dX12_readsD_146 ic_1 ?_
          refine i_iadd S dX12_readsD_147 ?_
          refine i_putI S fl_X12_181 (k47 hL8) rfl rfl rfl dX12_readsD_148 ?_
          refine i_aload_n S dX12_readsD_151 rfl ?_
          obtain ⟨p17, e17, h⟩ := bn h
          refine i_callV (As := []) (st1 := []) S (c_X12_endsD g d hL8 e17) mw_X12_endsD lk_X12_450 im_X12_endsD se_X12_endsD ci_12.1 ci_12.2.1 (k47 hL8) dX12_readsD_152 rfl rfl (Nat.le_of_ble_eq_true rfl) rfl ?_
          cases h
          exact i_vret S0 dX12_readsD_155
        · replace h := (if_pos q10).symm.trans h
          cases h
          exact i_vret S0 dX12_readsD_105
      replace h := e7
      clear e7
      refine i_if_ne (tgt := 72) S dX12_readsD_57 (by decide) (fun q6 => ?_) (fun q6 => ?_)
      · replace h := (if_neg q6).symm.trans h
        refine i_iload_n S dX12_readsD_72 rfl ?_
        refine i_aload_n S dX12_readsD_73 rfl ?_
        refine i_getIv (v := gI p1 47 2) S fl_X12_135 (k47 hL2) rfl rfl dX12_readsD_74 ?_
        obtain ⟨s19, e19, hm19, ho19⟩ := mgn h
        have hj19 : ∀ p19, s19 = .inl p19 → V 89 [some (rf g 47), some (.int (p5 - (97 : Int32)))] [] p1 := by
          intro p19 ep19
          have h := hm19 p19 ep19
          refine i_aload_n S dX12_readsD_89 rfl ?_
          refine i_iconst (v := 2) S dX12_readsD_90 ic_2 ?_
          refine i_aload_n S dX12_readsD_91 rfl ?_
          refine i_getIv (v := gI p1 47 28) S fl_X12_181 (k47 hL2) rfl rfl dX12_readsD_92 ?_
          obtain ⟨p20, e20, h⟩ := bn h
          refine i_callV (As := [.int ((2 : Int32)), .int (gI p1 47 28)]) (st1 := []) S (c_X12_wrongs g (d + 1) hL2 e20) mw_X12_wrongs lk_X12_203 im_X12_wrongs se_X12_wrongs ci_12.1 ci_12.2.1 (k47 hL2) dX12_readsD_95 rfl rfl (Nat.le_of_ble_eq_true rfl) rfl ?_
          have hz := hj7 _ (Option.some.inj h).symm
          exact hz
        replace h := e19
        clear e19
        refine i_icmp_ge (tgt := 89) S dX12_readsD_77 (by decide) (fun q18 => ?_) (fun q18 => ?_)
        · replace h := (if_pos q18).symm.trans h
          have hz := hj19 _ (Option.some.inj h).symm
          exact hz
        · replace h := (if_neg q18).symm.trans h
          refine i_aload_n S dX12_readsD_80 rfl ?_
          refine i_getR S fl_X12_17 (k47 hL2) (r47_8 hL2) rfl dX12_readsD_81 ?_
          refine i_iload_n S dX12_readsD_84 rfl ?_
          obtain ⟨hi22, h⟩ := gd h
          refine i_ialdv (v := gI p1 49 (ix (p5 - (97 : Int32)))) S (k49 hL2) hi22 rfl dX12_readsD_85 ?_
          refine i_if_eq (tgt := 98) S dX12_readsD_86 (by decide) (fun q23 => ?_) (fun q23 => ?_)
          · replace h := (if_pos q23).symm.trans h
            replace h := ho19 _ (Option.some.inj h).symm
            have hz := hj7 _ (Option.some.inj h).symm
            exact hz
          · replace h := (if_neg q23).symm.trans h
            have hz := hj19 _ (Option.some.inj h).symm
            exact hz
      · replace h := (if_pos q6).symm.trans h
        refine i_aload_n S dX12_readsD_60 rfl ?_
        refine i_iconst (v := 1) S dX12_readsD_61 ic_1 ?_
        refine i_aload_n S dX12_readsD_62 rfl ?_
        refine i_getIv (v := gI p1 47 28) S fl_X12_181 (k47 hL2) rfl rfl dX12_readsD_63 ?_
        obtain ⟨p24, e24, h⟩ := bn h
        refine i_callV (As := [.int ((1 : Int32)), .int (gI p1 47 28)]) (st1 := []) S (c_X12_wrongs g (d + 1) hL2 e24) mw_X12_wrongs lk_X12_203 im_X12_wrongs se_X12_wrongs ci_12.1 ci_12.2.1 (k47 hL2) dX12_readsD_66 rfl rfl (Nat.le_of_ble_eq_true rfl) rfl ?_
        refine i_goto (tgt := 98) S dX12_readsD_69 (by decide) ?_
        have hz := hj7 _ (Option.some.inj h).symm
        exact hz
    · replace h := (if_pos q4).symm.trans h
      cases h
      exact i_vret S0 dX12_readsD_39
  exact wh_V (P := fun sv1 => V 0 [some (rf g 47), none] [] sv1) (E := fun xv1 => V 32 [some (rf g 47), none] [] xv1) (fun sv1 ev hb hc he => t_l_X12_readsD_0   S  sv1 ev hb hc he) FUEL _ _ e1 hE1
/-! WordYearModel.followsD -/
noncomputable def l_X12_followsD_2  (s : Int32 × Mm) : Option ((Int32 × Mm) ⊕ (Mm)) := if s.1 = 0 then (some (.inr s.2)) else (onL s.2 (Option.bind (f_X12_isGood s.2) (fun p3 => if p3 = 0 then (some (.inr s.2)) else (Option.bind (f_X12_here s.2) (fun p5 => Option.bind (if p5 = (41 : Int32) then (some (1 : Int32)) else (some (0 : Int32))) (fun p7 => if p7 = 0 then (some (.inl (p7, s.2))) else (Option.bind (f_X12_joinsValues (1 : Int32) s.2) (fun p9 => onL p9 (Option.bind (f_X12_top p9) (fun p11 => if p11 = (40 : Int32) then (Option.bind (f_X12_endsD (sI (sI (sI p9 47 34 ((gI p9 47 34) - (1 : Int32))) 47 33 ((gI p9 47 33) - (1 : Int32))) 47 28 ((gI p9 47 28) + (1 : Int32)))) (fun p13 => some (.inl (p7, p13)))) else (Option.bind (f_X12_wrongs (1 : Int32) (gI p9 47 28) p9) (fun p14 => some (.inl (p7, p14))))))))))))))
noncomputable def f_X12_followsD  (w : Mm) : Option (Int32 × Mm) := Option.bind (wh l_X12_followsD_2 FUEL ((1 : Int32), w)) (fun p1 => onL p1 (Option.bind (f_X12_isGood p1) (fun p3 => if p3 = 0 then (some ((0 : Int32), p1)) else (if (gI p1 47 28) = (gI p1 47 29) then (some ((0 : Int32), p1)) else (Option.bind (f_X12_here p1) (fun p6 => mg (if p6 = (43 : Int32) then (some (.inl ())) else (if (f_X12_startsD p6) = 0 then (Option.bind (f_X12_wrongs (1 : Int32) (gI p1 47 28) p1) (fun p20 => some (.inr ((0 : Int32), p20)))) else (some (.inl ())))) (fun p8 => Option.bind (if p6 = (43 : Int32) then (some (1 : Int32)) else (some (0 : Int32))) (fun p10 => Option.bind (f_X12_joinsValues p10 p1) (fun p11 => onL p11 (Option.bind (if p6 = (43 : Int32) then (some (43 : Int32)) else (some (42 : Int32))) (fun p14 => if inb (gI p11 47 34) 200 = true then (Option.bind (if p6 = (43 : Int32) then (some (1 : Int32)) else (some (0 : Int32))) (fun p18 => some ((1 : Int32), sI (sI (sI p11 68 (ix (gI p11 47 34)) p14) 47 34 ((gI p11 47 34) + (1 : Int32))) 47 28 ((gI p11 47 28) + p18)))) else none)))))))))))
set_option maxHeartbeats 4000000 in
set_option maxRecDepth 100000 in
theorem t_l_X12_followsD_2 {g : Gx} {V : Vt} {d : Nat} (S : MachB g yX12_followsD cX12_followsD 3 (d + 2) V)   (s : Int32 × Mm) (e : (Int32 × Mm) ⊕ (Mm)) (h : l_X12_followsD_2  s = some e) (hC : ∀ s2, e = .inl s2 → V 2 [some (rf g 47), some (.int s2.1), none] [] s2.2) (hE : ∀ x, e = .inr x → V 98 [some (rf g 47), none, none] [] x) : V 2 [some (rf g 47), some (.int s.1), none] [] s.2 := by
  unfold l_X12_followsD_2 at h
  refine i_iload_n S dX12_followsD_2 rfl ?_
  refine i_if_eq (tgt := 98) S dX12_followsD_3 (by decide) (fun q1 => ?_) (fun q1 => ?_)
  · replace h := (if_pos q1).symm.trans h
    refine i_mask (L1 := [some (rf g 47), none, none]) S [true, false, false] rfl ?_
    have hz := hE _ (Option.some.inj h).symm
    exact hz
  · replace h := (if_neg q1).symm.trans h
    refine i_aload_n S dX12_followsD_6 rfl ?_
    obtain ⟨hL2, h⟩ := onLn h
    obtain ⟨p3, e3, h⟩ := bn h
    refine i_callV (As := []) (st1 := [.int p3]) S (c_X12_isGood g (d + 1) hL2 e3) mw_X12_isGood lk_X12_190 im_X12_isGood se_X12_isGood ci_12.1 ci_12.2.1 (k47 hL2) dX12_followsD_7 rfl rfl (Nat.le_of_ble_eq_true rfl) rfl ?_
    refine i_if_eq (tgt := 98) S dX12_followsD_10 (by decide) (fun q4 => ?_) (fun q4 => ?_)
    · replace h := (if_pos q4).symm.trans h
      refine i_mask (L1 := [some (rf g 47), none, none]) S [true, false, false] rfl ?_
      have hz := hE _ (Option.some.inj h).symm
      exact hz
    · replace h := (if_neg q4).symm.trans h
      refine i_aload_n S dX12_followsD_13 rfl ?_
      obtain ⟨p5, e5, h⟩ := bn h
      refine i_callV (As := []) (st1 := [.int p5]) S (c_X12_here g (d + 1) hL2 e5) mw_X12_here lk_X12_207 im_X12_here se_X12_here ci_12.1 ci_12.2.1 (k47 hL2) dX12_followsD_14 rfl rfl (Nat.le_of_ble_eq_true rfl) rfl ?_
      refine i_bipush (v := 41) S dX12_followsD_17 bp_41 ?_
      obtain ⟨p7, e7, h⟩ := bn h
      have hj7 : ∀ q7, p7 = q7 → V 27 [some (rf g 47), none, none] [.int q7] s.2 := by
        intro q7 hq7
        subst hq7
        refine i_istore_n (L1 := [some (rf g 47), some (.int p7), none]) S dX12_followsD_27 (by decide) rfl ?_
        refine i_iload_n S dX12_followsD_28 rfl ?_
        refine i_if_ne (tgt := 35) S dX12_followsD_29 (by decide) (fun q8 => ?_) (fun q8 => ?_)
        · replace h := (if_neg q8).symm.trans h
          refine i_aload_n S dX12_followsD_35 rfl ?_
          refine i_iconst (v := 1) S dX12_followsD_36 ic_1 ?_
          obtain ⟨p9, e9, h⟩ := bn h
          refine i_callV (As := [.int ((1 : Int32))]) (st1 := []) S (c_X12_joinsValues g d hL2 e9) mw_X12_joinsValues lk_X12_453 im_X12_joinsValues se_X12_joinsValues ci_12.1 ci_12.2.1 (k47 hL2) dX12_followsD_37 rfl rfl (Nat.le_of_ble_eq_true rfl) rfl ?_
          refine i_aload_n S dX12_followsD_40 rfl ?_
          obtain ⟨hL10, h⟩ := onLn h
          obtain ⟨p11, e11, h⟩ := bn h
          refine i_callV (As := []) (st1 := [.int p11]) S (c_X12_top g (d + 1) hL10 e11) mw_X12_top lk_X12_221 im_X12_top se_X12_top ci_12.1 ci_12.2.1 (k47 hL10) dX12_followsD_41 rfl rfl (Nat.le_of_ble_eq_true rfl) rfl ?_
          refine i_bipush (v := 40) S dX12_followsD_44 bp_40 ?_
          refine i_icmp_eq (tgt := 61) S dX12_followsD_46 (by decide) (fun q12 => ?_) (fun q12 => ?_)
          · replace h := (if_pos q12).symm.trans h
            refine i_aload_n S dX12_followsD_61 rfl ?_
            refine i_dup S dX12_followsD_62 rfl ?_
            refine i_getIv (v := gI p9 47 34) S fl_X12_197 (k47 hL10) rfl rfl dX12_followsD_63 ?_
            refine i_iconst (v := 1) S dX12_followsD_66 ic_1 ?_
            refine i_isub S dX12_followsD_67 ?_
            refine i_putI S fl_X12_197 (k47 hL10) rfl rfl rfl dX12_followsD_68 ?_
            refine i_aload_n S dX12_followsD_71 rfl ?_
            refine i_dup S dX12_followsD_72 rfl ?_
            refine i_getIv (v := gI p9 47 33) S fl_X12_200 (k47 hL10) rfl rfl dX12_followsD_73 ?_
            refine i_iconst (v := 1) S dX12_followsD_76 ic_1 ?_
            refine i_isub S dX12_followsD_77 ?_
            refine i_putI S fl_X12_200 (k47 hL10) rfl rfl rfl dX12_followsD_78 ?_
            refine i_aload_n S dX12_followsD_81 rfl ?_
            refine i_dup S dX12_followsD_82 rfl ?_
            refine i_getIv (v := gI p9 47 28) S fl_X12_181 (k47 hL10) rfl rfl dX12_followsD_83 ?_
            refine i_iconst (v := 1) S dX12_followsD_86 ic_1 ?_
            refine i_iadd S dX12_followsD_87 ?_
            refine i_putI S fl_X12_181 (k47 hL10) rfl rfl rfl dX12_followsD_88 ?_
            refine i_aload_n S dX12_followsD_91 rfl ?_
            obtain ⟨p13, e13, h⟩ := bn h
            refine i_callV (As := []) (st1 := []) S (c_X12_endsD g d hL10 e13) mw_X12_endsD lk_X12_450 im_X12_endsD se_X12_endsD ci_12.1 ci_12.2.1 (k47 hL10) dX12_followsD_92 rfl rfl (Nat.le_of_ble_eq_true rfl) rfl ?_
            refine i_goto (tgt := 2) S dX12_followsD_95 (by decide) ?_
            have hz := hC _ (Option.some.inj h).symm
            exact hz
          · replace h := (if_neg q12).symm.trans h
            refine i_aload_n S dX12_followsD_49 rfl ?_
            refine i_iconst (v := 1) S dX12_followsD_50 ic_1 ?_
            refine i_aload_n S dX12_followsD_51 rfl ?_
            refine i_getIv (v := gI p9 47 28) S fl_X12_181 (k47 hL10) rfl rfl dX12_followsD_52 ?_
            obtain ⟨p14, e14, h⟩ := bn h
            refine i_callV (As := [.int ((1 : Int32)), .int (gI p9 47 28)]) (st1 := []) S (c_X12_wrongs g (d + 1) hL10 e14) mw_X12_wrongs lk_X12_203 im_X12_wrongs se_X12_wrongs ci_12.1 ci_12.2.1 (k47 hL10) dX12_followsD_55 rfl rfl (Nat.le_of_ble_eq_true rfl) rfl ?_
            refine i_goto (tgt := 2) S dX12_followsD_58 (by decide) ?_
            have hz := hC _ (Option.some.inj h).symm
            exact hz
        · replace h := (if_pos q8).symm.trans h
          refine i_goto (tgt := 2) S dX12_followsD_32 (by decide) ?_
          have hz := hC _ (Option.some.inj h).symm
          exact hz
      replace h := e7
      clear e7
      refine i_icmp_ne (tgt := 26) S dX12_followsD_19 (by decide) (fun q6 => ?_) (fun q6 => ?_)
      · replace h := (if_neg q6).symm.trans h
        refine i_iconst (v := 0) S dX12_followsD_26 ic_0 ?_
        refine i_mask (L1 := [some (rf g 47), none, none]) S [true, false, false] rfl ?_
        have hz := hj7 _ (Option.some.inj h).symm
        exact hz
      · replace h := (if_pos q6).symm.trans h
        refine i_iconst (v := 1) S dX12_followsD_22 ic_1 ?_
        refine i_goto (tgt := 27) S dX12_followsD_23 (by decide) ?_
        refine i_mask (L1 := [some (rf g 47), none, none]) S [true, false, false] rfl ?_
        have hz := hj7 _ (Option.some.inj h).symm
        exact hz
set_option maxHeartbeats 4000000 in
set_option maxRecDepth 100000 in
theorem c_X12_followsD (g : Gx) (d : Nat)  {w : Mm} {p : (Int32 × Mm)} (hL : Lay w) (h : f_X12_followsD w = some p) : Call g (d + 3) yX12_followsD cX12_followsD 3 (some .boolean) [rf g 47] w (some (.int p.1)) p.2 := by
  refine call_of (L0 := [some (rf g 47), none, none]) (by decide) rfl (Nat.le_of_ble_eq_true rfl) (fun V S0 => ?_)
  have S := S0.b
  unfold f_X12_followsD at h
  refine i_iconst (v := 1) S dX12_followsD_0 ic_1 ?_
  refine i_istore_n (L1 := [some (rf g 47), some (.int ((1 : Int32))), none]) S dX12_followsD_1 (by decide) rfl ?_
  obtain ⟨p1, e1, h⟩ := bn h
  have hE1 : V 98 [some (rf g 47), none, none] [] p1 := by
    refine i_aload_n S dX12_followsD_98 rfl ?_
    obtain ⟨hL2, h⟩ := onLn h
    obtain ⟨p3, e3, h⟩ := bn h
    refine i_callV (As := []) (st1 := [.int p3]) S (c_X12_isGood g (d + 1) hL2 e3) mw_X12_isGood lk_X12_190 im_X12_isGood se_X12_isGood ci_12.1 ci_12.2.1 (k47 hL2) dX12_followsD_99 rfl rfl (Nat.le_of_ble_eq_true rfl) rfl ?_
    refine i_if_eq (tgt := 116) S dX12_followsD_102 (by decide) (fun q4 => ?_) (fun q4 => ?_)
    · replace h := (if_pos q4).symm.trans h
      refine i_iconst (v := 0) S dX12_followsD_116 ic_0 ?_
      cases h
      exact i_iret S0 rfl dX12_followsD_117
    · replace h := (if_neg q4).symm.trans h
      refine i_aload_n S dX12_followsD_105 rfl ?_
      refine i_getIv (v := gI p1 47 28) S fl_X12_181 (k47 hL2) rfl rfl dX12_followsD_106 ?_
      refine i_aload_n S dX12_followsD_109 rfl ?_
      refine i_getIv (v := gI p1 47 29) S fl_X12_184 (k47 hL2) rfl rfl dX12_followsD_110 ?_
      refine i_icmp_ne (tgt := 118) S dX12_followsD_113 (by decide) (fun q5 => ?_) (fun q5 => ?_)
      · replace h := (if_neg q5).symm.trans h
        refine i_aload_n S dX12_followsD_118 rfl ?_
        obtain ⟨p6, e6, h⟩ := bn h
        refine i_callV (As := []) (st1 := [.int p6]) S (c_X12_here g (d + 1) hL2 e6) mw_X12_here lk_X12_207 im_X12_here se_X12_here ci_12.1 ci_12.2.1 (k47 hL2) dX12_followsD_119 rfl rfl (Nat.le_of_ble_eq_true rfl) rfl ?_
        refine i_istore_n (L1 := [some (rf g 47), none, some (.int p6)]) S dX12_followsD_122 (by decide) rfl ?_
        refine i_iload_n S dX12_followsD_123 rfl ?_
        refine i_bipush (v := 43) S dX12_followsD_124 bp_43 ?_
        obtain ⟨s8, e8, hm8, ho8⟩ := mgn h
        have hj8 : ∀ p8, s8 = .inl p8 → V 147 [some (rf g 47), none, some (.int p6)] [] p1 := by
          intro p8 ep8
          have h := hm8 p8 ep8
          refine i_aload_n S dX12_followsD_147 rfl ?_
          refine i_iload_n S dX12_followsD_148 rfl ?_
          refine i_bipush (v := 43) S dX12_followsD_149 bp_43 ?_
          obtain ⟨p10, e10, h⟩ := bn h
          have hj10 : ∀ q10, p10 = q10 → V 159 [some (rf g 47), none, some (.int p6)] [.int q10, rf g 47] p1 := by
            intro q10 hq10
            subst hq10
            obtain ⟨p11, e11, h⟩ := bn h
            refine i_callV (As := [.int p10]) (st1 := []) S (c_X12_joinsValues g d hL2 e11) mw_X12_joinsValues lk_X12_453 im_X12_joinsValues se_X12_joinsValues ci_12.1 ci_12.2.1 (k47 hL2) dX12_followsD_159 rfl rfl (Nat.le_of_ble_eq_true rfl) rfl ?_
            refine i_aload_n S dX12_followsD_162 rfl ?_
            obtain ⟨hL12, h⟩ := onLn h
            refine i_getR S fl_X12_75 (k47 hL12) (r47_37 hL12) rfl dX12_followsD_163 ?_
            refine i_aload_n S dX12_followsD_166 rfl ?_
            refine i_getIv (v := gI p11 47 34) S fl_X12_197 (k47 hL12) rfl rfl dX12_followsD_167 ?_
            refine i_iload_n S dX12_followsD_170 rfl ?_
            refine i_bipush (v := 43) S dX12_followsD_171 bp_43 ?_
            obtain ⟨p14, e14, h⟩ := bn h
            have hj14 : ∀ q14, p14 = q14 → V 183 [some (rf g 47), none, some (.int p6)] [.int q14, .int (gI p11 47 34), rf g 68] p11 := by
              intro q14 hq14
              subst hq14
              obtain ⟨hi16, h⟩ := gd h
              refine i_iast S (k68 hL12) hi16 dX12_followsD_183 ?_
              refine i_aload_n S dX12_followsD_184 rfl ?_
              refine i_dup S dX12_followsD_185 rfl ?_
              refine i_getIv (v := gI p11 47 34) S fl_X12_197 (k47 hL12) rfl rfl dX12_followsD_186 ?_
              refine i_iconst (v := 1) S dX12_followsD_189 ic_1 ?_
              refine i_iadd S dX12_followsD_190 ?_
              refine i_putI S fl_X12_197 (k47 hL12) rfl rfl rfl dX12_followsD_191 ?_
              refine i_aload_n S dX12_followsD_194 rfl ?_
              refine i_dup S dX12_followsD_195 rfl ?_
              refine i_getIv (v := gI p11 47 28) S fl_X12_181 (k47 hL12) rfl rfl dX12_followsD_196 ?_
              refine i_iload_n S dX12_followsD_199 rfl ?_
              refine i_bipush (v := 43) S dX12_followsD_200 bp_43 ?_
              obtain ⟨p18, e18, h⟩ := bn h
              have hj18 : ∀ q18, p18 = q18 → V 210 [none, none, none] [.int q18, .int (gI p11 47 28), rf g 47] (sI (sI p11 68 (ix (gI p11 47 34)) p14) 47 34 ((gI p11 47 34) + (1 : Int32))) := by
                intro q18 hq18
                subst hq18
                refine i_iadd S dX12_followsD_210 ?_
                refine i_putI S fl_X12_181 (k47 hL12) rfl rfl rfl dX12_followsD_211 ?_
                refine i_iconst (v := 1) S dX12_followsD_214 ic_1 ?_
                cases h
                exact i_iret S0 rfl dX12_followsD_215
              replace h := e18
              clear e18
              refine i_icmp_ne (tgt := 209) S dX12_followsD_202 (by decide) (fun q17 => ?_) (fun q17 => ?_)
              · replace h := (if_neg q17).symm.trans h
                refine i_iconst (v := 0) S dX12_followsD_209 ic_0 ?_
                refine i_mask (L1 := [none, none, none]) S [false, false, false] rfl ?_
                have hz := hj18 _ (Option.some.inj h).symm
                exact hz
              · replace h := (if_pos q17).symm.trans h
                refine i_iconst (v := 1) S dX12_followsD_205 ic_1 ?_
                refine i_goto (tgt := 210) S dX12_followsD_206 (by decide) ?_
                refine i_mask (L1 := [none, none, none]) S [false, false, false] rfl ?_
                have hz := hj18 _ (Option.some.inj h).symm
                exact hz
            replace h := e14
            clear e14
            refine i_icmp_ne (tgt := 181) S dX12_followsD_173 (by decide) (fun q13 => ?_) (fun q13 => ?_)
            · replace h := (if_neg q13).symm.trans h
              refine i_bipush (v := 42) S dX12_followsD_181 bp_42 ?_
              have hz := hj14 _ (Option.some.inj h).symm
              exact hz
            · replace h := (if_pos q13).symm.trans h
              refine i_bipush (v := 43) S dX12_followsD_176 bp_43 ?_
              refine i_goto (tgt := 183) S dX12_followsD_178 (by decide) ?_
              have hz := hj14 _ (Option.some.inj h).symm
              exact hz
          replace h := e10
          clear e10
          refine i_icmp_ne (tgt := 158) S dX12_followsD_151 (by decide) (fun q9 => ?_) (fun q9 => ?_)
          · replace h := (if_neg q9).symm.trans h
            refine i_iconst (v := 0) S dX12_followsD_158 ic_0 ?_
            have hz := hj10 _ (Option.some.inj h).symm
            exact hz
          · replace h := (if_pos q9).symm.trans h
            refine i_iconst (v := 1) S dX12_followsD_154 ic_1 ?_
            refine i_goto (tgt := 159) S dX12_followsD_155 (by decide) ?_
            have hz := hj10 _ (Option.some.inj h).symm
            exact hz
        replace h := e8
        clear e8
        refine i_icmp_eq (tgt := 147) S dX12_followsD_126 (by decide) (fun q7 => ?_) (fun q7 => ?_)
        · replace h := (if_pos q7).symm.trans h
          have hz := hj8 _ (Option.some.inj h).symm
          exact hz
        · replace h := (if_neg q7).symm.trans h
          refine i_iload_n S dX12_followsD_129 rfl ?_
          refine i_callS (As := [.int p6]) (st1 := [.int (f_X12_startsD p6)]) S (c_X12_startsD g (d + 1) rfl) mw_X12_startsD lk_X12_456 im_X12_startsD dX12_followsD_130 rfl rfl (Nat.le_of_ble_eq_true rfl) rfl ?_
          refine i_if_ne (tgt := 147) S dX12_followsD_133 (by decide) (fun q19 => ?_) (fun q19 => ?_)
          · replace h := (if_neg q19).symm.trans h
            have hz := hj8 _ (Option.some.inj h).symm
            exact hz
          · replace h := (if_pos q19).symm.trans h
            refine i_aload_n S dX12_followsD_136 rfl ?_
            refine i_iconst (v := 1) S dX12_followsD_137 ic_1 ?_
            refine i_aload_n S dX12_followsD_138 rfl ?_
            refine i_getIv (v := gI p1 47 28) S fl_X12_181 (k47 hL2) rfl rfl dX12_followsD_139 ?_
            obtain ⟨p20, e20, h⟩ := bn h
            refine i_callV (As := [.int ((1 : Int32)), .int (gI p1 47 28)]) (st1 := []) S (c_X12_wrongs g (d + 1) hL2 e20) mw_X12_wrongs lk_X12_203 im_X12_wrongs se_X12_wrongs ci_12.1 ci_12.2.1 (k47 hL2) dX12_followsD_142 rfl rfl (Nat.le_of_ble_eq_true rfl) rfl ?_
            refine i_iconst (v := 0) S dX12_followsD_145 ic_0 ?_
            replace h := ho8 _ (Option.some.inj h).symm
            cases h
            exact i_iret S0 rfl dX12_followsD_146
      · replace h := (if_pos q5).symm.trans h
        refine i_iconst (v := 0) S dX12_followsD_116 ic_0 ?_
        cases h
        exact i_iret S0 rfl dX12_followsD_117
  exact wh_V (P := fun sv1 => V 2 [some (rf g 47), some (.int sv1.1), none] [] sv1.2) (E := fun xv1 => V 98 [some (rf g 47), none, none] [] xv1) (fun sv1 ev hb hc he => t_l_X12_followsD_2   S  sv1 ev hb hc he) FUEL _ _ e1 hE1
