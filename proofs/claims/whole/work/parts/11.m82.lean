/-! the class reads NEAR's text: clauses -/
section Nkl
variable {d : Dt} {n : Nat}
theorem ClA.of {w w' : Mm} : ∀ {cl : List Cl} {i : Nat}, ClA w i cl → (∀ k, i ≤ k → k < i + cl.length → gI w' 30 k = gI w 30 k ∧ gI w' 31 k = gI w 31 k ∧ gI w' 32 k = gI w 32 k) → ClA w' i cl
  | [], _, _, _ => trivial
  | x :: t, i, h, e => by
    have e0 := e i (Nat.le_refl _) (by rw [List.length_cons]; omega)
    exact ⟨e0.1.trans h.1, e0.2.1.trans h.2.1, e0.2.2.trans h.2.2.1, ClA.of h.2.2.2 (fun k h1 h2 => e k (by omega) (by rw [List.length_cons]; omega))⟩
theorem cla_app {w : Mm} : ∀ {c c' : List Cl} {i : Nat}, ClA w i c → ClA w (i + c.length) c' → ClA w i (c ++ c')
  | [], _, _, _, h => h
  | x :: t, c', i, h, h' => ⟨h.1, h.2.1, h.2.2.1, cla_app h.2.2.2 (by rw [List.length_cons, show i + (t.length + 1) = i + 1 + t.length by omega] at h'; exact h')⟩
theorem k_pass2 (oT : OkT d) (hn : n ≤ d 0 5) {p b : Nat} {w : Mm} (hp : p ≤ 300) (h : Tx d n p 0 w) (hb0 : b ≠ 0) (hb : b < 256) : Rt (f_X8_pass (nI b) w) (fun w' => fx (fun c k => c = 12 ∧ 2 ≤ k) w w' ∧ ((hh d n p = b ∧ Tx d n (p + 1) 0 w') ∨ (¬ hh d n p = b ∧ Tx d n p (flt 1 p) w'))) := by
  have z := k_pass oT hn (by omega) h hb
  by_cases q : hh d n p = b
  · rw [z.1 (sg_of hb0 q), rt_some]
    exact ⟨fx.sI ⟨rfl, by decide⟩, Or.inl ⟨q, k_stp h⟩⟩
  · rw [z.2 (fun e => q (by unfold hh; rw [e]; rfl)), rt_some]
    exact ⟨fx.sI ⟨rfl, by decide⟩, Or.inr ⟨q, (k_fail h 1).2⟩⟩
def TQ (d : Dt) (n i p : Nat) (K : Cd) (cl : List Cl) (w : Mm) (r : (Int32 × Mm) ⊕ (Nat × Mm)) : Prop := (∃ e p'', ¬ e = 0 ∧ (ncl d n K.length p = .inl e ∨ ∃ p' K' M' x, ncl d n K.length p = .inr (p', K', M', x) ∧ ¬ n ≤ p' ∧ ¬ hh d n p' = 59 ∧ e = flt 1 p') ∧ DdT d n i p'' e w r) ∨ ∃ p' K' M' x w', ncl d n K.length p = .inr (p', K', M', x) ∧ fx wrD w w' ∧ gI w' 27 7 = nI (K ++ K').length ∧ gI w' 27 9 = nI (i + 1) ∧ AtK w' 0 (K ++ K') ∧ ClA w' 0 (cl ++ [x]) ∧ ((n ≤ p' ∧ r = .inr (1, w')) ∨ (¬ n ≤ p' ∧ hh d n p' = 59 ∧ r = .inl (nI (i + 1), w') ∧ Tx d n (p' + 1) 0 w'))
theorem tq_live (oT : OkT d) (hn : n ≤ d 0 5) (hn160 : n ≤ 160) {i p : Nat} {K : Cd} {cl : List Cl} {w : Mm} (hi : i < 12) (hcl : cl.length = i) (hp : p ≤ n) (hK : K.length ≤ p) (hL : Lay w) (h : Tx d n p 0 w) (h7 : gI w 27 7 = nI K.length) (h9 : gI w 27 9 = nI i) (hA : AtK w 0 K) (hC : ClA w 0 cl) : Rt (T1 (nI i) w) (TQ d n i p K cl w) := by
  unfold T1
  rw [rt_onL, rt_bind]
  refine ⟨hL, ?_⟩
  rw [show (107 : Int32) = nI 107 from rfl]
  refine (k_pass2 (b := 107) oT hn (by omega) h (by decide) (by decide)).mono ?_
  rintro w1 ⟨f1, ⟨q1, t1⟩ | ⟨q1, t1⟩⟩
  rotate_left
  · have fD : fx wrD w w1 := f1.sub (fun c k z => Or.inl z)
    rw [rt_onL, rt_bind]
    refine ⟨fD.lay hL, sp_any.mono ?_⟩
    intro w2 f2
    have hne := flt_ne (c := 1) (p := p) (by decide) (by decide) (by omega)
    refine (t2_dead hne (f2.lay (fD.lay hL)) (t1.fe f2)).mono ?_
    intro r hr
    exact Or.inl ⟨_, p, hne, Or.inl (by unfold ncl; rw [if_neg q1]), hr.pre (fD.tr (f2.sub (fun c k z => wrE_D z)))⟩
  have hpn := hh_lt q1 (by decide)
  have fD1 : fx wrD w w1 := f1.sub (fun c k z => Or.inl z)
  have h71 : gI w1 27 7 = nI K.length := (f1.I (by omega)).trans h7
  have h91 : gI w1 27 9 = nI i := (f1.I (by omega)).trans h9
  have esp : f_X4_startPrice 27 w1 = some (sI w1 30 i (nI K.length)) := by
    unfold f_X4_startPrice
    rw [h91, h71, if_neg (nI_pos (by omega)), if_neg (show ¬ (12 : Int32) ≤ nI i from nI_ge (b := 12) hi (by decide)), if_pos (inb_nI hi (by decide)), ix_nI (by omega)]
  rw [rt_onL, esp, Option.bind_some]
  refine ⟨fD1.lay hL, ?_⟩
  have f2 : fx wrE w1 (sI w1 30 i (nI K.length)) := fx.sI (by unfold wrE; omega)
  have fD2 : fx wrD w (sI w1 30 i (nI K.length)) := fD1.tr (f2.sub (fun c k z => wrE_D z))
  have t2 := t1.fe f2
  have e30 : gI (sI w1 30 i (nI K.length)) 30 i = nI K.length := by rw [gI_sI, if_pos ⟨rfl, rfl⟩]
  have c2 : ClA (sI w1 30 i (nI K.length)) 0 cl := hC.of (fun k h1 h2 => ⟨by rw [gI_sI, if_neg (by omega)]; exact f1.I (by omega), f1.I (by omega), f1.I (by omega)⟩)
  have a2 : AtK (sI w1 30 i (nI K.length)) 0 K := hA.of (fun k h1 h2 => ⟨f1.I (by omega), f1.I (by omega)⟩)
  have h72 : gI (sI w1 30 i (nI K.length)) 27 7 = nI K.length := h71
  have h92 : gI (sI w1 30 i (nI K.length)) 27 9 = nI i := h91
  generalize sI w1 30 i (nI K.length) = w2 at *
  clear f1 t1 h71 h91 esp f2 fD1
  have np1 := np_aS (d := d) (n := n) (by omega) 100 2 0 K.length (p + 1) hpn
  unfold T2
  rw [rt_onL, show f_X5_sum (0 : Int32) (0 : Int32) w2 = rcA 100 2 0 w2 from sum_A 0 w2, rt_bind]
  refine ⟨fD2.lay hL, ?_⟩
  refine (k_na oT hn hn160 100 2 0 (by decide) (by decide) (by decide) K.length (p + 1) w2 (by omega) hpn (fD2.lay hL) t2 h72).mono ?_
  intro w3 hw3
  obtain ⟨f3, ⟨e, p1, e1, e2, t3⟩ | ⟨p1, K1, M1, g1, e1, t3, h73, hA3, hB3⟩⟩ := hw3
  · have fD3 := fD2.tr (f3.sub (fun c k z => wrK_D z))
    rw [rt_onL, show (40 : Int32) = nI 40 from rfl, k_passF t3 e2 (by decide), Option.bind_some]
    refine ⟨fD3.lay hL, (t3_dead e2 (fD3.lay hL) t3).mono ?_⟩
    intro r hr
    exact Or.inl ⟨e, p1, e2, Or.inl (by unfold ncl; rw [if_pos q1, e1]), hr.pre fD3⟩
  obtain ⟨b1, b2, b3, b4, b5⟩ := np1.2 p1 K1 M1 g1 e1
  have fD3 := fD2.tr (f3.sub (fun c k z => wrK_D z))
  rw [rt_onL, rt_bind, show (40 : Int32) = nI 40 from rfl]
  refine ⟨fD3.lay hL, ?_⟩
  refine (k_pass2 (b := 40) oT hn (by omega) t3 (by decide) (by decide)).mono ?_
  rintro w4 ⟨f4, ⟨q2, t4⟩ | ⟨q2, t4⟩⟩
  rotate_left
  · have fD4 : fx wrD w w4 := fD3.tr (f4.sub (fun c k z => Or.inl z))
    have hne := flt_ne (c := 1) (p := p1) (by decide) (by decide) (by omega)
    refine (t3_dead hne (fD4.lay hL) t4).mono ?_
    intro r hr
    exact Or.inl ⟨_, p1, hne, Or.inl (by unfold ncl; rw [if_pos q1, e1]; dsimp only; rw [if_neg q2]), hr.pre fD4⟩
  have hpn1 := hh_lt q2 (by decide)
  have fD4 : fx wrD w w4 := fD3.tr (f4.sub (fun c k z => Or.inl z))
  have h74 : gI w4 27 7 = nI (K.length + K1.length) := (f4.I (by omega)).trans h73
  have h94 : gI w4 27 9 = nI i := (f4.I (by omega)).trans ((f3.I (by unfold wrK wrP; omega)).trans h92)
  have k34 : ∀ c k, 30 ≤ c → c ≤ 32 → gI w4 c k = gI w2 c k := fun c k h1 h2 => (f4.I (by omega)).trans (f3.I (by unfold wrK wrP; omega))
  have a4 : AtK w4 0 (K ++ K1) := atk_app (a2.of (fun k h1 h2 => ⟨(f4.I (by omega)).trans (hB3 k (by omega)).1, (f4.I (by omega)).trans (hB3 k (by omega)).2⟩)) (by rw [Nat.zero_add]; exact hA3.of (fun k h1 h2 => ⟨f4.I (by omega), f4.I (by omega)⟩))
  unfold T3
  have esc : f_X4_startCondition 27 w4 = some (sI w4 31 i (nI (K.length + K1.length))) := by
    unfold f_X4_startCondition
    rw [h94, h74, if_neg (nI_pos (by omega)), if_neg (show ¬ (12 : Int32) ≤ nI i from nI_ge (b := 12) hi (by decide)), if_pos (inb_nI hi (by decide)), ix_nI (by omega)]
  rw [rt_onL, esc, Option.bind_some]
  refine ⟨fD4.lay hL, ?_⟩
  have f5 : fx wrE w4 (sI w4 31 i (nI (K.length + K1.length))) := fx.sI (by unfold wrE; omega)
  have fD5 : fx wrD w (sI w4 31 i (nI (K.length + K1.length))) := fD4.tr (f5.sub (fun c k z => wrE_D z))
  have t5 := t4.fe f5
  have x30 : ∀ k, gI (sI w4 31 i (nI (K.length + K1.length))) 30 k = gI w2 30 k := fun k => k34 30 k (by decide) (by decide)
  have x31 : ∀ k, gI (sI w4 31 i (nI (K.length + K1.length))) 31 k = if k = i then nI (K.length + K1.length) else gI w2 31 k := fun k => by
    rw [gI_sI]
    by_cases z : k = i
    · rw [if_pos ⟨rfl, z⟩, if_pos z]
    · rw [if_neg (fun y => z y.2), if_neg z]; exact k34 31 k (by decide) (by decide)
  have x32 : ∀ k, gI (sI w4 31 i (nI (K.length + K1.length))) 32 k = gI w2 32 k := fun k => k34 32 k (by decide) (by decide)
  have a5 : AtK (sI w4 31 i (nI (K.length + K1.length))) 0 (K ++ K1) := a4.of (fun k h1 h2 => ⟨rfl, rfl⟩)
  have h75 : gI (sI w4 31 i (nI (K.length + K1.length))) 27 7 = nI (K.length + K1.length) := h74
  have h95 : gI (sI w4 31 i (nI (K.length + K1.length))) 27 9 = nI i := h94
  generalize sI w4 31 i (nI (K.length + K1.length)) = w5 at *
  clear esc f5 t4 f4 h74 h94 a4 fD4 k34
  have np2 := np_cS (d := d) (n := n) (by omega) 100 2 1 (K.length + K1.length) (p1 + 1) hpn1
  rw [rt_onL, show (1 : Int32) = nI 1 from rfl, cond_C, rt_bind]
  refine ⟨fD5.lay hL, ?_⟩
  refine (k_nc oT hn hn160 100 2 1 (by decide) (by decide) (by decide) (K.length + K1.length) (p1 + 1) w5 (by omega) hpn1 (fD5.lay hL) t5 h75).mono ?_
  intro w6 hw6
  obtain ⟨f6, ⟨e, p2, e3, e2, t6⟩ | ⟨p2, K2, M2, g2, e3, t6, h76, hA6, hB6⟩⟩ := hw6
  · have fD6 := fD5.tr (f6.sub (fun c k z => wrK_D z))
    refine (t4_dead e2 (fD6.lay hL) t6).mono ?_
    intro r hr
    exact Or.inl ⟨e, p2, e2, Or.inl (by unfold ncl; rw [if_pos q1, e1]; dsimp only; rw [if_pos q2, e3]), hr.pre fD6⟩
  obtain ⟨c1, c2', c3, c4, c5⟩ := np2.2 p2 K2 M2 g2 e3
  have fD6 := fD5.tr (f6.sub (fun c k z => wrK_D z))
  unfold T4
  rw [rt_onL, rt_bind, show (41 : Int32) = nI 41 from rfl]
  refine ⟨fD6.lay hL, ?_⟩
  refine (k_pass2 (b := 41) oT hn (by omega) t6 (by decide) (by decide)).mono ?_
  rintro w7 ⟨f7, ⟨q3, t7⟩ | ⟨q3, t7⟩⟩
  rotate_left
  · have fD7 : fx wrD w w7 := fD6.tr (f7.sub (fun c k z => Or.inl z))
    have hne := flt_ne (c := 1) (p := p2) (by decide) (by decide) (by omega)
    rw [rt_onL, rt_bind]
    refine ⟨fD7.lay hL, ec_any.mono ?_⟩
    intro w8 f8
    have t8 := t7.fe f8
    have fD8 := fD7.tr (f8.sub (fun c k z => wrE_D z))
    unfold f_X8_isAtEnd
    rw [rt_onL, t8.2.2.2, if_neg hne, Option.bind_some, if_pos rfl, show (59 : Int32) = nI 59 from rfl, k_passF t8 hne (by decide), Option.bind_some, rt_some, nI_1]
    exact ⟨fD8.lay hL, Or.inl ⟨_, p2, hne, Or.inl (by unfold ncl; rw [if_pos q1, e1]; dsimp only; rw [if_pos q2, e3]; dsimp only; rw [if_neg q3]), w8, rfl, t8, fD8⟩⟩
  have hpn2 := hh_lt q3 (by decide)
  have fD7 : fx wrD w w7 := fD6.tr (f7.sub (fun c k z => Or.inl z))
  have h77 : gI w7 27 7 = nI (K.length + K1.length + K2.length) := (f7.I (by omega)).trans h76
  have h97 : gI w7 27 9 = nI i := (f7.I (by omega)).trans ((f6.I (by unfold wrK wrP; omega)).trans h95)
  have k57 : ∀ c k, 30 ≤ c → c ≤ 32 → gI w7 c k = gI w5 c k := fun c k h1 h2 => (f7.I (by omega)).trans (f6.I (by unfold wrK wrP; omega))
  have hR : ncl d n K.length p = .inr (p2 + 1, K1 ++ K2, M1 ++ M2, (K.length, K.length + K1.length, K.length + K1.length + K2.length, g1, g2)) := by
    unfold ncl
    rw [if_pos q1, e1]
    dsimp only
    rw [if_pos q2, e3]
    dsimp only
    rw [if_pos q3]
  have eec : f_X4_endClause 27 w7 = some (sI (sI w7 32 i (nI (K.length + K1.length + K2.length))) 27 9 (nI (i + 1))) := by
    unfold f_X4_endClause
    rw [show gI (sI w7 (27 + 5) (ix (gI w7 27 9)) (gI w7 27 7)) 27 9 = gI w7 27 9 from rfl, h97, h77, if_neg (nI_pos (by omega)), if_neg (show ¬ (12 : Int32) ≤ nI i from nI_ge (b := 12) hi (by decide)), if_pos (inb_nI hi (by decide)), ix_nI (by omega), nI_1]
  rw [rt_onL, eec, Option.bind_some]
  refine ⟨fD7.lay hL, ?_⟩
  have f8 : fx wrE w7 (sI (sI w7 32 i (nI (K.length + K1.length + K2.length))) 27 9 (nI (i + 1))) := (fx.sI (by unfold wrE; omega)).tr (fx.sI (by unfold wrE; omega))
  have fD8 := fD7.tr (f8.sub (fun c k z => wrE_D z))
  have t8 := t7.fe f8
  have hCl : ClA (sI (sI w7 32 i (nI (K.length + K1.length + K2.length))) 27 9 (nI (i + 1))) 0 (cl ++ [(K.length, K.length + K1.length, K.length + K1.length + K2.length, g1, g2)]) := by
    refine cla_app (c2.of (fun k h1 h2 => ⟨?_, ?_, ?_⟩)) ⟨?_, ?_, ?_, trivial⟩
    · exact (k57 30 k (by decide) (by decide)).trans (x30 k)
    · exact (k57 31 k (by decide) (by decide)).trans ((x31 k).trans (if_neg (by omega)))
    · show gI (sI w7 32 i (nI (K.length + K1.length + K2.length))) 32 k = _
      rw [gI_sI, if_neg (by omega)]
      exact (k57 32 k (by decide) (by decide)).trans (x32 k)
    · rw [Nat.zero_add, hcl]
      exact (k57 30 i (by decide) (by decide)).trans ((x30 i).trans e30)
    · rw [Nat.zero_add, hcl]
      exact (k57 31 i (by decide) (by decide)).trans ((x31 i).trans (if_pos rfl))
    · rw [Nat.zero_add, hcl]
      show gI (sI w7 32 i (nI (K.length + K1.length + K2.length))) 32 i = _
      rw [gI_sI, if_pos ⟨rfl, rfl⟩]
  have hAt : AtK (sI (sI w7 32 i (nI (K.length + K1.length + K2.length))) 27 9 (nI (i + 1))) 0 (K ++ (K1 ++ K2)) := by
    rw [← List.append_assoc]
    refine atk_app (a5.of (fun k h1 h2 => ?_)) ?_
    · rw [List.length_append] at h2
      exact ⟨(f7.I (by omega)).trans (hB6 k (by omega)).1, (f7.I (by omega)).trans (hB6 k (by omega)).2⟩
    · rw [List.length_append, Nat.zero_add]
      exact hA6.of (fun k h1 h2 => ⟨f7.I (by omega), f7.I (by omega)⟩)
  have h78 : gI (sI (sI w7 32 i (nI (K.length + K1.length + K2.length))) 27 9 (nI (i + 1))) 27 7 = nI (K ++ (K1 ++ K2)).length := by
    rw [List.length_append, List.length_append, ← Nat.add_assoc]
    exact h77
  have h98 : gI (sI (sI w7 32 i (nI (K.length + K1.length + K2.length))) 27 9 (nI (i + 1))) 27 9 = nI (i + 1) := rfl
  generalize sI (sI w7 32 i (nI (K.length + K1.length + K2.length))) 27 9 (nI (i + 1)) = w8 at *
  unfold f_X8_isAtEnd
  rw [rt_onL, t8.2.2.2, if_pos rfl, t8.2.2.1, t8.2.1]
  refine ⟨fD8.lay hL, ?_⟩
  by_cases q4 : n ≤ p2 + 1
  · rw [if_neg (nI_nlt q4 (by omega)), Option.bind_some, if_neg (by decide), rt_some]
    exact Or.inr ⟨_, _, _, _, w8, hR, fD8, h78, h98, hAt, hCl, Or.inl ⟨q4, rfl⟩⟩
  · rw [if_pos (nI_lt (by omega) (by omega)), Option.bind_some, if_pos rfl, rt_bind, show (59 : Int32) = nI 59 from rfl]
    refine (k_pass2 (b := 59) oT hn (by omega) t8 (by decide) (by decide)).mono ?_
    rintro w9 ⟨f9, ⟨q5, t9⟩ | ⟨q5, t9⟩⟩
    · rw [rt_some, nI_1]
      refine Or.inr ⟨_, _, _, _, w9, hR, fD8.tr (f9.sub (fun c k z => Or.inl z)), (f9.I (by omega)).trans h78, (f9.I (by omega)).trans h98, hAt.of (fun k h1 h2 => ⟨f9.I (by omega), f9.I (by omega)⟩), hCl.of (fun k h1 h2 => ⟨f9.I (by omega), f9.I (by omega), f9.I (by omega)⟩), Or.inr ⟨q4, q5, rfl, t9⟩⟩
    · rw [rt_some, nI_1]
      have hne := flt_ne (c := 1) (p := p2 + 1) (by decide) (by decide) (by omega)
      exact Or.inl ⟨_, p2 + 1, hne, Or.inr ⟨_, _, _, _, hR, q4, q5, rfl⟩, w9, rfl, t9, fD8.tr (f9.sub (fun c k z => Or.inl z))⟩
/-- what reading leaves -/
def RQ (R : Int32 ⊕ (Cd × Cd × List Cl)) (w : Mm) (r : Nat × Mm) : Prop := fx wrD w r.2 ∧ ((∃ e, R = .inl e ∧ ¬ e = 0 ∧ r.1 = 0 ∧ gI r.2 12 4 = e) ∨ ∃ K M cl, R = .inr (K, M, cl) ∧ r.1 = 1 ∧ gI r.2 27 7 = nI K.length ∧ gI r.2 27 9 = nI cl.length ∧ AtK r.2 0 K ∧ ClA r.2 0 cl)
theorem read_dead {i p N : Nat} {F : Int32} {w : Mm} (hN : 1 ≤ N) (hi : i ≤ 13) (hF : ¬ F = 0) (hL : Lay w) (h : Tx d n p F w) : wh l_X5_read_17 N (nI i, w) = some (0, w) := by
  obtain ⟨N, rfl⟩ : ∃ N', N = N' + 1 := ⟨N - 1, by omega⟩
  apply Rt.eq
  refine rt_step ?_
  rw [read_T]
  dsimp only
  by_cases q : (12 : Int32) < nI i
  · rw [if_pos q, rt_some, nx_r]
  · rw [if_neg q, rt_onL, h.2.2.2, if_neg hF, rt_some, nx_r]
    exact ⟨hL, rfl⟩
theorem k_readL (oT : OkT d) (hn : n ≤ d 0 5) (hn160 : n ≤ 160) {w0 : Mm} : ∀ (k i p : Nat) (K M : Cd) (cl : List Cl) (N : Nat) (w : Mm), i + k = 13 → 1 ≤ k → k + 1 ≤ N → cl.length = i → p ≤ n → K.length ≤ p → Lay w → Tx d n p 0 w → gI w 27 7 = nI K.length → gI w 27 9 = nI i → AtK w 0 K → ClA w 0 cl → fx wrD w0 w → Rt (wh l_X5_read_17 N (nI i, w)) (RQ (nrT d n k i p K M cl) w0)
  | 0, _, _, _, _, _, _, _, _, h1, _, _, _, _, _, _, _, _, _, _, _ => absurd h1 (by decide)
  | k + 1, i, p, K, M, cl, N, w, hik, _, hN, hcl, hp, hK, hL, h, h7, h9, hA, hC, f0 => by
    obtain ⟨N, rfl⟩ : ∃ N', N = N' + 1 := ⟨N - 1, by omega⟩
    refine rt_step ?_
    rw [read_T]
    dsimp only
    rw [if_neg (show ¬ (12 : Int32) < nI i from nI_nlt (a := 12) (by omega) (by decide)), rt_onL, h.2.2.2, if_pos rfl, nrT]
    refine ⟨hL, ?_⟩
    by_cases q1 : i = 12
    · have e12 : nI i = 12 := by rw [q1]; rfl
      rw [if_pos e12, k_sign oT hn (by omega) h, Option.bind_some]
      by_cases q2 : hh d n p = 107
      · have z := k_fail h 4
        have hne := flt_ne (c := 4) (p := p) (by decide) (by decide) (by omega)
        rw [if_pos (show oI (sg d n p) = 107 from (sv_eq (c := 107) oT (by decide) (by decide)).mpr q2), show (4 : Int32) = nI 4 from rfl, z.1, Option.bind_some, Option.bind_some, if_pos ⟨q1, q2⟩]
        refine (t1_dead hne (fx_fl.lay hL) z.2).mono ?_
        rintro r ⟨w', rfl, t, f⟩
        rw [nx_l, read_dead (by omega) (by omega) hne (f.lay (fx_fl.lay hL)) t, rt_some]
        exact ⟨(f0.tr (fx_fl.sub (fun c k z => wrK_D z))).tr f, Or.inl ⟨_, rfl, hne, rfl, t.2.2.2⟩⟩
      · rw [if_neg (show ¬ oI (sg d n p) = 107 from fun z => q2 ((sv_eq (c := 107) oT (by decide) (by decide)).mp z)), Option.bind_some, if_neg (fun z => q2 z.2)]
        have hne := flt_ne (c := 1) (p := p) (by decide) (by decide) (by omega)
        have en : ncl d n K.length p = .inl (flt 1 p) := by unfold ncl; rw [if_neg q2]
        rw [en]
        dsimp only
        unfold T1
        rw [rt_onL, rt_bind, show (107 : Int32) = nI 107 from rfl]
        refine ⟨hL, (k_pass2 (b := 107) oT hn (by omega) h (by decide) (by decide)).mono ?_⟩
        rintro w1 ⟨f1, ⟨q3, t1⟩ | ⟨q3, t1⟩⟩
        · exact absurd q3 q2
        · have fD : fx wrD w w1 := f1.sub (fun c k z => Or.inl z)
          rw [rt_onL, rt_bind]
          refine ⟨fD.lay hL, sp_any.mono ?_⟩
          intro w2 f2
          refine (t2_dead hne (f2.lay (fD.lay hL)) (t1.fe f2)).mono ?_
          rintro r ⟨w', rfl, t, f⟩
          have fA := (fD.tr (f2.sub (fun c k z => wrE_D z))).tr f
          rw [nx_l, read_dead (by omega) (by omega) hne (fA.lay hL) t, rt_some]
          exact ⟨f0.tr fA, Or.inl ⟨_, rfl, hne, rfl, t.2.2.2⟩⟩
    · rw [if_neg (fun z => q1 ((nI_eq (by omega) (by decide)).mp (z.trans (show (12 : Int32) = nI 12 from rfl)))), Option.bind_some, if_neg (fun z => q1 z.1)]
      refine (tq_live oT hn hn160 (by omega) hcl hp hK hL h h7 h9 hA hC).mono ?_
      rintro r (⟨e, p'', hne, hR, w', rfl, t, f⟩ | ⟨p', K', M', x, w', hR, f, g7, g9, gA, gC, hr⟩)
      · rw [nx_l, read_dead (by omega) (by omega) hne (f.lay hL) t, rt_some]
        refine ⟨f0.tr f, Or.inl ⟨e, ?_, hne, rfl, t.2.2.2⟩⟩
        rcases hR with hR | ⟨p', K', M', x, hR, z1, z2, z3⟩
        · rw [hR]
        · rw [hR]
          dsimp only
          rw [if_neg z1, if_neg z2, z3]
      · rw [hR]
        dsimp only
        obtain ⟨c1, c2, c3, c4⟩ := (np_cl (d := d) (n := n) (s := K.length) (by omega) hp).2 p' K' M' x hR
        rcases hr with ⟨z1, rfl⟩ | ⟨z1, z2, rfl, t⟩
        · rw [nx_r, if_pos z1]
          exact ⟨f0.tr f, Or.inr ⟨_, _, _, rfl, rfl, g7, by rw [List.length_append, List.length_cons, List.length_nil, hcl]; exact g9, gA, gC⟩⟩
        · rw [nx_l, if_neg z1, if_pos z2]
          exact k_readL oT hn hn160 k (i + 1) (p' + 1) _ _ _ N w' (by omega) (by omega) (by omega) (by rw [List.length_append, List.length_cons, List.length_nil, hcl]) (by omega) (by rw [List.length_append]; omega) (f.lay hL) t g7 g9 gA gC (f0.tr f)
end Nkl
