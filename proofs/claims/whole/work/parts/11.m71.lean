/-! the reference's LAW and both -/
section Mlf
variable {d : Dt} {C : Ct} {n : Nat} {w w' : Mm}
theorem m_z46 {x : Int32} (hL : Lay w) : Rt (wh (l_X12_law_46 x) FUEL ((0 : Int32), w)) (fun w' => fx (fun c _ => c = 83) w w' ∧ ∀ k, k < 10 → gI w' 83 k = nI 0) := by
  refine rt_for (fun k (s : Int32 × Mm) => s.1 = nI k ∧ fx (fun c _ => c = 83) w s.2 ∧ ∀ j, j < k → gI s.2 83 j = nI 0) 10 ?_ ?_ ⟨rfl, fx.rf, fun j hj => absurd hj (Nat.not_lt_zero j)⟩ (by decide)
  · rintro k ⟨s1, s2⟩ hk ⟨e1, e2, e3⟩
    dsimp only at e1 e2 e3
    subst e1
    unfold l_X12_law_46
    dsimp only
    rw [if_neg (show ¬ (10 : Int32) ≤ nI k from nI_ge (b := 10) hk (by decide)), rt_onL, if_pos (inb_nI hk (by decide)), rt_some, nx_l, ix_nI (by omega)]
    refine ⟨e2.lay hL, nI_1 k, e2.tr (fx.sI rfl), fun j hj => ?_⟩
    dsimp only
    rw [gI_sI]
    by_cases z : j = k
    · rw [if_pos ⟨rfl, z⟩]; rfl
    · rw [if_neg (fun y => z y.2)]; exact e3 j (by omega)
  · rintro ⟨s1, s2⟩ ⟨e1, e2, e3⟩
    dsimp only at e1 e2 e3
    subst e1
    unfold l_X12_law_46
    dsimp only
    rw [if_pos (show (10 : Int32) ≤ nI 10 from nI_le (Nat.le_refl 10) (by decide)), rt_some, nx_r]
    exact ⟨e2, e3⟩
theorem m_z67 {x : Int32} (hL : Lay w) : Rt (wh (l_X12_law_67 x) FUEL ((0 : Int32), w)) (fun w' => fx (fun c _ => c = 84) w w' ∧ ∀ k, k < 4 → gI w' 84 k = nI 0) := by
  refine rt_for (fun k (s : Int32 × Mm) => s.1 = nI k ∧ fx (fun c _ => c = 84) w s.2 ∧ ∀ j, j < k → gI s.2 84 j = nI 0) 4 ?_ ?_ ⟨rfl, fx.rf, fun j hj => absurd hj (Nat.not_lt_zero j)⟩ (by decide)
  · rintro k ⟨s1, s2⟩ hk ⟨e1, e2, e3⟩
    dsimp only at e1 e2 e3
    subst e1
    unfold l_X12_law_67
    dsimp only
    rw [if_neg (show ¬ (4 : Int32) ≤ nI k from nI_ge (b := 4) hk (by decide)), rt_onL, if_pos (inb_nI hk (by decide)), rt_some, nx_l, ix_nI (by omega)]
    refine ⟨e2.lay hL, nI_1 k, e2.tr (fx.sI rfl), fun j hj => ?_⟩
    dsimp only
    rw [gI_sI]
    by_cases z : j = k
    · rw [if_pos ⟨rfl, z⟩]; rfl
    · rw [if_neg (fun y => z y.2)]; exact e3 j (by omega)
  · rintro ⟨s1, s2⟩ ⟨e1, e2, e3⟩
    dsimp only at e1 e2 e3
    subst e1
    unfold l_X12_law_67
    dsimp only
    rw [if_pos (show (4 : Int32) ≤ nI 4 from nI_le (Nat.le_refl 4) (by decide)), rt_some, nx_r]
    exact ⟨e2, e3⟩
theorem m_c194 {i : Nat} (hi : i < 4) (hL : Lay w) : Rt (wh (l_X12_law_194 (nI i)) FUEL ((0 : Int32), w)) (fun w' => fx (fun c _ => c = 81) w w' ∧ ∀ k, k < 40 → gI w' 81 k = if k / 10 = i then gI w 83 (k % 10) else gI w 81 k) := by
  refine rt_for (fun k (s : Int32 × Mm) => s.1 = nI k ∧ fx (fun c _ => c = 81) w s.2 ∧ ∀ j, j < 40 → gI s.2 81 j = if j / 10 = i ∧ j % 10 < k then gI w 83 (j % 10) else gI w 81 j) 10 ?_ ?_ ⟨rfl, fx.rf, fun j hj => by rw [if_neg (by omega)]⟩ (by decide)
  · rintro k ⟨s1, s2⟩ hk ⟨e1, e2, e3⟩
    dsimp only at e1 e2 e3
    subst e1
    unfold l_X12_law_194
    dsimp only
    rw [if_neg (show ¬ (10 : Int32) ≤ nI k from nI_ge (b := 10) hk (by decide)), rt_onL, if_pos (inb_nI hk (by decide)), show (10 : Int32) * nI i = nI (10 * i) from pk_mul 10 i, nI_add, if_pos (inb_nI (by omega) (by decide)), rt_some, nx_l, ix_nI (by omega), ix_nI (by omega)]
    refine ⟨e2.lay hL, nI_1 k, e2.tr (fx.sI rfl), fun j hj => ?_⟩
    dsimp only
    rw [gI_sI, e2.I (by omega)]
    by_cases z : j = 10 * i + k
    · rw [if_pos ⟨rfl, z⟩, if_pos (by omega), show j % 10 = k by omega]
    · rw [if_neg (fun y => z y.2), e3 j hj]
      by_cases y : j / 10 = i ∧ j % 10 < k
      · rw [if_pos y, if_pos (by omega)]
      · rw [if_neg y, if_neg (by omega)]
  · rintro ⟨s1, s2⟩ ⟨e1, e2, e3⟩
    dsimp only at e1 e2 e3
    subst e1
    unfold l_X12_law_194
    dsimp only
    rw [if_pos (show (10 : Int32) ≤ nI 10 from nI_le (Nat.le_refl 10) (by decide)), rt_some, nx_r]
    refine ⟨e2, fun k hk => ?_⟩
    rw [e3 k hk]
    by_cases y : k / 10 = i
    · rw [if_pos y, if_pos (by omega)]
    · rw [if_neg y, if_neg (by omega)]
theorem m_c229 {i : Nat} (hi : i < 4) (hL : Lay w) : Rt (wh (l_X12_law_229 (nI i)) FUEL ((0 : Int32), w)) (fun w' => fx (fun c _ => c = 82) w w' ∧ ∀ k, k < 16 → gI w' 82 k = if k / 4 = i then gI w 84 (k % 4) else gI w 82 k) := by
  refine rt_for (fun k (s : Int32 × Mm) => s.1 = nI k ∧ fx (fun c _ => c = 82) w s.2 ∧ ∀ j, j < 16 → gI s.2 82 j = if j / 4 = i ∧ j % 4 < k then gI w 84 (j % 4) else gI w 82 j) 4 ?_ ?_ ⟨rfl, fx.rf, fun j hj => by rw [if_neg (by omega)]⟩ (by decide)
  · rintro k ⟨s1, s2⟩ hk ⟨e1, e2, e3⟩
    dsimp only at e1 e2 e3
    subst e1
    unfold l_X12_law_229
    dsimp only
    rw [if_neg (show ¬ (4 : Int32) ≤ nI k from nI_ge (b := 4) hk (by decide)), rt_onL, if_pos (inb_nI hk (by decide)), show (4 : Int32) * nI i = nI (4 * i) from pk_mul 4 i, nI_add, if_pos (inb_nI (by omega) (by decide)), rt_some, nx_l, ix_nI (by omega), ix_nI (by omega)]
    refine ⟨e2.lay hL, nI_1 k, e2.tr (fx.sI rfl), fun j hj => ?_⟩
    dsimp only
    rw [gI_sI, e2.I (by omega)]
    by_cases z : j = 4 * i + k
    · rw [if_pos ⟨rfl, z⟩, if_pos (by omega), show j % 4 = k by omega]
    · rw [if_neg (fun y => z y.2), e3 j hj]
      by_cases y : j / 4 = i ∧ j % 4 < k
      · rw [if_pos y, if_pos (by omega)]
      · rw [if_neg y, if_neg (by omega)]
  · rintro ⟨s1, s2⟩ ⟨e1, e2, e3⟩
    dsimp only at e1 e2 e3
    subst e1
    unfold l_X12_law_229
    dsimp only
    rw [if_pos (show (4 : Int32) ≤ nI 4 from nI_le (Nat.le_refl 4) (by decide)), rt_some, nx_r]
    refine ⟨e2, fun k hk => ?_⟩
    rw [e3 k hk]
    by_cases y : k / 4 = i
    · rw [if_pos y, if_pos (by omega)]
    · rw [if_neg y, if_neg (by omega)]
/-- the LAW is told -/
theorem MT.lwtold {i m : Nat} {c q : Nat → Nat} (h : MT d C w) (f : fx (fun c k => wrZ c k ∨ (79 ≤ c ∧ c ≤ 82)) w w') (hi : i < 4) (h1 : gI w' 47 1 = 0) (h79 : ∀ k, gI w' 79 k = if k = i then 1 else gI w 79 k) (h80 : ∀ k, gI w' 80 k = if k = i then nI m else gI w 80 k) (h81 : ∀ k, k < 40 → gI w' 81 k = if k / 10 = i then nI (c (k % 10)) else gI w 81 k) (h82 : ∀ k, k < 16 → gI w' 82 k = if k / 4 = i then nI (q (k % 4)) else gI w 82 k) : MT (lwd (wip d) i m c q) C w' ∧ zF w w' := by
  have hz : ∀ c k, wrZ c k ∨ (79 ≤ c ∧ c ≤ 82) → scr c k := fun c k z => by
    rcases z with z | z
    · exact wrZ_s z
    · unfold scr; omega
  refine ⟨⟨lwd_q.M h.1 (f.sub hz), ⟨by rw [h1, lwd_o (by omega), wip_5]; rfl, fun k hk => by rw [lwd_o (by omega), wip_5] at hk; omega⟩, fun j hj => ?_⟩, f.sub (fun c k z => by have := hz c k z; unfold scr at this; unfold inM; omega)⟩
  have z := h.2.2 j hj
  rw [lwd_11, lwd_12, h79, h80, wip_o.1 11 (by omega) (by omega), wip_o.1 12 (by omega) (by omega)]
  by_cases e : j = i
  · rw [if_pos e, if_pos e, if_pos e, if_pos e]
    refine ⟨rfl, rfl, fun k hk => ?_, fun k hk => ?_⟩
    · rw [h81 _ (by omega), lwd_13 hk, if_pos e, if_pos (by omega), show (10 * j + k) % 10 = k by omega]
    · rw [h82 _ (by omega), lwd_14 hk, if_pos e, if_pos (by omega), show (4 * j + k) % 4 = k by omega]
  · rw [if_neg e, if_neg e, if_neg e, if_neg e]
    refine ⟨z.1, z.2.1, fun k hk => ?_, fun k hk => ?_⟩
    · rw [h81 _ (by omega), lwd_13 hk, if_neg e, if_neg (by omega), wip_o.1 13 (by omega) (by omega)]; exact z.2.2.1 k hk
    · rw [h82 _ (by omega), lwd_14 hk, if_neg e, if_neg (by omega), wip_o.1 14 (by omega) (by omega)]; exact z.2.2.2 k hk
theorem m_law {i : Nat} (o : Ok d C) (oT : OkT d) (h : MT d C w) (hi : i < 4) (hn1 : 1 ≤ n) (hn60 : n ≤ 60) (hn : n ≤ d 0 5) : Rt (f_X12_law (nI i) (nI n) w) (fun r => zF w r.2 ∧ ((∃ e, lawR d n = .inl e ∧ r.1 = e ∧ MT (wip d) C r.2) ∨ ∃ m c q, lawR d n = .inr (m, c, q) ∧ r.1 = nI m ∧ MT (lwd (wip d) i m c q) C r.2)) := by
  have o5 := oT.1
  unfold f_X12_law f_X12_begins
  rw [lies_lit (nI i) 0 3 (by decide) (by decide), lies_lit (nI n) 1 60 (by decide) (by decide), if_neg (show ¬ f_X11_within (nI i) 0 3 = 0 from (within_iffN (a := 0) (b := 3) (by decide) (by decide)).mpr ⟨i, by omega, by omega, rfl⟩), if_neg (show ¬ f_X11_within (nI n) 1 60 = 0 from (within_iffN (a := 1) (b := 60) (by decide) (by decide)).mpr ⟨n, by omega, by omega, rfl⟩), h.2.1.1, if_pos (nI_le hn (by omega)), Option.bind_some, rt_onL]
  have f1 : fx wrZ w (sI (sI (sI (sI (sI (sI w 47 1 (0 : Int32)) 47 28 (0 : Int32)) 47 29 (nI n)) 47 30 (0 : Int32)) 47 34 (0 : Int32)) 47 33 (0 : Int32)) := (((((fx.sI (by unfold wrZ wrN; omega)).tr (fx.sI (by unfold wrZ wrN; omega))).tr (fx.sI (by unfold wrZ wrN; omega))).tr (fx.sI (by unfold wrZ wrN; omega))).tr (fx.sI (by unfold wrZ wrN; omega))).tr (fx.sI (by unfold wrZ wrN; omega))
  refine ⟨f1.lay h.1.1, ?_⟩
  have f2 : fx wrZ w (sI (sI (sI (sI (sI (sI (sI w 47 1 (0 : Int32)) 47 28 (0 : Int32)) 47 29 (nI n)) 47 30 (0 : Int32)) 47 34 (0 : Int32)) 47 33 (0 : Int32)) 47 62 0) := f1.tr (fx.sI (by unfold wrZ wrN; omega))
  generalize hw2 : (sI (sI (sI (sI (sI (sI (sI w 47 1 (0 : Int32)) 47 28 (0 : Int32)) 47 29 (nI n)) 47 30 (0 : Int32)) 47 34 (0 : Int32)) 47 33 (0 : Int32)) 47 62 0) = w2 at f2
  have d2 : gI w2 47 1 = 0 ∧ gI w2 47 28 = nI 0 ∧ gI w2 47 29 = nI n ∧ gI w2 47 30 = 0 ∧ gI w2 47 34 = nI 0 ∧ gI w2 47 33 = nI 0 ∧ gI w2 47 62 = nI 0 := by
    rw [← hw2]
    exact ⟨rfl, rfl, rfl, rfl, rfl, rfl, rfl⟩
  clear hw2 f1
  rw [rt_bind]
  refine (m_z46 (f2.lay h.1.1)).mono ?_
  rintro w3 ⟨f3, z3⟩
  rw [rt_bind]
  refine (m_z67 (f3.lay (f2.lay h.1.1))).mono ?_
  rintro w4 ⟨f4, z4⟩
  have f34 : fx (fun c _ => c = 83 ∨ c = 84) w2 w4 := (f3.sub (fun c k z => Or.inl z)).tr (f4.sub (fun c k z => Or.inr z))
  have f5 : fx wrZ w w4 := f2.tr (f34.sub (fun c k z => by unfold wrZ wrN; omega))
  have s4 : LSt d n w4 := by
    refine ⟨f5.lay h.1.1, fun k hk => (f5.I (by unfold wrZ wrN; omega)).trans (h.2.1.2 k (by omega)), (f34.I (by omega)).trans d2.2.2.1, (f5.I (by unfold wrZ wrN; omega)).trans h.1.2.1.1, (f5.I (by unfold wrZ wrN; omega)).trans h.1.2.1.2.1, (f5.I (by unfold wrZ wrN; omega)).trans h.1.2.1.2.2.1, fun k hk => ?_⟩
    obtain ⟨a1, a2, a3, a4⟩ := h.1.2.1.2.2.2 k hk
    exact ⟨(f5.I (by unfold wrZ wrN; omega)).trans a1, (f5.I (by unfold wrZ wrN; omega)).trans a2, (f5.I (by unfold wrZ wrN; omega)).trans a3, (f5.I (by unfold wrZ wrN; omega)).trans a4⟩
  have l4 : LD 0 [] [] (fun _ => 0) (fun _ => 0) w4 := ⟨(f34.I (by omega)).trans d2.2.1, (f34.I (by omega)).trans d2.2.2.2.1, (f34.I (by omega)).trans d2.2.2.2.2.2.1, (f34.I (by omega)).trans d2.2.2.2.2.1, trivial, (f34.I (by omega)).trans d2.2.2.2.2.2.2, trivial, fun k hk => (f4.I (by omega)).trans (z3 k hk), z4⟩
  have t4 : gI w4 47 1 = 0 := (f34.I (by omega)).trans d2.1
  rw [rt_bind]
  refine (m_lawloop o.1 oT hn60 s4 l4).mono ?_
  rintro w5 ⟨f6, hq⟩
  have f7 : fx wrZ w w5 := f5.tr (f6.sub (fun c k z => wrN_z z))
  have t5 : gI w5 47 1 = 0 := (f6.I (by unfold wrN; omega)).trans t4
  rw [rt_onL]
  refine ⟨f7.lay h.1.1, ?_⟩
  rcases hq with ⟨e, e1, e2, e3⟩ | ⟨S, V, c, j, g, g1, g2, g3, g4⟩
  · have ne : ¬ gI w5 47 30 = 0 := by rw [e3]; exact fun z => by rw [z] at e2; exact absurd e2 (by decide)
    rw [ig_0 ne, Option.bind_some, if_pos rfl, Option.bind_some, rt_onL, ig_0 ne, Option.bind_some, if_pos rfl, Option.bind_some, rt_onL, if_neg (by rw [e3]; exact fun z => (fa_of_lt e2).2.1 z), rt_some]
    have k := h.lwbad f7 t5
    exact ⟨f7.lay h.1.1, f7.lay h.1.1, k.2, Or.inl ⟨e, e1, e3, k.1⟩⟩
  · rw [ig_1 g.2.1, Option.bind_some, if_neg (by decide), rt_bind, rt_bind]
    unfold f_X12_joinsValues
    rw [rt_bind]
    have hj := jvf_ok true S V j g1
    refine (m_jv true d n S V j w5 FUEL (by unfold FUEL; omega) g1 (by omega) (by omega) (s4.fx f6) g).mono ?_
    rintro w6 ⟨f8, l6⟩
    generalize jvf true S V j = J at *
    obtain ⟨S1, V1, j1⟩ := J
    dsimp only at *
    have s6 := (s4.fx f6).fx f8
    have f9 : fx wrZ w w6 := f7.tr (f8.sub (fun c k z => wrN_z z))
    have t6 : gI w6 47 1 = 0 := (f8.I (by unfold wrN; omega)).trans t5
    rw [rt_some, rt_some, rt_onL, ig_1 l6.2.1, Option.bind_some, if_neg (by decide), l6.2.2.2.1]
    refine ⟨s6.1, ?_⟩
    by_cases q : S1 = []
    · subst q
      rw [if_pos rfl] at g4
      rw [if_pos (show nI ([] : List Nat).length ≤ 0 by decide), Option.bind_some, rt_onL, l6.2.1, if_pos (by decide), if_pos (inb_nI hi (by decide)), ix_nI (by omega), show ix (0 : Int32) = 0 from rfl, nar_1, rt_bind]
      refine ⟨s6.1, ?_⟩
      match V1, hj, l6, g4 with
      | [m], hj, l6, g4 =>
        have v0 : gI w6 85 0 = nI m := l6.2.2.2.2.2.2.1.1
        have f10 : fx (fun c _ => c = 79 ∨ c = 80) w6 (sI (sI w6 79 i 1) 80 i (gI w6 85 0)) := (fx.sI (by omega)).tr (fx.sI (by omega))
        have e79 : ∀ k, gI (sI (sI w6 79 i 1) 80 i (gI w6 85 0)) 79 k = if k = i then 1 else gI w6 79 k := fun k => by
          show gI (sI w6 79 i 1) 79 k = _
          rw [gI_sI]
          simp
        have e80 : ∀ k, gI (sI (sI w6 79 i 1) 80 i (gI w6 85 0)) 80 k = if k = i then nI m else gI w6 80 k := fun k => by
          rw [gI_sI, v0, show gI (sI w6 79 i 1) 80 k = gI w6 80 k from rfl]
          simp
        generalize (sI (sI w6 79 i 1) 80 i (gI w6 85 0)) = w7 at *
        refine (m_c194 hi (f10.lay s6.1)).mono ?_
        rintro w8 ⟨f11, z8⟩
        rw [rt_bind]
        refine (m_c229 hi (f11.lay (f10.lay s6.1))).mono ?_
        rintro w9 ⟨f12, z9⟩
        have fA : fx (fun c _ => 79 ≤ c ∧ c ≤ 82) w6 w9 := ((f10.sub (fun c k z => by omega)).tr (f11.sub (fun c k z => by omega))).tr (f12.sub (fun c k z => by omega))
        have fB : fx (fun c k => wrZ c k ∨ (79 ≤ c ∧ c ≤ 82)) w w9 := (f9.sub (fun c k z => Or.inl z)).tr (fA.sub (fun c k z => Or.inr z))
        have k := h.lwtold (w' := w9) (m := m) (c := c) (q := j1) fB hi ((fA.I (by omega)).trans t6) (fun k => by rw [f12.I (by omega), f11.I (by omega), e79 k, f9.I (by unfold wrZ wrN; omega)]) (fun k => by rw [f12.I (by omega), f11.I (by omega), e80 k, f9.I (by unfold wrZ wrN; omega)]) (fun k hk => by rw [f12.I (by omega), z8 k hk, f10.I (by omega), f10.I (by omega), l6.2.2.2.2.2.2.2.1 _ (by omega), f9.I (by unfold wrZ wrN; omega)]) (fun k hk => by rw [z9 k hk, f11.I (by omega), f11.I (by omega), f10.I (by omega), f10.I (by omega), l6.2.2.2.2.2.2.2.2 _ (by omega), f9.I (by unfold wrZ wrN; omega)])
        rw [rt_onL, rt_some]
        refine ⟨fA.lay s6.1, k.2, Or.inr ⟨m, c, j1, g4, ?_, k.1⟩⟩
        dsimp only
        rw [f12.I (by omega), f11.I (by omega), e80 i, if_pos rfl]
    · rw [if_neg q] at g4
      have hne := flt_ne (c := 1) (p := n) (by decide) (by decide) (by omega)
      have hlt := flt_neg 1 (by decide) (by decide) n (by omega)
      have hl : 0 < S1.length := List.length_pos_iff.mpr q
      rw [if_neg (nI_nle hl (by omega)), l6.1, show (1 : Int32) = nI 1 from rfl, m_wrongs (s6.mx l6) 1, Option.bind_some, Option.bind_some, rt_onL, show gI (sI w6 47 30 (flt 1 n)) 47 30 = flt 1 n from rfl, if_neg (fun z => (fa_of_lt hlt).2.1 z), rt_some]
      have fA : fx wrZ w (sI w6 47 30 (flt 1 n)) := f9.tr (fx.sI (by unfold wrZ wrN; omega))
      have k := h.lwbad fA t6
      exact ⟨fA.lay h.1.1, k.2, Or.inl ⟨_, g4, rfl, k.1⟩⟩
theorem st_law (o : Ok d C) (oT : OkT d) (x y : Int32) : StpB d C (f_X11_law x y) (f_X12_law x y) := by
  have o5 := oT.1
  by_cases c1 : f_X11_within x 0 3 = 0
  · exact stay o oT (-1) (fun w _ => by unfold f_X11_law; rw [if_pos c1]) (fun w _ => by unfold f_X12_law; rw [lies_lit x 0 3 (by decide) (by decide), if_pos c1])
  obtain ⟨i, i1, i2, rfl⟩ := (within_iffN (a := 0) (b := 3) (by decide) (by decide)).mp c1
  by_cases c2 : f_X11_within y 1 60 = 0
  · exact stay o oT (-1) (fun w _ => by unfold f_X11_law; rw [if_neg c1, if_pos c2]) (fun w _ => by unfold f_X12_law; rw [lies_lit (nI i) 0 3 (by decide) (by decide), if_neg c1, lies_lit y 1 60 (by decide) (by decide), if_pos c2])
  obtain ⟨n, n1, n2, rfl⟩ := (within_iffN (a := 1) (b := 60) (by decide) (by decide)).mp c2
  by_cases c3 : n ≤ d 0 5
  · have hc := lp_S (d := d) (n := n) (by omega) 100 1 0 0 (Nat.zero_le _)
    cases hR : lawR d n with
    | inl e =>
      refine ⟨e, wip d, C, wip_o.O o, wip_T oT, by rw [wip_o.2 7 (by omega)]; omega, fun w h => (k_law o oT h (by omega) n1 n2 c3).mono ?_, fun w h => (m_law o oT h (by omega) n1 n2 c3).mono ?_⟩
      · rintro r ⟨f, ⟨e', q1, q2, q3, q4⟩ | ⟨m, c, q, q1, q2⟩⟩
        · rw [hR] at q1; cases q1; exact ⟨q3, q4, f⟩
        · rw [hR] at q1; cases q1
      · rintro r ⟨f, ⟨e', q1, q3, q4⟩ | ⟨m, c, q, q1, q2⟩⟩
        · rw [hR] at q1; cases q1; exact ⟨q3, q4, f⟩
        · rw [hR] at q1; cases q1
    | inr r =>
      obtain ⟨m, c, q⟩ := r
      have hcc : ∀ k, c k ≤ 300 ∧ (d 0 0 ≤ k → c k = 0) := by
        unfold lawR at hR
        cases e : lwS d n 100 1 0 0 with
        | inl e' => rw [e] at hR; cases hR
        | inr r2 =>
          obtain ⟨p1, m1, c1, q1⟩ := r2
          rw [e] at hR hc
          dsimp only at hR
          split at hR
          · cases hR
            obtain ⟨a1, a2, a3, a4⟩ := hc.2 p1 m c q rfl
            exact fun k => ⟨by have := a3 k; omega, a4 k⟩
          · cases hR
      have hm : m < 64 := by
        unfold lawR at hR
        cases e : lwS d n 100 1 0 0 with
        | inl e' => rw [e] at hR; cases hR
        | inr r2 =>
          obtain ⟨p1, m1, c1, q1⟩ := r2
          rw [e] at hR
          dsimp only at hR
          split at hR
          · cases hR
            exact lm_S o.1 100 1 0 0 p1 m c q e
          · cases hR
      have ok := lwd_ok (i := i) (m := m) (c := c) (q := q) (wip_o.O o) (wip_T oT) hm (fun k => by rw [wip_o.2 0 (by omega)]; exact hcc k)
      refine ⟨nI m, lwd (wip d) i m c q, C, ok.1, ok.2, by rw [lwd_o (by omega), wip_o.2 7 (by omega)]; omega, fun w h => (k_law o oT h (by omega) n1 n2 c3).mono ?_, fun w h => (m_law o oT h (by omega) n1 n2 c3).mono ?_⟩
      · rintro r ⟨f, ⟨e', q1, q2, q3, q4⟩ | ⟨m, c, q, q1, q2, q3, q4⟩⟩
        · rw [hR] at q1; cases q1
        · rw [hR] at q1; cases q1; exact ⟨q3, q4, f⟩
      · rintro r ⟨f, ⟨e', q1, q2⟩ | ⟨m, c, q, q1, q3, q4⟩⟩
        · rw [hR] at q1; cases q1
        · rw [hR] at q1; cases q1; exact ⟨q3, q4, f⟩
  · exact stay o oT (-1) (fun w h => by unfold f_X11_law; rw [if_neg c1, if_neg c2, h.2.1.1, if_neg (nI_ge (by omega) (by omega))]) (fun w h => by unfold f_X12_law; rw [lies_lit (nI i) 0 3 (by decide) (by decide), if_neg c1, lies_lit (nI n) 1 60 (by decide) (by decide), if_neg c2, h.2.1.1, if_neg (nI_ge (by omega) (by omega))])
end Mlf
