/-! what a LAW is -/
section Lwi
variable {d d' : Dt} {C : Ct} {w w' : Mm}
theorem rl_of (hL : Lay w) {k : Nat} (hk : k < 4) : gR w 35 k = some (36 + k) ∧ isRl (36 + k) = true := by
  rcases (by omega : k = 0 ∨ k = 1 ∨ k = 2 ∨ k = 3) with rfl | rfl | rfl | rfl
  · exact ⟨r35_0 hL, rfl⟩
  · exact ⟨r35_1 hL, rfl⟩
  · exact ⟨r35_2 hL, rfl⟩
  · exact ⟨r35_3 hL, rfl⟩
/-- the LENGTH of a LAW written in full -/
noncomputable def lwl (d : Dt) (i : Nat) : Nat := fb_sm (fun k => d 13 (10 * i + k) * d 3 k) 10 + fb_sm (fun j => d 14 (4 * i + (j + 1)) * jl d (j + 1) (2 ^ d 0 0 - 1)) 3
theorem k_full (o : Ok d C) (h : KT d C w) {i : Nat} (hi : i < 4) : f_X6_fullLength (36 + i) w = some (nI (lwl d i)) := by
  have z := h.2.2 i hi
  have ha : 2 ^ d 0 0 - 1 < 2 ^ d 0 0 := by have := @Nat.one_le_two_pow (d 0 0); omega
  unfold f_X6_fullLength
  rw [x3_all o.1 h.1.2.1, Option.bind_some, show (1 : Int32) = nI 1 from rfl, show (2 : Int32) = nI 2 from rfl, show (3 : Int32) = nI 3 from rfl, x3_joinLength o.1 h.1.2.1 (by decide) ha, Option.bind_some, x3_joinLength o.1 h.1.2.1 (by decide) ha, Option.bind_some, x3_joinLength o.1 h.1.2.1 (by decide) ha, Option.bind_some, z.2.2.2.1, z.2.2.2.2.1, z.2.2.2.2.2.1, z.2.2.2.2.2.2, pk_mul, pk_mul, pk_mul, nI_add, nI_add, nI_add]
  refine congrArg (fun q => some (nI q)) ?_
  unfold lwl
  generalize fb_sm (fun k => d 13 (10 * i + k) * d 3 k) 10 = S
  show _ = S + (0 + d 14 (4 * i + 1) * jl d 1 (2 ^ d 0 0 - 1) + d 14 (4 * i + 2) * jl d 2 (2 ^ d 0 0 - 1) + d 14 (4 * i + 3) * jl d 3 (2 ^ d 0 0 - 1))
  omega
theorem m_full (o : Ok d C) (oT : OkT d) (h : MT d C w) {i : Nat} (hi : i < 4) : f_X12_lawLength (nI i) w = some (nI (lwl d i)) := by
  have z := h.2.2 i hi
  have o1 := o.1.1
  have p10 := pow10 o.1.1
  have h1 := @Nat.one_le_two_pow (d 0 0)
  have ha : 2 ^ d 0 0 - 1 < 2 ^ d 0 0 := by omega
  apply Rt.eq
  unfold f_X12_lawLength
  rw [h.1.N, sh1_N (by omega), show nI (2 ^ d 0 0) - 1 = nI (2 ^ d 0 0 - 1) from pk_sub (b := 1) h1, rt_bind]
  refine Rt.mono (rt_for (fun k (s : Int32 × Int32) => s.1 = nI (fb_sm (fun k => d 13 (10 * i + k) * d 3 k) k) ∧ s.2 = nI k) (d 0 0) (Q := fun p => p = nI (fb_sm (fun k => d 13 (10 * i + k) * d 3 k) 10)) ?_ ?_ ⟨rfl, rfl⟩ (by omega)) ?_
  · rintro k ⟨s1, s2⟩ hk ⟨e1, e2⟩
    dsimp only at e1 e2
    subst e1 e2
    unfold l_X12_lawLength_14
    dsimp only
    rw [h.1.N, if_neg (nI_ge hk (by omega)), show (10 : Int32) * nI i = nI (10 * i) from pk_mul 10 i, nI_add, if_pos (inb_nI (by omega) (by decide)), if_pos (inb_nI (by omega) (by decide)), ix_nI (by omega), ix_nI (by omega), z.2.2.1 k (by omega), (h.1.2.1.2.2.2 k (by omega)).2.2.1, pk_mul, nI_add, rt_some, nx_l]
    exact ⟨rfl, nI_1 k⟩
  · rintro ⟨s1, s2⟩ ⟨e1, e2⟩
    dsimp only at e1 e2
    subst e1 e2
    unfold l_X12_lawLength_14
    dsimp only
    rw [h.1.N, if_pos (nI_le (Nat.le_refl _) (by omega)), rt_some, nx_r]
    rw [sm_ext (m := 10) o1 (fun k h1 h2 => by rw [((oT.2.2 i hi).2.2 k h2).2 h1, Nat.zero_mul])]
  · rintro p rfl
    rw [rt_bind]
    refine Rt.mono (rt_for (fun k (s : Int32 × Int32) => s.1 = nI (fb_sm (fun k => d 13 (10 * i + k) * d 3 k) 10 + fb_sm (fun j => d 14 (4 * i + (j + 1)) * jl d (j + 1) (2 ^ d 0 0 - 1)) k) ∧ s.2 = nI (k + 1)) 3 (Q := fun p => p = nI (lwl d i)) ?_ ?_ ⟨rfl, rfl⟩ (by omega)) (fun p hp => by rw [rt_some]; exact hp)
    · rintro k ⟨s1, s2⟩ hk ⟨e1, e2⟩
      dsimp only at e1 e2
      subst e1 e2
      unfold l_X12_lawLength_55
      dsimp only
      have hj := m_joinOf o.1 h.1.2.1 (k := k + 1) (by omega) ha
      have hjl := jl_le o.1 (k := k + 1) (t := 2 ^ d 0 0 - 1)
      rw [if_neg (show ¬ (3 : Int32) < nI (k + 1) from nI_nlt (a := 3) (by omega) (by decide)), hj, Option.bind_some]
      by_cases q : jl d (k + 1) (2 ^ d 0 0 - 1) = 0
      · rw [if_pos q, if_pos (by decide), Option.bind_some, rt_some, nx_l]
        refine ⟨?_, nI_1 _⟩
        dsimp only
        rw [show (0 : Int32) = nI 0 from rfl, nI_add, Nat.add_zero, show fb_sm (fun j => d 14 (4 * i + (j + 1)) * jl d (j + 1) (2 ^ d 0 0 - 1)) (k + 1) = fb_sm (fun j => d 14 (4 * i + (j + 1)) * jl d (j + 1) (2 ^ d 0 0 - 1)) k from by show _ + _ = _; dsimp only; rw [q, Nat.mul_zero, Nat.add_zero]]
      · rw [if_neg q, if_neg (show ¬ (1000000 : Int32) ≤ nI (jl d (k + 1) (2 ^ d 0 0 - 1)) from nI_ge (b := 1000000) (by omega) (by decide)), show (4 : Int32) * nI i = nI (4 * i) from pk_mul 4 i, nI_add, if_pos (inb_nI (by omega) (by decide)), ix_nI (by omega), Option.bind_some, Option.bind_some, z.2.2.2 (k + 1) (by omega), pk_mul, nI_add, rt_some, nx_l]
        exact ⟨congrArg nI (Nat.add_assoc _ _ _), nI_1 _⟩
    · rintro ⟨s1, s2⟩ ⟨e1, e2⟩
      dsimp only at e1 e2
      subst e1 e2
      unfold l_X12_lawLength_55
      dsimp only
      rw [if_pos (by decide), rt_some, nx_r]
      rfl
theorem st_lawIs (o : Ok d C) (oT : OkT d) (x1 x2 : Int32) : StpB d C (f_X11_lawIs x1 x2) (f_X12_lawIs x1 x2) := by
  have o1 := o.1.1
  have p10 := pow10 o.1.1
  have l1 : f_X12_lies x1.toInt64 (0 : Int64) (3 : Int64) = f_X11_within x1 0 3 := lies_lit x1 0 3 (by decide) (by decide)
  have l2 : f_X12_lies x2.toInt64 (0 : Int64) (3 : Int64) = f_X11_within x2 0 3 := lies_lit x2 0 3 (by decide) (by decide)
  by_cases c1 : f_X11_within x1 0 3 = 0
  · exact stay o oT (-1) (fun w h => by unfold f_X11_lawIs; rw [if_pos c1]) (fun w h => by unfold f_X12_lawIs; rw [l1, if_pos c1])
  obtain ⟨i, -, hi, rfl⟩ := within_c 0 3 (by decide) (by decide) c1
  have hi4 : i < 4 := by omega
  have ot := oT.2.2 i hi4
  have hin : inb (nI i) 4 = true := inb_nI hi4 (by decide)
  by_cases c2 : f_X11_within x2 0 3 = 0
  · refine stay o oT (-1) (fun w h => by unfold f_X11_lawIs; rw [if_neg c1, if_pos c2]) (fun w h => ?_)
    unfold f_X12_lawIs
    rw [l1, if_neg c1, if_pos hin, l2, if_pos c2]
    split <;> rfl
  by_cases c3 : d 11 i = 0
  · refine stay o oT (-1) (fun w h => ?_) (fun w h => ?_)
    · unfold f_X11_lawIs
      rw [if_neg c1, if_neg c2, if_pos hin, ix_nI (by omega), (rl_of h.1.1 hi4).1]
      show (if isRl (36 + i) = true then _ else _) = _
      rw [if_pos (rl_of h.1.1 hi4).2, (h.2.2 i hi4).1, c3, if_pos (by rfl)]
    · unfold f_X12_lawIs
      rw [l1, if_neg c1, if_pos hin, ix_nI (by omega), (h.2.2 i hi4).1, c3, if_pos (by rfl)]
  have n0 : ¬ nI (d 11 i) = 0 := nI_ne0 (by omega) (by omega)
  obtain ⟨j, -, hj, rfl⟩ := within_c 0 3 (by decide) (by decide) c2
  refine ⟨if j = 0 then nI (d 12 i) else if j = 1 then nI (lwl d i) else if j = 2 then nI (lmk (fun k => decide (0 < d 13 (10 * i + k)) && !(d 0 1).testBit k) 10) else e2 (BF d (d 0 1) (d 12 i)), d, C, o, oT, by omega, fun w h => ?_, fun w h => ?_⟩
  · have hz := h.2.2 i hi4
    unfold f_X11_lawIs
    rw [if_neg c1, if_neg c2, if_pos hin, ix_nI (by omega), rt_onq, (rl_of h.1.1 hi4).1]
    refine ⟨fun z => (by cases z), fun c hc => ?_⟩
    cases hc
    rw [if_pos (rl_of h.1.1 hi4).2, hz.1, if_neg n0]
    by_cases j0 : j = 0
    · subst j0
      rw [if_pos (by rfl), if_pos rfl, rt_some]
      exact ⟨hz.2.1, h, cF.rf⟩
    by_cases j1 : j = 1
    · subst j1
      rw [if_neg (by decide), if_pos (by rfl), if_neg (by decide), if_pos rfl, k_full o h hi4, Option.bind_some, rt_some]
      exact ⟨rfl, h, cF.rf⟩
    by_cases j2 : j = 2
    · subst j2
      rw [if_neg (by decide), if_neg (by decide), if_pos (by rfl), if_neg (by decide), if_neg (by decide), if_pos rfl, hz.2.2.1, h.1.U, lmk_not, rt_some]
      exact ⟨rfl, h, cF.rf⟩
    have j3 : j = 3 := by omega
    subst j3
    rw [if_neg (by decide), if_neg (by decide), if_neg (by decide), if_neg (by decide), if_neg (by decide), if_neg (by decide), h.1.U, rt_bind]
    refine (x_sp o h.1 o.1.2.1).mono ?_
    rintro ⟨a, w1⟩ ⟨q1, hA, hs, hL, -⟩
    dsimp only at q1 hA hs hL ⊢
    have hk := h.wq q1.w
    rw [rt_onL, if_pos hs.1, (hk.1.2.2 i hi4).2.1, shortest_N (fun j b e => BF_le o.1 e) hs ot.2.1, Option.bind_some, rt_some]
    exact ⟨hL, rfl, hk⟩
  · have hz := h.2.2 i hi4
    unfold f_X12_lawIs
    rw [l1, if_neg c1, if_pos hin, ix_nI (by omega), hz.1, if_neg n0, l2, if_neg c2, rt_bind]
    refine Rt.mono (rt_for (fun k (s : Int32 × Int32) => s.1 = nI (lmk (fun k => decide (0 < d 13 (10 * i + k)) && !(d 0 1).testBit k) k) ∧ s.2 = nI k) (d 0 0) (Q := fun p => p = nI (lmk (fun k => decide (0 < d 13 (10 * i + k)) && !(d 0 1).testBit k) 10)) ?_ ?_ ⟨rfl, rfl⟩ (by omega)) ?_
    · rintro k ⟨s1, s2⟩ hk ⟨e1, e2⟩
      dsimp only at e1 e2
      subst e1 e2
      have hu := o.1.2.1
      have oc := (ot.2.2 k (by omega)).1
      unfold l_X12_lawIs_40
      dsimp only
      rw [h.1.N, if_neg (nI_ge hk (by omega)), show (10 : Int32) * nI i = nI (10 * i) from pk_mul 10 i, nI_add, if_pos (inb_nI (by omega) (by decide)), ix_nI (by omega), hz.2.2.1 k (by omega), h.1.U, has_N (by omega) (by omega), rt_bind, rt_mg]
      by_cases q : d 13 (10 * i + k) = 0
      · rw [q, if_pos (by decide), rt_some]
        dsimp only
        rw [rt_some, rt_some, nx_l, show (0 : Int32) = nI 0 from rfl, fa_or]
        exact ⟨by rw [lmk, if_neg (by rw [q]; simp)], nI_1 k⟩
      · rw [if_neg (nI_nle (by omega) (by omega))]
        cases b : (d 0 1).testBit k with
        | true =>
          rw [if_neg (by decide), rt_some]
          dsimp only
          rw [rt_some, rt_some, nx_l, show (0 : Int32) = nI 0 from rfl, fa_or]
          exact ⟨by rw [lmk, if_neg (by rw [b]; simp)], nI_1 k⟩
        | false =>
          rw [if_pos (by decide), rt_some]
          dsimp only
          rw [rt_some, nx_l, sh1_N (by omega), fa_or]
          exact ⟨by rw [lmk, if_pos (by rw [b, decide_eq_true (by omega : 0 < d 13 (10 * i + k))]; rfl)], nI_1 k⟩
    · rintro ⟨s1, s2⟩ ⟨e1, e2⟩
      dsimp only at e1 e2
      subst e1 e2
      unfold l_X12_lawIs_40
      dsimp only
      rw [h.1.N, if_pos (nI_le (Nat.le_refl _) (by omega)), rt_some, nx_r]
      rw [lmk_ext (m := 10) o1 (fun k h1 h2 => by rw [(ot.2.2 k h2).2 h1]; rfl)]
    · rintro p rfl
      rw [h.1.U, hz.2.1, rt_bind]
      refine (m_briefOf o.1 h.1.1 h.1.2.1 h.1.2.2.2.2.1 o.1.2.1 ot.2.1).mono ?_
      rintro ⟨v, w1⟩ ⟨e, f1, b1, -⟩
      dsimp only at e f1 b1 ⊢
      subst e
      have hm := h.wq (ZQ.w (h.1.x f1 (fun c k z => by unfold qsP; omega) b1))
      by_cases j0 : j = 0
      · subst j0
        rw [if_pos (by rfl), if_pos rfl, rt_onL, rt_some]
        exact ⟨hm.1.1.1, (hm.1.2.2 i hi4).2.1, hm⟩
      by_cases j1 : j = 1
      · subst j1
        rw [if_neg (by decide), if_pos (by rfl), if_neg (by decide), if_pos rfl, rt_onL, m_full o oT hm.1 hi4, Option.bind_some, rt_some]
        exact ⟨hm.1.1.1, rfl, hm⟩
      by_cases j2 : j = 2
      · subst j2
        rw [if_neg (by decide), if_neg (by decide), if_pos (by rfl), if_neg (by decide), if_neg (by decide), if_pos rfl, rt_some]
        exact ⟨rfl, hm⟩
      have j3 : j = 3 := by omega
      subst j3
      rw [if_neg (by decide), if_neg (by decide), if_neg (by decide), e2_N o.1, rt_some, if_neg (by decide), if_neg (by decide), if_neg (by decide)]
      exact ⟨rfl, hm⟩
end Lwi
