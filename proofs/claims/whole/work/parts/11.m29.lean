/-! vote -/
section AgVote
variable {d : Dt} {C : Ct}
theorem fw_ex (W : Nat → Prop) : ∃ r, fw W r := by
  by_cases q : ∃ v, v < 10 ∧ W v
  · obtain ⟨v, h1, h2⟩ := q
    obtain ⟨b, hb1, hb2⟩ := least_ex (P := W) v h2
    exact ⟨some b, Or.inr ⟨b, by have := hb2 v h2; omega, rfl, hb1, fun x hx z => by have := hb2 x z; omega⟩⟩
  · exact ⟨none, Or.inl ⟨rfl, fun v hv z => q ⟨v, hv, z⟩⟩⟩
theorem fm_some (o : Ok d C) (h : d 0 1 ≠ 0) : ∃ a, fm d C none = some a ∧ a < 10 ∧ (d 0 1).testBit a = true := by
  have p10 := pow10 o.1.1
  have hu := o.1.2.1
  cases e : fm d C none with
  | some a =>
    have := amin_some e
    have h2 := this.2.1
    simp at h2
    exact ⟨a, rfl, this.1, h2⟩
  | none =>
    exfalso
    refine h (pc_0 (by omega) (fb_ct_zero.mpr (fun k hk => ?_)))
    have := amin_none.mp e k hk
    simpa using this
theorem ag_vote (o : Ok d C) (hst : d 0 7 < 2 ^ 31) (x1 : Int32) : Agree d C (f_X11_vote x1) (f_X12_vote x1) := by
  have p10 := pow10 o.1.1
  have hu := o.1.2.1
  have vl := vt_le o.2.1
  have l1 : f_X12_lies x1.toInt64 (0 : Int64) (3 : Int64) = f_X11_within x1 0 3 := lies_lit x1 0 3 (by decide) (by decide)
  by_cases c1 : f_X11_within x1 0 3 = 0
  · refine ⟨-1, fun w h => ?_, fun w h => ?_⟩
    · unfold f_X11_vote
      rw [if_pos c1, rt_some]; exact ⟨rfl, KW.rf h⟩
    · unfold f_X12_vote
      rw [l1, if_pos c1, rt_some]; exact ⟨rfl, ZW.rf h⟩
  by_cases c2 : d 0 1 = 0
  · refine ⟨-1, fun w h => ?_, fun w h => ?_⟩
    · unfold f_X11_vote
      rw [if_neg c1, h.U, c2, if_pos (by rfl), rt_some]; exact ⟨rfl, KW.rf h⟩
    · unfold f_X12_vote
      rw [l1, if_neg c1, h.U, c2, if_pos (by rfl), rt_some]; exact ⟨rfl, ZW.rf h⟩
  have c2' : ¬ nI (d 0 1) = 0 := nI_ne0 (by omega) (by omega)
  by_cases c3 : vt d = 0
  · refine ⟨-1, fun w h => ?_, fun w h => ?_⟩
    · unfold f_X11_vote
      rw [if_neg c1, h.U, if_neg c2', k_voters h, Option.bind_some, c3, if_pos (by rfl), rt_some]; exact ⟨rfl, KW.rf h⟩
    · unfold f_X12_vote
      rw [l1, if_neg c1, h.U, if_neg c2', m_voters o h, Option.bind_some, c3, if_pos (by rfl), rt_some]; exact ⟨rfl, ZW.rf h⟩
  have c3' : ¬ nI (vt d) = 0 := nI_ne0 (by omega) (by omega)
  obtain ⟨a, ea, ha, hua⟩ := fm_some o c2
  obtain ⟨r, hr⟩ := fw_ex (wn d C)
  have hexn : ∀ v, (none : Option Nat) = some v → v < 10 := fun v e => by cases e
  have hexa : ∀ v, some a = some v → v < 10 := fun v e => by cases e; exact ha
  have hsec : ∀ b, fm d C (some a) = some b → b < 10 ∧ (d 0 1).testBit b = true := fun b e => by
    have := amin_some e
    have h2 := this.2.1
    simp at h2
    exact ⟨this.1, h2.1⟩
  have hn1 : ¬ (1 : Int32) = 0 := by decide
  refine ⟨if x1 = 0 then nI a else if x1 = 1 then (match fm d C (some a) with | none => nI a | some b => if av d C b a ≤ av d C a b then nI a else nI b) else if x1 = 2 then oI (pm d C) else oI r, fun w h => ?_, fun w h => ?_⟩
  · unfold f_X11_vote
    rw [if_neg c1, h.U, if_neg c2', k_voters h, Option.bind_some, if_neg c3', rt_bind]
    unfold f_X0_elect
    rw [rt_bind]
    refine (x0_ranks o hst h x1).mono ?_
    rintro w1 ⟨q, hR⟩
    have e0 : f_X0_firstWithMost (-1 : Int32) w1 = some (nI a) := by
      rw [show (-1 : Int32) = oI none from rfl, x0_first o q.1 hR hexn, ea]; rfl
    by_cases z0 : x1 = 0
    · rw [if_pos z0, if_pos z0, rt_onL, e0, Option.bind_some, rt_some, rt_some]
      exact ⟨q.1.1, rfl, q⟩
    · rw [if_neg z0, if_neg z0]
      by_cases z1 : x1 = 1
      · rw [if_pos z1, if_pos z1, rt_onL]
        refine ⟨q.1.1, ?_⟩
        unfold f_X0_runoff
        rw [e0, Option.bind_some, show nI a = oI (some a) from rfl, x0_first o q.1 hR hexa, Option.bind_some]
        cases e : fm d C (some a) with
        | none =>
          rw [if_pos (by rfl), Option.bind_some, rt_some, rt_some]
          exact ⟨rfl, q⟩
        | some b =>
          obtain ⟨hb, hub⟩ := hsec b e
          have v1 := av_le o.2.1 C b a
          have v2 := av_le o.2.1 C a b
          rw [show oI (some b) = nI b from rfl, show oI (some a) = nI a from rfl, if_neg (nm1 (by omega)), x0_votersFor o q.1 hR hb ha hub hua, Option.bind_some, x0_votersFor o q.1 hR ha hb hua hub, Option.bind_some]
          by_cases cc : av d C b a ≤ av d C a b
          · rw [if_pos (nI_le cc (by omega)), Option.bind_some, rt_some, rt_some]
            refine ⟨?_, q⟩
            show nI a = if _ then _ else _
            rw [if_pos cc]
          · rw [if_neg (nI_ge (by omega) (by omega)), Option.bind_some, rt_some, rt_some]
            refine ⟨?_, q⟩
            show nI b = if _ then _ else _
            rw [if_neg cc]
      · rw [if_neg z1, if_neg z1]
        by_cases z2 : x1 = 2
        · rw [if_pos z2, if_pos z2, rt_onL, x0_points o q.1 hR, Option.bind_some, rt_some, rt_some]
          exact ⟨q.1.1, rfl, q⟩
        · rw [if_neg z2, if_neg z2, rt_onL, rt_bind]
          refine ⟨q.1.1, (x0_ahead o q.1 hR).mono ?_⟩
          rintro p ⟨r', hr', rfl⟩
          rw [rt_some, rt_some, fw_uniq hr' hr]
          exact ⟨rfl, q⟩
  · unfold f_X12_vote
    rw [l1, if_neg c1, h.U, if_neg c2', m_voters o h, Option.bind_some, if_neg c3', show (-1 : Int32) = oI none from rfl, rt_bind]
    refine (m_firstOf o h hexn).mono ?_
    rintro ⟨v, w1⟩ ⟨e1, q⟩
    dsimp only at e1 q ⊢
    rw [ea] at e1
    subst e1
    by_cases z0 : x1 = 0
    · rw [if_pos z0, if_pos z0, rt_some]
      exact ⟨rfl, q.w⟩
    · rw [if_neg z0, if_neg z0]
      by_cases z2 : x1 = 2
      · have n1 : ¬ x1 = 1 := fun z => by rw [z] at z2; revert z2; decide
        rw [if_pos z2, if_neg n1, if_pos z2, rt_onL, rt_bind]
        refine ⟨q.2.1, (m_byPoints o q.2).mono ?_⟩
        rintro p ⟨e, q2⟩
        rw [rt_some]
        exact ⟨e, (q.tr q2).w⟩
      · rw [if_neg z2]
        by_cases z3 : x1 = 3
        · have n1 : ¬ x1 = 1 := fun z => by rw [z] at z3; revert z3; decide
          rw [if_pos z3, if_neg n1, if_neg z2, rt_onL, rt_bind]
          refine ⟨q.2.1, (m_aheadOfAll o q.2).mono ?_⟩
          rintro p ⟨r', hr', e, q2⟩
          rw [rt_some, fw_uniq hr hr']
          exact ⟨e, (q.tr q2).w⟩
        · have y1 : x1 = 1 := by
            obtain ⟨j, -, hj, rfl⟩ := within_c 0 3 (by decide) (by decide) c1
            rcases (show j = 0 ∨ j = 1 ∨ j = 2 ∨ j = 3 by omega) with rfl | rfl | rfl | rfl
            · exact absurd rfl z0
            · rfl
            · exact absurd rfl z2
            · exact absurd rfl z3
          rw [if_neg z3, if_pos y1, rt_onL, rt_bind]
          refine ⟨q.2.1, (m_firstOf o q.2 hexa).mono ?_⟩
          rintro ⟨v, w2⟩ ⟨e2, q2⟩
          dsimp only at e2 q2 ⊢
          subst e2
          have q02 := q.tr q2
          cases e : fm d C (some a) with
          | none =>
            rw [if_pos (by rfl), rt_some]
            exact ⟨rfl, q02.w⟩
          | some b =>
            obtain ⟨hb, hub⟩ := hsec b e
            have v1 := av_le o.2.1 C b a
            have v2 := av_le o.2.1 C a b
            rw [show oI (some b) = nI b from rfl, show oI (some a) = nI a from rfl, show oI none = (-1 : Int32) from rfl, if_neg (nm1 (by omega)), rt_onL, rt_bind]
            refine ⟨q2.2.1, (m_aheadVotes o q2.2 hb ha).mono ?_⟩
            rintro ⟨v, w3⟩ ⟨e3, q3⟩
            dsimp only at e3 q3 ⊢
            subst e3
            rw [rt_onL, rt_bind]
            refine ⟨q3.2.1, (m_aheadVotes o q3.2 ha hb).mono ?_⟩
            rintro ⟨v, w4⟩ ⟨e4, q4⟩
            dsimp only at e4 q4 ⊢
            subst e4
            have q04 := (q02.tr q3).tr q4
            by_cases cc : av d C b a ≤ av d C a b
            · rw [if_pos (nI_le cc (by omega)), rt_some]
              refine ⟨?_, q04.w⟩
              show nI a = if _ then _ else _
              rw [if_pos cc]
            · rw [if_neg (nI_ge (by omega) (by omega)), rt_some]
              refine ⟨?_, q04.w⟩
              show nI b = if _ then _ else _
              rw [if_neg cc]
end AgVote
