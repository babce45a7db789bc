/-! order, gap -/
section Ord3
variable {d : Dt} {C : Ct}
theorem k_canStrike {w : Mm} (o : Ok d C) (h : KI d C w) (x : Int32) : f_X10_canStrike x w = some (if f_X11_within x 1 6 = 0 then 0 else if nI (pc (d 0 1)) < x then 0 else 1) := by
  have p10 := pow10 o.1.1
  have hu := o.1.2.1
  unfold f_X10_canStrike
  rw [h.U, bitCount_N _ (by omega)]
  split
  · rfl
  · split <;> rfl
theorem m_isOrder {w : Mm} (o : Ok d C) (h : MI d C w) (x : Int32) : f_X12_isOrder x w = some (if f_X11_within x 1 6 = 0 then 0 else if nI (pc (d 0 1)) < x then 0 else 1) := by
  have p10 := pow10 o.1.1
  have hu := o.1.2.1
  unfold f_X12_isOrder
  rw [h.U, m_sizeOf (by omega), lies_lit x 1 6 (by decide) (by decide)]
  split
  · rfl
  · rw [Option.bind_some]
    split <;> rfl
theorem strike_of {x : Int32} (h : ¬ (if f_X11_within x 1 6 = 0 then (0 : Int32) else if nI (pc (d 0 1)) < x then 0 else 1) = 0) : ∃ n, 1 ≤ n ∧ n ≤ 6 ∧ n ≤ pc (d 0 1) ∧ x = nI n := by
  by_cases c : f_X11_within x 1 6 = 0
  · rw [if_pos c] at h; exact absurd rfl h
  · rw [if_neg c] at h
    obtain ⟨n, h1, h2, rfl⟩ := within_c 1 6 (by decide) (by decide) c
    by_cases c2 : nI (pc (d 0 1)) < nI n
    · rw [if_pos c2] at h; exact absurd rfl h
    · have := pc_le (d 0 1)
      refine ⟨n, h1, h2, ?_, rfl⟩
      by_cases c3 : n ≤ pc (d 0 1)
      · exact c3
      · exact absurd (nI_lt (by omega) (by omega)) c2
/-- the last WORD found, 0 ahead of the first -/
noncomputable def lw (d : Dt) (C : Ct) (n : Nat) : Nat → Int32
  | 0 => 0
  | k + 1 => oI (bnx d C (n - 1 - k) (os d C n k))
theorem ag_order (o : Ok d C) (hst : d 0 7 < 2 ^ 31) (x1 x2 : Int32) : Agree d C (f_X11_order x1 x2) (f_X12_order x1 x2) := by
  have p10 := pow10 o.1.1
  have hu := o.1.2.1
  by_cases c1 : (if f_X11_within x1 1 6 = 0 then (0 : Int32) else if nI (pc (d 0 1)) < x1 then 0 else 1) = 0
  · refine ⟨-1, fun w h => ?_, fun w h => ?_⟩
    · unfold f_X11_order
      rw [k_canStrike o h, Option.bind_some, if_pos c1, rt_some]; exact ⟨rfl, KW.rf h⟩
    · unfold f_X12_order
      rw [m_isOrder o h, Option.bind_some, if_pos c1, rt_some]; exact ⟨rfl, ZW.rf h⟩
  have l2 : f_X12_lies x2.toInt64 (-1 : Int64) ((x1 - (1 : Int32)).toInt64) = f_X11_within x2 (-1) (x1 - 1) := lies_lit x2 (-1) (x1 - 1) (by decide) rfl
  by_cases c2 : f_X11_within x2 (-1) (x1 - 1) = 0
  · refine ⟨-1, fun w h => ?_, fun w h => ?_⟩
    · unfold f_X11_order
      rw [k_canStrike o h, Option.bind_some, if_neg c1, if_pos c2, rt_some]; exact ⟨rfl, KW.rf h⟩
    · unfold f_X12_order
      rw [m_isOrder o h, Option.bind_some, if_neg c1, l2, if_pos c2, rt_some]; exact ⟨rfl, ZW.rf h⟩
  obtain ⟨n, hn1, hn, hn2, rfl⟩ := strike_of c1
  by_cases c0 : x2 = -1
  · subst c0
    refine ⟨lN (RR d C n (d 0 1)), fun w h => ?_, fun w h => ?_⟩
    · unfold f_X11_order
      rw [k_canStrike o h, Option.bind_some, if_neg c1, if_neg c2, rt_bind]
      refine (x10_plan o hst h hn hn2).mono ?_
      rintro ⟨v, w1⟩ ⟨e, hI, hc, -⟩
      dsimp only at e hI hc ⊢
      subst e
      rw [if_pos rfl, rt_some]
      exact ⟨rfl, hI, hc.q⟩
    · unfold f_X12_order
      rw [m_isOrder o h, Option.bind_some, if_neg c1, l2, if_neg c2, rt_bind]
      refine (m_laysOrder o h hn hn2).mono ?_
      rintro w1 ⟨q, m, hR⟩
      rw [if_pos rfl, rt_onL, m.U, if_pos (inb_nI (n := 1024) (by omega) (by decide)), ix_nI (by omega), rt_some]
      refine ⟨m.1, ?_, q.q, m⟩
      show gL w1 76 (d 0 1) = _
      rw [hR (d 0 1) (by omega) (Nat.and_self _) (by omega), show pc (d 0 1) - (pc (d 0 1) - n) = n by omega]
  · have c2' : ¬ f_X11_within x2 (nI 0) (nI (n - 1)) = 0 := by
      rw [within_m1 c0, show (1 : Int32) = nI 1 from rfl, pk_sub hn1] at c2
      exact c2
    obtain ⟨p, -, hp, rfl⟩ := within_c 0 (n - 1) (by omega) (by omega) c2'
    obtain ⟨i, ei, hi, -⟩ := os_b o hn2 (k := p) (by omega)
    refine ⟨(nI i).toInt64, fun w h => ?_, fun w h => ?_⟩
    · unfold f_X11_order
      rw [k_canStrike o h, Option.bind_some, if_neg c1, if_neg c2, rt_bind]
      refine (x10_plan o hst h hn hn2).mono ?_
      rintro ⟨v, w1⟩ ⟨e, hI, hc, hP⟩
      dsimp only at e hI hc hP ⊢
      rw [if_neg c0, rt_onL, rt_bind]
      refine ⟨hI.1, (x10_planned o hI hn hn2 hP (p := p) (by omega)).mono ?_⟩
      rintro ⟨v, w2⟩ ⟨e2, q2⟩
      dsimp only at e2 q2 ⊢
      rw [ei] at e2
      subst e2
      rw [rt_some]
      exact ⟨rfl, q2.1, (hc.tr q2.2.1).q⟩
    · unfold f_X12_order
      rw [m_isOrder o h, Option.bind_some, if_neg c1, l2, if_neg c2, rt_bind]
      refine (m_laysOrder o h hn hn2).mono ?_
      rintro w1 ⟨q, m, hR⟩
      rw [if_neg c0, rt_onL, m.U, rt_bind]
      refine ⟨m.1, Rt.mono (rt_for (Q := fun r => r.1 = nI i ∧ ZQ d C w1 r.2) (fun k s => s.1 = nI (os d C n k) ∧ s.2.1 = lw d C n k ∧ s.2.2.1 = nI k ∧ ZQ d C w1 s.2.2.2) (p + 1) ?_ ?_ ⟨rfl, rfl, rfl, ZQ.rf m⟩ (by omega)) ?_⟩
      · rintro k ⟨a, b, c, w2⟩ hk ⟨h1, h2, h3, hq⟩
        dsimp only at h1 h2 h3 hq
        subst h1 h2 h3
        obtain ⟨j, ej, hj, -⟩ := os_b o hn2 (k := k) (by omega)
        unfold l_X12_order_58
        dsimp only
        rw [if_neg (nI_nlt (by omega) (by omega)), rt_bind]
        refine (m_find o hq.2 hn hn2 (hR.qs hq.1) (nI p) (nI k) (by omega) ej).mono ?_
        rintro ⟨v, w3⟩ ⟨e3, q3⟩
        dsimp only at e3 q3 ⊢
        subst e3
        rw [wo_N (by omega), ← os_s ej, rt_some, nx_l]
        exact ⟨rfl, by show nI j = oI _; rw [ej]; rfl, nI_1 k, hq.tr q3⟩
      · rintro ⟨a, b, c, w2⟩ ⟨h1, h2, h3, hq⟩
        dsimp only at h1 h2 h3 hq
        subst h1 h2 h3
        unfold l_X12_order_58
        dsimp only
        rw [if_pos (nI_lt (by omega) (by omega)), rt_some, nx_r]
        exact ⟨by show oI _ = nI i; rw [ei]; rfl, hq⟩
      · rintro ⟨v, w2⟩ ⟨e2, q2⟩
        dsimp only at e2 q2 ⊢
        subst e2
        rw [rt_some]
        exact ⟨rfl, q.q.tr q2.1.q, q2.2⟩
theorem ag_gap (o : Ok d C) (hst : d 0 7 < 2 ^ 31) (x1 : Int32) : Agree d C (f_X11_gap x1) (f_X12_gap x1) := by
  have p10 := pow10 o.1.1
  have hu := o.1.2.1
  by_cases c1 : (if f_X11_within x1 1 6 = 0 then (0 : Int32) else if nI (pc (d 0 1)) < x1 then 0 else 1) = 0
  · refine ⟨-1, fun w h => ?_, fun w h => ?_⟩
    · unfold f_X11_gap
      rw [k_canStrike o h, Option.bind_some, if_pos c1, rt_some]; exact ⟨rfl, KW.rf h⟩
    · unfold f_X12_gap
      rw [m_isOrder o h, Option.bind_some, if_pos c1, rt_some]; exact ⟨rfl, ZW.rf h⟩
  obtain ⟨n, hn1, hn, hn2, rfl⟩ := strike_of c1
  refine ⟨lN (gsum d C n) - lN (RR d C n (d 0 1)), fun w h => ?_, fun w h => ?_⟩
  · unfold f_X11_gap
    rw [k_canStrike o h, Option.bind_some, if_neg c1, rt_bind]
    refine (x10_greedy o hst h hn hn2).mono ?_
    rintro ⟨v, w1⟩ ⟨e, q⟩
    dsimp only at e q ⊢
    subst e
    rw [rt_onL, rt_bind]
    refine ⟨q.1.1, (x10_plan o hst q.1 hn hn2).mono ?_⟩
    rintro ⟨v, w2⟩ ⟨e, hI, hc, -⟩
    dsimp only at e hI hc ⊢
    subst e
    rw [rt_some]
    exact ⟨rfl, hI, (q.2.1.tr hc).q⟩
  · unfold f_X12_gap
    rw [m_isOrder o h, Option.bind_some, if_neg c1, rt_bind]
    refine (m_laysOrder o h hn hn2).mono ?_
    rintro w1 ⟨q, m, hR⟩
    rw [rt_onL, m.U, rt_bind]
    refine ⟨m.1, Rt.mono (rt_for (Q := fun r => r.1 = lN (gsum d C n) ∧ ZQ d C w1 r.2) (fun k s => s.1 = lN (gsum d C k) ∧ s.2.1 = nI (gs d C k) ∧ s.2.2.1 = nI k ∧ ZQ d C w1 s.2.2.2) n ?_ ?_ ⟨rfl, rfl, rfl, ZQ.rf m⟩ (by omega)) ?_⟩
    · rintro k ⟨a, b, c, w2⟩ hk ⟨h1, h2, h3, hq⟩
      dsimp only at h1 h2 h3 hq
      subst h1 h2 h3
      have hl := gs_lt o k
      obtain ⟨i, e, hi, hb⟩ := lst_some (d := d) (C := C) (by omega) (gs_n0 o (k := k) (by omega))
      unfold l_X12_gap_28
      dsimp only
      rw [if_neg (nI_ge hk (by omega)), rt_onL, rt_bind]
      refine ⟨hq.2.1, (m_leastOf o hq.2 hl).mono ?_⟩
      rintro ⟨v, w3⟩ ⟨e3, q3⟩
      dsimp only at e3 q3 ⊢
      rw [e] at e3
      subst e3
      rw [rt_onL, show oI (some i) = nI i from rfl, wo_N (by omega), ← gs_s e, rt_bind]
      refine ⟨q3.2.1, (m_talkOf o q3.2 (gs_lt o _)).mono ?_⟩
      rintro ⟨v, w4⟩ ⟨e4, q4, m4, -⟩
      dsimp only at e4 q4 m4 ⊢
      subst e4
      rw [rt_some, nx_l]
      exact ⟨by rw [lN_add]; rfl, rfl, nI_1 k, (hq.tr q3).tr ⟨q4, m4⟩⟩
    · rintro ⟨a, b, c, w2⟩ ⟨h1, h2, h3, hq⟩
      dsimp only at h1 h2 h3 hq
      subst h1 h2 h3
      unfold l_X12_gap_28
      dsimp only
      rw [if_pos (nI_le (Nat.le_refl _) (by omega)), rt_some, nx_r]
      exact ⟨rfl, hq⟩
    · rintro ⟨v, w2⟩ ⟨e2, q2⟩
      dsimp only at e2 q2 ⊢
      subst e2
      rw [rt_onL, q2.2.U, if_pos (inb_nI (n := 1024) (by omega) (by decide)), ix_nI (by omega), rt_some]
      refine ⟨q2.2.1, ?_, q.q.tr q2.1.q, q2.2⟩
      show lN (gsum d C n) - gL w2 76 (d 0 1) = _
      rw [(hR.qs q2.1) (d 0 1) (by omega) (Nat.and_self _) (by omega), show pc (d 0 1) - (pc (d 0 1) - n) = n by omega]
end Ord3
