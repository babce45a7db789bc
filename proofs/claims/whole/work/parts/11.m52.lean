/-! THE LAW: both answer alike on every script; what is left to show is NEAR and LAW, told as premises here -/
def Gk (k : Nat) (w : Mm) : Prop := ∃ d C, Ok d C ∧ OkT d ∧ d 0 7 ≤ k ∧ KT d C w ∧ MT d C w
theorem stp_go {α : Type} [DecidableEq α] {d : Dt} {C : Ct} {f g : Mm → Option (α × Mm)} {k : Nat} {w : Mm} (hs : StpB d C f g) (h7 : d 0 7 ≤ k) (hK : KT d C w) (hM : MT d C w) (X : Mm → ((Int32 × Mm) ⊕ (Nat × Mm))) : Rt (onL w (Option.bind (f w) (fun p => onL p.2 (Option.bind (g p.2) (fun q => if p.1 = q.1 then some (Sum.inl q.2 : Mm ⊕ ((Int32 × Mm) ⊕ (Nat × Mm))) else some (Sum.inr (X q.2))))))) (fun e => ∃ w', e = Sum.inl w' ∧ Gk (k + 1) w') := by
  obtain ⟨v, d', C', o', oT', e7, h1, h2⟩ := hs
  rw [rt_onL, rt_bind]
  refine ⟨hK.1.1, (h1 w hK).mono ?_⟩
  rintro ⟨v1, w1⟩ ⟨e1, k1, c1⟩
  dsimp only at e1 k1 c1 ⊢
  rw [rt_onL, rt_bind]
  have m1 := hM.cF c1 k1.1.1
  refine ⟨k1.1.1, (h2 w1 m1).mono ?_⟩
  rintro ⟨v2, w2⟩ ⟨e2, m2, z2⟩
  dsimp only at e2 m2 z2 ⊢
  rw [if_pos (e1.trans e2.symm), rt_some]
  exact ⟨w2, rfl, d', C', o', oT', by omega, k1.zF z2, m2⟩
theorem law_step (n : Nat) (xs : Nat → Int32) (hn : n ≤ 3072) (hnear : ∀ d C, Ok d C → OkT d → d 0 7 < 1000 → ∀ x, StpB d C (f_X11_near x) (f_X12_near x)) (hlaw : ∀ d C, Ok d C → OkT d → d 0 7 < 1000 → ∀ x y, StpB d C (f_X11_law x y) (f_X12_law x y)) {k : Nat} {w : Mm} (hk : 6 * k + 6 ≤ n) (h : Gk k w) : Rt (l_L_law_18 n xs (nI (6 * k), w)) (Nx (fun s => s.1 = nI (6 * (k + 1)) ∧ Gk (k + 1) s.2) (fun _ => False)) := by
  obtain ⟨d, C, o, oT, h7, hK, hM⟩ := h
  have hst : d 0 7 < 2 ^ 31 := by omega
  have h1000 : d 0 7 < 1000 := by omega
  have hb : ∀ j, j < 6 → inb (nI (6 * k) + nI j) n = true := fun j hj => by rw [nI_add]; exact inb_nI (by omega) (by omega)
  have b1 : inb (nI (6 * k) + 1) n = true := hb 1 (by decide)
  have b2 : inb (nI (6 * k) + 2) n = true := hb 2 (by decide)
  have b3 : inb (nI (6 * k) + 3) n = true := hb 3 (by decide)
  have b4 : inb (nI (6 * k) + 4) n = true := hb 4 (by decide)
  have b5 : inb (nI (6 * k) + 5) n = true := hb 5 (by decide)
  unfold l_L_law_18
  dsimp only
  rw [if_neg (show ¬ nI n - 6 < nI (6 * k) by rw [show nI n - 6 = nI (n - 6) from pk_sub (b := 6) (by omega)]; exact nI_nlt (by omega) (by omega)), if_pos (inb_nI (by omega) (by omega)), rt_mg]
  refine Rt.mono (Q := fun e => ∃ w', e = Sum.inl w' ∧ Gk (k + 1) w') ?_ (fun e he => by
    obtain ⟨w', rfl, hg⟩ := he
    dsimp only
    rw [rt_some, nx_l]
    exact ⟨nI_add (6 * k) 6, hg⟩)
  generalize xs (ix (nI (6 * k))) &&& (31 : Int32) = z
  generalize xs (ix (nI (6 * k) + 1)) = y1
  generalize xs (ix (nI (6 * k) + 2)) = y2
  generalize xs (ix (nI (6 * k) + 3)) = y3
  generalize xs (ix (nI (6 * k) + 4)) = y4
  generalize xs (ix (nI (6 * k) + 5)) = y5
  have back : Gk (k + 1) w := ⟨d, C, o, oT, by omega, hK, hM⟩
  by_cases q0 : z = 0
  · rw [if_pos q0, if_pos b1, if_pos b2, if_pos b3]
    exact stp_go (st_word o oT y1 y2 y3) h7 hK hM (fun v => Sum.inr (1, v))
  rw [if_neg q0]
  by_cases q1 : z = 1
  · rw [if_pos q1, if_pos b1, if_pos b2]
    exact stp_go (st_people o oT y1 y2) h7 hK hM (fun v => Sum.inr (2, v))
  rw [if_neg q1]
  by_cases q2 : z = 2
  · rw [if_pos q2, if_pos b1, if_pos b2, if_pos b3, if_pos b4]
    exact stp_go (st_want o oT y1 y2 y3 y4) h7 hK hM (fun v => Sum.inr (3, v))
  rw [if_neg q2]
  by_cases q3 : z = 3
  · rw [if_pos q3, if_pos b1, if_pos b2]
    exact stp_go (st_often o oT y1 y2) h7 hK hM (fun v => Sum.inr (4, v))
  rw [if_neg q3]
  by_cases q4 : z = 4
  · rw [if_pos q4, if_pos b1]
    exact stp_go (st_silence o oT y1) h7 hK hM (fun v => Sum.inr (5, v))
  rw [if_neg q4]
  by_cases q5 : z = 5
  · rw [if_pos q5, if_pos b1, if_pos b2, if_pos b3, if_pos b4, if_pos b5]
    exact stp_go (st_feed o oT y1 y2 y3 y4 y5) h7 hK hM (fun v => Sum.inr (6, v))
  rw [if_neg q5]
  by_cases q6 : z = 6
  · rw [if_pos q6, if_pos b1]
    exact stp_go (hnear d C o oT h1000 y1) h7 hK hM (fun v => Sum.inr (7, v))
  rw [if_neg q6]
  by_cases q7 : z = 7
  · rw [if_pos q7, if_pos b1, if_pos b2]
    exact stp_go ((ag_brief o y1 y2).stp o oT) h7 hK hM (fun v => Sum.inr (8, v))
  rw [if_neg q7]
  by_cases q8 : z = 8
  · rw [if_pos q8, if_pos b1, if_pos b2, if_pos b3]
    exact stp_go ((ag_how o y1 y2 y3).stp o oT) h7 hK hM (fun v => Sum.inr (9, v))
  rw [if_neg q8]
  by_cases q9 : z = 9
  · rw [if_pos q9, if_pos b1, if_pos b2, if_pos b3]
    exact stp_go ((ag_sayable o hst y1 y2 y3).stp o oT) h7 hK hM (fun v => Sum.inr (10, v))
  rw [if_neg q9]
  by_cases q10 : z = 10
  · rw [if_pos q10, if_pos b1, if_pos b2]
    exact stp_go ((ag_talk o hst y1 y2).stp o oT) h7 hK hM (fun v => Sum.inr (11, v))
  rw [if_neg q10]
  by_cases q11 : z = 11
  · rw [if_pos q11, if_pos b1]
    exact stp_go ((ag_musts o hst y1).stp o oT) h7 hK hM (fun v => Sum.inr (12, v))
  rw [if_neg q11]
  by_cases q12 : z = 12
  · rw [if_pos q12, if_pos b1]
    exact stp_go (st_strike o oT y1) h7 hK hM (fun v => Sum.inr (13, v))
  rw [if_neg q12]
  by_cases q13 : z = 13
  · rw [if_pos q13, if_pos b1]
    exact stp_go ((ag_costs o hst y1).stp o oT) h7 hK hM (fun v => Sum.inr (14, v))
  rw [if_neg q13]
  by_cases q14 : z = 14
  · rw [if_pos q14]
    exact stp_go ((ag_least o hst ).stp o oT) h7 hK hM (fun v => Sum.inr (15, v))
  rw [if_neg q14]
  by_cases q15 : z = 15
  · rw [if_pos q15, if_pos b1]
    exact stp_go ((ag_spite o hst y1).stp o oT) h7 hK hM (fun v => Sum.inr (16, v))
  rw [if_neg q15]
  by_cases q16 : z = 16
  · rw [if_pos q16, if_pos b1]
    exact stp_go ((ag_vote o hst y1).stp o oT) h7 hK hM (fun v => Sum.inr (17, v))
  rw [if_neg q16]
  by_cases q17 : z = 17
  · rw [if_pos q17, if_pos b1, if_pos b2]
    exact stp_go ((ag_order o hst y1 y2).stp o oT) h7 hK hM (fun v => Sum.inr (18, v))
  rw [if_neg q17]
  by_cases q18 : z = 18
  · rw [if_pos q18, if_pos b1]
    exact stp_go ((ag_gap o hst y1).stp o oT) h7 hK hM (fun v => Sum.inr (19, v))
  rw [if_neg q18]
  by_cases q19 : z = 19
  · rw [if_pos q19, if_pos b1, if_pos b2]
    exact stp_go (st_row o oT hst y1 y2) h7 hK hM (fun v => Sum.inr (20, v))
  rw [if_neg q19]
  by_cases q20 : z = 20
  · rw [if_pos q20]
    exact stp_go ((ag_till o hst ).stp o oT) h7 hK hM (fun v => Sum.inr (21, v))
  rw [if_neg q20]
  by_cases q21 : z = 21
  · rw [if_pos q21, if_pos b1, if_pos b2]
    exact stp_go ((ag_kept o hst y1 y2).stp o oT) h7 hK hM (fun v => Sum.inr (22, v))
  rw [if_neg q21]
  by_cases q22 : z = 22
  · rw [if_pos q22, if_pos b1]
    exact stp_go ((ag_back o hst y1).stp o oT) h7 hK hM (fun v => Sum.inr (23, v))
  rw [if_neg q22]
  by_cases q23 : z = 23
  · rw [if_pos q23, if_pos b1]
    exact stp_go ((ag_told o y1).stp o oT) h7 hK hM (fun v => Sum.inr (24, v))
  rw [if_neg q23]
  by_cases q24 : z = 24
  · rw [if_pos q24, if_pos b1]
    exact stp_go ((ag_leads o y1).stp o oT) h7 hK hM (fun v => Sum.inr (25, v))
  rw [if_neg q24]
  by_cases q25 : z = 25
  · rw [if_pos q25]
    exact stp_go ((ag_round o ).stp o oT) h7 hK hM (fun v => Sum.inr (26, v))
  rw [if_neg q25]
  by_cases q26 : z = 26
  · rw [if_pos q26]
    exact stp_go ((ag_fewest o ).stp o oT) h7 hK hM (fun v => Sum.inr (27, v))
  rw [if_neg q26]
  by_cases q27 : z = 27
  · rw [if_pos q27, if_pos b1, if_pos b2]
    exact stp_go (hlaw d C o oT h1000 y1 y2) h7 hK hM (fun v => Sum.inr (28, v))
  rw [if_neg q27]
  by_cases q28 : z = 28
  · rw [if_pos q28, if_pos b1, if_pos b2]
    exact stp_go (st_lawIs o oT y1 y2) h7 hK hM (fun v => Sum.inr (29, v))
  rw [if_neg q28]
  by_cases q29 : z = 29
  · rw [if_pos q29, if_pos b1, if_pos b2]
    exact stp_go ((ag_madeUp o hst y1 y2).stp o oT) h7 hK hM (fun v => Sum.inr (30, v))
  rw [if_neg q29]
  by_cases q30 : z = 30
  · rw [if_pos q30, if_pos b1, if_pos b2]
    exact stp_go (st_check o oT y1 y2) h7 hK hM (fun v => Sum.inr (31, v))
  rw [if_neg q30]
  by_cases q31 : z = 31
  · obtain ⟨v, v1, v2⟩ := st_count o oT y1
    rw [if_pos q31, if_pos b1, rt_onL, v1 w hK, Option.bind_some, v2 w hM, Option.bind_some, if_pos rfl, rt_some]
    exact ⟨hK.1.1, w, rfl, back⟩
  rw [if_neg q31, rt_some]
  exact ⟨w, rfl, back⟩
theorem law_main (n : Nat) (xs : Nat → Int32) (hn : n ≤ 3072) (hnear : ∀ d C, Ok d C → OkT d → d 0 7 < 1000 → ∀ x, StpB d C (f_X11_near x) (f_X12_near x)) (hlaw : ∀ d C, Ok d C → OkT d → d 0 7 < 1000 → ∀ x y, StpB d C (f_X11_law x y) (f_X12_law x y)) : ∃ w1, f_L_law n xs wE = some (1, w1) := by
  have go : ∀ w, KT d0 C0 w → MT d0 C0 w → Rt (wh (l_L_law_18 n xs) FUEL ((0 : Int32), w)) (fun p => p.1 = 0) := fun w hK hM => by
    refine rt_for (fun k (s : Int32 × Mm) => s.1 = nI (6 * k) ∧ Gk k s.2) (n / 6) ?_ ?_ ⟨rfl, d0, C0, ok0.1, ok0.2, by rw [d0_z (by omega) (by omega)]; omega, hK, hM⟩ (by omega)
    · rintro k ⟨s1, w1⟩ hk ⟨h1, h2⟩
      dsimp only at h1 h2
      subst h1
      refine (law_step n xs hn hnear hlaw (by omega) h2).mono ?_
      rintro e he
      cases e with
      | inl s => exact he
      | inr x => exact he.elim
    · rintro ⟨s1, w1⟩ ⟨h1, h2⟩
      dsimp only at h1 h2
      subst h1
      unfold l_L_law_18
      dsimp only
      rw [if_pos ?_, rt_some, nx_r]
      by_cases c : 6 ≤ n
      · rw [show nI n - 6 = nI (n - 6) from pk_sub (b := 6) c]
        exact nI_lt (by omega) (by omega)
      · have e : n / 6 = 0 := by omega
        rw [e]
        exact (by decide : ∀ n, n < 6 → nI n - 6 < nI (6 * 0)) n (by omega)
  obtain ⟨w, e, hK, hM⟩ := iw_ok
  obtain ⟨p, ep, hp⟩ := go w hK hM
  have hR : Rt (f_L_law n xs wE) (fun r => r.1 = 1) := by
    unfold f_L_law
    have hi : Rt (iw wE) (fun w' => w' = w) := ⟨w, e, rfl⟩
    unfold iw at hi
    rw [rt_bind] at hi ⊢
    refine hi.mono (fun p1 h1 => ?_)
    rw [rt_bind] at h1 ⊢
    refine h1.mono (fun p2 h2 => ?_)
    rw [rt_gd] at h2 ⊢
    refine ⟨h2.1, ?_⟩
    have h3 := h2.2
    rw [rt_bind] at h3 ⊢
    refine h3.mono (fun p4 h4 => ?_)
    rw [rt_bind] at h4 ⊢
    refine h4.mono (fun p5 h5 => ?_)
    rw [rt_gd, rt_some] at h5
    rw [rt_gd, h5.2, rt_bind]
    exact ⟨h5.1, p, ep, by dsimp only; rw [if_pos hp, rt_some]⟩
  obtain ⟨⟨v, w1⟩, e1, e2⟩ := hR
  dsimp only at e2
  subst e2
  exact ⟨w1, e1⟩
