/-! the class's LAW, whole -/
theorem k_law {d : Dt} {C : Ct} {w : Mm} {i n : Nat} (o : Ok d C) (oT : OkT d) (h : KT d C w) (hi : i < 4) (hn1 : 1 ≤ n) (hn60 : n ≤ 60) (hn : n ≤ d 0 5) : Rt (f_X11_law (nI i) (nI n) w) (fun r => cF w r.2 ∧ ((∃ e, lawR d n = .inl e ∧ e < 0 ∧ r.1 = e ∧ KT (wip d) C r.2) ∨ ∃ m c q, lawR d n = .inr (m, c, q) ∧ m < 64 ∧ r.1 = nI m ∧ KT (lwd (wip d) i m c q) C r.2)) := by
  have o5 := oT.1
  unfold f_X11_law f_X8_wipe
  rw [if_neg (show ¬ f_X11_within (nI i) 0 3 = 0 from (within_iffN (a := 0) (b := 3) (by decide) (by decide)).mpr ⟨i, by omega, by omega, rfl⟩), if_neg (show ¬ f_X11_within (nI n) 1 60 = 0 from (within_iffN (a := 1) (b := 60) (by decide) (by decide)).mpr ⟨n, by omega, by omega, rfl⟩), h.2.1.1, if_pos (nI_le hn (by omega)), rt_bind]
  refine (k_read o.1 oT hn hn60 h.1.1 h.1.2.1 h.2.1).mono ?_
  rintro ⟨v, w1⟩ ⟨f1, hr⟩
  dsimp only at f1 hr ⊢
  have k1 := h.rd f1
  have k2 := k1.1.wipe
  rw [rt_onL, Option.bind_some]
  refine ⟨k1.1.1.1, ?_⟩
  rcases hr with ⟨e, e1, e2, e3⟩ | ⟨m, c, q, e1, e2, e3, e4, e5, e6⟩
  · subst e3
    rw [if_pos e2, rt_some]
    exact ⟨k1.2.tr k2.2, Or.inl ⟨v, e1, e2, rfl, k2.1⟩⟩
  · rw [e3, if_neg (nI_pos (by omega)), rt_onL, if_pos (inb_nI hi (by decide)), ix_nI (by omega), rt_onq, (rl_of k2.1.1.1 hi).1]
    refine ⟨k2.1.1.1, fun z => (by cases z), fun a ha => ?_⟩
    rw [rt_onq]
    refine ⟨fun z => (by cases z), fun b hb => ?_⟩
    cases hb
    rw [if_pos (rl_of k2.1.1.1 hi).2, rt_bind]
    refine (x6_take (a := 36 + i) (by omega) (w := sI w1 12 1 0) (by show isB (gI w1 40 2) = true; rw [e4]; decide)).mono ?_
    rintro w3 ⟨f3, y2, y3, y4, y5, y6, y7, y8⟩
    rw [rt_some]
    have k3 := k2.1.tl (m := m) (c := c) (q := q) hi f3 (y2.trans e4) (y3.trans e5) (y4.trans e6.1) (y5.trans (by rw [wip_o.1 3 (by omega) (by omega)]; exact e6.2.1)) (y6.trans e6.2.2.1) (y7.trans e6.2.2.2.1) (y8.trans e6.2.2.2.2)
    exact ⟨(k1.2.tr k2.2).tr k3.2, Or.inr ⟨m, c, q, e1, e2, rfl, k3.1⟩⟩
