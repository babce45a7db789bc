/-! the class reads a LAW's text -/
section Lcl4
variable {d : Dt} {n : Nat}
theorem flt_n0 {c p : Nat} (h1 : c < 6) (h2 : 0 < c) (h3 : p ≤ 300) : ¬ flt c p = 0 := fun y => by
  have := flt_neg c h1 h2 p (by omega)
  rw [y] at this
  exact absurd this (by decide)
theorem k_lw (o : OkL d) (oT : OkT d) (hn : n ≤ d 0 5) : ∀ (f j op p : Nat) (cn jn : Nat → Nat) (w : Mm), j < 3 → op ≤ 6 → (j = 0 → 3 * (6 - op) + 2 ≤ f) → (j = 1 → 3 * (6 - op) + 3 ≤ f) → (j = 2 → 3 * (6 - op) + 1 ≤ f) → p ≤ n → Lay w → CLx d w → Tx d n p 0 w → CSt d cn jn w → Rt (rc_X6_both f j 40 (nI op) w) (LQ d n p cn jn (lwS d n f j op p) w)
  | 0, j, op, p, cn, jn, w, hj, hop, n0, n1, n2, hp, hL, hx, h, hC => by omega
  | f + 1, j, op, p, cn, jn, w, hj, hop, n0, n1, n2, hp, hL, hx, h, hC => by
    have o5 := oT.1
    rcases (by omega : j = 0 ∨ j = 1 ∨ j = 2) with rfl | rfl | rfl
    · have hf := n0 rfl
      rw [rc_X6_both, if_pos rfl, lwS]
      unfold gf_X6_both
      rw [rt_bind]
      refine (k_lw o oT hn f 2 op p cn jn w (by decide) hop (by omega) (by omega) (by omega) hp hL hx h hC).mono ?_
      rintro ⟨v, w1⟩ ⟨f1, hr⟩
      dsimp only at f1 hr ⊢
      rw [rt_bind]
      rcases hr with ⟨e', p', e1, e2, t⟩ | ⟨p', m', c', q', e1, e2, e3, e4, e5, e6, e7⟩
      · rw [e1]
        dsimp only
        refine Rt.mono (Q := fun r => r.2 = w1) (rt_for (fun k (s : Int32 × Int32 × Mm) => s.2.1 = 0 ∧ s.2.2 = w1) 0 (fun k s hk => absurd hk (Nat.not_lt_zero k)) ?_ ⟨rfl, rfl⟩ (by decide)) ?_
        · rintro ⟨s1, s2, s3⟩ ⟨y1, y2⟩
          dsimp only at y1 y2
          subst y1 y2
          unfold l_X6_both_8
          dsimp only
          rw [if_neg (by decide), rt_onL, k_signF t e2, Option.bind_some, if_pos (by decide), rt_some, nx_r]
          exact ⟨f1.lay hL, rfl⟩
        · rintro ⟨s1, s2⟩ y
          dsimp only at y
          subst y
          rw [rt_some]
          exact ⟨f1, Or.inl ⟨e', p', rfl, e2, t⟩⟩
      · rw [e1]
        dsimp only
        rw [e5]
        refine (k_bothL oT hn (S := lwS d n f 2 op) (fun p cn jn w a1 a2 a3 a4 a5 => k_lw o oT hn f 2 op p cn jn w (by decide) hop (by omega) (by omega) (by omega) a1 a2 a3 a4 a5) 60 0 p' m' c' q' cn jn w1 FUEL rfl (by decide) e3 e4 (f1.lay hL) (lx_fx hx f1) e6 e7).mono ?_
        rintro r ⟨g1, g2⟩
        rw [rt_some]
        refine ⟨f1.tr g1, ?_⟩
        rcases g2 with g2 | ⟨p2, m2, c2, q2, y1, y2, y3⟩
        · exact Or.inl g2
        · exact Or.inr ⟨p2, m2, c2, q2, y1, by omega, y3⟩
    · have hf := n1 rfl
      rw [rc_X6_both, if_neg (by decide), if_pos rfl, lwS]
      unfold gf_X6_either
      rw [rt_bind]
      refine (k_lw o oT hn f 0 op p cn jn w (by decide) hop (by omega) (by omega) (by omega) hp hL hx h hC).mono ?_
      rintro ⟨v, w1⟩ ⟨f1, hr⟩
      dsimp only at f1 hr ⊢
      rw [rt_bind]
      rcases hr with ⟨e', p', e1, e2, t⟩ | ⟨p', m', c', q', e1, e2, e3, e4, e5, e6, e7⟩
      · rw [e1]
        dsimp only
        refine Rt.mono (Q := fun r => r.2 = w1) (rt_for (fun k (s : Int32 × Int32 × Mm) => s.2.1 = 0 ∧ s.2.2 = w1) 0 (fun k s hk => absurd hk (Nat.not_lt_zero k)) ?_ ⟨rfl, rfl⟩ (by decide)) ?_
        · rintro ⟨s1, s2, s3⟩ ⟨y1, y2⟩
          dsimp only at y1 y2
          subst y1 y2
          unfold l_X6_either_8
          dsimp only
          rw [if_neg (by decide), rt_onL, k_signF t e2, Option.bind_some, if_neg (by decide), rt_some, nx_r]
          exact ⟨f1.lay hL, rfl⟩
        · rintro ⟨s1, s2⟩ y
          dsimp only at y
          subst y
          rw [rt_some]
          exact ⟨f1, Or.inl ⟨e', p', rfl, e2, t⟩⟩
      · rw [e1]
        dsimp only
        rw [e5]
        refine (k_eitherL oT hn (S := lwS d n f 0 op) (fun p cn jn w a1 a2 a3 a4 a5 => k_lw o oT hn f 0 op p cn jn w (by decide) hop (by omega) (by omega) (by omega) a1 a2 a3 a4 a5) 60 0 p' m' c' q' cn jn w1 FUEL rfl (by decide) e3 e4 (f1.lay hL) (lx_fx hx f1) e6 e7).mono ?_
        rintro r ⟨g1, g2⟩
        rw [rt_some]
        refine ⟨f1.tr g1, ?_⟩
        rcases g2 with g2 | ⟨p2, m2, c2, q2, y1, y2, y3⟩
        · exact Or.inl g2
        · exact Or.inr ⟨p2, m2, c2, q2, y1, by omega, y3⟩
    · have hf := n2 rfl
      have bad : ∀ c, c < 6 → 0 < c → LQ d n p cn jn (.inl (flt c p)) w (0, sI w 12 4 (flt c p)) := fun c h1 h2 => ⟨fx.sI (Or.inl ⟨rfl, by decide⟩), Or.inl ⟨_, p, rfl, flt_n0 h1 h2 (by omega), (k_fail h c).2⟩⟩
      rw [rc_X6_both, if_neg (by decide), if_neg (by decide), lwS]
      · unfold gf_X6_single
        rw [k_sign oT hn (by omega) h, Option.bind_some]
        cases e : sg d n p with
        | none =>
          dsimp only
          rw [show oI none = -1 from rfl, if_pos (by decide), if_pos (by decide), show (1 : Int32) = nI 1 from rfl, (k_fail h 1).1, Option.bind_some, rt_some]
          exact bad 1 (by decide) (by decide)
        | some b =>
          obtain ⟨hb, hpn⟩ := sg_lt oT e
          dsimp only
          rw [show oI (some b) = nI b from rfl, (sS_N hb).1, (sS_N hb).2]
          by_cases q1 : 97 ≤ b ∧ b ≤ 106
          · rw [if_pos q1, decide_eq_true q1.1, decide_eq_true q1.2, if_neg (by decide), show nI b - 97 = nI (b - 97) from pk_sub (b := 97) q1.1, rt_bind]
            refine (k_letter o (by omega) hpn (by omega) hL hx h hC).mono ?_
            rintro r hr
            rw [rt_some]
            exact hr
          · have z1 : (decide (97 ≤ b) && decide (b ≤ 106)) = false := by
              cases z : (decide (97 ≤ b) && decide (b ≤ 106)) with
              | false => rfl
              | true => exact absurd (by simpa using z) q1
            rw [if_neg q1, z1, if_pos (by decide)]
            by_cases q2 : b = 45 ∨ b = 40
            · have z2 : stS (some b) = true := by rcases q2 with rfl | rfl <;> rfl
              rw [if_pos q2, z2, if_neg (by decide)]
              unfold f_X8_opens
              by_cases q3 : op < 6
              · rw [if_pos q3, if_pos (show nI op < 6 from nI_lt (b := 6) q3 (by decide)), Option.bind_some]
                dsimp only
                rw [if_neg (by decide)]
                have t0 := k_stp h
                by_cases q4 : b = 45
                · subst q4
                  rw [if_pos (by rfl), if_pos rfl, rt_onL, rt_bind, nI_1]
                  have f0 : fx wrL w (sI (sI w 12 3 (gI w 12 3 + 1)) 40 6 (gI (sI w 12 3 (gI w 12 3 + 1)) 40 6 + 1)) := (fx.sI (Or.inl ⟨rfl, by decide⟩)).tr (fx.sI (Or.inr rfl))
                  refine ⟨hL, (k_lw o oT hn f 2 (op + 1) (p + 1) cn (plus jn (one1 1)) _ (by decide) (by omega) (by omega) (by omega) (by omega) hpn (f0.lay hL) (lx_fx hx f0) ⟨t0.1.of rfl rfl rfl (fun _ => rfl), t0.2.1, t0.2.2.1, t0.2.2.2⟩ ⟨hC.1, hC.2.1, ?_, hC.2.2.2.1, hC.2.2.2.2⟩).mono ?_⟩
                  · rw [gI_sI, if_pos ⟨rfl, rfl⟩, show gI (sI w 12 3 (gI w 12 3 + 1)) 40 6 = gI w 40 6 from rfl, hC.2.2.1, nI_1]
                    rfl
                  · rintro ⟨v, w1⟩ ⟨f1, hr⟩
                    dsimp only at f1 hr ⊢
                    rw [rt_some]
                    refine ⟨f0.tr f1, ?_⟩
                    rcases hr with ⟨e', p', e1, e2, t⟩ | ⟨p', m', c', q', e1, e2, e3, e4, e5, e6, e7⟩
                    · rw [e1]; exact Or.inl ⟨e', p', rfl, e2, t⟩
                    · rw [e1]
                      refine Or.inr ⟨p', 63 ^^^ m', c', plus q' (one1 1), rfl, by omega, e3, Nat.xor_lt_two_pow (n := 6) (by decide) e4, ?_, e6, ?_⟩
                      · dsimp only
                        rw [e5]
                        exact fb_xorI 63 m'
                      · have a2 : plus (plus jn (one1 1)) q' = plus jn (plus q' (one1 1)) := funext (fun i => by unfold plus; omega)
                        rw [← a2]
                        exact e7
                · have q5 : b = 40 := by omega
                  subst q5
                  rw [if_neg (by decide), if_neg (by decide), rt_onL, rt_bind, nI_1]
                  have f0 : fx wrL w (sI w 12 3 (gI w 12 3 + 1)) := fx.sI (Or.inl ⟨rfl, by decide⟩)
                  refine ⟨hL, (k_lw o oT hn f 1 (op + 1) (p + 1) cn jn _ (by decide) (by omega) (by omega) (by omega) (by omega) hpn (f0.lay hL) (lx_fx hx f0) t0 hC).mono ?_⟩
                  rintro ⟨v, w1⟩ ⟨f1, hr⟩
                  dsimp only at f1 hr ⊢
                  have f2 := f0.tr f1
                  rw [rt_onL, show (41 : Int32) = nI 41 from rfl]
                  refine ⟨f2.lay hL, ?_⟩
                  rcases hr with ⟨e', p', e1, e2, t⟩ | ⟨p', m', c', q', e1, e2, e3, e4, e5, e6, e7⟩
                  · rw [e1, k_passF t e2 (by decide), Option.bind_some, rt_some]
                    exact ⟨f2, Or.inl ⟨e', p', rfl, e2, t⟩⟩
                  · rw [e1]
                    dsimp only
                    have z := k_pass oT hn (by omega) e6 (b := 41) (by decide)
                    by_cases q6 : sg d n p' = some 41
                    · have hp'' := (sg_lt oT q6).2
                      have t1 := k_stp e6
                      rw [z.1 q6, if_pos q6, Option.bind_some, rt_some]
                      exact ⟨f2.tr (fx.sI (Or.inl ⟨rfl, by decide⟩)), Or.inr ⟨p' + 1, m', c', q', rfl, by omega, by omega, e4, e5, t1, e7⟩⟩
                    · rw [z.2 q6, if_neg q6, Option.bind_some, rt_some]
                      exact ⟨f2.tr (fx.sI (Or.inl ⟨rfl, by decide⟩)), Or.inl ⟨_, p', rfl, flt_n0 (by decide) (by decide) (by omega), (k_fail e6 1).2⟩⟩
              · rw [if_neg q3, if_neg (show ¬ nI op < 6 from nI_nlt (b := 6) (by omega) (by omega)), show (5 : Int32) = nI 5 from rfl, (k_fail h 5).1, Option.bind_some, Option.bind_some, if_pos rfl, rt_some]
                exact bad 5 (by decide) (by decide)
            · have z2 : stS (some b) = false := by
                unfold stS
                simp only [z1, Bool.or_false]
                simp
                omega
              rw [if_neg q2, z2, if_pos (by decide), show (1 : Int32) = nI 1 from rfl, (k_fail h 1).1, Option.bind_some, rt_some]
              exact bad 1 (by decide) (by decide)
      · intro z; omega
      · intro z; omega
end Lcl4
