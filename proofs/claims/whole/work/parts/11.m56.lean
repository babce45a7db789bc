/-! the class reads a LAW's text: OR, one, all -/
section Lcl2
variable {d : Dt} {n : Nat}
theorem sP_o (oT : OkT d) (p : Nat) : oI (sg d n p) = (43 : Int32) ↔ stP (sg d n p) = true := by
  cases e : sg d n p with
  | none => decide
  | some b =>
    have hb := (sg_lt oT e).1
    show nI b = nI 43 ↔ (b == 43) = true
    rw [nI_eq (by omega) (by decide)]
    simp
theorem k_eitherL (oT : OkT d) (hn : n ≤ d 0 5) {rec : Nat → Nat → Int32 → Mm → Option (Int32 × Mm)} {S : Nat → Lr} {o : Nat} (hS : ∀ p cn jn w, p ≤ n → Lay w → CLx d w → Tx d n p 0 w → CSt d cn jn w → Rt (rec 0 40 (nI o) w) (LQ d n p cn jn (S p) w)) : ∀ (k i p m : Nat) (c q cn jn : Nat → Nat) (w : Mm) (N : Nat), i + k = 60 → k + 1 < N → p ≤ n → m < 64 → Lay w → CLx d w → Tx d n p 0 w → CSt d (plus cn c) (plus jn q) w → Rt (wh (l_X6_either_8 rec 40 (nI o)) N (nI m, nI i, w)) (fun r => fx wrL w r.2 ∧ ((∃ e p', lwL d n S stP 1 3 (fun a b => a ||| b) k p m c q = .inl e ∧ ¬ e = 0 ∧ Tx d n p' e r.2) ∨ ∃ p' m' c' q', lwL d n S stP 1 3 (fun a b => a ||| b) k p m c q = .inr (p', m', c', q') ∧ p ≤ p' ∧ p' ≤ n ∧ m' < 64 ∧ r.1 = nI m' ∧ Tx d n p' 0 r.2 ∧ CSt d (plus cn c') (plus jn q') r.2))
  | 0, i, p, m, c, q, cn, jn, w, N + 1, hi, hN, hp, hm, hL, hx, h, hC => by
    refine rt_step ?_
    unfold l_X6_either_8
    dsimp only
    rw [if_pos (show (60 : Int32) ≤ nI i by rw [show i = 60 by omega]; decide), rt_some, nx_r]
    exact ⟨fx.rf, Or.inr ⟨p, m, c, q, rfl, Nat.le_refl _, hp, hm, rfl, h, hC⟩⟩
  | k + 1, i, p, m, c, q, cn, jn, w, N + 1, hi, hN, hp, hm, hL, hx, h, hC => by
    have o5 := oT.1
    refine rt_step ?_
    unfold l_X6_either_8
    dsimp only
    rw [if_neg (show ¬ (60 : Int32) ≤ nI i from nI_ge (b := 60) (by omega) (by decide)), rt_onL, k_sign oT hn (by omega) h, Option.bind_some]
    refine ⟨hL, ?_⟩
    rw [lwL]
    cases e : stP (sg d n p) with
    | false =>
      rw [if_neg (fun z => by have := (sP_o oT p).mp z; rw [e] at this; cases this), rt_some, nx_r, if_neg (by decide)]
      exact ⟨fx.rf, Or.inr ⟨p, m, c, q, rfl, Nat.le_refl _, hp, hm, rfl, h, hC⟩⟩
    | true =>
      have hpn : p < n := by
        cases z : sg d n p with
        | none => rw [z] at e; cases e
        | some b => exact (sg_lt oT z).2
      unfold f_X8_step
      rw [if_pos ((sP_o oT p).mpr e), if_pos rfl, Option.bind_some, rt_onL, rt_bind]
      have f0 : fx wrL w (sI (sI w 12 3 (gI w 12 3 + 1)) 40 8 (gI (sI w 12 3 (gI w 12 3 + 1)) 40 8 + 1)) := (fx.sI (Or.inl ⟨rfl, by decide⟩)).tr (fx.sI (Or.inr rfl))
      have t0 := k_stp h
      refine ⟨hL, (hS (p + 1) (plus cn c) (plus jn (plus q (one1 3))) _ hpn (f0.lay hL) (lx_fx hx f0) ⟨t0.1.of rfl rfl rfl (fun _ => rfl), t0.2.1, t0.2.2.1, t0.2.2.2⟩ ⟨hC.1, hC.2.1, hC.2.2.1, hC.2.2.2.1, ?_⟩).mono ?_⟩
      · rw [gI_sI, if_pos ⟨rfl, rfl⟩, show gI (sI w 12 3 (gI w 12 3 + 1)) 40 8 = gI w 40 8 from rfl, hC.2.2.2.2, nI_1]
        rfl
      · rintro ⟨v, w1⟩ ⟨f1, hr⟩
        dsimp only at f1 hr ⊢
        have f2 := f0.tr f1
        rw [rt_some, nx_l]
        rcases hr with ⟨e', p', e1, e2, t⟩ | ⟨p', m', c', q', e1, e2, e3, e4, e5, e6, e7⟩
        · rw [e1]
          dsimp only
          cases N with
          | zero => omega
          | succ N =>
            refine rt_step ?_
            dsimp only
            rw [rt_ite]
            refine ⟨fun _ => ?_, fun _ => ?_⟩
            · rw [rt_some, nx_r]
              exact ⟨f2, Or.inl ⟨e', p', rfl, e2, t⟩⟩
            · rw [rt_onL, k_signF t e2, Option.bind_some, if_neg (by decide), rt_some, nx_r]
              exact ⟨f2.lay hL, f2, Or.inl ⟨e', p', rfl, e2, t⟩⟩
        · rw [e1]
          dsimp only
          rw [e5, fa_or, nI_1]
          refine (k_eitherL oT hn hS k (i + 1) p' (m ||| m') (plus c c') (plus (plus q q') (one1 3)) cn jn w1 N (by omega) (by omega) e3 (or_lt64 hm e4) (f2.lay hL) (lx_fx hx f2) e6 ?_).mono ?_
          · have a1 : plus (plus cn c) c' = plus cn (plus c c') := plus_a _ _ _
            have a2 : plus (plus jn (plus q (one1 3))) q' = plus jn (plus (plus q q') (one1 3)) := funext (fun i => by unfold plus; omega)
            rw [← a1, ← a2]
            exact e7
          · rintro r ⟨g1, g2⟩
            refine ⟨f2.tr g1, ?_⟩
            rcases g2 with g2 | ⟨p2, m2, c2, q2, y1, y2, y3⟩
            · exact Or.inl g2
            · exact Or.inr ⟨p2, m2, c2, q2, y1, by omega, y3⟩
end Lcl2
