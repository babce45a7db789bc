/-! the class reads a LAW's text as the descent says -/
theorem rt_step {σ ε : Type} {b : σ → Option (σ ⊕ ε)} {N : Nat} {s : σ} {Q : ε → Prop} (h : Rt (b s) (Nx (fun s' => Rt (wh b N s') Q) Q)) : Rt (wh b (N + 1) s) Q := by
  obtain ⟨e, h1, h2⟩ := h
  rw [wh, h1]
  cases e with
  | inl s' => exact h2
  | inr x => exact ⟨x, rfl, h2⟩
def CSt (d : Dt) (cn jn : Nat → Nat) (w : Mm) : Prop := gI w 40 4 = nI (lmk (fun k => decide (0 < cn k)) 10) ∧ gI w 40 5 = nI (fb_sm (fun k => cn k * d 3 k) 10) ∧ gI w 40 6 = nI (jn 1) ∧ gI w 40 7 = nI (jn 2) ∧ gI w 40 8 = nI (jn 3)
/-- what a reading leaves, with what it answers -/
def LQ (d : Dt) (n p : Nat) (cn jn : Nat → Nat) (R : Lr) (w : Mm) (r : Int32 × Mm) : Prop := fx wrL w r.2 ∧ ((∃ e p', R = .inl e ∧ ¬ e = 0 ∧ Tx d n p' e r.2) ∨ ∃ p' m c q, R = .inr (p', m, c, q) ∧ p < p' ∧ p' ≤ n ∧ m < 64 ∧ r.1 = nI m ∧ Tx d n p' 0 r.2 ∧ CSt d (plus cn c) (plus jn q) r.2)
section Lcl
variable {d : Dt} {n : Nat}
theorem lx_fx {w w' : Mm} (h : CLx d w) (f : fx wrL w w') : CLx d w' := by
  unfold CLx
  rw [f.I (by unfold wrL; omega), f.I (by unfold wrL; omega), f.I (by unfold wrL; omega)]
  refine ⟨h.1, h.2.1, h.2.2.1, fun j hj => ?_⟩
  rw [f.I (by unfold wrL; omega), f.I (by unfold wrL; omega), f.I (by unfold wrL; omega), f.I (by unfold wrL; omega)]
  exact h.2.2.2 j hj
theorem plus_0 (f : Nat → Nat) : plus f (fun _ => 0) = f := rfl
theorem plus_a (f g h : Nat → Nat) : plus (plus f g) h = plus f (plus g h) := funext (fun i => Nat.add_assoc _ _ _)
theorem sS_N {b : Nat} (hb : b < 256) : f_X6_startsSingle (nI b) = bI (stS (some b)) ∧ f_X6_isLetter (nI b) = bI (decide (97 ≤ b) && decide (b ≤ 106)) := (by decide +kernel : ∀ b, b < 256 → f_X6_startsSingle (nI b) = bI (stS (some b)) ∧ f_X6_isLetter (nI b) = bI (decide (97 ≤ b) && decide (b ≤ 106))) b hb
theorem sS_o (oT : OkT d) (p : Nat) : f_X6_startsSingle (oI (sg d n p)) = bI (stS (sg d n p)) := by
  cases e : sg d n p with
  | none => decide
  | some b => exact (sS_N (sg_lt oT e).1).1
/-- the turns of `both`, from a reading S of one -/
theorem k_bothL (oT : OkT d) (hn : n ≤ d 0 5) {rec : Nat → Nat → Int32 → Mm → Option (Int32 × Mm)} {S : Nat → Lr} {o : Nat} (hS : ∀ p cn jn w, p ≤ n → Lay w → CLx d w → Tx d n p 0 w → CSt d cn jn w → Rt (rec 2 40 (nI o) w) (LQ d n p cn jn (S p) w)) : ∀ (k i p m : Nat) (c q cn jn : Nat → Nat) (w : Mm) (N : Nat), i + k = 60 → k + 1 < N → p ≤ n → m < 64 → Lay w → CLx d w → Tx d n p 0 w → CSt d (plus cn c) (plus jn q) w → Rt (wh (l_X6_both_8 rec 40 (nI o)) N (nI m, nI i, w)) (fun r => fx wrL w r.2 ∧ ((∃ e p', lwL d n S stS 0 2 (fun a b => a &&& b) k p m c q = .inl e ∧ ¬ e = 0 ∧ Tx d n p' e r.2) ∨ ∃ p' m' c' q', lwL d n S stS 0 2 (fun a b => a &&& b) k p m c q = .inr (p', m', c', q') ∧ p ≤ p' ∧ p' ≤ n ∧ m' < 64 ∧ r.1 = nI m' ∧ Tx d n p' 0 r.2 ∧ CSt d (plus cn c') (plus jn q') r.2))
  | 0, i, p, m, c, q, cn, jn, w, N + 1, hi, hN, hp, hm, hL, hx, h, hC => by
    refine rt_step ?_
    unfold l_X6_both_8
    dsimp only
    rw [if_pos (show (60 : Int32) ≤ nI i by rw [show i = 60 by omega]; decide), rt_some, nx_r]
    exact ⟨fx.rf, Or.inr ⟨p, m, c, q, rfl, Nat.le_refl _, hp, hm, rfl, h, hC⟩⟩
  | k + 1, i, p, m, c, q, cn, jn, w, N + 1, hi, hN, hp, hm, hL, hx, h, hC => by
    have o5 := oT.1
    refine rt_step ?_
    unfold l_X6_both_8
    dsimp only
    rw [if_neg (show ¬ (60 : Int32) ≤ nI i from nI_ge (b := 60) (by omega) (by decide)), rt_onL, k_sign oT hn (by omega) h, Option.bind_some, sS_o oT]
    refine ⟨hL, ?_⟩
    rw [lwL]
    cases e : stS (sg d n p) with
    | false =>
      rw [if_pos (by decide), rt_some, nx_r, if_neg (by decide)]
      exact ⟨fx.rf, Or.inr ⟨p, m, c, q, rfl, Nat.le_refl _, hp, hm, rfl, h, hC⟩⟩
    | true =>
      rw [if_neg (by decide), if_pos rfl, rt_bind, Nat.add_zero]
      have f0 : fx wrL w (sI w 40 7 (gI w 40 7 + 1)) := fx.sI (Or.inr rfl)
      refine (hS p (plus cn c) (plus jn (plus q (one1 2))) _ hp (f0.lay hL) (lx_fx hx f0) ⟨h.1.of rfl rfl rfl (fun _ => rfl), h.2.1, h.2.2.1, h.2.2.2⟩ ⟨hC.1, hC.2.1, hC.2.2.1, ?_, hC.2.2.2.2⟩).mono ?_
      · rw [gI_sI, if_pos ⟨rfl, rfl⟩, hC.2.2.2.1, nI_1]
        rfl
      · rintro ⟨v, w1⟩ ⟨f1, hr⟩
        dsimp only at f1 hr ⊢
        have f2 := f0.tr f1
        rw [rt_some, nx_l]
        rcases hr with ⟨e', p', e1, e2, t⟩ | ⟨p', m', c', q', e1, e2, e3, e4, e5, e6, e7⟩
        · rw [e1]
          dsimp only
          cases N with
          | zero => omega
          | succ N =>
            refine rt_step ?_
            dsimp only
            rw [rt_ite]
            refine ⟨fun _ => ?_, fun _ => ?_⟩
            · rw [rt_some, nx_r]
              exact ⟨f2, Or.inl ⟨e', p', rfl, e2, t⟩⟩
            · rw [rt_onL, k_signF t e2, Option.bind_some, if_pos (by decide), rt_some, nx_r]
              exact ⟨f2.lay hL, f2, Or.inl ⟨e', p', rfl, e2, t⟩⟩
        · rw [e1]
          dsimp only
          rw [e5, fa_and, nI_1]
          refine (k_bothL oT hn hS k (i + 1) p' (m &&& m') (plus c c') (plus (plus q q') (one1 2)) cn jn w1 N (by omega) (by omega) e3 (Nat.lt_of_le_of_lt Nat.and_le_left hm) (f2.lay hL) (lx_fx hx f2) e6 ?_).mono ?_
          · have a1 : plus (plus cn c) c' = plus cn (plus c c') := plus_a _ _ _
            have a2 : plus (plus jn (plus q (one1 2))) q' = plus jn (plus (plus q q') (one1 2)) := funext (fun i => by unfold plus; omega)
            rw [← a1, ← a2]
            exact e7
          · rintro r ⟨g1, g2⟩
            refine ⟨f2.tr g1, ?_⟩
            rcases g2 with g2 | ⟨p2, m2, c2, q2, y1, y2, y3⟩
            · exact Or.inl g2
            · exact Or.inr ⟨p2, m2, c2, q2, y1, by omega, y3⟩
end Lcl
