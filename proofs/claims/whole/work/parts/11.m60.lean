/-! the class's LAW, read -/
section Lrd
variable {d : Dt} {n : Nat} {w : Mm}
/-- a LAW's text as a whole: a fault, or MEANING, letters, joins -/
def lawR (d : Dt) (n : Nat) : Int32 ⊕ (Nat × (Nat → Nat) × (Nat → Nat)) := match lwS d n 100 1 0 0 with
  | .inl e => .inl e
  | .inr (p, m, c, q) => if p = n then .inr (m, c, q) else .inl (flt 1 p)
theorem k_read (o : OkL d) (oT : OkT d) (hn : n ≤ d 0 5) (hn60 : n ≤ 60) (hL : Lay w) (hx : CLx d w) (hT : CTp d w) : Rt (f_X6_read 40 (nI n) w) (fun r => fx wrL w r.2 ∧ ((∃ e, lawR d n = .inl e ∧ e < 0 ∧ r.1 = e) ∨ ∃ m c q, lawR d n = .inr (m, c, q) ∧ m < 64 ∧ r.1 = nI m ∧ gI r.2 40 2 = 1 ∧ gI r.2 40 3 = nI m ∧ CSt d c q r.2)) := by
  have o5 := oT.1
  unfold f_X6_read f_X8_startText f_X6_either
  rw [Option.bind_some, rt_onL]
  have f0 : fx wrL w (sI (sI (sI (sI (sI (sI (sI (sI w 40 4 0) 40 5 0) 40 6 0) 40 7 0) 40 8 0) 12 2 (nI n)) 12 3 0) 12 4 0) := (((((((fx.sI (Or.inr rfl)).tr (fx.sI (Or.inr rfl))).tr (fx.sI (Or.inr rfl))).tr (fx.sI (Or.inr rfl))).tr (fx.sI (Or.inr rfl))).tr (fx.sI (Or.inl ⟨rfl, by decide⟩))).tr (fx.sI (Or.inl ⟨rfl, by decide⟩))).tr (fx.sI (Or.inl ⟨rfl, by decide⟩))
  have hlm : lmk (fun k => decide (0 < (fun _ : Nat => 0) k)) 10 = 0 := lmk_ext (n := 0) (Nat.zero_le _) (fun k _ _ => rfl)
  have hsm : fb_sm (fun k => (fun _ : Nat => 0) k * d 3 k) 10 = 0 := sm_ext (n := 0) (Nat.zero_le _) (fun k _ _ => Nat.zero_mul _)
  refine ⟨f0.lay hL, ?_⟩
  rw [rt_bind]
  refine (k_lw o oT hn 100 1 0 0 (fun _ => 0) (fun _ => 0) _ (by decide) (by decide) (by omega) (by omega) (by omega) (Nat.zero_le _) (f0.lay hL) (lx_fx hx f0) ⟨hT.of rfl rfl rfl (fun _ => rfl), rfl, rfl, rfl⟩ ⟨by rw [hlm]; rfl, by rw [hsm]; rfl, rfl, rfl, rfl⟩).mono ?_
  rintro ⟨v, w1⟩ ⟨f1, hr⟩
  dsimp only at f1 hr ⊢
  have hp := lp_S (d := d) (n := n) (by omega) 100 1 0 0 (Nat.zero_le _)
  have f3 : fx wrL w (sI w1 40 3 v) := (f0.tr f1).tr (fx.sI (Or.inr rfl))
  rw [rt_onL]
  refine ⟨(f0.tr f1).lay hL, ?_⟩
  have bad : ∀ (e : Int32) (p' : Nat) (w2 : Mm), fx wrL w w2 → e < 0 → Tx d n p' e w2 → lawR d n = .inl e → Rt (onL w2 (Option.bind (if (gI w2 12 4) = 0 then (some (1 : Int32)) else (some (0 : Int32))) (fun p10 => if isB p10 = true then (if (gI (sI w2 40 2 p10) 40 2) = 0 then (some (gI (sI w2 40 2 p10) 12 4, sI w2 40 2 p10)) else (some (gI (sI w2 40 2 p10) 40 3, sI w2 40 2 p10))) else none))) (fun r => fx wrL w r.2 ∧ ((∃ e, lawR d n = .inl e ∧ e < 0 ∧ r.1 = e) ∨ ∃ m c q, lawR d n = .inr (m, c, q) ∧ m < 64 ∧ r.1 = nI m ∧ gI r.2 40 2 = 1 ∧ gI r.2 40 3 = nI m ∧ CSt d c q r.2)) := fun e p' w2 f2 he t hR => by
    have ne : ¬ e = 0 := fun z => by rw [z] at he; exact absurd he (by decide)
    rw [rt_onL, t.2.2.2, if_neg ne, Option.bind_some, if_pos (by decide), if_pos (show gI (sI w2 40 2 0) 40 2 = 0 from rfl), rt_some]
    exact ⟨f2.lay hL, f2.tr (fx.sI (Or.inr rfl)), Or.inl ⟨e, hR, he, t.2.2.2⟩⟩
  rcases hr with ⟨e', p', e1, e2, t⟩ | ⟨p', m', c', q', e1, e2, e3, e4, e5, e6, e7⟩
  · have t3 : Tx d n p' e' (sI w1 40 3 v) := ⟨t.1.of rfl rfl rfl (fun _ => rfl), t.2.1, t.2.2.1, t.2.2.2⟩
    unfold f_X8_isAtEnd
    rw [t3.2.2.2, if_neg e2, Option.bind_some, if_pos rfl, k_failF t3 e2, Option.bind_some, Option.bind_some]
    exact bad e' p' _ f3 ((hp.1 e' e1).resolve_left e2) t3 (by unfold lawR; rw [e1])
  · have t3 : Tx d n p' 0 (sI w1 40 3 v) := ⟨e6.1.of rfl rfl rfl (fun _ => rfl), e6.2.1, e6.2.2.1, e6.2.2.2⟩
    unfold f_X8_isAtEnd
    rw [t3.2.2.2, if_pos rfl, t3.2.1, t3.2.2.1]
    by_cases q : p' = n
    · rw [if_neg (nI_nlt (by omega) (by omega)), Option.bind_some, if_neg (by decide), Option.bind_some, rt_onL, t3.2.2.2, if_pos rfl, Option.bind_some, if_pos (by decide), if_neg (show ¬ gI (sI (sI w1 40 3 v) 40 2 1) 40 2 = 0 from (by decide : ¬ (1 : Int32) = 0)), rt_some]
      refine ⟨f3.lay hL, f3.tr (fx.sI (Or.inr rfl)), Or.inr ⟨m', c', q', by unfold lawR; rw [e1]; dsimp only; rw [if_pos q], e4, e5, rfl, e5, ?_⟩⟩
      have a1 : plus (fun _ => 0) c' = c' := funext (fun i => Nat.zero_add _)
      have a2 : plus (fun _ => 0) q' = q' := funext (fun i => Nat.zero_add _)
      rw [a1, a2] at e7
      exact e7
    · have z := k_fail t3 1
      rw [if_pos (nI_lt (by omega) (by omega)), Option.bind_some, if_pos rfl, show (1 : Int32) = nI 1 from rfl, z.1, Option.bind_some, Option.bind_some]
      exact bad (flt 1 p') p' _ (f3.tr (fx.sI (Or.inl ⟨rfl, by decide⟩))) (flt_neg 1 (by decide) (by decide) p' (by omega)) z.2 (by unfold lawR; rw [e1]; dsimp only; rw [if_neg q])
end Lrd
