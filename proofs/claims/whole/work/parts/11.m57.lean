/-! the class reads a LAW's text: a letter, and all -/
section Lcl3
variable {d : Dt} {n : Nat}
theorem lmk_one (cn : Nat → Nat) {i : Nat} (hi : i < 10) : lmk (fun k => decide (0 < cn k)) 10 ||| 2 ^ i = lmk (fun k => decide (0 < plus cn (one1 i) k)) 10 := by
  refine Nat.eq_of_testBit_eq (fun j => ?_)
  rw [Nat.testBit_or, lmk_bit, lmk_bit]
  unfold plus one1
  by_cases e : j = i
  · subst e
    rw [Nat.testBit_two_pow_self, if_pos rfl, decide_eq_true hi, decide_eq_true (by omega : 0 < cn j + 1)]
    simp
  · rw [Nat.testBit_two_pow_of_ne (fun h => e h.symm), if_neg e, Bool.or_false, Nat.add_zero]
theorem sm_one (cn L : Nat → Nat) (i : Nat) : ∀ m, fb_sm (fun k => plus cn (one1 i) k * L k) m = fb_sm (fun k => cn k * L k) m + if i < m then L i else 0
  | 0 => rfl
  | m + 1 => by
    rw [fb_sm, fb_sm, sm_one cn L i m]
    unfold plus one1
    by_cases e : m = i
    · subst e
      rw [if_pos rfl, if_neg (Nat.lt_irrefl m), if_pos (by omega), Nat.add_mul, Nat.one_mul]
      omega
    · rw [if_neg e, Nat.add_zero]
      by_cases q : i < m
      · rw [if_pos q, if_pos (by omega)]; omega
      · rw [if_neg q, if_neg (by omega)]; omega
theorem k_letter (o : OkL d) {p i : Nat} {cn jn : Nat → Nat} {w : Mm} (hi : i < 10) (hp : p < n) (hp3 : p ≤ 300) (hL : Lay w) (hx : CLx d w) (h : Tx d n p 0 w) (hC : CSt d cn jn w) : Rt (f_X6_letter 40 (nI i) w) (LQ d n p cn jn (if i < d 0 0 ∧ d 1 i = 0 then .inr (p + 1, d 2 i, one1 i, fun _ => 0) else .inl (flt 2 p)) w) := by
  unfold f_X6_letter
  rw [x3_isPlain o hx (by omega), Option.bind_some]
  by_cases q : i < d 0 0 ∧ d 1 i = 0
  · rw [if_pos q, decide_eq_true q.1, q.2, if_neg (by decide)]
    unfold f_X8_step
    rw [Option.bind_some, rt_onL]
    have t0 := k_stp h
    have f1 : fx wrL w (sI (sI w 12 3 (gI w 12 3 + 1)) 40 4 (gI (sI w 12 3 (gI w 12 3 + 1)) 40 4 ||| (1 : Int32) <<< (nI i &&& 31))) := (fx.sI (Or.inl ⟨rfl, by decide⟩)).tr (fx.sI (Or.inr rfl))
    rw [x3_lengthOf o (lx_fx hx f1) (by omega), Option.bind_some, if_pos q.1]
    refine ⟨hL, ?_⟩
    rw [x3_meaningOf o (lx_fx hx (f1.tr (fx.sI (Or.inr rfl)))) (by omega), Option.bind_some, rt_some, if_pos q.1]
    refine ⟨f1.tr (fx.sI (Or.inr rfl)), Or.inr ⟨p + 1, d 2 i, one1 i, fun _ => 0, rfl, by omega, by omega, (o.2.2.1 i hi).2.1, rfl, ⟨t0.1.of rfl rfl rfl (fun _ => rfl), t0.2.1, t0.2.2.1, t0.2.2.2⟩, ?_, ?_, hC.2.2.1, hC.2.2.2.1, hC.2.2.2.2⟩⟩
    · show gI w 40 4 ||| (1 : Int32) <<< (nI i &&& 31) = _
      rw [hC.1, sh1_N (by omega), fa_or, lmk_one cn hi]
    · show gI w 40 5 + nI (d 3 i) = _
      rw [hC.2.1, nI_add, sm_one cn (d 3) i 10, if_pos hi]
  · have e : (decide (i < d 0 0) && d 1 i == 0) = false := by
      cases z : (decide (i < d 0 0) && d 1 i == 0) with
      | false => rfl
      | true => exact absurd (by simpa using z) q
    have z := k_fail h 2
    rw [if_neg q, e, if_pos (by decide), show (2 : Int32) = nI 2 from rfl, z.1, Option.bind_some, rt_some]
    exact ⟨fx.sI (Or.inl ⟨rfl, by decide⟩), Or.inl ⟨_, p, rfl, (fun y => by have := flt_neg 2 (by decide) (by decide) p (by omega); rw [y] at this; exact absurd this (by decide)), z.2⟩⟩
end Lcl3
