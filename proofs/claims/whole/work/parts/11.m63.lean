/-! the class's LAW: the memory behind it -/
section Lkk
variable {d : Dt} {C : Ct} {w w' : Mm} {i m n : Nat} {c q : Nat → Nat}
theorem KT.rd (h : KT d C w) (f : fx wrL w w') : KT d C w' ∧ cF w w' := tpO.rf.KT h (f.sub (fun c k z => by unfold wrL at z; omega)) (h.2.1.of rfl rfl (f.I (by unfold wrL; omega)) (fun k => f.I (by unfold wrL; omega)))
theorem KT.tl (h : KT d C w) (hi : i < 4) (f : fx (fun c _ => c = 36 + i) w w') (e2 : gI w' (36 + i) 2 = 1) (e3 : gI w' (36 + i) 3 = nI m) (e4 : gI w' (36 + i) 4 = nI (lmk (fun k => decide (0 < c k)) 10)) (e5 : gI w' (36 + i) 5 = nI (fb_sm (fun k => c k * d 3 k) 10)) (e6 : gI w' (36 + i) 6 = nI (q 1)) (e7 : gI w' (36 + i) 7 = nI (q 2)) (e8 : gI w' (36 + i) 8 = nI (q 3)) : KT (lwd d i m c q) C w' ∧ cF w w' := by
  have hk := h.1.fx f (fun c k z => by unfold kfree; omega)
  refine ⟨⟨ki_up hk (fx.rf (P := fun _ _ => False)) (fun _ _ z => z.elim) ?_ ?_ (by rw [lwd_o (a := 0) (by omega)]) (by rw [lwd_o (a := 0) (by omega)]) (by rw [lwd_o (a := 0) (by omega)]; exact Nat.le_refl _) (fun t _ => BF_of (lwd_o (by omega)) (lwd_o (by omega)) (lwd_o (by omega)) t), ?_, ?_⟩, fun c' j hc => ?_⟩
  · unfold CLx
    rw [lwd_o (a := 0) (by omega), lwd_o (a := 1) (by omega), lwd_o (a := 2) (by omega), lwd_o (a := 3) (by omega), lwd_o (a := 4) (by omega)]
    exact hk.2.1
  · unfold CDm
    rw [lwd_o (a := 0) (by omega), lwd_o (a := 5) (by omega), lwd_o (a := 6) (by omega), lwd_o (a := 7) (by omega), lwd_o (a := 8) (by omega), lwd_o (a := 9) (by omega)]
    exact hk.2.2.1
  · exact h.2.1.of (by rw [lwd_o (a := 0) (by omega)]) (lwd_o (by omega)) (f.I (by omega)) (fun k => f.I (by omega))
  · intro j hj
    have a1 : lmk (fun k => decide (0 < lwd d i m c q 13 (10 * j + k))) 10 = lmk (fun k => decide (0 < (if j = i then c k else d 13 (10 * j + k)))) 10 := Nat.eq_of_testBit_eq (fun x => by
      rw [lmk_bit, lmk_bit]
      by_cases z : x < 10
      · rw [lwd_13 z]
      · rw [decide_eq_false z, Bool.false_and, Bool.false_and])
    have a2 : fb_sm (fun k => lwd d i m c q 13 (10 * j + k) * d 3 k) 10 = fb_sm (fun k => (if j = i then c k else d 13 (10 * j + k)) * d 3 k) 10 := fb_sm_cong (fun k hk => by rw [lwd_13 hk])
    rw [lwd_11, lwd_12, lwd_14 (by decide), lwd_14 (by decide), lwd_14 (by decide), lwd_o (a := 3) (by omega), a1, a2]
    by_cases e : j = i
    · subst e
      simp only [if_pos]
      exact ⟨e2, e3, e4, e5, e6, e7, e8⟩
    · simp only [if_neg e]
      have z := h.2.2 j hj
      rw [f.I (by omega), f.I (by omega), f.I (by omega), f.I (by omega), f.I (by omega), f.I (by omega), f.I (by omega)]
      exact z
  · unfold inM at hc
    exact ⟨f.I (by omega), f.L (by omega)⟩
end Lkk
