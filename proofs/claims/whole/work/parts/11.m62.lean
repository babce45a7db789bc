/-! the class's LAW -/
/-- the state with LAW i told -/
def lwd (d : Dt) (i m : Nat) (c q : Nat → Nat) : Dt := fun a b => if a = 11 ∧ b = i then 1 else if a = 12 ∧ b = i then m else if a = 13 ∧ b / 10 = i then c (b % 10) else if a = 14 ∧ b / 4 = i then q (b % 4) else d a b
section Lkl
variable {d : Dt} {C : Ct} {w w' : Mm} {i m : Nat} {c q : Nat → Nat}
theorem lwd_o {a : Nat} (h : ¬ (11 ≤ a ∧ a ≤ 14)) : lwd d i m c q a = d a := funext (fun b => by
  unfold lwd
  rw [if_neg (by omega), if_neg (by omega), if_neg (by omega), if_neg (by omega)])
theorem lwd_11 (j : Nat) : lwd d i m c q 11 j = if j = i then 1 else d 11 j := by simp [lwd]
theorem lwd_12 (j : Nat) : lwd d i m c q 12 j = if j = i then m else d 12 j := by simp [lwd]
theorem lwd_13 {j k : Nat} (hk : k < 10) : lwd d i m c q 13 (10 * j + k) = if j = i then c k else d 13 (10 * j + k) := by
  have e1 : (10 * j + k) / 10 = j := by omega
  have e2 : (10 * j + k) % 10 = k := by omega
  simp [lwd, e1, e2]
theorem lwd_14 {j k : Nat} (hk : k < 4) : lwd d i m c q 14 (4 * j + k) = if j = i then q k else d 14 (4 * j + k) := by
  have e1 : (4 * j + k) / 4 = j := by omega
  have e2 : (4 * j + k) % 4 = k := by omega
  simp [lwd, e1, e2]
theorem lwd_ok (o : Ok d C) (oT : OkT d) (hm : m < 64) (hc : ∀ k, c k ≤ 300 ∧ (d 0 0 ≤ k → c k = 0)) : Ok (lwd d i m c q) C ∧ OkT (lwd d i m c q) := by
  constructor
  · unfold Ok OkL OkM OkC
    rw [lwd_o (a := 0) (by omega), lwd_o (a := 1) (by omega), lwd_o (a := 2) (by omega), lwd_o (a := 3) (by omega), lwd_o (a := 5) (by omega), lwd_o (a := 6) (by omega), lwd_o (a := 7) (by omega), lwd_o (a := 8) (by omega), lwd_o (a := 9) (by omega)]
    exact o
  · unfold OkT
    rw [lwd_o (a := 0) (by omega), lwd_o (a := 10) (by omega)]
    refine ⟨oT.1, oT.2.1, fun j hj => ?_⟩
    have z := oT.2.2 j hj
    rw [lwd_11, lwd_12]
    by_cases e : j = i
    · rw [if_pos e, if_pos e]
      exact ⟨by omega, hm, fun k hk => by rw [lwd_13 hk, if_pos e]; exact hc k⟩
    · rw [if_neg e, if_neg e]
      exact ⟨z.1, z.2.1, fun k hk => by rw [lwd_13 hk, if_neg e]; exact z.2.2 k hk⟩
end Lkl
