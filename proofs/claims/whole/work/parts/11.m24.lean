/-! BACK: a row of three in one number -/
/-- the STRUCK ones -/
def zs (d : Dt) : Nat := (2 ^ d 0 0 - 1) &&& (d 0 1 ^^^ 4294967295)
def pB (d : Dt) (r : Nat) : Bool := (zs d).testBit (r / 100) && decide (r / 10 % 10 < r % 10) && (d 0 1).testBit (r / 10 % 10) && (d 0 1).testBit (r % 10)
def tB (d : Dt) (r : Nat) : Nat := wo (wo (d 0 1) (r / 10 % 10)) (r % 10) ||| 2 ^ (r / 100)
noncomputable def vB (d : Dt) (C : Ct) (r : Nat) : Nat := tkA d C (tB d r)
noncomputable def aB (d : Dt) (C : Ct) (r : Nat) : Option Nat := amin (pB d) (fun r => (vB d C r : Int)) r
section Back
variable {d : Dt} {C : Ct} {w : Mm}
theorem zs_bit (o : OkL d) {j : Nat} : (zs d).testBit j = (decide (j < d 0 0) && !(d 0 1).testBit j) := by
  have o1 := o.1
  unfold zs
  rw [Nat.testBit_and, all_bit, Nat.testBit_xor, show (4294967295 : Nat) = 2 ^ 32 - 1 by decide, Nat.testBit_two_pow_sub_one]
  by_cases h : j < d 0 0
  · rw [decide_eq_true h, decide_eq_true (show j < 32 by omega)]; simp
  · rw [decide_eq_false h]; rfl
theorem zs_lt (o : OkL d) : zs d < 1024 := Nat.lt_of_le_of_lt Nat.and_le_left (all_lt o)
theorem tB_lt (o : OkL d) {r : Nat} (h : pB d r = true) : tB d r < 2 ^ d 0 0 := by
  unfold pB at h
  simp at h
  have h1 := h.1.1.1
  rw [zs_bit o] at h1
  simp at h1
  exact Nat.or_lt_two_pow (wo_lt (wo_lt o.2.1)) (Nat.pow_lt_pow_right (by decide) h1.1)
theorem vB_lt (o : OkM d) (r : Nat) : vB d C r < 2 ^ 31 := Nat.lt_of_le_of_lt (tkA_le o) (by decide)
theorem dig {b x y : Nat} (hx : x < 10) (hy : y < 10) : (100 * b + 10 * x + y) / 100 = b ∧ (100 * b + 10 * x + y) / 10 % 10 = x ∧ (100 * b + 10 * x + y) % 10 = y := by omega
theorem x10_exchange (o : Ok d C) (hst : d 0 7 < 2 ^ 31) (h : KI d C w) (x1 : Int32) : Rt (wh (l_X10_exchange_26 x1 (nI (zs d))) FUEL ((-1 : Int32), (0 : Int64), (0 : Int32), w)) (fun p => p.1 = oI (aB d C 1000) ∧ p.2.1 = lz (vB d C) (aB d C 1000) ∧ KQ d C w p.2.2) := by
  have p10 := pow10 o.1.1
  have hu := o.1.2.1
  unfold aB
  refine rt_for (fun i s => s.1 = oI (amin (pB d) (fun r => (vB d C r : Int)) i) ∧ s.2.1 = lz (vB d C) (amin (pB d) (fun r => (vB d C r : Int)) i) ∧ s.2.2.1 = nI i ∧ KQ d C w s.2.2.2) 1000 ?_ ?_ ⟨rfl, rfl, rfl, KQ.rf h⟩ (by decide)
  · rintro i ⟨b, l, c, w1⟩ hi ⟨h1, h2, h3, hq⟩
    dsimp only at h1 h2 h3 hq
    subst h1 h2 h3
    unfold l_X10_exchange_26
    dsimp only
    rw [if_neg (show ¬ (1000 : Int32) ≤ nI i from nI_ge (b := 1000) hi (by decide)), show (100 : Int32) = nI 100 from rfl, show (10 : Int32) = nI 10 from rfl, pk_div (by omega) (by decide) (by decide), pk_div (by omega) (by decide) (by decide)]
    have e1 : nI i - nI (i / 10) * nI 10 = nI (i % 10) := by
      rw [pk_mul, pk_sub (by omega)]; congr 1; omega
    have e2 : nI (i / 10) - nI (i / 10) / nI 10 * nI 10 = nI (i / 10 % 10) := pk_rem (by omega) (by decide) (by decide)
    rw [e1, e2, contains_N (zs_lt o.1) (by omega)]
    simp only [bI_0]
    have skip : pB d i = false → Rt (Option.bind (some (oI (amin (pB d) (fun r => (vB d C r : Int)) i), lz (vB d C) (amin (pB d) (fun r => (vB d C r : Int)) i), w1)) (fun p3 => some (.inl (p3.1, p3.2.1, nI i + (1 : Int32), p3.2.2)))) (Nx (fun s => s.1 = oI (amin (pB d) (fun r => (vB d C r : Int)) (i + 1)) ∧ s.2.1 = lz (vB d C) (amin (pB d) (fun r => (vB d C r : Int)) (i + 1)) ∧ s.2.2.1 = nI (i + 1) ∧ KQ d C w s.2.2.2) (fun p : Int32 × Int64 × Mm => p.1 = oI (amin (pB d) (fun r => (vB d C r : Int)) 1000) ∧ p.2.1 = lz (vB d C) (amin (pB d) (fun r => (vB d C r : Int)) 1000) ∧ KQ d C w p.2.2)) := fun hp => by
      rw [Option.bind_some, rt_some, nx_l]
      dsimp only
      rw [amin_n hp]
      exact ⟨rfl, rfl, nI_1 i, hq⟩
    by_cases p1 : (zs d).testBit (i / 100) = true
    · rw [if_neg (by rw [p1]; decide)]
      by_cases p2 : i % 10 ≤ i / 10 % 10
      · rw [if_pos (nI_le p2 (by omega))]
        refine skip ?_
        unfold pB
        rw [decide_eq_false (show ¬ i / 10 % 10 < i % 10 by omega)]
        simp
      · rw [if_neg (nI_ge (by omega) (by omega)), onL_pos _ hq.1.1, hq.1.U, contains_N (by omega) (by omega), contains_N (by omega) (by omega)]
        simp only [bI_0]
        by_cases p3 : (d 0 1).testBit (i / 10 % 10) = true
        · rw [if_neg (by rw [p3]; decide)]
          by_cases p4 : (d 0 1).testBit (i % 10) = true
          · rw [if_neg (by rw [p4]; decide), without_N (by omega), without_N (by omega), sh1_N (by omega), fa_or, rt_bind]
            have hp : pB d i = true := by
              unfold pB
              rw [p1, p3, p4, decide_eq_true (show i / 10 % 10 < i % 10 by omega)]; rfl
            refine x_tk o hst hq.1 (tB_lt o.1 hp) (fun w2 q2 => ?_)
            have hV := am_y (V := vB d C) (p := pB d) (i := i) (fun j _ _ => vB_lt o.2.1 j) (by omega) hp w2
            refine (rt_eq hV).mpr ?_
            rw [rt_some, nx_l]
            exact ⟨rfl, rfl, nI_1 i, hq.tr q2⟩
          · rw [if_pos (bool_f p4)]
            refine skip ?_
            unfold pB
            rw [bool_f p4]
            simp
        · rw [if_pos (bool_f p3)]
          refine skip ?_
          unfold pB
          rw [bool_f p3]
          simp
    · rw [if_pos (bool_f p1)]
      refine skip ?_
      unfold pB
      rw [bool_f p1]
      rfl
  · rintro ⟨b, l, c, w1⟩ ⟨h1, h2, h3, hq⟩
    dsimp only at h1 h2 h3 hq
    subst h1 h2 h3
    unfold l_X10_exchange_26
    dsimp only
    rw [if_pos (show (1000 : Int32) ≤ nI 1000 by decide), rt_some, nx_r]
    exact ⟨rfl, rfl, hq⟩
end Back
