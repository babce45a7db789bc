/-! NEAR's text as a whole -/
abbrev Cl : Type := Nat × Nat × Nat × Mn × Mn
def ncl (d : Dt) (n s p : Nat) : Int32 ⊕ (Nat × Cd × Cd × Cl) := if hh d n p = 107 then (match naS d n 100 2 0 s (p + 1) with
  | .inl e => .inl e
  | .inr (p1, K1, M1, g1) => if hh d n p1 = 40 then (match ncS d n 100 2 1 (s + K1.length) (p1 + 1) with
    | .inl e => .inl e
    | .inr (p2, K2, M2, g2) => if hh d n p2 = 41 then .inr (p2 + 1, K1 ++ K2, M1 ++ M2, (s, s + K1.length, s + K1.length + K2.length, g1, g2)) else .inl (flt 1 p2)) else .inl (flt 1 p1)) else .inl (flt 1 p)
def nrT (d : Dt) (n : Nat) : Nat → Nat → Nat → Cd → Cd → List Cl → Int32 ⊕ (Cd × Cd × List Cl)
  | 0, _, _, _, _, _ => .inl 0
  | k + 1, i, p, K, M, cl => if i = 12 ∧ hh d n p = 107 then .inl (flt 4 p) else (match ncl d n K.length p with
    | .inl e => .inl e
    | .inr (p', K', M', x) => if n ≤ p' then .inr (K ++ K', M ++ M', cl ++ [x]) else if hh d n p' = 59 then nrT d n k (i + 1) (p' + 1) (K ++ K') (M ++ M') (cl ++ [x]) else .inl (flt 1 p'))
def nearR (d : Dt) (n : Nat) : Int32 ⊕ (Cd × Cd × List Cl) := nrT d n 13 0 0 [] [] []
section Nwh
variable {d : Dt} {n : Nat}
theorem np_cl (hn : n ≤ 299) {s p : Nat} (hp : p ≤ n) : (∀ e, ncl d n s p = .inl e → e = 0 ∨ e < 0) ∧ ∀ p' K M x, ncl d n s p = .inr (p', K, M, x) → p < p' ∧ p' ≤ n ∧ K.length + 3 ≤ p' - p ∧ M.length = K.length := by
  unfold ncl
  by_cases h1 : hh d n p = 107
  · have hpn := hh_lt h1 (by decide)
    rw [if_pos h1]
    have a := np_aS (d := d) hn 100 2 0 s (p + 1) hpn
    cases e : naS d n 100 2 0 s (p + 1) with
    | inl e' =>
      rw [e] at a
      exact ⟨fun e2 h => (by obtain rfl := Sum.inl.inj h; exact a.1 e' rfl), fun _ _ _ _ h => (by cases h)⟩
    | inr r =>
      obtain ⟨p1, K1, M1, g1⟩ := r
      rw [e] at a
      obtain ⟨a1, a2, a3, a4, a5⟩ := a.2 p1 K1 M1 g1 rfl
      dsimp only
      by_cases h2 : hh d n p1 = 40
      · have hpn2 := hh_lt h2 (by decide)
        rw [if_pos h2]
        have b := np_cS (d := d) hn 100 2 1 (s + K1.length) (p1 + 1) hpn2
        cases e2 : ncS d n 100 2 1 (s + K1.length) (p1 + 1) with
        | inl e' =>
          rw [e2] at b
          exact ⟨fun e2 h => (by obtain rfl := Sum.inl.inj h; exact b.1 e' rfl), fun _ _ _ _ h => (by cases h)⟩
        | inr r =>
          obtain ⟨p2, K2, M2, g2⟩ := r
          rw [e2] at b
          obtain ⟨b1, b2, b3, b4, b5⟩ := b.2 p2 K2 M2 g2 rfl
          dsimp only
          by_cases h3 : hh d n p2 = 41
          · have := hh_lt h3 (by decide)
            rw [if_pos h3]
            refine ⟨fun e2 h => (by cases h), fun _ _ _ _ h => ?_⟩
            cases h
            exact ⟨by omega, by omega, by rw [List.length_append]; omega, by rw [List.length_append, List.length_append]; omega⟩
          · rw [if_neg h3]
            exact ⟨fun e2 h => (by obtain rfl := Sum.inl.inj h; exact Or.inr (flt_neg 1 (by decide) (by decide) _ (by omega))), fun _ _ _ _ h => (by cases h)⟩
      · rw [if_neg h2]
        exact ⟨fun e2 h => (by obtain rfl := Sum.inl.inj h; exact Or.inr (flt_neg 1 (by decide) (by decide) _ (by omega))), fun _ _ _ _ h => (by cases h)⟩
  · rw [if_neg h1]
    exact ⟨fun e2 h => (by obtain rfl := Sum.inl.inj h; exact Or.inr (flt_neg 1 (by decide) (by decide) _ (by omega))), fun _ _ _ _ h => (by cases h)⟩
theorem np_T (hn : n ≤ 299) : ∀ (k i p : Nat) (K M : Cd) (cl : List Cl), p ≤ n → K.length ≤ p → M.length = K.length → cl.length = i → i ≤ 12 → (∀ e, nrT d n k i p K M cl = .inl e → e = 0 ∨ e < 0) ∧ ∀ K' M' cl', nrT d n k i p K M cl = .inr (K', M', cl') → K'.length ≤ n ∧ M'.length = K'.length ∧ 0 < cl'.length ∧ cl'.length ≤ 12
  | 0, i, p, K, M, cl, _, _, _, _, _ => ⟨fun e h => (by obtain rfl := Sum.inl.inj h; exact Or.inl rfl), fun _ _ _ h => (by cases h)⟩
  | k + 1, i, p, K, M, cl, hp, hK, hM, hi, hi12 => by
    rw [nrT]
    by_cases h1 : i = 12 ∧ hh d n p = 107
    · rw [if_pos h1]
      exact ⟨fun e2 h => (by obtain rfl := Sum.inl.inj h; exact Or.inr (flt_neg 4 (by decide) (by decide) _ (by omega))), fun _ _ _ h => (by cases h)⟩
    · rw [if_neg h1]
      have a := np_cl (d := d) (s := K.length) hn hp
      cases e : ncl d n K.length p with
      | inl e' =>
        rw [e] at a
        exact ⟨fun e2 h => (by obtain rfl := Sum.inl.inj h; exact a.1 e' rfl), fun _ _ _ h => (by cases h)⟩
      | inr r =>
        obtain ⟨p', K', M', x⟩ := r
        rw [e] at a
        obtain ⟨a1, a2, a3, a4⟩ := a.2 p' K' M' x rfl
        have hi11 : i ≤ 11 := by
          by_cases z : i = 12
          · have hne : ¬ hh d n p = 107 := fun y => h1 ⟨z, y⟩
            unfold ncl at e
            rw [if_neg hne] at e
            cases e
          · omega
        dsimp only
        by_cases h2 : n ≤ p'
        · rw [if_pos h2]
          refine ⟨fun e2 h => (by cases h), fun _ _ _ h => ?_⟩
          cases h
          exact ⟨by rw [List.length_append]; omega, by rw [List.length_append, List.length_append]; omega, by rw [List.length_append, List.length_cons]; omega, by rw [List.length_append, List.length_cons, List.length_nil]; omega⟩
        · rw [if_neg h2]
          by_cases h3 : hh d n p' = 59
          · rw [if_pos h3]
            exact np_T hn k (i + 1) (p' + 1) _ _ _ (by omega) (by rw [List.length_append]; omega) (by rw [List.length_append, List.length_append]; omega) (by rw [List.length_append, List.length_cons, List.length_nil]; omega) (by omega)
          · rw [if_neg h3]
            exact ⟨fun e2 h => (by obtain rfl := Sum.inl.inj h; exact Or.inr (flt_neg 1 (by decide) (by decide) _ (by omega))), fun _ _ _ h => (by cases h)⟩
end Nwh
