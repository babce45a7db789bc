/-! the codes that are read mean the same in both -/
section Nsr
variable {d : Dt} {n : Nat}
theorem NS.up {s need need' : Nat} {K M : Cd} {g : Mn} (h : NS s need K M g) (hn : need ≤ need') : NS s need' K M g := ⟨fun F hF L to st h1 h2 => h.1 F hF L to st h1 (by omega), h.2⟩
theorem ns_num {s need v : Nat} (hn : 1 ≤ need) : NS s need [(0, v)] [(0, v)] (fun _ => some (nI v)) := by
  refine ⟨fun F hF L to st h1 h2 => ⟨fun h => (by cases h), fun x hx f hf => ?_⟩, fun L st => rfl⟩
  cases hx
  simp only [List.length_cons, List.length_nil] at h1 hf ⊢
  obtain ⟨f1, rfl⟩ : ∃ f1, f = f1 + 1 := ⟨f - 1, by omega⟩
  exact ⟨f1, by omega, by rw [kr_num (by omega) (by rw [hF.1]) (by omega), hF.1]⟩
theorem ns_let {s need b : Nat} (hn : 1 ≤ need) : NS s need [(1, ltr b)] [(1, b)] (fun L => some (L (ltr b))) := by
  refine ⟨fun F hF L to st h1 h2 => ⟨fun h => (by cases h), fun x hx f hf => ?_⟩, fun L st => rfl⟩
  cases hx
  simp only [List.length_cons, List.length_nil] at h1 hf ⊢
  obtain ⟨f1, rfl⟩ : ∃ f1, f = f1 + 1 := ⟨f - 1, by omega⟩
  exact ⟨f1, by omega, by rw [kr_let (by omega) (by rw [hF.1]) (by omega), hF.1]⟩
theorem opA_ok {j b : Nat} (h : ¬ opA j b = 0) : (2 ≤ opA j b ∧ opA j b ≤ 9) ∧ chr (opA j b) = b ∧ 2 < b ∧ b ≠ 38 ∧ b ≠ 124 := by
  unfold opA at h ⊢
  by_cases z : j = 0
  · simp only [z, if_true] at h ⊢
    by_cases h1 : b = 42
    · subst h1; decide
    · by_cases h2 : b = 47
      · subst h2; decide
      · by_cases h3 : b = 37
        · subst h3; decide
        · simp only [h1, h2, h3, if_false] at h; exact absurd trivial h
  · simp only [z, if_false] at h ⊢
    by_cases h1 : b = 43
    · subst h1; decide
    · by_cases h2 : b = 45
      · subst h2; decide
      · simp only [h1, h2, if_false] at h; exact absurd trivial h
theorem cps_ok {b : Nat} (h : ¬ cps b = 0) : (2 ≤ cps b ∧ cps b ≤ 9) ∧ chr (cps b) = b ∧ 2 < b ∧ b ≠ 38 ∧ b ≠ 124 ∧ (b = 60 ∨ b = 62 ∨ b = 61) := by
  unfold cps at h ⊢
  by_cases h1 : b = 60
  · subst h1; decide
  · by_cases h2 : b = 62
    · subst h2; decide
    · by_cases h3 : b = 61
      · subst h3; decide
      · simp only [h1, h2, h3, if_false] at h; exact absurd trivial h
theorem ns_A {j need s : Nat} {S : Nat → Nat → Nr} (hS : ∀ s p p' K M g, S s p = .inr (p', K, M, g) → NS s need K M g) : ∀ (k p : Nat) (K M : Cd) (g : Mn), NS s (need + 1) K M g → ∀ p' K' M' g', nrA d n (opA j) S s k p K M g = .inr (p', K', M', g') → NS s (need + 1) K' M' g'
  | 0, p, K, M, g, h => fun p' K' M' g' e => (by cases e; exact h)
  | k + 1, p, K, M, g, h => fun p' K' M' g' e => by
    rw [nrA] at e
    by_cases z : opA j (hh d n p) = 0
    · rw [if_pos z] at e
      cases e
      exact h
    · rw [if_neg z] at e
      cases e2 : S (s + K.length) (p + 1) with
      | inl e' => rw [e2] at e; cases e
      | inr r =>
        obtain ⟨p2, K2, M2, g2⟩ := r
        rw [e2] at e
        have q := opA_ok z
        exact ns_A hS k p2 _ _ _ (ns_op q.1 q.2.1 q.2.2 h (hS _ _ _ _ _ _ e2)) p' K' M' g' e
theorem ns_C {jb jc need s : Nat} {S : Nat → Nat → Nr} (hj : (jb = 124 ∧ jc = 11) ∨ (jb = 38 ∧ jc = 12)) (hS : ∀ s p p' K M g, S s p = .inr (p', K, M, g) → NS s need K M g ∧ B01 g) : ∀ (k p : Nat) (K M : Cd) (g : Mn), NS s need K M g → B01 g → ∀ p' K' M' g', nrC d n jb jc S s k p K M g = .inr (p', K', M', g') → NS s need K' M' g' ∧ B01 g'
  | 0, p, K, M, g, h, hB => fun p' K' M' g' e => (by cases e; exact ⟨h, hB⟩)
  | k + 1, p, K, M, g, h, hB => fun p' K' M' g' e => by
    rw [nrC] at e
    by_cases z : hh d n p = jb
    · rw [if_pos z] at e
      cases e2 : S (s + K.length + 1) (p + 1) with
      | inl e' => rw [e2] at e; cases e
      | inr r =>
        obtain ⟨p2, K2, M2, g2⟩ := r
        rw [e2] at e
        have h2 := hS _ _ _ _ _ _ e2
        have q := ns_jn hj hB h2.2 h h2.1
        exact ns_C hj hS k p2 _ _ _ q.1 q.2 p' K' M' g' e
    · rw [if_neg z] at e
      cases e
      exact ⟨h, hB⟩
theorem ns_aS : ∀ (f j o s p p' : Nat) (K M : Cd) (g : Mn), o ≤ 6 → naS d n f j o s p = .inr (p', K, M, g) → NS s (1 + j + 2 * (6 - o)) K M g
  | 0, _, _, _, _, _, _, _, _, _, e => by cases e
  | f + 1, 0, o, s, p, p', K, M, g, ho, e => by
    rw [naS] at e
    unfold naF at e
    split at e
    · split at e
      · rename_i h1 h2
        cases e2 : naS d n f 2 (o + 1) s (p + 1) with
        | inl e' => rw [e2] at e; cases e
        | inr r =>
          obtain ⟨p2, K2, M2, g2⟩ := r
          rw [e2] at e
          dsimp only at e
          split at e
          · cases e
            exact (ns_aS f 2 (o + 1) s (p + 1) _ _ _ _ (by omega) e2).up (by omega)
          · cases e
      · cases e
    · split at e
      · split at e
        · cases e
        · cases e
          exact ns_num (by omega)
      · split at e
        · cases e
        · cases e
          exact ns_let (by omega)
  | f + 1, j + 1, o, s, p, p', K, M, g, ho, e => by
    rw [naS] at e
    cases e2 : naS d n f j o s p with
    | inl e' => rw [e2] at e; cases e
    | inr r =>
      obtain ⟨p2, K2, M2, g2⟩ := r
      rw [e2] at e
      have h := ns_A (fun s p p' K M g e => ns_aS f j o s p p' K M g ho e) 160 p2 K2 M2 g2 ((ns_aS f j o s p _ _ _ _ ho e2).up (Nat.le_succ _)) p' K M g e
      exact h.up (by omega)
theorem b_cmp {b : Nat} {g g' : Mn} (hb : b = 60 ∨ b = 62 ∨ b = 61) : B01 (bd2 b g g') := by
  intro L v hv
  unfold bd2 at hv
  cases e1 : g L with
  | none => rw [e1] at hv; cases hv
  | some x =>
    cases e2 : g' L with
    | none => rw [e1, e2] at hv; cases hv
    | some y =>
      rw [e1, e2] at hv
      replace hv : ap b x y = some v := hv
      rcases hb with rfl | rfl | rfl
      · replace hv : some (if y ≤ x then (0 : Int32) else 1) = some v := hv
        cases hv
        split <;> simp
      · replace hv : some (if x ≤ y then (0 : Int32) else 1) = some v := hv
        cases hv
        split <;> simp
      · replace hv : some (if x = y then (1 : Int32) else 0) = some v := hv
        cases hv
        split <;> simp
theorem ns_cS : ∀ (f j o s p p' : Nat) (K M : Cd) (g : Mn), o ≤ 6 → ncS d n f j o s p = .inr (p', K, M, g) → NS s (4 + 2 * (6 - o)) K M g ∧ B01 g
  | 0, _, _, _, _, _, _, _, _, _, e => by cases e
  | f + 1, 0, o, s, p, p', K, M, g, ho, e => by
    rw [ncS] at e
    unfold ncF at e
    split at e
    · split at e
      · rename_i h1 h2
        cases e2 : ncS d n f 0 (o + 1) s (p + 1) with
        | inl e' => rw [e2] at e; cases e
        | inr r =>
          obtain ⟨p2, K2, M2, g2⟩ := r
          rw [e2] at e
          dsimp only at e
          cases e
          have q := ns_cS f 0 (o + 1) s (p + 1) _ _ _ _ (by omega) e2
          exact ns_not q.2 (q.1.up (by omega))
      · cases e
    · split at e
      · split at e
        · rename_i h0 h1 h2
          cases e2 : ncS d n f 2 (o + 1) s (p + 1) with
          | inl e' => rw [e2] at e; cases e
          | inr r =>
            obtain ⟨p2, K2, M2, g2⟩ := r
            rw [e2] at e
            dsimp only at e
            split at e
            · cases e
              have q := ns_cS f 2 (o + 1) s (p + 1) _ _ _ _ (by omega) e2
              exact ⟨q.1.up (by omega), q.2⟩
            · cases e
        · cases e
      · cases e2 : naS d n 100 2 o s p with
        | inl e' => rw [e2] at e; cases e
        | inr r =>
          obtain ⟨p2, K2, M2, g2⟩ := r
          rw [e2] at e
          dsimp only at e
          split at e
          · cases e
          · rename_i h3
            have q := cps_ok h3
            cases e3 : naS d n 100 2 o (s + K2.length) (p2 + 1) with
            | inl e' => rw [e3] at e; cases e
            | inr r3 =>
              obtain ⟨p3, K3, M3, g3⟩ := r3
              rw [e3] at e
              dsimp only at e
              cases e
              have a1 := ns_aS (d := d) (n := n) 100 2 o s p _ _ _ _ ho e2
              have a2 := ns_aS (d := d) (n := n) 100 2 o (s + K2.length) (p2 + 1) _ _ _ _ ho e3
              exact ⟨(ns_op q.1 q.2.1 ⟨q.2.2.1, q.2.2.2.1, q.2.2.2.2.1⟩ (a1.up (Nat.le_succ _)) a2).up (by omega), b_cmp q.2.2.2.2.2⟩
  | f + 1, j + 1, o, s, p, p', K, M, g, ho, e => by
    rw [ncS] at e
    cases e2 : ncS d n f j o s p with
    | inl e' => rw [e2] at e; cases e
    | inr r =>
      obtain ⟨p2, K2, M2, g2⟩ := r
      rw [e2] at e
      have q := ns_cS f j o s p _ _ _ _ ho e2
      exact ns_C (by by_cases z : j = 0 <;> simp [z]) (fun s p p' K M g e => ns_cS f j o s p p' K M g ho e) 160 p2 K2 M2 g2 q.1 q.2 p' K M g e
end Nsr
