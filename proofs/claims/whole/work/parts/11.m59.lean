/-! what the descent answers -/
section Lpu
variable {d : Dt} {n : Nat}
def LPr (d : Dt) (n p : Nat) (R : Lr) : Prop := (∀ e, R = .inl e → e = 0 ∨ e < 0) ∧ ∀ p' m c q, R = .inr (p', m, c, q) → p < p' ∧ p' ≤ n ∧ (∀ k, c k ≤ p' - p) ∧ ∀ k, d 0 0 ≤ k → c k = 0
theorem lp_inl {p : Nat} {e : Int32} (h : e = 0 ∨ e < 0) : LPr d n p (.inl e) := ⟨fun e' he => (by cases he; exact h), fun _ _ _ _ h => (by cases h)⟩
theorem lp_flt {p p0 c : Nat} (h1 : c < 6) (h2 : 0 < c) (h3 : p ≤ 300) : LPr d n p0 (.inl (flt c p)) := lp_inl (Or.inr (flt_neg c h1 h2 p (by omega)))
theorem lp_L {S : Nat → Lr} {st : Option Nat → Bool} {adv jk : Nat} {op : Nat → Nat → Nat} (hst : ∀ p, st (sg d n p) = true → p < n) (ha : adv ≤ 1) (hS : ∀ p, p ≤ n → LPr d n p (S p)) : ∀ (k p0 p m : Nat) (c q : Nat → Nat), p0 < p → p ≤ n → (∀ k, c k ≤ p - p0) → (∀ k, d 0 0 ≤ k → c k = 0) → LPr d n p0 (lwL d n S st adv jk op k p m c q)
  | 0, p0, p, m, c, q, h1, h2, h3, h4 => ⟨fun e h => (by cases h), fun _ _ _ _ h => by cases h; exact ⟨h1, h2, h3, h4⟩⟩
  | k + 1, p0, p, m, c, q, h1, h2, h3, h4 => by
    rw [lwL]
    by_cases z : st (sg d n p) = true
    · have hz := hst p z
      rw [if_pos z]
      have hs := hS (p + adv) (by omega)
      cases e : S (p + adv) with
      | inl e' =>
        dsimp only
        exact lp_inl (hs.1 e' e)
      | inr r =>
        obtain ⟨p', m', c', q'⟩ := r
        dsimp only
        obtain ⟨a1, a2, a3, a4⟩ := hs.2 p' m' c' q' e
        exact lp_L hst ha hS k p0 p' (op m m') (plus c c') _ (by omega) a2 (fun k => by have := h3 k; have := a3 k; unfold plus; omega) (fun k hk => by have := h4 k hk; have := a4 k hk; unfold plus; omega)
    · rw [if_neg z]
      exact ⟨fun e h => (by cases h), fun _ _ _ _ h => by cases h; exact ⟨h1, h2, h3, h4⟩⟩
theorem st_lt {st : Option Nat → Bool} (h : st none = false) {p : Nat} (e : st (sg d n p) = true) : p < n := by
  unfold sg at e
  split at e
  · assumption
  · rw [h] at e; cases e
theorem lp_S (hn : n ≤ 299) : ∀ (f j o p : Nat), p ≤ n → LPr d n p (lwS d n f j o p)
  | 0, _, _, _, _ => lp_inl (Or.inl rfl)
  | f + 1, 0, o, p, hp => by
    rw [lwS]
    have hs := lp_S hn f 2 o p hp
    cases e : lwS d n f 2 o p with
    | inl e' => dsimp only; exact lp_inl (hs.1 e' e)
    | inr r =>
      obtain ⟨p', m', c', q'⟩ := r
      dsimp only
      obtain ⟨a1, a2, a3, a4⟩ := hs.2 p' m' c' q' e
      exact lp_L (fun p => st_lt rfl) (by decide) (fun p hp => lp_S hn f 2 o p hp) 60 p p' m' c' q' a1 a2 a3 a4
  | f + 1, 1, o, p, hp => by
    rw [lwS]
    have hs := lp_S hn f 0 o p hp
    cases e : lwS d n f 0 o p with
    | inl e' => dsimp only; exact lp_inl (hs.1 e' e)
    | inr r =>
      obtain ⟨p', m', c', q'⟩ := r
      dsimp only
      obtain ⟨a1, a2, a3, a4⟩ := hs.2 p' m' c' q' e
      exact lp_L (fun p => st_lt rfl) (by decide) (fun p hp => lp_S hn f 0 o p hp) 60 p p' m' c' q' a1 a2 a3 a4
  | f + 1, j + 2, o, p, hp => by
    rw [lwS]
    · cases e : sg d n p with
      | none => dsimp only; exact lp_flt (by decide) (by decide) (by omega)
      | some b =>
        have hpn : p < n := by
          unfold sg at e
          split at e
          · assumption
          · cases e
        dsimp only
        split
        · split
          · rename_i h1 h2
            exact ⟨fun e h => (by cases h), fun _ _ _ _ h => by cases h; exact ⟨by omega, by omega, fun k => by unfold one1; split <;> omega, fun k hk => by unfold one1; rw [if_neg (by omega)]⟩⟩
          · exact lp_flt (by decide) (by decide) (by omega)
        · split
          · split
            · split
              · have hs := lp_S hn f 2 (o + 1) (p + 1) (by omega)
                cases e2 : lwS d n f 2 (o + 1) (p + 1) with
                | inl e' => dsimp only; exact lp_inl (hs.1 e' e2)
                | inr r =>
                  obtain ⟨p', m', c', q'⟩ := r
                  dsimp only
                  obtain ⟨a1, a2, a3, a4⟩ := hs.2 p' m' c' q' e2
                  exact ⟨fun e h => (by cases h), fun _ _ _ _ h => by cases h; exact ⟨by omega, a2, fun k => by have := a3 k; omega, a4⟩⟩
              · have hs := lp_S hn f 1 (o + 1) (p + 1) (by omega)
                cases e2 : lwS d n f 1 (o + 1) (p + 1) with
                | inl e' => dsimp only; exact lp_inl (hs.1 e' e2)
                | inr r =>
                  obtain ⟨p', m', c', q'⟩ := r
                  dsimp only
                  obtain ⟨a1, a2, a3, a4⟩ := hs.2 p' m' c' q' e2
                  split
                  · rename_i h41
                    have := st_lt (d := d) (n := n) (st := fun x => x == some 41) rfl (p := p') (by rw [h41]; rfl)
                    exact ⟨fun e h => (by cases h), fun _ _ _ _ h => by cases h; exact ⟨by omega, by omega, fun k => by have := a3 k; omega, a4⟩⟩
                  · exact lp_flt (by decide) (by decide) (by omega)
            · exact lp_flt (by decide) (by decide) (by omega)
          · exact lp_flt (by decide) (by decide) (by omega)
    · intro z; omega
    · intro z; omega
end Lpu
