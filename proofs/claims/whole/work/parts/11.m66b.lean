/-! a LAW's MEANING is one of the 64 -/
def LM6 (R : Lr) : Prop := ∀ p' m c q, R = .inr (p', m, c, q) → m < 64
section Lm6
variable {d : Dt} {n : Nat}
theorem lm_L {S : Nat → Lr} {st : Option Nat → Bool} {adv jk : Nat} {op : Nat → Nat → Nat} (hop : ∀ a b, a < 64 → b < 64 → op a b < 64) (hS : ∀ p, LM6 (S p)) : ∀ (k p m : Nat) (c q : Nat → Nat), m < 64 → LM6 (lwL d n S st adv jk op k p m c q)
  | 0, p, m, c, q, h => fun _ _ _ _ e => (by cases e; exact h)
  | k + 1, p, m, c, q, h => by
    rw [lwL]
    split
    · have hs := hS (p + adv)
      cases e : S (p + adv) with
      | inl e' => exact fun _ _ _ _ z => (by cases z)
      | inr r =>
        obtain ⟨p', m', c', q'⟩ := r
        dsimp only
        exact lm_L hop hS k p' (op m m') _ _ (hop m m' h (hs p' m' c' q' e))
    · exact fun _ _ _ _ e => (by cases e; exact h)
theorem lm_S (o : OkL d) : ∀ (f j op p : Nat), LM6 (lwS d n f j op p)
  | 0, _, _, _ => fun _ _ _ _ e => (by cases e)
  | f + 1, 0, op, p => by
    rw [lwS]
    cases e : lwS d n f 2 op p with
    | inl e' => exact fun _ _ _ _ z => (by cases z)
    | inr r =>
      obtain ⟨p', m', c', q'⟩ := r
      dsimp only
      exact lm_L (fun a b ha hb => Nat.lt_of_le_of_lt Nat.and_le_left ha) (fun p => lm_S o f 2 op p) 60 p' m' c' q' (lm_S o f 2 op p p' m' c' q' e)
  | f + 1, 1, op, p => by
    rw [lwS]
    cases e : lwS d n f 0 op p with
    | inl e' => exact fun _ _ _ _ z => (by cases z)
    | inr r =>
      obtain ⟨p', m', c', q'⟩ := r
      dsimp only
      exact lm_L (fun a b ha hb => Nat.or_lt_two_pow (n := 6) ha hb) (fun p => lm_S o f 0 op p) 60 p' m' c' q' (lm_S o f 0 op p p' m' c' q' e)
  | f + 1, j + 2, op, p => by
    have o10 := o.1
    rw [lwS]
    · cases e : sg d n p with
      | none => exact fun _ _ _ _ z => (by cases z)
      | some b =>
        dsimp only
        split
        · split
          · rename_i h1 h2
            exact fun _ _ _ _ z => (by cases z; exact (o.2.2.1 (b - 97) (by omega)).2.1)
          · exact fun _ _ _ _ z => (by cases z)
        · split
          · split
            · split
              · cases e2 : lwS d n f 2 (op + 1) (p + 1) with
                | inl e' => exact fun _ _ _ _ z => (by cases z)
                | inr r =>
                  obtain ⟨p', m', c', q'⟩ := r
                  exact fun _ _ _ _ z => (by cases z; exact xor63_lt (lm_S o f 2 (op + 1) (p + 1) p' m' c' q' e2))
              · cases e2 : lwS d n f 1 (op + 1) (p + 1) with
                | inl e' => exact fun _ _ _ _ z => (by cases z)
                | inr r =>
                  obtain ⟨p', m', c', q'⟩ := r
                  dsimp only
                  split
                  · exact fun _ _ _ _ z => (by cases z; exact lm_S o f 1 (op + 1) (p + 1) p' m' c' _ e2)
                  · exact fun _ _ _ _ z => (by cases z)
            · exact fun _ _ _ _ z => (by cases z)
          · exact fun _ _ _ _ z => (by cases z)
    · intro z; omega
    · intro z; omega
end Lm6
