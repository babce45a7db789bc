/-! LAWS' texts, read by descent: a fault, or where it ends, its MEANING, its letters and its joins (counted of this piece alone) -/
abbrev Lr : Type := Int32 ⊕ (Nat × Nat × (Nat → Nat) × (Nat → Nat))
def one1 (k : Nat) : Nat → Nat := fun i => if i = k then 1 else 0
def plus (f g : Nat → Nat) : Nat → Nat := fun i => f i + g i
def stS (o : Option Nat) : Bool := match o with
  | none => false
  | some b => b == 45 || b == 40 || (decide (97 ≤ b) && decide (b ≤ 106))
def stP (o : Option Nat) : Bool := match o with
  | none => false
  | some b => b == 43
def lwL (d : Dt) (n : Nat) (S : Nat → Lr) (st : Option Nat → Bool) (adv jk : Nat) (op : Nat → Nat → Nat) : Nat → Nat → Nat → (Nat → Nat) → (Nat → Nat) → Lr
  | 0, p, m, c, j => .inr (p, m, c, j)
  | k + 1, p, m, c, j => if st (sg d n p) = true then (match S (p + adv) with
    | .inl e => .inl e
    | .inr (p', m', c', j') => lwL d n S st adv jk op k p' (op m m') (plus c c') (plus (plus j j') (one1 jk))) else .inr (p, m, c, j)
/-- j = 0: joined by AND; 1: joined by OR; 2: one -/
def lwS (d : Dt) (n : Nat) : Nat → Nat → Nat → Nat → Lr
  | 0, _, _, _ => .inl 0
  | f + 1, 0, o, p => match lwS d n f 2 o p with
    | .inl e => .inl e
    | .inr (p', m, c, j) => lwL d n (lwS d n f 2 o) stS 0 2 (fun a b => a &&& b) 60 p' m c j
  | f + 1, 1, o, p => match lwS d n f 0 o p with
    | .inl e => .inl e
    | .inr (p', m, c, j) => lwL d n (lwS d n f 0 o) stP 1 3 (fun a b => a ||| b) 60 p' m c j
  | f + 1, _, o, p => match sg d n p with
    | none => .inl (flt 1 p)
    | some b => if 97 ≤ b ∧ b ≤ 106 then (if b - 97 < d 0 0 ∧ d 1 (b - 97) = 0 then .inr (p + 1, d 2 (b - 97), one1 (b - 97), fun _ => 0) else .inl (flt 2 p)) else if b = 45 ∨ b = 40 then (if o < 6 then (if b = 45 then (match lwS d n f 2 (o + 1) (p + 1) with
      | .inl e => .inl e
      | .inr (p', m, c, j) => .inr (p', 63 ^^^ m, c, plus j (one1 1))) else (match lwS d n f 1 (o + 1) (p + 1) with
      | .inl e => .inl e
      | .inr (p', m, c, j) => if sg d n p' = some 41 then .inr (p' + 1, m, c, j) else .inl (flt 1 p'))) else .inl (flt 5 p)) else .inl (flt 1 p)
/-- what the class writes when it reads -/
def wrL (c k : Nat) : Prop := (c = 12 ∧ 2 ≤ k) ∨ c = 40
section Ldd
variable {d : Dt} {n p : Nat} {F : Int32} {w : Mm}
/-- behind a fault nothing of the text is read, and the fault stays -/
theorem k_dead (hF : ¬ F = 0) : ∀ (f j o : Nat) (w : Mm), Lay w → Tx d n p F w → 4 ≤ f + j → (j = 0 → 2 ≤ f) → (j = 1 → 3 ≤ f) → (2 ≤ j → 1 ≤ f) → Rt (rc_X6_both f j 40 (nI o) w) (fun r => Tx d n p F r.2 ∧ fx wrL w r.2) := by
  have h2 : ∀ (f j o : Nat) (w : Mm), 2 ≤ j → 1 ≤ f → Tx d n p F w → rc_X6_both f j 40 (nI o) w = some (0, w) := fun f j o w hj hf h => by
    cases f with
    | zero => omega
    | succ f =>
      rw [rc_X6_both, if_neg (by omega), if_neg (by omega)]
      unfold gf_X6_single
      rw [k_signF h hF, Option.bind_some, if_pos (by decide), if_pos (by decide), k_failF h hF, Option.bind_some]
  have h0 : ∀ (f o : Nat) (w : Mm), 2 ≤ f → Lay w → Tx d n p F w → rc_X6_both f 0 40 (nI o) w = some (0, w) := fun f o w hf hL h => by
    cases f with
    | zero => omega
    | succ f =>
      rw [rc_X6_both, if_pos rfl]
      unfold gf_X6_both
      rw [h2 f 2 o w (by omega) (by omega) h, Option.bind_some]
      dsimp only
      have e : wh (l_X6_both_8 (rc_X6_both f) 40 (nI o)) FUEL ((0 : Int32), (0 : Int32), w) = some (0, w) := by
        apply Rt.eq
        refine rt_for (fun k (s : Int32 × Int32 × Mm) => s = ((0 : Int32), (0 : Int32), w)) 0 (fun k s hk => absurd hk (Nat.not_lt_zero k)) ?_ rfl (by decide)
        rintro s rfl
        unfold l_X6_both_8
        dsimp only
        rw [if_neg (by decide), rt_onL, k_signF h hF, Option.bind_some, if_pos (by decide), rt_some, nx_r]
        exact ⟨hL, rfl⟩
      rw [e, Option.bind_some]
  intro f j o w hL h _ hj0 hj1 hj2
  rcases (by omega : j = 0 ∨ j = 1 ∨ 2 ≤ j) with rfl | rfl | hj
  · rw [h0 f o w (hj0 rfl) hL h, rt_some]; exact ⟨h, fx.rf⟩
  · cases f with
    | zero => have := hj1 rfl; omega
    | succ f =>
      have hf := hj1 rfl
      rw [rc_X6_both, if_neg (by decide), if_pos rfl]
      unfold gf_X6_either
      rw [h0 f o w (by omega) hL h, Option.bind_some]
      dsimp only
      have e : wh (l_X6_either_8 (rc_X6_both f) 40 (nI o)) FUEL ((0 : Int32), (0 : Int32), w) = some (0, w) := by
        apply Rt.eq
        refine rt_for (fun k (s : Int32 × Int32 × Mm) => s = ((0 : Int32), (0 : Int32), w)) 0 (fun k s hk => absurd hk (Nat.not_lt_zero k)) ?_ rfl (by decide)
        rintro s rfl
        unfold l_X6_either_8
        dsimp only
        rw [if_neg (by decide), rt_onL, k_signF h hF, Option.bind_some, if_neg (by decide), rt_some, nx_r]
        exact ⟨hL, rfl⟩
      rw [e, Option.bind_some, rt_some]
      exact ⟨h, fx.rf⟩
  · rw [h2 f j o w hj (hj2 hj) h, rt_some]; exact ⟨h, fx.rf⟩
end Ldd
