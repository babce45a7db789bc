/-! LAWS' texts, read with a stack: an abstract machine -/
def opn : List Nat → Nat
  | [] => 0
  | s :: S => opn S + if s = 45 ∨ s = 40 then 1 else 0
/-- waiting joins are done -/
def jvf (x : Bool) : List Nat → List Nat → (Nat → Nat) → List Nat × List Nat × (Nat → Nat)
  | [], V, j => ([], V, j)
  | s :: S, V, j => if s = 42 ∨ (x = true ∧ s = 43) then (match V with
    | b :: a :: V' => jvf x S ((if s = 42 then a &&& b else a ||| b) :: V') (plus j (one1 (if s = 42 then 2 else 3)))
    | V' => (s :: S, V', j)) else (s :: S, V, j)
/-- waiting NOTs are done -/
def enf : List Nat → List Nat → (Nat → Nat) → List Nat × List Nat × (Nat → Nat)
  | [], V, j => ([], V, j)
  | s :: S, V, j => if s = 45 then (match V with
    | a :: V' => enf S ((63 ^^^ a) :: V') (plus j (one1 1))
    | V' => (s :: S, V', j)) else (s :: S, V, j)
abbrev Rr : Type := Int32 ⊕ (Nat × (Nat → Nat) × (Nat → Nat))
/-- true: something is to come; false: something has been read -/
def mc (d : Dt) (n : Nat) : Nat → Bool → Nat → List Nat → List Nat → (Nat → Nat) → (Nat → Nat) → Option Rr
  | 0, _, _, _, _, _, _ => none
  | k + 1, true, p, S, V, c, j => match sg d n p with
    | none => some (.inl (flt 1 p))
    | some b => if b = 45 ∨ b = 40 then (if opn S = 6 then some (.inl (flt 5 p)) else mc d n k true (p + 1) (b :: S) V c j) else if 97 ≤ b ∧ b ≤ 106 then (if b - 97 < d 0 0 ∧ d 1 (b - 97) = 0 then mc d n k false (p + 1) (enf S (d 2 (b - 97) :: V) j).1 (enf S (d 2 (b - 97) :: V) j).2.1 (plus c (one1 (b - 97))) (enf S (d 2 (b - 97) :: V) j).2.2 else some (.inl (flt 2 p))) else some (.inl (flt 1 p))
  | k + 1, false, p, S, V, c, j => match sg d n p with
    | none => if (jvf true S V j).1 = [] then some (.inr ((jvf true S V j).2.1.headD 0, c, (jvf true S V j).2.2)) else some (.inl (flt 1 p))
    | some b => if b = 41 then (if (jvf true S V j).1.headD 0 = 40 then mc d n k false (p + 1) (enf (jvf true S V j).1.tail (jvf true S V j).2.1 (jvf true S V j).2.2).1 (enf (jvf true S V j).1.tail (jvf true S V j).2.1 (jvf true S V j).2.2).2.1 c (enf (jvf true S V j).1.tail (jvf true S V j).2.1 (jvf true S V j).2.2).2.2 else some (.inl (flt 1 p))) else if b = 43 then mc d n k true (p + 1) (43 :: (jvf true S V j).1) (jvf true S V j).2.1 c (jvf true S V j).2.2 else if stS (some b) = true then mc d n k true p (42 :: (jvf false S V j).1) (jvf false S V j).2.1 c (jvf false S V j).2.2 else some (.inl (flt 1 p))
def Go (d : Dt) (n : Nat) (t : Bool) (p : Nat) (S V : List Nat) (c j : Nat → Nat) (R : Rr) : Prop := ∃ k, mc d n k t p S V c j = some R
section Mch
variable {d : Dt} {n : Nat}
theorem go_star {p a b : Nat} {S V : List Nat} {c j : Nat → Nat} {R : Rr} (h : Go d n false p S ((a &&& b) :: V) c (plus j (one1 2)) R) : Go d n false p (42 :: S) (b :: a :: V) c j R := by
  obtain ⟨k, hk⟩ := h
  refine ⟨k, ?_⟩
  have e : ∀ x, jvf x (42 :: S) (b :: a :: V) j = jvf x S ((a &&& b) :: V) (plus j (one1 2)) := fun x => by
    rw [jvf, if_pos (Or.inl rfl)]
    rfl
  cases k with
  | zero => cases hk
  | succ k =>
    rw [mc] at hk ⊢
    rw [e true, e false]
    exact hk
theorem go_plus {p a b : Nat} {S V : List Nat} {c j : Nat → Nat} {R : Rr} (hs : stS (sg d n p) = false) (h : Go d n false p S ((a ||| b) :: V) c (plus j (one1 3)) R) : Go d n false p (43 :: S) (b :: a :: V) c j R := by
  obtain ⟨k, hk⟩ := h
  refine ⟨k, ?_⟩
  have e : jvf true (43 :: S) (b :: a :: V) j = jvf true S ((a ||| b) :: V) (plus j (one1 3)) := by
    rw [jvf, if_pos (Or.inr ⟨rfl, rfl⟩)]
    rfl
  cases k with
  | zero => cases hk
  | succ k =>
    rw [mc] at hk ⊢
    rw [e]
    cases q : sg d n p with
    | none => rw [q] at hk; exact hk
    | some b =>
      rw [q] at hk hs
      dsimp only at hk ⊢
      rw [hs] at hk ⊢
      rw [if_neg (show ¬ false = true by decide)] at hk ⊢
      exact hk
end Mch
