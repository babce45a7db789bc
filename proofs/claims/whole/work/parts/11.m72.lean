/-! NEAR's texts, read by descent: a fault, or where it ends, the class's code, the reference's, and what they mean -/
abbrev Cd : Type := List (Nat × Nat)
abbrev Mn : Type := (Nat → Int32) → Option Int32
abbrev Nr : Type := Int32 ⊕ (Nat × Cd × Cd × Mn)
def hh (d : Dt) (n p : Nat) : Nat := sg0 (sg d n p)
def nmL (d : Dt) (n : Nat) : Nat → Nat → Nat → Nat × Nat
  | 0, p, v => (p, v)
  | k + 1, p, v => if 48 ≤ hh d n p ∧ hh d n p ≤ 57 then nmL d n k (p + 1) (10 * v + (hh d n p - 48)) else (p, v)
def ltr (b : Nat) : Nat := if b = 97 then 5 else if b = 98 then 2 else if b = 99 then 6 else if b = 108 then 7 else if b = 115 then 1 else if b = 119 then 0 else if b = 120 then 3 else if b = 121 then 4 else 8
def opA (j b : Nat) : Nat := if j = 0 then (if b = 42 then 4 else if b = 47 then 5 else if b = 37 then 6 else 0) else (if b = 43 then 2 else if b = 45 then 3 else 0)
def cps (b : Nat) : Nat := if b = 60 then 7 else if b = 62 then 8 else if b = 61 then 9 else 0
def ap (b : Nat) (x y : Int32) : Option Int32 := if b = 43 then some (x + y) else if b = 45 then some (x - y) else if b = 42 then some (x * y) else if b = 47 then (if y = 0 then none else some (x / y)) else if b = 37 then (if y = 0 then none else some (x - x / y * y)) else if b = 60 then some (if y ≤ x then 0 else 1) else if b = 62 then some (if x ≤ y then 0 else 1) else some (if x = y then 1 else 0)
def bd2 (b : Nat) (f g : Mn) : Mn := fun L => (f L).bind fun x => (g L).bind fun y => ap b x y
def lzy (b : Nat) (f g : Mn) : Mn := fun L => (f L).bind fun x => if b = 124 then (if x = 0 then g L else some x) else (if x = 1 then g L else some x)
def nrA (d : Dt) (n : Nat) (op : Nat → Nat) (S : Nat → Nat → Nr) (s : Nat) : Nat → Nat → Cd → Cd → Mn → Nr
  | 0, p, K, M, f => .inr (p, K, M, f)
  | k + 1, p, K, M, f => if op (hh d n p) = 0 then .inr (p, K, M, f) else (match S (s + K.length) (p + 1) with
    | .inl e => .inl e
    | .inr (p', K', M', g) => nrA d n op S s k p' (K ++ K' ++ [(op (hh d n p), 0)]) (M ++ M' ++ [(hh d n p, 0)]) (bd2 (hh d n p) f g))
def nrC (d : Dt) (n jb jc : Nat) (S : Nat → Nat → Nr) (s : Nat) : Nat → Nat → Cd → Cd → Mn → Nr
  | 0, p, K, M, f => .inr (p, K, M, f)
  | k + 1, p, K, M, f => if hh d n p = jb then (match S (s + K.length + 1) (p + 1) with
    | .inl e => .inl e
    | .inr (p', K', M', g) => nrC d n jb jc S s k p' (K ++ (jc, s + K.length + 1 + K'.length) :: K') (M ++ M' ++ [(jb, 0)]) (lzy jb f g)) else .inr (p, K, M, f)
/-- what stands alone in a value -/
def naF (d : Dt) (n : Nat) (S : Nat → Nat → Nat → Nr) (o s p : Nat) : Nr := if hh d n p = 91 then (if o < 6 then (match S (o + 1) s (p + 1) with
    | .inl e => .inl e
    | .inr (p', K, M, f) => if hh d n p' = 93 then .inr (p' + 1, K, M, f) else .inl (flt 1 p')) else .inl (flt 5 p)) else if 48 ≤ hh d n p ∧ hh d n p ≤ 57 then (if 48 ≤ hh d n (nmL d n 5 p 0).1 ∧ hh d n (nmL d n 5 p 0).1 ≤ 57 then .inl (flt 2 (nmL d n 5 p 0).1) else .inr ((nmL d n 5 p 0).1, [(0, (nmL d n 5 p 0).2)], [(0, (nmL d n 5 p 0).2)], fun _ => some (nI (nmL d n 5 p 0).2))) else if ltr (hh d n p) = 8 then .inl (flt 1 p) else .inr (p + 1, [(1, ltr (hh d n p))], [(1, hh d n p)], fun L => some (L (ltr (hh d n p))))
/-- values: 0 what stands alone, 1 products, 2 sums -/
def naS (d : Dt) (n : Nat) : Nat → Nat → Nat → Nat → Nat → Nr
  | 0, _, _, _, _ => .inl 0
  | f + 1, 0, o, s, p => naF d n (naS d n f 2) o s p
  | f + 1, j + 1, o, s, p => match naS d n f j o s p with
    | .inl e => .inl e
    | .inr (p', K, M, g) => nrA d n (opA j) (naS d n f j o) s 160 p' K M g
/-- a piece of a condition -/
def ncF (d : Dt) (n : Nat) (P Q : Nat → Nat → Nat → Nr) (o s p : Nat) : Nr := if hh d n p = 33 then (if o < 6 then (match P (o + 1) s (p + 1) with
    | .inl e => .inl e
    | .inr (p', K, M, f) => .inr (p', K ++ [(10, 0)], M ++ [(2, 0)], fun L => (f L).map (fun x => 1 - x))) else .inl (flt 5 p)) else if hh d n p = 40 then (if o < 6 then (match Q (o + 1) s (p + 1) with
    | .inl e => .inl e
    | .inr (p', K, M, f) => if hh d n p' = 41 then .inr (p' + 1, K, M, f) else .inl (flt 1 p')) else .inl (flt 5 p)) else (match naS d n 100 2 o s p with
    | .inl e => .inl e
    | .inr (p', K, M, f) => if cps (hh d n p') = 0 then .inl (flt 1 p') else (match naS d n 100 2 o (s + K.length) (p' + 1) with
      | .inl e => .inl e
      | .inr (p2, K2, M2, g) => .inr (p2, K ++ K2 ++ [(cps (hh d n p'), 0)], M ++ M2 ++ [(hh d n p', 0)], bd2 (hh d n p') f g)))
/-- conditions: 0 a piece, 1 pieces with &, 2 parts with | -/
def ncS (d : Dt) (n : Nat) : Nat → Nat → Nat → Nat → Nat → Nr
  | 0, _, _, _, _ => .inl 0
  | f + 1, 0, o, s, p => ncF d n (ncS d n f 0) (ncS d n f 2) o s p
  | f + 1, j + 1, o, s, p => match ncS d n f j o s p with
    | .inl e => .inl e
    | .inr (p', K, M, g) => nrC d n (if j = 0 then 38 else 124) (if j = 0 then 12 else 11) (ncS d n f j o) s 160 p' K M g
/-- what is true of every reading -/
def NPr (n p : Nat) (R : Nr) : Prop := (∀ e, R = .inl e → e = 0 ∨ e < 0) ∧ ∀ p' K M f, R = .inr (p', K, M, f) → p < p' ∧ p' ≤ n ∧ K.length ≤ p' - p ∧ M.length = K.length ∧ 0 < K.length
section Npu
variable {d : Dt} {n : Nat}
theorem hh_lt {p b : Nat} (h : hh d n p = b) (hb : b ≠ 0) : p < n := by
  unfold hh sg at h
  by_cases q : p < n
  · exact q
  · rw [if_neg q] at h
    exact absurd h.symm hb
theorem np_inl {p : Nat} {e : Int32} (h : e = 0 ∨ e < 0) : NPr n p (.inl e) := ⟨fun e' he => (by obtain rfl := Sum.inl.inj he; exact h), fun _ _ _ _ h => (by cases h)⟩
theorem np_flt {p p0 c : Nat} (h1 : c < 6) (h2 : 0 < c) (h3 : p ≤ 300) : NPr n p0 (.inl (flt c p)) := np_inl (Or.inr (flt_neg c h1 h2 p (by omega)))
theorem opA_ne {j : Nat} : opA j 0 = 0 := by
  unfold opA
  split <;> rfl
theorem np_A {op : Nat → Nat} {S : Nat → Nat → Nr} {s : Nat} (h0 : op 0 = 0) (hS : ∀ s p, p ≤ n → NPr n p (S s p)) : ∀ (k p0 p : Nat) (K M : Cd) (f : Mn), p0 < p → p ≤ n → K.length ≤ p - p0 → M.length = K.length → 0 < K.length → NPr n p0 (nrA d n op S s k p K M f)
  | 0, p0, p, K, M, f, h1, h2, h3, h4, h5 => ⟨fun e h => (by cases h), fun _ _ _ _ h => by cases h; exact ⟨h1, h2, h3, h4, h5⟩⟩
  | k + 1, p0, p, K, M, f, h1, h2, h3, h4, h5 => by
    rw [nrA]
    by_cases z : op (hh d n p) = 0
    · rw [if_pos z]
      exact ⟨fun e h => (by cases h), fun _ _ _ _ h => by cases h; exact ⟨h1, h2, h3, h4, h5⟩⟩
    · have hp : p < n := hh_lt (d := d) rfl (fun q => z (by rw [q]; exact h0))
      rw [if_neg z]
      have hs := hS (s + K.length) (p + 1) hp
      cases e : S (s + K.length) (p + 1) with
      | inl e' =>
        dsimp only
        exact np_inl (hs.1 e' e)
      | inr r =>
        obtain ⟨p', K', M', g⟩ := r
        dsimp only
        obtain ⟨a1, a2, a3, a4, a5⟩ := hs.2 p' K' M' g e
        exact np_A h0 hS k p0 p' _ _ _ (by omega) a2 (by simp only [List.length_append, List.length_cons, List.length_nil]; omega) (by simp only [List.length_append, List.length_cons, List.length_nil]; omega) (by simp only [List.length_append, List.length_cons, List.length_nil]; omega)
theorem np_C {jb jc : Nat} {S : Nat → Nat → Nr} {s : Nat} (h0 : jb ≠ 0) (hS : ∀ s p, p ≤ n → NPr n p (S s p)) : ∀ (k p0 p : Nat) (K M : Cd) (f : Mn), p0 < p → p ≤ n → K.length ≤ p - p0 → M.length = K.length → 0 < K.length → NPr n p0 (nrC d n jb jc S s k p K M f)
  | 0, p0, p, K, M, f, h1, h2, h3, h4, h5 => ⟨fun e h => (by cases h), fun _ _ _ _ h => by cases h; exact ⟨h1, h2, h3, h4, h5⟩⟩
  | k + 1, p0, p, K, M, f, h1, h2, h3, h4, h5 => by
    rw [nrC]
    by_cases z : hh d n p = jb
    · have hp : p < n := hh_lt (d := d) z h0
      rw [if_pos z]
      have hs := hS (s + K.length + 1) (p + 1) hp
      cases e : S (s + K.length + 1) (p + 1) with
      | inl e' =>
        dsimp only
        exact np_inl (hs.1 e' e)
      | inr r =>
        obtain ⟨p', K', M', g⟩ := r
        dsimp only
        obtain ⟨a1, a2, a3, a4, a5⟩ := hs.2 p' K' M' g e
        exact np_C h0 hS k p0 p' _ _ _ (by omega) a2 (by simp only [List.length_append, List.length_cons, List.length_nil]; omega) (by simp only [List.length_append, List.length_cons, List.length_nil]; omega) (by simp only [List.length_append, List.length_cons, List.length_nil]; omega)
    · rw [if_neg z]
      exact ⟨fun e h => (by cases h), fun _ _ _ _ h => by cases h; exact ⟨h1, h2, h3, h4, h5⟩⟩
theorem nm_ok : ∀ (k p v : Nat), p ≤ n → v < 10 ^ (5 - k) → k ≤ 5 → p ≤ (nmL d n k p v).1 ∧ (nmL d n k p v).1 ≤ n ∧ (nmL d n k p v).1 ≤ p + k ∧ (nmL d n k p v).2 < 100000
  | 0, p, v, hp, hv, _ => ⟨Nat.le_refl _, hp, Nat.le_refl _, hv⟩
  | k + 1, p, v, hp, hv, hk => by
    rw [nmL]
    split
    · rename_i h
      have hpn : p < n := hh_lt (d := d) rfl (by omega)
      have e : 5 - k = (5 - (k + 1)) + 1 := by omega
      have ih := nm_ok k (p + 1) (10 * v + (hh d n p - 48)) hpn (by rw [e, Nat.pow_succ]; omega) (by omega)
      omega
    · refine ⟨Nat.le_refl _, hp, by omega, Nat.lt_of_lt_of_le hv ?_⟩
      exact (Nat.pow_le_pow_right (by decide) (by omega) : 10 ^ (5 - (k + 1)) ≤ 10 ^ 5)
theorem nm_gt {p : Nat} (h : 48 ≤ hh d n p ∧ hh d n p ≤ 57) : p < (nmL d n 5 p 0).1 ∧ (nmL d n 5 p 0).1 ≤ n ∧ (nmL d n 5 p 0).1 ≤ p + 5 ∧ (nmL d n 5 p 0).2 < 100000 := by
  have hpn : p < n := hh_lt (d := d) rfl (by omega)
  rw [nmL, if_pos h]
  have := nm_ok (d := d) (n := n) 4 (p + 1) (10 * 0 + (hh d n p - 48)) hpn (show _ < 10 by omega) (by decide)
  omega
theorem np_aS (hn : n ≤ 299) : ∀ (f j o s p : Nat), p ≤ n → NPr n p (naS d n f j o s p)
  | 0, _, _, _, _, _ => np_inl (Or.inl rfl)
  | f + 1, 0, o, s, p, hp => by
    rw [naS]
    unfold naF
    by_cases h1 : hh d n p = 91
    · have hpn := hh_lt h1 (by decide)
      rw [if_pos h1]
      split
      · have hs := np_aS hn f 2 (o + 1) s (p + 1) hpn
        cases e : naS d n f 2 (o + 1) s (p + 1) with
        | inl e' => dsimp only; exact np_inl (hs.1 e' e)
        | inr r =>
          obtain ⟨p', K', M', g⟩ := r
          dsimp only
          obtain ⟨a1, a2, a3, a4, a5⟩ := hs.2 p' K' M' g e
          split
          · rename_i h93
            have := hh_lt h93 (by decide)
            exact ⟨fun e h => (by cases h), fun _ _ _ _ h => by cases h; exact ⟨by omega, by omega, by omega, a4, a5⟩⟩
          · exact np_flt (by decide) (by decide) (by omega)
      · exact np_flt (by decide) (by decide) (by omega)
    · rw [if_neg h1]
      split
      · rename_i h2
        have hm := nm_gt h2
        split
        · exact np_flt (by decide) (by decide) (by omega)
        · exact ⟨fun e h => (by cases h), fun _ _ _ _ h => by cases h; exact ⟨by omega, by omega, by simp only [List.length_cons, List.length_nil]; omega, rfl, Nat.one_pos⟩⟩
      · split
        · exact np_flt (by decide) (by decide) (by omega)
        · rename_i h3
          have hpn : p < n := hh_lt (d := d) rfl (fun q => h3 (by rw [q]; decide))
          exact ⟨fun e h => (by cases h), fun _ _ _ _ h => by cases h; exact ⟨by omega, by omega, by simp only [List.length_cons, List.length_nil]; omega, rfl, Nat.one_pos⟩⟩
  | f + 1, j + 1, o, s, p, hp => by
    rw [naS]
    have hs := np_aS hn f j o s p hp
    cases e : naS d n f j o s p with
    | inl e' => dsimp only; exact np_inl (hs.1 e' e)
    | inr r =>
      obtain ⟨p', K', M', g⟩ := r
      dsimp only
      obtain ⟨a1, a2, a3, a4, a5⟩ := hs.2 p' K' M' g e
      exact np_A opA_ne (fun s p hp => np_aS hn f j o s p hp) 160 p p' K' M' g a1 a2 a3 a4 a5
theorem np_cS (hn : n ≤ 299) : ∀ (f j o s p : Nat), p ≤ n → NPr n p (ncS d n f j o s p)
  | 0, _, _, _, _, _ => np_inl (Or.inl rfl)
  | f + 1, 0, o, s, p, hp => by
    rw [ncS]
    unfold ncF
    by_cases h1 : hh d n p = 33
    · have hpn := hh_lt h1 (by decide)
      rw [if_pos h1]
      split
      · have hs := np_cS hn f 0 (o + 1) s (p + 1) hpn
        cases e : ncS d n f 0 (o + 1) s (p + 1) with
        | inl e' => dsimp only; exact np_inl (hs.1 e' e)
        | inr r =>
          obtain ⟨p', K', M', g⟩ := r
          dsimp only
          obtain ⟨a1, a2, a3, a4, a5⟩ := hs.2 p' K' M' g e
          exact ⟨fun e h => (by cases h), fun _ _ _ _ h => by cases h; exact ⟨by omega, a2, by simp only [List.length_append, List.length_cons, List.length_nil]; omega, by simp only [List.length_append, List.length_cons, List.length_nil]; omega, by simp only [List.length_append, List.length_cons, List.length_nil]; omega⟩⟩
      · exact np_flt (by decide) (by decide) (by omega)
    · rw [if_neg h1]
      by_cases h2 : hh d n p = 40
      · have hpn := hh_lt h2 (by decide)
        rw [if_pos h2]
        split
        · have hs := np_cS hn f 2 (o + 1) s (p + 1) hpn
          cases e : ncS d n f 2 (o + 1) s (p + 1) with
          | inl e' => dsimp only; exact np_inl (hs.1 e' e)
          | inr r =>
            obtain ⟨p', K', M', g⟩ := r
            dsimp only
            obtain ⟨a1, a2, a3, a4, a5⟩ := hs.2 p' K' M' g e
            split
            · rename_i h93
              have := hh_lt h93 (by decide)
              exact ⟨fun e h => (by cases h), fun _ _ _ _ h => by cases h; exact ⟨by omega, by omega, by omega, a4, a5⟩⟩
            · exact np_flt (by decide) (by decide) (by omega)
        · exact np_flt (by decide) (by decide) (by omega)
      · rw [if_neg h2]
        have hs := np_aS (d := d) hn 100 2 o s p hp
        cases e : naS d n 100 2 o s p with
        | inl e' => dsimp only; exact np_inl (hs.1 e' e)
        | inr r =>
          obtain ⟨p', K', M', g⟩ := r
          dsimp only
          obtain ⟨a1, a2, a3, a4, a5⟩ := hs.2 p' K' M' g e
          split
          · exact np_flt (by decide) (by decide) (by omega)
          · rename_i h3
            have hpn : p' < n := hh_lt (d := d) rfl (fun q => h3 (by rw [q]; decide))
            have hs2 := np_aS (d := d) hn 100 2 o (s + K'.length) (p' + 1) hpn
            cases e2 : naS d n 100 2 o (s + K'.length) (p' + 1) with
            | inl e' => dsimp only; exact np_inl (hs2.1 e' e2)
            | inr r2 =>
              obtain ⟨p2, K2, M2, g2⟩ := r2
              dsimp only
              obtain ⟨b1, b2, b3, b4, b5⟩ := hs2.2 p2 K2 M2 g2 e2
              exact ⟨fun e h => (by cases h), fun _ _ _ _ h => by cases h; exact ⟨by omega, b2, by simp only [List.length_append, List.length_cons, List.length_nil]; omega, by simp only [List.length_append, List.length_cons, List.length_nil]; omega, by simp only [List.length_append, List.length_cons, List.length_nil]; omega⟩⟩
  | f + 1, j + 1, o, s, p, hp => by
    rw [ncS]
    have hs := np_cS hn f j o s p hp
    cases e : ncS d n f j o s p with
    | inl e' => dsimp only; exact np_inl (hs.1 e' e)
    | inr r =>
      obtain ⟨p', K', M', g⟩ := r
      dsimp only
      obtain ⟨a1, a2, a3, a4, a5⟩ := hs.2 p' K' M' g e
      exact np_C (by split <;> decide) (fun s p hp => np_cS hn f j o s p hp) 160 p p' K' M' g a1 a2 a3 a4 a5
end Npu
