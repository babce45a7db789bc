/-! generic: loops, guards, memory -/
theorem wh_inv {σ ε : Type} {b : σ → Option (σ ⊕ ε)} (I : σ → Prop) (μ : σ → Nat) (Post : ε → Prop) (hs : ∀ s, I s → (∃ s', b s = some (.inl s') ∧ I s' ∧ μ s' < μ s) ∨ ∃ x, b s = some (.inr x) ∧ Post x) : ∀ (n : Nat) (s : σ), I s → μ s < n → ∃ x, wh b n s = some x ∧ Post x
  | 0, s, _, h => absurd h (Nat.not_lt_zero _)
  | n + 1, s, hI, h => by
    unfold wh
    rcases hs s hI with ⟨s', e, hI', hm⟩ | ⟨x, e, hx⟩
    · rw [e]
      exact wh_inv I μ Post hs n s' hI' (by omega)
    · rw [e]
      exact ⟨x, rfl, hx⟩
/-- a loop with a counter k that goes up to N: J k s at its head -/
theorem wh_for {σ ε : Type} {b : σ → Option (σ ⊕ ε)} (J : Nat → σ → Prop) (N : Nat) (Post : ε → Prop) (hs : ∀ k s, k < N → J k s → (∃ s', b s = some (.inl s') ∧ J (k + 1) s') ∨ ∃ x, b s = some (.inr x) ∧ Post x) (he : ∀ s, J N s → ∃ x, b s = some (.inr x) ∧ Post x) : ∀ (n k : Nat) (s : σ), k ≤ N → J k s → N - k < n → ∃ x, wh b n s = some x ∧ Post x
  | 0, k, s, _, _, h => absurd h (Nat.not_lt_zero _)
  | n + 1, k, s, hk, hJ, h => by
    unfold wh
    by_cases hkN : k = N
    · subst hkN
      obtain ⟨x, e, hx⟩ := he s hJ
      rw [e]
      exact ⟨x, rfl, hx⟩
    · rcases hs k s (by omega) hJ with ⟨s', e, hJ'⟩ | ⟨x, e, hx⟩
      · rw [e]
        exact wh_for J N Post hs he n (k + 1) s' (by omega) hJ' (by omega)
      · rw [e]
        exact ⟨x, rfl, hx⟩
theorem fuel_lt {n : Nat} (h : n < 1000000000000) : n < FUEL := h
theorem ix_nI {n : Nat} (h : n < 2 ^ 31) : ix (nI n) = n := nI_clamp h
theorem inb_nI {i n : Nat} (h : i < n) (hn : n < 2 ^ 31) : inb (nI i) n = true := by
  unfold inb
  rw [nI_toInt (by omega)]
  exact decide_eq_true ⟨by omega, by omega⟩
theorem inb_of {x : Int32} {n : Nat} (h : inb x n = true) (hn : n < 2 ^ 31) : ∃ i, i < n ∧ x = nI i := vp_in_of (inb_vp h) hn
-- reads over writes
theorem gI_sI (w : Mm) (c k : Nat) (v : Int32) (c' k' : Nat) : gI (sI w c k v) c' k' = if c' = c ∧ k' = k then v else gI w c' k' := rfl
theorem gL_sL (w : Mm) (c k : Nat) (v : Int64) (c' k' : Nat) : gL (sL w c k v) c' k' = if c' = c ∧ k' = k then v else gL w c' k' := rfl
theorem gR_sR (w : Mm) (c k : Nat) (v : Option Nat) (c' k' : Nat) : gR (sR w c k v) c' k' = if c' = c ∧ k' = k then v else gR w c' k' := rfl
theorem gI_sL (w : Mm) (c k : Nat) (v : Int64) (c' k' : Nat) : gI (sL w c k v) c' k' = gI w c' k' := rfl
theorem gI_sR (w : Mm) (c k : Nat) (v : Option Nat) (c' k' : Nat) : gI (sR w c k v) c' k' = gI w c' k' := rfl
theorem gL_sI (w : Mm) (c k : Nat) (v : Int32) (c' k' : Nat) : gL (sI w c k v) c' k' = gL w c' k' := rfl
theorem gL_sR (w : Mm) (c k : Nat) (v : Option Nat) (c' k' : Nat) : gL (sR w c k v) c' k' = gL w c' k' := rfl
theorem gR_sI (w : Mm) (c k : Nat) (v : Int32) (c' k' : Nat) : gR (sI w c k v) c' k' = gR w c' k' := rfl
theorem gR_sL (w : Mm) (c k : Nat) (v : Int64) (c' k' : Nat) : gR (sL w c k v) c' k' = gR w c' k' := rfl
theorem gK_sI (w : Mm) (c k : Nat) (v : Int32) (c' : Nat) : gK (sI w c k v) c' = gK w c' := rfl
theorem gK_sL (w : Mm) (c k : Nat) (v : Int64) (c' : Nat) : gK (sL w c k v) c' = gK w c' := rfl
theorem gK_sR (w : Mm) (c k : Nat) (v : Option Nat) (c' : Nat) : gK (sR w c k v) c' = gK w c' := rfl
theorem lay_sI {w : Mm} {c k : Nat} {v : Int32} (h : Lay w) : Lay (sI w c k v) := h
theorem lay_sL {w : Mm} {c k : Nat} {v : Int64} (h : Lay w) : Lay (sL w c k v) := h
theorem mlen_sI (w : Mm) (c k : Nat) (v : Int32) : mlen (sI w c k v) = mlen w := rfl
theorem mlen_sL (w : Mm) (c k : Nat) (v : Int64) : mlen (sL w c k v) = mlen w := rfl
theorem mlen_sR (w : Mm) (c k : Nat) (v : Option Nat) : mlen (sR w c k v) = mlen w := rfl
/-- the cells in P are as they were -/
def same (P : Nat → Prop) (w w' : Mm) : Prop := ∀ c, P c → (∀ k, gI w' c k = gI w c k) ∧ (∀ k, gL w' c k = gL w c k) ∧ ∀ k, gR w' c k = gR w c k
theorem same.rf {P : Nat → Prop} (w : Mm) : same P w w := fun _ _ => ⟨fun _ => rfl, fun _ => rfl, fun _ => rfl⟩
theorem same.tr {P : Nat → Prop} {a b c : Mm} (h1 : same P a b) (h2 : same P b c) : same P a c := fun q hq => ⟨fun k => ((h2 q hq).1 k).trans ((h1 q hq).1 k), fun k => ((h2 q hq).2.1 k).trans ((h1 q hq).2.1 k), fun k => ((h2 q hq).2.2 k).trans ((h1 q hq).2.2 k)⟩
theorem same.sub {P Q : Nat → Prop} {a b : Mm} (h : same P a b) (hs : ∀ c, Q c → P c) : same Q a b := fun c hc => h c (hs c hc)
theorem same.I {P : Nat → Prop} {w : Mm} {c k : Nat} {v : Int32} (h : ¬ P c) : same P w (sI w c k v) := fun q hq => ⟨fun j => if_neg (fun e : q = c ∧ j = k => h (e.1 ▸ hq)), fun _ => rfl, fun _ => rfl⟩
theorem same.L {P : Nat → Prop} {w : Mm} {c k : Nat} {v : Int64} (h : ¬ P c) : same P w (sL w c k v) := fun q hq => ⟨fun _ => rfl, fun j => if_neg (fun e : q = c ∧ j = k => h (e.1 ▸ hq)), fun _ => rfl⟩
theorem same.R {P : Nat → Prop} {w : Mm} {c k : Nat} {v : Option Nat} (h : ¬ P c) : same P w (sR w c k v) := fun q hq => ⟨fun _ => rfl, fun _ => rfl, fun j => if_neg (fun e : q = c ∧ j = k => h (e.1 ▸ hq))⟩
-- numbers
theorem lies_within (x a b : Int32) : f_X12_lies x.toInt64 a.toInt64 b.toInt64 = f_X11_within x a b := by
  have h : ∀ u v : Int32, u.toInt64 ≤ v.toInt64 ↔ u ≤ v := fun u v => by rw [Int64.le_iff_toInt_le, Int32.le_iff_toInt_le, Int32.toInt_toInt64, Int32.toInt_toInt64]
  have h2 : ∀ u v : Int32, u.toInt64 < v.toInt64 ↔ u < v := fun u v => by rw [Int64.lt_iff_toInt_lt, Int32.lt_iff_toInt_lt, Int32.toInt_toInt64, Int32.toInt_toInt64]
  unfold f_X12_lies f_X11_within
  simp only [h2]
theorem within_yes {x a b : Int32} (h : ¬ f_X11_within x a b = 0) : ¬ x < a ∧ ¬ b < x := by
  unfold f_X11_within at h
  split at h
  · exact absurd rfl h
  · split at h
    · exact absurd rfl h
    · rename_i h1 h2; exact ⟨h1, h2⟩
theorem within_N {x : Int32} {M : Int32} {n : Nat} (hM : M.toInt = n) (h : ¬ f_X11_within x 0 M = 0) : ∃ j : Nat, j ≤ n ∧ x = nI j := nI_of2 hM (within_yes h).1 (Int32.not_lt.mp (within_yes h).2)
