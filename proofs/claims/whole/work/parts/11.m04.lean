/-! what a function that may fail answers: Rt o Q, it answers and the answer is as Q says -/
def Rt {α : Type} (o : Option α) (Q : α → Prop) : Prop := ∃ x, o = some x ∧ Q x
theorem rt_some {α : Type} {x : α} {Q : α → Prop} : Rt (some x) Q ↔ Q x := ⟨fun ⟨_, e, h⟩ => (by cases e; exact h), fun h => ⟨x, rfl, h⟩⟩
theorem rt_none {α : Type} {Q : α → Prop} : Rt (none : Option α) Q ↔ False := ⟨fun ⟨_, e, _⟩ => (by cases e), False.elim⟩
theorem rt_bind {α β : Type} {o : Option α} {k : α → Option β} {Q : β → Prop} : Rt (Option.bind o k) Q ↔ Rt o (fun a => Rt (k a) Q) := by
  constructor
  · rintro ⟨y, e, h⟩
    obtain ⟨a, e1, e2⟩ := bn e
    exact ⟨a, e1, y, e2, h⟩
  · rintro ⟨a, e1, y, e2, h⟩
    exact ⟨y, by rw [e1]; exact e2, h⟩
theorem rt_gd {α : Type} {c : Prop} [Decidable c] {a : Option α} {Q : α → Prop} : Rt (if c then a else none) Q ↔ c ∧ Rt a Q := by
  by_cases h : c
  · rw [if_pos h]; exact ⟨fun q => ⟨h, q⟩, fun q => q.2⟩
  · rw [if_neg h, rt_none]; exact ⟨False.elim, fun q => h q.1⟩
theorem rt_ite {α : Type} {c : Prop} [Decidable c] {a b : Option α} {Q : α → Prop} : Rt (if c then a else b) Q ↔ (c → Rt a Q) ∧ (¬ c → Rt b Q) := by
  by_cases h : c
  · rw [if_pos h]; exact ⟨fun q => ⟨fun _ => q, fun n => absurd h n⟩, fun q => q.1 h⟩
  · rw [if_neg h]; exact ⟨fun q => ⟨fun n => absurd n h, fun _ => q⟩, fun q => q.2 h⟩
theorem rt_onL {α : Type} {w : Mm} {T : Option α} {Q : α → Prop} : Rt (onL w T) Q ↔ Lay w ∧ Rt T Q := by
  constructor
  · rintro ⟨y, e, h⟩
    obtain ⟨h1, h2⟩ := onLn e
    exact ⟨h1, y, h2, h⟩
  · rintro ⟨h1, y, h2, h⟩
    exact ⟨y, by rw [onL_pos _ h1]; exact h2, h⟩
theorem rt_mg {τ ρ : Type} {x : Option (τ ⊕ ρ)} {k : τ → Option ρ} {Q : ρ → Prop} : Rt (mg x k) Q ↔ Rt x (fun s => match s with | .inl p => Rt (k p) Q | .inr r => Q r) := by
  cases x with
  | none => exact ⟨fun ⟨_, e, _⟩ => (by cases e), fun ⟨_, e, _⟩ => (by cases e)⟩
  | some s =>
    rw [rt_some]
    cases s with
    | inl p => exact Iff.rfl
    | inr r => exact rt_some
theorem rt_onq {α : Type} {x : Option Nat} {a : Option α} {k : Nat → Option α} {Q : α → Prop} : Rt (onq x a k) Q ↔ (x = none → Rt a Q) ∧ ∀ c, x = some c → Rt (k c) Q := by
  cases x with
  | none => exact ⟨fun h => ⟨fun _ => h, fun c e => (by cases e)⟩, fun h => h.1 rfl⟩
  | some c => exact ⟨fun h => ⟨fun e => (by cases e), fun _ e => (by cases e; exact h)⟩, fun h => h.2 c rfl⟩
theorem Rt.mono {α : Type} {o : Option α} {Q Q' : α → Prop} (h : Rt o Q) (hq : ∀ x, Q x → Q' x) : Rt o Q' := by
  obtain ⟨x, e, h⟩ := h
  exact ⟨x, e, hq x h⟩
theorem Rt.eq {α : Type} {o : Option α} {x : α} (h : Rt o (fun y => y = x)) : o = some x := by
  obtain ⟨y, e, rfl⟩ := h
  exact e
theorem rt_eq {α : Type} {o : Option α} {x : α} (h : o = some x) {Q : α → Prop} : Rt o Q ↔ Q x := by rw [h]; exact rt_some
/-- what a step of a loop leaves -/
def Nx {σ ε : Type} (I : σ → Prop) (Q : ε → Prop) : σ ⊕ ε → Prop
  | .inl s => I s
  | .inr x => Q x
theorem nx_l {σ ε : Type} {I : σ → Prop} {Q : ε → Prop} {s : σ} : Nx I Q (.inl s : σ ⊕ ε) ↔ I s := Iff.rfl
theorem nx_r {σ ε : Type} {I : σ → Prop} {Q : ε → Prop} {x : ε} : Nx I Q (.inr x : σ ⊕ ε) ↔ Q x := Iff.rfl
theorem rt_wh {σ ε : Type} {b : σ → Option (σ ⊕ ε)} (I : σ → Prop) (μ : σ → Nat) {Q : ε → Prop} (hs : ∀ s, I s → Rt (b s) (Nx (fun s' => I s' ∧ μ s' < μ s) Q)) {n : Nat} {s : σ} (h : I s) (hn : μ s < n) : Rt (wh b n s) Q := by
  refine wh_inv I μ Q (fun s h => ?_) n s h hn
  obtain ⟨e, h1, h2⟩ := hs s h
  cases e with
  | inl s' => exact Or.inl ⟨s', h1, h2⟩
  | inr x => exact Or.inr ⟨x, h1, h2⟩
theorem rt_for {σ ε : Type} {b : σ → Option (σ ⊕ ε)} (J : Nat → σ → Prop) (N : Nat) {Q : ε → Prop} (hs : ∀ k s, k < N → J k s → Rt (b s) (Nx (J (k + 1)) Q)) (he : ∀ s, J N s → Rt (b s) (Nx (fun _ => False) Q)) {s : σ} (h : J 0 s) (hN : N < 1000000000) : Rt (wh b FUEL s) Q := by
  refine wh_for J N Q (fun k s hk h => ?_) (fun s h => ?_) FUEL 0 s (Nat.zero_le _) h (by unfold FUEL; omega)
  · obtain ⟨e, h1, h2⟩ := hs k s hk h
    cases e with
    | inl s' => exact Or.inl ⟨s', h1, h2⟩
    | inr x => exact Or.inr ⟨x, h1, h2⟩
  · obtain ⟨e, h1, h2⟩ := he s h
    cases e with
    | inl s' => exact absurd h2 id
    | inr x => exact ⟨x, h1, h2⟩
-- numbers
theorem lits : (0 : Int32) = nI 0 ∧ (1 : Int32) = nI 1 ∧ (2 : Int32) = nI 2 ∧ (3 : Int32) = nI 3 ∧ (4 : Int32) = nI 4 ∧ (5 : Int32) = nI 5 ∧ (6 : Int32) = nI 6 ∧ (7 : Int32) = nI 7 ∧ (8 : Int32) = nI 8 ∧ (9 : Int32) = nI 9 ∧ (10 : Int32) = nI 10 ∧ (11 : Int32) = nI 11 ∧ (12 : Int32) = nI 12 ∧ (16 : Int32) = nI 16 ∧ (19 : Int32) = nI 19 ∧ (20 : Int32) = nI 20 ∧ (23 : Int32) = nI 23 ∧ (24 : Int32) = nI 24 ∧ (40 : Int32) = nI 40 ∧ (60 : Int32) = nI 60 ∧ (63 : Int32) = nI 63 ∧ (64 : Int32) = nI 64 ∧ (100 : Int32) = nI 100 ∧ (160 : Int32) = nI 160 ∧ (255 : Int32) = nI 255 ∧ (280 : Int32) = nI 280 ∧ (300 : Int32) = nI 300 ∧ (1000 : Int32) = nI 1000 ∧ (1023 : Int32) = nI 1023 ∧ (1024 : Int32) = nI 1024 ∧ (2000 : Int32) = nI 2000 ∧ (5000 : Int32) = nI 5000 ∧ (1000000 : Int32) = nI 1000000 ∧ (268435456 : Int32) = nI 268435456 := by
  refine ⟨rfl, rfl, rfl, rfl, rfl, rfl, rfl, rfl, rfl, rfl, rfl, rfl, rfl, rfl, rfl, rfl, rfl, rfl, rfl, rfl, rfl, rfl, rfl, rfl, rfl, rfl, rfl, rfl, rfl, rfl, rfl, rfl, rfl, rfl⟩
theorem inb_N {i n : Nat} (hi : i < 2 ^ 31) (hn : n < 2 ^ 31) : inb (nI i) n = true ↔ i < n := by
  unfold inb
  rw [nI_toInt hi, decide_eq_true_iff]
  omega
theorem nI_m1 {a : Nat} (h : a < 2 ^ 31) : nI a = -(nI 1) ↔ False := by
  rw [fa_eq, nI_toInt h, show (-(nI 1)).toInt = -1 by decide]
  constructor
  · intro h; omega
  · exact False.elim
theorem nI_m1' {a : Nat} (h : a < 2 ^ 31) : -(nI 1) = nI a ↔ False := by
  rw [eq_comm]
  exact nI_m1 h
theorem nm1 {a : Nat} (h : a < 2 ^ 31) : ¬ nI a = (-1 : Int32) := fun q => (nI_m1 h).mp q
theorem nm2 {a : Nat} (h : a < 2 ^ 31) : ¬ nI a = (-2 : Int32) := by
  rw [fa_eq, nI_toInt h, show (-2 : Int32).toInt = -2 by decide]
  omega
theorem nI_m2 {a : Nat} (h : a < 2 ^ 31) : nI a = -(nI 2) ↔ False := by
  rw [fa_eq, nI_toInt h, show (-(nI 2)).toInt = -2 by decide]
  constructor
  · intro h; omega
  · exact False.elim
theorem nI_am1 {a b : Nat} (h : b ≤ a) : nI a + -(nI b) = nI (a - b) := by
  rw [← pk_sub h]
  exact (Int32.sub_eq_add_neg ..).symm
def bI (b : Bool) : Int32 := if b then 1 else 0
theorem bI_0 {b : Bool} : bI b = 0 ↔ b = false := by cases b <;> decide
theorem bI_1 {b : Bool} : bI b = 1 ↔ b = true := by cases b <;> decide
theorem bI_t : bI true = 1 := rfl
theorem bI_f : bI false = 0 := rfl
theorem sh1_N : ∀ {i : Nat}, i < 31 → (1 : Int32) <<< (nI i &&& 31) = nI (2 ^ i) := fun {i} h => (by decide +kernel : ∀ i, i < 31 → (1 : Int32) <<< (nI i &&& 31) = nI (2 ^ i)) i h
/-- a set without one -/
def wo (t i : Nat) : Nat := t &&& (2 ^ i ^^^ 4294967295)
theorem wo_le {t i : Nat} : wo t i ≤ t := Nat.and_le_left
theorem tb_small {t n j : Nat} (ht : t < 2 ^ n) (hj : n ≤ j) : t.testBit j = false := Nat.testBit_lt_two_pow (Nat.lt_of_lt_of_le ht (Nat.pow_le_pow_right (by decide) hj))
theorem wo_bit {t i j : Nat} (ht : t < 2 ^ 32) : (wo t i).testBit j = (t.testBit j && !decide (i = j)) := by
  unfold wo
  rw [Nat.testBit_and, Nat.testBit_xor, Nat.testBit_two_pow, show (4294967295 : Nat) = 2 ^ 32 - 1 by decide, Nat.testBit_two_pow_sub_one]
  by_cases hj : j < 32
  · simp [hj]
  · rw [tb_small ht (by omega)]; simp
theorem wo_N {t i : Nat} (hi : i < 31) : nI t &&& (((1 : Int32) <<< (nI i &&& 31)) ^^^ (-1 : Int32)) = nI (wo t i) := by
  rw [sh1_N hi, show (-1 : Int32) = nI 4294967295 by decide, fb_xorI, fa_and]
  rfl
theorem without_N {t i : Nat} (hi : i < 31) : f_X11_without (nI t) (nI i) = nI (wo t i) := wo_N hi
theorem bit_N {t i : Nat} (ht : t < 2 ^ 31) (hi : i < 32) : (nI t >>> (nI i &&& 31)) &&& (1 : Int32) = nI (if t.testBit i then 1 else 0) := by
  rw [pk_shrN ht _ i (s_l i hi), show (1 : Int32) = nI (2 ^ 1 - 1) by rfl, fa_mask, Nat.testBit_eq_decide_div_mod_eq]
  by_cases h : t / 2 ^ i % 2 = 1
  · rw [if_pos (decide_eq_true h)]; rw [show (2 : Nat) ^ 1 = 2 by rfl, h]
  · rw [if_neg (by simp [h])]; rw [show (2 : Nat) ^ 1 = 2 by rfl, show t / 2 ^ i % 2 = 0 by omega]
theorem has_N {t i : Nat} (ht : t < 2 ^ 31) (hi : i < 32) : f_X12_has (nI t) (nI i) = bI (t.testBit i) := by
  unfold f_X12_has
  rw [bit_N ht hi]
  cases t.testBit i <;> rfl
theorem contains_N {t i : Nat} (ht : t < 1024) (hi : i < 2 ^ 31) : f_X11_contains (nI t) (nI i) = bI (t.testBit i) := by
  unfold f_X11_contains
  rw [if_neg (nI_pos hi)]
  by_cases h : 10 ≤ i
  · rw [if_pos (show (10 : Int32) ≤ nI i from nI_le (a := 10) h hi), tb_small (n := 10) ht h]; rfl
  · rw [if_neg (show ¬ (10 : Int32) ≤ nI i from nI_ge (b := 10) (by omega) (by omega)), bit_N (by omega) (by omega)]
    cases t.testBit i <;> rfl
theorem contains_of {t : Nat} {x : Int32} (ht : t < 1024) (h : ¬ f_X11_contains (nI t) x = 0) : ∃ i, i < 10 ∧ x = nI i ∧ t.testBit i = true := by
  by_cases h1 : x < 0
  · unfold f_X11_contains at h
    rw [if_pos h1] at h
    exact absurd rfl h
  · obtain ⟨i, hi, rfl⟩ := nI_of h1
    rw [contains_N ht hi, bI_0] at h
    have hb : t.testBit i = true := by simpa using h
    refine ⟨i, ?_, rfl, hb⟩
    by_cases h10 : i < 10
    · exact h10
    · rw [tb_small (n := 10) ht (by omega)] at hb; cases hb
def btL (x : Int64) (m : Nat) : Bool := x.toBitVec.getLsbD m
theorem sL_l : ∀ n, n < 64 → (((nI n).toInt64 &&& 63).toBitVec.smod 64).toNat = n := by decide +kernel
theorem bL_b {x : Int64} {m : Nat} (hm : m < 64) {i : Nat} (hi : i < 64) : (x >>> ((nI m).toInt64 &&& 63)).toBitVec.getLsbD i = if m + i < 64 then btL x (m + i) else btL x 63 := by
  unfold btL
  rw [Int64.toBitVec_shiftRight]
  show (x.toBitVec.sshiftRight (((nI m).toInt64 &&& 63).toBitVec.smod 64).toNat).getLsbD i = _
  rw [sL_l m hm, BitVec.getLsbD_sshiftRight, BitVec.msb_eq_getLsbD_last]
  simp [hi]
theorem bL_v {x : Int64} {m : Nat} (hm : m < 64) : (x >>> ((nI m).toInt64 &&& 63)) &&& (1 : Int64) = if btL x m then 1 else 0 := by
  apply Int64.toBitVec_inj.mp
  apply BitVec.eq_of_getLsbD_eq
  intro i hi
  rw [Int64.toBitVec_and, BitVec.getLsbD_and, bL_b hm hi]
  cases i with
  | zero =>
    rw [if_pos (by omega)]
    cases h : btL x m <;> simp [h]
  | succ i =>
    rw [show (1 : Int64).toBitVec = 1#64 by rfl]
    cases h : btL x m <;> simp
theorem bL_0 {x : Int64} {m : Nat} (hm : m < 64) : (x >>> ((nI m).toInt64 &&& 63)) &&& (1 : Int64) = (0 : Int64) ↔ btL x m = false := by
  rw [bL_v hm]
  cases btL x m <;> decide
theorem bL_1 {x : Int64} {m : Nat} (hm : m < 64) : (x >>> ((nI m).toInt64 &&& 63)) &&& (1 : Int64) = (1 : Int64) ↔ btL x m = true := by
  rw [bL_v hm]
  cases btL x m <;> decide
theorem bL_sh : ∀ m, m < 64 → ((1 : Int64) <<< ((nI m).toInt64 &&& 63)).toBitVec = BitVec.twoPow 64 m := by decide +kernel
theorem bL_set {x : Int64} {m j : Nat} (hm : m < 64) : btL (x ||| ((1 : Int64) <<< ((nI m).toInt64 &&& 63))) j = (btL x j || decide (m = j)) := by
  unfold btL
  rw [Int64.toBitVec_or, BitVec.getLsbD_or, bL_sh m hm, BitVec.getLsbD_twoPow]
  by_cases h : m = j
  · subst h; simp [hm]
  · simp [h]
theorem bL_z (j : Nat) : btL 0 j = false := BitVec.getLsbD_zero
-- lies and within
theorem lies_lit (x : Int32) {a b : Int64} (A B : Int32) (ha : a = A.toInt64) (hb : b = B.toInt64) : f_X12_lies x.toInt64 a b = f_X11_within x A B := by
  rw [ha, hb]; exact lies_within x A B
theorem within_iff {x a b : Int32} : f_X11_within x a b = 0 ↔ x < a ∨ b < x := by
  unfold f_X11_within
  split
  · simp_all
  · split
    · simp_all
    · simp_all
theorem within_iffN {x : Int32} {a b : Nat} (hab : a ≤ b) (hb : b < 2 ^ 31) : ¬ f_X11_within x (nI a) (nI b) = 0 ↔ ∃ j, a ≤ j ∧ j ≤ b ∧ x = nI j := by
  rw [within_iff]
  constructor
  · intro h
    have h1 : ¬ x < nI a := fun q => h (Or.inl q)
    have h2 : ¬ nI b < x := fun q => h (Or.inr q)
    rw [fa_lt, nI_toInt (by omega)] at h1
    rw [fa_lt, nI_toInt hb] at h2
    refine ⟨x.toInt.toNat, by omega, by omega, ?_⟩
    rw [fa_eq, nI_toInt (by omega)]
    omega
  · rintro ⟨j, h1, h2, rfl⟩ q
    rcases q with q | q
    · exact absurd q (nI_nlt h1 (by omega))
    · exact absurd q (nI_nlt h2 (by omega))
