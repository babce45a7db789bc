/-! the first of the least -/
def amin (p : Nat → Bool) (v : Nat → Int) : Nat → Option Nat
  | 0 => none
  | i + 1 => if p i = true then (match amin p v i with | none => some i | some b => if v i < v b then some i else some b) else amin p v i
theorem amin_n {p : Nat → Bool} {v : Nat → Int} {i : Nat} (h : p i = false) : amin p v (i + 1) = amin p v i := by
  rw [amin, if_neg (by rw [h]; decide)]
theorem amin_0 {p : Nat → Bool} {v : Nat → Int} {i : Nat} (h : p i = true) (e : amin p v i = none) : amin p v (i + 1) = some i := by
  rw [amin, if_pos h, e]
theorem amin_l {p : Nat → Bool} {v : Nat → Int} {i b : Nat} (h : p i = true) (e : amin p v i = some b) (hv : v i < v b) : amin p v (i + 1) = some i := by
  rw [amin, if_pos h, e]
  exact if_pos hv
theorem amin_k {p : Nat → Bool} {v : Nat → Int} {i b : Nat} (e : amin p v i = some b) (hv : ¬ v i < v b) : amin p v (i + 1) = some b := by
  rw [amin]
  by_cases h : p i = true
  · rw [if_pos h, e]
    exact if_neg hv
  · rw [if_neg h, e]
theorem amin_none {p : Nat → Bool} {v : Nat → Int} : ∀ {n : Nat}, amin p v n = none ↔ ∀ j, j < n → p j = false
  | 0 => ⟨fun _ j hj => absurd hj (Nat.not_lt_zero j), fun _ => rfl⟩
  | n + 1 => by
    by_cases h : p n = true
    · constructor
      · intro e
        exfalso
        rw [amin, if_pos h] at e
        cases q : amin p v n with
        | none => rw [q] at e; cases e
        | some b =>
          rw [q] at e
          by_cases hv : v n < v b
          · simp [hv] at e
          · simp [hv] at e
      · intro hh
        rw [hh n (by omega)] at h
        cases h
    · have h' := bool_f h
      rw [amin_n h', amin_none (n := n)]
      constructor
      · intro hh j hj
        by_cases e : j = n
        · subst e; exact h'
        · exact hh j (by omega)
      · intro hh j hj
        exact hh j (by omega)
theorem amin_some {p : Nat → Bool} {v : Nat → Int} : ∀ {n b : Nat}, amin p v n = some b → b < n ∧ p b = true ∧ ∀ j, j < n → p j = true → v b ≤ v j ∧ (j < b → v b < v j)
  | 0, b, e => by cases e
  | n + 1, b, e => by
    by_cases h : p n = true
    · cases q : amin p v n with
      | none =>
        rw [amin_0 h q] at e
        cases e
        refine ⟨by omega, h, fun j hj hp => ?_⟩
        by_cases e : j = n
        · subst e; exact ⟨by omega, fun h => by omega⟩
        · rw [amin_none.mp q j (by omega)] at hp; cases hp
      | some c =>
        obtain ⟨h1, h2, h3⟩ := amin_some q
        by_cases hv : v n < v c
        · rw [amin_l h q hv] at e
          cases e
          refine ⟨by omega, h, fun j hj hp => ?_⟩
          by_cases e : j = n
          · subst e; exact ⟨by omega, fun h => by omega⟩
          · have := h3 j (by omega) hp; exact ⟨by omega, fun h => by omega⟩
        · rw [amin_k q hv] at e
          cases e
          refine ⟨by omega, h2, fun j hj hp => ?_⟩
          by_cases e : j = n
          · subst e; exact ⟨by omega, fun h => by omega⟩
          · exact h3 j (by omega) hp
    · have h' := bool_f h
      rw [amin_n h'] at e
      obtain ⟨h1, h2, h3⟩ := amin_some e
      refine ⟨by omega, h2, fun j hj hp => ?_⟩
      by_cases e : j = n
      · subst e; rw [h'] at hp; cases hp
      · exact h3 j (by omega) hp
theorem amin_cong {p q : Nat → Bool} {v u : Nat → Int} : ∀ {n : Nat}, (∀ i, i < n → p i = q i) → (∀ i, i < n → p i = true → v i = u i) → amin p v n = amin q u n
  | 0, _, _ => rfl
  | n + 1, h1, h2 => by
    have ih := amin_cong (n := n) (fun i hi => h1 i (by omega)) (fun i hi hp => h2 i (by omega) hp)
    by_cases h : p n = true
    · have hq : q n = true := by rw [← h1 n (by omega)]; exact h
      cases e : amin p v n with
      | none => rw [amin_0 h e, amin_0 hq (by rw [← ih]; exact e)]
      | some b =>
        obtain ⟨g1, g2, -⟩ := amin_some e
        have e' : amin q u n = some b := by rw [← ih]; exact e
        have a1 := h2 n (by omega) h
        have a2 := h2 b (by omega) g2
        by_cases hv : v n < v b
        · rw [amin_l h e hv, amin_l hq e' (by omega)]
        · rw [amin_k e hv, amin_k e' (by omega)]
    · have h' := bool_f h
      rw [amin_n h', amin_n (by rw [← h1 n (by omega)]; exact h'), ih]
theorem amin_ext {p : Nat → Bool} {v : Nat → Int} {n : Nat} : ∀ {m : Nat}, n ≤ m → (∀ i, n ≤ i → i < m → p i = false) → amin p v m = amin p v n
  | 0, h, _ => by rw [show n = 0 by omega]
  | m + 1, h, hp => by
    by_cases e : n = m + 1
    · rw [e]
    · rw [amin_n (hp m (by omega) (by omega))]
      exact amin_ext (by omega) (fun i h1 h2 => hp i h1 (by omega))
theorem amin_uniq {p : Nat → Bool} {v : Nat → Int} {n b : Nat} (hb : b < n) (hp : p b = true) (h : ∀ j, j < n → p j = true → v b ≤ v j ∧ (j < b → v b < v j)) : amin p v n = some b := by
  cases e : amin p v n with
  | none => rw [amin_none.mp e b hb] at hp; cases hp
  | some c =>
    obtain ⟨h1, h2, h3⟩ := amin_some e
    have a1 := h c h1 h2
    have a2 := h3 b hb hp
    by_cases q : c < b
    · have := a1.2 q; omega
    · by_cases q' : b < c
      · have := a2.2 q'; omega
      · exact congrArg some (by omega)
/-- a number or none, as the program tells it -/
def oI : Option Nat → Int32
  | none => -1
  | some i => nI i
/-! the state that both keep: d 0 0 WORDS, d 0 1 IN USE, d 0 2 YEAR, d 0 3 WANTS, d 0 4 SILENCE, d 0 5 bytes, d 0 6 CLAUSES, d 0 7 the stamp; d 1 KINDS, d 2 MEANINGS, d 3 LENGTHS, d 4 STRUCK in (one more); d 5 people; d 6 SORTS, d 7 MEANINGS, d 8 OFTEN, d 9 MUSTS of WANTS; d 10 the tape; d 11 told LAWS, d 12 their MEANINGS, d 13 their letters (ten a LAW), d 14 their joins (four a LAW) -/
abbrev Dt : Type := Nat → Nat → Nat
def OkL (d : Dt) : Prop := d 0 0 ≤ 10 ∧ d 0 1 < 2 ^ d 0 0 ∧ (∀ k, k < 10 → d 1 k ≤ 3 ∧ d 2 k < 64 ∧ d 3 k ≤ 9) ∧ ∀ k, k < d 0 0 → 1 ≤ d 3 k
def CLx (d : Dt) (w : Mm) : Prop := gI w 1 4 = nI (d 0 0) ∧ gI w 1 5 = nI (d 0 1) ∧ gI w 1 6 = nI (d 0 2) ∧ ∀ k, k < 10 → gI w 2 k = nI (d 1 k) ∧ gI w 3 k = nI (d 2 k) ∧ gI w 4 k = nI (d 3 k) ∧ gI w 5 k = nI (d 4 k) - 1
def MLx (d : Dt) (w : Mm) : Prop := gI w 47 2 = nI (d 0 0) ∧ gI w 47 6 = nI (d 0 1) ∧ gI w 47 4 = nI (d 0 2) ∧ ∀ k, k < 10 → gI w 49 k = nI (d 1 k) ∧ gI w 50 k = nI (d 2 k) ∧ gI w 51 k = nI (d 3 k) ∧ gI w 52 k = nI (d 4 k) - 1
/-- the WORD that joins by a KIND: the lowest of the least LENGTH -/
def jw (d : Dt) (k t : Nat) : Option Nat := amin (fun i => t.testBit i && d 1 i == k) (fun i => (d 3 i : Int)) 10
def jl (d : Dt) (k t : Nat) : Nat := match jw d k t with | none => 0 | some i => d 3 i
/-- what a TONGUE's WORDS mean -/
def Gd (d : Dt) (t m c : Nat) : Prop := ∃ i, i < 10 ∧ t.testBit i = true ∧ d 1 i = 0 ∧ d 2 i = m ∧ d 3 i = c
theorem pow10 {n : Nat} (h : n ≤ 10) : 2 ^ n ≤ 1024 := Nat.pow_le_pow_right (n := 2) (by decide) h
theorem tb_lt {t n i : Nat} (ht : t < 2 ^ n) (hi : t.testBit i = true) : i < n := by
  by_cases h : i < n
  · exact h
  · rw [tb_small ht (by omega)] at hi; cases hi
theorem jl_le {d : Dt} (o : OkL d) {k t : Nat} : jl d k t ≤ 9 := by
  unfold jl
  cases e : jw d k t with
  | none => exact Nat.zero_le _
  | some i => exact (o.2.2.1 i (amin_some e).1).2.2
theorem jl_pos {d : Dt} (o : OkL d) {k t : Nat} (ht : t < 2 ^ d 0 0) : 0 < jl d k t ↔ ∃ i, jw d k t = some i := by
  unfold jl
  cases e : jw d k t with
  | none => exact ⟨fun h => absurd h (Nat.lt_irrefl 0), fun ⟨i, h⟩ => (by cases h)⟩
  | some i =>
    have h := (amin_some e).2.1
    simp at h
    exact ⟨fun _ => ⟨i, rfl⟩, fun _ => o.2.2.2 i (tb_lt ht h.1)⟩
theorem Gd_ok {d : Dt} (o : OkL d) {t m c : Nat} (h : Gd d t m c) : m < 64 ∧ c ≤ 9 := by
  obtain ⟨i, h1, h2, h3, rfl, rfl⟩ := h
  exact ⟨(o.2.2.1 i h1).2.1, (o.2.2.1 i h1).2.2⟩
theorem Gd_pos {d : Dt} (o : OkL d) {t m c : Nat} (ht : t < 2 ^ d 0 0) (h : Gd d t m c) : 0 < c := by
  obtain ⟨i, h1, h2, h3, rfl, rfl⟩ := h
  exact o.2.2.2 i (tb_lt ht h2)
/-- BRIEF of a MEANING by a TONGUE -/
noncomputable def BF (d : Dt) (t m : Nat) : Option Nat := bf (Say (Gd d t) (jl d 1 t) (jl d 2 t) (jl d 3 t)) m
theorem BF_le {d : Dt} (o : OkL d) {t m b : Nat} (e : BF d t m = some b) : b ≤ 3000 := bf_le (fun _ _ h => Gd_ok o h) (jl_le o) (jl_le o) (jl_le o) e
theorem BF_pos {d : Dt} (o : OkL d) {t m b : Nat} (ht : t < 2 ^ d 0 0) (e : BF d t m = some b) : 0 < b := bf_pos (fun _ _ h => Gd_pos o ht h) e
section Lex
variable {d : Dt} {w : Mm}
theorem x3_all (o : OkL d) (h : CLx d w) : f_X3_all w = some (nI (2 ^ d 0 0 - 1)) := by
  unfold f_X3_all
  have := o.1
  rw [h.1, sh1_N (by omega), show (1 : Int32) = nI 1 from rfl, pk_sub Nat.one_le_two_pow]
theorem all_lt (o : OkL d) : 2 ^ d 0 0 - 1 < 1024 := by
  have := pow10 o.1
  have := @Nat.one_le_two_pow (d 0 0)
  omega
theorem all_bit {n i : Nat} : (2 ^ n - 1).testBit i = decide (i < n) := Nat.testBit_two_pow_sub_one ..
theorem x3_isPlain (o : OkL d) (h : CLx d w) {i : Nat} (hi : i < 2 ^ 31) : f_X3_isPlain (nI i) w = some (bI (decide (i < d 0 0) && d 1 i == 0)) := by
  unfold f_X3_isPlain
  rw [x3_all o h, Option.bind_some, contains_N (all_lt o) hi, all_bit]
  have o1 := o.1
  by_cases hn : i < d 0 0
  · rw [if_neg (by simp [hn, bI]), if_pos (inb_nI (by omega) (by decide)), ix_nI (by omega), (h.2.2.2 i (by omega)).1]
    have := (o.2.2.1 i (by omega)).1
    by_cases q : d 1 i = 0
    · rw [q, if_pos (by rfl)]; simp [hn, bI]
    · rw [if_neg (nI_ne0 (by omega) (by omega))]; simp [hn, q, bI]
  · rw [if_pos (by simp [hn, bI])]; simp [hn, bI]
theorem x3_lengthOf (o : OkL d) (h : CLx d w) {i : Nat} (hi : i < 2 ^ 31) : f_X3_lengthOf (nI i) w = some (nI (if i < d 0 0 then d 3 i else 0)) := by
  unfold f_X3_lengthOf
  rw [x3_all o h, Option.bind_some, contains_N (all_lt o) hi, all_bit]
  have o1 := o.1
  by_cases hn : i < d 0 0
  · rw [if_neg (by simp [hn, bI]), if_pos (inb_nI (by omega) (by decide)), ix_nI (by omega), (h.2.2.2 i (by omega)).2.2.1, if_pos hn]
  · rw [if_pos (by simp [hn, bI]), if_neg hn]; rfl
theorem x3_meaningOf (o : OkL d) (h : CLx d w) {i : Nat} (hi : i < 2 ^ 31) : f_X3_meaningOf (nI i) w = some (nI (if i < d 0 0 then d 2 i else 0)) := by
  unfold f_X3_meaningOf
  rw [x3_all o h, Option.bind_some, contains_N (all_lt o) hi, all_bit]
  have o1 := o.1
  by_cases hn : i < d 0 0
  · rw [if_neg (by simp [hn, bI]), if_pos (inb_nI (by omega) (by decide)), ix_nI (by omega), (h.2.2.2 i (by omega)).2.1, if_pos hn, show (63 : Int32) = nI (2 ^ 6 - 1) from rfl, fa_mask, Nat.mod_eq_of_lt (by have := (o.2.2.1 i (by omega)).2.1; omega)]
  · rw [if_pos (by simp [hn, bI]), if_neg hn]; rfl
theorem x3_lengthOf_n (o : OkL d) (h : CLx d w) : f_X3_lengthOf (-1) w = some 0 := by
  unfold f_X3_lengthOf
  rw [x3_all o h, Option.bind_some, if_pos (by unfold f_X11_contains; rw [if_pos (by decide)])]
theorem x3_shortestOf (o : OkL d) (h : CLx d w) {k t : Nat} (hk : k < 4) (ht : t < 1024) : f_X3_shortestOf (nI k) (nI t) w = some (oI (jw d k t)) := by
  apply Rt.eq
  unfold f_X3_shortestOf jw
  rw [rt_bind]
  refine rt_for (fun i s => s.2.2 = nI i ∧ s.1 = oI (amin (fun i => t.testBit i && d 1 i == k) (fun i => (d 3 i : Int)) i) ∧ s.2.1 = nI (match amin (fun i => t.testBit i && d 1 i == k) (fun i => (d 3 i : Int)) i with | none => 268435456 | some b => d 3 b)) 10 ?_ ?_ ⟨rfl, rfl, rfl⟩ (by decide)
  · rintro i ⟨b, l, c⟩ hi ⟨h1, h2, h3⟩
    dsimp only at h1 h2 h3
    subst h1
    unfold l_X3_shortestOf_9
    dsimp only
    rw [if_neg (show ¬ (10 : Int32) ≤ nI i from nI_ge (b := 10) hi (by decide)), contains_N ht (by omega), if_pos (inb_nI hi (by decide)), ix_nI (by omega), (h.2.2.2 i hi).1, (h.2.2.2 i hi).2.2.1]
    have hd := o.2.2.1 i hi
    simp only [bI_0, nI_eq (show d 1 i < 2 ^ 31 by omega) (show k < 2 ^ 31 by omega)]
    by_cases p1 : t.testBit i = true
    · by_cases p2 : d 1 i = k
      · have hp : (fun i => t.testBit i && d 1 i == k) i = true := by simp [p1, p2]
        rw [if_neg (by rw [p1]; decide), if_pos p2]
        cases e : amin (fun i => t.testBit i && d 1 i == k) (fun i => (d 3 i : Int)) i with
        | none =>
          rw [e] at h3
          dsimp only at h3
          rw [h3, if_neg (nI_ge (by omega) (by decide)), Option.bind_some, rt_some]
          exact ⟨nI_1 i, by rw [amin_0 hp e]; rfl, by rw [amin_0 hp e]⟩
        | some a =>
          rw [e] at h3 h2
          dsimp only at h3
          have ha := (o.2.2.1 a (by have := (amin_some e).1; omega)).2.2
          rw [h3]
          by_cases q : d 3 a ≤ d 3 i
          · rw [if_pos (nI_le q (by omega)), Option.bind_some, rt_some]
            have e2 := amin_k (i := i) e (show ¬ (d 3 i : Int) < (d 3 a : Int) by omega)
            exact ⟨nI_1 i, by rw [e2]; exact h2, by rw [e2]⟩
          · rw [if_neg (nI_ge (by omega) (by omega)), Option.bind_some, rt_some]
            have e2 := amin_l hp e (show (d 3 i : Int) < (d 3 a : Int) by omega)
            exact ⟨nI_1 i, by rw [e2]; rfl, by rw [e2]⟩
      · have hp : (fun i => t.testBit i && d 1 i == k) i = false := by simp [p2]
        rw [if_neg (by rw [p1]; decide), if_neg p2, Option.bind_some, rt_some]
        exact ⟨nI_1 i, by rw [amin_n hp]; exact h2, by rw [amin_n hp]; exact h3⟩
    · have hp : (fun i => t.testBit i && d 1 i == k) i = false := by simp [p1]
      rw [if_pos (bool_f p1), Option.bind_some, rt_some]
      exact ⟨nI_1 i, by rw [amin_n hp]; exact h2, by rw [amin_n hp]; exact h3⟩
  · rintro ⟨b, l, c⟩ ⟨h1, h2, h3⟩
    dsimp only at h1 h2 h3
    subst h1 h2
    unfold l_X3_shortestOf_9
    dsimp only
    rw [if_pos (show (10 : Int32) ≤ nI 10 by decide), rt_some, nx_r, rt_some]
theorem x3_joinLength (o : OkL d) (h : CLx d w) {k t : Nat} (hk : k < 4) (ht : t < 2 ^ d 0 0) : f_X3_joinLength (nI k) (nI t) w = some (nI (jl d k t)) := by
  have := pow10 o.1
  unfold f_X3_joinLength jl
  rw [x3_shortestOf o h hk (by omega), Option.bind_some]
  cases e : jw d k t with
  | none => rw [show oI none = -1 from rfl, x3_lengthOf_n o h]; rfl
  | some i =>
    have h1 := (amin_some e)
    have h2 := h1.2.1
    simp at h2
    rw [show oI (some i) = nI i from rfl, x3_lengthOf o h (by omega), if_pos (tb_lt ht h2.1)]
    rfl
theorem jw_n (o : OkL d) {k t : Nat} (ht : t < 2 ^ d 0 0) : amin (fun i => t.testBit i && d 1 i == k) (fun i => (d 3 i : Int)) (d 0 0) = jw d k t := by
  refine (amin_ext o.1 (fun i h1 h2 => ?_)).symm
  rw [tb_small ht h1]
  rfl
theorem m_joinerOf (o : OkL d) (h : MLx d w) {k t : Nat} (hk : k < 4) (ht : t < 2 ^ d 0 0) : f_X12_joinerOf (nI t) (nI k) w = some (oI (jw d k t)) := by
  have h10 := pow10 o.1
  have o1 := o.1
  apply Rt.eq
  unfold f_X12_joinerOf
  rw [rt_bind]
  refine rt_for (fun i s => s.2 = nI i ∧ s.1 = oI (amin (fun i => t.testBit i && d 1 i == k) (fun i => (d 3 i : Int)) i)) (d 0 0) ?_ ?_ ⟨rfl, rfl⟩ (by omega)
  · rintro i ⟨b, c⟩ hi ⟨h1, h2⟩
    dsimp only at h1 h2
    subst h1
    unfold l_X12_joinerOf_5
    dsimp only
    rw [h.1, if_neg (nI_ge hi (by omega)), has_N (by omega) (by omega), if_pos (inb_nI (n := 10) (by omega) (by decide)), ix_nI (by omega), (h.2.2.2 i (by omega)).1, (h.2.2.2 i (by omega)).2.2.1]
    have hd := o.2.2.1 i (by omega)
    simp only [bI_0, nI_eq (show d 1 i < 2 ^ 31 by omega) (show k < 2 ^ 31 by omega)]
    by_cases p1 : t.testBit i = true
    · by_cases p2 : d 1 i = k
      · have hp : (fun i => t.testBit i && d 1 i == k) i = true := by simp [p1, p2]
        rw [if_neg (by rw [p1]; decide), if_pos p2]
        cases e : amin (fun i => t.testBit i && d 1 i == k) (fun i => (d 3 i : Int)) i with
        | none =>
          rw [e] at h2
          subst h2
          rw [if_pos (by rfl)]
          show Rt (some _) _
          rw [rt_some]
          exact ⟨nI_1 i, by rw [amin_0 hp e]; rfl⟩
        | some a =>
          rw [e] at h2
          subst h2
          have ha1 := (amin_some e).1
          have ha := (o.2.2.1 a (by omega)).2.2
          rw [show oI (some a) = nI a from rfl, if_neg (nm1 (by omega)), if_pos (inb_nI (n := 10) (by omega) (by decide)), ix_nI (by omega), (h.2.2.2 a (by omega)).2.2.1]
          by_cases q : d 3 a ≤ d 3 i
          · rw [if_pos (nI_le q (by omega))]
            show Rt (some _) _
            rw [rt_some]
            exact ⟨nI_1 i, by rw [amin_k e (by omega)]; rfl⟩
          · rw [if_neg (nI_ge (by omega) (by omega))]
            show Rt (some _) _
            rw [rt_some]
            exact ⟨nI_1 i, by rw [amin_l hp e (by omega)]; rfl⟩
      · have hp : (fun i => t.testBit i && d 1 i == k) i = false := by simp [p2]
        rw [if_neg (by rw [p1]; decide), if_neg p2, Option.bind_some, rt_some]
        exact ⟨nI_1 i, by rw [amin_n hp]; exact h2⟩
    · have hp : (fun i => t.testBit i && d 1 i == k) i = false := by simp [p1]
      rw [if_pos (bool_f p1), Option.bind_some, rt_some]
      exact ⟨nI_1 i, by rw [amin_n hp]; exact h2⟩
  · rintro ⟨b, c⟩ ⟨h1, h2⟩
    dsimp only at h1 h2
    subst h1 h2
    unfold l_X12_joinerOf_5
    dsimp only
    rw [h.1, if_pos (nI_le (Nat.le_refl _) (by omega)), rt_some, nx_r, rt_some, jw_n o ht]
theorem m_joinOf (o : OkL d) (h : MLx d w) {k t : Nat} (hk : k < 4) (ht : t < 2 ^ d 0 0) : f_X12_joinOf (nI t) (nI k) w = some (nI (if jl d k t = 0 then 1000000 else jl d k t)) := by
  have o1 := o.1
  have hp := jl_pos o (k := k) ht
  unfold f_X12_joinOf
  rw [m_joinerOf o h hk ht, Option.bind_some]
  unfold jl at hp ⊢
  cases e : jw d k t with
  | none => rfl
  | some i =>
    rw [e] at hp
    have h1 := (amin_some e)
    have h3 : 0 < d 3 i := hp.mpr ⟨i, rfl⟩
    rw [show oI (some i) = nI i from rfl, if_neg (nm1 (by omega)), if_pos (inb_nI (n := 10) (by omega) (by decide)), ix_nI (by omega), (h.2.2.2 i (by omega)).2.2.1]
    simp only
    rw [if_neg (by omega)]
end Lex
