/-! what can be said, and for how much -/
def Say (G : Nat → Nat → Prop) (no an ro : Nat) (m c : Nat) : Prop :=
  ∀ P : Nat → Nat → Prop, (∀ m c, G m c → P m c) → (∀ m c, 0 < no → P m c → P (63 ^^^ m) (c + no)) → (∀ m c m' c', 0 < an → P m c → P m' c' → P (m &&& m') (c + c' + an)) → (∀ m c m' c', 0 < ro → P m c → P m' c' → P (m ||| m') (c + c' + ro)) → P m c
section Says
variable {G : Nat → Nat → Prop} {no an ro : Nat}
theorem Say.gen {m c : Nat} (h : G m c) : Say G no an ro m c := fun _ h1 _ _ _ => h1 m c h
theorem Say.not {m c : Nat} (h0 : 0 < no) (h : Say G no an ro m c) : Say G no an ro (63 ^^^ m) (c + no) := fun P h1 h2 h3 h4 => h2 m c h0 (h P h1 h2 h3 h4)
theorem Say.and {m c m' c' : Nat} (h0 : 0 < an) (h : Say G no an ro m c) (h' : Say G no an ro m' c') : Say G no an ro (m &&& m') (c + c' + an) := fun P h1 h2 h3 h4 => h3 m c m' c' h0 (h P h1 h2 h3 h4) (h' P h1 h2 h3 h4)
theorem Say.or {m c m' c' : Nat} (h0 : 0 < ro) (h : Say G no an ro m c) (h' : Say G no an ro m' c') : Say G no an ro (m ||| m') (c + c' + ro) := fun P h1 h2 h3 h4 => h4 m c m' c' h0 (h P h1 h2 h3 h4) (h' P h1 h2 h3 h4)
/-- induction that also carries the saying itself -/
theorem Say.ind {P : Nat → Nat → Prop} (h1 : ∀ m c, G m c → P m c) (h2 : ∀ m c, 0 < no → Say G no an ro m c → P m c → P (63 ^^^ m) (c + no)) (h3 : ∀ m c m' c', 0 < an → Say G no an ro m c → Say G no an ro m' c' → P m c → P m' c' → P (m &&& m') (c + c' + an)) (h4 : ∀ m c m' c', 0 < ro → Say G no an ro m c → Say G no an ro m' c' → P m c → P m' c' → P (m ||| m') (c + c' + ro)) {m c : Nat} (h : Say G no an ro m c) : P m c :=
  (h (fun m c => Say G no an ro m c ∧ P m c) (fun m c g => ⟨Say.gen g, h1 m c g⟩) (fun m c h0 q => ⟨q.1.not h0, h2 m c h0 q.1 q.2⟩) (fun m c m' c' h0 q q' => ⟨q.1.and h0 q'.1, h3 m c m' c' h0 q.1 q'.1 q.2 q'.2⟩) (fun m c m' c' h0 q q' => ⟨q.1.or h0 q'.1, h4 m c m' c' h0 q.1 q'.1 q.2 q'.2⟩)).2
theorem xor63_lt {m : Nat} (h : m < 64) : 63 ^^^ m < 64 := Nat.xor_lt_two_pow (n := 6) (by decide) h
theorem and_lt64 {a b : Nat} (h : a < 64) : a &&& b < 64 := Nat.lt_of_le_of_lt Nat.and_le_left h
theorem or_lt64 {a b : Nat} (h : a < 64) (h' : b < 64) : a ||| b < 64 := Nat.or_lt_two_pow (n := 6) h h'
theorem Say.lt (hG : ∀ m c, G m c → m < 64) {m c : Nat} (h : Say G no an ro m c) : m < 64 :=
  h (fun m _ => m < 64) hG (fun _ _ _ q => xor63_lt q) (fun _ _ _ _ _ q _ => and_lt64 q) (fun _ _ _ _ _ q q' => or_lt64 q q')
theorem Say.pos (hG : ∀ m c, G m c → 0 < c) {m c : Nat} (h : Say G no an ro m c) : 0 < c :=
  h (fun _ c => 0 < c) hG (fun _ _ _ q => by omega) (fun _ _ _ _ _ q _ => by omega) (fun _ _ _ _ _ q _ => by omega)
-- bits of meanings
theorem tb63 (i : Nat) : (63 : Nat).testBit i = decide (i < 6) := by
  have : (63 : Nat) = 2 ^ 6 - 1 := by decide
  rw [this, Nat.testBit_two_pow_sub_one]
theorem m_ext {a b : Nat} (ha : a < 64) (hb : b < 64) (h : ∀ i, i < 6 → a.testBit i = b.testBit i) : a = b := by
  apply Nat.eq_of_testBit_eq
  intro i
  by_cases hi : i < 6
  · exact h i hi
  · rw [Nat.testBit_lt_two_pow (Nat.lt_of_lt_of_le ha (show 64 ≤ 2 ^ i from Nat.pow_le_pow_right (n := 2) (by decide) (show 6 ≤ i by omega))), Nat.testBit_lt_two_pow (Nat.lt_of_lt_of_le hb (show 64 ≤ 2 ^ i from Nat.pow_le_pow_right (n := 2) (by decide) (show 6 ≤ i by omega)))]
theorem tb_not (m i : Nat) (hi : i < 6) : (63 ^^^ m).testBit i = !m.testBit i := by rw [Nat.testBit_xor, tb63]; simp [hi]
theorem xx63 {m : Nat} : 63 ^^^ (63 ^^^ m) = m := by rw [← Nat.xor_assoc]; simp
theorem dm_and {a b : Nat} (ha : a < 64) (hb : b < 64) : 63 ^^^ ((63 ^^^ a) ||| (63 ^^^ b)) = a &&& b := by
  apply m_ext (xor63_lt (or_lt64 (xor63_lt ha) (xor63_lt hb))) (and_lt64 ha)
  intro i hi
  rw [tb_not _ i hi, Nat.testBit_or, tb_not _ i hi, tb_not _ i hi, Nat.testBit_and]
  simp
theorem dm_or {a b : Nat} (ha : a < 64) (hb : b < 64) : 63 ^^^ ((63 ^^^ a) &&& (63 ^^^ b)) = a ||| b := by
  apply m_ext (xor63_lt (and_lt64 (xor63_lt ha))) (or_lt64 ha hb)
  intro i hi
  rw [tb_not _ i hi, Nat.testBit_and, tb_not _ i hi, tb_not _ i hi, Nat.testBit_or]
  simp
/-- for at most n -/
def Upto (G : Nat → Nat → Prop) (no an ro : Nat) (m n : Nat) : Prop := ∃ c, c ≤ n ∧ Say G no an ro m c
theorem Upto.mono {m n n' : Nat} (h : Upto G no an ro m n) (hn : n ≤ n') : Upto G no an ro m n' := by
  obtain ⟨c, h1, h2⟩ := h
  exact ⟨c, by omega, h2⟩
theorem Upto.not {m n : Nat} (h0 : 0 < no) (hno : no ≤ 9) (h : Upto G no an ro m n) : Upto G no an ro (63 ^^^ m) (n + 9) := by
  obtain ⟨c, h1, h2⟩ := h
  exact ⟨c + no, by omega, h2.not h0⟩
theorem Upto.lt (hG : ∀ m c, G m c → m < 64) {m n : Nat} (h : Upto G no an ro m n) : m < 64 := by
  obtain ⟨c, h1, h2⟩ := h
  exact h2.lt hG
def hAn (no an ro : Nat) : Prop := 0 < an ∨ 0 < no ∧ 0 < ro
def hOr (no an ro : Nat) : Prop := 0 < ro ∨ 0 < no ∧ 0 < an
theorem Upto.and (hG : ∀ m c, G m c → m < 64) (hno : no ≤ 9) (han : an ≤ 9) (hro : ro ≤ 9) (hA : hAn no an ro) {a b x y : Nat} (ha : Upto G no an ro a x) (hb : Upto G no an ro b y) : Upto G no an ro (a &&& b) (x + y + 36) := by
  have la := ha.lt hG
  have lb := hb.lt hG
  rcases hA with h | ⟨h, h'⟩
  · obtain ⟨c, h1, h2⟩ := ha
    obtain ⟨c', h1', h2'⟩ := hb
    exact ⟨c + c' + an, by omega, h2.and h h2'⟩
  · obtain ⟨c, h1, h2⟩ := ha
    obtain ⟨c', h1', h2'⟩ := hb
    have h3 := ((h2.not h).or h' (h2'.not h)).not h
    rw [dm_and la lb] at h3
    exact ⟨_, by omega, h3⟩
theorem Upto.or (hG : ∀ m c, G m c → m < 64) (hno : no ≤ 9) (han : an ≤ 9) (hro : ro ≤ 9) (hA : hOr no an ro) {a b x y : Nat} (ha : Upto G no an ro a x) (hb : Upto G no an ro b y) : Upto G no an ro (a ||| b) (x + y + 36) := by
  have la := ha.lt hG
  have lb := hb.lt hG
  rcases hA with h | ⟨h, h'⟩
  · obtain ⟨c, h1, h2⟩ := ha
    obtain ⟨c', h1', h2'⟩ := hb
    exact ⟨c + c' + ro, by omega, h2.or h h2'⟩
  · obtain ⟨c, h1, h2⟩ := ha
    obtain ⟨c', h1', h2'⟩ := hb
    have h3 := ((h2.not h).and h' (h2'.not h)).not h
    rw [dm_or la lb] at h3
    exact ⟨_, by omega, h3⟩
/-- a word's meaning, or what is not in it -/
def Lit (G : Nat → Nat → Prop) (no : Nat) (m : Nat) : Prop := (∃ c, G m c) ∨ 0 < no ∧ ∃ k c, G k c ∧ m = 63 ^^^ k
theorem Lit.upto (hG : ∀ m c, G m c → m < 64 ∧ c ≤ 9) (hno : no ≤ 9) {m : Nat} (h : Lit G no m) : Upto G no an ro m 18 := by
  rcases h with ⟨c, h⟩ | ⟨h0, k, c, h, rfl⟩
  · exact ⟨c, by have := (hG m c h).2; omega, Say.gen h⟩
  · exact ⟨c + no, by have := (hG k c h).2; omega, (Say.gen h).not h0⟩
theorem Lit.not (h0 : 0 < no) {m : Nat} (h : Lit G no m) : Lit G no (63 ^^^ m) := by
  rcases h with ⟨c, h⟩ | ⟨-, k, c, h, rfl⟩
  · exact Or.inr ⟨h0, m, c, h, rfl⟩
  · exact Or.inl ⟨c, by rw [xx63]; exact h⟩
theorem bool_f {b : Bool} (h : ¬ b = true) : b = false := by cases b <;> simp_all
/-- what is said tells two things apart only where some word does -/
theorem Say.sep {m c : Nat} (h : Say G no an ro m c) : ∀ i j, i < 6 → j < 6 → m.testBit i = true → m.testBit j = false → ∃ l, Lit G no l ∧ l.testBit i = true ∧ l.testBit j = false := by
  refine Say.ind (P := fun m _ => ∀ i j, i < 6 → j < 6 → m.testBit i = true → m.testBit j = false → ∃ l, Lit G no l ∧ l.testBit i = true ∧ l.testBit j = false) ?_ ?_ ?_ ?_ h
  · intro m c g i j _ _ h1 h2
    exact ⟨m, Or.inl ⟨c, g⟩, h1, h2⟩
  · intro m c h0 _ ih i j hi hj h1 h2
    rw [tb_not _ _ hi] at h1
    rw [tb_not _ _ hj] at h2
    obtain ⟨l, h3, h4, h5⟩ := ih j i hj hi (by simpa using h2) (by simpa using h1)
    exact ⟨63 ^^^ l, h3.not h0, by rw [tb_not _ _ hi, h5]; rfl, by rw [tb_not _ _ hj, h4]; rfl⟩
  · intro m c m' c' _ _ _ ih ih' i j hi hj h1 h2
    rw [Nat.testBit_and] at h1 h2
    have ha : m.testBit i = true := by simp at h1; exact h1.1
    have hb : m'.testBit i = true := by simp at h1; exact h1.2
    by_cases q : m.testBit j = true
    · exact ih' i j hi hj hb (by rw [q] at h2; simpa using h2)
    · exact ih i j hi hj ha (bool_f q)
  · intro m c m' c' _ _ _ ih ih' i j hi hj h1 h2
    rw [Nat.testBit_or] at h1 h2
    have ha : m.testBit j = false := by simp at h2; exact h2.1
    have hb : m'.testBit j = false := by simp at h2; exact h2.2
    by_cases q : m.testBit i = true
    · exact ih i j hi hj q ha
    · exact ih' i j hi hj (by rw [bool_f q] at h1; simpa using h1) hb
theorem Say.has {m c : Nat} (h : Say G no an ro m c) : (∀ i, i < 6 → m.testBit i = true → ∃ l, Lit G no l ∧ l.testBit i = true) ∧ ∀ i, i < 6 → m.testBit i = false → ∃ l, Lit G no l ∧ l.testBit i = false := by
  refine Say.ind (P := fun m _ => (∀ i, i < 6 → m.testBit i = true → ∃ l, Lit G no l ∧ l.testBit i = true) ∧ ∀ i, i < 6 → m.testBit i = false → ∃ l, Lit G no l ∧ l.testBit i = false) ?_ ?_ ?_ ?_ h
  · intro m c g
    exact ⟨fun i _ h1 => ⟨m, Or.inl ⟨c, g⟩, h1⟩, fun i _ h1 => ⟨m, Or.inl ⟨c, g⟩, h1⟩⟩
  · intro m c h0 _ ih
    refine ⟨fun i hi h1 => ?_, fun i hi h1 => ?_⟩
    · rw [tb_not _ _ hi] at h1
      obtain ⟨l, h3, h4⟩ := ih.2 i hi (by simpa using h1)
      exact ⟨_, h3.not h0, by rw [tb_not _ _ hi, h4]; rfl⟩
    · rw [tb_not _ _ hi] at h1
      obtain ⟨l, h3, h4⟩ := ih.1 i hi (by simpa using h1)
      exact ⟨_, h3.not h0, by rw [tb_not _ _ hi, h4]; rfl⟩
  · intro m c m' c' _ _ _ ih ih'
    refine ⟨fun i hi h1 => ?_, fun i hi h1 => ?_⟩
    · rw [Nat.testBit_and] at h1
      exact ih.1 i hi (by simp at h1; exact h1.1)
    · rw [Nat.testBit_and] at h1
      by_cases q : m.testBit i = true
      · exact ih'.2 i hi (by rw [q] at h1; simpa using h1)
      · exact ih.2 i hi (bool_f q)
  · intro m c m' c' _ _ _ ih ih'
    refine ⟨fun i hi h1 => ?_, fun i hi h1 => ?_⟩
    · rw [Nat.testBit_or] at h1
      by_cases q : m.testBit i = true
      · exact ih.1 i hi q
      · exact ih'.1 i hi (by rw [bool_f q] at h1; simpa using h1)
    · rw [Nat.testBit_or] at h1
      exact ih.2 i hi (by simp at h1; exact h1.1)
theorem Say.term (hG : ∀ m c, G m c → m < 64 ∧ c ≤ 9) (hno : no ≤ 9) (han : an ≤ 9) (hro : ro ≤ 9) (hA : hAn no an ro) {m c : Nat} (h : Say G no an ro m c) {i : Nat} (hi : i < 6) (hm : m.testBit i = true) : ∀ k, k ≤ 6 → ∃ t, Upto G no an ro t (18 + 54 * k) ∧ t.testBit i = true ∧ ∀ j, j < k → m.testBit j = false → t.testBit j = false
  | 0, _ => by
    obtain ⟨l, h1, h2⟩ := h.has.1 i hi hm
    exact ⟨l, h1.upto hG hno, h2, fun j hj => absurd hj (Nat.not_lt_zero j)⟩
  | k + 1, hk => by
    obtain ⟨t, h1, h2, h3⟩ := Say.term hG hno han hro hA h hi hm k (by omega)
    by_cases q : m.testBit k = true
    · refine ⟨t, h1.mono (by omega), h2, fun j hj hm' => ?_⟩
      by_cases e : j = k
      · subst e; rw [q] at hm'; cases hm'
      · exact h3 j (by omega) hm'
    · obtain ⟨l, g1, g2, g3⟩ := h.sep i k hi (by omega) hm (bool_f q)
      refine ⟨t &&& l, (h1.and (fun m c g => (hG m c g).1) hno han hro hA (g1.upto hG hno)).mono (by omega), by rw [Nat.testBit_and, h2, g2]; rfl, fun j hj hm' => ?_⟩
      rw [Nat.testBit_and]
      by_cases e : j = k
      · subst e; rw [g3]; simp
      · rw [h3 j (by omega) hm']; rfl
theorem Say.sumAll (hG : ∀ m c, G m c → m < 64 ∧ c ≤ 9) (hno : no ≤ 9) (han : an ≤ 9) (hro : ro ≤ 9) (hA : hAn no an ro) (hO : hOr no an ro) {m c : Nat} (h : Say G no an ro m c) {i0 : Nat} (hi0 : i0 < 6) (hm0 : m.testBit i0 = true) : ∀ k, k ≤ 6 → ∃ t, Upto G no an ro t (342 + 378 * k) ∧ (∀ j, j < 6 → m.testBit j = false → t.testBit j = false) ∧ ∀ i, i < k → m.testBit i = true → t.testBit i = true
  | 0, _ => by
    obtain ⟨t, h1, -, h3⟩ := Say.term hG hno han hro hA h hi0 hm0 6 (by omega)
    exact ⟨t, h1.mono (by omega), h3, fun j hj => absurd hj (Nat.not_lt_zero j)⟩
  | k + 1, hk => by
    obtain ⟨t, h1, h2, h3⟩ := Say.sumAll hG hno han hro hA hO h hi0 hm0 k (by omega)
    by_cases q : m.testBit k = true
    · obtain ⟨u, g1, g2, g3⟩ := Say.term hG hno han hro hA h (i := k) (by omega) q 6 (by omega)
      refine ⟨t ||| u, (h1.or (fun m c g => (hG m c g).1) hno han hro hO g1).mono (by omega), fun j hj hm' => by rw [Nat.testBit_or, h2 j hj hm', g3 j hj hm']; rfl, fun i hi hm' => ?_⟩
      rw [Nat.testBit_or]
      by_cases e : i = k
      · subst e; rw [g2]; simp
      · rw [h3 i (by omega) hm']; rfl
    · refine ⟨t, h1.mono (by omega), h2, fun i hi hm' => ?_⟩
      by_cases e : i = k
      · subst e; exact absurd hm' q
      · exact h3 i (by omega) hm'
theorem Say.zeroAll (hG : ∀ m c, G m c → m < 64 ∧ c ≤ 9) (hno : no ≤ 9) (han : an ≤ 9) (hro : ro ≤ 9) (hA : hAn no an ro) {m c : Nat} (h : Say G no an ro m c) (hm : ∀ i, i < 6 → m.testBit i = false) : ∀ k, k ≤ 5 → ∃ t, Upto G no an ro t (18 + 54 * k) ∧ ∀ j, j ≤ k → t.testBit j = false
  | 0, _ => by
    obtain ⟨l, h1, h2⟩ := h.has.2 0 (by omega) (hm 0 (by omega))
    exact ⟨l, h1.upto hG hno, fun j hj => by rw [show j = 0 by omega]; exact h2⟩
  | k + 1, hk => by
    obtain ⟨t, h1, h3⟩ := Say.zeroAll hG hno han hro hA h hm k (by omega)
    obtain ⟨l, g1, g2⟩ := h.has.2 (k + 1) (by omega) (hm (k + 1) (by omega))
    refine ⟨t &&& l, (h1.and (fun m c g => (hG m c g).1) hno han hro hA (g1.upto hG hno)).mono (by omega), fun j hj => ?_⟩
    rw [Nat.testBit_and]
    by_cases e : j = k + 1
    · subst e; rw [g2]; simp
    · rw [h3 j (by omega)]; rfl
theorem Say.smallB (hG : ∀ m c, G m c → m < 64 ∧ c ≤ 9) (hno : no ≤ 9) (han : an ≤ 9) (hro : ro ≤ 9) (hA : hAn no an ro) (hO : hOr no an ro) {m c : Nat} (h : Say G no an ro m c) : Upto G no an ro m 3000 := by
  have hl := h.lt (fun m c g => (hG m c g).1)
  by_cases q : ∃ i, i < 6 ∧ m.testBit i = true
  · obtain ⟨i, hi, hm⟩ := q
    obtain ⟨t, h1, h2, h3⟩ := Say.sumAll hG hno han hro hA hO h hi hm 6 (by omega)
    have : t = m := m_ext (h1.lt (fun m c g => (hG m c g).1)) hl (fun j hj => by
      by_cases e : m.testBit j = true
      · rw [h3 j hj e, e]
      · rw [h2 j hj (bool_f e), bool_f e])
    rw [← this]
    exact h1.mono (by omega)
  · have hz : ∀ i, i < 6 → m.testBit i = false := fun i hi => bool_f (fun e => q ⟨i, hi, e⟩)
    obtain ⟨t, h1, h2⟩ := Say.zeroAll hG hno han hro hA h hz 5 (by omega)
    have : t = m := m_ext (h1.lt (fun m c g => (hG m c g).1)) hl (fun j hj => by rw [h2 j (by omega), hz j hj])
    rw [← this]
    exact h1.mono (by omega)
-- AND alone
theorem Say.aHas (h0 : no = 0) (hr : ro = 0) {m c : Nat} (h : Say G no an ro m c) : (∃ l c, G l c ∧ ∀ i, i < 6 → m.testBit i = true → l.testBit i = true) ∧ ∀ j, j < 6 → m.testBit j = false → ∃ l c, G l c ∧ (∀ i, i < 6 → m.testBit i = true → l.testBit i = true) ∧ l.testBit j = false := by
  refine Say.ind (P := fun m _ => (∃ l c, G l c ∧ ∀ i, i < 6 → m.testBit i = true → l.testBit i = true) ∧ ∀ j, j < 6 → m.testBit j = false → ∃ l c, G l c ∧ (∀ i, i < 6 → m.testBit i = true → l.testBit i = true) ∧ l.testBit j = false) ?_ ?_ ?_ ?_ h
  · intro m c g
    exact ⟨⟨m, c, g, fun _ _ h => h⟩, fun j _ hj => ⟨m, c, g, fun _ _ h => h, hj⟩⟩
  · intro m c h1; omega
  · intro m c m' c' _ _ _ ih ih'
    refine ⟨?_, fun j hj hm => ?_⟩
    · obtain ⟨l, c, g, hl⟩ := ih.1
      exact ⟨l, c, g, fun i hi hm => hl i hi (by rw [Nat.testBit_and] at hm; simp at hm; exact hm.1)⟩
    · rw [Nat.testBit_and] at hm
      by_cases q : m.testBit j = true
      · obtain ⟨l, c, g, hl, hj'⟩ := ih'.2 j hj (by rw [q] at hm; simpa using hm)
        exact ⟨l, c, g, fun i hi hm => hl i hi (by rw [Nat.testBit_and] at hm; simp at hm; exact hm.2), hj'⟩
      · obtain ⟨l, c, g, hl, hj'⟩ := ih.2 j hj (bool_f q)
        exact ⟨l, c, g, fun i hi hm => hl i hi (by rw [Nat.testBit_and] at hm; simp at hm; exact hm.1), hj'⟩
  · intro m c m' c' h1; omega
theorem Say.aAll (hG : ∀ m c, G m c → m < 64 ∧ c ≤ 9) (han : an ≤ 9) (h0 : no = 0) (hr : ro = 0) (ha : 0 < an) {m c : Nat} (h : Say G no an ro m c) : ∀ k, k ≤ 6 → ∃ t, Upto G no an ro t (18 + 54 * k) ∧ (∀ i, i < 6 → m.testBit i = true → t.testBit i = true) ∧ ∀ j, j < k → m.testBit j = false → t.testBit j = false
  | 0, _ => by
    obtain ⟨⟨l, c, g, hl⟩, -⟩ := h.aHas h0 hr
    exact ⟨l, ⟨c, by have := (hG l c g).2; omega, Say.gen g⟩, hl, fun j hj => absurd hj (Nat.not_lt_zero j)⟩
  | k + 1, hk => by
    obtain ⟨t, h1, h2, h3⟩ := Say.aAll hG han h0 hr ha h k (by omega)
    by_cases q : m.testBit k = true
    · refine ⟨t, h1.mono (by omega), h2, fun j hj hm' => ?_⟩
      by_cases e : j = k
      · subst e; rw [q] at hm'; cases hm'
      · exact h3 j (by omega) hm'
    · obtain ⟨l, c, g, hl, hj⟩ := (h.aHas h0 hr).2 k (by omega) (bool_f q)
      obtain ⟨c1, g1, g2⟩ := h1
      refine ⟨t &&& l, ⟨c1 + c + an, by have := (hG l c g).2; omega, g2.and ha (Say.gen g)⟩, fun i hi hm => by rw [Nat.testBit_and, h2 i hi hm, hl i hi hm]; rfl, fun j hj' hm' => ?_⟩
      rw [Nat.testBit_and]
      by_cases e : j = k
      · subst e; rw [hj]; simp
      · rw [h3 j (by omega) hm']; rfl
-- OR alone
theorem Say.oHas (h0 : no = 0) (hr : an = 0) {m c : Nat} (h : Say G no an ro m c) : (∃ l c, G l c ∧ ∀ i, i < 6 → m.testBit i = false → l.testBit i = false) ∧ ∀ j, j < 6 → m.testBit j = true → ∃ l c, G l c ∧ (∀ i, i < 6 → m.testBit i = false → l.testBit i = false) ∧ l.testBit j = true := by
  refine Say.ind (P := fun m _ => (∃ l c, G l c ∧ ∀ i, i < 6 → m.testBit i = false → l.testBit i = false) ∧ ∀ j, j < 6 → m.testBit j = true → ∃ l c, G l c ∧ (∀ i, i < 6 → m.testBit i = false → l.testBit i = false) ∧ l.testBit j = true) ?_ ?_ ?_ ?_ h
  · intro m c g
    exact ⟨⟨m, c, g, fun _ _ h => h⟩, fun j _ hj => ⟨m, c, g, fun _ _ h => h, hj⟩⟩
  · intro m c h1; omega
  · intro m c m' c' h1; omega
  · intro m c m' c' _ _ _ ih ih'
    refine ⟨?_, fun j hj hm => ?_⟩
    · obtain ⟨l, c, g, hl⟩ := ih.1
      exact ⟨l, c, g, fun i hi hm => hl i hi (by rw [Nat.testBit_or] at hm; simp at hm; exact hm.1)⟩
    · rw [Nat.testBit_or] at hm
      by_cases q : m.testBit j = true
      · obtain ⟨l, c, g, hl, hj'⟩ := ih.2 j hj q
        exact ⟨l, c, g, fun i hi hm => hl i hi (by rw [Nat.testBit_or] at hm; simp at hm; exact hm.1), hj'⟩
      · obtain ⟨l, c, g, hl, hj'⟩ := ih'.2 j hj (by rw [bool_f q] at hm; simpa using hm)
        exact ⟨l, c, g, fun i hi hm => hl i hi (by rw [Nat.testBit_or] at hm; simp at hm; exact hm.2), hj'⟩
theorem Say.oAll (hG : ∀ m c, G m c → m < 64 ∧ c ≤ 9) (hro : ro ≤ 9) (h0 : no = 0) (hr : an = 0) (ha : 0 < ro) {m c : Nat} (h : Say G no an ro m c) : ∀ k, k ≤ 6 → ∃ t, Upto G no an ro t (18 + 54 * k) ∧ (∀ i, i < 6 → m.testBit i = false → t.testBit i = false) ∧ ∀ j, j < k → m.testBit j = true → t.testBit j = true
  | 0, _ => by
    obtain ⟨⟨l, c, g, hl⟩, -⟩ := h.oHas h0 hr
    exact ⟨l, ⟨c, by have := (hG l c g).2; omega, Say.gen g⟩, hl, fun j hj => absurd hj (Nat.not_lt_zero j)⟩
  | k + 1, hk => by
    obtain ⟨t, h1, h2, h3⟩ := Say.oAll hG hro h0 hr ha h k (by omega)
    by_cases q : m.testBit k = true
    · obtain ⟨l, c, g, hl, hj⟩ := (h.oHas h0 hr).2 k (by omega) q
      obtain ⟨c1, g1, g2⟩ := h1
      refine ⟨t ||| l, ⟨c1 + c + ro, by have := (hG l c g).2; omega, g2.or ha (Say.gen g)⟩, fun i hi hm => by rw [Nat.testBit_or, h2 i hi hm, hl i hi hm]; rfl, fun j hj' hm' => ?_⟩
      rw [Nat.testBit_or]
      by_cases e : j = k
      · subst e; rw [hj]; simp
      · rw [h3 j (by omega) hm']; rfl
    · refine ⟨t, h1.mono (by omega), h2, fun j hj hm' => ?_⟩
      by_cases e : j = k
      · subst e; exact absurd hm' q
      · exact h3 j (by omega) hm'
theorem Say.litOnly (hr : ro = 0) (ha : an = 0) {m c : Nat} (h : Say G no an ro m c) : Lit G no m := by
  refine Say.ind (P := fun m _ => Lit G no m) ?_ ?_ ?_ ?_ h
  · intro m c g; exact Or.inl ⟨c, g⟩
  · intro m c h0 _ ih; exact ih.not h0
  · intro m c m' c' h1; omega
  · intro m c m' c' h1; omega
/-- what can be said at all can be said shortly -/
theorem Say.small (hG : ∀ m c, G m c → m < 64 ∧ c ≤ 9) (hno : no ≤ 9) (han : an ≤ 9) (hro : ro ≤ 9) {m c : Nat} (h : Say G no an ro m c) : Upto G no an ro m 3000 := by
  have hl := h.lt (fun m c g => (hG m c g).1)
  by_cases n0 : no = 0
  · by_cases a0 : an = 0
    · by_cases r0 : ro = 0
      · exact ((h.litOnly r0 a0).upto hG hno).mono (by omega)
      · obtain ⟨t, h1, h2, h3⟩ := Say.oAll hG hro n0 a0 (by omega) h 6 (by omega)
        have : t = m := m_ext (h1.lt (fun m c g => (hG m c g).1)) hl (fun j hj => by
          by_cases e : m.testBit j = true
          · rw [h3 j hj e, e]
          · rw [h2 j hj (bool_f e), bool_f e])
        rw [← this]
        exact h1.mono (by omega)
    · by_cases r0 : ro = 0
      · obtain ⟨t, h1, h2, h3⟩ := Say.aAll hG han n0 r0 (by omega) h 6 (by omega)
        have : t = m := m_ext (h1.lt (fun m c g => (hG m c g).1)) hl (fun j hj => by
          by_cases e : m.testBit j = true
          · rw [h2 j hj e, e]
          · rw [h3 j hj (bool_f e), bool_f e])
        rw [← this]
        exact h1.mono (by omega)
      · exact Say.smallB hG hno han hro (Or.inl (by omega)) (Or.inl (by omega)) h
  · by_cases a0 : an = 0
    · by_cases r0 : ro = 0
      · exact ((h.litOnly r0 a0).upto hG hno).mono (by omega)
      · exact Say.smallB hG hno han hro (Or.inr ⟨by omega, by omega⟩) (Or.inl (by omega)) h
    · exact Say.smallB hG hno han hro (Or.inl (by omega)) (Or.inr ⟨by omega, by omega⟩) h
/-- the least one -/
theorem least_ex {P : Nat → Prop} : ∀ n, P n → ∃ b, P b ∧ ∀ c, P c → b ≤ c := by
  intro n
  induction n using Nat.strongRecOn with
  | _ n ih =>
    intro h
    by_cases q : ∃ c, c < n ∧ P c
    · obtain ⟨c, h1, h2⟩ := q
      exact ih c h1 h2
    · exact ⟨n, h, fun c hc => by
        by_cases e : c < n
        · exact absurd ⟨c, e, hc⟩ q
        · omega⟩
end Says
/-- BRIEF: the least c of S m c -/
noncomputable def bf (S : Nat → Nat → Prop) (m : Nat) : Option Nat := @dite _ (∃ b, S m b ∧ ∀ c, S m c → b ≤ c) (Classical.propDecidable _) (fun h => some h.choose) (fun _ => none)
theorem bf_some {S : Nat → Nat → Prop} {m b : Nat} : bf S m = some b ↔ S m b ∧ ∀ c, S m c → b ≤ c := by
  unfold bf
  split
  · rename_i h
    have hs := h.choose_spec
    refine ⟨fun e => by cases e; exact hs, fun e => ?_⟩
    have h1 := hs.2 b e.1
    have h2 := e.2 _ hs.1
    exact congrArg some (by omega)
  · rename_i h
    exact ⟨fun e => (by cases e), fun e => absurd ⟨b, e⟩ h⟩
theorem bf_none {S : Nat → Nat → Prop} {m : Nat} : bf S m = none ↔ ∀ c, ¬ S m c := by
  refine ⟨fun e c hc => ?_, fun h => ?_⟩
  · obtain ⟨b, hb⟩ := least_ex c hc
    have := bf_some.mpr hb
    rw [this] at e
    cases e
  · cases e : bf S m with
    | none => rfl
    | some b => exact absurd (bf_some.mp e).1 (h b)
/-- as a number, F for never -/
def enc (F : Nat) (o : Option Nat) : Nat := o.getD F
/-- a row that holds BRIEF -/
theorem row_ok {G : Nat → Nat → Prop} {no an ro F : Nat} {r : Nat → Nat} (hF : 3000 < F) (hG : ∀ m c, G m c → m < 64 ∧ c ≤ 9) (hno : no ≤ 9) (han : an ≤ 9) (hro : ro ≤ 9) (hle : ∀ m, m < 64 → r m ≤ F) (hs : ∀ m, m < 64 → r m < F → Say G no an ro m (r m)) (hg : ∀ m c, G m c → r m ≤ c) (hn : ∀ a, a < 64 → 0 < no → r a < F → r (63 ^^^ a) ≤ r a + no) (ha : ∀ a b, a < 64 → b < 64 → 0 < an → r a + r b < F → r (a &&& b) ≤ r a + r b + an) (ho : ∀ a b, a < 64 → b < 64 → 0 < ro → r a + r b < F → r (a ||| b) ≤ r a + r b + ro) : ∀ m, m < 64 → r m = enc F (bf (Say G no an ro) m) := by
  have hlow : ∀ m c, Say G no an ro m c → c < F → r m ≤ c := by
    intro m c h
    refine Say.ind (P := fun m c => c < F → r m ≤ c) ?_ ?_ ?_ ?_ h
    · intro m c g _; exact hg m c g
    · intro m c h0 hS ih hc
      have := ih (by omega)
      have := hn m (hS.lt (fun m c g => (hG m c g).1)) h0 (by omega)
      omega
    · intro m c m' c' h0 hS hS' ih ih' hc
      have := ih (by omega)
      have := ih' (by omega)
      have := ha m m' (hS.lt (fun m c g => (hG m c g).1)) (hS'.lt (fun m c g => (hG m c g).1)) h0 (by omega)
      omega
    · intro m c m' c' h0 hS hS' ih ih' hc
      have := ih (by omega)
      have := ih' (by omega)
      have := ho m m' (hS.lt (fun m c g => (hG m c g).1)) (hS'.lt (fun m c g => (hG m c g).1)) h0 (by omega)
      omega
  intro m hm
  cases e : bf (Say G no an ro) m with
  | none =>
    have h1 := bf_none.mp e
    have h2 := hle m hm
    by_cases q : r m < F
    · exact absurd (hs m hm q) (h1 _)
    · show r m = F; omega
  | some b =>
    obtain ⟨h1, h2⟩ := bf_some.mp e
    obtain ⟨c, h3, h4⟩ := h1.small hG hno han hro
    have h5 := h2 c h4
    have h6 := hlow m b h1 (by omega)
    have h7 := h2 _ (hs m hm (by omega))
    show r m = b
    omega
theorem bf_le {G : Nat → Nat → Prop} {no an ro m b : Nat} (hG : ∀ m c, G m c → m < 64 ∧ c ≤ 9) (hno : no ≤ 9) (han : an ≤ 9) (hro : ro ≤ 9) (e : bf (Say G no an ro) m = some b) : b ≤ 3000 := by
  obtain ⟨h1, h2⟩ := bf_some.mp e
  obtain ⟨c, h3, h4⟩ := h1.small hG hno han hro
  have h5 := h2 c h4
  omega
theorem bf_pos {G : Nat → Nat → Prop} {no an ro m b : Nat} (hG : ∀ m c, G m c → 0 < c) (e : bf (Say G no an ro) m = some b) : 0 < b := (bf_some.mp e).1.pos hG
theorem Say.mono {G G' : Nat → Nat → Prop} {no an ro m c : Nat} (hG : ∀ m c, G m c → G' m c) (h : Say G no an ro m c) : Say G' no an ro m c := h _ (fun m c g => Say.gen (hG m c g)) (fun _ _ h0 q => q.not h0) (fun _ _ _ _ h0 q q' => q.and h0 q') (fun _ _ _ _ h0 q q' => q.or h0 q')
/-- how the last step of a saying goes -/
theorem Say.last {G : Nat → Nat → Prop} {no an ro m c : Nat} (h : Say G no an ro m c) : G m c ∨ (∃ a x, 0 < no ∧ Say G no an ro a x ∧ m = 63 ^^^ a ∧ c = x + no) ∨ (∃ a x b y, 0 < an ∧ Say G no an ro a x ∧ Say G no an ro b y ∧ m = a &&& b ∧ c = x + y + an) ∨ ∃ a x b y, 0 < ro ∧ Say G no an ro a x ∧ Say G no an ro b y ∧ m = a ||| b ∧ c = x + y + ro := by
  refine Say.ind (P := fun m c => G m c ∨ (∃ a x, 0 < no ∧ Say G no an ro a x ∧ m = 63 ^^^ a ∧ c = x + no) ∨ (∃ a x b y, 0 < an ∧ Say G no an ro a x ∧ Say G no an ro b y ∧ m = a &&& b ∧ c = x + y + an) ∨ ∃ a x b y, 0 < ro ∧ Say G no an ro a x ∧ Say G no an ro b y ∧ m = a ||| b ∧ c = x + y + ro) ?_ ?_ ?_ ?_ h
  · intro m c g; exact Or.inl g
  · intro m c h0 hS _; exact Or.inr (Or.inl ⟨m, c, h0, hS, rfl, rfl⟩)
  · intro m c m' c' h0 hS hS' _ _; exact Or.inr (Or.inr (Or.inl ⟨m, c, m', c', h0, hS, hS', rfl, rfl⟩))
  · intro m c m' c' h0 hS hS' _ _; exact Or.inr (Or.inr (Or.inr ⟨m, c, m', c', h0, hS, hS', rfl, rfl⟩))
