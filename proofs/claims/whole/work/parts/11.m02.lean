/-! what can be said, and for how much -/
def Say (G : Nat → Nat → Prop) (no an ro : Nat) (m c : Nat) : Prop :=
  ∀ P : Nat → Nat → Prop, (∀ m c, G m c → P m c) → (∀ m c, 0 < no → P m c → P (63 ^^^ m) (c + no)) → (∀ m c m' c', 0 < an → P m c → P m' c' → P (m &&& m') (c + c' + an)) → (∀ m c m' c', 0 < ro → P m c → P m' c' → P (m ||| m') (c + c' + ro)) → P m c
section Says
variable {G : Nat → Nat → Prop} {no an ro : Nat}
theorem Say.gen {m c : Nat} (h : G m c) : Say G no an ro m c := fun _ h1 _ _ _ => h1 m c h
theorem Say.not {m c : Nat} (h0 : 0 < no) (h : Say G no an ro m c) : Say G no an ro (63 ^^^ m) (c + no) := fun P h1 h2 h3 h4 => h2 m c h0 (h P h1 h2 h3 h4)
theorem Say.and {m c m' c' : Nat} (h0 : 0 < an) (h : Say G no an ro m c) (h' : Say G no an ro m' c') : Say G no an ro (m &&& m') (c + c' + an) := fun P h1 h2 h3 h4 => h3 m c m' c' h0 (h P h1 h2 h3 h4) (h' P h1 h2 h3 h4)
theorem Say.or {m c m' c' : Nat} (h0 : 0 < ro) (h : Say G no an ro m c) (h' : Say G no an ro m' c') : Say G no an ro (m ||| m') (c + c' + ro) := fun P h1 h2 h3 h4 => h4 m c m' c' h0 (h P h1 h2 h3 h4) (h' P h1 h2 h3 h4)
/-- induction that also carries the saying itself -/
theorem Say.ind {P : Nat → Nat → Prop} (h1 : ∀ m c, G m c → P m c) (h2 : ∀ m c, 0 < no → Say G no an ro m c → P m c → P (63 ^^^ m) (c + no)) (h3 : ∀ m c m' c', 0 < an → Say G no an ro m c → Say G no an ro m' c' → P m c → P m' c' → P (m &&& m') (c + c' + an)) (h4 : ∀ m c m' c', 0 < ro → Say G no an ro m c → Say G no an ro m' c' → P m c → P m' c' → P (m ||| m') (c + c' + ro)) {m c : Nat} (h : Say G no an ro m c) : P m c :=
  (h (fun m c => Say G no an ro m c ∧ P m c) (fun m c g => ⟨Say.gen g, h1 m c g⟩) (fun m c h0 q => ⟨q.1.not h0, h2 m c h0 q.1 q.2⟩) (fun m c m' c' h0 q q' => ⟨q.1.and h0 q'.1, h3 m c m' c' h0 q.1 q'.1 q.2 q'.2⟩) (fun m c m' c' h0 q q' => ⟨q.1.or h0 q'.1, h4 m c m' c' h0 q.1 q'.1 q.2 q'.2⟩)).2
theorem xor63_lt {m : Nat} (h : m < 64) : 63 ^^^ m < 64 := Nat.xor_lt_two_pow (n := 6) (by decide) h
theorem and_lt64 {a b : Nat} (h : a < 64) : a &&& b < 64 := Nat.lt_of_le_of_lt Nat.and_le_left h
theorem or_lt64 {a b : Nat} (h : a < 64) (h' : b < 64) : a ||| b < 64 := Nat.or_lt_two_pow (n := 6) h h'
theorem Say.lt (hG : ∀ m c, G m c → m < 64) {m c : Nat} (h : Say G no an ro m c) : m < 64 :=
  h (fun m _ => m < 64) hG (fun _ _ _ q => xor63_lt q) (fun _ _ _ _ _ q _ => and_lt64 q) (fun _ _ _ _ _ q q' => or_lt64 q q')
theorem Say.pos (hG : ∀ m c, G m c → 0 < c) {m c : Nat} (h : Say G no an ro m c) : 0 < c :=
  h (fun _ c => 0 < c) hG (fun _ _ _ q => by omega) (fun _ _ _ _ _ q _ => by omega) (fun _ _ _ _ _ q _ => by omega)
-- bits of meanings
theorem tb63 (i : Nat) : (63 : Nat).testBit i = decide (i < 6) := by
  have : (63 : Nat) = 2 ^ 6 - 1 := by decide
  rw [this, Nat.testBit_two_pow_sub_one]
theorem m_ext {a b : Nat} (ha : a < 64) (hb : b < 64) (h : ∀ i, i < 6 → a.testBit i = b.testBit i) : a = b := by
  apply Nat.eq_of_testBit_eq
  intro i
  by_cases hi : i < 6
  · exact h i hi
  · rw [Nat.testBit_lt_two_pow (Nat.lt_of_lt_of_le ha (show 64 ≤ 2 ^ i from Nat.pow_le_pow_right (n := 2) (by decide) (show 6 ≤ i by omega))), Nat.testBit_lt_two_pow (Nat.lt_of_lt_of_le hb (show 64 ≤ 2 ^ i from Nat.pow_le_pow_right (n := 2) (by decide) (show 6 ≤ i by omega)))]
theorem tb_not (m i : Nat) (hi : i < 6) : (63 ^^^ m).testBit i = !m.testBit i := by rw [Nat.testBit_xor, tb63]; simp [hi]
theorem xx63 {m : Nat} : 63 ^^^ (63 ^^^ m) = m := by rw [← Nat.xor_assoc]; simp
theorem dm_and {a b : Nat} (ha : a < 64) (hb : b < 64) : 63 ^^^ ((63 ^^^ a) ||| (63 ^^^ b)) = a &&& b := by
  apply m_ext (xor63_lt (or_lt64 (xor63_lt ha) (xor63_lt hb))) (and_lt64 ha)
  intro i hi
  rw [tb_not _ i hi, Nat.testBit_or, tb_not _ i hi, tb_not _ i hi, Nat.testBit_and]
  simp
theorem dm_or {a b : Nat} (ha : a < 64) (hb : b < 64) : 63 ^^^ ((63 ^^^ a) &&& (63 ^^^ b)) = a ||| b := by
  apply m_ext (xor63_lt (and_lt64 (xor63_lt ha))) (or_lt64 ha hb)
  intro i hi
  rw [tb_not _ i hi, Nat.testBit_and, tb_not _ i hi, tb_not _ i hi, Nat.testBit_or]
  simp
/-- for at most n -/
def Upto (G : Nat → Nat → Prop) (no an ro : Nat) (m n : Nat) : Prop := ∃ c, c ≤ n ∧ Say G no an ro m c
theorem Upto.mono {m n n' : Nat} (h : Upto G no an ro m n) (hn : n ≤ n') : Upto G no an ro m n' := by
  obtain ⟨c, h1, h2⟩ := h
  exact ⟨c, by omega, h2⟩
end Says
