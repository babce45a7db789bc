/-! a LAW taken over -/
theorem x6_take {a : Nat} (ha : a = 36 ∨ a = 37 ∨ a = 38 ∨ a = 39) {w : Mm} (hb : isB (gI w 40 2) = true) : Rt (f_X6_takeOver a 40 w) (fun w' => fx (fun c _ => c = a) w w' ∧ gI w' a 2 = gI w 40 2 ∧ gI w' a 3 = gI w 40 3 ∧ gI w' a 4 = gI w 40 4 ∧ gI w' a 5 = gI w 40 5 ∧ gI w' a 6 = gI w 40 6 ∧ gI w' a 7 = gI w 40 7 ∧ gI w' a 8 = gI w 40 8) := by
  unfold f_X6_takeOver
  rw [if_pos hb, rt_some]
  have s1 : ∀ (v : Mm) (k : Nat) (x : Int32), fx (fun c _ => c = a) v (sI v a k x) := fun v k x => fx.sI (P := fun c _ => c = a) rfl
  refine ⟨((((((s1 _ _ _).tr (s1 _ _ _)).tr (s1 _ _ _)).tr (s1 _ _ _)).tr (s1 _ _ _)).tr (s1 _ _ _)).tr (s1 _ _ _), ?_⟩
  rcases ha with rfl | rfl | rfl | rfl
  · exact ⟨rfl, rfl, rfl, rfl, rfl, rfl, rfl⟩
  · exact ⟨rfl, rfl, rfl, rfl, rfl, rfl, rfl⟩
  · exact ⟨rfl, rfl, rfl, rfl, rfl, rfl, rfl⟩
  · exact ⟨rfl, rfl, rfl, rfl, rfl, rfl, rfl⟩
