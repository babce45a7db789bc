/-! both sides answer alike -/
def pc (t : Nat) : Nat := fb_ct t.testBit 10
set_option maxRecDepth 100000 in
theorem bitCount_N : ∀ t, t < 1024 → f_J6_bitCount_0f7a4 (nI t) = nI (pc t) := by decide +kernel
set_option maxRecDepth 100000 in
theorem pc_step : ∀ t, t < 1024 → t ≠ 0 → pc (t &&& (t - 1)) + 1 = pc t ∧ t &&& (t - 1) < t := by decide +kernel
theorem pc_le (t : Nat) : pc t ≤ 10 := fb_ct_le _ _
theorem m_sizeOf {t : Nat} (ht : t < 1024) : f_X12_sizeOf (nI t) = some (nI (pc t)) := by
  apply Rt.eq
  unfold f_X12_sizeOf
  rw [rt_bind]
  refine Rt.mono (rt_wh (Q := fun y => y = nI (pc t)) (fun s => ∃ a b, s = (nI a, nI b) ∧ b < 1024 ∧ a + pc b = pc t) (fun s => ix s.2) ?_ ⟨0, t, rfl, ht, by omega⟩ ?_) (fun y hy => by rw [rt_some]; exact hy)
  · rintro s ⟨a, b, rfl, hb, hab⟩
    unfold l_X12_sizeOf_4
    dsimp only
    by_cases e : b = 0
    · subst e
      rw [if_pos (by rfl), rt_some, nx_r]
      have : pc 0 = 0 := by decide
      rw [show a = pc t by omega]
    · obtain ⟨h1, h2⟩ := pc_step b hb e
      rw [if_neg (nI_ne0 (by omega) (by omega)), rt_some, nx_l, show (1 : Int32) = nI 1 from rfl, pk_sub (by omega), fa_and, nI_add]
      refine ⟨⟨a + 1, b &&& (b - 1), rfl, by omega, by omega⟩, ?_⟩
      rw [ix_nI (by omega), ix_nI (by omega)]
      exact h2
  · dsimp only
    rw [ix_nI (by omega)]
    unfold FUEL
    omega
