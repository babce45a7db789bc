/-! TILL WHEN; always THE LEAST -/
theorem pc_wo {t i : Nat} (ht : t < 1024) (hb : t.testBit i = true) : pc (wo t i) + 1 = pc t := by
  have hi : i < 10 := tb_lt (n := 10) ht hb
  have h := fb_ct_upd t.testBit false hi
  rw [hb] at h
  unfold pc
  rw [fb_ct_cong (q := fun k => if k = i then false else t.testBit k) (fun k hk => by
    rw [wo_bit (by omega)]
    by_cases e : k = i
    · subst e; simp
    · rw [if_neg e, decide_eq_false (fun z => e z.symm)]; simp)]
  simpa using h
theorem pc_0 {t : Nat} (ht : t < 1024) (h : pc t = 0) : t = 0 := by
  apply Nat.eq_of_testBit_eq
  intro i
  rw [Nat.zero_testBit]
  by_cases hi : i < 10
  · exact fb_ct_zero.mp h i hi
  · exact tb_small (n := 10) ht (by omega)
theorem pc_z : pc 0 = 0 := by decide
section Gs
variable {d : Dt} {C : Ct}
theorem lst_some {t : Nat} (ht : t < 1024) (h0 : t ≠ 0) : ∃ i, lst d C t = some i ∧ i < 10 ∧ t.testBit i = true := by
  cases e : lst d C t with
  | some i => exact ⟨i, rfl, (amin_some e).1, (amin_some e).2.1⟩
  | none =>
    exfalso
    exact h0 (pc_0 ht (fb_ct_zero.mpr (amin_none.mp e)))
/-- the TONGUE behind k WORDS STRUCK, always THE LEAST -/
noncomputable def gs (d : Dt) (C : Ct) : Nat → Nat
  | 0 => d 0 1
  | k + 1 => match lst d C (gs d C k) with
    | none => gs d C k
    | some i => wo (gs d C k) i
theorem gs_s {k i : Nat} (h : lst d C (gs d C k) = some i) : gs d C (k + 1) = wo (gs d C k) i := by rw [gs, h]
theorem gs_lt (o : Ok d C) : ∀ k, gs d C k < 2 ^ d 0 0
  | 0 => o.1.2.1
  | k + 1 => by
    rw [gs]
    split
    · exact gs_lt o k
    · exact wo_lt (gs_lt o k)
theorem gs_pc (o : Ok d C) : ∀ k, k ≤ pc (d 0 1) → pc (gs d C k) + k = pc (d 0 1)
  | 0, _ => rfl
  | k + 1, h => by
    have p10 := pow10 o.1.1
    have ih := gs_pc o k (by omega)
    have hl := gs_lt o k
    have h0 : gs d C k ≠ 0 := fun z => by rw [z, pc_z] at ih; omega
    obtain ⟨i, e, hi, hb⟩ := lst_some (d := d) (C := C) (by omega) h0
    rw [gs_s e]
    have := pc_wo (by omega) hb
    omega
theorem gs_n0 (o : Ok d C) {k : Nat} (h : k < pc (d 0 1)) : gs d C k ≠ 0 := fun z => by
  have := gs_pc o k (by omega)
  rw [z, pc_z] at this
  omega
theorem muR_lt (t : Nat) : ∀ i, muR d C t i < 2 ^ i
  | 0 => by unfold muR; decide
  | i + 1 => by
    unfold muR
    have ih := muR_lt t i
    have h1 : 2 ^ i < 2 ^ (i + 1) := Nat.pow_lt_pow_right (by decide) (by omega)
    refine Nat.or_lt_two_pow (by omega) ?_
    split
    · exact h1
    · exact Nat.two_pow_pos _
theorem mu_lt (o : OkM d) {t : Nat} : mu d C t < 2 ^ 31 := by
  have h1 := muR_lt (d := d) (C := C) t (d 0 3)
  have h2 : 2 ^ d 0 3 ≤ 2 ^ 24 := Nat.pow_le_pow_right (by decide) o.1
  unfold mu
  omega
theorem mu_0 (o : OkM d) {t : Nat} : nI (mu d C t) = 0 ↔ mu d C t = 0 := by
  have := mu_lt o (C := C) (t := t)
  exact nI_eq (b := 0) this (by decide)
/-- TILL WHEN -/
theorem till_ex (o : Ok d C) : ∃ K, K ≤ 10 ∧ (gs d C K = 0 ∨ mu d C (gs d C (K + 1)) ≠ 0) ∧ ∀ k, k < K → gs d C k ≠ 0 ∧ mu d C (gs d C (k + 1)) = 0 := by
  have p10 := pow10 o.1.1
  have h0 : gs d C (pc (d 0 1)) = 0 := pc_0 (Nat.lt_of_lt_of_le (gs_lt o _) p10) (by have := gs_pc o (pc (d 0 1)) (Nat.le_refl _); omega)
  obtain ⟨K, h1, h2⟩ := least_ex (P := fun k => gs d C k = 0 ∨ mu d C (gs d C (k + 1)) ≠ 0) _ (Or.inl h0)
  refine ⟨K, Nat.le_trans (h2 _ (Or.inl h0)) (pc_le _), h1, fun k hk => ?_⟩
  refine ⟨fun z => ?_, ?_⟩
  · have := h2 k (Or.inl z); omega
  · by_cases c : mu d C (gs d C (k + 1)) = 0
    · exact c
    · have := h2 k (Or.inr c); omega
theorem ag_till (o : Ok d C) (hst : d 0 7 < 2 ^ 31) : Agree d C f_X11_till f_X12_till := by
  have p10 := pow10 o.1.1
  obtain ⟨K, hK, hK1, hK2⟩ := till_ex o
  refine ⟨nI K, fun w h => ?_, fun w h => ?_⟩
  · unfold f_X11_till f_X10_bearable
    rw [rt_bind, rt_bind, h.U]
    refine Rt.mono (rt_for (Q := fun p => p.2.1 = nI K ∧ KQ d C w p.2.2) (fun k s => s.1 = nI k ∧ s.2.1 = nI (gs d C k) ∧ s.2.2.1 = nI k ∧ KQ d C w s.2.2.2) K ?_ ?_ ⟨rfl, rfl, rfl, KQ.rf h⟩ (by omega)) ?_
    · rintro k ⟨a, b, c, w1⟩ hk ⟨h1, h2, h3, hq⟩
      dsimp only at h1 h2 h3 hq
      subst h1 h2 h3
      obtain ⟨g1, g2⟩ := hK2 k hk
      have hl := gs_lt o k
      obtain ⟨i, e, hi, hb⟩ := lst_some (d := d) (C := C) (by omega) g1
      unfold l_X10_bearable_12
      dsimp only
      rw [if_neg (show ¬ (10 : Int32) ≤ nI k from nI_ge (b := 10) (by omega) (by decide)), if_neg (nI_ne0 (by omega) (by omega)), rt_onL, rt_bind]
      refine ⟨hq.1.1, (x10_cheapest o hst hq.1 hl).mono ?_⟩
      rintro ⟨v, w2⟩ ⟨e2, q2⟩
      dsimp only at e2 q2 ⊢
      rw [e] at e2
      subst e2
      rw [show oI (some i) = nI i from rfl, if_neg (nm1 (by omega)), rt_onL, without_N (by omega), ← gs_s e, rt_bind]
      refine ⟨q2.1.1, (x9_missed o hst q2.1 (gs_lt o _)).mono ?_⟩
      rintro ⟨v, w3⟩ ⟨e3, q3⟩
      dsimp only at e3 q3 ⊢
      subst e3
      rw [if_pos ((mu_0 o.2.1).mpr g2), rt_some, nx_l]
      exact ⟨nI_1 k, rfl, nI_1 k, (hq.tr q2).tr q3⟩
    · rintro ⟨a, b, c, w1⟩ ⟨h1, h2, h3, hq⟩
      dsimp only at h1 h2 h3 hq
      subst h1 h2 h3
      have hl := gs_lt o K
      unfold l_X10_bearable_12
      dsimp only
      by_cases c10 : 10 ≤ K
      · rw [if_pos (show (10 : Int32) ≤ nI K from nI_le (a := 10) c10 (by omega)), rt_some, nx_r]
        exact ⟨rfl, hq⟩
      rw [if_neg (show ¬ (10 : Int32) ≤ nI K from nI_ge (b := 10) (by omega) (by decide))]
      by_cases c0 : gs d C K = 0
      · rw [c0, if_pos (by rfl), rt_some, nx_r]
        exact ⟨rfl, hq⟩
      obtain ⟨i, e, hi, hb⟩ := lst_some (d := d) (C := C) (by omega) c0
      rw [if_neg (nI_ne0 (by omega) (by omega)), rt_onL, rt_bind]
      refine ⟨hq.1.1, (x10_cheapest o hst hq.1 hl).mono ?_⟩
      rintro ⟨v, w2⟩ ⟨e2, q2⟩
      dsimp only at e2 q2 ⊢
      rw [e] at e2
      subst e2
      rw [show oI (some i) = nI i from rfl, if_neg (nm1 (by omega)), rt_onL, without_N (by omega), ← gs_s e, rt_bind]
      refine ⟨q2.1.1, (x9_missed o hst q2.1 (gs_lt o _)).mono ?_⟩
      rintro ⟨v, w3⟩ ⟨e3, q3⟩
      dsimp only at e3 q3 ⊢
      subst e3
      rw [if_neg (fun z => (hK1.resolve_left c0) ((mu_0 o.2.1).mp z)), rt_some, nx_r]
      exact ⟨rfl, (hq.tr q2).tr q3⟩
    · rintro ⟨f, v, w1⟩ ⟨e, q⟩
      dsimp only at e q ⊢
      subst e
      split
      · rw [rt_some, rt_some]; exact ⟨rfl, q.w⟩
      · split
        · rw [rt_some, rt_some]; exact ⟨rfl, q.w⟩
        · rw [rt_some, rt_some]; exact ⟨rfl, q.w⟩
  · unfold f_X12_till
    rw [rt_bind, h.U]
    refine Rt.mono (rt_for (Q := fun p => p.2.1 = nI K ∧ ZQ d C w p.2.2) (fun k s => s.1 = nI (gs d C k) ∧ s.2.1 = nI k ∧ ZQ d C w s.2.2) K ?_ ?_ ⟨rfl, rfl, ZQ.rf h⟩ (by omega)) ?_
    · rintro k ⟨a, b, w1⟩ hk ⟨h1, h2, hq⟩
      dsimp only at h1 h2 hq
      subst h1 h2
      obtain ⟨g1, g2⟩ := hK2 k hk
      have hl := gs_lt o k
      obtain ⟨i, e, hi, hb⟩ := lst_some (d := d) (C := C) (by omega) g1
      unfold l_X12_till_7
      dsimp only
      rw [if_neg (nI_ne0 (by omega) (by omega)), rt_onL, rt_bind]
      refine ⟨hq.2.1, (m_leastOf o hq.2 hl).mono ?_⟩
      rintro ⟨v, w2⟩ ⟨e2, q2⟩
      dsimp only at e2 q2 ⊢
      rw [e] at e2
      subst e2
      rw [show oI (some i) = nI i from rfl, rt_onL, wo_N (by omega), ← gs_s e, rt_bind]
      refine ⟨q2.2.1, (m_mustsOf o q2.2 (gs_lt o _)).mono ?_⟩
      rintro ⟨v, w3⟩ ⟨e3, q3⟩
      dsimp only at e3 q3 ⊢
      subst e3
      rw [if_pos ((mu_0 o.2.1).mpr g2), rt_some, nx_l]
      exact ⟨rfl, nI_1 k, (hq.tr q2).tr q3⟩
    · rintro ⟨a, b, w1⟩ ⟨h1, h2, hq⟩
      dsimp only at h1 h2 hq
      subst h1 h2
      have hl := gs_lt o K
      unfold l_X12_till_7
      dsimp only
      by_cases c0 : gs d C K = 0
      · rw [c0, if_pos (by rfl), rt_some, nx_r]
        exact ⟨rfl, hq⟩
      obtain ⟨i, e, hi, hb⟩ := lst_some (d := d) (C := C) (by omega) c0
      rw [if_neg (nI_ne0 (by omega) (by omega)), rt_onL, rt_bind]
      refine ⟨hq.2.1, (m_leastOf o hq.2 hl).mono ?_⟩
      rintro ⟨v, w2⟩ ⟨e2, q2⟩
      dsimp only at e2 q2 ⊢
      rw [e] at e2
      subst e2
      rw [show oI (some i) = nI i from rfl, rt_onL, wo_N (by omega), ← gs_s e, rt_bind]
      refine ⟨q2.2.1, (m_mustsOf o q2.2 (gs_lt o _)).mono ?_⟩
      rintro ⟨v, w3⟩ ⟨e3, q3⟩
      dsimp only at e3 q3 ⊢
      subst e3
      rw [if_neg (fun z => (hK1.resolve_left c0) ((mu_0 o.2.1).mp z)), rt_some, nx_r]
      exact ⟨rfl, (hq.tr q2).tr q3⟩
    · rintro ⟨f, v, w1⟩ ⟨e, q⟩
      dsimp only at e q ⊢
      subst e
      split
      · rw [rt_some]; exact ⟨rfl, q.w⟩
      · rw [rt_some]; exact ⟨rfl, q.w⟩
/-- TALK together, always THE LEAST STRUCK -/
noncomputable def gsum (d : Dt) (C : Ct) (n : Nat) : Nat := fb_sm (fun k => tkA d C (gs d C (k + 1))) n
theorem x10_greedy (o : Ok d C) (hst : d 0 7 < 2 ^ 31) {w : Mm} (h : KI d C w) {n : Nat} (hn : n ≤ 6) (hn2 : n ≤ pc (d 0 1)) : Rt (f_X10_greedy (nI n) w) (fun p => p.1 = lN (gsum d C n) ∧ KQ d C w p.2) := by
  have p10 := pow10 o.1.1
  unfold f_X10_greedy
  rw [h.U, rt_bind]
  refine (x10_cheapest o hst h o.1.2.1).mono ?_
  rintro ⟨v, w1⟩ ⟨e1, q1⟩
  dsimp only at e1 q1 ⊢
  subst e1
  rw [rt_bind]
  refine Rt.mono (rt_for (Q := fun p => p.1 = lN (gsum d C n) ∧ KQ d C w p.2) (fun k s => s.1 = lN (gsum d C k) ∧ s.2.1 = nI (gs d C k) ∧ s.2.2.1 = oI (lst d C (gs d C k)) ∧ s.2.2.2.1 = nI k ∧ KQ d C w s.2.2.2.2) n ?_ ?_ ⟨rfl, rfl, rfl, rfl, q1⟩ (by omega)) (fun p hp => by rw [rt_some]; exact hp)
  · rintro k ⟨a, b, c, e, w2⟩ hk ⟨h1, h2, h3, h4, hq⟩
    dsimp only at h1 h2 h3 h4 hq
    subst h1 h2 h3 h4
    have hl := gs_lt o k
    obtain ⟨i, e, hi, hb⟩ := lst_some (d := d) (C := C) (by omega) (gs_n0 o (k := k) (by omega))
    unfold l_X10_greedy_22
    dsimp only
    rw [if_neg (nI_ge hk (by omega)), if_neg (show ¬ (6 : Int32) ≤ nI k from nI_ge (b := 6) (by omega) (by decide)), e, show oI (some i) = nI i from rfl, if_neg (nm1 (by omega)), rt_onL, without_N (by omega), ← gs_s e]
    refine ⟨hq.1.1, x_tk o hst hq.1 (gs_lt o _) (fun w3 q3 => ?_)⟩
    dsimp only
    rw [rt_onL, rt_bind]
    refine ⟨q3.1.1, (x10_cheapest o hst q3.1 (gs_lt o _)).mono ?_⟩
    rintro ⟨v, w4⟩ ⟨e4, q4⟩
    dsimp only at e4 q4 ⊢
    subst e4
    rw [rt_some, nx_l]
    exact ⟨by rw [lN_add]; rfl, rfl, rfl, nI_1 k, (hq.tr q3).tr q4⟩
  · rintro ⟨a, b, c, e, w2⟩ ⟨h1, h2, h3, h4, hq⟩
    dsimp only at h1 h2 h3 h4 hq
    subst h1 h2 h3 h4
    unfold l_X10_greedy_22
    dsimp only
    rw [if_pos (nI_le (Nat.le_refl _) (by omega)), rt_some, nx_r]
    exact ⟨rfl, hq⟩
end Gs
