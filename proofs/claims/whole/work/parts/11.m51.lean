/-! the first state -/
set_option maxRecDepth 1000000 in
theorem iw_chk2 : (match iw wE with | some w => chk2 w | none => false) = true := by decide +kernel
set_option maxRecDepth 1000000 in
theorem iw_chk3 : (match iw wE with | some w => chk3 w | none => false) = true := by decide +kernel
def d0 : Dt := fun i j => if i = 0 ∧ j = 4 then 1000 else if i = 4 then 1 else 0
def C0 : Ct := fun _ _ _ => none
theorem d0_z {i j : Nat} (h : ¬ (i = 0 ∧ j = 4)) (h2 : i ≠ 4) : d0 i j = 0 := by
  unfold d0
  rw [if_neg h, if_neg h2]
theorem d0_4 (j : Nat) : d0 4 j = 1 := by
  unfold d0
  rw [if_neg (by omega), if_pos rfl]
theorem ok0 : Ok d0 C0 ∧ OkT d0 := by
  refine ⟨⟨⟨by rw [d0_z (by omega) (by omega)]; omega, by rw [d0_z (by omega) (by omega), d0_z (by omega) (by omega)]; decide, fun k _ => by rw [d0_z (by omega) (by omega), d0_z (by omega) (by omega), d0_z (by omega) (by omega)]; omega, fun k hk => by rw [d0_z (by omega) (by omega)] at hk; omega⟩, ⟨by rw [d0_z (by omega) (by omega)]; omega, by decide, fun s _ => by rw [d0_z (by omega) (by omega)]; omega, fun i _ => by rw [d0_z (by omega) (by omega), d0_z (by omega) (by omega), d0_z (by omega) (by omega), d0_z (by omega) (by omega)]; omega⟩, ⟨fun _ _ _ _ h => (by cases h), fun _ _ _ _ => rfl, by rw [d0_z (by omega) (by omega)]; omega⟩⟩, ⟨by rw [d0_z (by omega) (by omega)]; omega, fun k => by rw [d0_z (by omega) (by omega)]; omega, fun i _ => ⟨by rw [d0_z (by omega) (by omega)]; omega, by rw [d0_z (by omega) (by omega)]; omega, fun k _ => ⟨by rw [d0_z (by omega) (by omega)]; omega, fun _ => d0_z (by omega) (by omega)⟩⟩⟩⟩
theorem z0_of {w : Mm} {c n : Nat} (h : z0 w c n = true) {k : Nat} (hk : k < n) : gI w c k = 0 := of_decide_eq_true (allN_of h k hk)
theorem x4_none {w : Mm} (hL : Lay w) (h : gI w 16 9 = 0) (x1 x2 x3 : Int32) : Rt (f_X4_extraFor 16 x1 x2 x3 w) (fun p => p.1 = -1 ∧ fx scN w p.2) := by
  unfold f_X4_extraFor
  rw [rt_bind]
  refine Rt.mono (rt_for (fun k (s : Int32 × Mm) => s.1 = 0 ∧ fx scN w s.2) 0 (Q := fun p => p.1 = 0 ∧ fx scN w p.2.2) (fun k s hk => absurd hk (Nat.not_lt_zero k)) ?_ ⟨rfl, ?_⟩ (by decide)) ?_
  · rintro ⟨s1, w1⟩ ⟨h1, f⟩
    dsimp only at h1 f
    subst h1
    unfold l_X4_extraFor_86
    dsimp only
    rw [rt_onL, f.I (by unfold scN; omega), h, if_pos (by decide), rt_some, nx_r]
    exact ⟨f.lay hL, rfl, f⟩
  · have q : ∀ k, scN (16 + 6) k := fun k => Or.inl rfl
    exact (((((((fx.sI (q _)).tr (fx.sI (q _))).tr (fx.sI (q _))).tr (fx.sI (q _))).tr (fx.sI (q _))).tr (fx.sI (q _))).tr (fx.sI (q _))).tr (fx.sI (q _))
  · rintro ⟨s1, s2, w1⟩ ⟨h1, f⟩
    dsimp only at h1 f ⊢
    rw [if_pos h1, rt_some]
    exact ⟨rfl, f⟩
theorem m_none {w : Mm} (hL : Lay w) (h : gI w 47 17 = 0) (x1 x2 x3 : Int32) : Rt (f_X12_costOf x1 x2 x3 w) (fun p => p.1 = -1 ∧ fx scC w p.2) := by
  unfold f_X12_costOf
  rw [rt_bind]
  refine Rt.mono (rt_for (fun k (s : Int32 × Mm) => s.1 = 0 ∧ fx scC w s.2) 0 (Q := fun p => p.1 = 0 ∧ fx scC w p.2.2) (fun k s hk => absurd hk (Nat.not_lt_zero k)) ?_ ⟨rfl, ?_⟩ (by decide)) ?_
  · rintro ⟨s1, w1⟩ ⟨h1, f⟩
    dsimp only at h1 f
    subst h1
    unfold l_X12_costOf_18
    dsimp only
    rw [rt_onL, f.I (by unfold scC; omega), h, if_pos (by decide), rt_some, nx_r]
    exact ⟨f.lay hL, rfl, f⟩
  · exact ((fx.sI (by unfold scC; omega)).tr (fx.sI (by unfold scC; omega))).tr (fx.sI (by unfold scC; omega))
  · rintro ⟨s1, s2, w1⟩ ⟨h1, f⟩
    dsimp only at h1 f ⊢
    rw [if_pos h1, rt_some]
    exact ⟨rfl, f⟩
theorem iw_ok : ∃ w, iw wE = some w ∧ KT d0 C0 w ∧ MT d0 C0 w := by
  have h1 := iw_chk
  have h2 := iw_chk2
  have h3 := iw_chk3
  cases e : iw wE with
  | none => rw [e] at h1; cases h1
  | some w =>
    rw [e] at h1 h2 h3
    dsimp only at h1 h2 h3
    refine ⟨w, rfl, ?_⟩
    simp only [chk, Bool.and_eq_true, decide_eq_true_eq] at h1
    simp only [chk2, Bool.and_eq_true, decide_eq_true_eq] at h2
    simp only [chk3, Bool.and_eq_true, decide_eq_true_eq] at h3
    obtain ⟨⟨⟨⟨⟨⟨a1, a2⟩, a3⟩, a4⟩, a5⟩, a6⟩, a7⟩ := h1
    obtain ⟨⟨⟨⟨⟨⟨⟨⟨⟨⟨⟨⟨⟨⟨⟨⟨⟨⟨⟨b1, b2⟩, b3⟩, b4⟩, b5⟩, b6⟩, b7⟩, b8⟩, b9⟩, b10⟩, b11⟩, b12⟩, b13⟩, b14⟩, b15⟩, b16⟩, b17⟩, b18⟩, b19⟩, b20⟩ := h2
    obtain ⟨⟨⟨⟨⟨⟨⟨⟨⟨⟨⟨⟨⟨⟨⟨⟨⟨⟨⟨⟨c1, c2⟩, c3⟩, c4⟩, c5⟩, c6⟩, c7⟩, c8⟩, c9⟩, c10⟩, c11⟩, c12⟩, c13⟩, c14⟩, c15⟩, c16⟩, c17⟩, c18⟩, c19⟩, c20⟩, c21⟩ := h3
    have hL : Lay w := ⟨fun c _ => by rw [a1], fun x hx => of_decide_eq_true (List.all_eq_true.mp a2 x hx)⟩
    have hn : ∀ {i j : Nat}, ¬ (i = 0 ∧ j = 4) → i ≠ 4 → nI (d0 i j) = 0 := fun h h' => by rw [d0_z h h']; rfl
    have h4 : ∀ j, nI (d0 4 j) - 1 = 0 := fun j => by rw [d0_4]; decide
    have h04 : nI (d0 0 4) = 1000 := rfl
    refine ⟨⟨⟨hL, ?_, ?_, ?_, ⟨fun _ => 0, fun k a hk ha => ?_, fun p hp => ?_, 0, Nat.zero_le _, a5⟩, ?_⟩, ?_, ?_⟩, ⟨hL, ?_, ?_, ?_, ?_, ?_⟩, ?_, ?_⟩
    · refine ⟨by rw [hn (by omega) (by omega)]; exact b1, by rw [hn (by omega) (by omega)]; exact b2, by rw [hn (by omega) (by omega)]; exact b3, fun k hk => ?_⟩
      rw [hn (by omega) (by omega), hn (by omega) (by omega), hn (by omega) (by omega), h4]
      exact ⟨z0_of b4 hk, z0_of b5 hk, z0_of b6 hk, z0_of b7 hk⟩
    · refine ⟨by rw [hn (by omega) (by omega)]; exact b8, by rw [h04]; exact a6, fun k hk => by rw [hn (by omega) (by omega)]; exact z0_of b9 hk, fun k hk => ?_⟩
      rw [hn (by omega) (by omega), hn (by omega) (by omega), hn (by omega) (by omega), hn (by omega) (by omega)]
      exact ⟨z0_of b10 hk, z0_of b11 hk, z0_of b12 hk, z0_of b13 hk⟩
    · refine ⟨by rw [hn (by omega) (by omega)]; exact b16, by rw [hn (by omega) (by omega)]; exact b15, fun w' hw hL' m c b _ _ _ => ?_⟩
      exact x4_none hL' (by rw [hw 16 9 (by omega)]; exact b16) _ _ _
    · have := of_decide_eq_true (allN_of a3 k hk)
      rw [this] at ha
      cases ha
    · rw [a4] at hp
      cases hp
    · unfold Rm
      have e1 : mlen w = 87 := by unfold mlen; rw [a1]; rfl
      have e2 : mslots w = 78368 := by unfold mslots; rw [a1]; decide +kernel
      rw [e1, e2]
      omega
    · exact ⟨by rw [hn (by omega) (by omega)]; exact b14, fun k hk => by rw [d0_z (by omega) (by omega)] at hk; omega⟩
    · intro i hi
      have hl : lmk (fun k => decide (0 < d0 13 (10 * i + k))) 10 = 0 := lmk_ext (n := 0) (Nat.zero_le _) (fun k _ _ => by rw [d0_z (by omega) (by omega)]; rfl)
      have hs : fb_sm (fun k => d0 13 (10 * i + k) * d0 3 k) 10 = 0 := sm_ext (n := 0) (Nat.zero_le _) (fun k _ _ => by rw [d0_z (by omega) (by omega), Nat.zero_mul])
      rw [hl, hs, hn (by omega) (by omega), hn (by omega) (by omega), hn (by omega) (by omega), hn (by omega) (by omega), hn (by omega) (by omega)]
      rcases (by omega : i = 0 ∨ i = 1 ∨ i = 2 ∨ i = 3) with rfl | rfl | rfl | rfl
      · exact ⟨z0_of b17 (by decide), z0_of b17 (by decide), z0_of b17 (by decide), z0_of b17 (by decide), z0_of b17 (by decide), z0_of b17 (by decide), z0_of b17 (by decide)⟩
      · exact ⟨z0_of b18 (by decide), z0_of b18 (by decide), z0_of b18 (by decide), z0_of b18 (by decide), z0_of b18 (by decide), z0_of b18 (by decide), z0_of b18 (by decide)⟩
      · exact ⟨z0_of b19 (by decide), z0_of b19 (by decide), z0_of b19 (by decide), z0_of b19 (by decide), z0_of b19 (by decide), z0_of b19 (by decide), z0_of b19 (by decide)⟩
      · exact ⟨z0_of b20 (by decide), z0_of b20 (by decide), z0_of b20 (by decide), z0_of b20 (by decide), z0_of b20 (by decide), z0_of b20 (by decide), z0_of b20 (by decide)⟩
    · refine ⟨by rw [hn (by omega) (by omega)]; exact c2, by rw [hn (by omega) (by omega)]; exact c5, by rw [hn (by omega) (by omega)]; exact c4, fun k hk => ?_⟩
      rw [hn (by omega) (by omega), hn (by omega) (by omega), hn (by omega) (by omega), h4]
      exact ⟨z0_of c7 hk, z0_of c8 hk, z0_of c9 hk, z0_of c10 hk⟩
    · refine ⟨by rw [hn (by omega) (by omega)]; exact c3, by rw [h04]; exact a7, fun k hk => by rw [hn (by omega) (by omega)]; exact z0_of c11 hk, fun k hk => ?_⟩
      rw [hn (by omega) (by omega), hn (by omega) (by omega), hn (by omega) (by omega), hn (by omega) (by omega)]
      exact ⟨z0_of c12 hk, z0_of c13 hk, z0_of c14 hk, z0_of c15 hk⟩
    · refine ⟨by rw [hn (by omega) (by omega)]; exact c6, fun w' hw hL' m c b _ _ _ => ?_⟩
      exact m_none hL' (by rw [hw 47 17 (by omega)]; exact c6) _ _ _
    · intro t ht
      rw [d0_z (by omega) (by omega)] at ht
      have e : t = 0 := by have : (2 : Nat) ^ 0 = 1 := rfl; omega
      rw [e]
      exact Or.inl c20
    · intro t ht
      rw [d0_z (by omega) (by omega)] at ht
      have e : t = 0 := by have : (2 : Nat) ^ 0 = 1 := rfl; omega
      rw [e]
      exact Or.inl c21
    · exact ⟨by rw [hn (by omega) (by omega)]; exact c1, fun k hk => by rw [d0_z (by omega) (by omega)] at hk; omega⟩
    · intro i hi
      rw [hn (by omega) (by omega), hn (by omega) (by omega)]
      exact ⟨z0_of c16 hi, z0_of c17 hi, fun k hk => by rw [hn (by omega) (by omega)]; exact z0_of c18 (by omega), fun k hk => by rw [hn (by omega) (by omega)]; exact z0_of c19 (by omega)⟩
