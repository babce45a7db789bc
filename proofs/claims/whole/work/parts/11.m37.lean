/-! ROUND, the reference; FEWEST -/
section Rnd2
variable {d : Dt} {C : Ct} {w : Mm}
def ZV (d : Dt) (C : Ct) (w w' : Mm) : Prop := qw w w' ∧ MI d C w'
theorem ZV.rf (h : MI d C w) : ZV d C w w := ⟨qw.rf, h⟩
theorem ZV.tr {w w' w'' : Mm} (h : ZV d C w w') (h' : ZV d C w' w'') : ZV d C w w'' := ⟨fx.tr h.1 h'.1, h'.2⟩
def Cls (E : Nat → Nat) (c : Nat) : Prop := ∀ v j, c.testBit v = true → (E v).testBit j = true → c.testBit j = true
theorem mnt_E (o : Ok d C) {E : Nat → Nat} (hE : Dic d E) {v j : Nat} (hv : v < 10) (h : (E v).testBit j = true) : ¬ mnt d (nI v) = 0 := fun z => by
  rw [(hE v hv).2.2 z, Nat.zero_testBit] at h
  cases h
theorem m_rnd44 (o : Ok d C) (h : MI d C w) {E : Nat → Nat} (hE : Dic d E) (x1 x2 x4 : Int32) {i c0 : Nat} (hc0 : c0 < 2 ^ d 0 0) (hT : ∀ j, c0.testBit j = true → TC E i j) : Rt (wh (l_X12_round_44 x1 x2 x4) FUEL (nI c0, (0 : Int32), w)) (fun p => ZV d C w p.2 ∧ ∃ c, p.1 = nI c ∧ c < 2 ^ d 0 0 ∧ (∀ j, c0.testBit j = true → c.testBit j = true) ∧ (∀ j, c.testBit j = true → TC E i j) ∧ (∀ v j, c0.testBit v = true → (E v).testBit j = true → c.testBit j = true) ∧ (Cls E c0 → c = c0)) := by
  have p10 := pow10 o.1.1
  have o1 := o.1.1
  refine rt_for (fun v s => s.2.1 = nI v ∧ ZV d C w s.2.2 ∧ ∃ c, s.1 = nI c ∧ c < 2 ^ d 0 0 ∧ (∀ j, c0.testBit j = true → c.testBit j = true) ∧ (∀ j, c.testBit j = true → TC E i j) ∧ (∀ v' j, v' < v → c0.testBit v' = true → (E v').testBit j = true → c.testBit j = true) ∧ (Cls E c0 → c = c0)) (d 0 0) ?_ ?_ ⟨rfl, ZV.rf h, c0, rfl, hc0, fun _ z => z, hT, fun v' j hv => absurd hv (Nat.not_lt_zero v'), fun _ => rfl⟩ (by omega)
  · rintro v ⟨s1, s2, w1⟩ hv ⟨h1, hq, c, h2, hc, hsub, hTc, hcl, hst⟩
    dsimp only at h1 h2 hq
    subst h1 h2
    unfold l_X12_round_44
    dsimp only
    rw [rt_onL, hq.2.N, if_neg (nI_ge hv (by omega)), has_N (by omega) (by omega), m_meant o hq.2, Option.bind_some]
    refine ⟨hq.2.1, ?_⟩
    simp only [bI_0]
    have keep : (∀ j, c0.testBit v = true → (E v).testBit j = true → c.testBit j = true) → Rt (Option.bind (some (nI c, w1)) (fun p4 => some (.inl (p4.1, nI v + (1 : Int32), p4.2)))) (Nx (fun s : Int32 × Int32 × Mm => s.2.1 = nI (v + 1) ∧ ZV d C w s.2.2 ∧ ∃ c, s.1 = nI c ∧ c < 2 ^ d 0 0 ∧ (∀ j, c0.testBit j = true → c.testBit j = true) ∧ (∀ j, c.testBit j = true → TC E i j) ∧ (∀ v' j, v' < v + 1 → c0.testBit v' = true → (E v').testBit j = true → c.testBit j = true) ∧ (Cls E c0 → c = c0)) (fun p : Int32 × Mm => ZV d C w p.2 ∧ ∃ c, p.1 = nI c ∧ c < 2 ^ d 0 0 ∧ (∀ j, c0.testBit j = true → c.testBit j = true) ∧ (∀ j, c.testBit j = true → TC E i j) ∧ (∀ v j, c0.testBit v = true → (E v).testBit j = true → c.testBit j = true) ∧ (Cls E c0 → c = c0))) := fun hz => by
      rw [Option.bind_some, rt_some, nx_l]
      refine ⟨nI_1 v, hq, c, rfl, hc, hsub, hTc, fun v' j hv' y1 y2 => ?_, hst⟩
      by_cases e : v' = v
      · subst e; exact hz j y1 y2
      · exact hcl v' j (by omega) y1 y2
    by_cases c1 : c.testBit v = true
    · rw [if_neg (by rw [c1]; decide)]
      by_cases c2 : mnt d (nI v) = 0
      · rw [if_pos c2]
        exact keep (fun j _ y => absurd c2 (mnt_E o hE (by omega) y))
      · rw [if_neg c2, rt_bind, rt_bind]
        refine (m_leadsTo o hq.2 (i := v) (by omega)).mono ?_
        rintro ⟨x, w2⟩ ⟨⟨b, e2, hl⟩, q2, m2⟩
        dsimp only at e2 q2 m2 ⊢
        have hb : b = E v := hl.uniq ((hE v (by omega)).2.1 c2)
        subst hb e2
        rw [rt_some, rt_some, nx_l, fa_or]
        have hbit : ∀ j, (c ||| E v).testBit j = true ↔ c.testBit j = true ∨ (E v).testBit j = true := fun j => by rw [Nat.testBit_or]; simp
        refine ⟨nI_1 v, hq.tr ⟨q2, m2⟩, c ||| E v, rfl, Nat.or_lt_two_pow hc (hE v (by omega)).1, fun j z => (hbit j).mpr (Or.inl (hsub j z)), fun j z => ?_, fun v' j hv' y1 y2 => ?_, fun hC => ?_⟩
        · rcases (hbit j).mp z with z | z
          · exact hTc j z
          · exact (hTc v c1).st z
        · by_cases e : v' = v
          · subst e; exact (hbit j).mpr (Or.inr y2)
          · exact (hbit j).mpr (Or.inl (hcl v' j (by omega) y1 y2))
        · have hc0' := hst hC
          rw [hc0'] at c1 ⊢
          apply Nat.eq_of_testBit_eq
          intro j
          rw [Nat.testBit_or]
          cases y : (E v).testBit j with
          | false => simp
          | true => rw [hC v j c1 y]; rfl
    · rw [if_pos (bool_f c1)]
      exact keep (fun j y _ => absurd (hsub v y) c1)
  · rintro ⟨s1, s2, w1⟩ ⟨h1, hq, c, h2, hc, hsub, hTc, hcl, hst⟩
    dsimp only at h1 h2 hq
    subst h1 h2
    unfold l_X12_round_44
    dsimp only
    rw [rt_onL, hq.2.N, if_pos (nI_le (Nat.le_refl _) (by omega)), rt_some, nx_r]
    exact ⟨hq.2.1, hq, c, rfl, hc, hsub, hTc, fun v j y1 y2 => hcl v j (tb_lt hc0 y1) y1 y2, hst⟩
theorem pc_lt_of {c c' : Nat} (hsub : ∀ j, c.testBit j = true → c'.testBit j = true) {j : Nat} (hj : j < 10) (h1 : c.testBit j = false) (h2 : c'.testBit j = true) : pc c + 1 ≤ pc c' := by
  unfold pc
  have := fb_ct_or (p := c.testBit) (q := fun v => decide (v = j)) (n := 10) (fun v _ z => by
    have z2 := of_decide_eq_true z.2
    rw [z2, h1] at z
    exact absurd z.1 (by decide))
  rw [fb_ct_one hj] at this
  rw [← this]
  refine fb_ct_sub (fun v _ hv => ?_)
  rcases Bool.or_eq_true .. ▸ hv with z | z
  · exact hsub v z
  · rw [of_decide_eq_true z]; exact h2
theorem pc_le_n {c n : Nat} (hn : n ≤ 10) (hc : c < 2 ^ n) : pc c ≤ n := by
  unfold pc
  have := fb_ct_split c.testBit n (10 - n)
  rw [show n + (10 - n) = 10 by omega] at this
  have hz : fb_ct (fun k => c.testBit (n + k)) (10 - n) = 0 := fb_ct_zero.mpr (fun k _ => tb_small hc (by omega))
  have := fb_ct_le c.testBit n
  omega
theorem m_rnd32 (o : Ok d C) (h : MI d C w) {E : Nat → Nat} (hE : Dic d E) (x1 x2 : Int32) {i : Nat} (hi : i < 10) : Rt (wh (l_X12_round_32 x1 x2) FUEL (nI (E i), (0 : Int32), w)) (fun p => ZV d C w p.2 ∧ ∃ c, p.1 = nI c ∧ c < 2 ^ d 0 0 ∧ ∀ j, c.testBit j = true ↔ TC E i j) := by
  have p10 := pow10 o.1.1
  have o1 := o.1.1
  refine rt_for (fun r s => s.2.1 = nI r ∧ ZV d C w s.2.2 ∧ ∃ c, s.1 = nI c ∧ c < 2 ^ d 0 0 ∧ (∀ j, (E i).testBit j = true → c.testBit j = true) ∧ (∀ j, c.testBit j = true → TC E i j) ∧ (Cls E c ∨ r + 1 ≤ pc c)) (d 0 0) ?_ ?_ ⟨rfl, ZV.rf h, E i, rfl, (hE i hi).1, fun _ z => z, fun _ z => TC.one z, ?_⟩ (by omega)
  · rintro r ⟨s1, s2, w1⟩ hr ⟨h1, hq, c, h2, hc, hsub, hTc, hpc⟩
    dsimp only at h1 h2 hq
    subst h1 h2
    unfold l_X12_round_32
    dsimp only
    rw [rt_onL, hq.2.N, if_neg (nI_ge hr (by omega)), rt_bind]
    refine ⟨hq.2.1, (m_rnd44 o hq.2 hE x1 x2 (nI r) hc hTc).mono ?_⟩
    rintro ⟨v, w2⟩ ⟨q2, c', e2, hc', hsub', hT', hcl', hst'⟩
    dsimp only at e2 q2 ⊢
    subst e2
    rw [rt_some, nx_l]
    refine ⟨nI_1 r, hq.tr q2, c', rfl, hc', fun j z => hsub' j (hsub j z), hT', ?_⟩
    by_cases hC : Cls E c
    · rw [hst' hC]; exact Or.inl hC
    · right
      have hp := hpc.resolve_left hC
      have : ∃ v j, c.testBit v = true ∧ (E v).testBit j = true ∧ c.testBit j = false := by
        by_cases q : ∃ v j, c.testBit v = true ∧ (E v).testBit j = true ∧ c.testBit j = false
        · exact q
        · refine absurd (fun v j y1 y2 => ?_) hC
          cases y : c.testBit j with
          | true => rfl
          | false => exact absurd ⟨v, j, y1, y2, y⟩ q
      obtain ⟨v, j, y1, y2, y3⟩ := this
      have hv10 : v < 10 := by have := tb_lt hc y1; omega
      have hj10 : j < 10 := by have := tb_lt (hE v hv10).1 y2; omega
      have := pc_lt_of hsub' hj10 y3 (hcl' v j y1 y2)
      omega
  · rintro ⟨s1, s2, w1⟩ ⟨h1, hq, c, h2, hc, hsub, hTc, hpc⟩
    dsimp only at h1 h2 hq
    subst h1 h2
    unfold l_X12_round_32
    dsimp only
    rw [rt_onL, hq.2.N, if_pos (nI_le (Nat.le_refl _) (by omega)), rt_some, nx_r]
    have hC : Cls E c := by
      rcases hpc with z | z
      · exact z
      · have := pc_le_n o1 hc; omega
    exact ⟨hq.2.1, hq, c, rfl, hc, fun j => ⟨hTc j, fun z => TC_of hsub hC z⟩⟩
  · by_cases e : E i = 0
    · left
      intro v j y1
      rw [e, Nat.zero_testBit] at y1
      cases y1
    · right
      by_cases q : pc (E i) = 0
      · exact absurd (pc_0 (by have := (hE i hi).1; omega) q) e
      · omega
theorem ag_round (o : Ok d C) : Agree d C f_X11_round f_X12_round := by
  have p10 := pow10 o.1.1
  have o1 := o.1.1
  obtain ⟨E, hE⟩ := Dic_ex o
  obtain ⟨b, hb, hbits⟩ := bits_ex (fun j => TC E j j) 10
  have hb : RnS E b := ⟨hb, hbits⟩
  have huniq : ∀ b', RnS E b' → b' = b := fun b' h' => by
    apply Nat.eq_of_testBit_eq
    intro j
    have h1 := h'.2 j
    have h2 := hb.2 j
    cases c : b'.testBit j with
    | true => rw [h2.mpr (h1.mp c)]
    | false =>
      cases c' : b.testBit j with
      | false => rfl
      | true => rw [h1.mpr (h2.mp c')] at c; cases c
  refine ⟨nI b, fun w h => ?_, fun w h => ?_⟩
  · unfold f_X11_round
    rw [rt_bind]
    refine (x2_circles o h hE).mono ?_
    rintro p ⟨q, b', e, hb'⟩
    rw [rt_some, e, huniq b' hb']
    exact ⟨rfl, q⟩
  · unfold f_X12_round
    rw [rt_bind]
    refine Rt.mono (rt_for (Q := fun p => ZV d C w p.2 ∧ ∃ b', p.1 = nI b' ∧ RnS E b') (fun i s => s.2.1 = nI i ∧ ZV d C w s.2.2 ∧ ∃ b', s.1 = nI b' ∧ b' < 1024 ∧ ∀ j, b'.testBit j = true ↔ j < i ∧ TC E j j) (d 0 0) ?_ ?_ ⟨rfl, ZV.rf h, 0, rfl, by decide, fun j => by
      rw [Nat.zero_testBit]
      exact ⟨fun z => (by cases z), fun z => absurd z.1 (Nat.not_lt_zero j)⟩⟩ (by omega)) ?_
    · rintro i ⟨s1, s2, w1⟩ hi ⟨h1, hq, b', h2, hb1, hb2⟩
      dsimp only at h1 h2 hq
      subst h1 h2
      have hi10 : i < 10 := by omega
      unfold l_X12_round_4
      dsimp only
      rw [rt_onL, hq.2.N, if_neg (nI_ge hi (by omega)), m_meant o hq.2, Option.bind_some]
      refine ⟨hq.2.1, ?_⟩
      have skip : ∀ w2, ZV d C w w2 → ¬ TC E i i → (nI i + 1 = nI (i + 1) ∧ ZV d C w w2 ∧ ∃ b'', nI b' = nI b'' ∧ b'' < 1024 ∧ ∀ j, b''.testBit j = true ↔ j < i + 1 ∧ TC E j j) := fun w2 q2 hn => ⟨nI_1 i, q2, b', rfl, hb1, fun j => by
        rw [hb2 j]
        constructor
        · rintro ⟨z1, z2⟩; exact ⟨by omega, z2⟩
        · rintro ⟨z1, z2⟩
          by_cases e : j = i
          · subst e; exact absurd z2 hn
          · exact ⟨by omega, z2⟩⟩
      by_cases c1 : mnt d (nI i) = 0
      · rw [if_pos c1, Option.bind_some, rt_some, nx_l]
        refine skip w1 hq (fun z => ?_)
        exact z (fun _ => False) (fun y hy => mnt_E o hE hi10 hy c1) (fun _ _ f _ => f)
      · rw [if_neg c1, rt_bind, rt_bind]
        refine (m_leadsTo o hq.2 hi10).mono ?_
        rintro ⟨x, w2⟩ ⟨⟨bb, e2, hl⟩, q2, m2⟩
        dsimp only at e2 q2 m2 ⊢
        have hbb : bb = E i := hl.uniq ((hE i hi10).2.1 c1)
        subst hbb e2
        rw [rt_bind]
        refine (m_rnd32 o m2 hE (nI b') (nI i) hi10).mono ?_
        rintro ⟨x, w3⟩ ⟨q3, c, e3, hc, hcT⟩
        dsimp only at e3 q3 ⊢
        subst e3
        have q03 := (hq.tr ⟨q2, m2⟩).tr q3
        rw [has_N (by omega) (by omega)]
        simp only [bI_0]
        by_cases c2 : c.testBit i = true
        · rw [if_neg (by rw [c2]; decide), sh1_N (by omega), Option.bind_some, rt_some, rt_some, nx_l, fa_or]
          refine ⟨nI_1 i, q03, b' ||| 2 ^ i, rfl, Nat.or_lt_two_pow (n := 10) hb1 (Nat.pow_lt_pow_right (by decide) hi10), fun j => ?_⟩
          rw [fb_bit_set]
          constructor
          · intro z
            rcases Bool.or_eq_true .. ▸ z with z | z
            · have := (hb2 j).mp z; exact ⟨by omega, this.2⟩
            · rw [of_decide_eq_true z]; exact ⟨by omega, (hcT i).mp c2⟩
          · rintro ⟨z1, z2⟩
            by_cases e : j = i
            · rw [decide_eq_true e]; simp
            · rw [(hb2 j).mpr ⟨by omega, z2⟩]; rfl
        · rw [if_pos (bool_f c2), Option.bind_some, rt_some, rt_some, nx_l]
          have e0 : nI b' ||| (0 : Int32) = nI b' := by rw [show (0 : Int32) = nI 0 from rfl, fa_or, Nat.or_zero]
          dsimp only
          rw [e0]
          exact skip w3 q03 (fun z => c2 ((hcT i).mpr z))
    · rintro ⟨s1, s2, w1⟩ ⟨h1, hq, b', h2, hb1, hb2⟩
      dsimp only at h1 h2 hq
      subst h1 h2
      unfold l_X12_round_4
      dsimp only
      rw [rt_onL, hq.2.N, if_pos (nI_le (Nat.le_refl _) (by omega)), rt_some, nx_r]
      refine ⟨hq.2.1, hq, b', rfl, hb1, fun j => ?_⟩
      rw [hb2 j]
      constructor
      · rintro ⟨z1, z2⟩; exact ⟨by omega, z2⟩
      · rintro ⟨z1, z2⟩
        refine ⟨?_, z2⟩
        have : j < d 0 0 := z2 (fun y => y < d 0 0) (fun y hy => tb_lt (hE j z1).1 hy) (fun y z hy hz => tb_lt (hE y (by omega)).1 hz)
        exact this
    · rintro ⟨v, w1⟩ ⟨q, b', e, hb'⟩
      dsimp only at q e ⊢
      rw [rt_some, e, huniq b' hb']
      exact ⟨rfl, q.1.q, q.2⟩
end Rnd2
