/-! VOTES, the reference's -/
section MVote
variable {d : Dt} {C : Ct} {w : Mm}
theorem m_isAhead (o : Ok d C) (h : MI d C w) {v x s : Nat} (hv : v < 10) (hx : x < 10) (hs : s < 4) : Rt (f_X12_isAhead (nI v) (nI x) (nI s) w) (fun p => p.1 = bI (ahB d C s v x) ∧ ZQ d C w p.2) := by
  unfold f_X12_isAhead
  rw [rt_bind]
  refine (m_growsBy o h hv hs).mono ?_
  rintro ⟨a, w1⟩ ⟨e1, q1⟩
  dsimp only at e1 q1 ⊢
  subst e1
  rw [rt_onL, rt_bind]
  refine ⟨q1.2.1, (m_growsBy o q1.2 hx hs).mono ?_⟩
  rintro ⟨a, w2⟩ ⟨e2, q2⟩
  dsimp only at e2 q2 ⊢
  subst e2
  have q := q1.tr q2
  unfold ahB
  by_cases c1 : gw d C v s < gw d C x s
  · rw [if_pos c1]
    simp only [mg]
    rw [rt_some, decide_eq_true (Or.inl (by rw [fa_lt64] at c1; exact c1))]
    exact ⟨rfl, q⟩
  · rw [if_neg c1]
    rw [fa_lt64] at c1
    by_cases c2 : gw d C v s = gw d C x s
    · rw [if_pos c2]
      by_cases c3 : x ≤ v
      · rw [if_pos (nI_le c3 (by omega))]
        simp only [mg]
        rw [rt_some, decide_eq_false (by omega)]
        exact ⟨rfl, q⟩
      · rw [if_neg (nI_ge (by omega) (by omega))]
        simp only [mg]
        rw [rt_some, decide_eq_true (Or.inr ⟨by rw [c2], by omega⟩)]
        exact ⟨rfl, q⟩
    · rw [if_neg c2]
      rw [fa_eq64] at c2
      simp only [mg]
      rw [rt_some, decide_eq_false (by omega)]
      exact ⟨rfl, q⟩
theorem m_behind (o : Ok d C) (h : MI d C w) {x s : Nat} (hx : x < 10) (hs : s < 4) : Rt (f_X12_behind (nI x) (nI s) w) (fun p => p.1 = nI (bhd d C s x) ∧ ZQ d C w p.2) := by
  have p10 := pow10 o.1.1
  have o1 := o.1.1
  have hu := o.1.2.1
  have hB : bhd d C s x = fb_ct (fun v => (d 0 1).testBit v && ahB d C s x v) (d 0 0) := by
    unfold bhd
    have := fb_ct_split (fun v => (d 0 1).testBit v && ahB d C s x v) (d 0 0) (10 - d 0 0)
    rw [show d 0 0 + (10 - d 0 0) = 10 by omega] at this
    have hz : fb_ct (fun k => (d 0 1).testBit (d 0 0 + k) && ahB d C s x (d 0 0 + k)) (10 - d 0 0) = 0 := fb_ct_zero.mpr (fun k _ => by rw [tb_small hu (by omega)]; rfl)
    omega
  rw [hB]
  unfold f_X12_behind
  rw [rt_bind]
  refine Rt.mono (rt_for (Q := fun p => p.1 = nI (fb_ct (fun v => (d 0 1).testBit v && ahB d C s x v) (d 0 0)) ∧ ZQ d C w p.2) (fun i t => t.1 = nI (fb_ct (fun v => (d 0 1).testBit v && ahB d C s x v) i) ∧ t.2.1 = nI i ∧ ZQ d C w t.2.2) (d 0 0) ?_ ?_ ⟨rfl, rfl, ZQ.rf h⟩ (by omega)) (fun p hp => by rw [rt_some]; exact hp)
  · rintro i ⟨a, c, w1⟩ hi ⟨h1, h2, hq⟩
    dsimp only at h1 h2 hq
    subst h1 h2
    unfold l_X12_behind_5
    dsimp only
    rw [rt_onL, hq.2.N, hq.2.U, if_neg (nI_ge hi (by omega)), has_N (by omega) (by omega)]
    refine ⟨hq.2.1, ?_⟩
    simp only [bI_0]
    have z0 : ∀ w2, ZQ d C w w2 → ((d 0 1).testBit i && ahB d C s x i) = false → Rt (some (.inl (nI (fb_ct (fun v => (d 0 1).testBit v && ahB d C s x v) i) + (0 : Int32), nI i + (1 : Int32), w2))) (Nx (fun t => t.1 = nI (fb_ct (fun v => (d 0 1).testBit v && ahB d C s x v) (i + 1)) ∧ t.2.1 = nI (i + 1) ∧ ZQ d C w t.2.2) (fun p : Int32 × Mm => p.1 = nI (fb_ct (fun v => (d 0 1).testBit v && ahB d C s x v) (d 0 0)) ∧ ZQ d C w p.2)) := fun w2 q2 hz => by
      rw [rt_some, nx_l]
      refine ⟨?_, nI_1 i, q2⟩
      rw [fb_ct_succ, hz]
      show nI _ + nI 0 = _
      rw [nI_add]
      rfl
    by_cases c1 : i = x
    · subst c1
      rw [if_pos rfl]
      simp only [mg, Option.bind_some]
      exact z0 w1 hq (by rw [ah_irr]; simp)
    · rw [if_neg (fun z => c1 ((nI_eq (by omega) (by omega)).mp z))]
      by_cases c2 : (d 0 1).testBit i = true
      · rw [if_neg (by rw [c2]; decide), rt_bind, rt_mg, rt_bind]
        refine (m_isAhead o hq.2 hx (by omega) hs).mono ?_
        rintro ⟨a, w2⟩ ⟨e2, q2⟩
        dsimp only at e2 q2 ⊢
        subst e2
        cases c3 : ahB d C s x i with
        | false =>
          rw [if_pos (by rfl), rt_some]
          dsimp only
          rw [rt_some]
          exact z0 w2 (hq.tr q2) (by rw [c3]; simp)
        | true =>
          rw [if_neg (by decide), rt_some]
          dsimp only
          rw [rt_some, nx_l]
          refine ⟨?_, nI_1 i, hq.tr q2⟩
          rw [fb_ct_succ, c2, c3]
          exact nI_1 _
      · rw [if_pos (bool_f c2)]
        simp only [mg, Option.bind_some]
        exact z0 w1 hq (by rw [bool_f c2]; rfl)
  · rintro ⟨a, c, w1⟩ ⟨h1, h2, hq⟩
    dsimp only at h1 h2 hq
    subst h1 h2
    unfold l_X12_behind_5
    dsimp only
    rw [rt_onL, hq.2.N, if_pos (nI_le (Nat.le_refl _) (by omega)), rt_some, nx_r]
    exact ⟨hq.2.1, rfl, hq⟩
theorem MI.P (h : MI d C w) {s : Nat} (hs : s < 4) : gI w 53 s = nI (d 5 s) := h.2.2.1.2.2.1 s hs
theorem m_voters (o : Ok d C) (h : MI d C w) : f_X12_voters w = some (nI (vt d)) := by
  apply Rt.eq
  unfold f_X12_voters
  rw [rt_bind]
  refine Rt.mono (rt_for (Q := fun p => p = nI (vt d)) (fun i t => t.1 = nI (fb_sm (fun s => d 5 s) i) ∧ t.2 = nI i) 4 ?_ ?_ ⟨rfl, rfl⟩ (by decide)) (fun p hp => by rw [rt_some]; exact hp)
  · rintro i ⟨a, c⟩ hi ⟨h1, h2⟩
    dsimp only at h1 h2
    subst h1 h2
    unfold l_X12_voters_4
    dsimp only
    rw [if_neg (show ¬ (4 : Int32) ≤ nI i from nI_ge (b := 4) hi (by decide)), if_pos (inb_nI hi (by decide)), ix_nI (by omega), h.P hi, rt_some, nx_l]
    exact ⟨by rw [nI_add]; rfl, nI_1 i⟩
  · rintro ⟨a, c⟩ ⟨h1, h2⟩
    dsimp only at h1 h2
    subst h1 h2
    unfold l_X12_voters_4
    dsimp only
    rw [if_pos (show (4 : Int32) ≤ nI 4 by decide), rt_some, nx_r]
    rfl
theorem m_firstVotes (o : Ok d C) (h : MI d C w) {x : Nat} (hx : x < 10) (hu : (d 0 1).testBit x = true) : Rt (f_X12_firstVotes (nI x) w) (fun p => p.1 = nI (fvo d C x) ∧ ZQ d C w p.2) := by
  have p10 := pow10 o.1.1
  have hul := o.1.2.1
  have pl := pc_le (d 0 1)
  unfold f_X12_firstVotes
  rw [rt_bind]
  refine Rt.mono (rt_for (Q := fun p => p.1 = nI (fvo d C x) ∧ ZQ d C w p.2) (fun i t => t.1 = nI (fb_sm (fun s => if plc d C s x = 0 then d 5 s else 0) i) ∧ t.2.1 = nI i ∧ ZQ d C w t.2.2) 4 ?_ ?_ ⟨rfl, rfl, ZQ.rf h⟩ (by decide)) (fun p hp => by rw [rt_some]; exact hp)
  · rintro i ⟨a, c, w1⟩ hi ⟨h1, h2, hq⟩
    dsimp only at h1 h2 hq
    subst h1 h2
    unfold l_X12_firstVotes_4
    dsimp only
    rw [if_neg (show ¬ (4 : Int32) ≤ nI i from nI_ge (b := 4) hi (by decide)), rt_onL, rt_bind]
    refine ⟨hq.2.1, (m_behind o hq.2 hx hi).mono ?_⟩
    rintro ⟨a, w2⟩ ⟨e2, q2⟩
    dsimp only at e2 q2 ⊢
    subst e2
    have hpb := pl_bh (C := C) (s := i) hx hu
    rw [rt_onL, q2.2.U, m_sizeOf (by omega), Option.bind_some, show (1 : Int32) = nI 1 from rfl, pk_sub (by omega), if_pos (inb_nI hi (by decide)), ix_nI (by omega), q2.2.P hi]
    refine ⟨q2.2.1, ?_⟩
    have hp0 := pl_0 (C := C) (s := i) hx hu
    by_cases c0 : plc d C i x = 0
    · rw [if_pos (by rw [hp0.mp c0]), Option.bind_some, rt_some, nx_l]
      refine ⟨?_, nI_1 i, hq.tr q2⟩
      rw [fb_sm_succ, if_pos c0, ← nI_add]
    · rw [if_neg (fun z => c0 (hp0.mpr ((nI_eq (by omega) (by omega)).mp z))), Option.bind_some, rt_some, nx_l]
      refine ⟨?_, nI_1 i, hq.tr q2⟩
      rw [fb_sm_succ, if_neg c0, ← nI_add]
      rfl
  · rintro ⟨a, c, w1⟩ ⟨h1, h2, hq⟩
    dsimp only at h1 h2 hq
    subst h1 h2
    unfold l_X12_firstVotes_4
    dsimp only
    rw [if_pos (show (4 : Int32) ≤ nI 4 by decide), rt_some, nx_r]
    exact ⟨rfl, hq⟩
theorem m_aheadVotes (o : Ok d C) (h : MI d C w) {x v : Nat} (hx : x < 10) (hv : v < 10) : Rt (f_X12_aheadVotes (nI x) (nI v) w) (fun p => p.1 = nI (av d C x v) ∧ ZQ d C w p.2) := by
  unfold f_X12_aheadVotes
  rw [rt_bind]
  refine Rt.mono (rt_for (Q := fun p => p.1 = nI (av d C x v) ∧ ZQ d C w p.2) (fun i t => t.1 = nI (fb_sm (fun s => if ahB d C s x v = true then d 5 s else 0) i) ∧ t.2.1 = nI i ∧ ZQ d C w t.2.2) 4 ?_ ?_ ⟨rfl, rfl, ZQ.rf h⟩ (by decide)) (fun p hp => by rw [rt_some]; exact hp)
  · rintro i ⟨a, c, w1⟩ hi ⟨h1, h2, hq⟩
    dsimp only at h1 h2 hq
    subst h1 h2
    unfold l_X12_aheadVotes_5
    dsimp only
    rw [if_neg (show ¬ (4 : Int32) ≤ nI i from nI_ge (b := 4) hi (by decide)), rt_onL, rt_bind]
    refine ⟨hq.2.1, (m_isAhead o hq.2 hx hv hi).mono ?_⟩
    rintro ⟨a, w2⟩ ⟨e2, q2⟩
    dsimp only at e2 q2 ⊢
    subst e2
    rw [onL_pos _ q2.2.1, if_pos (inb_nI hi (by decide)), ix_nI (by omega), q2.2.P hi]
    cases c0 : ahB d C i x v with
    | true =>
      rw [if_neg (by decide), Option.bind_some, rt_some, nx_l]
      refine ⟨?_, nI_1 i, hq.tr q2⟩
      rw [fb_sm_succ, if_pos c0, ← nI_add]
    | false =>
      rw [if_pos (by rfl), Option.bind_some, rt_some, nx_l]
      refine ⟨?_, nI_1 i, hq.tr q2⟩
      rw [fb_sm_succ, if_neg (by rw [c0]; decide), ← nI_add]
      rfl
  · rintro ⟨a, c, w1⟩ ⟨h1, h2, hq⟩
    dsimp only at h1 h2 hq
    subst h1 h2
    unfold l_X12_aheadVotes_5
    dsimp only
    rw [if_pos (show (4 : Int32) ≤ nI 4 by decide), rt_some, nx_r]
    exact ⟨rfl, hq⟩
theorem oI_eq {ex : Option Nat} (h : ∀ v, ex = some v → v < 10) {i : Nat} (hi : i < 10) : nI i = oI ex ↔ ex = some i := by
  cases ex with
  | none => exact ⟨fun z => absurd z (nm1 (by omega)), fun z => by cases z⟩
  | some v =>
    have := h v rfl
    show nI i = nI v ↔ _
    rw [nI_eq (by omega) (by omega)]
    exact ⟨fun z => by rw [z], fun z => by injection z with z; exact z.symm⟩
theorem m_firstOf (o : Ok d C) (h : MI d C w) {ex : Option Nat} (hex : ∀ v, ex = some v → v < 10) : Rt (f_X12_firstOf (oI ex) w) (fun p => p.1 = oI (fm d C ex) ∧ ZQ d C w p.2) := by
  have p10 := pow10 o.1.1
  have o1 := o.1.1
  have hu := o.1.2.1
  have hx : fm d C ex = amin (fun v => (d 0 1).testBit v && !decide (ex = some v)) (fun v => -(fvo d C v : Int)) (d 0 0) := amin_ext o1 (fun i h1 h2 => by rw [tb_small hu h1]; rfl)
  rw [hx]
  unfold f_X12_firstOf
  rw [rt_bind]
  refine Rt.mono (rt_for (Q := fun p => p.1 = oI (amin (fun v => (d 0 1).testBit v && !decide (ex = some v)) (fun v => -(fvo d C v : Int)) (d 0 0)) ∧ ZQ d C w p.2) (fun i t => t.1 = oI (amin (fun v => (d 0 1).testBit v && !decide (ex = some v)) (fun v => -(fvo d C v : Int)) i) ∧ t.2.1 = nI i ∧ ZQ d C w t.2.2) (d 0 0) ?_ ?_ ⟨rfl, rfl, ZQ.rf h⟩ (by omega)) (fun p hp => by rw [rt_some]; exact hp)
  · rintro i ⟨a, c, w1⟩ hi ⟨h1, h2, hq⟩
    dsimp only at h1 h2 hq
    subst h1 h2
    unfold l_X12_firstOf_4
    dsimp only
    rw [rt_onL, hq.2.N, hq.2.U, if_neg (nI_ge hi (by omega)), has_N (by omega) (by omega)]
    refine ⟨hq.2.1, ?_⟩
    simp only [bI_0]
    by_cases c1 : (d 0 1).testBit i = true
    · rw [if_neg (by rw [c1]; decide)]
      by_cases c2 : ex = some i
      · rw [if_pos ((oI_eq hex (by omega)).mpr c2), Option.bind_some, rt_some, nx_l]
        dsimp only
        rw [amin_n (by simp [c2])]
        exact ⟨rfl, nI_1 i, hq⟩
      · have hp : (fun v => (d 0 1).testBit v && !decide (ex = some v)) i = true := by simp [c1, c2]
        rw [if_neg (fun z => c2 ((oI_eq hex (by omega)).mp z))]
        cases e : amin (fun v => (d 0 1).testBit v && !decide (ex = some v)) (fun v => -(fvo d C v : Int)) i with
        | none =>
          rw [if_pos (by rfl)]
          simp only [mg, Option.bind_some]
          rw [rt_some, nx_l]
          dsimp only
          rw [amin_0 (p := fun v => (d 0 1).testBit v && !decide (ex = some v)) hp e]
          exact ⟨rfl, nI_1 i, hq⟩
        | some b =>
          obtain ⟨hb1, hb2, -⟩ := amin_some e
          simp at hb2
          rw [show oI (some b) = nI b from rfl, if_neg (nm1 (by omega)), rt_bind, rt_mg, rt_bind]
          refine (m_firstVotes o hq.2 (by omega) c1).mono ?_
          rintro ⟨v, w2⟩ ⟨e2, q2⟩
          dsimp only at e2 q2 ⊢
          subst e2
          rw [rt_onL, rt_bind]
          refine ⟨q2.2.1, (m_firstVotes o q2.2 (by omega) hb2.1).mono ?_⟩
          rintro ⟨v, w3⟩ ⟨e3, q3⟩
          dsimp only at e3 q3 ⊢
          subst e3
          have v1 := fvo_le o.2.1 C i
          have v2 := fvo_le o.2.1 C b
          by_cases c3 : fvo d C i ≤ fvo d C b
          · rw [if_pos (nI_le c3 (by omega)), rt_some]
            dsimp only
            rw [rt_some, nx_l]
            dsimp only
            rw [amin_k e (by omega)]
            exact ⟨rfl, nI_1 i, hq.tr (q2.tr q3)⟩
          · rw [if_neg (nI_ge (by omega) (by omega)), rt_some]
            dsimp only
            rw [rt_some, rt_some, nx_l]
            dsimp only
            rw [amin_l (p := fun v => (d 0 1).testBit v && !decide (ex = some v)) hp e (by omega)]
            exact ⟨rfl, nI_1 i, hq.tr (q2.tr q3)⟩
    · rw [if_pos (bool_f c1), Option.bind_some, rt_some, nx_l]
      dsimp only
      rw [amin_n (by simp [bool_f c1])]
      exact ⟨rfl, nI_1 i, hq⟩
  · rintro ⟨a, c, w1⟩ ⟨h1, h2, hq⟩
    dsimp only at h1 h2 hq
    subst h1 h2
    unfold l_X12_firstOf_4
    dsimp only
    rw [rt_onL, hq.2.N, if_pos (nI_le (Nat.le_refl _) (by omega)), rt_some, nx_r]
    exact ⟨hq.2.1, rfl, hq⟩
/-- the most so far, of ints; 0 or -1 ahead of the first -/
def li (z : Int32) (V : Nat → Nat) : Option Nat → Int32
  | none => z
  | some b => nI (V b)
theorem m_byPoints (o : Ok d C) (h : MI d C w) : Rt (f_X12_byPoints w) (fun p => p.1 = oI (pm d C) ∧ ZQ d C w p.2) := by
  have p10 := pow10 o.1.1
  have o1 := o.1.1
  have hu := o.1.2.1
  have hx : pm d C = amin (d 0 1).testBit (fun v => -(pt d C v : Int)) (d 0 0) := amin_ext o1 (fun i h1 h2 => tb_small hu h1)
  rw [hx]
  unfold f_X12_byPoints
  rw [rt_bind]
  refine Rt.mono (rt_for (Q := fun p => p.1 = oI (amin (d 0 1).testBit (fun v => -(pt d C v : Int)) (d 0 0)) ∧ ZQ d C w p.2) (fun i t => t.1 = oI (amin (d 0 1).testBit (fun v => -(pt d C v : Int)) i) ∧ t.2.1 = li 0 (pt d C) (amin (d 0 1).testBit (fun v => -(pt d C v : Int)) i) ∧ t.2.2.1 = nI i ∧ ZQ d C w t.2.2.2) (d 0 0) ?_ ?_ ⟨rfl, rfl, rfl, ZQ.rf h⟩ (by omega)) (fun p hp => by rw [rt_some]; exact hp)
  · rintro i ⟨a, l, c, w1⟩ hi ⟨h1, h2, h3, hq⟩
    dsimp only at h1 h2 h3 hq
    subst h1 h2 h3
    unfold l_X12_byPoints_6
    dsimp only
    rw [rt_onL, hq.2.N, hq.2.U, if_neg (nI_ge hi (by omega)), has_N (by omega) (by omega)]
    refine ⟨hq.2.1, ?_⟩
    simp only [bI_0]
    by_cases c1 : (d 0 1).testBit i = true
    · rw [if_neg (by rw [c1]; decide)]
      simp only [rt_bind]
      refine Rt.mono (rt_for (Q := fun p => p.1 = nI (pt d C i) ∧ ZQ d C w1 p.2) (fun k t => t.1 = nI (fb_sm (fun s => d 5 s * bhd d C s i) k) ∧ t.2.1 = nI k ∧ ZQ d C w1 t.2.2) 4 ?_ ?_ ⟨rfl, rfl, ZQ.rf hq.2⟩ (by decide)) ?_
      · rintro k ⟨a, c, w2⟩ hk ⟨h1, h2, hq2⟩
        dsimp only at h1 h2 hq2
        subst h1 h2
        unfold l_X12_byPoints_34
        dsimp only
        rw [if_neg (show ¬ (4 : Int32) ≤ nI k from nI_ge (b := 4) hk (by decide)), rt_onL, if_pos (inb_nI hk (by decide)), ix_nI (by omega), hq2.2.P hk, rt_bind]
        refine ⟨hq2.2.1, (m_behind o hq2.2 (by omega) hk).mono ?_⟩
        rintro ⟨v, w3⟩ ⟨e3, q3⟩
        dsimp only at e3 q3 ⊢
        subst e3
        rw [rt_some, nx_l, pk_mul, nI_add]
        exact ⟨rfl, nI_1 k, hq2.tr q3⟩
      · rintro ⟨a, c, w2⟩ ⟨h1, h2, hq2⟩
        dsimp only at h1 h2 hq2
        subst h1 h2
        unfold l_X12_byPoints_34
        dsimp only
        rw [if_pos (show (4 : Int32) ≤ nI 4 by decide), rt_some, nx_r]
        exact ⟨rfl, hq2⟩
      · rintro ⟨v, w2⟩ ⟨e2, q2⟩
        dsimp only at e2 q2 ⊢
        subst e2
        cases e : amin (d 0 1).testBit (fun v => -(pt d C v : Int)) i with
        | none =>
          rw [if_pos (by rfl)]
          simp only [mg]
          rw [rt_some, rt_some, nx_l]
          dsimp only
          rw [amin_0 c1 e]
          exact ⟨rfl, rfl, nI_1 i, hq.tr q2⟩
        | some b =>
          obtain ⟨hb1, hb2, -⟩ := amin_some e
          have v1 := pt_le o.2.1 C i
          have v2 := pt_le o.2.1 C b
          rw [show oI (some b) = nI b from rfl, if_neg (nm1 (by omega)), show li 0 (pt d C) (some b) = nI (pt d C b) from rfl]
          by_cases c3 : pt d C b < pt d C i
          · rw [if_pos (nI_lt c3 (by omega))]
            simp only [mg]
            rw [rt_some, rt_some, nx_l]
            dsimp only
            rw [amin_l c1 e (by omega)]
            exact ⟨rfl, rfl, nI_1 i, hq.tr q2⟩
          · rw [if_neg (nI_nlt (by omega) (by omega))]
            simp only [mg]
            rw [rt_some, rt_some, nx_l]
            dsimp only
            rw [amin_k e (by omega)]
            exact ⟨rfl, rfl, nI_1 i, hq.tr q2⟩
    · rw [if_pos (bool_f c1), Option.bind_some, rt_some, nx_l]
      dsimp only
      rw [amin_n (bool_f c1)]
      exact ⟨rfl, rfl, nI_1 i, hq⟩
  · rintro ⟨a, l, c, w1⟩ ⟨h1, h2, h3, hq⟩
    dsimp only at h1 h2 h3 hq
    subst h1 h2 h3
    unfold l_X12_byPoints_6
    dsimp only
    rw [rt_onL, hq.2.N, if_pos (nI_le (Nat.le_refl _) (by omega)), rt_some, nx_r]
    exact ⟨hq.2.1, rfl, hq⟩
/-- the first that wins, or none -/
def fw (W : Nat → Prop) (o : Option Nat) : Prop := (o = none ∧ ∀ v, v < 10 → ¬ W v) ∨ ∃ v, v < 10 ∧ o = some v ∧ W v ∧ ∀ x, x < v → ¬ W x
theorem fw_uniq {W : Nat → Prop} {o o' : Option Nat} (h : fw W o) (h' : fw W o') : o = o' := by
  rcases h with ⟨e, h⟩ | ⟨v, hv, e, h1, h2⟩
  · rcases h' with ⟨e', h'⟩ | ⟨v', hv', e', h1', h2'⟩
    · rw [e, e']
    · exact absurd h1' (h v' hv')
  · rcases h' with ⟨e', h'⟩ | ⟨v', hv', e', h1', h2'⟩
    · exact absurd h1 (h' v hv)
    · rw [e, e']
      rcases Nat.lt_trichotomy v v' with q | q | q
      · exact absurd h1 (h2' v q)
      · rw [q]
      · exact absurd h1' (h2 v' q)
theorem m_wins (o : Ok d C) (h : MI d C w) {x : Nat} (hx : x < 10) : Rt (wh (l_X12_aheadOfAll_28 (nI x)) FUEL ((1 : Int32), (0 : Int32), w)) (fun p => ∃ b, p.1 = bI b ∧ (b = true ↔ ∀ v, v < 10 → v ≠ x → (d 0 1).testBit v = true → vt d < 2 * av d C x v) ∧ ZQ d C w p.2) := by
  have p10 := pow10 o.1.1
  have o1 := o.1.1
  have hu := o.1.2.1
  have vl := vt_le o.2.1
  refine rt_for (fun i t => t.2.1 = nI i ∧ (∃ b, t.1 = bI b ∧ (b = true ↔ ∀ v, v < i → v ≠ x → (d 0 1).testBit v = true → vt d < 2 * av d C x v)) ∧ ZQ d C w t.2.2) (d 0 0) ?_ ?_ ⟨rfl, ⟨true, rfl, ⟨fun _ v hv => absurd hv (Nat.not_lt_zero v), fun _ => rfl⟩⟩, ZQ.rf h⟩ (by omega)
  · rintro i ⟨a, c, w1⟩ hi ⟨h1, ⟨b, h2, hb⟩, hq⟩
    dsimp only at h1 h2 hq
    subst h1 h2
    unfold l_X12_aheadOfAll_28
    dsimp only
    rw [rt_onL, hq.2.N, hq.2.U, if_neg (nI_ge hi (by omega)), has_N (by omega) (by omega)]
    refine ⟨hq.2.1, ?_⟩
    simp only [bI_0]
    cases b with
    | false =>
      rw [if_pos (by rfl)]
      simp only [mg, Option.bind_some]
      rw [rt_some, nx_l]
      refine ⟨nI_1 i, ⟨false, rfl, ⟨fun z => (by cases z), fun z => ?_⟩⟩, hq⟩
      exact hb.mpr (fun v hv => z v (by omega))
    | true =>
      rw [if_neg (by decide)]
      have hgo : ∀ w2, ZQ d C w w2 → (i ≠ x → (d 0 1).testBit i = true → vt d < 2 * av d C x i) → Nx (fun t : Int32 × Int32 × Mm => t.2.1 = nI (i + 1) ∧ (∃ b, t.1 = bI b ∧ (b = true ↔ ∀ v, v < i + 1 → v ≠ x → (d 0 1).testBit v = true → vt d < 2 * av d C x v)) ∧ ZQ d C w t.2.2) (fun p : Int32 × Mm => ∃ b, p.1 = bI b ∧ (b = true ↔ ∀ v, v < 10 → v ≠ x → (d 0 1).testBit v = true → vt d < 2 * av d C x v) ∧ ZQ d C w p.2) (.inl ((1 : Int32), nI i + (1 : Int32), w2)) := fun w2 q2 hz => by
        rw [nx_l]
        refine ⟨nI_1 i, ⟨true, rfl, ⟨fun _ v hv h1 h2 => ?_, fun _ => rfl⟩⟩, q2⟩
        by_cases e : v = i
        · subst e; exact hz h1 h2
        · exact hb.mp rfl v (by omega) h1 h2
      by_cases c1 : i = x
      · subst c1
        rw [if_pos rfl]
        simp only [mg, Option.bind_some]
        rw [rt_some]
        exact hgo w1 hq (fun z => absurd rfl z)
      · rw [if_neg (fun z => c1 ((nI_eq (by omega) (by omega)).mp z))]
        by_cases c2 : (d 0 1).testBit i = true
        · rw [if_neg (by rw [c2]; decide), rt_bind, rt_mg, rt_mg, rt_bind]
          refine (m_aheadVotes o hq.2 hx (by omega)).mono ?_
          rintro ⟨v, w2⟩ ⟨e2, q2⟩
          dsimp only at e2 q2 ⊢
          subst e2
          have v1 := av_le o.2.1 C x i
          rw [rt_onL, m_voters o q2.2, Option.bind_some, show (2 : Int32) = nI 2 from rfl, pk_mul]
          refine ⟨q2.2.1, ?_⟩
          by_cases c3 : 2 * av d C x i ≤ vt d
          · rw [if_pos (nI_le c3 (by omega)), rt_some]
            dsimp only
            rw [rt_some, rt_some, nx_l]
            refine ⟨nI_1 i, ⟨false, rfl, ⟨fun z => (by cases z), fun z => ?_⟩⟩, hq.tr q2⟩
            have := z i (by omega) c1 c2
            omega
          · rw [if_neg (nI_ge (by omega) (by omega)), rt_some]
            dsimp only
            rw [rt_some]
            dsimp only
            rw [rt_some]
            exact hgo w2 (hq.tr q2) (fun _ _ => by omega)
        · rw [if_pos (bool_f c2)]
          simp only [mg, Option.bind_some]
          rw [rt_some]
          exact hgo w1 hq (fun _ z => absurd z c2)
  · rintro ⟨a, c, w1⟩ ⟨h1, ⟨b, h2, hb⟩, hq⟩
    dsimp only at h1 h2 hq
    subst h1 h2
    unfold l_X12_aheadOfAll_28
    dsimp only
    rw [rt_onL, hq.2.N, if_pos (nI_le (Nat.le_refl _) (by omega)), rt_some, nx_r]
    refine ⟨hq.2.1, b, rfl, ⟨fun z v hv h1 h2 => hb.mp z v (tb_lt hu h2) h1 h2, fun z => hb.mpr (fun v hv => z v (by omega))⟩, hq⟩
theorem m_aheadOfAll (o : Ok d C) (h : MI d C w) : Rt (f_X12_aheadOfAll w) (fun p => ∃ r, fw (wn d C) r ∧ p.1 = oI r ∧ ZQ d C w p.2) := by
  have p10 := pow10 o.1.1
  have o1 := o.1.1
  have hu := o.1.2.1
  unfold f_X12_aheadOfAll
  rw [rt_bind]
  refine Rt.mono (rt_for (Q := fun p => (p.1 = 0 ∧ (∀ v, v < d 0 0 → ¬ wn d C v) ∧ ZQ d C w p.2.2) ∨ (p.1 = 1 ∧ ∃ v, v < 10 ∧ p.2.1 = nI v ∧ wn d C v ∧ (∀ x, x < v → ¬ wn d C x) ∧ ZQ d C w p.2.2)) (fun i t => t.1 = nI i ∧ (∀ v, v < i → ¬ wn d C v) ∧ ZQ d C w t.2) (d 0 0) ?_ ?_ ⟨rfl, fun v hv => absurd hv (Nat.not_lt_zero v), ZQ.rf h⟩ (by omega)) ?_
  · rintro i ⟨c, w1⟩ hi ⟨h1, hno, hq⟩
    dsimp only at h1 hno hq
    subst h1
    unfold l_X12_aheadOfAll_2
    dsimp only
    rw [rt_onL, hq.2.N, hq.2.U, if_neg (nI_ge hi (by omega)), has_N (by omega) (by omega)]
    refine ⟨hq.2.1, ?_⟩
    simp only [bI_0]
    have hnext : ∀ w2, ZQ d C w w2 → ¬ wn d C i → (nI i + 1 = nI (i + 1) ∧ (∀ v, v < i + 1 → ¬ wn d C v) ∧ ZQ d C w w2) := fun w2 q2 hz => ⟨nI_1 i, fun v hv => by
      by_cases e : v = i
      · subst e; exact hz
      · exact hno v (by omega), q2⟩
    by_cases c1 : (d 0 1).testBit i = true
    · rw [if_neg (by rw [c1]; decide), rt_mg, rt_bind]
      refine (m_wins o hq.2 (by omega)).mono ?_
      rintro ⟨a, w2⟩ ⟨b, e2, hb, q2⟩
      dsimp only at e2 hb q2 ⊢
      subst e2
      cases b with
      | false =>
        rw [if_pos (by rfl), rt_some]
        dsimp only
        rw [rt_some, nx_l]
        exact hnext w2 (hq.tr q2) (fun z => by have := hb.mpr z.2; cases this)
      | true =>
        rw [if_neg (by decide), rt_some]
        dsimp only
        rw [nx_r]
        exact Or.inr ⟨rfl, i, by omega, rfl, ⟨c1, hb.mp rfl⟩, hno, hq.tr q2⟩
    · rw [if_pos (bool_f c1)]
      simp only [mg]
      rw [rt_some, nx_l]
      exact hnext w1 hq (fun z => c1 z.1)
  · rintro ⟨c, w1⟩ ⟨h1, hno, hq⟩
    dsimp only at h1 hno hq
    subst h1
    unfold l_X12_aheadOfAll_2
    dsimp only
    rw [rt_onL, hq.2.N, if_pos (nI_le (Nat.le_refl _) (by omega)), rt_some, nx_r]
    exact ⟨hq.2.1, Or.inl ⟨rfl, hno, hq⟩⟩
  · rintro ⟨f, v, w1⟩ hp
    dsimp only at hp ⊢
    rcases hp with ⟨e, hno, q⟩ | ⟨e, x, hx, e2, h1, h2, q⟩
    · subst e
      rw [if_pos rfl, rt_some]
      refine ⟨none, Or.inl ⟨rfl, fun v hv z => ?_⟩, rfl, q⟩
      exact hno v (tb_lt hu z.1) z
    · subst e
      rw [if_neg (by decide), rt_some]
      exact ⟨some x, Or.inr ⟨x, hx, rfl, h1, h2⟩, e2, q⟩
end MVote
