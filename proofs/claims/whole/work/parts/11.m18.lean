/-! TALK, MUSTS, COSTS, THE LEAST -/
def lz (V : Nat → Nat) : Option Nat → Int64
  | none => 0
  | some b => lN (V b)
section Am
variable {V : Nat → Nat} {p : Nat → Bool} {i : Nat}
theorem am_y (hV : ∀ j, j ≤ i → p j = true → V j < 2 ^ 31) (hi : i < 2 ^ 31) (hp : p i = true) {α : Type} (w : α) : mg (if oI (amin p (fun i => (V i : Int)) i) = (-1 : Int32) then some (.inl ()) else if lz V (amin p (fun i => (V i : Int)) i) ≤ lN (V i) then some (.inr (oI (amin p (fun i => (V i : Int)) i), lz V (amin p (fun i => (V i : Int)) i), w)) else some (.inl ())) (fun _ : Unit => some (nI i, lN (V i), w)) = some (oI (amin p (fun i => (V i : Int)) (i + 1)), lz V (amin p (fun i => (V i : Int)) (i + 1)), w) := by
  cases e : amin p (fun i => (V i : Int)) i with
  | none => rw [if_pos (by rfl), amin_0 hp e]; rfl
  | some b =>
    obtain ⟨h1, h2, -⟩ := amin_some e
    have v1 := hV b (by omega) h2
    have v2 := hV i (by omega) hp
    rw [if_neg (show ¬ oI (some b) = -1 from nm1 (by omega)), show lz V (some b) = lN (V b) from rfl]
    by_cases c : V b ≤ V i
    · rw [if_pos ((lN_le v1 v2).mpr c), amin_k e (by omega)]; rfl
    · rw [if_neg (fun z => c ((lN_le v1 v2).mp z)), amin_l hp e (by omega)]; rfl
theorem am_m (hV : ∀ j, j ≤ i → p j = true → V j < 2 ^ 31) (hi : i < 2 ^ 31) (hp : p i = true) {α : Type} (w : α) : mg (if oI (amin p (fun i => (V i : Int)) i) = (-1 : Int32) then some (.inl ()) else if lN (V i) < lz V (amin p (fun i => (V i : Int)) i) then some (.inl ()) else some (.inr (oI (amin p (fun i => (V i : Int)) i), lz V (amin p (fun i => (V i : Int)) i), w))) (fun _ : Unit => some (nI i, lN (V i), w)) = some (oI (amin p (fun i => (V i : Int)) (i + 1)), lz V (amin p (fun i => (V i : Int)) (i + 1)), w) := by
  cases e : amin p (fun i => (V i : Int)) i with
  | none => rw [if_pos (by rfl), amin_0 hp e]; rfl
  | some b =>
    obtain ⟨h1, h2, -⟩ := amin_some e
    have v1 := hV b (by omega) h2
    have v2 := hV i (by omega) hp
    rw [if_neg (show ¬ oI (some b) = -1 from nm1 (by omega)), show lz V (some b) = lN (V b) from rfl]
    by_cases c : V i < V b
    · rw [if_pos ((lN_lt v2 v1).mpr c), amin_l hp e (by omega)]; rfl
    · rw [if_neg (fun z => c ((lN_lt v2 v1).mp z)), amin_k e (by omega)]; rfl
end Am
/-- THE LEAST of a TONGUE -/
noncomputable def lst (d : Dt) (C : Ct) (t : Nat) : Option Nat := amin t.testBit (fun i => (tkA d C (wo t i) : Int)) 10
section Ops2
variable {d : Dt} {C : Ct} {w : Mm}
theorem x9_missed (o : Ok d C) (hst : d 0 7 < 2 ^ 31) (h : KI d C w) {t : Nat} (ht : t < 2 ^ d 0 0) : Rt (f_X9_missed (nI t) w) (fun p => p.1 = nI (mu d C t) ∧ KQ d C w p.2) := by
  have o3 := o.2.1.1
  unfold f_X9_missed
  rw [rt_bind]
  refine (x_sp o h ht).mono ?_
  rintro ⟨a, w1⟩ ⟨q1, hA, hs, hL, -⟩
  dsimp only at q1 hA hs hL ⊢
  rw [rt_bind]
  refine Rt.mono (rt_for (Q := fun p => p.1 = nI (mu d C t) ∧ KQ d C w p.2) (fun i s => s.1 = nI (muR d C t i) ∧ s.2.1 = nI i ∧ KQ d C w s.2.2 ∧ Act d C (BF d t) t a s.2.2) (d 0 3) ?_ ?_ ⟨rfl, rfl, q1, hA⟩ (by omega)) (fun p hp => by rw [rt_some]; exact hp)
  · rintro i ⟨v, c, w2⟩ hi ⟨h1, h2, hq, hA2⟩
    dsimp only at h1 h2 hq hA2
    subst h1 h2
    have hi24 : i < 24 := by omega
    obtain ⟨hL2, -, d2, -⟩ := id hq.1
    have hr := o.2.1.2.2.2 i hi24
    obtain ⟨r6, r7, r8, r9⟩ := d2.2.2.2 i hi24
    unfold l_X9_missed_11
    dsimp only
    rw [rt_onL, d2.1, if_neg (nI_ge hi (by omega)), if_neg (show ¬ (24 : Int32) ≤ nI i from nI_ge (b := 24) hi24 (by decide)), if_pos (inb_nI hi24 (by decide)), ix_nI (by omega), r7, r9]
    refine ⟨hL2, ?_⟩
    have hstep : muR d C t (i + 1) = muR d C t i ||| (if 0 < d 9 i ∧ d 9 i < enc 1000000 (pz d C t (d 7 i)).1 then 2 ^ i else 0) := rfl
    by_cases q9 : d 9 i = 0
    · rw [q9, if_pos (by decide), Option.bind_some, rt_some, nx_l]
      rw [if_neg (by omega), Nat.or_zero] at hstep
      exact ⟨by rw [hstep], nI_1 i, hq, hA2⟩
    · rw [if_neg (nI_nle (by omega) (by omega)), if_pos (hA2.sp hq.1).1]
      simp only [rt_bind]
      refine (x9_priceA (B := BF d t) o hst (fun j b e => BF_le o.1 e) hq.1 hA2 hr.2.1).mono ?_
      rintro ⟨v, w3⟩ ⟨e3, q3, A3⟩
      dsimp only at e3 q3 A3 ⊢
      subst e3
      rw [show sy C (BF d t) (d 7 i) 64 = pz d C t (d 7 i) from rfl]
      obtain ⟨hL3, -, d3, -⟩ := id q3.1
      have hsy1 : ∀ v, (pz d C t (d 7 i)).1 = some v → v ≤ 4000 := fun v e => sy_le (fun j b e => BF_le o.1 e) o.2.2.1 64 v e
      have hsy2 : (pz d C t (d 7 i)).2 < 64 := sy_by hr.2.1 64 (Nat.le_refl _)
      rw [onL_pos _ hL3, (d3.2.2.2 i hi24).2.2.2, sh1_N (by omega), fa_or]
      cases e : (pz d C t (d 7 i)).1 with
      | none =>
        rw [e, enc_n, if_pos (by omega)] at hstep
        rw [if_pos ((prI_2 hsy1 hsy2).mpr e)]
        simp only [mg, rt_some, nx_l]
        exact ⟨by rw [hstep], nI_1 i, hq.tr q3, A3⟩
      | some v =>
        have hv := hsy1 v e
        rw [if_neg (fun z => by rw [(prI_2 hsy1 hsy2).mp z] at e; cases e), (prI_s hv hsy2 e).1]
        rw [e, enc_s] at hstep
        by_cases c : v ≤ d 9 i
        · rw [if_pos (nI_le c (by omega))]
          rw [if_neg (by omega), Nat.or_zero] at hstep
          simp only [mg, rt_some, nx_l]
          exact ⟨by rw [hstep], nI_1 i, hq.tr q3, A3⟩
        · rw [if_neg (nI_ge (by omega) (by omega))]
          rw [if_pos (by omega)] at hstep
          simp only [mg, rt_some, nx_l]
          exact ⟨by rw [hstep], nI_1 i, hq.tr q3, A3⟩
  · rintro ⟨v, c, w2⟩ ⟨h1, h2, hq, hA2⟩
    dsimp only at h1 h2 hq hA2
    subst h1 h2
    unfold l_X9_missed_11
    dsimp only
    rw [rt_onL, hq.1.2.2.1.1, if_pos (nI_le (Nat.le_refl _) (by omega)), rt_some, nx_r]
    exact ⟨hq.1.1, rfl, hq⟩
theorem ag_musts (o : Ok d C) (hst : d 0 7 < 2 ^ 31) (x1 : Int32) : Agree d C (f_X11_musts x1) (f_X12_musts x1) := by
  by_cases c1 : f_X11_within x1 0 (nI (2 ^ d 0 0 - 1)) = 0
  · refine ⟨-1, fun w h => ?_, fun w h => ?_⟩
    · unfold f_X11_musts
      rw [k_isTongue o.1 h.2.1, Option.bind_some, if_pos c1, rt_some]; exact ⟨rfl, KW.rf h⟩
    · unfold f_X12_musts
      rw [m_isTongue o.1 h.2.1, Option.bind_some, if_pos c1, rt_some]; exact ⟨rfl, ZW.rf h⟩
  obtain ⟨t, ht, rfl⟩ := tongue_of o.1 c1
  refine ⟨nI (mu d C t), fun w h => ?_, fun w h => ?_⟩
  · unfold f_X11_musts
    rw [k_isTongue o.1 h.2.1, Option.bind_some, if_neg c1, rt_bind]
    refine (x9_missed o hst h ht).mono ?_
    rintro p ⟨e, q⟩
    rw [rt_some]
    exact ⟨e, q.w⟩
  · unfold f_X12_musts
    rw [m_isTongue o.1 h.2.1, Option.bind_some, if_neg c1, rt_bind]
    refine (m_mustsOf o h ht).mono ?_
    rintro p ⟨e, q⟩
    rw [rt_some]
    exact ⟨e, ZQ.w q⟩
theorem within_m1 {x : Int32} (h : ¬ x = -1) (b : Int32) : f_X11_within x (-1) b = f_X11_within x 0 b := by
  unfold f_X11_within
  have : x < -1 ↔ x < 0 := by
    rw [fa_lt, fa_lt, show (-1 : Int32).toInt = -1 by decide, show (0 : Int32).toInt = 0 by decide]
    rw [fa_eq, show (-1 : Int32).toInt = -1 by decide] at h
    omega
  simp only [this]
theorem ag_talk (o : Ok d C) (hst : d 0 7 < 2 ^ 31) (x1 x2 : Int32) : Agree d C (f_X11_talk x1 x2) (f_X12_talk x1 x2) := by
  by_cases c1 : f_X11_within x1 0 (nI (2 ^ d 0 0 - 1)) = 0
  · refine ⟨-1, fun w h => ?_, fun w h => ?_⟩
    · unfold f_X11_talk
      rw [k_isTongue o.1 h.2.1, Option.bind_some, if_pos c1, rt_some]; exact ⟨rfl, KW.rf h⟩
    · unfold f_X12_talk
      rw [m_isTongue o.1 h.2.1, Option.bind_some, if_pos c1, rt_some]; exact ⟨rfl, ZW.rf h⟩
  obtain ⟨t, ht, rfl⟩ := tongue_of o.1 c1
  by_cases c0 : x2 = -1
  · subst c0
    refine ⟨lN (tkA d C t), fun w h => ?_, fun w h => ?_⟩
    · unfold f_X11_talk
      rw [k_isTongue o.1 h.2.1, Option.bind_some, if_neg c1, if_neg (by decide)]
      exact x_tk o hst h ht (fun w' q => by rw [rt_some]; exact ⟨rfl, q.w⟩)
    · unfold f_X12_talk
      rw [m_isTongue o.1 h.2.1, Option.bind_some, if_neg c1, if_pos rfl]
      simp only [mg, if_true]
      rw [rt_bind]
      refine (m_talkOf o h ht).mono ?_
      rintro p ⟨e, q, m, -⟩
      rw [rt_some]
      exact ⟨e, q.q, m⟩
  by_cases c2 : f_X11_within x2 0 3 = 0
  · refine ⟨-1, fun w h => ?_, fun w h => ?_⟩
    · unfold f_X11_talk
      rw [k_isTongue o.1 h.2.1, Option.bind_some, if_neg c1, within_m1 c0, if_pos c2, rt_some]; exact ⟨rfl, KW.rf h⟩
    · unfold f_X12_talk
      rw [m_isTongue o.1 h.2.1, Option.bind_some, if_neg c1, if_neg c0, m_isSort, if_pos c2]
      simp only [mg]
      rw [rt_some]; exact ⟨rfl, ZW.rf h⟩
  obtain ⟨s, -, hs, rfl⟩ := within_c 0 3 (by decide) (by decide) c2
  refine ⟨lN (tk d C t s), fun w h => ?_, fun w h => ?_⟩
  · unfold f_X11_talk
    rw [k_isTongue o.1 h.2.1, Option.bind_some, if_neg c1, within_m1 c0, if_neg c2]
    exact x_tkS o hst h (by omega) ht (fun w' q => by rw [rt_some]; exact ⟨rfl, q.w⟩)
  · unfold f_X12_talk
    rw [m_isTongue o.1 h.2.1, Option.bind_some, if_neg c1, if_neg c0, m_isSort, if_neg c2]
    simp only [mg]
    rw [if_neg c0, rt_bind]
    refine (m_talkBy o h ht (by omega)).mono ?_
    rintro p ⟨e, q, m, -⟩
    rw [rt_some]
    exact ⟨e, q.q, m⟩
theorem ag_costs (o : Ok d C) (hst : d 0 7 < 2 ^ 31) (x1 : Int32) : Agree d C (f_X11_costs x1) (f_X12_costs x1) := by
  have p10 := pow10 o.1.1
  have hu := o.1.2.1
  by_cases c1 : f_X11_contains (nI (d 0 1)) x1 = 0
  · refine ⟨-1000000000, fun w h => ?_, fun w h => ?_⟩
    · unfold f_X11_costs
      rw [h.U, if_pos c1, rt_some]; exact ⟨rfl, KW.rf h⟩
    · unfold f_X12_costs
      rw [m_isUsed o.1 h.2.1, Option.bind_some, if_pos c1, rt_some]; exact ⟨rfl, ZW.rf h⟩
  obtain ⟨i, hi, rfl, hb⟩ := contains_of (by omega) c1
  refine ⟨lN (tkA d C (wo (d 0 1) i)) - lN (tkA d C (d 0 1)), fun w h => ?_, fun w h => ?_⟩
  · unfold f_X11_costs
    rw [h.U, if_neg c1, without_N (by omega)]
    refine x_tk o hst h (wo_lt hu) (fun w' q => ?_)
    rw [rt_onL, q.1.U]
    refine ⟨q.1.1, x_tk o hst q.1 hu (fun w'' q' => ?_)⟩
    rw [rt_some]
    exact ⟨rfl, (q.tr q').w⟩
  · unfold f_X12_costs
    rw [m_isUsed o.1 h.2.1, Option.bind_some, if_neg c1, h.U, wo_N (by omega), rt_bind]
    refine (m_talkOf o h (wo_lt hu)).mono ?_
    rintro ⟨v, w1⟩ ⟨e, q, m, -⟩
    dsimp only at e q m ⊢
    subst e
    rw [rt_onL, m.U, rt_bind]
    refine ⟨m.1, (m_talkOf o m hu).mono ?_⟩
    rintro ⟨v, w2⟩ ⟨e, q2, m2, -⟩
    dsimp only at e q2 m2 ⊢
    subst e
    rw [rt_some]
    exact ⟨rfl, (q.tr q2).q, m2⟩
theorem x10_cheapest (o : Ok d C) (hst : d 0 7 < 2 ^ 31) (h : KI d C w) {t : Nat} (ht : t < 2 ^ d 0 0) : Rt (f_X10_cheapest (nI t) w) (fun p => p.1 = oI (lst d C t) ∧ KQ d C w p.2) := by
  have p10 := pow10 o.1.1
  unfold f_X10_cheapest lst
  rw [rt_bind]
  refine Rt.mono (rt_for (Q := fun p => p.1 = oI (amin t.testBit (fun i => (tkA d C (wo t i) : Int)) 10) ∧ KQ d C w p.2) (fun i s => s.1 = oI (amin t.testBit (fun i => (tkA d C (wo t i) : Int)) i) ∧ s.2.1 = lz (fun i => tkA d C (wo t i)) (amin t.testBit (fun i => (tkA d C (wo t i) : Int)) i) ∧ s.2.2.1 = nI i ∧ KQ d C w s.2.2.2) 10 ?_ ?_ ⟨rfl, rfl, rfl, KQ.rf h⟩ (by decide)) (fun p hp => by rw [rt_some]; exact hp)
  · rintro i ⟨b, l, c, w1⟩ hi ⟨h1, h2, h3, hq⟩
    dsimp only at h1 h2 h3 hq
    subst h1 h2 h3
    unfold l_X10_cheapest_7
    dsimp only
    rw [if_neg (show ¬ (10 : Int32) ≤ nI i from nI_ge (b := 10) hi (by decide)), contains_N (by omega) (by omega)]
    simp only [bI_0]
    by_cases p1 : t.testBit i = true
    · rw [if_neg (by rw [p1]; decide), without_N (by omega)]
      simp only [rt_bind, rt_onL]
      refine ⟨hq.1.1, ?_⟩
      rw [← rt_bind]
      refine x_tk o hst hq.1 (wo_lt ht) (fun w2 q2 => ?_)
      have hV := am_y (V := fun i => tkA d C (wo t i)) (p := t.testBit) (i := i) (fun j _ _ => Nat.lt_of_le_of_lt (tkA_le o.2.1) (by decide)) (by omega) p1 w2
      dsimp only at hV ⊢
      rw [hV, rt_some, rt_some, nx_l]
      exact ⟨rfl, rfl, nI_1 i, hq.tr q2⟩
    · rw [if_pos (bool_f p1), Option.bind_some, rt_some, nx_l]
      dsimp only
      rw [amin_n (bool_f p1)]
      exact ⟨rfl, rfl, nI_1 i, hq⟩
  · rintro ⟨b, l, c, w1⟩ ⟨h1, h2, h3, hq⟩
    dsimp only at h1 h2 h3 hq
    subst h1 h2 h3
    unfold l_X10_cheapest_7
    dsimp only
    rw [if_pos (show (10 : Int32) ≤ nI 10 by decide), rt_some, nx_r]
    exact ⟨rfl, hq⟩
theorem m_leastOf (o : Ok d C) (h : MI d C w) {t : Nat} (ht : t < 2 ^ d 0 0) : Rt (f_X12_leastOf (nI t) w) (fun p => p.1 = oI (lst d C t) ∧ ZQ d C w p.2) := by
  have p10 := pow10 o.1.1
  have o1 := o.1.1
  have hx : lst d C t = amin t.testBit (fun i => (tkA d C (wo t i) : Int)) (d 0 0) := amin_ext o.1.1 (fun i h1 h2 => tb_small ht h1)
  rw [hx]
  unfold f_X12_leastOf
  rw [rt_bind]
  refine Rt.mono (rt_for (Q := fun p => p.1 = oI (amin t.testBit (fun i => (tkA d C (wo t i) : Int)) (d 0 0)) ∧ ZQ d C w p.2) (fun i s => s.1 = oI (amin t.testBit (fun i => (tkA d C (wo t i) : Int)) i) ∧ s.2.1 = lz (fun i => tkA d C (wo t i)) (amin t.testBit (fun i => (tkA d C (wo t i) : Int)) i) ∧ s.2.2.1 = nI i ∧ ZQ d C w s.2.2.2) (d 0 0) ?_ ?_ ⟨rfl, rfl, rfl, ZQ.rf h⟩ (by omega)) (fun p hp => by rw [rt_some]; exact hp)
  · rintro i ⟨b, l, c, w1⟩ hi ⟨h1, h2, h3, hq⟩
    dsimp only at h1 h2 h3 hq
    subst h1 h2 h3
    unfold l_X12_leastOf_7
    dsimp only
    rw [rt_onL, hq.2.N, if_neg (nI_ge hi (by omega)), has_N (by omega) (by omega)]
    refine ⟨hq.2.1, ?_⟩
    simp only [bI_0]
    by_cases p1 : t.testBit i = true
    · rw [if_neg (by rw [p1]; decide), wo_N (by omega)]
      simp only [rt_bind]
      refine (m_talkOf o hq.2 (wo_lt ht)).mono ?_
      rintro ⟨v, w2⟩ ⟨e, q2, m2, -⟩
      dsimp only at e q2 m2 ⊢
      subst e
      have hV := am_m (V := fun i => tkA d C (wo t i)) (p := t.testBit) (i := i) (fun j _ _ => Nat.lt_of_le_of_lt (tkA_le o.2.1) (by decide)) (by omega) p1 w2
      rw [hV, rt_some, rt_some, nx_l]
      exact ⟨rfl, rfl, nI_1 i, hq.tr ⟨q2, m2⟩⟩
    · rw [if_pos (bool_f p1), Option.bind_some, rt_some, nx_l]
      dsimp only
      rw [amin_n (bool_f p1)]
      exact ⟨rfl, rfl, nI_1 i, hq⟩
  · rintro ⟨b, l, c, w1⟩ ⟨h1, h2, h3, hq⟩
    dsimp only at h1 h2 h3 hq
    subst h1 h2 h3
    unfold l_X12_leastOf_7
    dsimp only
    rw [rt_onL, hq.2.N, if_pos (nI_le (Nat.le_refl _) (by omega)), rt_some, nx_r]
    exact ⟨hq.2.1, rfl, hq⟩
theorem ag_least (o : Ok d C) (hst : d 0 7 < 2 ^ 31) : Agree d C f_X11_least f_X12_least := by
  have hu := o.1.2.1
  refine ⟨oI (lst d C (d 0 1)), fun w h => ?_, fun w h => ?_⟩
  · unfold f_X11_least
    rw [h.U, rt_bind]
    refine (x10_cheapest o hst h hu).mono ?_
    rintro p ⟨e, q⟩
    rw [rt_some]
    exact ⟨e, q.w⟩
  · unfold f_X12_least
    rw [h.U, rt_bind]
    refine (m_leastOf o h hu).mono ?_
    rintro p ⟨e, q⟩
    rw [rt_some]
    exact ⟨e, q.w⟩
end Ops2
