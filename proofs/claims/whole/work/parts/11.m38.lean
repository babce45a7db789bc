/-! FEWEST -/
def tls (d : Dt) (t : Nat) : Prop := ∀ i, i < 10 → (d 0 1).testBit i = true → d 1 i = 0 → t.testBit i = false → ∃ L, BF d t (d 2 i) = some L
def fk (t : Nat) : Nat := 1024 * pc t + t
section Few
variable {d : Dt} {C : Ct} {w : Mm} {t : Nat}
theorem mnt_at (o : Ok d C) {i : Nat} (hi : i < 10) : ¬ mnt d (nI i) = 0 ↔ (d 0 1).testBit i = true ∧ d 1 i = 0 := by
  have p10 := pow10 o.1.1
  have hu := o.1.2.1
  unfold mnt
  rw [contains_N (by omega) (by omega), ix_nI (by omega)]
  cases (d 0 1).testBit i with
  | false => simp [bI]
  | true =>
    by_cases c : d 1 i = 0
    · simp [c, bI]
    · simp [c, bI]
theorem x2_tellsAll (o : Ok d C) (h : KI d C w) (ht : t < 2 ^ d 0 0) : Rt (f_X2_tellsAll (nI t) w) (fun p => KQ d C w p.2 ∧ ∃ b, p.1 = bI b ∧ (b = true ↔ tls d t)) := by
  have p10 := pow10 o.1.1
  unfold f_X2_tellsAll
  rw [rt_bind]
  refine Rt.mono (rt_for (Q := fun p => KQ d C w p.2 ∧ ((p.1 = 0 ∧ tls d t) ∨ (p.1 = 1 ∧ ¬ tls d t))) (fun i s => s.1 = nI i ∧ KQ d C w s.2 ∧ ∀ j, j < i → (d 0 1).testBit j = true → d 1 j = 0 → t.testBit j = false → ∃ L, BF d t (d 2 j) = some L) 10 ?_ ?_ ⟨rfl, KQ.rf h, fun j hj => absurd hj (Nat.not_lt_zero j)⟩ (by decide)) ?_
  · rintro i ⟨c, w1⟩ hi ⟨h1, hq, hz⟩
    dsimp only at h1 hq hz
    subst h1
    have hm := (o.1.2.2.1 i hi).2.1
    unfold l_X2_tellsAll_2
    dsimp only
    rw [if_neg (show ¬ (10 : Int32) ≤ nI i from nI_ge (b := 10) hi (by decide)), rt_onL, k_plain o hq.1, Option.bind_some]
    refine ⟨hq.1.1, ?_⟩
    have keep : ∀ w2, KQ d C w w2 → ((d 0 1).testBit i = true → d 1 i = 0 → t.testBit i = false → ∃ L, BF d t (d 2 i) = some L) → (nI i + 1 = nI (i + 1) ∧ KQ d C w w2 ∧ ∀ j, j < i + 1 → (d 0 1).testBit j = true → d 1 j = 0 → t.testBit j = false → ∃ L, BF d t (d 2 j) = some L) := fun w2 q2 hh => ⟨nI_1 i, q2, fun j hj => by
      by_cases e : j = i
      · subst e; exact hh
      · exact hz j (by omega)⟩
    by_cases c1 : mnt d (nI i) = 0
    · rw [if_pos c1]
      simp only [mg]
      rw [rt_some, nx_l]
      exact keep w1 hq (fun y1 y2 => absurd c1 ((mnt_at o hi).mpr ⟨y1, y2⟩))
    · obtain ⟨y1, y2⟩ := (mnt_at o hi).mp c1
      rw [if_neg c1, contains_N (by omega) (by omega)]
      simp only [bI_0]
      by_cases c2 : t.testBit i = false
      · rw [if_pos c2, rt_mg, rt_bind]
        refine (x_sp o hq.1 ht).mono ?_
        rintro ⟨a, w2⟩ ⟨q2, hA, hs, hL, -⟩
        dsimp only at q2 hA hs hL ⊢
        rw [rt_onL, x3_meaningOf o.1 q2.1.2.1 (by omega), Option.bind_some, if_pos hs.1, if_pos (tb_lt o.1.2.1 y1), shortest_N (fun j b e => BF_le o.1 e) hs hm, Option.bind_some]
        refine ⟨hL, ?_⟩
        cases e : BF d t (d 2 i) with
        | none =>
          rw [if_pos (by rfl), rt_some]
          dsimp only
          rw [nx_r]
          refine ⟨hq.tr q2, Or.inr ⟨rfl, fun z => ?_⟩⟩
          obtain ⟨L, hL⟩ := z i hi y1 y2 c2
          rw [e] at hL; cases hL
        | some L =>
          have hl := BF_le o.1 e
          rw [if_neg (show ¬ e2 (some L) = -2 from nm2 (by omega)), rt_some]
          dsimp only
          rw [rt_some, nx_l]
          exact keep w2 (hq.tr q2) (fun _ _ _ => ⟨L, e⟩)
      · rw [if_neg c2]
        simp only [mg]
        rw [rt_some, nx_l]
        exact keep w1 hq (fun _ _ z => absurd z c2)
  · rintro ⟨c, w1⟩ ⟨h1, hq, hz⟩
    dsimp only at h1 hq hz
    subst h1
    unfold l_X2_tellsAll_2
    dsimp only
    rw [if_pos (show (10 : Int32) ≤ nI 10 by decide), rt_some, nx_r]
    exact ⟨hq, Or.inl ⟨rfl, hz⟩⟩
  · rintro ⟨f, w1⟩ ⟨q, hp⟩
    dsimp only at q hp ⊢
    rcases hp with ⟨e, z⟩ | ⟨e, z⟩
    · rw [e, if_pos rfl, rt_some]
      exact ⟨q, true, rfl, ⟨fun _ => z, fun _ => rfl⟩⟩
    · rw [e, if_neg (by decide), rt_some]
      exact ⟨q, false, rfl, ⟨fun y => (by cases y), fun y => absurd y z⟩⟩
theorem m_tellsAll (o : Ok d C) (h : MI d C w) (ht : t < 2 ^ d 0 0) : Rt (f_X12_tellsAll (nI t) w) (fun p => ZB d C w p.2 ∧ ∃ b, p.1 = bI b ∧ (b = true ↔ tls d t)) := by
  have p10 := pow10 o.1.1
  have o1 := o.1.1
  have hu := o.1.2.1
  unfold f_X12_tellsAll
  rw [rt_bind]
  refine Rt.mono (rt_for (Q := fun p => ZB d C w p.2 ∧ ((p.1 = 0 ∧ tls d t) ∨ (p.1 = 1 ∧ ¬ tls d t))) (fun i s => s.1 = nI i ∧ ZB d C w s.2 ∧ ∀ j, j < i → (d 0 1).testBit j = true → d 1 j = 0 → t.testBit j = false → ∃ L, BF d t (d 2 j) = some L) (d 0 0) ?_ ?_ ⟨rfl, ZB.rf h, fun j hj => absurd hj (Nat.not_lt_zero j)⟩ (by omega)) ?_
  · rintro i ⟨c, w1⟩ hi ⟨h1, hq, hz⟩
    dsimp only at h1 hq hz
    subst h1
    have hi10 : i < 10 := by omega
    have hm := (o.1.2.2.1 i hi10).2.1
    unfold l_X12_tellsAll_2
    dsimp only
    rw [rt_onL, hq.2.N, if_neg (nI_ge hi (by omega)), m_meant o hq.2, Option.bind_some]
    refine ⟨hq.2.1, ?_⟩
    have keep : ∀ w2, ZB d C w w2 → ((d 0 1).testBit i = true → d 1 i = 0 → t.testBit i = false → ∃ L, BF d t (d 2 i) = some L) → (nI i + 1 = nI (i + 1) ∧ ZB d C w w2 ∧ ∀ j, j < i + 1 → (d 0 1).testBit j = true → d 1 j = 0 → t.testBit j = false → ∃ L, BF d t (d 2 j) = some L) := fun w2 q2 hh => ⟨nI_1 i, q2, fun j hj => by
      by_cases e : j = i
      · subst e; exact hh
      · exact hz j (by omega)⟩
    by_cases c1 : mnt d (nI i) = 0
    · rw [if_pos c1]
      simp only [mg]
      rw [rt_some, nx_l]
      exact keep w1 hq (fun y1 y2 => absurd c1 ((mnt_at o hi10).mpr ⟨y1, y2⟩))
    · obtain ⟨y1, y2⟩ := (mnt_at o hi10).mp c1
      rw [if_neg c1, has_N (by omega) (by omega)]
      simp only [bI_0]
      by_cases c2 : t.testBit i = false
      · rw [if_pos c2, if_pos (inb_nI hi10 (by decide)), ix_nI (by omega), (hq.2.2.1.2.2.2 i hi10).2.1, rt_mg, rt_bind]
        refine (m_brB o hq.2 ht hm).mono ?_
        rintro ⟨v, w2⟩ ⟨e2, q2⟩
        dsimp only at e2 q2 ⊢
        subst e2
        cases e : BF d t (d 2 i) with
        | none =>
          rw [enc_n, if_neg (by decide), rt_some]
          dsimp only
          rw [nx_r]
          refine ⟨hq.tr q2, Or.inr ⟨rfl, fun z => ?_⟩⟩
          obtain ⟨L, hL⟩ := z i hi10 y1 y2 c2
          rw [e] at hL; cases hL
        | some L =>
          have hl := BF_le o.1 e
          rw [enc_s, if_pos (show nI L < (1000000 : Int32) from nI_lt (b := 1000000) (by omega) (by decide)), rt_some]
          dsimp only
          rw [rt_some, nx_l]
          exact keep w2 (hq.tr q2) (fun _ _ _ => ⟨L, e⟩)
      · rw [if_neg c2]
        simp only [mg]
        rw [rt_some, nx_l]
        exact keep w1 hq (fun _ _ z => absurd z c2)
  · rintro ⟨c, w1⟩ ⟨h1, hq, hz⟩
    dsimp only at h1 hq hz
    subst h1
    unfold l_X12_tellsAll_2
    dsimp only
    rw [rt_onL, hq.2.N, if_pos (nI_le (Nat.le_refl _) (by omega)), rt_some, nx_r]
    exact ⟨hq.2.1, hq, Or.inl ⟨rfl, fun i hi y1 => hz i (tb_lt hu y1) y1⟩⟩
  · rintro ⟨f, w1⟩ ⟨q, hp⟩
    dsimp only at q hp ⊢
    rcases hp with ⟨e, z⟩ | ⟨e, z⟩
    · rw [e, if_pos rfl, rt_some]
      exact ⟨q, true, rfl, ⟨fun _ => z, fun _ => rfl⟩⟩
    · rw [e, if_neg (by decide), rt_some]
      exact ⟨q, false, rfl, ⟨fun y => (by cases y), fun y => absurd y z⟩⟩
theorem few_ex (o : Ok d C) : ∃ K, K &&& d 0 1 = K ∧ tls d K ∧ ∀ t, t &&& d 0 1 = t → tls d t → fk K ≤ fk t := by
  have hu : tls d (d 0 1) := fun i _ h1 _ h2 => by rw [h1] at h2; cases h2
  obtain ⟨n, ⟨K, h1, h2, h3⟩, hmin⟩ := least_ex (P := fun n => ∃ t, t &&& d 0 1 = t ∧ tls d t ∧ fk t = n) _ ⟨d 0 1, Nat.and_self _, hu, rfl⟩
  exact ⟨K, h1, h2, fun t y1 y2 => by rw [h3]; exact hmin _ ⟨t, y1, y2, rfl⟩⟩
theorem fk_lt {a b : Nat} (ha : a < 1024) (hb : b < 1024) : fk a < fk b ↔ pc a < pc b ∨ (pc a = pc b ∧ a < b) := by unfold fk; omega
theorem fk_inj {a b : Nat} (ha : a < 1024) (hb : b < 1024) (h : fk a = fk b) : a = b := by unfold fk at h; omega
theorem ag_fewest (o : Ok d C) : Agree d C f_X11_fewest f_X12_fewest := by
  have p10 := pow10 o.1.1
  have hu := o.1.2.1
  obtain ⟨K, hK1, hK2, hK3⟩ := few_ex o
  have hKu := sub_le hK1
  have hKl : K < 2 ^ d 0 0 := by omega
  have pK := pc_le K
  have huu : tls d (d 0 1) := fun i _ h1 _ h2 => by rw [h1] at h2; cases h2
  refine ⟨nI K, fun w h => ?_, fun w h => ?_⟩
  · unfold f_X11_fewest f_X2_smallestKey
    rw [rt_bind, rt_bind]
    refine Rt.mono (rt_for (Q := fun p => p.1 = 1 ∧ p.2.1 = nI K ∧ KQ d C w p.2.2) (fun n s => s.1 = nI n ∧ KQ d C w s.2) (pc K) ?_ ?_ ⟨rfl, KQ.rf h⟩ (by omega)) ?_
    · rintro n ⟨c, w1⟩ hn ⟨h1, hq⟩
      dsimp only at h1 hq
      subst h1
      unfold l_X2_smallestKey_2
      dsimp only
      rw [if_neg (show ¬ (10 : Int32) < nI n from nI_nlt (b := n) (a := 10) (by omega) (by decide)), rt_bind]
      refine Rt.mono (rt_for (Q := fun p => p.1 = 0 ∧ KQ d C w p.2.2) (fun k s => s.1 = nI k ∧ KQ d C w s.2) 1024 ?_ ?_ ⟨rfl, hq⟩ (by decide)) ?_
      · rintro k ⟨c, w2⟩ hk ⟨h1, hq2⟩
        dsimp only at h1 hq2
        subst h1
        have pk := pc_le k
        unfold l_X2_smallestKey_10
        dsimp only
        rw [if_neg (show ¬ (1024 : Int32) ≤ nI k from nI_ge (b := 1024) hk (by decide)), rt_onL, hq2.1.U, bitCount_N k hk]
        refine ⟨hq2.1.1, ?_⟩
        by_cases c1 : k &&& d 0 1 = k
        · rw [if_pos ((and_N (by omega)).mpr c1)]
          by_cases c2 : pc k = n
          · rw [c2, if_pos rfl, rt_mg, rt_bind]
            refine (x2_tellsAll o hq2.1 (t := k) (by have := sub_le c1; omega)).mono ?_
            rintro ⟨v, w3⟩ ⟨q3, b, e3, hb⟩
            dsimp only at q3 e3 ⊢
            subst e3
            have hbf : b = false := by
              cases b with
              | false => rfl
              | true =>
                have := hK3 k c1 (hb.mp rfl)
                unfold fk at this
                omega
            subst hbf
            rw [if_pos (by rfl), rt_some]
            dsimp only
            rw [rt_some, nx_l]
            exact ⟨nI_1 k, hq2.tr q3⟩
          · rw [if_neg (fun z => c2 ((nI_eq (by omega) (by omega)).mp z))]
            simp only [mg]
            rw [rt_some, nx_l]
            exact ⟨nI_1 k, hq2⟩
        · rw [if_neg (fun z => c1 ((and_N (by omega)).mp z))]
          simp only [mg]
          rw [rt_some, nx_l]
          exact ⟨nI_1 k, hq2⟩
      · rintro ⟨c, w2⟩ ⟨h1, hq2⟩
        dsimp only at h1 hq2
        subst h1
        unfold l_X2_smallestKey_10
        dsimp only
        rw [if_pos (show (1024 : Int32) ≤ nI 1024 by decide), rt_some, nx_r]
        exact ⟨rfl, hq2⟩
      · rintro ⟨f, v, w2⟩ ⟨e, q⟩
        dsimp only at e q ⊢
        rw [e, if_pos rfl, rt_some, nx_l]
        exact ⟨nI_1 n, q⟩
    · rintro ⟨c, w1⟩ ⟨h1, hq⟩
      dsimp only at h1 hq
      subst h1
      unfold l_X2_smallestKey_2
      dsimp only
      rw [if_neg (show ¬ (10 : Int32) < nI (pc K) from nI_nlt (b := pc K) (a := 10) (by omega) (by decide)), rt_bind]
      refine Rt.mono (rt_for (Q := fun p => p.1 = 1 ∧ p.2.1 = nI K ∧ KQ d C w p.2.2) (fun k s => s.1 = nI k ∧ KQ d C w s.2) K ?_ ?_ ⟨rfl, hq⟩ (by omega)) ?_
      · rintro k ⟨c, w2⟩ hk ⟨h1, hq2⟩
        dsimp only at h1 hq2
        subst h1
        have pk := pc_le k
        unfold l_X2_smallestKey_10
        dsimp only
        rw [if_neg (show ¬ (1024 : Int32) ≤ nI k from nI_ge (b := 1024) (by omega) (by decide)), rt_onL, hq2.1.U, bitCount_N k (by omega)]
        refine ⟨hq2.1.1, ?_⟩
        by_cases c1 : k &&& d 0 1 = k
        · rw [if_pos ((and_N (by omega)).mpr c1)]
          by_cases c2 : pc k = pc K
          · rw [c2, if_pos rfl, rt_mg, rt_bind]
            refine (x2_tellsAll o hq2.1 (t := k) (by omega)).mono ?_
            rintro ⟨v, w3⟩ ⟨q3, b, e3, hb⟩
            dsimp only at q3 e3 ⊢
            subst e3
            have hbf : b = false := by
              cases b with
              | false => rfl
              | true =>
                have := hK3 k c1 (hb.mp rfl)
                unfold fk at this
                omega
            subst hbf
            rw [if_pos (by rfl), rt_some]
            dsimp only
            rw [rt_some, nx_l]
            exact ⟨nI_1 k, hq2.tr q3⟩
          · rw [if_neg (fun z => c2 ((nI_eq (by omega) (by omega)).mp z))]
            simp only [mg]
            rw [rt_some, nx_l]
            exact ⟨nI_1 k, hq2⟩
        · rw [if_neg (fun z => c1 ((and_N (by omega)).mp z))]
          simp only [mg]
          rw [rt_some, nx_l]
          exact ⟨nI_1 k, hq2⟩
      · rintro ⟨c, w2⟩ ⟨h1, hq2⟩
        dsimp only at h1 hq2
        subst h1
        unfold l_X2_smallestKey_10
        dsimp only
        rw [if_neg (show ¬ (1024 : Int32) ≤ nI K from nI_ge (b := 1024) (by omega) (by decide)), rt_onL, hq2.1.U, bitCount_N K (by omega), if_pos ((and_N (by omega)).mpr hK1), if_pos rfl, rt_mg, rt_bind]
        refine ⟨hq2.1.1, (x2_tellsAll o hq2.1 hKl).mono ?_⟩
        rintro ⟨v, w3⟩ ⟨q3, b, e3, hb⟩
        dsimp only at q3 e3 ⊢
        subst e3
        rw [hb.mpr hK2, if_neg (by decide), rt_some]
        dsimp only
        rw [nx_r]
        exact ⟨rfl, rfl, hq2.tr q3⟩
      · rintro ⟨f, v, w2⟩ ⟨e, e2, q⟩
        dsimp only at e e2 q ⊢
        rw [e, if_neg (by decide), rt_some, nx_r]
        exact ⟨rfl, e2, q⟩
    · rintro ⟨f, v, w1⟩ ⟨e, e2, q⟩
      dsimp only at e e2 q ⊢
      rw [e, if_neg (by decide), rt_some, rt_some]
      exact ⟨e2, q.w⟩
  · unfold f_X12_fewest
    rw [rt_bind, h.U]
    refine Rt.mono (rt_for (Q := fun p => p.1 = nI K ∧ ZB d C w p.2) (fun t s => s.2.1 = nI t ∧ ZB d C w s.2.2 ∧ ∃ b, s.1 = nI b ∧ b &&& d 0 1 = b ∧ tls d b ∧ fk b ≤ fk (d 0 1) ∧ ∀ t', t' < t → t' &&& d 0 1 = t' → tls d t' → fk b ≤ fk t') (d 0 1) ?_ ?_ ⟨rfl, ZB.rf h, d 0 1, rfl, Nat.and_self _, huu, Nat.le_refl _, fun t' ht => absurd ht (Nat.not_lt_zero t')⟩ (by omega)) (fun p hp => by rw [rt_some]; exact ⟨hp.1, hp.2.z.w⟩)
    · rintro t ⟨s1, s2, w1⟩ ht ⟨h1, hq, b, h2, hb1, hb2, hb3, hb4⟩
      dsimp only at h1 h2 hq
      subst h1 h2
      have hbu := sub_le hb1
      have pb := pc_le b
      have pt' := pc_le t
      unfold l_X12_fewest_7
      dsimp only
      rw [rt_onL, hq.2.U, if_neg (nI_ge ht (by omega)), m_sizeOf (t := t) (by omega), m_sizeOf (t := b) (by omega)]
      refine ⟨hq.2.1, ?_⟩
      simp only [Option.bind_some]
      have keep : ∀ w2, ZB d C w w2 → (t &&& d 0 1 = t → tls d t → fk b ≤ fk t) → (nI t + 1 = nI (t + 1) ∧ ZB d C w w2 ∧ ∃ b', nI b = nI b' ∧ b' &&& d 0 1 = b' ∧ tls d b' ∧ fk b' ≤ fk (d 0 1) ∧ ∀ t', t' < t + 1 → t' &&& d 0 1 = t' → tls d t' → fk b' ≤ fk t') := fun w2 q2 hz => ⟨nI_1 t, q2, b, rfl, hb1, hb2, hb3, fun t' ht' y1 y2 => by
        by_cases e : t' = t
        · subst e; exact hz y1 y2
        · exact hb4 t' (by omega) y1 y2⟩
      by_cases c1 : t &&& d 0 1 = t
      · rw [if_pos ((sub_N (by omega)).mpr c1)]
        have hlt := fk_lt (a := t) (b := b) (by omega) (by omega)
        by_cases c2 : fk t < fk b
        · have hgo : mg (if nI (pc t) < nI (pc b) then some (.inl ()) else if nI (pc t) = nI (pc b) then (if nI b ≤ nI t then some (.inr (nI b, w1)) else some (.inl ())) else some (.inr (nI b, w1))) (fun _ : Unit => Option.bind (f_X12_tellsAll (nI t) w1) (fun p9 => if p9.1 = 0 then some (nI b, p9.2) else some (nI t, p9.2))) = Option.bind (f_X12_tellsAll (nI t) w1) (fun p9 => if p9.1 = 0 then some (nI b, p9.2) else some (nI t, p9.2)) := by
            rcases hlt.mp c2 with z | ⟨z1, z2⟩
            · rw [if_pos (nI_lt z (by omega))]; rfl
            · rw [if_neg (nI_nlt (by omega) (by omega)), if_pos (by rw [z1]), if_neg (nI_ge z2 (by omega))]; rfl
          rw [hgo, rt_bind, rt_bind]
          refine (m_tellsAll o hq.2 (t := t) (by omega)).mono ?_
          rintro ⟨v, w2⟩ ⟨q2, bb, e2, hbb⟩
          dsimp only at q2 e2 ⊢
          subst e2
          cases bb with
          | false =>
            rw [if_pos (by rfl), rt_some, rt_some, nx_l]
            exact keep w2 (hq.tr q2) (fun _ z => by have := hbb.mpr z; cases this)
          | true =>
            rw [if_neg (by decide), rt_some, rt_some, nx_l]
            refine ⟨nI_1 t, hq.tr q2, t, rfl, c1, hbb.mp rfl, by omega, fun t' ht' y1 y2 => ?_⟩
            by_cases e : t' = t
            · subst e; exact Nat.le_refl _
            · have := hb4 t' (by omega) y1 y2; omega
        · have hgo : mg (if nI (pc t) < nI (pc b) then some (.inl ()) else if nI (pc t) = nI (pc b) then (if nI b ≤ nI t then some (.inr (nI b, w1)) else some (.inl ())) else some (.inr (nI b, w1))) (fun _ : Unit => Option.bind (f_X12_tellsAll (nI t) w1) (fun p9 => if p9.1 = 0 then some (nI b, p9.2) else some (nI t, p9.2))) = some (nI b, w1) := by
            have hn := fun z => c2 (hlt.mpr z)
            rw [if_neg (fun z => hn (Or.inl ((nI_ltI (by omega) (by omega)).mp z)))]
            by_cases z : pc t = pc b
            · rw [if_pos (by rw [z])]
              rw [if_pos (nI_le (by have : ¬ t < b := fun y => hn (Or.inr ⟨z, y⟩); omega) (by omega))]; rfl
            · rw [if_neg (fun y => z ((nI_eq (by omega) (by omega)).mp y))]; rfl
          rw [hgo, Option.bind_some, rt_some, nx_l]
          exact keep w1 hq (fun _ _ => by omega)
      · rw [if_neg (fun z => c1 ((sub_N (by omega)).mp z)), Option.bind_some, rt_some, nx_l]
        exact keep w1 hq (fun z => absurd z c1)
    · rintro ⟨s1, s2, w1⟩ ⟨h1, hq, b, h2, hb1, hb2, hb3, hb4⟩
      dsimp only at h1 h2 hq
      subst h1 h2
      unfold l_X12_fewest_7
      dsimp only
      rw [rt_onL, hq.2.U, if_pos (nI_le (Nat.le_refl _) (by omega)), rt_some, nx_r]
      refine ⟨hq.2.1, ?_, hq⟩
      have hbu := sub_le hb1
      have e1 := hK3 b hb1 hb2
      have e2 : fk b ≤ fk K := by
        by_cases c : K < d 0 1
        · exact hb4 K c hK1 hK2
        · rw [show K = d 0 1 by omega]; exact hb3
      rw [fk_inj (a := b) (b := K) (by omega) (by omega) (by omega)]
end Few
