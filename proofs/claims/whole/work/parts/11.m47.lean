/-! ROW, CHECK, COUNT -/
section Rw2
variable {d d' : Dt} {C : Ct} {w w' : Mm}
theorem KT.wq (h : KT d C w) (q : KW d C w w') : KT d C w' ∧ cF w w' := ⟨⟨q.1, h.2.1.cq q.2, h.2.2.of rfl rfl rfl rfl (fun _ _ => rfl) (fun i j hi => (q.2 _ _ (by unfold cB; omega)).1)⟩, fun c j hc => q.2 c j (Or.inr hc)⟩
theorem MT.wq (h : MT d C w) (q : ZW d C w w') : MT d C w' ∧ zF w w' := ⟨⟨q.2, h.2.1.of rfl rfl (q.1.I (by unfold mB; omega)) (fun j => q.1.I (by unfold mB; omega)), h.2.2.of rfl rfl rfl rfl (fun c j h1 h2 => q.1.I (by unfold mB; omega))⟩, fx.sub q.1 (fun c k z => z.1)⟩
theorem KT.wipe (h : KT d C w) : KT (wip d) C (sI w 12 1 0) ∧ cF w (sI w 12 1 0) := wip_o.KT h (fx.sI (by omega)) ⟨by rw [wip_5]; rfl, fun k hk => by rw [wip_5] at hk; exact absurd hk (Nat.not_lt_zero k)⟩
theorem MT.wipe (h : MT d C w) : MT (wip d) C (sI w 47 1 0) ∧ zF w (sI w 47 1 0) := wip_o.MT h (fx.sI (by omega)) ⟨by rw [wip_5]; rfl, fun k hk => by rw [wip_5] at hk; exact absurd hk (Nat.not_lt_zero k)⟩
/-- a question behind the wiping -/
theorem MT.wipeq (h : MT d C w) (q : ZW d C (sI w 47 1 0) w') : MT (wip d) C w' ∧ zF w w' := by
  have h0 := h.wipe
  refine ⟨⟨wip_o.M q.2 fx.rf, ?_, ?_⟩, fx.tr h0.2 (fx.sub q.1 (fun c k z => z.1))⟩
  · exact h0.1.2.1.of rfl rfl (q.1.I (by unfold mB; omega)) (fun j => q.1.I (by unfold mB; omega))
  · exact h0.1.2.2.of rfl rfl rfl rfl (fun c j h1 h2 => q.1.I (by unfold mB; omega))
theorem mi_wipe (h : MI d C w) : MI d C (sI w 47 1 0) := tpO.rf.M h (fx.sI (by omega))
theorem fst_ex (p : Nat → Bool) : ∀ n, ∃ k, k ≤ n ∧ (∀ j, j < k → p j = true) ∧ (k < n → p k = false)
  | 0 => ⟨0, Nat.le_refl _, fun j hj => absurd hj (Nat.not_lt_zero j), fun h => absurd h (Nat.lt_irrefl 0)⟩
  | n + 1 => by
    obtain ⟨k, h1, h2, h3⟩ := fst_ex p n
    by_cases e : k = n
    · subst e
      cases q : p k with
      | false => exact ⟨k, by omega, h2, fun _ => q⟩
      | true =>
        refine ⟨k + 1, Nat.le_refl _, fun j hj => ?_, fun h => absurd h (Nat.lt_irrefl _)⟩
        by_cases e : j = k
        · rw [e]; exact q
        · exact h2 j (by omega)
    · exact ⟨k, by omega, h2, fun _ => h3 (by omega)⟩
theorem st_row (o : Ok d C) (oT : OkT d) (hst : d 0 7 < 2 ^ 31) (x1 x2 : Int32) : StpB d C (f_X11_row x1 x2) (f_X12_row x1 x2) := by
  have o5 := oT.1
  have l1 : f_X12_lies x1.toInt64 (1 : Int64) (10 : Int64) = f_X11_within x1 1 10 := lies_lit x1 1 10 (by decide) (by decide)
  have l2 : f_X12_lies x2.toInt64 (0 : Int64) (1 : Int64) = f_X11_within x2 0 1 := lies_lit x2 0 1 (by decide) (by decide)
  by_cases c1 : f_X11_within x1 1 10 = 0
  · exact stay o oT (-1) (fun w h => by unfold f_X11_row; rw [if_pos c1]) (fun w h => by unfold f_X12_row; rw [l1, if_pos c1])
  by_cases c2 : f_X11_within x2 0 1 = 0
  · exact stay o oT (-1) (fun w h => by unfold f_X11_row; rw [if_neg c1, if_pos c2]) (fun w h => by unfold f_X12_row; rw [l1, if_neg c1, l2, if_pos c2])
  obtain ⟨a, ha1, ha, rfl⟩ := within_c 1 10 (by decide) (by decide) c1
  by_cases c3 : a ≤ d 0 5
  case neg => exact stay o oT (-1) (fun w h => by unfold f_X11_row; rw [if_neg c1, if_neg c2, h.2.1.1, if_neg (nI_ge (by omega) (by omega))]) (fun w h => by unfold f_X12_row; rw [l1, if_neg c1, l2, if_neg c2, h.2.1.1, if_neg (nI_ge (by omega) (by omega))])
  obtain ⟨K, hK, hv, hn⟩ := fst_ex (fun j => (rs d j).testBit (d 10 j)) a
  refine ⟨if K = a then (if x2 = 0 then lN (rsum d C a) else (oI (rfm d C a)).toInt64) else -2, wip d, C, wip_o.O o, wip_T oT, by rw [wip_o.2 7 (by omega)]; omega, fun w h => ?_, fun w h => ?_⟩
  · unfold f_X11_row f_X10_follow
    rw [if_neg c1, if_neg c2, h.2.1.1, if_pos (nI_le c3 (by omega)), rt_bind, rt_bind]
    refine (x10_follow o oT hst h.1 h.2.1 ha c3 hK hv hn x2).mono ?_
    rintro ⟨s1, s2, s3, w1⟩ ⟨q1, q2, q3⟩
    dsimp only at q1 q2 q3 ⊢
    have hk := h.wq q3.w
    have hw := hk.1.wipe
    by_cases e : K = a
    · obtain ⟨e1, e2, e3⟩ := q1 e
      subst e1 e2 e3
      rw [if_pos rfl, if_pos e]
      by_cases x : x2 = 0
      · rw [if_pos x, if_pos x, rt_some, rt_onL]
        unfold f_X8_wipe
        rw [Option.bind_some, rt_some]
        exact ⟨q3.1.1, rfl, hw.1, hk.2.tr hw.2⟩
      · rw [if_neg x, if_neg x, rt_some, rt_onL]
        unfold f_X8_wipe
        rw [Option.bind_some, rt_some]
        exact ⟨q3.1.1, rfl, hw.1, hk.2.tr hw.2⟩
    · have e1 := q2 (by omega)
      subst e1
      rw [if_neg (by decide), if_neg e, rt_some, rt_onL]
      unfold f_X8_wipe
      rw [Option.bind_some, rt_some]
      exact ⟨q3.1.1, rfl, hw.1, hk.2.tr hw.2⟩
  · unfold f_X12_row
    have h0 := mi_wipe h.1
    have h48 : ∀ k, k < d 0 5 → gI (sI w 47 1 0) 48 k = (nI (d 10 k)).toInt8.toInt32 := fun k hk => h.2.1.2 k hk
    rw [l1, if_neg c1, l2, if_neg c2, h.2.1.1, if_pos (nI_le c3 (by omega)), rt_bind, h.1.U]
    refine (m_row1 o.1 oT h0.2.1 h48 ha c3 hK hv hn x2).mono ?_
    rintro p ⟨q1, q2⟩
    by_cases e : K = a
    · rw [if_pos (q1 e), if_pos e, rt_bind]
      refine (m_row2 o oT h0 h48 ha c3 (by rw [← e]; exact hv) x2).mono ?_
      rintro ⟨s1, s2, w1⟩ ⟨e1, e2, q⟩
      dsimp only at e1 e2 q ⊢
      subst e1 e2
      have hw := h.wipeq q.w
      by_cases x : x2 = 0
      · rw [if_pos x, if_pos x, rt_some]; exact ⟨rfl, hw⟩
      · rw [if_neg x, if_neg x, rt_some]; exact ⟨rfl, hw⟩
    · rw [if_neg (by rw [q2 (by omega)]; decide), if_neg e, rt_some]
      exact ⟨rfl, h.wipe⟩
/-- a number of the tape -/
def nAt (d : Dt) (k : Nat) : Nat → Int32
  | 0 => 0
  | j + 1 => (nAt d k j <<< ((8 : Int32) &&& 31)) ||| (nI (d 10 (4 * k + j)) &&& 255)
theorem k_numberAt (h : CTp d w) (o : OkT d) {k : Nat} (hk : 4 * k + 4 ≤ d 0 5) : f_X8_numberAt (nI k) w = some (nAt d k 4) := by
  have o5 := o.1
  apply Rt.eq
  unfold f_X8_numberAt
  rw [rt_bind]
  refine (rt_for (fun j (s : Int32 × Int32) => s.1 = nAt d k j ∧ s.2 = nI j) 4 (Q := fun p => p = nAt d k 4) ?_ ?_ ⟨rfl, rfl⟩ (by decide)).mono (fun p h => by rw [rt_some]; exact h)
  · rintro j ⟨s1, s2⟩ hj ⟨h1, h2⟩
    dsimp only at h1 h2
    subst h1 h2
    unfold l_X8_numberAt_4
    dsimp only
    rw [if_neg (show ¬ (4 : Int32) ≤ nI j from nI_ge (b := 4) hj (by decide)), show (4 : Int32) * nI k = nI (4 * k) from pk_mul 4 k, nI_add, k_byteAt h o (by omega), Option.bind_some, rt_some, nx_l]
    exact ⟨rfl, nI_1 j⟩
  · rintro ⟨s1, s2⟩ ⟨h1, h2⟩
    dsimp only at h1 h2
    subst h1 h2
    unfold l_X8_numberAt_4
    dsimp only
    rw [if_pos (by decide), rt_some, nx_r]
theorem sb_255 : ∀ b, b < 256 → (nI b).toInt8.toInt32 &&& 255 = nI b &&& 255 := by decide +kernel
theorem m_numberAt (h : ∀ k, k < d 0 5 → gI w 48 k = (nI (d 10 k)).toInt8.toInt32) (o : OkT d) {k : Nat} (hk : 4 * k + 4 ≤ d 0 5) : f_X12_numberAt (nI k) w = some (nAt d k 4) := by
  have o5 := o.1
  apply Rt.eq
  unfold f_X12_numberAt
  rw [rt_bind]
  refine (rt_for (fun j (s : Int32 × Int32) => s.1 = nAt d k j ∧ s.2 = nI j) 4 (Q := fun p => p = nAt d k 4) ?_ ?_ ⟨rfl, rfl⟩ (by decide)).mono (fun p h => by rw [rt_some]; exact h)
  · rintro j ⟨s1, s2⟩ hj ⟨h1, h2⟩
    dsimp only at h1 h2
    subst h1 h2
    unfold l_X12_numberAt_4
    dsimp only
    rw [if_neg (show ¬ (4 : Int32) ≤ nI j from nI_ge (b := 4) hj (by decide)), show (4 : Int32) * nI k = nI (4 * k) from pk_mul 4 k, nI_add, if_pos (inb_nI (by omega) (by decide)), ix_nI (by omega), h _ (by omega), sb_255 _ (o.2.1 _), rt_some, nx_l]
    exact ⟨rfl, nI_1 j⟩
  · rintro ⟨s1, s2⟩ ⟨h1, h2⟩
    dsimp only at h1 h2
    subst h1 h2
    unfold l_X12_numberAt_4
    dsimp only
    rw [if_pos (by decide), rt_some, nx_r]
theorem m_briefT (o : Ok d C) (h : MI d C w) {t m : Nat} (ht : t < 2 ^ d 0 0) (hm : m < 64) : Rt (f_X12_brief (nI t) (nI m) w) (fun p => p.1 = e2 (BF d t m) ∧ ZW d C w p.2) := by
  have p10 := pow10 o.1.1
  have c1 : ¬ f_X11_within (nI t) 0 (nI (2 ^ d 0 0 - 1)) = 0 := (within_iffN (a := 0) (b := 2 ^ d 0 0 - 1) (by omega) (by omega)).mpr ⟨t, by omega, by omega, rfl⟩
  have c2 : ¬ f_X11_within (nI m) 0 63 = 0 := (within_iffN (a := 0) (b := 63) (by decide) (by decide)).mpr ⟨m, by omega, by omega, rfl⟩
  unfold f_X12_brief
  rw [m_isTongue o.1 h.2.1, Option.bind_some, if_neg c1, m_isMeaning, if_neg c2, rt_bind]
  refine (m_briefOf o.1 h.1 h.2.1 h.2.2.2.2.1 ht hm).mono ?_
  rintro ⟨v, w1⟩ ⟨e, f1, b1, -⟩
  dsimp only at e f1 b1 ⊢
  subst e
  rw [e2_N o.1, rt_some]
  exact ⟨rfl, ZQ.w (h.x f1 (fun c k z => by unfold qsP; omega) b1)⟩
theorem st_check (o : Ok d C) (oT : OkT d) (x1 x2 : Int32) : StpB d C (f_X11_check x1 x2) (f_X12_check x1 x2) := by
  have o5 := oT.1
  have o1 := o.1.1
  have p10 := pow10 o.1.1
  have l2 : f_X12_lies x2.toInt64 (0 : Int64) (64 : Int64) = f_X11_within x2 0 64 := lies_lit x2 0 64 (by decide) (by decide)
  by_cases c1 : f_X11_within x1 0 (nI (2 ^ d 0 0 - 1)) = 0
  · exact stay o oT (-2) (fun w h => by unfold f_X11_check; rw [k_isTongue o.1 h.1.2.1, Option.bind_some, if_pos c1]) (fun w h => by unfold f_X12_check; rw [m_isTongue o.1 h.1.2.1, Option.bind_some, if_pos c1])
  by_cases c2 : f_X11_within x2 0 64 = 0
  · exact stay o oT (-2) (fun w h => by unfold f_X11_check; rw [k_isTongue o.1 h.1.2.1, Option.bind_some, if_neg c1, if_pos c2]) (fun w h => by unfold f_X12_check; rw [m_isTongue o.1 h.1.2.1, Option.bind_some, if_neg c1, l2, if_pos c2])
  obtain ⟨t, ht, rfl⟩ := tongue_of o.1 c1
  obtain ⟨a, -, ha, rfl⟩ := within_c 0 64 (by decide) (by decide) c2
  have m4 : (4 : Int32) * nI a = nI (4 * a) := pk_mul 4 a
  have d4 : nI (d 0 5) / (4 : Int32) = nI (d 0 5 / 4) := pk_div (d := 4) (by omega) (by decide) (by decide)
  by_cases c3 : 4 * a ≤ d 0 5
  case neg => exact stay o oT (-2) (fun w h => by unfold f_X11_check; rw [k_isTongue o.1 h.1.2.1, Option.bind_some, if_neg c1, if_neg c2, h.2.1.1, m4, if_neg (nI_ge (by omega) (by omega))]) (fun w h => by unfold f_X12_check; rw [m_isTongue o.1 h.1.2.1, Option.bind_some, if_neg c1, l2, if_neg c2, h.2.1.1, d4, if_neg (nI_ge (by omega) (by omega))])
  obtain ⟨K, hK, hv, hn⟩ := fst_ex (fun j => decide (nAt d j 4 = e2 (BF d t j))) a
  have hB := fun j b (e : BF d t j = some b) => BF_le o.1 e
  refine ⟨if K = a then -1 else nI K, wip d, C, wip_o.O o, wip_T oT, by rw [wip_o.2 7 (by omega)]; omega, fun w h => ?_, fun w h => ?_⟩
  · unfold f_X11_check
    rw [k_isTongue o.1 h.1.2.1, Option.bind_some, if_neg c1, if_neg c2, h.2.1.1, m4, if_pos (nI_le c3 (by omega)), rt_bind]
    refine (x_sp o h.1 ht).mono ?_
    rintro ⟨s, w1⟩ ⟨q1, hA, hs, hL, -⟩
    dsimp only at q1 hA hs hL ⊢
    have hk := h.wq q1.w
    have hw := hk.1.wipe
    rw [if_pos hs.1, rt_onL, rt_bind]
    refine ⟨hL, Rt.mono (rt_wh (Q := fun p => p = if K = a then -1 else nI K) (fun s : Int32 × Int32 => (∃ k, k ≤ K ∧ s.1 = -1 ∧ s.2 = nI k) ∨ (K < a ∧ s.1 = nI K ∧ s.2 = nI (K + 1))) (fun s => 100 - s.2.toNatClampNeg) ?_ (Or.inl ⟨0, Nat.zero_le _, rfl, rfl⟩) (by decide)) ?_⟩
    · rintro ⟨s1, s2⟩ (⟨k, hk', h1, h2⟩ | ⟨hk', h1, h2⟩)
      · dsimp only at h1 h2
        subst h1 h2
        unfold l_X11_check_52
        dsimp only
        by_cases q : k = a
        · subst q
          rw [if_pos (nI_le (Nat.le_refl _) (by omega)), rt_some, nx_r, if_pos (by omega)]
        · rw [if_neg (nI_ge (by omega) (by omega)), if_pos rfl, k_numberAt hk.1.2.1 oT (by omega), Option.bind_some, shortest_N hB hs (by omega), Option.bind_some]
          by_cases q2 : k = K
          · subst q2
            rw [if_neg (of_decide_eq_false (hn (by omega))), Option.bind_some, rt_some, nx_l]
            refine ⟨Or.inr ⟨by omega, rfl, nI_1 k⟩, ?_⟩
            dsimp only
            rw [nI_1, nI_clamp (by omega), nI_clamp (by omega)]
            omega
          · rw [if_pos (of_decide_eq_true (hv k (by omega))), Option.bind_some, rt_some, nx_l]
            refine ⟨Or.inl ⟨k + 1, by omega, rfl, nI_1 k⟩, ?_⟩
            dsimp only
            rw [nI_1, nI_clamp (by omega), nI_clamp (by omega)]
            omega
      · dsimp only at h1 h2
        subst h1 h2
        unfold l_X11_check_52
        dsimp only
        by_cases q : K + 1 = a
        · rw [q, if_pos (nI_le (Nat.le_refl _) (by omega)), rt_some, nx_r, if_neg (by omega)]
        · rw [if_neg (nI_ge (by omega) (by omega)), if_neg (nm1 (by omega)), rt_some, nx_r, if_neg (by omega)]
    · rintro p e
      subst e
      unfold f_X8_wipe
      rw [Option.bind_some, rt_some]
      exact ⟨rfl, hw.1, hk.2.tr hw.2⟩
  · unfold f_X12_check
    have h0 := mi_wipe h.1
    rw [m_isTongue o.1 h.1.2.1, Option.bind_some, if_neg c1, l2, if_neg c2, h.2.1.1, d4, if_pos (nI_le (by omega) (by omega)), rt_bind]
    have hbr : ∀ w1, MI d C w1 → ∀ k, k < 64 → Rt (f_X12_brief (nI t) (nI k) w1) (fun p => p.1 = e2 (BF d t k) ∧ ZW d C w1 p.2) := fun w1 h1 k hk => m_briefT o h1 ht hk
    refine Rt.mono (rt_for (fun k (s : Int32 × Mm) => s.1 = nI k ∧ ZW d C (sI w 47 1 0) s.2) K (Q := fun p => (K = a → p.1 = 0) ∧ (K < a → p.1 = 1 ∧ p.2.1 = nI K) ∧ ZW d C (sI w 47 1 0) p.2.2) ?_ ?_ ⟨rfl, ZW.rf h0⟩ (by omega)) ?_
    · rintro k ⟨s1, w1⟩ hk ⟨h1, hq⟩
      dsimp only at h1 hq
      subst h1
      unfold l_X12_check_40
      dsimp only
      rw [if_neg (nI_ge (by omega) (by omega)), rt_onL, m_numberAt (fun j hj => by rw [hq.1.I (by unfold mB; omega)]; exact h.2.1.2 j hj) oT (by omega), Option.bind_some, rt_bind]
      refine ⟨hq.2.1, (hbr w1 hq.2 k (by omega)).mono ?_⟩
      rintro ⟨v, w2⟩ ⟨e, q⟩
      dsimp only at e q ⊢
      subst e
      rw [if_pos (of_decide_eq_true (hv k hk)), rt_some, nx_l]
      exact ⟨nI_1 k, hq.tr q⟩
    · rintro ⟨s1, w1⟩ ⟨h1, hq⟩
      dsimp only at h1 hq
      subst h1
      unfold l_X12_check_40
      dsimp only
      by_cases e : K = a
      · subst e
        rw [if_pos (nI_le (Nat.le_refl _) (by omega)), rt_some, nx_r]
        exact ⟨fun _ => rfl, fun z => absurd z (Nat.lt_irrefl _), hq⟩
      · rw [if_neg (nI_ge (by omega) (by omega)), rt_onL, m_numberAt (fun j hj => by rw [hq.1.I (by unfold mB; omega)]; exact h.2.1.2 j hj) oT (by omega), Option.bind_some, rt_bind]
        refine ⟨hq.2.1, (hbr w1 hq.2 K (by omega)).mono ?_⟩
        rintro ⟨v, w2⟩ ⟨e', q⟩
        dsimp only at e' q ⊢
        subst e'
        rw [if_neg (of_decide_eq_false (hn (by omega))), rt_some, nx_r]
        exact ⟨fun z => absurd z e, fun _ => ⟨rfl, rfl⟩, hq.tr q⟩
    · rintro ⟨s1, s2, w1⟩ ⟨q1, q2, q3⟩
      dsimp only at q1 q2 q3 ⊢
      have hw := h.wipeq q3
      by_cases e : K = a
      · rw [if_pos (q1 e), if_pos e, rt_some]; exact ⟨rfl, hw⟩
      · obtain ⟨z1, z2⟩ := q2 (by omega)
        rw [if_neg (by rw [z1]; decide), if_neg e, rt_some]; exact ⟨z2, hw⟩
end Rw2
