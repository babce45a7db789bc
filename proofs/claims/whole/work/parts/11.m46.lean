/-! ROW: WORDS struck as the tape says -/
section Rw
variable {d d' : Dt} {C : Ct} {w w' : Mm}
def rs (d : Dt) : Nat → Nat
  | 0 => d 0 1
  | k + 1 => wo (rs d k) (d 10 k)
noncomputable def rsum (d : Dt) (C : Ct) (n : Nat) : Nat := fb_sm (fun k => tkA d C (rs d (k + 1))) n
noncomputable def rfm (d : Dt) (C : Ct) : Nat → Option Nat
  | 0 => none
  | k + 1 => match rfm d C k with
    | some i => some i
    | none => if mu d C (rs d (k + 1)) = 0 then none else some k
theorem rs_lt (o : OkL d) : ∀ k, rs d k < 2 ^ d 0 0
  | 0 => o.2.1
  | k + 1 => wo_lt (rs_lt o k)
theorem rfm_lt : ∀ k i, rfm d C k = some i → i < k
  | 0, i, h => by cases h
  | k + 1, i, h => by
    rw [rfm] at h
    cases e : rfm d C k with
    | none =>
      rw [e] at h
      dsimp only at h
      split at h
      · cases h
      · cases h; omega
    | some j =>
      rw [e] at h
      cases h
      have := rfm_lt k i e
      omega
theorem k_byteAt (h : CTp d w) (o : OkT d) {k : Nat} (hk : k < d 0 5) : f_X8_byteAt (nI k) w = some (nI (d 10 k)) := by
  have o5 := o.1
  unfold f_X8_byteAt
  rw [if_neg (nI_pos (by omega)), h.1, if_neg (nI_ge hk (by omega)), if_neg (show ¬ (300 : Int32) ≤ nI k from nI_ge (b := 300) (by omega) (by decide)), if_pos (inb_nI (by omega) (by decide)), ix_nI (by omega), h.2 k hk]
theorem CTp.cq (h : CTp d w) (q : cq w w') : CTp d w' := h.of rfl rfl (q _ _ (by unfold cB; omega)).1 (fun j => (q _ _ (by unfold cB; omega)).1)
theorem x10_follow (o : Ok d C) (oT : OkT d) (hst : d 0 7 < 2 ^ 31) (h : KI d C w) (hp : CTp d w) {a K : Nat} (ha : a ≤ 10) (ha5 : a ≤ d 0 5) (hK : K ≤ a) (hv : ∀ j, j < K → (rs d j).testBit (d 10 j) = true) (hn : K < a → (rs d K).testBit (d 10 K) = false) (x3 : Int32) : Rt (wh (l_X10_follow_18 (nI a) x3) FUEL ((0 : Int64), (-1 : Int32), gI w 1 5, (0 : Int32), w)) (fun p => (K = a → p.1 = 0 ∧ p.2.1 = lN (rsum d C a) ∧ p.2.2.1 = oI (rfm d C a)) ∧ (K < a → p.1 = 1) ∧ KQ d C w p.2.2.2) := by
  have p10 := pow10 o.1.1
  have o1 := o.1.1
  refine rt_for (fun k (s : Int64 × Int32 × Int32 × Int32 × Mm) => s.1 = lN (rsum d C k) ∧ s.2.1 = oI (rfm d C k) ∧ s.2.2.1 = nI (rs d k) ∧ s.2.2.2.1 = nI k ∧ KQ d C w s.2.2.2.2) K ?_ ?_ ⟨rfl, rfl, h.U, rfl, KQ.rf h⟩ (by omega)
  · rintro k ⟨s1, s2, s3, s4, w1⟩ hk ⟨h1, h2, h3, h4, hq⟩
    dsimp only at h1 h2 h3 h4 hq
    subst h1 h2 h3 h4
    have hl := rs_lt o.1 k
    have hb := hv k hk
    have hbn := tb_lt hl hb
    unfold l_X10_follow_18
    dsimp only
    rw [if_neg (nI_ge (by omega) (by omega)), if_neg (show ¬ (10 : Int32) ≤ nI k from nI_ge (b := 10) (by omega) (by decide)), rt_onL, k_byteAt (hp.cq hq.w.2) oT (by omega), Option.bind_some, contains_N (by omega) (by omega), hb, if_neg (show ¬ bI true = 0 by decide), without_N (by omega)]
    refine ⟨hq.1.1, x_tk o hst hq.1 (rs_lt o.1 (k + 1)) (fun w2 q2 => ?_)⟩
    dsimp only
    cases e : rfm d C k with
    | some i =>
      have hi := rfm_lt k i e
      rw [show oI (some i) = nI i from rfl, if_neg (nm1 (by omega)), Option.bind_some, rt_some, nx_l]
      exact ⟨by rw [lN_add]; rfl, by rw [rfm, e]; rfl, rfl, nI_1 k, hq.tr q2⟩
    | none =>
      rw [show oI none = -1 from rfl, if_pos rfl, rt_bind, rt_onL, rt_bind]
      refine ⟨q2.1.1, (x9_missed o hst q2.1 (rs_lt o.1 (k + 1))).mono ?_⟩
      rintro ⟨v, w3⟩ ⟨e3, q3⟩
      dsimp only at e3 q3 ⊢
      subst e3
      by_cases z : mu d C (rs d (k + 1)) = 0
      · rw [show wo (rs d k) (d 10 k) = rs d (k + 1) from rfl, if_pos ((mu_0 o.2.1).mpr z), rt_some, rt_some, nx_l]
        exact ⟨by rw [lN_add]; rfl, by rw [rfm, e]; dsimp only; rw [if_pos z]; rfl, rfl, nI_1 k, (hq.tr q2).tr q3⟩
      · rw [show wo (rs d k) (d 10 k) = rs d (k + 1) from rfl, if_neg (fun y => z ((mu_0 o.2.1).mp y)), rt_some, rt_some, nx_l]
        exact ⟨by rw [lN_add]; rfl, by rw [rfm, e]; dsimp only; rw [if_neg z]; rfl, rfl, nI_1 k, (hq.tr q2).tr q3⟩
  · rintro ⟨s1, s2, s3, s4, w1⟩ ⟨h1, h2, h3, h4, hq⟩
    dsimp only at h1 h2 h3 h4 hq
    subst h1 h2 h3 h4
    have hl := rs_lt o.1 K
    unfold l_X10_follow_18
    dsimp only
    by_cases c0 : K = a
    · subst c0
      rw [if_pos (nI_le (Nat.le_refl _) (by omega)), rt_some, nx_r]
      exact ⟨fun _ => ⟨rfl, rfl, rfl⟩, fun z => absurd z (Nat.lt_irrefl _), hq⟩
    · rw [if_neg (nI_ge (by omega) (by omega)), if_neg (show ¬ (10 : Int32) ≤ nI K from nI_ge (b := 10) (by omega) (by decide)), rt_onL, k_byteAt (hp.cq hq.w.2) oT (by omega), Option.bind_some, contains_N (by omega) (by have := oT.2.1 K; omega), hn (by omega), if_pos (show bI false = 0 by decide), rt_some, nx_r]
      exact ⟨hq.1.1, fun z => absurd z c0, fun _ => rfl, hq⟩
theorem sb_neg : ∀ b, b < 256 → 128 ≤ b → (nI b).toInt8.toInt32 < 0 := by decide +kernel
theorem sb_in (o : OkL d) {t b : Nat} (ht : t < 2 ^ d 0 0) (hb : t.testBit b = true) : (nI b).toInt8.toInt32 = nI b ∧ ¬ f_X11_within (nI b) 0 (nI (d 0 0) - 1) = 0 ∧ ¬ f_X12_has (nI t) (nI b) = 0 := by
  have o1 := o.1
  have p10 := pow10 o.1
  have hn := tb_lt ht hb
  refine ⟨fa_byte_small (by omega), ?_, by rw [has_N (by omega) (by omega), hb]; decide⟩
  rw [show d 0 0 = d 0 0 - 1 + 1 by omega, nI_pred]
  exact (within_iffN (a := 0) (b := d 0 0 - 1) (by omega) (by omega)).mpr ⟨b, by omega, by omega, rfl⟩
theorem sb_out (o : OkL d) {t b : Nat} (ht : t < 2 ^ d 0 0) (hb8 : b < 256) (hb : t.testBit b = false) (h : ¬ f_X11_within ((nI b).toInt8.toInt32) 0 (nI (d 0 0) - 1) = 0) : f_X12_has (nI t) ((nI b).toInt8.toInt32) = 0 := by
  have o1 := o.1
  have p10 := pow10 o.1
  by_cases q : b < 128
  · rw [fa_byte_small q] at h ⊢
    obtain ⟨i, hi, e⟩ := within_p (by omega) h
    have := (nI_eq (by omega) (by omega)).mp e
    subst this
    rw [has_N (by omega) (by omega), hb]; decide
  · exact absurd (sb_neg b hb8 (by omega)) (within_yes h).1
theorem m_row1 (o : OkL d) (oT : OkT d) (h : MLx d w) (hp : ∀ k, k < d 0 5 → gI w 48 k = (nI (d 10 k)).toInt8.toInt32) {a K : Nat} (ha : a ≤ 10) (ha5 : a ≤ d 0 5) (hK : K ≤ a) (hv : ∀ j, j < K → (rs d j).testBit (d 10 j) = true) (hn : K < a → (rs d K).testBit (d 10 K) = false) (x3 : Int32) : Rt (wh (l_X12_row_47 (nI a) x3 w) FUEL (nI (d 0 1), (0 : Int32))) (fun p => (K = a → p = 0) ∧ (K < a → p = 1)) := by
  have p10 := pow10 o.1
  have o5 := oT.1
  refine rt_for (fun k (s : Int32 × Int32) => s.1 = nI (rs d k) ∧ s.2 = nI k) K ?_ ?_ ⟨rfl, rfl⟩ (by omega)
  · rintro k ⟨s1, s2⟩ hk ⟨h1, h2⟩
    dsimp only at h1 h2
    subst h1 h2
    have hl := rs_lt o k
    have hb := hv k hk
    have hbn := tb_lt hl hb
    have o1 := o.1
    obtain ⟨z1, z2, z3⟩ := sb_in o hl hb
    unfold l_X12_row_47
    dsimp only
    rw [if_neg (nI_ge (by omega) (by omega)), if_pos (inb_nI (by omega) (by decide)), ix_nI (by omega), hp k (by omega), h.1, z1, lies_lit (nI (d 10 k)) 0 (nI (d 0 0) - 1) (by decide) rfl, if_neg z2, if_neg z3, rt_some, nx_l, wo_N (by omega)]
    exact ⟨rfl, nI_1 k⟩
  · rintro ⟨s1, s2⟩ ⟨h1, h2⟩
    dsimp only at h1 h2
    subst h1 h2
    have hl := rs_lt o K
    unfold l_X12_row_47
    dsimp only
    by_cases c0 : K = a
    · subst c0
      rw [if_pos (nI_le (Nat.le_refl _) (by omega)), rt_some, nx_r]
      exact ⟨fun _ => rfl, fun z => absurd z (Nat.lt_irrefl _)⟩
    · rw [if_neg (nI_ge (by omega) (by omega)), if_pos (inb_nI (by omega) (by decide)), ix_nI (by omega), hp K (by omega), h.1, lies_lit _ 0 (nI (d 0 0) - 1) (by decide) rfl]
      by_cases q : f_X11_within ((nI (d 10 K)).toInt8.toInt32) 0 (nI (d 0 0) - 1) = 0
      · rw [if_pos q, rt_some, nx_r]
        exact ⟨fun z => absurd z c0, fun _ => rfl⟩
      · rw [if_neg q, if_pos (sb_out o hl (oT.2.1 K) (hn (by omega)) q), rt_some, nx_r]
        exact ⟨fun z => absurd z c0, fun _ => rfl⟩
theorem m_row2 (o : Ok d C) (oT : OkT d) (h : MI d C w) (hp : ∀ k, k < d 0 5 → gI w 48 k = (nI (d 10 k)).toInt8.toInt32) {a : Nat} (ha : a ≤ 10) (ha5 : a ≤ d 0 5) (hv : ∀ j, j < a → (rs d j).testBit (d 10 j) = true) (x3 : Int32) : Rt (wh (l_X12_row_127 (nI a) x3) FUEL (nI (d 0 1), (0 : Int64), (-1 : Int32), (0 : Int32), w)) (fun p => p.1 = lN (rsum d C a) ∧ p.2.1 = oI (rfm d C a) ∧ ZQ d C w p.2.2) := by
  have p10 := pow10 o.1.1
  have o5 := oT.1
  refine rt_for (fun k (s : Int32 × Int64 × Int32 × Int32 × Mm) => s.1 = nI (rs d k) ∧ s.2.1 = lN (rsum d C k) ∧ s.2.2.1 = oI (rfm d C k) ∧ s.2.2.2.1 = nI k ∧ ZQ d C w s.2.2.2.2) a ?_ ?_ ⟨rfl, rfl, rfl, rfl, ZQ.rf h⟩ (by omega)
  · rintro k ⟨s1, s2, s3, s4, w1⟩ hk ⟨h1, h2, h3, h4, hq⟩
    dsimp only at h1 h2 h3 h4 hq
    subst h1 h2 h3 h4
    have hl := rs_lt o.1 k
    have hb := hv k hk
    have hbn := tb_lt hl hb
    have o1 := o.1.1
    obtain ⟨z1, -, -⟩ := sb_in o.1 hl hb
    have hg : gI w1 48 k = nI (d 10 k) := by rw [fx.I hq.1 (by unfold qsP; omega), hp k (by omega), z1]
    unfold l_X12_row_127
    dsimp only
    rw [if_neg (nI_ge (by omega) (by omega)), rt_onL, if_pos (inb_nI (by omega) (by decide)), ix_nI (by omega), hg, wo_N (by omega), rt_bind]
    refine ⟨hq.2.1, (m_talkOf o hq.2 (rs_lt o.1 (k + 1))).mono ?_⟩
    rintro ⟨v, w2⟩ ⟨e2, q2, m2, -⟩
    dsimp only at e2 q2 m2 ⊢
    subst e2
    have hq2 : ZQ d C w w2 := hq.tr ⟨q2, m2⟩
    cases e : rfm d C k with
    | some i =>
      have hi := rfm_lt k i e
      rw [show oI (some i) = nI i from rfl, if_neg (nm1 (by omega)), rt_bind, rt_mg, rt_some]
      dsimp only
      rw [rt_some, rt_some, nx_l]
      exact ⟨rfl, by rw [lN_add]; rfl, by rw [rfm, e]; rfl, nI_1 k, hq2⟩
    | none =>
      rw [show oI none = -1 from rfl, if_pos rfl, rt_bind, rt_mg, rt_onL, rt_bind]
      refine ⟨m2.1, (m_mustsOf o m2 (rs_lt o.1 (k + 1))).mono ?_⟩
      rintro ⟨v, w3⟩ ⟨e3, q3⟩
      dsimp only at e3 q3 ⊢
      subst e3
      by_cases z : mu d C (rs d (k + 1)) = 0
      · rw [if_pos ((mu_0 o.2.1).mpr z), rt_some]
        dsimp only
        rw [rt_some, rt_some, nx_l]
        exact ⟨rfl, by rw [lN_add]; rfl, by rw [rfm, e]; dsimp only; rw [if_pos z]; rfl, nI_1 k, hq2.tr q3⟩
      · rw [if_neg (fun y => z ((mu_0 o.2.1).mp y)), rt_some]
        dsimp only
        rw [rt_some, nx_l]
        exact ⟨rfl, by rw [lN_add]; rfl, by rw [rfm, e]; dsimp only; rw [if_neg z]; rfl, nI_1 k, hq2.tr q3⟩
  · rintro ⟨s1, s2, s3, s4, w1⟩ ⟨h1, h2, h3, h4, hq⟩
    dsimp only at h1 h2 h3 h4 hq
    subst h1 h2 h3 h4
    unfold l_X12_row_127
    dsimp only
    rw [if_pos (nI_le (Nat.le_refl _) (by omega)), rt_some, nx_r]
    exact ⟨rfl, rfl, hq⟩
end Rw
