/-! the whole state: the tape and the LAWS too; a step of both -/
def CTp (d : Dt) (w : Mm) : Prop := gI w 12 1 = nI (d 0 5) ∧ ∀ k, k < d 0 5 → gI w 13 k = nI (d 10 k)
def MTp (d : Dt) (w : Mm) : Prop := gI w 47 1 = nI (d 0 5) ∧ ∀ k, k < d 0 5 → gI w 48 k = (nI (d 10 k)).toInt8.toInt32
/-- the letters of a LAW, as a set -/
def lmk (f : Nat → Bool) : Nat → Nat
  | 0 => 0
  | n + 1 => lmk f n ||| (if f n = true then 2 ^ n else 0)
def CLw (d : Dt) (w : Mm) : Prop := ∀ i, i < 4 → gI w (36 + i) 2 = nI (d 11 i) ∧ gI w (36 + i) 3 = nI (d 12 i) ∧ gI w (36 + i) 4 = nI (lmk (fun k => decide (0 < d 13 (10 * i + k))) 10) ∧ gI w (36 + i) 5 = nI (fb_sm (fun k => d 13 (10 * i + k) * d 3 k) 10) ∧ gI w (36 + i) 6 = nI (d 14 (4 * i + 1)) ∧ gI w (36 + i) 7 = nI (d 14 (4 * i + 2)) ∧ gI w (36 + i) 8 = nI (d 14 (4 * i + 3))
def MLw (d : Dt) (w : Mm) : Prop := ∀ i, i < 4 → gI w 79 i = nI (d 11 i) ∧ gI w 80 i = nI (d 12 i) ∧ (∀ k, k < 10 → gI w 81 (10 * i + k) = nI (d 13 (10 * i + k))) ∧ ∀ k, k < 4 → gI w 82 (4 * i + k) = nI (d 14 (4 * i + k))
def OkT (d : Dt) : Prop := d 0 5 ≤ 300 ∧ (∀ k, d 10 k < 256) ∧ ∀ i, i < 4 → d 11 i ≤ 1 ∧ d 12 i < 64 ∧ ∀ k, k < 10 → d 13 (10 * i + k) ≤ 300 ∧ (d 0 0 ≤ k → d 13 (10 * i + k) = 0)
def KT (d : Dt) (C : Ct) (w : Mm) : Prop := KI d C w ∧ CTp d w ∧ CLw d w
def MT (d : Dt) (C : Ct) (w : Mm) : Prop := MI d C w ∧ MTp d w ∧ MLw d w
/-- the reference's cells stay -/
def cF (w w' : Mm) : Prop := ∀ c k, inM c → gI w' c k = gI w c k ∧ gL w' c k = gL w c k
def zF (w w' : Mm) : Prop := fx (fun c _ => inM c) w w'
def StpB {α : Type} (d : Dt) (C : Ct) (f g : Mm → Option (α × Mm)) : Prop := ∃ v d' C', Ok d' C' ∧ OkT d' ∧ d' 0 7 ≤ d 0 7 + 1 ∧ (∀ w, KT d C w → Rt (f w) (fun p => p.1 = v ∧ KT d' C' p.2 ∧ cF w p.2)) ∧ ∀ w, MT d C w → Rt (g w) (fun p => p.1 = v ∧ MT d' C' p.2 ∧ zF w p.2)
section Stps
variable {d d' : Dt} {C : Ct} {w w' : Mm}
theorem CTp.of (h : CTp d w) (e : d' 0 5 = d 0 5) (e2 : d' 10 = d 10) (h1 : gI w' 12 1 = gI w 12 1) (h2 : ∀ k, gI w' 13 k = gI w 13 k) : CTp d' w' := ⟨by rw [h1, e]; exact h.1, fun k hk => by rw [h2, e2]; exact h.2 k (by omega)⟩
theorem MTp.of (h : MTp d w) (e : d' 0 5 = d 0 5) (e2 : d' 10 = d 10) (h1 : gI w' 47 1 = gI w 47 1) (h2 : ∀ k, gI w' 48 k = gI w 48 k) : MTp d' w' := ⟨by rw [h1, e]; exact h.1, fun k hk => by rw [h2, e2]; exact h.2 k (by omega)⟩
theorem CLw.of (h : CLw d w) (e1 : d' 11 = d 11) (e2 : d' 12 = d 12) (e3 : d' 13 = d 13) (e4 : d' 14 = d 14) (e5 : ∀ i, i < 4 → fb_sm (fun k => d 13 (10 * i + k) * d' 3 k) 10 = fb_sm (fun k => d 13 (10 * i + k) * d 3 k) 10) (h1 : ∀ i k, i < 4 → gI w' (36 + i) k = gI w (36 + i) k) : CLw d' w' := by
  intro i hi
  rw [h1 i _ hi, h1 i _ hi, h1 i _ hi, h1 i _ hi, h1 i _ hi, h1 i _ hi, h1 i _ hi, e1, e2, e3, e4, e5 i hi]
  exact h i hi
theorem MLw.of (h : MLw d w) (e1 : d' 11 = d 11) (e2 : d' 12 = d 12) (e3 : d' 13 = d 13) (e4 : d' 14 = d 14) (h1 : ∀ c k, 79 ≤ c → c ≤ 82 → gI w' c k = gI w c k) : MLw d' w' := by
  intro i hi
  rw [e1, e2, e3, e4, h1 79 _ (by omega) (by omega), h1 80 _ (by omega) (by omega)]
  refine ⟨(h i hi).1, (h i hi).2.1, fun k hk => ?_, fun k hk => ?_⟩
  · rw [h1 81 _ (by omega) (by omega)]; exact (h i hi).2.2.1 k hk
  · rw [h1 82 _ (by omega) (by omega)]; exact (h i hi).2.2.2 k hk
theorem KT.zF (h : KT d C w) (f : zF w w') : KT d C w' := ⟨h.1.fx f (fun c k z => by unfold inM at z; unfold kfree; omega), h.2.1.of rfl rfl (f.I (by unfold inM; omega)) (fun k => f.I (by unfold inM; omega)), h.2.2.of rfl rfl rfl rfl (fun _ _ => rfl) (fun i k hi => f.I (by unfold inM; omega))⟩
theorem MT.cF (h : MT d C w) (f : cF w w') (hL : Lay w') : MT d C w' := by
  obtain ⟨⟨-, ⟨x1, x2, x3, x4⟩, ⟨d1, d2, d3, d4⟩, ⟨n1, n2⟩, hb, ht⟩, hp, hw⟩ := h
  have q : ∀ c k, 47 ≤ c ∧ c < 87 → gI w' c k = gI w c k := fun c k hc => (f c k hc).1
  refine ⟨⟨hL, ⟨by rw [q _ _ (by omega)]; exact x1, by rw [q _ _ (by omega)]; exact x2, by rw [q _ _ (by omega)]; exact x3, fun k hk => by rw [q _ _ (by omega), q _ _ (by omega), q _ _ (by omega), q _ _ (by omega)]; exact x4 k hk⟩, ⟨by rw [q _ _ (by omega)]; exact d1, by rw [q _ _ (by omega)]; exact d2, fun k hk => by rw [q _ _ (by omega)]; exact d3 k hk, fun k hk => by rw [q _ _ (by omega), q _ _ (by omega), q _ _ (by omega), q _ _ (by omega)]; exact d4 k hk⟩, ⟨by rw [q _ _ (by omega)]; exact n1, fun w2 hw2 => n2 w2 (fun c k hc => by rw [hw2 c k hc, q _ _ (by omega)])⟩, ?_, ?_⟩, hp.of rfl rfl (q _ _ (by omega)) (fun k => q _ _ (by omega)), hw.of rfl rfl rfl rfl (fun c k h1 h2 => q _ _ (by omega))⟩
  · intro t ht
    rcases hb t ht with z | z
    · left; rw [q _ _ (by omega)]; exact z
    · right; intro m hm; rw [q _ _ (by omega)]; exact z m hm
  · intro t htt
    rcases ht t htt with z | z
    · left; rw [q _ _ (by omega)]; exact z
    · right; exact ⟨fun s hs => by rw [(f 74 _ (by unfold inM; omega)).2]; exact z.1 s hs, by rw [q _ _ (by omega)]; exact z.2⟩
/-- two that agree take a step that changes nothing -/
theorem Agree.stp {α : Type} {f g : Mm → Option (α × Mm)} (o : Ok d C) (oT : OkT d) (h : Agree d C f g) : StpB d C f g := by
  obtain ⟨v, h1, h2⟩ := h
  refine ⟨v, d, C, o, oT, by omega, fun w hw => (h1 w hw.1).mono ?_, fun w hw => (h2 w hw.1).mono ?_⟩
  · rintro p ⟨e, k, q⟩
    refine ⟨e, ⟨k, hw.2.1.of rfl rfl (q _ _ (by unfold cB; omega)).1 (fun j => (q _ _ (by unfold cB; omega)).1), hw.2.2.of rfl rfl rfl rfl (fun _ _ => rfl) (fun i j hi => (q _ _ (by unfold cB; omega)).1)⟩, fun c j hc => q c j (Or.inr hc)⟩
  · rintro p ⟨e, q, m⟩
    exact ⟨e, ⟨m, hw.2.1.of rfl rfl (q.I (by unfold mB; omega)) (fun j => q.I (by unfold mB; omega)), hw.2.2.of rfl rfl rfl rfl (fun c j h1 h2 => q.I (by unfold mB; omega))⟩, fx.sub q (fun c k z => z.1)⟩
theorem cF.rf : cF w w := fun _ _ _ => ⟨rfl, rfl⟩
theorem cF.sI {c k : Nat} {v : Int32} (h : cF w w') (hc : c < 47) : cF w (sI w' c k v) := fun c' k' h' => ⟨by rw [gI_sI, if_neg (by unfold inM at h'; omega)]; exact (h c' k' h').1, (h c' k' h').2⟩
theorem zF.rf : zF w w := fx.rf
theorem zF.sI {c k : Nat} {v : Int32} (h : zF w w') (hc : inM c) : zF w (sI w' c k v) := fx.tr h (fx.sI hc)
/-- what the class keeps when its state is changed -/
def kup (c : Nat) : Prop := c < 87 ∧ c ≠ 14 ∧ c ≠ 16 ∧ ¬ (17 ≤ c ∧ c ≤ 21) ∧ c ≠ 24 ∧ c ≠ 25
theorem ki_up {P : Nat → Nat → Prop} (h : KI d C w) (f : fx P w w') (hP : ∀ c k, P c k → kup c) (hx : CLx d' w') (hd : CDm d' w') (e6 : d' 0 6 = d 0 6) (e7 : d' 0 7 = d 0 7) (e0 : d 0 0 ≤ d' 0 0) (hB : ∀ k, k < 2 ^ d 0 0 → BF d' k = BF d k ∧ ∀ i, jl d' i k = jl d i k) : KI d' C w' := by
  obtain ⟨hL, -, -, hn, ⟨own, hO, hO2, st, hst, h8⟩, hR⟩ := h
  have q : ∀ c k, ¬ kup c → gI w' c k = gI w c k ∧ gL w' c k = gL w c k := fun c k hc => ⟨f.I (fun z => hc (hP c k z)), f.L (fun z => hc (hP c k z))⟩
  have nf : ∀ c, 87 ≤ c ∨ c = 24 → ¬ kup c := fun c hc => by unfold kup; omega
  refine ⟨f.lay hL, hx, hd, ?_, ⟨own, fun k a hk ha => ?_, fun p hp => ?_, st, by rw [e7]; exact hst, ?_⟩, ?_⟩
  · have := hn.fx f (fun c k z hz => by have := hP c k hz; unfold kup at this; omega)
    unfold CNr at this ⊢
    rw [e6, e7]
    exact this
  · rw [f.R] at ha
    obtain ⟨q0, q1, q2, q3, q4, q5⟩ := hO k a hk ha
    have hB' := hB k q0
    have hs := q5.st (w' := w') (fun j => (q a j (nf _ (by omega))).1) (fun j => (q _ j (nf _ (by omega))).1) (q a 7 (nf _ (by omega))).2 (fun j => f.R a j) (fun c _ => f.K c) (fun p hp j => (q p j (nf _ (by have := (q4 p hp).1; omega))).1)
    refine ⟨Nat.lt_of_lt_of_le q0 (Nat.pow_le_pow_right (by decide) e0), q1, q2, q3, fun p hp => by rw [f.R] at hp; rw [f.ml]; exact q4 p hp, ?_⟩
    unfold SpOk at hs ⊢
    rw [hB'.1, hB'.2, hB'.2, hB'.2, e7]
    exact hs
  · rw [f.R] at hp
    rw [f.K, f.ml]
    exact hO2 p hp
  · rw [(q 24 8 (nf _ (by omega))).1]; exact h8
  · unfold Rm at hR ⊢
    rw [f.ml, f.ms, f.R, show rm w' = rm w from funext (fun k => rm_cong (f.R _ _) (fun a _ => f.R _ _))]
    exact hR
theorem m_changes (hL : Lay w) : Rt (f_X12_changes w) (fun w' => fx (fun c _ => c = 73) w w' ∧ ∀ t, t < 1024 → gI w' 73 t = 0) := by
  unfold f_X12_changes
  rw [rt_bind]
  refine (rt_for (fun k s => s.1 = nI k ∧ fx (fun c _ => c = 73) w s.2 ∧ ∀ t, t < k → gI s.2 73 t = 0) 1024 (Q := fun w' => fx (fun c _ => c = 73) w w' ∧ ∀ t, t < 1024 → gI w' 73 t = 0) ?_ ?_ ⟨rfl, fx.rf, fun t ht => absurd ht (Nat.not_lt_zero t)⟩ (by decide)).mono (fun w' h => by rw [rt_some]; exact h)
  · rintro k ⟨i, w1⟩ hk ⟨h1, h2, h3⟩
    dsimp only at h1 h2 h3
    subst h1
    unfold l_X12_changes_2
    dsimp only
    rw [if_neg (show ¬ (1024 : Int32) ≤ nI k from nI_ge (b := 1024) hk (by decide)), rt_onL, if_pos (inb_nI hk (by decide)), rt_some, ix_nI (by omega), nar_0]
    refine ⟨h2.lay hL, nI_1 k, h2.tr (fx.sI rfl), fun t ht => ?_⟩
    rw [gI_sI]
    by_cases e : t = k
    · rw [if_pos ⟨rfl, e⟩]
    · rw [if_neg (fun z => e z.2)]; exact h3 t (by omega)
  · rintro ⟨i, w1⟩ ⟨h1, h2, h3⟩
    dsimp only at h1 h2 h3
    subst h1
    unfold l_X12_changes_2
    dsimp only
    rw [if_pos (by decide), rt_some]
    exact ⟨h2, h3⟩
end Stps
