/-! STRIKE, WORD -/
section Chg3
variable {d d' : Dt} {C : Ct} {w w' : Mm}
/-- nothing but WORDS is another -/
def lxO (d d' : Dt) : Prop := (∀ i, 5 ≤ i ∧ i ≤ 14 → d' i = d i) ∧ ∀ j, 3 ≤ j → d' 0 j = d 0 j
theorem lxO.M (h : lxO d d') (o : OkM d) : OkM d' := by
  unfold OkM
  rw [h.1 5 (by omega), h.1 6 (by omega), h.1 7 (by omega), h.1 8 (by omega), h.1 9 (by omega), h.2 3 (by omega), h.2 4 (by omega)]
  exact o
theorem lxO.Ck (h : lxO d d') (o : OkC d C) : OkC d' C := by
  unfold OkC
  rw [h.2 6 (by omega)]
  exact o
theorem lxO.T (h : lxO d d') (o : OkT d) (e0 : d 0 0 ≤ d' 0 0) : OkT d' := by
  unfold OkT
  rw [h.1 10 (by omega), h.1 11 (by omega), h.1 12 (by omega), h.1 13 (by omega), h.2 5 (by omega)]
  exact ⟨o.1, o.2.1, fun i hi => ⟨(o.2.2 i hi).1, (o.2.2 i hi).2.1, fun k hk => ⟨((o.2.2 i hi).2.2 k hk).1, fun q => ((o.2.2 i hi).2.2 k hk).2 (Nat.le_trans e0 q)⟩⟩⟩
theorem lxO.K (h : lxO d d') (k : KT d C w) (f : fx (fun c _ => 1 ≤ c ∧ c ≤ 5) w w') (hx : CLx d' w') (e0 : d 0 0 ≤ d' 0 0) (hB : ∀ k, k < 2 ^ d 0 0 → BF d' k = BF d k ∧ ∀ i, jl d' i k = jl d i k) (hS : ∀ i, i < 4 → fb_sm (fun k => d 13 (10 * i + k) * d' 3 k) 10 = fb_sm (fun k => d 13 (10 * i + k) * d 3 k) 10) : KT d' C w' ∧ cF w w' := by
  refine ⟨⟨ki_up k.1 f (fun c k z => by unfold kup; omega) hx ?_ (h.2 6 (by omega)) (h.2 7 (by omega)) e0 hB, k.2.1.of (h.2 5 (by omega)) (h.1 10 (by omega)) (f.I (by omega)) (fun j => f.I (by omega)), k.2.2.of (h.1 11 (by omega)) (h.1 12 (by omega)) (h.1 13 (by omega)) (h.1 14 (by omega)) hS (fun i j hi => f.I (by omega))⟩, fun c j hc => ?_⟩
  · unfold CDm
    rw [h.1 5 (by omega), h.1 6 (by omega), h.1 7 (by omega), h.1 8 (by omega), h.1 9 (by omega), h.2 3 (by omega), h.2 4 (by omega), f.I (by omega), f.I (by omega)]
    refine ⟨k.1.2.2.1.1, k.1.2.2.1.2.1, fun s hs => ?_, fun j hj => ?_⟩
    · rw [f.I (by omega)]; exact k.1.2.2.1.2.2.1 s hs
    · rw [f.I (by omega), f.I (by omega), f.I (by omega), f.I (by omega)]; exact k.1.2.2.1.2.2.2 j hj
  · unfold inM at hc
    exact ⟨f.I (by omega), f.L (by omega)⟩
theorem lxO.Mt (h : lxO d d') (k : MT d C w) (f : fx (fun c k => (c = 47 ∧ (k = 2 ∨ k = 4 ∨ k = 6)) ∨ (49 ≤ c ∧ c ≤ 52) ∨ c = 71 ∨ c = 73) w w') (hx : MLx d' w') (hb : MBr d' w') (ht : MTk d' C w') : MT d' C w' ∧ zF w w' := by
  refine ⟨⟨⟨f.lay k.1.1, hx, ?_, ?_, hb, ht⟩, k.2.1.of (h.2 5 (by omega)) (h.1 10 (by omega)) (f.I (by omega)) (fun j => f.I (by omega)), k.2.2.of (h.1 11 (by omega)) (h.1 12 (by omega)) (h.1 13 (by omega)) (h.1 14 (by omega)) (fun c j h1 h2 => f.I (by omega))⟩, fx.sub f (fun c j z => by unfold inM; omega)⟩
  · unfold MDm
    rw [h.1 5 (by omega), h.1 6 (by omega), h.1 7 (by omega), h.1 8 (by omega), h.1 9 (by omega), h.2 3 (by omega), h.2 4 (by omega), f.I (by omega), f.I (by omega)]
    refine ⟨k.1.2.2.1.1, k.1.2.2.1.2.1, fun s hs => ?_, fun j hj => ?_⟩
    · rw [f.I (by omega)]; exact k.1.2.2.1.2.2.1 s hs
    · rw [f.I (by omega), f.I (by omega), f.I (by omega), f.I (by omega)]; exact k.1.2.2.1.2.2.2 j hj
  · unfold MNr
    rw [h.2 6 (by omega), f.I (by omega)]
    exact ⟨k.1.2.2.2.1.1, fun w2 hw => k.1.2.2.2.1.2 w2 (fun c j hc => by rw [hw c j hc, f.I (by omega)])⟩
/-- a WORD is struck -/
def stk (d : Dt) (i : Nat) : Dt := up (up (up d 4 i (d 0 2 + 1)) 0 1 (wo (d 0 1) i)) 0 2 (d 0 2 + 1)
theorem st_strike (o : Ok d C) (oT : OkT d) (x1 : Int32) : StpB d C (f_X11_strike x1) (f_X12_strike x1) := by
  have p10 := pow10 o.1.1
  have hu := o.1.2.1
  by_cases c1 : f_X11_contains (nI (d 0 1)) x1 = 0
  · exact stay o oT (-1) (fun w h => by unfold f_X11_strike f_X3_strikeOut; rw [h.1.U, if_pos c1, Option.bind_some]) (fun w h => by unfold f_X12_strike; rw [m_isUsed o.1 h.1.2.1, Option.bind_some, if_pos c1])
  obtain ⟨i, hi, rfl, hb⟩ := contains_of (by omega) c1
  have hd : lxO d (stk d i) := ⟨fun j hj => by unfold stk; rw [up_r _ (by omega), up_r _ (by omega), up_r _ (by omega)], fun j hj => by unfold stk; rw [up_o _ (by omega), up_o _ (by omega), up_o _ (by omega)]⟩
  have e0 : stk d i 0 0 = d 0 0 := by unfold stk; rw [up_o _ (by omega), up_o _ (by omega), up_o _ (by omega)]
  have e1 : stk d i 0 1 = wo (d 0 1) i := by unfold stk; rw [up_o _ (by omega), up_s]
  have e2 : stk d i 0 2 = d 0 2 + 1 := up_s _ _ _ _
  have r1 : stk d i 1 = d 1 := by unfold stk; rw [up_r _ (by omega), up_r _ (by omega), up_r _ (by omega)]
  have r2 : stk d i 2 = d 2 := by unfold stk; rw [up_r _ (by omega), up_r _ (by omega), up_r _ (by omega)]
  have r3 : stk d i 3 = d 3 := by unfold stk; rw [up_r _ (by omega), up_r _ (by omega), up_r _ (by omega)]
  have r4 : ∀ k, stk d i 4 k = if k = i then d 0 2 + 1 else d 4 k := fun k => by simp [stk, up]
  have oL : OkL (stk d i) := by
    unfold OkL
    rw [e0, e1, r1, r2, r3]
    exact ⟨o.1.1, wo_lt hu, o.1.2.2⟩
  refine ⟨nI (d 0 2), stk d i, C, ⟨oL, hd.M o.2.1, hd.Ck o.2.2⟩, hd.T oT (by rw [e0]; exact Nat.le_refl _), by rw [hd.2 7 (by omega)]; omega, fun w h => ?_, fun w h => ?_⟩
  · unfold f_X11_strike f_X3_strikeOut
    have hy : gI w 1 6 = nI (d 0 2) := h.1.2.1.2.2.1
    rw [h.1.U, if_neg c1, if_pos (inb_nI (by omega) (by decide)), Option.bind_some, rt_some, ix_nI (by omega), hy, without_N (by omega)]
    dsimp only
    refine ⟨by rw [nI_1, nI_pred], hd.K h (((fx.sI (by omega)).tr (fx.sI (by omega))).tr (fx.sI (by omega))) ?_ (by rw [e0]; exact Nat.le_refl _) (fun t _ => BF_of r1 r2 r3 t) (fun j _ => by rw [r3])⟩
    unfold CLx
    rw [e0, e1, e2, r1, r2, r3]
    refine ⟨h.1.2.1.1, by simp [gI_sI], by simp [gI_sI, nI_1], fun k hk => ?_⟩
    have z := h.1.2.1.2.2.2 k hk
    rw [r4]
    refine ⟨z.1, z.2.1, z.2.2.1, ?_⟩
    by_cases q : k = i
    · rw [if_pos q, nI_pred]; simp [gI_sI, q]
    · rw [if_neg q]; simp [gI_sI, q]; exact z.2.2.2
  · unfold f_X12_strike
    have hy : gI w 47 4 = nI (d 0 2) := h.1.2.1.2.2.1
    rw [m_isUsed o.1 h.1.2.1, Option.bind_some, if_neg c1, if_pos (inb_nI (by omega) (by decide)), rt_some, ix_nI (by omega), hy, h.1.U, wo_N (by omega)]
    have f : fx (fun c k => (c = 47 ∧ (k = 2 ∨ k = 4 ∨ k = 6)) ∨ (49 ≤ c ∧ c ≤ 52) ∨ c = 71 ∨ c = 73) w (sI (sI (sI w 47 6 (nI (wo (d 0 1) i))) 52 i (nI (d 0 2))) 47 4 (nI (d 0 2) + 1)) := ((fx.sI (by omega)).tr (fx.sI (by omega))).tr (fx.sI (by omega))
    have f2 : fx (fun c k => (c = 47 ∧ (k = 2 ∨ k = 4 ∨ k = 6)) ∨ (49 ≤ c ∧ c ≤ 52)) w (sI (sI (sI w 47 6 (nI (wo (d 0 1) i))) 52 i (nI (d 0 2))) 47 4 (nI (d 0 2) + 1)) := ((fx.sI (by omega)).tr (fx.sI (by omega))).tr (fx.sI (by omega))
    refine ⟨by rw [nI_1, nI_pred], hd.Mt h f ?_ ?_ ?_⟩
    · unfold MLx
      rw [e0, e1, e2, r1, r2, r3]
      refine ⟨h.1.2.1.1, by simp [gI_sI], by simp [gI_sI, nI_1], fun k hk => ?_⟩
      have z := h.1.2.1.2.2.2 k hk
      rw [r4]
      refine ⟨z.1, z.2.1, z.2.2.1, ?_⟩
      by_cases q : k = i
      · rw [if_pos q, nI_pred]; simp [gI_sI, q]
      · rw [if_neg q]; simp [gI_sI, q]; exact z.2.2.2
    · have z := h.1.2.2.2.2.1.fx f2 (fun k => by omega) (fun k => by omega)
      intro t ht
      rw [e0] at ht
      rcases z t ht with y | y
      · exact Or.inl y
      · exact Or.inr (fun m hm => by rw [(BF_of r1 r2 r3 t).1]; exact y m hm)
    · have z := h.1.2.2.2.2.2.fx f2 (fun k => by omega) (fun k => by omega) (fun k => by omega)
      intro t ht
      rw [e0] at ht
      have x := tk_o3 (C := C) r1 r2 r3 ⟨hd.2 3 (by omega), hd.2 4 (by omega), hd.1 6 (by omega), hd.1 7 (by omega), hd.1 8 (by omega), hd.1 9 (by omega)⟩ t
      rcases z t ht with y | y
      · exact Or.inl y
      · exact Or.inr ⟨fun s hs => by rw [x.1]; exact y.1 s hs, by rw [x.2]; exact y.2⟩
/-- a WORD more -/
def wrd (d : Dt) (a b c : Nat) : Dt := up (up (up (up (up (up d 1 (d 0 0) a) 2 (d 0 0) b) 3 (d 0 0) c) 4 (d 0 0) 0) 0 1 (d 0 1 + 2 ^ d 0 0)) 0 0 (d 0 0 + 1)
theorem BF_wrd {a b c t : Nat} (ht : t < 2 ^ d 0 0) : BF (wrd d a b c) t = BF d t ∧ ∀ i, jl (wrd d a b c) i t = jl d i t := by
  have e1 : ∀ s, wrd d a b c 1 s = if s = d 0 0 then a else d 1 s := fun s => by simp [wrd, up]
  have e2 : ∀ s, wrd d a b c 2 s = if s = d 0 0 then b else d 2 s := fun s => by simp [wrd, up]
  have e3 : ∀ s, wrd d a b c 3 s = if s = d 0 0 then c else d 3 s := fun s => by simp [wrd, up]
  have hn : ∀ i, t.testBit i = true → i ≠ d 0 0 := fun i hi => by have := tb_lt ht hi; omega
  have hw : ∀ i, jw (wrd d a b c) i t = jw d i t := fun i => by
    unfold jw
    refine amin_cong (fun j _ => ?_) (fun j _ hp => ?_)
    · cases q : t.testBit j with
      | false => simp
      | true => rw [e1, if_neg (hn j q)]
    · have q : t.testBit j = true := by
        cases q : t.testBit j with
        | false => rw [q] at hp; simp at hp
        | true => rfl
      rw [e3, if_neg (hn j q)]
  have hj : ∀ i, jl (wrd d a b c) i t = jl d i t := fun i => by
    unfold jl
    rw [hw]
    cases q : jw d i t with
    | none => rfl
    | some j =>
      have hp := (amin_some q).2.1
      simp at hp
      dsimp only
      rw [e3, if_neg (hn j hp.1)]
  refine ⟨funext (fun m => ?_), hj⟩
  unfold BF
  rw [hj, hj, hj]
  have : Gd (wrd d a b c) t = Gd d t := by
    funext m x
    apply propext
    unfold Gd
    constructor
    · rintro ⟨i, h1, h2, h3, h4, h5⟩
      rw [e1, if_neg (hn i h2)] at h3
      rw [e2, if_neg (hn i h2)] at h4
      rw [e3, if_neg (hn i h2)] at h5
      exact ⟨i, h1, h2, h3, h4, h5⟩
    · rintro ⟨i, h1, h2, h3, h4, h5⟩
      exact ⟨i, h1, h2, by rw [e1, if_neg (hn i h2)]; exact h3, by rw [e2, if_neg (hn i h2)]; exact h4, by rw [e3, if_neg (hn i h2)]; exact h5⟩
  rw [this]
theorem or_pow {t n : Nat} (h : t < 2 ^ n) (hn : n ≤ 10) : nI t ||| nI (2 ^ n) = nI (t + 2 ^ n) := by
  have h1 := pow10 hn
  have h2 := Nat.two_pow_add_eq_or_of_lt h 1
  rw [Nat.mul_one] at h2
  rw [fa_or, Nat.or_comm, ← h2, Nat.add_comm]
theorem m_wordL (hL : Lay w) : Rt (wh l_X12_word_110 FUEL ((0 : Int32), w)) (fun w' => fx (fun c _ => c = 71) w w' ∧ ∀ t, t < 1024 → gI w' 71 t = 0) := by
  refine (rt_for (fun k s => s.1 = nI k ∧ fx (fun c _ => c = 71) w s.2 ∧ ∀ t, t < k → gI s.2 71 t = 0) 1024 (Q := fun w' => fx (fun c _ => c = 71) w w' ∧ ∀ t, t < 1024 → gI w' 71 t = 0) ?_ ?_ ⟨rfl, fx.rf, fun t ht => absurd ht (Nat.not_lt_zero t)⟩ (by decide))
  · rintro k ⟨i, w1⟩ hk ⟨h1, h2, h3⟩
    dsimp only at h1 h2 h3
    subst h1
    unfold l_X12_word_110
    dsimp only
    rw [if_neg (show ¬ (1024 : Int32) ≤ nI k from nI_ge (b := 1024) hk (by decide)), rt_onL, if_pos (inb_nI hk (by decide)), rt_some, ix_nI (by omega), nar_0]
    refine ⟨h2.lay hL, nI_1 k, h2.tr (fx.sI rfl), fun t ht => ?_⟩
    rw [gI_sI]
    by_cases e : t = k
    · rw [if_pos ⟨rfl, e⟩]
    · rw [if_neg (fun z => e z.2)]; exact h3 t (by omega)
  · rintro ⟨i, w1⟩ ⟨h1, h2, h3⟩
    dsimp only at h1 h2 h3
    subst h1
    unfold l_X12_word_110
    dsimp only
    rw [if_pos (by decide), rt_some]
    exact ⟨h2, h3⟩
theorem st_word (o : Ok d C) (oT : OkT d) (x1 x2 x3 : Int32) : StpB d C (f_X11_word x1 x2 x3) (f_X12_word x1 x2 x3) := by
  have o1 := o.1.1
  by_cases c0 : d 0 0 = 10
  · refine stay o oT (-1) (fun w h => ?_) (fun w h => ?_)
    · unfold f_X11_word f_X3_add
      rw [h.1.2.1.1, c0, if_neg (show ¬ nI 10 < 0 by decide), if_neg (show ¬ nI 10 < 10 by decide)]
      simp only [Option.bind_some, ite_self]
    · unfold f_X12_word
      rw [h.1.2.1.1, c0, if_pos (show nI 10 = 10 by decide)]
  have c00 : ¬ nI (d 0 0) = 10 := fun z => c0 ((nI_eq (b := 10) (by omega) (by decide)).mp z)
  by_cases c1 : f_X11_within x1 0 3 = 0
  · exact stay o oT (-1) (fun w h => by unfold f_X11_word; rw [if_pos c1]) (fun w h => by unfold f_X12_word; rw [h.1.2.1.1, if_neg c00, lies_lit x1 0 3 (by decide) (by decide), if_pos c1])
  by_cases c2 : f_X11_within x2 0 63 = 0
  · exact stay o oT (-1) (fun w h => by unfold f_X11_word; rw [if_neg c1, if_pos c2]) (fun w h => by unfold f_X12_word; rw [h.1.2.1.1, if_neg c00, lies_lit x1 0 3 (by decide) (by decide), if_neg c1, m_isMeaning, if_pos c2])
  by_cases c3 : f_X11_within x3 1 9 = 0
  · exact stay o oT (-1) (fun w h => by unfold f_X11_word; rw [if_neg c1, if_neg c2, if_pos c3]) (fun w h => by unfold f_X12_word; rw [h.1.2.1.1, if_neg c00, lies_lit x1 0 3 (by decide) (by decide), if_neg c1, m_isMeaning, if_neg c2, lies_lit x3 1 9 (by decide) (by decide), if_pos c3])
  obtain ⟨a, -, ha, rfl⟩ := within_c 0 3 (by decide) (by decide) c1
  obtain ⟨b, -, hb, rfl⟩ := within_c 0 63 (by decide) (by decide) c2
  obtain ⟨c, hc0, hc, rfl⟩ := within_c 1 9 (by decide) (by decide) c3
  have hd : lxO d (wrd d a b c) := ⟨fun j hj => by unfold wrd; rw [up_r _ (by omega), up_r _ (by omega), up_r _ (by omega), up_r _ (by omega), up_r _ (by omega), up_r _ (by omega)], fun j hj => by unfold wrd; rw [up_o _ (by omega), up_o _ (by omega), up_o _ (by omega), up_o _ (by omega), up_o _ (by omega), up_o _ (by omega)]⟩
  have e0 : wrd d a b c 0 0 = d 0 0 + 1 := up_s _ _ _ _
  have e01 : wrd d a b c 0 1 = d 0 1 + 2 ^ d 0 0 := by unfold wrd; rw [up_o _ (by omega), up_s]
  have e02 : wrd d a b c 0 2 = d 0 2 := by unfold wrd; rw [up_o _ (by omega), up_o _ (by omega), up_o _ (by omega), up_o _ (by omega), up_o _ (by omega), up_o _ (by omega)]
  have e1 : ∀ s, wrd d a b c 1 s = if s = d 0 0 then a else d 1 s := fun s => by simp [wrd, up]
  have e2 : ∀ s, wrd d a b c 2 s = if s = d 0 0 then b else d 2 s := fun s => by simp [wrd, up]
  have e3 : ∀ s, wrd d a b c 3 s = if s = d 0 0 then c else d 3 s := fun s => by simp [wrd, up]
  have e4 : ∀ s, wrd d a b c 4 s = if s = d 0 0 then 0 else d 4 s := fun s => by simp [wrd, up]
  have hu := o.1.2.1
  have oL : OkL (wrd d a b c) := by
    unfold OkL
    rw [e0, e01]
    refine ⟨by omega, by rw [Nat.pow_succ]; omega, fun k hk => ?_, fun k hk => ?_⟩
    · have z := o.1.2.2.1 k hk
      rw [e1, e2, e3]
      by_cases q : k = d 0 0
      · rw [if_pos q, if_pos q, if_pos q]; omega
      · rw [if_neg q, if_neg q, if_neg q]; exact z
    · rw [e3]
      by_cases q : k = d 0 0
      · rw [if_pos q]; exact hc0
      · rw [if_neg q]; exact o.1.2.2.2 k (by omega)
  have hn10 : d 0 0 < 10 := by omega
  refine ⟨nI (d 0 0), wrd d a b c, C, ⟨oL, hd.M o.2.1, hd.Ck o.2.2⟩, hd.T oT (by rw [e0]; omega), by rw [hd.2 7 (by omega)]; omega, fun w h => ?_, fun w h => ?_⟩
  · unfold f_X11_word f_X3_add
    rw [if_neg c1, if_neg c2, if_neg c3, h.1.2.1.1, if_neg (nI_pos (by omega)), if_pos (show nI (d 0 0) < 10 from nI_lt (b := 10) hn10 (by decide)), if_pos (inb_nI hn10 (by decide)), Option.bind_some, rt_some, ix_nI (by omega), h.1.U, sh1_N (by omega), or_pow hu o1]
    dsimp only
    refine ⟨by rw [nI_1, nI_pred], hd.K h ((((((fx.sI (by omega)).tr (fx.sI (by omega))).tr (fx.sI (by omega))).tr (fx.sI (by omega))).tr (fx.sI (by omega))).tr (fx.sI (by omega))) ?_ (by rw [e0]; omega) (fun t ht => BF_wrd ht) (fun j hj => ?_)⟩
    · unfold CLx
      rw [e0, e01, e02]
      refine ⟨by rw [gI_sI, if_pos ⟨rfl, rfl⟩, nI_1], by simp [gI_sI], h.1.2.1.2.2.1, fun k hk => ?_⟩
      have z := h.1.2.1.2.2.2 k hk
      rw [e1, e2, e3, e4]
      by_cases q : k = d 0 0
      · rw [if_pos q, if_pos q, if_pos q, if_pos q, show nI 0 - 1 = -1 by decide]; simp [gI_sI, q]
      · rw [if_neg q, if_neg q, if_neg q, if_neg q]; simp [gI_sI, q]; exact z
    · refine fb_sm_cong (fun k hk => ?_)
      rw [e3]
      by_cases q : k = d 0 0
      · rw [((oT.2.2 j hj).2.2 k hk).2 (by omega), Nat.zero_mul, Nat.zero_mul]
      · rw [if_neg q]
  · unfold f_X12_word
    rw [h.1.2.1.1, if_neg c00, lies_lit (nI a) 0 3 (by decide) (by decide), if_neg c1, m_isMeaning, if_neg c2, lies_lit (nI c) 1 9 (by decide) (by decide), if_neg c3, if_pos (inb_nI hn10 (by decide)), rt_bind, ix_nI (by omega), h.1.U, sh1_N (by omega), or_pow hu o1]
    refine (m_wordL (w := sI (sI (sI (sI (sI (sI w 49 (d 0 0) (nI a)) 50 (d 0 0) (nI b)) 51 (d 0 0) (nI c)) 52 (d 0 0) (-1)) 47 6 (nI (d 0 1 + 2 ^ d 0 0))) 47 2 (nI (d 0 0) + 1)) h.1.1).mono ?_
    rintro w1 ⟨f1, hz1⟩
    rw [rt_onL, rt_bind]
    refine ⟨f1.lay h.1.1, (m_changes (f1.lay h.1.1)).mono ?_⟩
    rintro w2 ⟨f2, hz2⟩
    have f := (f1.sub (Q := fun c _ => c = 71 ∨ c = 73) (fun c k z => by omega)).tr (f2.sub (fun c k z => by omega))
    have g1 : gI w2 47 2 = nI (d 0 0 + 1) := by rw [f.I (by omega)]; rw [gI_sI, if_pos ⟨rfl, rfl⟩, nI_1]
    rw [rt_onL, rt_some, g1]
    refine ⟨f.lay h.1.1, nI_pred _, hd.Mt h (((((((fx.sI (by omega)).tr (fx.sI (by omega))).tr (fx.sI (by omega))).tr (fx.sI (by omega))).tr (fx.sI (by omega))).tr (fx.sI (by omega))).tr (f.sub (fun c k z => by omega))) ?_ ?_ (MTk.z hz2 oL)⟩
    · unfold MLx
      rw [e0, e01, e02]
      refine ⟨g1, by rw [f.I (by omega)]; simp [gI_sI], by rw [f.I (by omega)]; exact h.1.2.1.2.2.1, fun k hk => ?_⟩
      have z := h.1.2.1.2.2.2 k hk
      rw [e1, e2, e3, e4, f.I (by omega), f.I (by omega), f.I (by omega), f.I (by omega)]
      by_cases q : k = d 0 0
      · rw [if_pos q, if_pos q, if_pos q, if_pos q, show nI 0 - 1 = -1 by decide]; simp [gI_sI, q]
      · rw [if_neg q, if_neg q, if_neg q, if_neg q]; simp [gI_sI, q]; exact z
    · intro t ht
      left
      rw [f2.I (by omega)]
      exact hz1 t (by have := pow10 oL.1; omega)
end Chg3
