/-! VOTES, the class's -/
section KVote
variable {d : Dt} {C : Ct} {w : Mm}
def cr (w w' : Mm) : Prop := ∀ c k, c < 87 → c ≠ 24 → c ≠ 25 → ¬ scN c k → gI w' c k = gI w c k ∧ (c ≠ 42 → gL w' c k = gL w c k)
theorem cr.rf {w : Mm} : cr w w := fun _ _ _ _ _ _ => ⟨rfl, fun _ => rfl⟩
theorem cr.tr {w w' w'' : Mm} (h : cr w w') (h' : cr w' w'') : cr w w'' := fun c k h1 h2 h3 h4 => ⟨(h' c k h1 h2 h3 h4).1.trans (h c k h1 h2 h3 h4).1, fun z => ((h' c k h1 h2 h3 h4).2 z).trans ((h c k h1 h2 h3 h4).2 z)⟩
theorem cs.r {w w' : Mm} (h : cs w w') : cr w w' := fun c k h1 h2 h3 h4 => ⟨(h c k h1 h2 h3 h4).1, fun _ => (h c k h1 h2 h3 h4).2⟩
theorem cr.q {w w' : Mm} (h : cr w w') : cq w w' := fun c k hc => by
  have := h c k (by unfold cB inM at hc; omega) (by unfold cB inM at hc; omega) (by unfold cB inM at hc; omega) (by unfold cB inM at hc; unfold scN; omega)
  exact ⟨this.1, this.2 (by unfold cB inM at hc; omega)⟩
/-- how many of those in use stand ahead of x, by g -/
def cg (d : Dt) (g : Nat → Int64) (x n : Nat) : Nat := fb_ct (fun v => (d 0 1).testBit v && decide ((g v).toInt < (g x).toInt ∨ (g v).toInt = (g x).toInt ∧ v < x)) n
theorem x0_count (o : Ok d C) (h : KI d C w) (x1 : Int32) {x : Nat} (hx : x < 10) : wh (l_X0_rank_110 x1 (nI x) w) FUEL ((0 : Int32), (0 : Int32)) = some (nI (cg d (fun v => gL w 42 v) x 10)) := by
  have p10 := pow10 o.1.1
  have hu := o.1.2.1
  apply Rt.eq
  refine rt_for (fun i t => t.1 = nI (cg d (fun v => gL w 42 v) x i) ∧ t.2 = nI i) 10 ?_ ?_ ⟨rfl, rfl⟩ (by decide)
  · rintro i ⟨a, c⟩ hi ⟨h1, h2⟩
    dsimp only at h1 h2
    subst h1 h2
    unfold l_X0_rank_110
    dsimp only
    rw [if_neg (show ¬ (10 : Int32) ≤ nI i from nI_ge (b := 10) hi (by decide)), h.U, contains_N (by omega) (by omega), if_pos (inb_nI hi (by decide)), if_pos (inb_nI hx (by decide)), ix_nI (by omega), ix_nI (by omega)]
    simp only [bI_0]
    have hstep : cg d (fun v => gL w 42 v) x (i + 1) = cg d (fun v => gL w 42 v) x i + if ((d 0 1).testBit i && decide ((gL w 42 i).toInt < (gL w 42 x).toInt ∨ (gL w 42 i).toInt = (gL w 42 x).toInt ∧ i < x)) then 1 else 0 := by unfold cg; rw [fb_ct_succ]
    by_cases c1 : (d 0 1).testBit i = true
    · rw [if_neg (by rw [c1]; decide)]
      rw [c1, Bool.true_and] at hstep
      by_cases c2 : gL w 42 i < gL w 42 x
      · rw [if_pos c2]
        rw [fa_lt64] at c2
        rw [decide_eq_true (Or.inl c2)] at hstep
        simp only [mg, Option.bind_some]
        rw [rt_some, nx_l]
        exact ⟨by rw [hstep]; exact nI_1 _, nI_1 i⟩
      · rw [if_neg c2]
        rw [fa_lt64] at c2
        by_cases c3 : gL w 42 i = gL w 42 x
        · rw [if_pos c3]
          rw [fa_eq64] at c3
          by_cases c4 : x ≤ i
          · rw [if_pos (nI_le c4 (by omega))]
            rw [decide_eq_false (by omega)] at hstep
            simp only [mg, Option.bind_some]
            rw [rt_some, nx_l]
            exact ⟨by rw [hstep]; rfl, nI_1 i⟩
          · rw [if_neg (nI_ge (by omega) (by omega))]
            rw [decide_eq_true (by omega)] at hstep
            simp only [mg, Option.bind_some]
            rw [rt_some, nx_l]
            exact ⟨by rw [hstep]; exact nI_1 _, nI_1 i⟩
        · rw [if_neg c3]
          rw [fa_eq64] at c3
          rw [decide_eq_false (by omega)] at hstep
          simp only [mg, Option.bind_some]
          rw [rt_some, nx_l]
          exact ⟨by rw [hstep]; rfl, nI_1 i⟩
    · rw [if_pos (bool_f c1), Option.bind_some, rt_some, nx_l]
      rw [bool_f c1] at hstep
      exact ⟨by rw [hstep]; rfl, nI_1 i⟩
  · rintro ⟨a, c⟩ ⟨h1, h2⟩
    dsimp only at h1 h2
    subst h1 h2
    unfold l_X0_rank_110
    dsimp only
    rw [if_pos (show (10 : Int32) ≤ nI 10 by decide), rt_some, nx_r]
theorem KI.sL42 (h : KI d C w) (k : Nat) (v : Int64) : KI d C (sL w 42 k v) := h.fx (P := fun c _ => c = 42) (fx.sL rfl) (fun c k z => by subst z; unfold kfree; omega)

def fpl (s c k : Nat) : Prop := c = 43 ∧ 10 * s ≤ k ∧ k < 10 * s + 10
theorem x0_places (o : Ok d C) (hI : KI d C w) {s : Nat} (hs : s < 4) (hg : ∀ j, j < 10 → (d 0 1).testBit j = true → gL w 42 j = gw d C j s) : Rt (wh (l_X0_rank_97 (nI s)) FUEL ((0 : Int32), w)) (fun w3 => fx (fpl s) w w3 ∧ ∀ v, v < 10 → (d 0 1).testBit v = true → gI w3 43 (10 * s + v) = nI (plc d C s v)) := by
  refine rt_for (fun i t => t.1 = nI i ∧ fx (fpl s) w t.2 ∧ ∀ v, v < i → (d 0 1).testBit v = true → gI t.2 43 (10 * s + v) = nI (plc d C s v)) 10 ?_ ?_ ⟨rfl, fx.rf, fun j hj => absurd hj (Nat.not_lt_zero j)⟩ (by decide)
  · rintro i ⟨c, w3⟩ hi ⟨h1, hf, hp⟩
    dsimp only at h1 hf hp
    subst h1
    have hI3 : KI d C w3 := hI.fx hf (fun c k z => by unfold fpl at z; unfold kfree; omega)
    have e1 : (10 : Int32) * nI s + nI i = nI (10 * s + i) := by rw [show (10 : Int32) = nI 10 from rfl, pk_mul, nI_add]
    unfold l_X0_rank_97
    dsimp only
    rw [if_neg (show ¬ (10 : Int32) ≤ nI i from nI_ge (b := 10) hi (by decide)), rt_onL, x0_count o hI3 (nI s) hi, Option.bind_some, e1, if_neg (nI_pos (n := 10 * s + i) (by omega)), if_neg (show ¬ (40 : Int32) ≤ nI (10 * s + i) from nI_ge (b := 40) (by omega) (by decide)), if_pos (inb_nI (i := 10 * s + i) (n := 40) (by omega) (by decide)), ix_nI (n := 10 * s + i) (by omega), Option.bind_some, rt_some, nx_l]
    have ev : ∀ y, y < 10 → (d 0 1).testBit y = true → gL w3 42 y = gw d C y s := fun y hy hb => by
      rw [hf.L (by unfold fpl; omega)]; exact hg y hy hb
    refine ⟨hI3.1, nI_1 i, hf.tr (fx.sI (by unfold fpl; omega)), fun v hv hb => ?_⟩
    dsimp only
    rw [gI_sI]
    by_cases e : v = i
    · rw [if_pos ⟨rfl, by rw [e]⟩]
      refine congrArg nI ?_
      subst e
      unfold cg plc ahB
      refine fb_ct_cong (fun y hy => ?_)
      cases cy : (d 0 1).testBit y with
      | false => rw [Bool.false_and, Bool.false_and]
      | true => simp only [ev y hy cy, ev v hi hb]
    · rw [if_neg (by omega)]; exact hp v (by omega) hb
  · rintro ⟨c, w3⟩ ⟨h1, hf, hp⟩
    dsimp only at h1 hf hp
    subst h1
    unfold l_X0_rank_97
    dsimp only
    rw [if_pos (show (10 : Int32) ≤ nI 10 by decide), rt_some, nx_r]
    exact ⟨hf, hp⟩
theorem x0_rank (o : Ok d C) (hst : d 0 7 < 2 ^ 31) (h : KI d C w) {s : Nat} (hs : s < 4) : Rt (f_X0_rank (nI s) w) (fun w' => KI d C w' ∧ cq w w' ∧ (∀ v, v < 10 → (d 0 1).testBit v = true → gI w' 43 (10 * s + v) = nI (plc d C s v)) ∧ ∀ j, ¬ (10 * s ≤ j ∧ j < 10 * s + 10) → gI w' 43 j = gI w 43 j) := by
  have p10 := pow10 o.1.1
  have hu := o.1.2.1
  unfold f_X0_rank
  rw [h.U]
  refine x_tkS o hst h hs hu (fun w1 q1 => ?_)
  dsimp only
  rw [rt_bind]
  refine Rt.mono (Q := fun w2 => KI d C w2 ∧ cr w w2 ∧ ∀ j, j < 10 → (d 0 1).testBit j = true → gL w2 42 j = gw d C j s) (rt_for (fun i t => t.1 = nI i ∧ KI d C t.2 ∧ cr w t.2 ∧ ∀ j, j < i → (d 0 1).testBit j = true → gL t.2 42 j = gw d C j s) 10 ?_ ?_ ⟨rfl, q1.1, q1.2.1.r, fun j hj => absurd hj (Nat.not_lt_zero j)⟩ (by decide)) ?_
  · rintro i ⟨c, w2⟩ hi ⟨h1, hI, hc, hg⟩
    dsimp only at h1 hI hc hg
    subst h1
    unfold l_X0_rank_26
    dsimp only
    rw [if_neg (show ¬ (10 : Int32) ≤ nI i from nI_ge (b := 10) hi (by decide)), rt_onL, hI.U, contains_N (by omega) (by omega)]
    refine ⟨hI.1, ?_⟩
    simp only [bI_0]
    have hend : ∀ w3 v, KQ d C w2 w3 → ((d 0 1).testBit i = true → v = gw d C i s) → Rt (onL w3 (if inb (nI i) 10 = true then some (.inl (nI i + (1 : Int32), sL w3 42 (ix (nI i)) v)) else none)) (Nx (fun t : Int32 × Mm => t.1 = nI (i + 1) ∧ KI d C t.2 ∧ cr w t.2 ∧ ∀ j, j < i + 1 → (d 0 1).testBit j = true → gL t.2 42 j = gw d C j s) (fun w2 => KI d C w2 ∧ cr w w2 ∧ ∀ j, j < 10 → (d 0 1).testBit j = true → gL w2 42 j = gw d C j s)) := fun w3 v q3 hv => by
      rw [rt_onL, if_pos (inb_nI hi (by decide)), ix_nI (by omega), rt_some, nx_l]
      refine ⟨q3.1.1, nI_1 i, q3.1.sL42 i v, (hc.tr q3.2.1.r).tr (fun c k _ _ _ _ => ⟨rfl, fun z => by rw [gL_sL, if_neg (by omega)]⟩), fun j hj hb => ?_⟩
      dsimp only
      rw [gL_sL]
      by_cases e : j = i
      · subst e; rw [if_pos ⟨rfl, rfl⟩]; exact hv hb
      · rw [if_neg (by omega), (q3.2.1 42 j (by decide) (by decide) (by decide) (by unfold scN; omega)).2]
        exact hg j (by omega) hb
    by_cases c1 : (d 0 1).testBit i = true
    · rw [if_neg (by rw [c1]; decide), without_N (by omega), rt_bind]
      refine x_tkS o hst hI hs (wo_lt hu) (fun w3 q3 => ?_)
      dsimp only
      rw [rt_some]
      exact hend w3 _ q3 (fun _ => rfl)
    · rw [if_pos (bool_f c1), Option.bind_some]
      exact hend w2 0 (KQ.rf hI) (fun z => absurd z c1)
  · rintro ⟨c, w2⟩ ⟨h1, hI, hc, hg⟩
    dsimp only at h1 hI hc hg
    subst h1
    unfold l_X0_rank_26
    dsimp only
    rw [if_pos (show (10 : Int32) ≤ nI 10 by decide), rt_some, nx_r]
    exact ⟨hI, hc, hg⟩
  rintro w2 ⟨hI, hc, hg⟩
  rw [rt_bind]
  refine (x0_places o hI hs hg).mono ?_
  rintro w3 ⟨hf, hp⟩
  rw [rt_some]
  refine ⟨hI.fx hf (fun c k z => by unfold fpl at z; unfold kfree; omega), hc.q.tr (fun c k hk => ?_), hp, fun j hj => ?_⟩
  · have : ¬ fpl s c k := by unfold cB inM at hk; unfold fpl; omega
    exact ⟨hf.I this, hf.L this⟩
  · rw [hf.I (by unfold fpl; omega)]
    exact (hc 43 j (by decide) (by decide) (by decide) (by unfold scN; omega)).1
/-- the rows are ranked -/
def Rk (d : Dt) (C : Ct) (n : Nat) (w : Mm) : Prop := ∀ s v, s < n → v < 10 → (d 0 1).testBit v = true → gI w 43 (10 * s + v) = nI (plc d C s v)
theorem x0_ranks (o : Ok d C) (hst : d 0 7 < 2 ^ 31) (h : KI d C w) (x1 : Int32) : Rt (wh (l_X0_elect_2 x1) FUEL ((0 : Int32), w)) (fun w' => KW d C w w' ∧ Rk d C 4 w') := by
  refine rt_for (fun i t => t.1 = nI i ∧ KW d C w t.2 ∧ Rk d C i t.2) 4 ?_ ?_ ⟨rfl, KW.rf h, fun s v hs => absurd hs (Nat.not_lt_zero s)⟩ (by decide)
  · rintro i ⟨c, w1⟩ hi ⟨h1, hq, hR⟩
    dsimp only at h1 hq hR
    subst h1
    unfold l_X0_elect_2
    dsimp only
    rw [if_neg (show ¬ (4 : Int32) ≤ nI i from nI_ge (b := 4) hi (by decide)), rt_onL, rt_bind]
    refine ⟨hq.1.1, (x0_rank o hst hq.1 hi).mono ?_⟩
    rintro w2 ⟨hI, hc, hp, ho⟩
    rw [rt_some, nx_l]
    refine ⟨nI_1 i, ⟨hI, hq.2.tr hc⟩, fun s v hs hv hb => ?_⟩
    by_cases e : s = i
    · subst e; exact hp v hv hb
    · rw [ho _ (by omega)]; exact hR s v (by omega) hv hb
  · rintro ⟨c, w1⟩ ⟨h1, hq, hR⟩
    dsimp only at h1 hq hR
    subst h1
    unfold l_X0_elect_2
    dsimp only
    rw [if_pos (show (4 : Int32) ≤ nI 4 by decide), rt_some, nx_r]
    exact ⟨hq, hR⟩
theorem x0_placeOf {s v : Nat} (hs : s < 4) (hv : v < 10) : f_X0_placeOf (nI s) (nI v) w = some (gI w 43 (10 * s + v)) := by
  unfold f_X0_placeOf
  rw [show (10 : Int32) = nI 10 from rfl, pk_mul, nI_add, if_neg (nI_pos (by omega)), if_neg (show ¬ (40 : Int32) ≤ nI (10 * s + v) from nI_ge (b := 40) (by omega) (by decide)), if_pos (inb_nI (n := 40) (by omega) (by decide)), ix_nI (by omega)]
theorem KI.P (h : KI d C w) {s : Nat} (hs : s < 4) : gI w 7 s = nI (d 5 s) := h.2.2.1.2.2.1 s hs
theorem k_voters (h : KI d C w) : f_X1_voters w = some (nI (vt d)) := by
  apply Rt.eq
  unfold f_X1_voters
  rw [rt_bind]
  refine Rt.mono (rt_for (Q := fun p => p = nI (vt d)) (fun i t => t.1 = nI (fb_sm (fun s => d 5 s) i) ∧ t.2 = nI i) 4 ?_ ?_ ⟨rfl, rfl⟩ (by decide)) (fun p hp => by rw [rt_some]; exact hp)
  · rintro i ⟨a, c⟩ hi ⟨h1, h2⟩
    dsimp only at h1 h2
    subst h1 h2
    unfold l_X1_voters_4
    dsimp only
    rw [if_neg (show ¬ (4 : Int32) ≤ nI i from nI_ge (b := 4) hi (by decide)), if_pos (inb_nI hi (by decide)), ix_nI (by omega), h.P hi, rt_some, nx_l]
    exact ⟨by rw [nI_add]; rfl, nI_1 i⟩
  · rintro ⟨a, c⟩ ⟨h1, h2⟩
    dsimp only at h1 h2
    subst h1 h2
    unfold l_X1_voters_4
    dsimp only
    rw [if_pos (show (4 : Int32) ≤ nI 4 by decide), rt_some, nx_r]
    rfl
theorem plc_le (s x : Nat) : plc d C s x ≤ 10 := fb_ct_le _ _
theorem x0_votersFor (o : Ok d C) (h : KI d C w) (hR : Rk d C 4 w) {x v : Nat} (hx : x < 10) (hv : v < 10) (hux : (d 0 1).testBit x = true) (huv : (d 0 1).testBit v = true) : f_X0_votersFor (nI x) (nI v) w = some (nI (av d C x v)) := by
  apply Rt.eq
  unfold f_X0_votersFor
  rw [rt_bind]
  refine Rt.mono (rt_for (Q := fun p => p = nI (av d C x v)) (fun i t => t.1 = nI (fb_sm (fun s => if ahB d C s x v = true then d 5 s else 0) i) ∧ t.2 = nI i) 4 ?_ ?_ ⟨rfl, rfl⟩ (by decide)) (fun p hp => by rw [rt_some]; exact hp)
  · rintro i ⟨a, c⟩ hi ⟨h1, h2⟩
    dsimp only at h1 h2
    subst h1 h2
    unfold l_X0_votersFor_5
    dsimp only
    have p1 := plc_le (d := d) (C := C) i x
    have p2 := plc_le (d := d) (C := C) i v
    rw [if_neg (show ¬ (4 : Int32) ≤ nI i from nI_ge (b := 4) hi (by decide)), x0_placeOf hi hx, x0_placeOf hi hv, Option.bind_some, Option.bind_some, hR i x hi hx hux, hR i v hi hv huv, if_pos (inb_nI hi (by decide)), ix_nI (by omega), h.P hi]
    have hlt := pl_lt (C := C) (s := i) hx hv hux huv
    by_cases c0 : plc d C i v ≤ plc d C i x
    · rw [if_pos (nI_le c0 (by omega)), Option.bind_some, rt_some, nx_l]
      refine ⟨?_, nI_1 i⟩
      rw [fb_sm_succ, if_neg (fun z => by have := hlt.mpr z; omega), ← nI_add]
      rfl
    · rw [if_neg (nI_ge (by omega) (by omega)), Option.bind_some, rt_some, nx_l]
      refine ⟨?_, nI_1 i⟩
      rw [fb_sm_succ, if_pos (hlt.mp (by omega)), ← nI_add]
  · rintro ⟨a, c⟩ ⟨h1, h2⟩
    dsimp only at h1 h2
    subst h1 h2
    unfold l_X0_votersFor_5
    dsimp only
    rw [if_pos (show (4 : Int32) ≤ nI 4 by decide), rt_some, nx_r]
    rfl
theorem li_le {V : Nat → Nat} {o' : Option Nat} {n : Nat} (hV : ∀ j, V j < 2 ^ 31) (hn : n < 2 ^ 31) : nI n ≤ li (-1) V o' ↔ ∃ b, o' = some b ∧ n ≤ V b := by
  cases o' with
  | none =>
    constructor
    · intro z
      rw [fa_le, nI_toInt hn, show (li (-1) V none).toInt = -1 by show (-1 : Int32).toInt = _; decide] at z
      omega
    · rintro ⟨b, e, -⟩; cases e
  | some b =>
    show nI n ≤ nI (V b) ↔ _
    rw [nI_leI hn (hV b)]
    exact ⟨fun z => ⟨b, rfl, z⟩, fun ⟨b', e, z⟩ => by cases e; exact z⟩
theorem x0_first (o : Ok d C) (h : KI d C w) (hR : Rk d C 4 w) {ex : Option Nat} (hex : ∀ v, ex = some v → v < 10) : f_X0_firstWithMost (oI ex) w = some (oI (fm d C ex)) := by
  have p10 := pow10 o.1.1
  have hu := o.1.2.1
  apply Rt.eq
  unfold f_X0_firstWithMost fm
  rw [rt_bind]
  refine Rt.mono (rt_for (Q := fun p => p = oI (amin (fun v => (d 0 1).testBit v && !decide (ex = some v)) (fun v => -(fvo d C v : Int)) 10)) (fun i t => t.1 = oI (amin (fun v => (d 0 1).testBit v && !decide (ex = some v)) (fun v => -(fvo d C v : Int)) i) ∧ t.2.1 = li (-1) (fvo d C) (amin (fun v => (d 0 1).testBit v && !decide (ex = some v)) (fun v => -(fvo d C v : Int)) i) ∧ t.2.2 = nI i) 10 ?_ ?_ ⟨rfl, rfl, rfl⟩ (by decide)) (fun p hp => by rw [rt_some]; exact hp)
  · rintro i ⟨a, l, c⟩ hi ⟨h1, h2, h3⟩
    dsimp only at h1 h2 h3
    subst h1 h2 h3
    unfold l_X0_firstWithMost_7
    dsimp only
    rw [if_neg (show ¬ (10 : Int32) ≤ nI i from nI_ge (b := 10) hi (by decide)), h.U, contains_N (by omega) (by omega)]
    simp only [bI_0]
    by_cases c1 : (d 0 1).testBit i = true
    · rw [if_neg (by rw [c1]; decide)]
      by_cases c2 : ex = some i
      · rw [if_pos ((oI_eq hex hi).mpr c2), Option.bind_some, rt_some, nx_l]
        dsimp only
        rw [amin_n (by simp [c2])]
        exact ⟨rfl, rfl, nI_1 i⟩
      · have hp : (fun v => (d 0 1).testBit v && !decide (ex = some v)) i = true := by simp [c1, c2]
        rw [if_neg (fun z => c2 ((oI_eq hex hi).mp z)), rt_bind, rt_bind]
        refine Rt.mono (rt_for (Q := fun p => p = nI (fvo d C i)) (fun k t => t.1 = nI (fb_sm (fun s => if plc d C s i = 0 then d 5 s else 0) k) ∧ t.2 = nI k) 4 ?_ ?_ ⟨rfl, rfl⟩ (by decide)) ?_
        · rintro k ⟨a, c⟩ hk ⟨h1, h2⟩
          dsimp only at h1 h2
          subst h1 h2
          unfold l_X0_firstWithMost_41
          dsimp only
          have p1 := plc_le (d := d) (C := C) k i
          rw [if_neg (show ¬ (4 : Int32) ≤ nI k from nI_ge (b := 4) hk (by decide)), x0_placeOf hk hi, Option.bind_some, hR k i hk hi c1, if_pos (inb_nI hk (by decide)), ix_nI (by omega), h.P hk]
          by_cases c0 : plc d C k i = 0
          · rw [c0, if_pos (by rfl), Option.bind_some, rt_some, nx_l]
            refine ⟨?_, nI_1 k⟩
            rw [fb_sm_succ, if_pos c0, ← nI_add]
          · rw [if_neg (nI_ne0 (by omega) (by omega)), Option.bind_some, rt_some, nx_l]
            refine ⟨?_, nI_1 k⟩
            rw [fb_sm_succ, if_neg c0, ← nI_add]
            rfl
        · rintro ⟨a, c⟩ ⟨h1, h2⟩
          dsimp only at h1 h2
          subst h1 h2
          unfold l_X0_firstWithMost_41
          dsimp only
          rw [if_pos (show (4 : Int32) ≤ nI 4 by decide), rt_some, nx_r]
          rfl
        · rintro p rfl
          have hV : ∀ j, fvo d C j < 2 ^ 31 := fun j => Nat.lt_of_le_of_lt (fvo_le o.2.1 C j) (by decide)
          cases e : amin (fun v => (d 0 1).testBit v && !decide (ex = some v)) (fun v => -(fvo d C v : Int)) i with
          | none =>
            rw [if_neg (fun z => by obtain ⟨b, z1, -⟩ := (li_le hV (hV i)).mp z; cases z1), rt_some, rt_some, nx_l]
            dsimp only
            rw [amin_0 (p := fun v => (d 0 1).testBit v && !decide (ex = some v)) hp e]
            exact ⟨rfl, rfl, nI_1 i⟩
          | some b =>
            by_cases c3 : fvo d C i ≤ fvo d C b
            · rw [if_pos ((li_le hV (hV i)).mpr ⟨b, rfl, c3⟩), rt_some, rt_some, nx_l]
              dsimp only
              rw [amin_k e (by omega)]
              exact ⟨rfl, rfl, nI_1 i⟩
            · rw [if_neg (fun z => by obtain ⟨b', z1, z2⟩ := (li_le hV (hV i)).mp z; cases z1; exact c3 z2), rt_some, rt_some, nx_l]
              dsimp only
              rw [amin_l (p := fun v => (d 0 1).testBit v && !decide (ex = some v)) hp e (by omega)]
              exact ⟨rfl, rfl, nI_1 i⟩
    · rw [if_pos (bool_f c1), Option.bind_some, rt_some, nx_l]
      dsimp only
      rw [amin_n (by simp [bool_f c1])]
      exact ⟨rfl, rfl, nI_1 i⟩
  · rintro ⟨a, l, c⟩ ⟨h1, h2, h3⟩
    dsimp only at h1 h2 h3
    subst h1 h2 h3
    unfold l_X0_firstWithMost_7
    dsimp only
    rw [if_pos (show (10 : Int32) ≤ nI 10 by decide), rt_some, nx_r]
theorem x0_points (o : Ok d C) (h : KI d C w) (hR : Rk d C 4 w) : f_X0_withMostPoints w = some (oI (pm d C)) := by
  have p10 := pow10 o.1.1
  have hu := o.1.2.1
  have pl := pc_le (d 0 1)
  apply Rt.eq
  unfold f_X0_withMostPoints pm
  rw [rt_bind, h.U, bitCount_N _ (by omega)]
  refine Rt.mono (rt_for (Q := fun p => p = oI (amin (d 0 1).testBit (fun v => -(pt d C v : Int)) 10)) (fun i t => t.1 = oI (amin (d 0 1).testBit (fun v => -(pt d C v : Int)) i) ∧ t.2.1 = li (-1) (pt d C) (amin (d 0 1).testBit (fun v => -(pt d C v : Int)) i) ∧ t.2.2 = nI i) 10 ?_ ?_ ⟨rfl, rfl, rfl⟩ (by decide)) (fun p hp => by rw [rt_some]; exact hp)
  · rintro i ⟨a, l, c⟩ hi ⟨h1, h2, h3⟩
    dsimp only at h1 h2 h3
    subst h1 h2 h3
    unfold l_X0_withMostPoints_20
    dsimp only
    rw [if_neg (show ¬ (10 : Int32) ≤ nI i from nI_ge (b := 10) hi (by decide)), h.U, contains_N (by omega) (by omega)]
    simp only [bI_0]
    by_cases c1 : (d 0 1).testBit i = true
    · have hpb := fun k => pl_bh (C := C) (s := k) hi c1
      have h1pc : 1 ≤ pc (d 0 1) := by have := hpb 0; omega
      have e1 : nI (pc (d 0 1)) - (1 : Int32) = nI (pc (d 0 1) - 1) := by rw [show (1 : Int32) = nI 1 from rfl, pk_sub h1pc]
      rw [if_neg (by rw [c1]; decide), e1, rt_bind, rt_bind]
      refine Rt.mono (rt_for (Q := fun p => p = nI (pt d C i)) (fun k t => t.1 = nI (fb_sm (fun s => d 5 s * bhd d C s i) k) ∧ t.2 = nI k) 4 ?_ ?_ ⟨rfl, rfl⟩ (by decide)) ?_
      · rintro k ⟨a, c⟩ hk ⟨h1, h2⟩
        dsimp only at h1 h2
        subst h1 h2
        unfold l_X0_withMostPoints_48
        dsimp only
        have := hpb k
        rw [if_neg (show ¬ (4 : Int32) ≤ nI k from nI_ge (b := 4) hk (by decide)), if_pos (inb_nI hk (by decide)), ix_nI (by omega), h.P hk, x0_placeOf hk hi, Option.bind_some, hR k i hk hi c1, pk_sub (by omega), pk_mul, nI_add, rt_some, nx_l, show pc (d 0 1) - 1 - plc d C k i = bhd d C k i by omega]
        exact ⟨rfl, nI_1 k⟩
      · rintro ⟨a, c⟩ ⟨h1, h2⟩
        dsimp only at h1 h2
        subst h1 h2
        unfold l_X0_withMostPoints_48
        dsimp only
        rw [if_pos (show (4 : Int32) ≤ nI 4 by decide), rt_some, nx_r]
        rfl
      · rintro p rfl
        have hV : ∀ j, pt d C j < 2 ^ 31 := fun j => Nat.lt_of_le_of_lt (pt_le o.2.1 C j) (by decide)
        cases e : amin (d 0 1).testBit (fun v => -(pt d C v : Int)) i with
        | none =>
          rw [if_neg (fun z => by obtain ⟨b, z1, -⟩ := (li_le hV (hV i)).mp z; cases z1), rt_some, rt_some, nx_l]
          dsimp only
          rw [amin_0 c1 e]
          exact ⟨rfl, rfl, nI_1 i⟩
        | some b =>
          by_cases c3 : pt d C i ≤ pt d C b
          · rw [if_pos ((li_le hV (hV i)).mpr ⟨b, rfl, c3⟩), rt_some, rt_some, nx_l]
            dsimp only
            rw [amin_k e (by omega)]
            exact ⟨rfl, rfl, nI_1 i⟩
          · rw [if_neg (fun z => by obtain ⟨b', z1, z2⟩ := (li_le hV (hV i)).mp z; cases z1; exact c3 z2), rt_some, rt_some, nx_l]
            dsimp only
            rw [amin_l c1 e (by omega)]
            exact ⟨rfl, rfl, nI_1 i⟩
    · rw [if_pos (bool_f c1), Option.bind_some, rt_some, nx_l]
      dsimp only
      rw [amin_n (bool_f c1)]
      exact ⟨rfl, rfl, nI_1 i⟩
  · rintro ⟨a, l, c⟩ ⟨h1, h2, h3⟩
    dsimp only at h1 h2 h3
    subst h1 h2 h3
    unfold l_X0_withMostPoints_20
    dsimp only
    rw [if_pos (show (10 : Int32) ≤ nI 10 by decide), rt_some, nx_r]
theorem x0_wins (o : Ok d C) (h : KI d C w) (hR : Rk d C 4 w) {x : Nat} (hx : x < 10) : Rt (wh (l_X0_aheadOfAll_31 (nI (vt d)) (nI x) w) FUEL (bI ((d 0 1).testBit x), (0 : Int32))) (fun p => ∃ b, p = bI b ∧ (b = true ↔ wn d C x)) := by
  have p10 := pow10 o.1.1
  have hu := o.1.2.1
  have vl := vt_le o.2.1
  refine rt_for (fun i t => t.2 = nI i ∧ ∃ b, t.1 = bI b ∧ (b = true ↔ (d 0 1).testBit x = true ∧ ∀ v, v < i → v ≠ x → (d 0 1).testBit v = true → vt d < 2 * av d C x v)) 10 ?_ ?_ ⟨rfl, _, rfl, ⟨fun z => ⟨z, fun v hv => absurd hv (Nat.not_lt_zero v)⟩, fun z => z.1⟩⟩ (by decide)
  · rintro i ⟨a, c⟩ hi ⟨h1, b, h2, hb⟩
    dsimp only at h1 h2
    subst h1 h2
    unfold l_X0_aheadOfAll_31
    dsimp only
    rw [if_neg (show ¬ (10 : Int32) ≤ nI i from nI_ge (b := 10) hi (by decide)), h.U, contains_N (by omega) (by omega)]
    simp only [bI_0]
    cases b with
    | false =>
      rw [if_pos rfl, rt_some, nx_r]
      exact ⟨false, rfl, ⟨fun z => (by cases z), fun z => hb.mpr ⟨z.1, fun v hv => z.2 v (by omega)⟩⟩⟩
    | true =>
      have hbx := (hb.mp rfl).1
      rw [if_neg (by decide)]
      have hgo : (i ≠ x → (d 0 1).testBit i = true → vt d < 2 * av d C x i) → Nx (fun t : Int32 × Int32 => t.2 = nI (i + 1) ∧ ∃ b, t.1 = bI b ∧ (b = true ↔ (d 0 1).testBit x = true ∧ ∀ v, v < i + 1 → v ≠ x → (d 0 1).testBit v = true → vt d < 2 * av d C x v)) (fun p => ∃ b, p = bI b ∧ (b = true ↔ wn d C x)) (.inl (bI true, nI i + (1 : Int32))) := fun hz => by
        rw [nx_l]
        refine ⟨nI_1 i, true, rfl, ⟨fun _ => ⟨hbx, fun v hv h1 h2 => ?_⟩, fun _ => rfl⟩⟩
        by_cases e : v = i
        · subst e; exact hz h1 h2
        · exact (hb.mp rfl).2 v (by omega) h1 h2
      by_cases c1 : i = x
      · subst c1
        rw [if_pos rfl, Option.bind_some, rt_some]
        exact hgo (fun z => absurd rfl z)
      · rw [if_neg (fun z => c1 ((nI_eq (by omega) (by omega)).mp z))]
        by_cases c2 : (d 0 1).testBit i = true
        · have v1 := av_le o.2.1 C x i
          rw [if_neg (by rw [c2]; decide), x0_votersFor o h hR hx hi hbx c2, Option.bind_some, show (2 : Int32) = nI 2 from rfl, pk_mul]
          by_cases c3 : 2 * av d C x i ≤ vt d
          · rw [if_pos (nI_le c3 (by omega)), Option.bind_some, Option.bind_some, rt_some, nx_l]
            refine ⟨nI_1 i, false, rfl, ⟨fun z => (by cases z), fun z => ?_⟩⟩
            have := z.2 i (by omega) c1 c2
            omega
          · rw [if_neg (nI_ge (by omega) (by omega)), Option.bind_some, Option.bind_some, rt_some]
            exact hgo (fun _ _ => by omega)
        · rw [if_pos (bool_f c2), Option.bind_some, rt_some]
          exact hgo (fun _ z => absurd z c2)
  · rintro ⟨a, c⟩ ⟨h1, b, h2, hb⟩
    dsimp only at h1 h2
    subst h1 h2
    unfold l_X0_aheadOfAll_31
    dsimp only
    rw [if_pos (show (10 : Int32) ≤ nI 10 by decide), rt_some, nx_r]
    exact ⟨b, rfl, hb⟩
theorem x0_ahead (o : Ok d C) (h : KI d C w) (hR : Rk d C 4 w) : Rt (f_X0_aheadOfAll w) (fun p => ∃ r, fw (wn d C) r ∧ p = oI r) := by
  have p10 := pow10 o.1.1
  have hu := o.1.2.1
  unfold f_X0_aheadOfAll
  rw [k_voters h, Option.bind_some, rt_bind]
  refine Rt.mono (rt_for (Q := fun p => (p.1 = 0 ∧ ∀ v, v < 10 → ¬ wn d C v) ∨ (p.1 = 1 ∧ ∃ v, v < 10 ∧ p.2 = nI v ∧ wn d C v ∧ ∀ x, x < v → ¬ wn d C x)) (fun i t => t = nI i ∧ ∀ v, v < i → ¬ wn d C v) 10 ?_ ?_ ⟨rfl, fun v hv => absurd hv (Nat.not_lt_zero v)⟩ (by decide)) ?_
  · rintro i t hi ⟨rfl, hno⟩
    unfold l_X0_aheadOfAll_10
    rw [if_neg (show ¬ (10 : Int32) ≤ nI i from nI_ge (b := 10) hi (by decide)), h.U, contains_N (by omega) (by omega), rt_bind]
    refine (x0_wins o h hR hi).mono ?_
    rintro p ⟨b, rfl, hb⟩
    cases b with
    | false =>
      rw [if_pos (by rfl), rt_some, nx_l]
      refine ⟨nI_1 i, fun v hv z => ?_⟩
      by_cases e : v = i
      · subst e; have := hb.mpr z; cases this
      · exact hno v (by omega) z
    | true =>
      rw [if_neg (by decide), rt_some, nx_r]
      exact Or.inr ⟨rfl, i, hi, rfl, hb.mp rfl, hno⟩
  · rintro t ⟨rfl, hno⟩
    unfold l_X0_aheadOfAll_10
    rw [if_pos (show (10 : Int32) ≤ nI 10 by decide), rt_some, nx_r]
    exact Or.inl ⟨rfl, hno⟩
  · rintro ⟨f, v⟩ hp
    dsimp only at hp ⊢
    rcases hp with ⟨e, hno⟩ | ⟨e, x, hx, e2, h1, h2⟩
    · subst e
      rw [if_pos rfl, rt_some]
      exact ⟨none, Or.inl ⟨rfl, hno⟩, rfl⟩
    · subst e
      rw [if_neg (by decide), rt_some]
      exact ⟨some x, Or.inr ⟨x, hx, rfl, h1, h2⟩, e2⟩
end KVote
