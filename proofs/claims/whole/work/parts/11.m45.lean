/-! the tape: FEED -/
section Tap
variable {d d' : Dt} {C : Ct} {w w' : Mm}
/-- nothing but the tape is another -/
def tpO (d d' : Dt) : Prop := (∀ i, i ≠ 0 → i ≠ 10 → d' i = d i) ∧ ∀ j, j ≠ 5 → d' 0 j = d 0 j
theorem tpO.rf : tpO d d := ⟨fun _ _ _ => rfl, fun _ _ => rfl⟩
theorem tpO.O (h : tpO d d') (o : Ok d C) : Ok d' C := by
  unfold Ok OkL OkM OkC
  rw [h.1 1 (by omega) (by omega), h.1 2 (by omega) (by omega), h.1 3 (by omega) (by omega), h.1 5 (by omega) (by omega), h.1 6 (by omega) (by omega), h.1 7 (by omega) (by omega), h.1 8 (by omega) (by omega), h.1 9 (by omega) (by omega), h.2 0 (by omega), h.2 1 (by omega), h.2 3 (by omega), h.2 4 (by omega), h.2 6 (by omega)]
  exact o
theorem tpO.T (h : tpO d d') (o : OkT d) (h5 : d' 0 5 ≤ 300) (h10 : ∀ k, d' 10 k < 256) : OkT d' := by
  unfold OkT
  rw [h.1 11 (by omega) (by omega), h.1 12 (by omega) (by omega), h.1 13 (by omega) (by omega), h.2 0 (by omega)]
  exact ⟨h5, h10, o.2.2⟩
theorem tpO.B (h : tpO d d') (t : Nat) : BF d' t = BF d t ∧ ∀ i, jl d' i t = jl d i t := BF_of (h.1 1 (by omega) (by omega)) (h.1 2 (by omega) (by omega)) (h.1 3 (by omega) (by omega)) t
theorem tpO.K (h : tpO d d') (k : KI d C w) (f : fx (fun c _ => c = 12 ∨ c = 13 ∨ (26 ≤ c ∧ c ≤ 34) ∨ c = 40) w w') : KI d' C w' := by
  refine ki_up k f (fun c k z => by unfold kup; omega) ?_ ?_ (h.2 6 (by omega)) (h.2 7 (by omega)) (by rw [h.2 0 (by omega)]; exact Nat.le_refl _) (fun t _ => h.B t)
  · unfold CLx
    rw [h.1 1 (by omega) (by omega), h.1 2 (by omega) (by omega), h.1 3 (by omega) (by omega), h.1 4 (by omega) (by omega), h.2 0 (by omega), h.2 1 (by omega), h.2 2 (by omega), f.I (by omega), f.I (by omega), f.I (by omega)]
    refine ⟨k.2.1.1, k.2.1.2.1, k.2.1.2.2.1, fun j hj => ?_⟩
    rw [f.I (by omega), f.I (by omega), f.I (by omega), f.I (by omega)]
    exact k.2.1.2.2.2 j hj
  · unfold CDm
    rw [h.1 5 (by omega) (by omega), h.1 6 (by omega) (by omega), h.1 7 (by omega) (by omega), h.1 8 (by omega) (by omega), h.1 9 (by omega) (by omega), h.2 3 (by omega), h.2 4 (by omega), f.I (by omega), f.I (by omega)]
    refine ⟨k.2.2.1.1, k.2.2.1.2.1, fun s hs => ?_, fun j hj => ?_⟩
    · rw [f.I (by omega)]; exact k.2.2.1.2.2.1 s hs
    · rw [f.I (by omega), f.I (by omega), f.I (by omega), f.I (by omega)]; exact k.2.2.1.2.2.2 j hj
theorem tpO.KT (h : tpO d d') (k : KT d C w) (f : fx (fun c _ => c = 12 ∨ c = 13 ∨ (26 ≤ c ∧ c ≤ 34) ∨ c = 40) w w') (hp : CTp d' w') : KT d' C w' ∧ cF w w' := ⟨⟨h.K k.1 f, hp, k.2.2.of (h.1 11 (by omega) (by omega)) (h.1 12 (by omega) (by omega)) (h.1 13 (by omega) (by omega)) (h.1 14 (by omega) (by omega)) (fun i _ => by rw [h.1 3 (by omega) (by omega)]) (fun i j hi => f.I (by omega))⟩, fun c j hc => by unfold inM at hc; exact ⟨f.I (by omega), f.L (by omega)⟩⟩
theorem tpO.M (h : tpO d d') (k : MI d C w) (f : fx (fun c k => (c = 47 ∧ k = 1) ∨ c = 48) w w') : MI d' C w' := by
  refine ⟨f.lay k.1, ?_, ?_, ?_, ?_, ?_⟩
  · unfold MLx
    rw [h.1 1 (by omega) (by omega), h.1 2 (by omega) (by omega), h.1 3 (by omega) (by omega), h.1 4 (by omega) (by omega), h.2 0 (by omega), h.2 1 (by omega), h.2 2 (by omega), f.I (by omega), f.I (by omega), f.I (by omega)]
    refine ⟨k.2.1.1, k.2.1.2.1, k.2.1.2.2.1, fun j hj => ?_⟩
    rw [f.I (by omega), f.I (by omega), f.I (by omega), f.I (by omega)]
    exact k.2.1.2.2.2 j hj
  · unfold MDm
    rw [h.1 5 (by omega) (by omega), h.1 6 (by omega) (by omega), h.1 7 (by omega) (by omega), h.1 8 (by omega) (by omega), h.1 9 (by omega) (by omega), h.2 3 (by omega), h.2 4 (by omega), f.I (by omega), f.I (by omega)]
    refine ⟨k.2.2.1.1, k.2.2.1.2.1, fun s hs => ?_, fun j hj => ?_⟩
    · rw [f.I (by omega)]; exact k.2.2.1.2.2.1 s hs
    · rw [f.I (by omega), f.I (by omega), f.I (by omega), f.I (by omega)]; exact k.2.2.1.2.2.2 j hj
  · unfold MNr
    rw [h.2 6 (by omega), f.I (by omega)]
    exact ⟨k.2.2.2.1.1, fun w2 hw => k.2.2.2.1.2 w2 (fun c j hc => by rw [hw c j hc, f.I (by omega)])⟩
  · have z := k.2.2.2.2.1.fx f (fun k => by omega) (fun k => by omega)
    intro t ht
    rw [h.2 0 (by omega)] at ht
    rcases z t ht with y | y
    · exact Or.inl y
    · exact Or.inr (fun m hm => by rw [(h.B t).1]; exact y m hm)
  · have z := k.2.2.2.2.2.fx f (fun k => by omega) (fun k => by omega) (fun k => by omega)
    intro t ht
    rw [h.2 0 (by omega)] at ht
    have x := tk_o3 (C := C) (h.1 1 (by omega) (by omega)) (h.1 2 (by omega) (by omega)) (h.1 3 (by omega) (by omega)) ⟨h.2 3 (by omega), h.2 4 (by omega), h.1 6 (by omega) (by omega), h.1 7 (by omega) (by omega), h.1 8 (by omega) (by omega), h.1 9 (by omega) (by omega)⟩ t
    rcases z t ht with y | y
    · exact Or.inl y
    · exact Or.inr ⟨fun s hs => by rw [x.1]; exact y.1 s hs, by rw [x.2]; exact y.2⟩
theorem tpO.MT (h : tpO d d') (k : MT d C w) (f : fx (fun c k => (c = 47 ∧ k = 1) ∨ c = 48) w w') (hp : MTp d' w') : MT d' C w' ∧ zF w w' := ⟨⟨h.M k.1 f, hp, k.2.2.of (h.1 11 (by omega) (by omega)) (h.1 12 (by omega) (by omega)) (h.1 13 (by omega) (by omega)) (h.1 14 (by omega) (by omega)) (fun c j h1 h2 => f.I (by omega))⟩, fx.sub f (fun c j z => by unfold inM; omega)⟩
def wip (d : Dt) : Dt := up d 0 5 0
theorem wip_o : tpO d (wip d) := ⟨fun i _ _ => up_r d (by omega), fun j _ => up_o d (by omega)⟩
theorem wip_5 : wip d 0 5 = 0 := up_s _ _ _ _
theorem wip_T (o : OkT d) : OkT (wip d) := wip_o.T o (by rw [wip_5]; omega) (fun k => by unfold wip; rw [up_r d (by omega)]; exact o.2.1 k)
/-- a byte more -/
def fed (d : Dt) (y : Nat) : Dt := up (up d 10 (d 0 5) y) 0 5 (d 0 5 + 1)
theorem fed_o {y : Nat} : tpO d (fed d y) := ⟨fun i _ _ => by unfold fed; rw [up_r _ (by omega), up_r _ (by omega)], fun j _ => by unfold fed; rw [up_o _ (by omega), up_o _ (by omega)]⟩
theorem fed_5 {y : Nat} : fed d y 0 5 = d 0 5 + 1 := up_s _ _ _ _
theorem fed_10 {y : Nat} (k : Nat) : fed d y 10 k = if k = d 0 5 then y else d 10 k := by simp [fed, up]
def shf : Nat → Int32
  | 0 => 24
  | 1 => 16
  | 2 => 8
  | 3 => 0
  | _ => -8
def btB (x : Int32) (k : Nat) : Nat := ((x >>> (shf k &&& 31)) &&& 255).toNatClampNeg
theorem and255 (y : Int32) : ∃ n, n < 256 ∧ y &&& 255 = nI n := by
  refine ⟨(y.toUInt32.toNat) % 256, Nat.mod_lt _ (by decide), ?_⟩
  have h : y = nI y.toUInt32.toNat := by
    apply Int32.toBitVec_inj.mp
    apply BitVec.eq_of_toNat_eq
    simp [nI]
  have h2 := fa_mask y.toUInt32.toNat 8
  rw [← h] at h2
  exact h2
theorem btB_ok (x : Int32) (k : Nat) : btB x k < 256 ∧ (x >>> (shf k &&& 31)) &&& 255 = nI (btB x k) := by
  unfold btB
  obtain ⟨n, h1, h2⟩ := and255 (x >>> (shf k &&& 31))
  rw [h2, nI_clamp (by omega)]
  exact ⟨h1, rfl⟩
def pu (d : Dt) (x : Int32) : Nat → Dt
  | 0 => d
  | k + 1 => fed (pu d x k) (btB x k)
theorem pu_ok (x : Int32) : ∀ k, pu d x k 0 5 = d 0 5 + k ∧ (OkT d → d 0 5 + k ≤ 300 → OkT (pu d x k)) ∧ (Ok d C → Ok (pu d x k) C) ∧ pu d x k 0 7 = d 0 7
  | 0 => ⟨rfl, fun h _ => h, fun h => h, rfl⟩
  | k + 1 => by
    obtain ⟨h1, h2, h3, h4⟩ := pu_ok x k
    refine ⟨by rw [pu, fed_5, h1]; omega, fun o h => fed_o.T (h2 o (by omega)) (by rw [fed_5, h1]; omega) (fun j => ?_), fun o => fed_o.O (h3 o), by rw [pu, fed_o.2 7 (by omega)]; exact h4⟩
    rw [fed_10]
    split
    · exact (btB_ok x k).1
    · exact (h2 o (by omega)).2.1 j
theorem shf_ok : ∀ k, k < 4 → ¬ shf k < 0 ∧ shf k + -8 = shf (k + 1) := by decide
theorem k_push (x : Int32) (h : KT d C w) (h5 : d 0 5 + 4 ≤ 300) : Rt (f_X8_push x w) (fun w' => KT (pu d x 4) C w' ∧ cF w w') := by
  unfold f_X8_push
  rw [rt_bind]
  refine (rt_for (fun k (s : Int32 × Mm) => s.1 = shf k ∧ KT (pu d x k) C s.2 ∧ cF w s.2) 4 (Q := fun w' => KT (pu d x 4) C w' ∧ cF w w') ?_ ?_ (s := ((24 : Int32), w)) ⟨rfl, h, cF.rf⟩ (by decide)).mono (fun w' h => by rw [rt_some]; exact h)
  · rintro k ⟨i, w1⟩ hk ⟨h1, h2, h3⟩
    dsimp only at h1 h2 h3
    subst h1
    have e5 := (pu_ok (d := d) (C := C) x k).1
    have hs : gI w1 12 1 = nI (d 0 5 + k) := by rw [h2.2.1.1, e5]
    unfold l_X8_push_3
    dsimp only
    rw [if_neg (shf_ok k hk).1, rt_onL, hs, if_neg (nI_pos (by omega)), if_neg (show ¬ (300 : Int32) ≤ nI (d 0 5 + k) from nI_ge (b := 300) (by omega) (by decide)), if_pos (inb_nI (by omega) (by decide)), Option.bind_some, rt_some, ix_nI (by omega), (btB_ok x k).2, nI_1]
    have z := (fed_o (d := pu d x k) (y := btB x k)).KT h2 (w' := sI (sI w1 13 (d 0 5 + k) (nI (btB x k))) 12 1 (nI (d 0 5 + k + 1))) ((fx.sI (by omega)).tr (fx.sI (by omega))) ⟨by rw [fed_5, e5, gI_sI, if_pos ⟨rfl, rfl⟩], fun j hj => by
      rw [fed_5, e5] at hj
      rw [fed_10, e5]
      by_cases q : j = d 0 5 + k
      · rw [if_pos q]; simp [gI_sI, q]
      · rw [if_neg q]; simp [gI_sI, q]; exact h2.2.1.2 j (by omega)⟩
    exact ⟨h2.1.1, (shf_ok k hk).2, z.1, fun c j hc => ⟨((z.2 c j hc).1).trans (h3 c j hc).1, ((z.2 c j hc).2).trans (h3 c j hc).2⟩⟩
  · rintro ⟨i, w1⟩ ⟨h1, h2, h3⟩
    dsimp only at h1 h2 h3
    subst h1
    unfold l_X8_push_3
    dsimp only
    rw [if_pos (by decide), rt_some]
    exact ⟨h2, h3⟩
theorem nar_b (y : Int32) : vp_nar .byte (y.toInt8.toInt32) = (y &&& 255).toInt8.toInt32 := by
  rw [fa_byte_low]
  show (y.toInt8.toInt32).toInt8.toInt32 = _
  rw [Int8.toInt8_toInt32]
theorem m_push (x : Int32) (h : MT d C w) (h5 : d 0 5 + 4 ≤ 300) : Rt (f_X12_push x w) (fun w' => MT (pu d x 4) C w' ∧ zF w w') := by
  unfold f_X12_push
  rw [rt_bind]
  refine (rt_for (fun k (s : Int32 × Mm) => s.1 = shf k ∧ MT (pu d x k) C s.2 ∧ zF w s.2) 4 (Q := fun w' => MT (pu d x 4) C w' ∧ zF w w') ?_ ?_ (s := ((24 : Int32), w)) ⟨rfl, h, zF.rf⟩ (by decide)).mono (fun w' h => by rw [rt_some]; exact h)
  · rintro k ⟨i, w1⟩ hk ⟨h1, h2, h3⟩
    dsimp only at h1 h2 h3
    subst h1
    have e5 := (pu_ok (d := d) (C := C) x k).1
    have hs : gI w1 47 1 = nI (d 0 5 + k) := by rw [h2.2.1.1, e5]
    unfold l_X12_push_3
    dsimp only
    rw [if_neg (shf_ok k hk).1, rt_onL, hs, if_pos (inb_nI (by omega) (by decide)), rt_some, ix_nI (by omega), nar_b, (btB_ok x k).2, nI_1]
    have z := (fed_o (d := pu d x k) (y := btB x k)).MT h2 (w' := sI (sI w1 48 (d 0 5 + k) (nI (btB x k)).toInt8.toInt32) 47 1 (nI (d 0 5 + k + 1))) ((fx.sI (by omega)).tr (fx.sI (by omega))) ⟨by rw [fed_5, e5, gI_sI, if_pos ⟨rfl, rfl⟩], fun j hj => by
      rw [fed_5, e5] at hj
      rw [fed_10, e5]
      by_cases q : j = d 0 5 + k
      · rw [if_pos q]; simp [gI_sI, q]
      · rw [if_neg q]; simp [gI_sI, q]; exact h2.2.1.2 j (by omega)⟩
    exact ⟨h2.1.1, (shf_ok k hk).2, z.1, fx.tr h3 z.2⟩
  · rintro ⟨i, w1⟩ ⟨h1, h2, h3⟩
    dsimp only at h1 h2 h3
    subst h1
    unfold l_X12_push_3
    dsimp only
    rw [if_pos (by decide), rt_some]
    exact ⟨h2, h3⟩
theorem cF.tr {w'' : Mm} (h : cF w w') (h' : cF w' w'') : cF w w'' := fun c k hc => ⟨(h' c k hc).1.trans (h c k hc).1, (h' c k hc).2.trans (h c k hc).2⟩
theorem st_feed (o : Ok d C) (oT : OkT d) (x1 x2 x3 x4 x5 : Int32) : StpB d C (f_X11_feed x1 x2 x3 x4 x5) (f_X12_feed x1 x2 x3 x4 x5) := by
  have o5 := oT.1
  by_cases c0 : d 0 5 ≤ 280
  · have a1 := pu_ok (d := d) (C := C) x1 4
    have a2 := pu_ok (d := pu d x1 4) (C := C) x2 4
    have a3 := pu_ok (d := pu (pu d x1 4) x2 4) (C := C) x3 4
    have a4 := pu_ok (d := pu (pu (pu d x1 4) x2 4) x3 4) (C := C) x4 4
    have a5 := pu_ok (d := pu (pu (pu (pu d x1 4) x2 4) x3 4) x4 4) (C := C) x5 4
    refine ⟨nI (d 0 5 + 20), pu (pu (pu (pu (pu d x1 4) x2 4) x3 4) x4 4) x5 4, C, a5.2.2.1 (a4.2.2.1 (a3.2.2.1 (a2.2.2.1 (a1.2.2.1 o)))), a5.2.1 (a4.2.1 (a3.2.1 (a2.2.1 (a1.2.1 oT (by omega)) (by omega)) (by omega)) (by omega)) (by omega), by omega, fun w h => ?_, fun w h => ?_⟩
    · unfold f_X11_feed
      rw [h.2.1.1, if_pos (show nI (d 0 5) ≤ 280 from nI_le (b := 280) c0 (by decide)), rt_bind]
      refine (k_push x1 h (by omega)).mono ?_
      rintro w1 ⟨k1, q1⟩
      rw [rt_onL, rt_bind]
      refine ⟨k1.1.1, (k_push x2 k1 (by omega)).mono ?_⟩
      rintro w2 ⟨k2, q2⟩
      rw [rt_onL, rt_bind]
      refine ⟨k2.1.1, (k_push x3 k2 (by omega)).mono ?_⟩
      rintro w3 ⟨k3, q3⟩
      rw [rt_onL, rt_bind]
      refine ⟨k3.1.1, (k_push x4 k3 (by omega)).mono ?_⟩
      rintro w4 ⟨k4, q4⟩
      rw [rt_onL, rt_bind]
      refine ⟨k4.1.1, (k_push x5 k4 (by omega)).mono ?_⟩
      rintro w5 ⟨k5, q5⟩
      rw [rt_onL, rt_some]
      refine ⟨k5.1.1, ?_, k5, q1.tr (q2.tr (q3.tr (q4.tr q5)))⟩
      show gI w5 12 1 = _
      rw [k5.2.1.1]
      exact congrArg nI (by omega)
    · unfold f_X12_feed
      rw [h.2.1.1, show nI (d 0 5) + 20 = nI (d 0 5 + 20) from nI_add _ 20, if_pos (show nI (d 0 5 + 20) ≤ 300 from nI_le (b := 300) (by omega) (by decide)), rt_bind]
      refine (m_push x1 h (by omega)).mono ?_
      rintro w1 ⟨k1, q1⟩
      rw [rt_onL, rt_bind]
      refine ⟨k1.1.1, (m_push x2 k1 (by omega)).mono ?_⟩
      rintro w2 ⟨k2, q2⟩
      rw [rt_onL, rt_bind]
      refine ⟨k2.1.1, (m_push x3 k2 (by omega)).mono ?_⟩
      rintro w3 ⟨k3, q3⟩
      rw [rt_onL, rt_bind]
      refine ⟨k3.1.1, (m_push x4 k3 (by omega)).mono ?_⟩
      rintro w4 ⟨k4, q4⟩
      rw [rt_onL, rt_bind]
      refine ⟨k4.1.1, (m_push x5 k4 (by omega)).mono ?_⟩
      rintro w5 ⟨k5, q5⟩
      rw [rt_onL, rt_some]
      refine ⟨k5.1.1, ?_, k5, fx.tr q1 (fx.tr q2 (fx.tr q3 (fx.tr q4 q5)))⟩
      show gI w5 47 1 = _
      rw [k5.2.1.1]
      exact congrArg nI (by omega)
  · exact stay o oT (-1) (fun w h => by unfold f_X11_feed; rw [h.2.1.1, if_neg (show ¬ nI (d 0 5) ≤ 280 from nI_ge (b := d 0 5) (a := 280) (by omega) (by omega))]) (fun w h => by unfold f_X12_feed; rw [h.2.1.1, show nI (d 0 5) + 20 = nI (d 0 5 + 20) from nI_add _ 20, if_neg (show ¬ nI (d 0 5 + 20) ≤ 300 from nI_ge (b := d 0 5 + 20) (a := 300) (by omega) (by omega))])
end Tap
