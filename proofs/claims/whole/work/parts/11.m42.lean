/-! the state is changed: people, OFTEN, SILENCE, WANTS -/
/-- one place of the state is set -/
def up (d : Dt) (a b v : Nat) : Dt := fun i j => if i = a ∧ j = b then v else d i j
theorem up_s (d : Dt) (a b v : Nat) : up d a b v a b = v := if_pos ⟨rfl, rfl⟩
theorem up_o (d : Dt) {a b v i j : Nat} (h : ¬ (i = a ∧ j = b)) : up d a b v i j = d i j := if_neg h
theorem up_r (d : Dt) {a b v i : Nat} (h : i ≠ a) : up d a b v i = d i := funext (fun _ => if_neg (fun z => h z.1))
theorem BF_of {d d' : Dt} (h1 : d' 1 = d 1) (h2 : d' 2 = d 2) (h3 : d' 3 = d 3) (t : Nat) : BF d' t = BF d t ∧ ∀ i, jl d' i t = jl d i t := by
  have hj : ∀ i, jl d' i t = jl d i t := fun i => by
    unfold jl jw
    rw [h1, h3]
  refine ⟨funext (fun m => ?_), hj⟩
  unfold BF
  rw [hj, hj, hj]
  have : Gd d' t = Gd d t := by
    funext m c
    unfold Gd
    rw [h1, h2, h3]
  rw [this]
section Chg
variable {d d' : Dt} {C : Ct} {w w' : Mm}
/-- nothing but WANTS, people and SILENCE is another -/
def dmO (d d' : Dt) : Prop := (∀ i, i = 1 ∨ i = 2 ∨ i = 3 ∨ i = 4 ∨ (10 ≤ i ∧ i ≤ 14) → d' i = d i) ∧ ∀ j, j ≠ 3 → j ≠ 4 → d' 0 j = d 0 j
theorem dmO.L (h : dmO d d') (o : OkL d) : OkL d' := by
  unfold OkL
  rw [h.1 1 (by omega), h.1 2 (by omega), h.1 3 (by omega), h.2 0 (by omega) (by omega), h.2 1 (by omega) (by omega)]
  exact o
theorem dmO.Ck (h : dmO d d') (o : OkC d C) : OkC d' C := by
  unfold OkC
  rw [h.2 6 (by omega) (by omega)]
  exact o
theorem dmO.T (h : dmO d d') (o : OkT d) : OkT d' := by
  unfold OkT
  rw [h.1 10 (by omega), h.1 11 (by omega), h.1 12 (by omega), h.1 13 (by omega), h.2 0 (by omega) (by omega), h.2 5 (by omega) (by omega)]
  exact o
theorem dmO.K (h : dmO d d') (k : KT d C w) (f : fx (fun c _ => 6 ≤ c ∧ c ≤ 11) w w') (hd : CDm d' w') : KT d' C w' ∧ cF w w' := by
  refine ⟨⟨ki_up k.1 f (fun c k z => by unfold kup; omega) ?_ hd (h.2 6 (by omega) (by omega)) (h.2 7 (by omega) (by omega)) (by rw [h.2 0 (by omega) (by omega)]; exact Nat.le_refl _) (fun t _ => BF_of (h.1 1 (by omega)) (h.1 2 (by omega)) (h.1 3 (by omega)) t), k.2.1.of (h.2 5 (by omega) (by omega)) (h.1 10 (by omega)) (f.I (by omega)) (fun j => f.I (by omega)), k.2.2.of (h.1 11 (by omega)) (h.1 12 (by omega)) (h.1 13 (by omega)) (h.1 14 (by omega)) (fun i _ => by rw [h.1 3 (by omega)]) (fun i j hi => f.I (by omega))⟩, fun c j hc => ?_⟩
  · unfold CLx
    rw [h.1 1 (by omega), h.1 2 (by omega), h.1 3 (by omega), h.1 4 (by omega), h.2 0 (by omega) (by omega), h.2 1 (by omega) (by omega), h.2 2 (by omega) (by omega), f.I (by omega), f.I (by omega), f.I (by omega)]
    refine ⟨k.1.2.1.1, k.1.2.1.2.1, k.1.2.1.2.2.1, fun j hj => ?_⟩
    rw [f.I (by omega), f.I (by omega), f.I (by omega), f.I (by omega)]
    exact k.1.2.1.2.2.2 j hj
  · unfold inM at hc
    exact ⟨f.I (by omega), f.L (by omega)⟩
theorem dmO.M (h : dmO d d') (k : MT d C w) (f : fx (fun c k => (c = 47 ∧ (k = 3 ∨ k = 5)) ∨ (53 ≤ c ∧ c ≤ 57) ∨ c = 73) w w') (hd : MDm d' w') (ht : MTk d' C w') : MT d' C w' ∧ zF w w' := by
  refine ⟨⟨⟨f.lay k.1.1, ?_, hd, ?_, ?_, ht⟩, k.2.1.of (h.2 5 (by omega) (by omega)) (h.1 10 (by omega)) (f.I (by omega)) (fun j => f.I (by omega)), k.2.2.of (h.1 11 (by omega)) (h.1 12 (by omega)) (h.1 13 (by omega)) (h.1 14 (by omega)) (fun c j h1 h2 => f.I (by omega))⟩, fx.sub f (fun c j z => by unfold inM; omega)⟩
  · unfold MLx
    rw [h.1 1 (by omega), h.1 2 (by omega), h.1 3 (by omega), h.1 4 (by omega), h.2 0 (by omega) (by omega), h.2 1 (by omega) (by omega), h.2 2 (by omega) (by omega), f.I (by omega), f.I (by omega), f.I (by omega)]
    refine ⟨k.1.2.1.1, k.1.2.1.2.1, k.1.2.1.2.2.1, fun j hj => ?_⟩
    rw [f.I (by omega), f.I (by omega), f.I (by omega), f.I (by omega)]
    exact k.1.2.1.2.2.2 j hj
  · unfold MNr
    rw [h.2 6 (by omega) (by omega), f.I (by omega)]
    exact ⟨k.1.2.2.2.1.1, fun w2 hw => k.1.2.2.2.1.2 w2 (fun c j hc => by rw [hw c j hc, f.I (by omega)])⟩
  · intro t ht
    rw [h.2 0 (by omega) (by omega)] at ht
    have hb := k.1.2.2.2.2.1.fx f (fun k => by omega) (fun k => by omega) t ht
    rcases hb with z | z
    · exact Or.inl z
    · exact Or.inr (fun m hm => by rw [(BF_of (h.1 1 (by omega)) (h.1 2 (by omega)) (h.1 3 (by omega)) t).1]; exact z m hm)
theorem stay {α : Type} {f g : Mm → Option (α × Mm)} (o : Ok d C) (oT : OkT d) (v : α) (h1 : ∀ w, KT d C w → f w = some (v, w)) (h2 : ∀ w, MT d C w → g w = some (v, w)) : StpB d C f g := ⟨v, d, C, o, oT, by omega, fun w hw => by rw [h1 w hw, rt_some]; exact ⟨rfl, hw, cF.rf⟩, fun w hw => by rw [h2 w hw, rt_some]; exact ⟨rfl, hw, zF.rf⟩⟩
theorem MTk.z (h : ∀ t, t < 1024 → gI w 73 t = 0) (o : OkL d) : MTk d C w := fun t ht => Or.inl (h t (by have := pow10 o.1; omega))
theorem tk_of (h : dmO d d') (h5 : d' 0 3 = d 0 3 ∧ d' 0 4 = d 0 4 ∧ d' 6 = d 6 ∧ d' 7 = d 7 ∧ d' 8 = d 8 ∧ d' 9 = d 9) (t : Nat) : (∀ s, tk d' C t s = tk d C t s) ∧ mu d' C t = mu d C t := by
  have hb := (BF_of (h.1 1 (by omega)) (h.1 2 (by omega)) (h.1 3 (by omega)) t).1
  obtain ⟨e3, e4, e6, e7, e8, e9⟩ := h5
  have htw : ∀ B i, tw d' C B i = tw d C B i := fun B i => by unfold tw; rw [e4, e7, e8]
  refine ⟨fun s => ?_, ?_⟩
  · unfold tk tkB
    rw [hb, e3, e6]
    exact fb_sm_cong (fun i _ => by rw [htw])
  · unfold mu
    rw [e3]
    generalize d 0 3 = n
    induction n with
    | zero => rfl
    | succ n ih => rw [muR, muR, ih]; unfold pz; rw [hb, e7, e9]

theorem st_silence (o : Ok d C) (oT : OkT d) (x1 : Int32) : StpB d C (f_X11_silence x1) (f_X12_silence x1) := by
  by_cases c1 : f_X11_within x1 0 5000 = 0
  · exact stay o oT 0 (fun w _ => by unfold f_X11_silence; rw [if_pos c1]) (fun w _ => by unfold f_X12_silence; rw [lies_lit x1 0 5000 (by decide) (by decide), if_pos c1])
  obtain ⟨j, -, hj, rfl⟩ := within_c 0 5000 (by decide) (by decide) c1
  have hd : dmO d (up d 0 4 j) := ⟨fun i hi => up_r d (by omega), fun k _ _ => up_o d (by omega)⟩
  have oL := hd.L o.1
  refine ⟨1, up d 0 4 j, C, ⟨oL, ?_, hd.Ck o.2.2⟩, hd.T oT, by rw [up_o d (by omega)]; omega, fun w h => ?_, fun w h => ?_⟩
  · unfold OkM
    rw [up_s, up_o d (by omega), up_r (i := 5) d (by decide), up_r (i := 6) d (by decide), up_r (i := 7) d (by decide), up_r (i := 8) d (by decide), up_r (i := 9) d (by decide)]
    exact ⟨o.2.1.1, hj, o.2.1.2.2⟩
  · unfold f_X11_silence
    rw [if_neg c1, rt_some]
    refine ⟨rfl, hd.K h (fx.sI (by omega)) ?_⟩
    unfold CDm
    rw [up_s, up_o d (by omega), up_r (i := 5) d (by decide), up_r (i := 6) d (by decide), up_r (i := 7) d (by decide), up_r (i := 8) d (by decide), up_r (i := 9) d (by decide)]
    exact ⟨h.1.2.2.1.1, rfl, h.1.2.2.1.2.2⟩
  · unfold f_X12_silence
    rw [lies_lit (nI j) 0 5000 (by decide) (by decide), if_neg c1, rt_bind]
    refine (m_changes (w := sI w 47 5 (nI j)) h.1.1).mono ?_
    rintro w1 ⟨f, hz⟩
    rw [rt_some]
    refine ⟨rfl, hd.M h ((fx.sI (by omega)).tr (f.sub (fun c k z => by omega))) ?_ (MTk.z hz oL)⟩
    unfold MDm
    rw [up_s, up_o d (by omega), up_r (i := 5) d (by decide), up_r (i := 6) d (by decide), up_r (i := 7) d (by decide), up_r (i := 8) d (by decide), up_r (i := 9) d (by decide), f.I (by omega), f.I (by omega)]
    refine ⟨h.1.2.2.1.1, rfl, fun s hs => ?_, fun i hi => ?_⟩
    · rw [f.I (by omega)]; exact h.1.2.2.1.2.2.1 s hs
    · rw [f.I (by omega), f.I (by omega), f.I (by omega), f.I (by omega)]; exact h.1.2.2.1.2.2.2 i hi
theorem st_people (o : Ok d C) (oT : OkT d) (x1 x2 : Int32) : StpB d C (f_X11_people x1 x2) (f_X12_people x1 x2) := by
  by_cases c1 : f_X11_within x1 0 3 = 0
  · exact stay o oT 0 (fun w _ => by unfold f_X11_people; rw [if_pos c1]) (fun w _ => by unfold f_X12_people; rw [m_isSort, if_pos c1])
  by_cases c2 : f_X11_within x2 0 1000 = 0
  · exact stay o oT 0 (fun w _ => by unfold f_X11_people; rw [if_neg c1, if_pos c2]) (fun w _ => by unfold f_X12_people; rw [m_isSort, if_neg c1, lies_lit x2 0 1000 (by decide) (by decide), if_pos c2])
  obtain ⟨i, -, hi, rfl⟩ := within_c 0 3 (by decide) (by decide) c1
  obtain ⟨j, -, hj, rfl⟩ := within_c 0 1000 (by decide) (by decide) c2
  have hd : dmO d (up d 5 i j) := ⟨fun i hi => up_r d (by omega), fun k _ _ => up_o d (by omega)⟩
  have h5 : ∀ s, up d 5 i j 5 s = if s = i then j else d 5 s := fun s => by
    by_cases e : s = i
    · rw [if_pos e, e, up_s]
    · rw [if_neg e, up_o d (fun z => e z.2)]
  refine ⟨1, up d 5 i j, C, ⟨hd.L o.1, ?_, hd.Ck o.2.2⟩, hd.T oT, by rw [up_o d (by omega)]; omega, fun w h => ?_, fun w h => ?_⟩
  · unfold OkM
    rw [up_o (i := 0) (j := 3) d (by omega), up_o (i := 0) (j := 4) d (by omega), up_r (i := 6) d (by decide), up_r (i := 7) d (by decide), up_r (i := 8) d (by decide), up_r (i := 9) d (by decide)]
    refine ⟨o.2.1.1, o.2.1.2.1, fun s hs => ?_, o.2.1.2.2.2⟩
    rw [h5]
    split
    · exact hj
    · exact o.2.1.2.2.1 s hs
  · unfold f_X11_people
    rw [if_neg c1, if_neg c2, if_pos (inb_nI (by omega) (by decide)), rt_some, ix_nI (by omega)]
    refine ⟨rfl, hd.K h (fx.sI (by omega)) ?_⟩
    unfold CDm
    rw [up_o (i := 0) (j := 3) d (by omega), up_o (i := 0) (j := 4) d (by omega), up_r (i := 6) d (by decide), up_r (i := 7) d (by decide), up_r (i := 8) d (by decide), up_r (i := 9) d (by decide)]
    refine ⟨h.1.2.2.1.1, h.1.2.2.1.2.1, fun s hs => ?_, h.1.2.2.1.2.2.2⟩
    rw [h5]
    by_cases e : s = i
    · rw [if_pos e, e]; exact if_pos ⟨rfl, rfl⟩
    · rw [if_neg e]; exact (if_neg (fun z => e z.2)).trans (h.1.2.2.1.2.2.1 s hs)
  · unfold f_X12_people
    rw [m_isSort, if_neg c1, lies_lit (nI j) 0 1000 (by decide) (by decide), if_neg c2, if_pos (inb_nI (by omega) (by decide)), rt_some, ix_nI (by omega)]
    refine ⟨rfl, hd.M h (fx.sI (by omega)) ?_ ?_⟩
    · unfold MDm
      rw [up_o (i := 0) (j := 3) d (by omega), up_o (i := 0) (j := 4) d (by omega), up_r (i := 6) d (by decide), up_r (i := 7) d (by decide), up_r (i := 8) d (by decide), up_r (i := 9) d (by decide)]
      refine ⟨h.1.2.2.1.1, h.1.2.2.1.2.1, fun s hs => ?_, h.1.2.2.1.2.2.2⟩
      rw [h5]
      by_cases e : s = i
      · rw [if_pos e, e]; exact if_pos ⟨rfl, rfl⟩
      · rw [if_neg e]; exact (if_neg (fun z => e z.2)).trans (h.1.2.2.1.2.2.1 s hs)
    · intro t ht
      rw [up_o d (by omega)] at ht
      have z := tk_of (C := C) hd ⟨up_o d (by omega), up_o d (by omega), up_r d (by decide), up_r d (by decide), up_r d (by decide), up_r d (by decide)⟩ t
      rcases h.1.2.2.2.2.2 t ht with y | y
      · exact Or.inl y
      · exact Or.inr ⟨fun s hs => by rw [z.1]; exact y.1 s hs, by rw [z.2]; exact y.2⟩
end Chg
