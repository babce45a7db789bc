/-! OFTEN, WANTS, STRIKE -/
theorem within_p {x : Int32} {n : Nat} (hn : n < 2 ^ 31) (h : ¬ f_X11_within x 0 (nI n - 1) = 0) : ∃ i, i < n ∧ x = nI i := by
  cases n with
  | zero =>
    exfalso
    apply h
    rw [within_iff]
    by_cases q : x < 0
    · exact Or.inl q
    · right
      rw [Int32.lt_iff_toInt_lt] at q ⊢
      rw [show (nI 0 - 1 : Int32).toInt = -1 by decide]
      rw [show (0 : Int32).toInt = 0 by decide] at q
      omega
  | succ n =>
    rw [nI_pred] at h
    obtain ⟨j, -, h4, h5⟩ := (within_iffN (a := 0) (b := n) (by omega) (by omega)).mp h
    exact ⟨j, by omega, h5⟩
theorem tk_o3 {d d' : Dt} {C : Ct} (h1 : d' 1 = d 1) (h2 : d' 2 = d 2) (h3 : d' 3 = d 3) (h5 : d' 0 3 = d 0 3 ∧ d' 0 4 = d 0 4 ∧ d' 6 = d 6 ∧ d' 7 = d 7 ∧ d' 8 = d 8 ∧ d' 9 = d 9) (t : Nat) : (∀ s, tk d' C t s = tk d C t s) ∧ mu d' C t = mu d C t := by
  have hb := (BF_of h1 h2 h3 t).1
  obtain ⟨e3, e4, e6, e7, e8, e9⟩ := h5
  have htw : ∀ B i, tw d' C B i = tw d C B i := fun B i => by unfold tw; rw [e4, e7, e8]
  refine ⟨fun s => ?_, ?_⟩
  · unfold tk tkB
    rw [hb, e3, e6]
    exact fb_sm_cong (fun i _ => by rw [htw])
  · unfold mu
    rw [e3]
    generalize d 0 3 = n
    induction n with
    | zero => rfl
    | succ n ih => rw [muR, muR, ih]; unfold pz; rw [hb, e7, e9]
section Chg2
variable {d d' : Dt} {C : Ct} {w w' : Mm}
theorem st_often (o : Ok d C) (oT : OkT d) (x1 x2 : Int32) : StpB d C (f_X11_often x1 x2) (f_X12_often x1 x2) := by
  have o3 := o.2.1.1
  by_cases c1 : f_X11_within x1 0 (nI (d 0 3) - 1) = 0
  · exact stay o oT 0 (fun w h => by unfold f_X11_often; rw [h.1.2.2.1.1, if_pos c1]) (fun w h => by unfold f_X12_often; rw [h.1.2.2.1.1, lies_lit x1 0 (nI (d 0 3) - 1) (by decide) rfl, if_pos c1])
  obtain ⟨i, hi, rfl⟩ := within_p (by omega) c1
  have c0 : ¬ f_X11_within (nI i) 0 23 = 0 := (within_iffN (a := 0) (b := 23) (by decide) (by decide)).mpr ⟨i, by omega, by omega, rfl⟩
  by_cases c2 : f_X11_within x2 0 1000 = 0
  · exact stay o oT 0 (fun w h => by unfold f_X11_often; rw [h.1.2.2.1.1, if_neg c1, if_neg c0, if_pos c2]) (fun w h => by unfold f_X12_often; rw [h.1.2.2.1.1, lies_lit (nI i) 0 (nI (d 0 3) - 1) (by decide) rfl, if_neg c1, lies_lit x2 0 1000 (by decide) (by decide), if_pos c2])
  obtain ⟨j, -, hj, rfl⟩ := within_c 0 1000 (by decide) (by decide) c2
  have hd : dmO d (up d 8 i j) := ⟨fun i hi => up_r d (by omega), fun k _ _ => up_o d (by omega)⟩
  have oL := hd.L o.1
  have h8 : ∀ s, up d 8 i j 8 s = if s = i then j else d 8 s := fun s => by
    by_cases e : s = i
    · rw [if_pos e, e, up_s]
    · rw [if_neg e, up_o d (fun z => e z.2)]
  refine ⟨1, up d 8 i j, C, ⟨oL, ?_, hd.Ck o.2.2⟩, hd.T oT, by rw [up_o d (by omega)]; omega, fun w h => ?_, fun w h => ?_⟩
  · unfold OkM
    rw [up_o (i := 0) (j := 3) d (by omega), up_o (i := 0) (j := 4) d (by omega), up_r (i := 5) d (by decide), up_r (i := 6) d (by decide), up_r (i := 7) d (by decide), up_r (i := 9) d (by decide)]
    refine ⟨o.2.1.1, o.2.1.2.1, o.2.1.2.2.1, fun s hs => ?_⟩
    have z := o.2.1.2.2.2 s hs
    rw [h8]
    split
    · exact ⟨z.1, z.2.1, hj, z.2.2.2⟩
    · exact z
  · unfold f_X11_often
    rw [h.1.2.2.1.1, if_neg c1, if_neg c0, if_neg c2, if_pos (inb_nI (by omega) (by decide)), rt_some, ix_nI (by omega)]
    refine ⟨rfl, hd.K h (fx.sI (by omega)) ?_⟩
    unfold CDm
    rw [up_o (i := 0) (j := 3) d (by omega), up_o (i := 0) (j := 4) d (by omega), up_r (i := 5) d (by decide), up_r (i := 6) d (by decide), up_r (i := 7) d (by decide), up_r (i := 9) d (by decide)]
    refine ⟨h.1.2.2.1.1, h.1.2.2.1.2.1, h.1.2.2.1.2.2.1, fun s hs => ?_⟩
    have z := h.1.2.2.1.2.2.2 s hs
    rw [h8]
    refine ⟨z.1, z.2.1, ?_, z.2.2.2⟩
    by_cases e : s = i
    · rw [if_pos e, e]; exact if_pos ⟨rfl, rfl⟩
    · rw [if_neg e]; exact (if_neg (fun z => e z.2)).trans z.2.2.1
  · unfold f_X12_often
    rw [h.1.2.2.1.1, lies_lit (nI i) 0 (nI (d 0 3) - 1) (by decide) rfl, if_neg c1, lies_lit (nI j) 0 1000 (by decide) (by decide), if_neg c2, if_pos (inb_nI (by omega) (by decide)), rt_bind, ix_nI (by omega)]
    refine (m_changes (w := sI w 56 i (nI j)) h.1.1).mono ?_
    rintro w1 ⟨f, hz⟩
    rw [rt_some]
    refine ⟨rfl, hd.M h ((fx.sI (by omega)).tr (f.sub (fun c k z => by omega))) ?_ (MTk.z hz oL)⟩
    unfold MDm
    rw [up_o (i := 0) (j := 3) d (by omega), up_o (i := 0) (j := 4) d (by omega), up_r (i := 5) d (by decide), up_r (i := 6) d (by decide), up_r (i := 7) d (by decide), up_r (i := 9) d (by decide), f.I (by omega), f.I (by omega)]
    refine ⟨h.1.2.2.1.1, h.1.2.2.1.2.1, fun s hs => ?_, fun s hs => ?_⟩
    · rw [f.I (by omega)]; exact h.1.2.2.1.2.2.1 s hs
    · have z := h.1.2.2.1.2.2.2 s hs
      rw [h8, f.I (by omega), f.I (by omega), f.I (by omega), f.I (by omega)]
      refine ⟨z.1, z.2.1, ?_, z.2.2.2⟩
      by_cases e : s = i
      · rw [if_pos e, e]; exact if_pos ⟨rfl, rfl⟩
      · rw [if_neg e]; exact (if_neg (fun z => e z.2)).trans z.2.2.1
/-- a WANT more -/
def wnt (d : Dt) (a b c e : Nat) : Dt := up (up (up (up (up d 6 (d 0 3) a) 7 (d 0 3) b) 8 (d 0 3) c) 9 (d 0 3) e) 0 3 (d 0 3 + 1)
theorem st_want (o : Ok d C) (oT : OkT d) (x1 x2 x3 x4 : Int32) : StpB d C (f_X11_want x1 x2 x3 x4) (f_X12_want x1 x2 x3 x4) := by
  have o3 := o.2.1.1
  by_cases c0 : d 0 3 = 24
  · refine stay o oT (-1) (fun w h => ?_) (fun w h => ?_)
    · unfold f_X11_want f_X1_add
      rw [h.1.2.2.1.1, c0, if_neg (show ¬ nI 24 < 0 by decide), if_neg (show ¬ nI 24 < 24 by decide)]
      simp only [Option.bind_some, ite_self]
    · unfold f_X12_want
      rw [h.1.2.2.1.1, c0, if_pos (show nI 24 = 24 by decide)]
  have c00 : ¬ nI (d 0 3) = 24 := fun z => c0 ((nI_eq (b := 24) (by omega) (by decide)).mp z)
  by_cases c1 : f_X11_within x1 0 3 = 0
  · exact stay o oT (-1) (fun w h => by unfold f_X11_want; rw [if_pos c1]) (fun w h => by unfold f_X12_want; rw [h.1.2.2.1.1, if_neg c00, m_isSort, if_pos c1])
  by_cases c2 : f_X11_within x2 0 63 = 0
  · exact stay o oT (-1) (fun w h => by unfold f_X11_want; rw [if_neg c1, if_pos c2]) (fun w h => by unfold f_X12_want; rw [h.1.2.2.1.1, if_neg c00, m_isSort, if_neg c1, m_isMeaning, if_pos c2])
  by_cases c3 : f_X11_within x3 0 1000 = 0
  · exact stay o oT (-1) (fun w h => by unfold f_X11_want; rw [if_neg c1, if_neg c2, if_pos c3]) (fun w h => by unfold f_X12_want; rw [h.1.2.2.1.1, if_neg c00, m_isSort, if_neg c1, m_isMeaning, if_neg c2, lies_lit x3 0 1000 (by decide) (by decide), if_pos c3])
  by_cases c4 : f_X11_within x4 0 2000 = 0
  · exact stay o oT (-1) (fun w h => by unfold f_X11_want; rw [if_neg c1, if_neg c2, if_neg c3, if_pos c4]) (fun w h => by unfold f_X12_want; rw [h.1.2.2.1.1, if_neg c00, m_isSort, if_neg c1, m_isMeaning, if_neg c2, lies_lit x3 0 1000 (by decide) (by decide), if_neg c3, lies_lit x4 0 2000 (by decide) (by decide), if_pos c4])
  obtain ⟨a, -, ha, rfl⟩ := within_c 0 3 (by decide) (by decide) c1
  obtain ⟨b, -, hb, rfl⟩ := within_c 0 63 (by decide) (by decide) c2
  obtain ⟨c, -, hc, rfl⟩ := within_c 0 1000 (by decide) (by decide) c3
  obtain ⟨e, -, he, rfl⟩ := within_c 0 2000 (by decide) (by decide) c4
  have hd : dmO d (wnt d a b c e) := ⟨fun i hi => by unfold wnt; rw [up_r _ (by omega), up_r _ (by omega), up_r _ (by omega), up_r _ (by omega), up_r _ (by omega)], fun k h3 _ => by unfold wnt; rw [up_o _ (by omega), up_o _ (by omega), up_o _ (by omega), up_o _ (by omega), up_o _ (by omega)]⟩
  have oL := hd.L o.1
  have e3 : wnt d a b c e 0 3 = d 0 3 + 1 := up_s _ _ _ _
  have e4 : wnt d a b c e 0 4 = d 0 4 := by unfold wnt; rw [up_o _ (by omega), up_o _ (by omega), up_o _ (by omega), up_o _ (by omega), up_o _ (by omega)]
  have e5 : wnt d a b c e 5 = d 5 := by unfold wnt; rw [up_r _ (by omega), up_r _ (by omega), up_r _ (by omega), up_r _ (by omega), up_r _ (by omega)]
  have e6 : ∀ s, wnt d a b c e 6 s = if s = d 0 3 then a else d 6 s := fun s => by simp [wnt, up]
  have e7 : ∀ s, wnt d a b c e 7 s = if s = d 0 3 then b else d 7 s := fun s => by simp [wnt, up]
  have e8 : ∀ s, wnt d a b c e 8 s = if s = d 0 3 then c else d 8 s := fun s => by simp [wnt, up]
  have e9 : ∀ s, wnt d a b c e 9 s = if s = d 0 3 then e else d 9 s := fun s => by simp [wnt, up]
  refine ⟨nI (d 0 3), wnt d a b c e, C, ⟨oL, ?_, hd.Ck o.2.2⟩, hd.T oT, by rw [hd.2 7 (by omega) (by omega)]; omega, fun w h => ?_, fun w h => ?_⟩
  · unfold OkM
    rw [e3, e4, e5]
    refine ⟨by omega, o.2.1.2.1, o.2.1.2.2.1, fun s hs => ?_⟩
    have z := o.2.1.2.2.2 s hs
    rw [e6, e7, e8, e9]
    by_cases q : s = d 0 3
    · rw [if_pos q, if_pos q, if_pos q, if_pos q]; omega
    · rw [if_neg q, if_neg q, if_neg q, if_neg q]; exact z
  · unfold f_X11_want f_X1_add
    rw [if_neg c1, if_neg c2, if_neg c3, if_neg c4, h.1.2.2.1.1, if_neg (nI_pos (by omega)), if_pos (show nI (d 0 3) < 24 from nI_lt (b := 24) (by omega) (by decide)), if_pos (inb_nI (by omega) (by decide)), Option.bind_some, rt_some, ix_nI (by omega)]
    dsimp only
    refine ⟨by rw [nI_1, nI_pred], hd.K h (((((fx.sI (by omega)).tr (fx.sI (by omega))).tr (fx.sI (by omega))).tr (fx.sI (by omega))).tr (fx.sI (by omega))) ?_⟩
    unfold CDm
    rw [e3, e4, e5]
    refine ⟨by rw [gI_sI, if_pos ⟨rfl, rfl⟩, nI_1], h.1.2.2.1.2.1, h.1.2.2.1.2.2.1, fun s hs => ?_⟩
    have z := h.1.2.2.1.2.2.2 s hs
    rw [e6, e7, e8, e9]
    by_cases q : s = d 0 3
    · rw [if_pos q, if_pos q, if_pos q, if_pos q]; simp [gI_sI, q]
    · rw [if_neg q, if_neg q, if_neg q, if_neg q]; simp [gI_sI, q]; exact z
  · unfold f_X12_want
    rw [h.1.2.2.1.1, if_neg c00, m_isSort, if_neg c1, m_isMeaning, if_neg c2, lies_lit (nI c) 0 1000 (by decide) (by decide), if_neg c3, lies_lit (nI e) 0 2000 (by decide) (by decide), if_neg c4, if_pos (inb_nI (by omega) (by decide)), rt_bind, ix_nI (by omega)]
    refine (m_changes (w := sI (sI (sI (sI (sI w 54 (d 0 3) (nI a)) 55 (d 0 3) (nI b)) 56 (d 0 3) (nI c)) 57 (d 0 3) (nI e)) 47 3 (nI (d 0 3) + 1)) h.1.1).mono ?_
    rintro w1 ⟨f, hz⟩
    have g1 : gI w1 47 3 = nI (d 0 3 + 1) := by rw [f.I (by omega)]; rw [gI_sI, if_pos ⟨rfl, rfl⟩, nI_1]
    rw [rt_onL, rt_some, g1]
    refine ⟨f.lay h.1.1, nI_pred _, hd.M h ((((((fx.sI (by omega)).tr (fx.sI (by omega))).tr (fx.sI (by omega))).tr (fx.sI (by omega))).tr (fx.sI (by omega))).tr (f.sub (fun c k z => by omega))) ?_ (MTk.z hz oL)⟩
    unfold MDm
    rw [e3, e4, e5]
    refine ⟨g1, by rw [f.I (by omega)]; exact h.1.2.2.1.2.1, fun s hs => by rw [f.I (by omega)]; exact h.1.2.2.1.2.2.1 s hs, fun s hs => ?_⟩
    have z := h.1.2.2.1.2.2.2 s hs
    rw [e6, e7, e8, e9, f.I (by omega), f.I (by omega), f.I (by omega), f.I (by omega)]
    by_cases q : s = d 0 3
    · rw [if_pos q, if_pos q, if_pos q, if_pos q]; simp [gI_sI, q]
    · rw [if_neg q, if_neg q, if_neg q, if_neg q]; simp [gI_sI, q]; exact z
end Chg2
