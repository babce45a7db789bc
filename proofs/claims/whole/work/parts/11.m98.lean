/-! the reference's NEAR, whole, and both -/
section Nfn
variable {d : Dt} {C C' : Ct} {n : Nat} {w w' : Mm}
def wrQ (c k : Nat) : Prop := wrY c k ∨ (c = 47 ∧ (k = 1 ∨ k = 29))
def wrR (c k : Nat) : Prop := wrQ c k ∨ (c = 47 ∧ k = 17) ∨ (58 ≤ c ∧ c ≤ 62) ∨ c = 73
theorem wrQ_s {c k : Nat} (h : wrQ c k) : scr c k := by
  unfold wrQ wrY wrU wrV wrW at h
  unfold scr
  omega
theorem MT.nrbad (h : MT d C w) (f : fx wrQ w w') (h1 : gI w' 47 1 = 0) : MT (wip d) C w' ∧ zF w w' := by
  refine ⟨⟨wip_q.M h.1 (f.sub (fun c k z => wrQ_s z)), ⟨by rw [h1, wip_5]; rfl, fun k hk => by rw [wip_5] at hk; omega⟩, ?_⟩, f.sub (fun c k z => by have := wrQ_s z; unfold scr at this; unfold inM; omega)⟩
  exact h.2.2.of (wip_o.1 11 (by omega) (by omega)) (wip_o.1 12 (by omega) (by omega)) (wip_o.1 13 (by omega) (by omega)) (wip_o.1 14 (by omega) (by omega)) (fun c k h1 h2 => f.I (by unfold wrQ wrY wrU wrV wrW; omega))
theorem mi_law {q : Nat} (h : MI d C w) (o : Ok d C) (f : fx wrR w w') (hN : MNr (nrd d q) C' w') (h73 : ∀ t, t < 1024 → gI w' 73 t = 0) : MI (nrd d q) C' w' := by
  obtain ⟨hL, hx, hd, -, hb, -⟩ := h
  have nr : ∀ {c k : Nat}, ¬ (c = 47 ∧ (k = 1 ∨ k = 17 ∨ 28 ≤ k)) → ¬ (58 ≤ c ∧ c ≤ 70) → c ≠ 73 → ¬ wrR c k := fun {c k} a1 a2 a3 z => by
    unfold wrR wrQ wrY wrU wrV wrW at z
    omega
  refine ⟨f.lay hL, ?_, ?_, hN, ?_, ?_⟩
  · unfold MLx at hx ⊢
    rw [nrd_r (i := 1) (by omega), nrd_r (i := 2) (by omega), nrd_r (i := 3) (by omega), nrd_r (i := 4) (by omega), nrd_0 (j := 0) (by omega) (by omega) (by omega), nrd_0 (j := 1) (by omega) (by omega) (by omega), nrd_0 (j := 2) (by omega) (by omega) (by omega), f.I (nr (by omega) (by omega) (by omega)), f.I (nr (by omega) (by omega) (by omega)), f.I (nr (by omega) (by omega) (by omega))]
    refine ⟨hx.1, hx.2.1, hx.2.2.1, fun j hj => ?_⟩
    rw [f.I (nr (by omega) (by omega) (by omega)), f.I (nr (by omega) (by omega) (by omega)), f.I (nr (by omega) (by omega) (by omega)), f.I (nr (by omega) (by omega) (by omega))]
    exact hx.2.2.2 j hj
  · unfold MDm at hd ⊢
    rw [nrd_r (i := 5) (by omega), nrd_r (i := 6) (by omega), nrd_r (i := 7) (by omega), nrd_r (i := 8) (by omega), nrd_r (i := 9) (by omega), nrd_0 (j := 3) (by omega) (by omega) (by omega), nrd_0 (j := 4) (by omega) (by omega) (by omega), f.I (nr (by omega) (by omega) (by omega)), f.I (nr (by omega) (by omega) (by omega))]
    refine ⟨hd.1, hd.2.1, fun s hs => ?_, fun j hj => ?_⟩
    · rw [f.I (nr (by omega) (by omega) (by omega))]; exact hd.2.2.1 s hs
    · rw [f.I (nr (by omega) (by omega) (by omega)), f.I (nr (by omega) (by omega) (by omega)), f.I (nr (by omega) (by omega) (by omega)), f.I (nr (by omega) (by omega) (by omega))]; exact hd.2.2.2 j hj
  · have z := hb.fx f (fun k => nr (by omega) (by omega) (by omega)) (fun k => nr (by omega) (by omega) (by omega))
    intro t ht
    rw [nrd_0 (j := 0) (by omega) (by omega) (by omega)] at ht
    rcases z t ht with y | y
    · exact Or.inl y
    · exact Or.inr (fun m hm => by rw [(nrd_B t).1]; exact y m hm)
  · intro t ht
    rw [nrd_0 (j := 0) (by omega) (by omega) (by omega)] at ht
    have p10 := pow10 o.1.1
    exact Or.inl (h73 t (by omega))
theorem n_c127 {q : Nat} (hq : q ≤ 12) (hL : Lay w) (h31 : gI w 47 31 = nI q) : Rt (wh l_X12_near_127 FUEL ((0 : Int32), w)) (fun w' => fx (fun c _ => 58 ≤ c ∧ c ≤ 60) w w' ∧ ∀ k, k < q → gI w' 58 k = gI w 63 k ∧ gI w' 59 k = gI w 64 k ∧ gI w' 60 k = gI w 65 k) := by
  refine rt_for (fun k (s : Int32 × Mm) => s.1 = nI k ∧ fx (fun c _ => 58 ≤ c ∧ c ≤ 60) w s.2 ∧ ∀ j, j < k → gI s.2 58 j = gI w 63 j ∧ gI s.2 59 j = gI w 64 j ∧ gI s.2 60 j = gI w 65 j) q ?_ ?_ ⟨rfl, fx.rf, fun j hj => absurd hj (Nat.not_lt_zero j)⟩ (by omega)
  · rintro k ⟨s1, s2⟩ hk ⟨e1, e2, e3⟩
    dsimp only at e1 e2 e3
    subst e1
    unfold l_X12_near_127
    dsimp only
    rw [rt_onL, e2.I (by omega), h31, if_neg (nI_ge hk (by omega)), if_pos (inb_nI (by omega) (by decide)), rt_some, nx_l, ix_nI (by omega)]
    refine ⟨e2.lay hL, nI_1 k, ((e2.tr (fx.sI (by omega))).tr (fx.sI (by omega))).tr (fx.sI (by omega)), fun j hj => ?_⟩
    dsimp only
    have s58 : gI (sI (sI (sI s2 58 k (gI s2 63 k)) 59 k (gI s2 64 k)) 60 k (gI s2 65 k)) 58 j = gI (sI s2 58 k (gI s2 63 k)) 58 j := rfl
    have s59 : gI (sI (sI (sI s2 58 k (gI s2 63 k)) 59 k (gI s2 64 k)) 60 k (gI s2 65 k)) 59 j = gI (sI s2 59 k (gI s2 64 k)) 59 j := rfl
    have s60 : gI (sI (sI (sI s2 58 k (gI s2 63 k)) 59 k (gI s2 64 k)) 60 k (gI s2 65 k)) 60 j = gI (sI s2 60 k (gI s2 65 k)) 60 j := rfl
    rw [s58, s59, s60, gI_sI, gI_sI, gI_sI, e2.I (c := 63) (k := k) (by omega), e2.I (c := 64) (k := k) (by omega), e2.I (c := 65) (k := k) (by omega)]
    by_cases z : j = k
    · rw [if_pos ⟨rfl, z⟩, if_pos ⟨rfl, z⟩, if_pos ⟨rfl, z⟩, z]
      exact ⟨rfl, rfl, rfl⟩
    · rw [if_neg (fun y => z y.2), if_neg (fun y => z y.2), if_neg (fun y => z y.2)]
      exact e3 j (by omega)
  · rintro ⟨s1, s2⟩ ⟨e1, e2, e3⟩
    dsimp only at e1 e2 e3
    subst e1
    unfold l_X12_near_127
    dsimp only
    rw [rt_onL, e2.I (by omega), h31, if_pos (nI_le (Nat.le_refl _) (by omega)), rt_some, nx_r]
    exact ⟨e2.lay hL, e2, e3⟩
theorem n_c179 {q : Nat} (hq : q ≤ 160) (hL : Lay w) (h32 : gI w 47 32 = nI q) : Rt (wh l_X12_near_179 FUEL ((0 : Int32), w)) (fun w' => fx (fun c _ => 61 ≤ c ∧ c ≤ 62) w w' ∧ ∀ k, k < q → gI w' 61 k = gI w 66 k ∧ gI w' 62 k = gI w 67 k) := by
  refine rt_for (fun k (s : Int32 × Mm) => s.1 = nI k ∧ fx (fun c _ => 61 ≤ c ∧ c ≤ 62) w s.2 ∧ ∀ j, j < k → gI s.2 61 j = gI w 66 j ∧ gI s.2 62 j = gI w 67 j) q ?_ ?_ ⟨rfl, fx.rf, fun j hj => absurd hj (Nat.not_lt_zero j)⟩ (by omega)
  · rintro k ⟨s1, s2⟩ hk ⟨e1, e2, e3⟩
    dsimp only at e1 e2 e3
    subst e1
    unfold l_X12_near_179
    dsimp only
    rw [rt_onL, e2.I (by omega), h32, if_neg (nI_ge hk (by omega)), if_pos (inb_nI (by omega) (by decide)), rt_some, nx_l, ix_nI (by omega)]
    refine ⟨e2.lay hL, nI_1 k, (e2.tr (fx.sI (by omega))).tr (fx.sI (by omega)), fun j hj => ?_⟩
    dsimp only
    have s61 : gI (sI (sI s2 61 k (gI s2 66 k)) 62 k (gI s2 67 k)) 61 j = gI (sI s2 61 k (gI s2 66 k)) 61 j := rfl
    have s62 : gI (sI (sI s2 61 k (gI s2 66 k)) 62 k (gI s2 67 k)) 62 j = gI (sI s2 62 k (gI s2 67 k)) 62 j := rfl
    rw [s61, s62, gI_sI, gI_sI, e2.I (c := 66) (k := k) (by omega), e2.I (c := 67) (k := k) (by omega)]
    by_cases z : j = k
    · rw [if_pos ⟨rfl, z⟩, if_pos ⟨rfl, z⟩, z]
      exact ⟨rfl, rfl⟩
    · rw [if_neg (fun y => z y.2), if_neg (fun y => z y.2)]
      exact e3 j (by omega)
  · rintro ⟨s1, s2⟩ ⟨e1, e2, e3⟩
    dsimp only at e1 e2 e3
    subst e1
    unfold l_X12_near_179
    dsimp only
    rw [rt_onL, e2.I (by omega), h32, if_pos (nI_le (Nat.le_refl _) (by omega)), rt_some, nx_r]
    exact ⟨e2.lay hL, e2, e3⟩
theorem m_near (o : Ok d C) (oT : OkT d) (h : MT d C w) (hn1 : 1 ≤ n) (hn160 : n ≤ 160) (hn : n ≤ d 0 5) : Rt (f_X12_near (nI n) w) (fun r => zF w r.2 ∧ ((∃ e, nearR d n = .inl e ∧ r.1 = e ∧ MT (wip d) C r.2) ∨ ∃ K M cl, nearR d n = .inr (K, M, cl) ∧ r.1 = nI cl.length ∧ MT (nrd d cl.length) (cstO cl) r.2)) := by
  have o5 := oT.1
  unfold f_X12_near f_X12_begins
  rw [lies_lit (nI n) 1 160 (by decide) (by decide), if_neg (show ¬ f_X11_within (nI n) 1 160 = 0 from (within_iffN (a := 1) (b := 160) (by decide) (by decide)).mpr ⟨n, by omega, by omega, rfl⟩), h.2.1.1, if_pos (nI_le hn (by omega)), Option.bind_some, rt_onL]
  have s1 : ∀ (w : Mm) (k : Nat) (v : Int32), (k = 1 ∨ k = 28 ∨ k = 29 ∨ k = 30 ∨ k = 31 ∨ k = 32 ∨ k = 33 ∨ k = 34) → fx wrQ w (sI w 47 k v) := fun w k v hk => fx.sI (by unfold wrQ wrY wrU wrV wrW; omega)
  have f1 : fx wrQ w (sI (sI (sI (sI (sI (sI w 47 1 (0 : Int32)) 47 28 (0 : Int32)) 47 29 (nI n)) 47 30 (0 : Int32)) 47 34 (0 : Int32)) 47 33 (0 : Int32)) := (((((s1 _ _ _ (by omega)).tr (s1 _ _ _ (by omega))).tr (s1 _ _ _ (by omega))).tr (s1 _ _ _ (by omega))).tr (s1 _ _ _ (by omega))).tr (s1 _ _ _ (by omega))
  have f2 : fx wrQ w (sI (sI (sI (sI (sI (sI (sI (sI w 47 1 (0 : Int32)) 47 28 (0 : Int32)) 47 29 (nI n)) 47 30 (0 : Int32)) 47 34 (0 : Int32)) 47 33 (0 : Int32)) 47 31 0) 47 32 0) := (f1.tr (s1 _ _ _ (by omega))).tr (s1 _ _ _ (by omega))
  refine ⟨f1.lay h.1.1, ?_⟩
  have d1 : ND 0 [] [] (sI (sI (sI (sI (sI (sI (sI (sI w 47 1 (0 : Int32)) 47 28 (0 : Int32)) 47 29 (nI n)) 47 30 (0 : Int32)) 47 34 (0 : Int32)) 47 33 (0 : Int32)) 47 31 0) 47 32 0) := ⟨rfl, rfl, rfl, rfl, trivial, rfl, fun a ha => absurd ha (Nat.not_lt_zero _)⟩
  have d2 : NC 0 [] (sI (sI (sI (sI (sI (sI (sI (sI w 47 1 (0 : Int32)) 47 28 (0 : Int32)) 47 29 (nI n)) 47 30 (0 : Int32)) 47 34 (0 : Int32)) 47 33 (0 : Int32)) 47 31 0) 47 32 0) := ⟨rfl, rfl, fun i x hx => (by cases hx)⟩
  have d3 : NSt d n (sI (sI (sI (sI (sI (sI (sI (sI w 47 1 (0 : Int32)) 47 28 (0 : Int32)) 47 29 (nI n)) 47 30 (0 : Int32)) 47 34 (0 : Int32)) 47 33 (0 : Int32)) 47 31 0) 47 32 0) := ⟨f2.lay h.1.1, fun k hk => h.2.1.2 k (by omega), rfl⟩
  have d4 : gI (sI (sI (sI (sI (sI (sI (sI (sI w 47 1 (0 : Int32)) 47 28 (0 : Int32)) 47 29 (nI n)) 47 30 (0 : Int32)) 47 34 (0 : Int32)) 47 33 (0 : Int32)) 47 31 0) 47 32 0) 47 1 = 0 := rfl
  generalize (sI (sI (sI (sI (sI (sI (sI (sI w 47 1 (0 : Int32)) 47 28 (0 : Int32)) 47 29 (nI n)) 47 30 (0 : Int32)) 47 34 (0 : Int32)) 47 33 (0 : Int32)) 47 31 0) 47 32 0) = w2 at *
  rw [rt_bind]
  refine (n_nearL (w0 := w2) oT hn160 13 0 0 [] [] [] FUEL w2 rfl (by decide) (by decide) (Nat.zero_le _) (Nat.zero_le _) rfl d3 d1 d2 fx.rf).mono ?_
  rintro w3 ⟨f3, hr⟩
  have fA : fx wrQ w w3 := f2.tr (f3.sub (fun c k z => Or.inl z))
  have t1 : gI w3 47 1 = 0 := (f3.I (by unfold wrY wrU wrV wrW; omega)).trans d4
  rw [rt_onL]
  refine ⟨fA.lay h.1.1, ?_⟩
  rcases hr with ⟨e, e1, e2, e3⟩ | ⟨K, M, cl, e1, e2, e32, eM, eC⟩
  · rw [e3, if_neg (fun z => (fa_of_lt e2).2.1 z), rt_some]
    have k := h.nrbad fA t1
    exact ⟨k.2, Or.inl ⟨e, e1, rfl, k.1⟩⟩
  · obtain ⟨p1, p2, p3, p4⟩ := (np_T (d := d) (n := n) (by omega) 13 0 0 [] [] [] (Nat.zero_le _) (Nat.zero_le _) rfl rfl (by decide)).2 K M cl e1
    obtain ⟨a1, a2⟩ := ok_near oT hn160 e1
    obtain ⟨c1, -, c3⟩ := eC
    rw [e2, if_pos (by decide), rt_bind]
    refine (n_c127 p4 (fA.lay h.1.1) c1).mono ?_
    rintro w4 ⟨f4, g4⟩
    have fB : fx wrR w w4 := (fA.sub (fun c k z => Or.inl z)).tr (f4.sub (fun c k z => Or.inr (Or.inr (Or.inl (by omega)))))
    rw [rt_bind]
    refine (n_c179 (q := M.length) (by omega) (fB.lay h.1.1) ((f4.I (by omega)).trans e32)).mono ?_
    rintro w5 ⟨f5, g5⟩
    have fC : fx wrR w w5 := fB.tr (f5.sub (fun c k z => by unfold wrR; omega))
    rw [rt_onL, rt_bind]
    refine ⟨fC.lay h.1.1, ?_⟩
    have g31 : gI w5 47 31 = nI cl.length := (f5.I (by omega)).trans ((f4.I (by omega)).trans c1)
    rw [g31]
    have f6 : fx wrR w (sI w5 47 17 (nI cl.length)) := fC.tr (fx.sI (by unfold wrR; omega))
    refine (m_changes (f6.lay h.1.1)).mono ?_
    rintro w7 ⟨f7, g7⟩
    have fD : fx wrR w w7 := f6.tr (f7.sub (fun c k z => by unfold wrR; omega))
    have t17 : gI w7 47 17 = nI cl.length := f7.I (by omega)
    have t71 : gI w7 47 1 = 0 := (f7.I (by omega)).trans ((f5.I (by omega)).trans ((f4.I (by omega)).trans t1))
    have hCd : CdM 61 w7 M := fun a ha => by
      have x1 : gI w7 61 a = gI w3 66 a := (f7.I (by omega)).trans (((g5 a ha).1).trans (f4.I (by omega)))
      have x2 : gI w7 62 a = gI w3 67 a := (f7.I (by omega)).trans (((g5 a ha).2).trans (f4.I (by omega)))
      exact ⟨x1.trans (eM a ha).1, x2.trans (eM a ha).2⟩
    have hCg : ClG 58 w7 cl := fun i x hx => by
      have hi : i < cl.length := (List.getElem?_eq_some_iff.mp hx).1
      have y := g4 i hi
      have z := c3 i x hx
      have x1 : gI w7 58 i = gI w3 63 i := (f7.I (by omega)).trans ((f5.I (by omega)).trans y.1)
      have x2 : gI w7 59 i = gI w3 64 i := (f7.I (by omega)).trans ((f5.I (by omega)).trans y.2.1)
      have x3 : gI w7 60 i = gI w3 65 i := (f7.I (by omega)).trans ((f5.I (by omega)).trans y.2.2)
      exact ⟨x1.trans z.1, x2.trans z.2.1, x3.trans z.2.2⟩
    have hN : MNr (nrd d cl.length) (cstO cl) w7 := by
      refine ⟨by rw [nrd_6]; exact t17, fun w8 hw8 hL8 m c b hm hc _ => ?_⟩
      refine n_cost (K := K) (M := M) (by omega) p2 a1.2 p4 a2 hL8 (fun a ha => ?_) (fun i x hx => ?_) ?_ hm hc
      · exact ⟨(hw8 _ _ (by omega)).trans (hCd a ha).1, (hw8 _ _ (by omega)).trans (hCd a ha).2⟩
      · exact ⟨(hw8 _ _ (by omega)).trans (hCg i x hx).1, (hw8 _ _ (by omega)).trans (hCg i x hx).2.1, (hw8 _ _ (by omega)).trans (hCg i x hx).2.2⟩
      · exact (hw8 _ _ (by omega)).trans t17
    have hk := mi_law (q := cl.length) h.1 o fD hN g7
    rw [rt_onL, rt_some]
    refine ⟨fD.lay h.1.1, fD.sub (fun c k z => by unfold wrR wrQ wrY wrU wrV wrW at z; unfold inM; omega), Or.inr ⟨K, M, cl, e1, t17, hk, ⟨by rw [nrd_5]; exact t71, fun k hk => by rw [nrd_5] at hk; omega⟩, ?_⟩⟩
    exact h.2.2.of (nrd_r (by omega)) (nrd_r (by omega)) (nrd_r (by omega)) (nrd_r (by omega)) (fun c k h1 h2 => fD.I (by unfold wrR wrQ wrY wrU wrV wrW; omega))
theorem st_near (o : Ok d C) (oT : OkT d) (x : Int32) : StpB d C (f_X11_near x) (f_X12_near x) := by
  have o5 := oT.1
  by_cases c2 : f_X11_within x 1 160 = 0
  · exact stay o oT (-1) (fun w _ => by unfold f_X11_near; rw [if_pos c2]) (fun w _ => by unfold f_X12_near; rw [lies_lit x 1 160 (by decide) (by decide), if_pos c2])
  obtain ⟨n, n1, n2, rfl⟩ := (within_iffN (a := 1) (b := 160) (by decide) (by decide)).mp c2
  by_cases c3 : n ≤ d 0 5
  · cases hR : nearR d n with
    | inl e =>
      refine ⟨e, wip d, C, wip_o.O o, wip_T oT, by rw [wip_o.2 7 (by omega)]; omega, fun w h => (k_near o oT h n1 n2 c3).mono ?_, fun w h => (m_near o oT h n1 n2 c3).mono ?_⟩
      · rintro r ⟨f, ⟨e', q1, q3, q4⟩ | ⟨K, M, cl, q1, q2⟩⟩
        · rw [hR] at q1; obtain rfl := Sum.inl.inj q1; exact ⟨q3, q4, f⟩
        · rw [hR] at q1; cases q1
      · rintro r ⟨f, ⟨e', q1, q3, q4⟩ | ⟨K, M, cl, q1, q2⟩⟩
        · rw [hR] at q1; obtain rfl := Sum.inl.inj q1; exact ⟨q3, q4, f⟩
        · rw [hR] at q1; cases q1
    | inr r =>
      obtain ⟨K, M, cl⟩ := r
      obtain ⟨p1, p2, p3, p4⟩ := (np_T (d := d) (n := n) (by omega) 13 0 0 [] [] [] (Nat.zero_le _) (Nat.zero_le _) rfl rfl (by decide)).2 K M cl hR
      refine ⟨nI cl.length, nrd d cl.length, cstO cl, nrd_O o p3 p4, nrd_T oT, by rw [nrd_7]; omega, fun w h => (k_near o oT h n1 n2 c3).mono ?_, fun w h => (m_near o oT h n1 n2 c3).mono ?_⟩
      · rintro r ⟨f, ⟨e', q1, q2⟩ | ⟨K, M, cl, q1, q3, q4⟩⟩
        · rw [hR] at q1; cases q1
        · rw [hR] at q1; cases q1; exact ⟨q3, q4, f⟩
      · rintro r ⟨f, ⟨e', q1, q2⟩ | ⟨K, M, cl, q1, q3, q4⟩⟩
        · rw [hR] at q1; cases q1
        · rw [hR] at q1; cases q1; exact ⟨q3, q4, f⟩
  · exact stay o oT (-1) (fun w h => by unfold f_X11_near; rw [if_neg c2, h.2.1.1, if_neg (nI_ge (by omega) (by omega))]) (fun w h => by unfold f_X12_near; rw [lies_lit (nI n) 1 160 (by decide) (by decide), if_neg c2, h.2.1.1, if_neg (nI_ge (by omega) (by omega))])
end Nfn
