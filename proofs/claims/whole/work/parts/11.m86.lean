/-! the class's NEAR, whole -/
/-- the state with a law of NEAR told -/
def nrd (d : Dt) (q : Nat) : Dt := up (up (wip d) 0 6 q) 0 7 (d 0 7 + 1)
section Nkw
variable {d d' : Dt} {C C' : Ct} {n : Nat} {w w' : Mm}
theorem nrd_r {q i : Nat} (h : i ≠ 0) : nrd d q i = d i := by
  unfold nrd wip
  rw [up_r _ h, up_r _ h, up_r _ h]
theorem nrd_0 {q j : Nat} (h5 : j ≠ 5) (h6 : j ≠ 6) (h7 : j ≠ 7) : nrd d q 0 j = d 0 j := by
  unfold nrd wip
  rw [up_o _ (by omega), up_o _ (by omega), up_o _ (by omega)]
theorem nrd_5 {q : Nat} : nrd d q 0 5 = 0 := by
  unfold nrd wip
  rw [up_o _ (by omega), up_o _ (by omega), up_s]
theorem nrd_6 {q : Nat} : nrd d q 0 6 = q := by
  unfold nrd
  rw [up_o _ (by omega), up_s]
theorem nrd_7 {q : Nat} : nrd d q 0 7 = d 0 7 + 1 := by
  unfold nrd
  rw [up_s]
theorem nrd_O {q : Nat} {cl : List Cl} (o : Ok d C) (h0 : 0 < q) (h12 : q ≤ 12) : Ok (nrd d q) (cstO cl) := by
  obtain ⟨o1, o2, -⟩ := o
  refine ⟨?_, ?_, fun m c b x h => cst_le h, fun h => ?_, ?_⟩
  · unfold OkL at o1 ⊢
    rw [nrd_r (i := 1) (by omega), nrd_r (i := 2) (by omega), nrd_r (i := 3) (by omega), nrd_0 (j := 0) (by omega) (by omega) (by omega), nrd_0 (j := 1) (by omega) (by omega) (by omega)]
    exact o1
  · unfold OkM at o2 ⊢
    rw [nrd_r (i := 5) (by omega), nrd_r (i := 6) (by omega), nrd_r (i := 7) (by omega), nrd_r (i := 8) (by omega), nrd_r (i := 9) (by omega), nrd_0 (j := 3) (by omega) (by omega) (by omega), nrd_0 (j := 4) (by omega) (by omega) (by omega)]
    exact o2
  · rw [nrd_6] at h; omega
  · rw [nrd_6]; exact h12
theorem nrd_T {q : Nat} (o : OkT d) : OkT (nrd d q) := by
  unfold OkT at o ⊢
  rw [nrd_5, nrd_r (i := 10) (by omega), nrd_r (i := 11) (by omega), nrd_r (i := 12) (by omega), nrd_r (i := 13) (by omega), nrd_0 (j := 0) (by omega) (by omega) (by omega)]
  exact ⟨by omega, o.2.1, o.2.2⟩
theorem nrd_B {q : Nat} (t : Nat) : BF (nrd d q) t = BF d t ∧ ∀ i, jl (nrd d q) i t = jl d i t := BF_of (nrd_r (by omega)) (nrd_r (by omega)) (nrd_r (by omega)) t
def wrT (c k : Nat) : Prop := (c = 14 ∧ k = 5) ∨ (c = 16 ∧ (k = 7 ∨ k = 9)) ∨ (17 ≤ c ∧ c ≤ 21)
theorem ki_law {q : Nat} (h : KI d C w) (f : fx wrT w w') (hN : CNr (nrd d q) C' w') : KI (nrd d q) C' w' := by
  obtain ⟨hL, hx, hd, hn, ⟨own, hO, hO2, st, hst, h8⟩, hR⟩ := h
  have nI' : ∀ c k, ¬ wrT c k → gI w' c k = gI w c k := fun c k hc => f.I hc
  refine ⟨f.lay hL, ?_, ?_, hN, ⟨own, fun k a hk ha => ?_, fun p hp => ?_, st, by rw [nrd_7]; omega, ?_⟩, ?_⟩
  · unfold CLx at hx ⊢
    rw [nrd_r (i := 1) (by omega), nrd_r (i := 2) (by omega), nrd_r (i := 3) (by omega), nrd_r (i := 4) (by omega), nrd_0 (j := 0) (by omega) (by omega) (by omega), nrd_0 (j := 1) (by omega) (by omega) (by omega), nrd_0 (j := 2) (by omega) (by omega) (by omega), f.I (by unfold wrT; omega), f.I (by unfold wrT; omega), f.I (by unfold wrT; omega)]
    refine ⟨hx.1, hx.2.1, hx.2.2.1, fun j hj => ?_⟩
    rw [f.I (by unfold wrT; omega), f.I (by unfold wrT; omega), f.I (by unfold wrT; omega), f.I (by unfold wrT; omega)]
    exact hx.2.2.2 j hj
  · unfold CDm at hd ⊢
    rw [nrd_r (i := 5) (by omega), nrd_r (i := 6) (by omega), nrd_r (i := 7) (by omega), nrd_r (i := 8) (by omega), nrd_r (i := 9) (by omega), nrd_0 (j := 3) (by omega) (by omega) (by omega), nrd_0 (j := 4) (by omega) (by omega) (by omega), f.I (by unfold wrT; omega), f.I (by unfold wrT; omega)]
    refine ⟨hd.1, hd.2.1, fun s hs => ?_, fun j hj => ?_⟩
    · rw [f.I (by unfold wrT; omega)]; exact hd.2.2.1 s hs
    · rw [f.I (by unfold wrT; omega), f.I (by unfold wrT; omega), f.I (by unfold wrT; omega), f.I (by unfold wrT; omega)]; exact hd.2.2.2 j hj
  · rw [f.R] at ha
    obtain ⟨q0, q1, q2, q3, q4, q5⟩ := hO k a hk ha
    have hB' := nrd_B (d := d) (q := q) k
    have hs := q5.st (w' := w') (fun j => f.I (by unfold wrT; omega)) (fun j => f.I (by unfold wrT; omega)) (f.L (by unfold wrT; omega)) (fun j => f.R a j) (fun c _ => f.K c) (fun p hp j => f.I (by have := (q4 p hp).1; unfold wrT; omega))
    refine ⟨by rw [nrd_0 (j := 0) (by omega) (by omega) (by omega)]; exact q0, q1, q2, q3, fun p hp => by rw [f.R] at hp; rw [f.ml]; exact q4 p hp, ?_⟩
    unfold SpOk at hs ⊢
    rw [hB'.1, hB'.2, hB'.2, hB'.2, nrd_7]
    obtain ⟨s1, s2, s3, ⟨st, s4, s5, -⟩, s6⟩ := hs
    exact ⟨s1, s2, s3, ⟨st, by omega, s5, fun z => absurd z (by omega)⟩, s6⟩
  · rw [f.R] at hp
    rw [f.K, f.ml]
    exact hO2 p hp
  · rw [f.I (by unfold wrT; omega)]; exact h8
  · unfold Rm at hR ⊢
    rw [f.ml, f.ms, f.R, show rm w' = rm w from funext (fun k => rm_cong (f.R _ _) (fun a _ => f.R _ _))]
    exact hR
theorem cp_fx {c0 c1 sp dp m : Nat} : fx (fun c _ => c = c1) w (cpI w c0 c1 sp dp m) := ⟨rfl, fun c k hc => ⟨if_neg hc, rfl⟩⟩
theorem cp_in {c0 c1 m k : Nat} (h : k < m) : gI (cpI w c0 c1 0 0 m) c1 k = gI w c0 k := by
  show (if c1 = c1 then va_cpy (w.1 c0) (w.1 c1) 0 0 m k else w.1 c1 k) = w.1 c0 k
  rw [if_pos rfl, sb_cpy0 h]
theorem atk_get : ∀ {K : Cd} {s : Nat}, AtK w s K → ∀ i, i < K.length → gI w 28 (s + i) = nI (K.getD i (0, 0)).1 ∧ gI w 29 (s + i) = nI (K.getD i (0, 0)).2
  | [], _, _, _, h => absurd h (Nat.not_lt_zero _)
  | x :: t, s, h, 0, _ => ⟨h.1, h.2.1⟩
  | x :: t, s, h, i + 1, hi => by
    have := atk_get (s := s + 1) h.2.2 i (by rw [List.length_cons] at hi; omega)
    rw [show s + (i + 1) = s + 1 + i by omega]
    exact this
theorem cla_get : ∀ {cl : List Cl} {s : Nat}, ClA w s cl → ∀ i x, cl[i]? = some x → gI w 30 (s + i) = nI x.1 ∧ gI w 31 (s + i) = nI x.2.1 ∧ gI w 32 (s + i) = nI x.2.2.1
  | [], _, _, _, _, h => (by cases h)
  | y :: t, s, h, 0, x, e => by
    cases e
    exact ⟨h.1, h.2.1, h.2.2.1⟩
  | y :: t, s, h, i + 1, x, e => by
    have := cla_get (s := s + 1) h.2.2.2 i x e
    rw [show s + (i + 1) = s + 1 + i by omega]
    exact this
theorem k_take {K : Cd} {cl : List Cl} (hL : Lay w) (hK : K.length ≤ 160) (hcl : cl.length ≤ 12) (h9 : gI w 27 9 = nI cl.length) (hA : AtK w 0 K) (hC : ClA w 0 cl) : Rt (f_X9_takeLaw 27 w) (fun w' => fx wrT w w' ∧ gI w' 14 5 = gI w 14 5 + 1 ∧ gI w' 16 9 = nI cl.length ∧ CdM 17 w' K ∧ ClG 19 w' cl) := by
  unfold f_X9_takeLaw f_X4_takeOver
  rw [Option.bind_some, show ix (0 : Int32) = 0 from rfl, show ix (160 : Int32) = 160 from rfl, show ix (12 : Int32) = 12 from rfl]
  have f1 : fx wrT w (cpI w (27 + 1) (16 + 1) 0 0 160) := cp_fx.sub (fun c k z => by unfold wrT; omega)
  have f2 : fx wrT (cpI w (27 + 1) (16 + 1) 0 0 160) (cpI (cpI w (27 + 1) (16 + 1) 0 0 160) (27 + 2) (16 + 2) 0 0 160) := cp_fx.sub (fun c k z => by unfold wrT; omega)
  have e1 : ∀ k, k < 160 → gI (cpI w (27 + 1) (16 + 1) 0 0 160) 17 k = gI w 28 k := fun k hk => cp_in hk
  generalize hw1 : cpI w (27 + 1) (16 + 1) 0 0 160 = w1 at *
  have e2 : ∀ k, k < 160 → gI (cpI w1 (27 + 2) (16 + 2) 0 0 160) 18 k = gI w1 29 k := fun k hk => cp_in hk
  have f2' : fx (fun c _ => c = 18) w1 (cpI w1 (27 + 2) (16 + 2) 0 0 160) := cp_fx
  generalize cpI w1 (27 + 2) (16 + 2) 0 0 160 = w2 at *
  have e3 : ∀ k, k < 12 → gI (cpI w2 (27 + 3) (16 + 3) 0 0 12) 19 k = gI w2 30 k := fun k hk => cp_in hk
  have f3 : fx (fun c _ => c = 19) w2 (cpI w2 (27 + 3) (16 + 3) 0 0 12) := cp_fx
  generalize cpI w2 (27 + 3) (16 + 3) 0 0 12 = w3 at *
  have e4 : ∀ k, k < 12 → gI (cpI w3 (27 + 4) (16 + 4) 0 0 12) 20 k = gI w3 31 k := fun k hk => cp_in hk
  have f4 : fx (fun c _ => c = 20) w3 (cpI w3 (27 + 4) (16 + 4) 0 0 12) := cp_fx
  generalize cpI w3 (27 + 4) (16 + 4) 0 0 12 = w4 at *
  have e5 : ∀ k, k < 12 → gI (cpI w4 (27 + 5) (16 + 5) 0 0 12) 21 k = gI w4 32 k := fun k hk => cp_in hk
  have f5 : fx (fun c _ => c = 21) w4 (cpI w4 (27 + 5) (16 + 5) 0 0 12) := cp_fx
  generalize cpI w4 (27 + 5) (16 + 5) 0 0 12 = w5 at *
  have f1' : fx (fun c _ => c = 17) w w1 := by rw [← hw1]; exact cp_fx
  have g9 : gI w5 27 9 = nI cl.length := (f5.I (by omega)).trans ((f4.I (by omega)).trans ((f3.I (by omega)).trans ((f2'.I (by omega)).trans ((f1'.I (by omega)).trans h9))))
  have fA : fx wrT w w5 := (((f1.tr f2).tr (f3.sub (fun c k z => by unfold wrT; omega))).tr (f4.sub (fun c k z => by unfold wrT; omega))).tr (f5.sub (fun c k z => by unfold wrT; omega))
  have f6 : fx (fun c k => c = 16 ∧ (k = 7 ∨ k = 9)) w5 (sI (sI w5 16 7 (gI w5 27 7)) 16 9 (gI (sI w5 16 7 (gI w5 27 7)) 27 9)) := (fx.sI (by omega)).tr (fx.sI (by omega))
  have z9 : gI (sI (sI w5 16 7 (gI w5 27 7)) 16 9 (gI (sI w5 16 7 (gI w5 27 7)) 27 9)) 16 9 = nI cl.length := g9
  generalize (sI (sI w5 16 7 (gI w5 27 7)) 16 9 (gI (sI w5 16 7 (gI w5 27 7)) 27 9)) = w6 at *
  have fB : fx wrT w w6 := fA.tr (f6.sub (fun c k z => by unfold wrT; omega))
  have f7 : fx (fun c k => c = 14 ∧ k = 5) w6 (sI w6 14 5 (gI w6 14 5 + 1)) := fx.sI ⟨rfl, rfl⟩
  rw [rt_onL, rt_some]
  refine ⟨fB.lay hL, fB.tr (f7.sub (fun c k z => by unfold wrT; omega)), ?_, (f7.I (by omega)).trans z9, fun a ha => ?_, fun i x hx => ?_⟩
  · show gI w6 14 5 + 1 = _
    rw [f6.I (by omega), f5.I (by omega), f4.I (by omega), f3.I (by omega), f2'.I (by omega), f1'.I (by omega)]
  · have g := atk_get hA a ha
    rw [Nat.zero_add] at g
    refine ⟨?_, ?_⟩
    · rw [f7.I (by omega), f6.I (by omega), f5.I (by omega), f4.I (by omega), f3.I (by omega), f2'.I (by omega), e1 a (by omega)]
      exact g.1
    · show gI (sI w6 14 5 (gI w6 14 5 + 1)) 18 a = _
      rw [f7.I (by omega), f6.I (by omega), f5.I (by omega), f4.I (by omega), f3.I (by omega), e2 a (by omega), f1'.I (by omega)]
      exact g.2
  · have hi : i < cl.length := (List.getElem?_eq_some_iff.mp hx).1
    have g := cla_get hC i x hx
    rw [Nat.zero_add] at g
    refine ⟨?_, ?_, ?_⟩
    · rw [f7.I (by omega), f6.I (by omega), f5.I (by omega), f4.I (by omega), e3 i (by omega), f2'.I (by omega), f1'.I (by omega)]
      exact g.1
    · show gI (sI w6 14 5 (gI w6 14 5 + 1)) 20 i = _
      rw [f7.I (by omega), f6.I (by omega), f5.I (by omega), e4 i (by omega), f3.I (by omega), f2'.I (by omega), f1'.I (by omega)]
      exact g.2.1
    · show gI (sI w6 14 5 (gI w6 14 5 + 1)) 21 i = _
      rw [f7.I (by omega), f6.I (by omega), e5 i (by omega), f4.I (by omega), f3.I (by omega), f2'.I (by omega), f1'.I (by omega)]
      exact g.2.2
theorem k_nread (oT : OkT d) (hn : n ≤ d 0 5) (hn160 : n ≤ 160) (hL : Lay w) (hT : CTp d w) : Rt (f_X5_read (nI n) w) (fun r => fx wrD w r.2 ∧ ((∃ e, nearR d n = .inl e ∧ e < 0 ∧ r.1 = e) ∨ ∃ K M cl, nearR d n = .inr (K, M, cl) ∧ r.1 = nI cl.length ∧ gI r.2 27 9 = nI cl.length ∧ AtK r.2 0 K ∧ ClA r.2 0 cl)) := by
  unfold f_X5_read f_X8_startText f_X4_clear
  rw [Option.bind_some, rt_onL, Option.bind_some]
  have f1 : fx wrD w (sI (sI (sI w 12 2 (nI n)) 12 3 0) 12 4 0) := ((fx.sI (by unfold wrD; omega)).tr (fx.sI (by unfold wrD; omega))).tr (fx.sI (by unfold wrD; omega))
  have f2 : fx wrD w (sI (sI (sI (sI (sI w 12 2 (nI n)) 12 3 0) 12 4 0) 27 7 0) 27 9 0) := (f1.tr (fx.sI (by unfold wrD; omega))).tr (fx.sI (by unfold wrD; omega))
  refine ⟨f1.lay hL, ?_⟩
  rw [rt_bind]
  have np := np_T (d := d) (n := n) (by omega) 13 0 0 [] [] [] (Nat.zero_le _) (Nat.zero_le _) rfl rfl (by decide)
  refine (k_readL oT hn hn160 (w0 := w) 13 0 0 [] [] [] FUEL _ rfl (by decide) (by decide) rfl (Nat.zero_le _) (Nat.zero_le _) (f2.lay hL) ⟨hT.of rfl rfl rfl (fun _ => rfl), rfl, rfl, rfl⟩ rfl rfl trivial trivial f2).mono ?_
  rintro ⟨b, w1⟩ ⟨f3, hq⟩
  dsimp only at f3 hq ⊢
  rcases hq with ⟨e, e1, e2, rfl, e4⟩ | ⟨K, M, cl, e1, rfl, e7, e9, eA, eC⟩
  · rw [if_pos rfl, rt_onL, rt_some]
    exact ⟨f3.lay hL, f3, Or.inl ⟨e, e1, (np.1 e e1).resolve_left e2, e4⟩⟩
  · rw [if_neg (by decide), rt_onL, rt_some]
    exact ⟨f3.lay hL, f3, Or.inr ⟨K, M, cl, e1, e9, e9, eA, eC⟩⟩
theorem k_near (o : Ok d C) (oT : OkT d) (h : KT d C w) (hn1 : 1 ≤ n) (hn160 : n ≤ 160) (hn : n ≤ d 0 5) : Rt (f_X11_near (nI n) w) (fun r => cF w r.2 ∧ ((∃ e, nearR d n = .inl e ∧ r.1 = e ∧ KT (wip d) C r.2) ∨ ∃ K M cl, nearR d n = .inr (K, M, cl) ∧ r.1 = nI cl.length ∧ KT (nrd d cl.length) (cstO cl) r.2)) := by
  have o5 := oT.1
  unfold f_X11_near f_X8_wipe
  rw [if_neg (show ¬ f_X11_within (nI n) 1 160 = 0 from (within_iffN (a := 1) (b := 160) (by decide) (by decide)).mpr ⟨n, by omega, by omega, rfl⟩), h.2.1.1, if_pos (nI_le hn (by omega)), rt_bind]
  refine (k_nread oT hn hn160 h.1.1 h.2.1).mono ?_
  rintro ⟨v, w1⟩ ⟨f1, hr⟩
  dsimp only at f1 hr ⊢
  have k1 := tpO.rf.KT h (f1.sub (fun c k z => by unfold wrD at z; omega)) (h.2.1.of rfl rfl (f1.I (by unfold wrD; omega)) (fun k => f1.I (by unfold wrD; omega)))
  have k2 := k1.1.wipe
  rw [rt_onL, Option.bind_some]
  refine ⟨k1.1.1.1, ?_⟩
  rcases hr with ⟨e, e1, e2, e3⟩ | ⟨K, M, cl, e1, e3, e9, eA, eC⟩
  · subst e3
    rw [if_pos (fa_of_lt e2).1, rt_some]
    exact ⟨k1.2.tr k2.2, Or.inl ⟨v, e1, rfl, k2.1⟩⟩
  · obtain ⟨p1, p2, p3, p4⟩ := (np_T (d := d) (n := n) (by omega) 13 0 0 [] [] [] (Nat.zero_le _) (Nat.zero_le _) rfl rfl (by decide)).2 K M cl e1
    obtain ⟨a1, a2⟩ := ok_near oT hn160 e1
    rw [e3, if_neg (nI_nle p3 (by omega)), rt_onL, rt_bind]
    refine ⟨k2.1.1.1, ?_⟩
    refine (k_take (K := K) (cl := cl) k2.1.1.1 (by omega) p4 e9 (eA.of (fun k _ _ => ⟨rfl, rfl⟩)) (eC.of (fun k _ _ => ⟨rfl, rfl, rfl⟩))).mono ?_
    rintro w3 ⟨f3, t1, t2, t3, t4⟩
    rw [rt_some]
    have c5 : gI (sI w1 12 1 0) 14 5 = nI (d 0 7) := k1.1.1.2.2.2.1.2.1
    have hN : CNr (nrd d cl.length) (cstO cl) w3 := by
      refine ⟨by rw [nrd_6]; exact t2, by rw [nrd_7, t1, c5, nI_1], fun w4 hw4 hL4 m c b hm hc _ => ?_⟩
      refine k_extra (K := K) (M := M) (by omega) a1.1 p4 a2 hL4 (fun a ha => ?_) (fun i x hx => ?_) ?_ hm hc
      · exact ⟨(hw4 _ _ (by omega)).trans (t3 a ha).1, (hw4 _ _ (by omega)).trans (t3 a ha).2⟩
      · exact ⟨(hw4 _ _ (by omega)).trans (t4 i x hx).1, (hw4 _ _ (by omega)).trans (t4 i x hx).2.1, (hw4 _ _ (by omega)).trans (t4 i x hx).2.2⟩
      · exact (hw4 _ _ (by omega)).trans t2
    have hk := ki_law (q := cl.length) (tpO.rf.K k1.1.1 (fx.sI (w := w1) (c := 12) (k := 1) (v := 0) (Or.inl rfl))) f3 hN
    have c3 : cF (sI w1 12 1 0) w3 := fun c k hc => by unfold inM at hc; exact ⟨f3.I (by unfold wrT; omega), f3.L (by unfold wrT; omega)⟩
    refine ⟨(k1.2.tr k2.2).tr c3, Or.inr ⟨K, M, cl, e1, rfl, hk, ⟨by rw [nrd_5]; exact f3.I (by unfold wrT; omega), fun k hk => by rw [nrd_5] at hk; omega⟩, ?_⟩⟩
    exact k2.1.2.2.of (d' := nrd d cl.length) (by rw [nrd_r (by omega)]; exact (wip_o.1 11 (by omega) (by omega)).symm) (by rw [nrd_r (by omega)]; exact (wip_o.1 12 (by omega) (by omega)).symm) (by rw [nrd_r (by omega)]; exact (wip_o.1 13 (by omega) (by omega)).symm) (by rw [nrd_r (by omega)]; exact (wip_o.1 14 (by omega) (by omega)).symm) (fun i _ => by rw [nrd_r (by omega), wip_o.1 3 (by omega) (by omega)]) (fun i j hi => f3.I (by unfold wrT; omega))
end Nkw
