/-! THE SPITE, KEPT, TILL WHEN -/
def lv (V : Nat → Int64) : Option Nat → Int64
  | none => 0
  | some b => V b
section Mx
variable {V : Nat → Int64} {p : Nat → Bool} {i : Nat}
theorem mx_y (hi : i < 2 ^ 31) (hp : p i = true) {α : Type} (w : α) : mg (if oI (amin p (fun i => -(V i).toInt) i) = (-1 : Int32) then some (.inl ()) else if V i ≤ lv V (amin p (fun i => -(V i).toInt) i) then some (.inr (oI (amin p (fun i => -(V i).toInt) i), lv V (amin p (fun i => -(V i).toInt) i), w)) else some (.inl ())) (fun _ : Unit => some (nI i, V i, w)) = some (oI (amin p (fun i => -(V i).toInt) (i + 1)), lv V (amin p (fun i => -(V i).toInt) (i + 1)), w) := by
  cases e : amin p (fun i => -(V i).toInt) i with
  | none => rw [if_pos (by rfl), amin_0 hp e]; rfl
  | some b =>
    obtain ⟨h1, h2, -⟩ := amin_some e
    rw [if_neg (show ¬ oI (some b) = -1 from nm1 (by omega)), show lv V (some b) = V b from rfl]
    by_cases c : V i ≤ V b
    · rw [if_pos c, amin_k e (by rw [fa_le64] at c; omega)]; rfl
    · rw [if_neg c, amin_l hp e (by rw [fa_le64] at c; omega)]; rfl
theorem mx_m (hi : i < 2 ^ 31) (hp : p i = true) {α : Type} (w : α) : mg (if oI (amin p (fun i => -(V i).toInt) i) = (-1 : Int32) then some (.inl ()) else if lv V (amin p (fun i => -(V i).toInt) i) < V i then some (.inl ()) else some (.inr (oI (amin p (fun i => -(V i).toInt) i), lv V (amin p (fun i => -(V i).toInt) i), w))) (fun _ : Unit => some (nI i, V i, w)) = some (oI (amin p (fun i => -(V i).toInt) (i + 1)), lv V (amin p (fun i => -(V i).toInt) (i + 1)), w) := by
  cases e : amin p (fun i => -(V i).toInt) i with
  | none => rw [if_pos (by rfl), amin_0 hp e]; rfl
  | some b =>
    obtain ⟨h1, h2, -⟩ := amin_some e
    rw [if_neg (show ¬ oI (some b) = -1 from nm1 (by omega)), show lv V (some b) = V b from rfl]
    by_cases c : V b < V i
    · rw [if_pos c, amin_l hp e (by rw [fa_lt64] at c; omega)]; rfl
    · rw [if_neg c, amin_k e (by rw [fa_lt64] at c; omega)]; rfl
end Mx
/-- by what TALK of a SORT grows, without a WORD -/
noncomputable def gw (d : Dt) (C : Ct) (i s : Nat) : Int64 := lN (tk d C (wo (d 0 1) i) s) - lN (tk d C (d 0 1) s)
noncomputable def sv (d : Dt) (C : Ct) (s i : Nat) : Int64 := ((lN (tkA d C (wo (d 0 1) i)) - lN (tkA d C (d 0 1))) - gw d C i s) - ((3 : Int64) * gw d C i s)
section Ops3
variable {d : Dt} {C : Ct} {w : Mm}
theorem m_growsBy (o : Ok d C) (h : MI d C w) {i s : Nat} (hi : i < 10) (hs : s < 4) : Rt (f_X12_growsBy (nI i) (nI s) w) (fun p => p.1 = gw d C i s ∧ ZQ d C w p.2) := by
  have hu := o.1.2.1
  unfold f_X12_growsBy
  rw [h.U, wo_N (by omega), rt_bind]
  refine (m_talkBy o h (wo_lt hu) hs).mono ?_
  rintro ⟨v, w1⟩ ⟨e, q, m, -⟩
  dsimp only at e q m ⊢
  subst e
  rw [rt_onL, m.U, rt_bind]
  refine ⟨m.1, (m_talkBy o m hu hs).mono ?_⟩
  rintro ⟨v, w2⟩ ⟨e, q2, m2, -⟩
  dsimp only at e q2 m2 ⊢
  subst e
  rw [rt_some]
  exact ⟨rfl, q.tr q2, m2⟩
theorem x0_spiteful (o : Ok d C) (hst : d 0 7 < 2 ^ 31) (h : KI d C w) {s : Nat} (hs : s < 4) : Rt (f_X0_spiteful (nI s) w) (fun p => p.1 = oI (amin (d 0 1).testBit (fun i => -(sv d C s i).toInt) 10) ∧ KQ d C w p.2) := by
  have p10 := pow10 o.1.1
  have hu := o.1.2.1
  unfold f_X0_spiteful
  rw [h.U, rt_bind]
  refine (x_sp o h hu).mono ?_
  rintro ⟨a, w1⟩ ⟨q1, hA, hsp, hL, -⟩
  dsimp only at q1 hA hsp hL ⊢
  rw [rt_onL, if_pos hsp.1, rt_bind]
  refine ⟨hL, (x9_yearly (B := BF d (d 0 1)) (so := some s) o hst (fun j b e => BF_le o.1 e) q1.1 hA (fun s' e => by cases e; exact hs)).mono ?_⟩
  rintro ⟨v, w2⟩ ⟨e2, q2, hA2⟩
  dsimp only at e2 q2 hA2 ⊢
  subst e2
  rw [rt_onL, if_pos (hA2.sp q2.1).1, rt_bind]
  refine ⟨q2.1.1, (x9_yearly (B := BF d (d 0 1)) (so := none) o hst (fun j b e => BF_le o.1 e) q2.1 hA2 (fun s' e => by cases e)).mono ?_⟩
  rintro ⟨v, w3⟩ ⟨e3, q3, -⟩
  dsimp only at e3 q3 ⊢
  subst e3
  have q03 := (q1.tr q2).tr q3
  rw [tks_n, tks_s, rt_bind]
  refine Rt.mono (rt_for (Q := fun p => p.1 = oI (amin (d 0 1).testBit (fun i => -(sv d C s i).toInt) 10) ∧ KQ d C w p.2) (fun i s' => s'.1 = oI (amin (d 0 1).testBit (fun i => -(sv d C s i).toInt) i) ∧ s'.2.1 = lv (sv d C s) (amin (d 0 1).testBit (fun i => -(sv d C s i).toInt) i) ∧ s'.2.2.1 = nI i ∧ KQ d C w s'.2.2.2) 10 ?_ ?_ ⟨rfl, rfl, rfl, q03⟩ (by decide)) (fun p hp => by rw [rt_some]; exact hp)
  · rintro i ⟨b, l, c, w4⟩ hi ⟨h1, h2, h3, hq⟩
    dsimp only at h1 h2 h3 hq
    subst h1 h2 h3
    unfold l_X0_spiteful_47
    dsimp only
    rw [if_neg (show ¬ (10 : Int32) ≤ nI i from nI_ge (b := 10) hi (by decide)), rt_onL, hq.1.U, contains_N (by omega) (by omega)]
    refine ⟨hq.1.1, ?_⟩
    simp only [bI_0]
    by_cases p1 : (d 0 1).testBit i = true
    · rw [if_neg (by rw [p1]; decide), without_N (by omega)]
      simp only [rt_bind]
      refine (x_sp o hq.1 (wo_lt hu)).mono ?_
      rintro ⟨a5, w5⟩ ⟨q5, hA5, hs5, hL5, -⟩
      dsimp only at q5 hA5 hs5 hL5 ⊢
      rw [rt_onL, if_pos hs5.1, rt_bind]
      refine ⟨hL5, (x9_yearly (B := BF d (wo (d 0 1) i)) (so := some s) o hst (fun j b e => BF_le o.1 e) q5.1 hA5 (fun s' e => by cases e; exact hs)).mono ?_⟩
      rintro ⟨v, w6⟩ ⟨e6, q6, hA6⟩
      dsimp only at e6 q6 hA6 ⊢
      subst e6
      rw [rt_onL, if_pos (hA6.sp q6.1).1, rt_bind]
      refine ⟨q6.1.1, (x9_yearly (B := BF d (wo (d 0 1) i)) (so := none) o hst (fun j b e => BF_le o.1 e) q6.1 hA6 (fun s' e => by cases e)).mono ?_⟩
      rintro ⟨v, w7⟩ ⟨e7, q7, -⟩
      dsimp only at e7 q7 ⊢
      subst e7
      rw [tks_n, tks_s]
      have hV := mx_y (V := sv d C s) (p := (d 0 1).testBit) (i := i) (by omega) p1 w7
      refine (rt_eq hV).mpr ?_
      rw [rt_some, nx_l]
      exact ⟨rfl, rfl, nI_1 i, hq.tr ((q5.tr q6).tr q7)⟩
    · rw [if_pos (bool_f p1), Option.bind_some, rt_some, nx_l]
      dsimp only
      rw [amin_n (bool_f p1)]
      exact ⟨rfl, rfl, nI_1 i, hq⟩
  · rintro ⟨b, l, c, w1⟩ ⟨h1, h2, h3, hq⟩
    dsimp only at h1 h2 h3 hq
    subst h1 h2 h3
    unfold l_X0_spiteful_47
    dsimp only
    rw [if_pos (show (10 : Int32) ≤ nI 10 by decide), rt_some, nx_r]
    exact ⟨rfl, hq⟩
theorem ag_spite (o : Ok d C) (hst : d 0 7 < 2 ^ 31) (x1 : Int32) : Agree d C (f_X11_spite x1) (f_X12_spite x1) := by
  have p10 := pow10 o.1.1
  have o1 := o.1.1
  have hu := o.1.2.1
  by_cases c1 : f_X11_within x1 0 3 = 0
  · refine ⟨-1, fun w h => ?_, fun w h => ?_⟩
    · unfold f_X11_spite
      rw [if_pos c1, rt_some]; exact ⟨rfl, KW.rf h⟩
    · unfold f_X12_spite
      rw [m_isSort, if_pos c1, rt_some]; exact ⟨rfl, ZW.rf h⟩
  obtain ⟨s, -, hs, rfl⟩ := within_c 0 3 (by decide) (by decide) c1
  refine ⟨oI (amin (d 0 1).testBit (fun i => -(sv d C s i).toInt) 10), fun w h => ?_, fun w h => ?_⟩
  · unfold f_X11_spite
    rw [if_neg c1, rt_bind]
    refine (x0_spiteful o hst h (by omega)).mono ?_
    rintro p ⟨e, q⟩
    rw [rt_some]
    exact ⟨e, q.w⟩
  · unfold f_X12_spite
    rw [m_isSort, if_neg c1, rt_bind, amin_ext (n := d 0 0) o1 (fun i h1 h2 => tb_small hu h1)]
    refine Rt.mono (rt_for (Q := fun p => p.1 = oI (amin (d 0 1).testBit (fun i => -(sv d C s i).toInt) (d 0 0)) ∧ ZQ d C w p.2) (fun i s' => s'.1 = oI (amin (d 0 1).testBit (fun i => -(sv d C s i).toInt) i) ∧ s'.2.1 = lv (sv d C s) (amin (d 0 1).testBit (fun i => -(sv d C s i).toInt) i) ∧ s'.2.2.1 = nI i ∧ ZQ d C w s'.2.2.2) (d 0 0) ?_ ?_ ⟨rfl, rfl, rfl, ZQ.rf h⟩ (by omega)) (fun p hp => by rw [rt_some]; exact ⟨hp.1, hp.2.w⟩)
    · rintro i ⟨b, l, c, w1⟩ hi ⟨h1, h2, h3, hq⟩
      dsimp only at h1 h2 h3 hq
      subst h1 h2 h3
      unfold l_X12_spite_16
      dsimp only
      rw [rt_onL, hq.2.N, hq.2.U, if_neg (nI_ge hi (by omega)), has_N (by omega) (by omega)]
      refine ⟨hq.2.1, ?_⟩
      simp only [bI_0]
      by_cases p1 : (d 0 1).testBit i = true
      · rw [if_neg (by rw [p1]; decide)]
        simp only [rt_bind]
        refine (m_growsBy o hq.2 (by omega) (by omega)).mono ?_
        rintro ⟨v, w2⟩ ⟨e2, q2⟩
        dsimp only at e2 q2 ⊢
        subst e2
        rw [rt_onL, q2.2.U, wo_N (by omega), rt_bind]
        refine ⟨q2.2.1, (m_talkOf o q2.2 (wo_lt hu)).mono ?_⟩
        rintro ⟨v, w3⟩ ⟨e3, q3, m3, -⟩
        dsimp only at e3 q3 m3 ⊢
        subst e3
        rw [rt_onL, m3.U, rt_bind]
        refine ⟨m3.1, (m_talkOf o m3 hu).mono ?_⟩
        rintro ⟨v, w4⟩ ⟨e4, q4, m4, -⟩
        dsimp only at e4 q4 m4 ⊢
        subst e4
        have hV := mx_m (V := sv d C s) (p := (d 0 1).testBit) (i := i) (by omega) p1 w4
        refine (rt_eq hV).mpr ?_
        rw [rt_some, nx_l]
        exact ⟨rfl, rfl, nI_1 i, hq.tr ((q2.tr ⟨q3, m3⟩).tr ⟨q4, m4⟩)⟩
      · rw [if_pos (bool_f p1), Option.bind_some, rt_some, nx_l]
        dsimp only
        rw [amin_n (bool_f p1)]
        exact ⟨rfl, rfl, nI_1 i, hq⟩
    · rintro ⟨b, l, c, w1⟩ ⟨h1, h2, h3, hq⟩
      dsimp only at h1 h2 h3 hq
      subst h1 h2 h3
      unfold l_X12_spite_16
      dsimp only
      rw [rt_onL, hq.2.N, if_pos (nI_le (Nat.le_refl _) (by omega)), rt_some, nx_r]
      exact ⟨hq.2.1, rfl, hq⟩
/-- KEPT of k WORDS -/
noncomputable def kp (d : Dt) (C : Ct) (k n : Nat) : Option Nat := amin (fun t => pc t == k) (fun t => (tkA d C t : Int)) n
theorem pc_all : ∀ k, k ≤ 10 → pc (2 ^ k - 1) = k := by decide
theorem kp_some (o : Ok d C) {k : Nat} (hk : k ≤ d 0 0) : ∃ b, kp d C k (2 ^ d 0 0) = some b ∧ b < 2 ^ d 0 0 := by
  cases e : kp d C k (2 ^ d 0 0) with
  | some b => exact ⟨b, rfl, (amin_some e).1⟩
  | none =>
    exfalso
    have h1 : 2 ^ k ≤ 2 ^ d 0 0 := Nat.pow_le_pow_right (by decide) hk
    have h2 := @Nat.one_le_two_pow k
    have o1 := o.1.1
    have h3 := amin_none.mp e (2 ^ k - 1) (by omega)
    rw [pc_all k (by omega)] at h3
    simp at h3
theorem x10_bestOf (o : Ok d C) (hst : d 0 7 < 2 ^ 31) (h : KI d C w) {k : Nat} (hk : k ≤ 10) : Rt (f_X10_bestOf (nI k) w) (fun p => p.1 = oI (kp d C k (2 ^ d 0 0)) ∧ KQ d C w p.2) := by
  have p10 := pow10 o.1.1
  have one := @Nat.one_le_two_pow (d 0 0)
  have hx : kp d C k (2 ^ d 0 0) = amin (fun t => decide (t < 2 ^ d 0 0) && pc t == k) (fun t => (tkA d C t : Int)) 1024 := by
    rw [amin_ext (n := 2 ^ d 0 0) p10 (fun i h1 h2 => by rw [decide_eq_false (by omega)]; rfl)]
    exact amin_cong (fun i hi => by rw [decide_eq_true hi]; rfl) (fun _ _ _ => rfl)
  rw [hx]
  unfold f_X10_bestOf
  rw [rt_bind]
  refine Rt.mono (rt_for (Q := fun p => p.1 = oI (amin (fun t => decide (t < 2 ^ d 0 0) && pc t == k) (fun t => (tkA d C t : Int)) 1024) ∧ KQ d C w p.2) (fun i s => s.1 = oI (amin (fun t => decide (t < 2 ^ d 0 0) && pc t == k) (fun t => (tkA d C t : Int)) i) ∧ s.2.1 = lz (fun t => tkA d C t) (amin (fun t => decide (t < 2 ^ d 0 0) && pc t == k) (fun t => (tkA d C t : Int)) i) ∧ s.2.2.1 = nI i ∧ KQ d C w s.2.2.2) 1024 ?_ ?_ ⟨rfl, rfl, rfl, KQ.rf h⟩ (by decide)) (fun p hp => by rw [rt_some]; exact hp)
  · rintro i ⟨b, l, c, w1⟩ hi ⟨h1, h2, h3, hq⟩
    dsimp only at h1 h2 h3 hq
    subst h1 h2 h3
    unfold l_X10_bestOf_7
    dsimp only
    rw [if_neg (show ¬ (1024 : Int32) ≤ nI i from nI_ge (b := 1024) hi (by decide)), rt_onL, k_isTongue o.1 hq.1.2.1, Option.bind_some]
    refine ⟨hq.1.1, ?_⟩
    have pcl := pc_le i
    by_cases c1 : i < 2 ^ d 0 0
    · rw [if_neg (show ¬ f_X11_within (nI i) 0 (nI (2 ^ d 0 0 - 1)) = 0 from (within_iffN (a := 0) (b := 2 ^ d 0 0 - 1) (by omega) (by omega)).mpr ⟨i, by omega, by omega, rfl⟩), bitCount_N i hi]
      by_cases c2 : pc i = k
      · rw [c2, if_pos rfl, rt_bind]
        refine x_tk o hst hq.1 c1 (fun w2 q2 => ?_)
        have hV := am_y (V := fun t => tkA d C t) (p := fun t => decide (t < 2 ^ d 0 0) && pc t == k) (i := i) (fun j _ _ => Nat.lt_of_le_of_lt (tkA_le o.2.1) (by decide)) (by omega) (by simp [c1, c2]) w2
        refine (rt_eq hV).mpr ?_
        rw [rt_some, nx_l]
        exact ⟨rfl, rfl, nI_1 i, hq.tr q2⟩
      · rw [if_neg (fun z => c2 ((nI_eq (by omega) (by omega)).mp z)), Option.bind_some, rt_some, nx_l]
        dsimp only
        rw [amin_n (by simp [c2])]
        exact ⟨rfl, rfl, nI_1 i, hq⟩
    · rw [if_pos (within_iff.mpr (Or.inr (nI_lt (by omega) (by omega)))), Option.bind_some, rt_some, nx_l]
      dsimp only
      rw [amin_n (by simp [c1])]
      exact ⟨rfl, rfl, nI_1 i, hq⟩
  · rintro ⟨b, l, c, w1⟩ ⟨h1, h2, h3, hq⟩
    dsimp only at h1 h2 h3 hq
    subst h1 h2 h3
    unfold l_X10_bestOf_7
    dsimp only
    rw [if_pos (show (1024 : Int32) ≤ nI 1024 by decide), rt_some, nx_r]
    exact ⟨rfl, hq⟩
theorem m_keptLoop (o : Ok d C) (h : MI d C w) {k : Nat} (hk : k ≤ 10) (x2 : Int32) : Rt (wh (l_X12_kept_33 (nI k) x2) FUEL ((-1 : Int32), (0 : Int32), w)) (fun p => p.1 = oI (kp d C k (2 ^ d 0 0)) ∧ ZQ d C w p.2) := by
  have p10 := pow10 o.1.1
  have o1 := o.1.1
  refine rt_for (fun i s => s.1 = oI (kp d C k i) ∧ s.2.1 = nI i ∧ ZQ d C w s.2.2) (2 ^ d 0 0) ?_ ?_ ⟨rfl, rfl, ZQ.rf h⟩ (by omega)
  · rintro i ⟨b, c, w1⟩ hi ⟨h1, h2, hq⟩
    dsimp only at h1 h2 hq
    subst h1 h2
    have pcl := pc_le i
    unfold l_X12_kept_33
    dsimp only
    rw [rt_onL, hq.2.N, sh1_N (by omega), if_neg (nI_ge hi (by omega)), m_sizeOf (by omega), Option.bind_some]
    refine ⟨hq.2.1, ?_⟩
    by_cases c2 : pc i = k
    · have hp : (fun t => pc t == k) i = true := by simp [c2]
      rw [c2, if_pos rfl]
      unfold kp
      cases e : amin (fun t => pc t == k) (fun t => (tkA d C t : Int)) i with
      | none =>
        rw [if_pos (by rfl)]
        simp only [mg, Option.bind_some]
        rw [rt_some, nx_l]
        dsimp only
        rw [amin_0 (p := fun t => pc t == k) hp e]
        exact ⟨rfl, nI_1 i, hq⟩
      | some b =>
        have hb := (amin_some e).1
        rw [show oI (some b) = nI b from rfl, if_neg (nm1 (by omega)), rt_bind, rt_mg, rt_bind]
        refine (m_talkOf o hq.2 hi).mono ?_
        rintro ⟨v, w2⟩ ⟨e2, q2, m2, -⟩
        dsimp only at e2 q2 m2 ⊢
        subst e2
        rw [rt_onL, rt_bind]
        refine ⟨m2.1, (m_talkOf o m2 (t := b) (by omega)).mono ?_⟩
        rintro ⟨v, w3⟩ ⟨e3, q3, m3, -⟩
        dsimp only at e3 q3 m3 ⊢
        subst e3
        have v1 := Nat.lt_of_le_of_lt (tkA_le o.2.1 (C := C) (t := b)) (show 120000000 < 2 ^ 31 by decide)
        have v2 := Nat.lt_of_le_of_lt (tkA_le o.2.1 (C := C) (t := i)) (show 120000000 < 2 ^ 31 by decide)
        by_cases c3 : tkA d C b ≤ tkA d C i
        · rw [if_pos ((lN_le v1 v2).mpr c3), rt_some]
          dsimp only
          rw [rt_some, nx_l]
          dsimp only
          rw [amin_k e (by omega)]
          exact ⟨rfl, nI_1 i, hq.tr ⟨q2.tr q3, m3⟩⟩
        · rw [if_neg (fun z => c3 ((lN_le v1 v2).mp z)), rt_some]
          dsimp only
          rw [rt_some, rt_some, nx_l]
          dsimp only
          rw [amin_l (p := fun t => pc t == k) hp e (by omega)]
          exact ⟨rfl, nI_1 i, hq.tr ⟨q2.tr q3, m3⟩⟩
    · rw [if_neg (fun z => c2 ((nI_eq (by omega) (by omega)).mp z)), Option.bind_some, rt_some, nx_l]
      dsimp only
      unfold kp
      rw [amin_n (by simp [c2])]
      exact ⟨rfl, nI_1 i, hq⟩
  · rintro ⟨b, c, w1⟩ ⟨h1, h2, hq⟩
    dsimp only at h1 h2 hq
    subst h1 h2
    unfold l_X12_kept_33
    dsimp only
    rw [rt_onL, hq.2.N, sh1_N (by omega), if_pos (nI_le (Nat.le_refl _) (by omega)), rt_some, nx_r]
    exact ⟨hq.2.1, rfl, hq⟩
theorem ag_kept (o : Ok d C) (hst : d 0 7 < 2 ^ 31) (x1 x2 : Int32) : Agree d C (f_X11_kept x1 x2) (f_X12_kept x1 x2) := by
  have o1 := o.1.1
  have l1 : ∀ w, MI d C w → f_X12_lies x1.toInt64 (0 : Int64) ((gI w 47 2).toInt64) = f_X11_within x1 0 (nI (d 0 0)) := fun w h => by rw [h.N]; exact lies_lit x1 0 (nI (d 0 0)) (by decide) rfl
  have l2 : f_X12_lies x2.toInt64 (0 : Int64) (1 : Int64) = f_X11_within x2 0 1 := lies_lit x2 0 1 (by decide) (by decide)
  by_cases c1 : f_X11_within x1 0 (nI (d 0 0)) = 0
  · refine ⟨-1, fun w h => ?_, fun w h => ?_⟩
    · unfold f_X11_kept
      rw [h.2.1.1, if_pos c1, rt_some]; exact ⟨rfl, KW.rf h⟩
    · unfold f_X12_kept
      rw [l1 w h, if_pos c1, rt_some]; exact ⟨rfl, ZW.rf h⟩
  by_cases c2 : f_X11_within x2 0 1 = 0
  · refine ⟨-1, fun w h => ?_, fun w h => ?_⟩
    · unfold f_X11_kept
      rw [h.2.1.1, if_neg c1, if_pos c2, rt_some]; exact ⟨rfl, KW.rf h⟩
    · unfold f_X12_kept
      rw [l1 w h, if_neg c1, l2, if_pos c2, rt_some]; exact ⟨rfl, ZW.rf h⟩
  obtain ⟨k, -, hk, rfl⟩ := within_c 0 (d 0 0) (by omega) (by omega) c1
  obtain ⟨b, eb, hb⟩ := kp_some o hk
  refine ⟨if x2 = 0 then (nI b).toInt64 else lN (tkA d C b), fun w h => ?_, fun w h => ?_⟩
  · unfold f_X11_kept
    rw [h.2.1.1, if_neg c1, if_neg c2, rt_bind]
    refine (x10_bestOf o hst h (by omega)).mono ?_
    rintro ⟨v, w1⟩ ⟨e, q⟩
    dsimp only at e q ⊢
    rw [eb] at e
    subst e
    by_cases c : x2 = 0
    · rw [if_pos c, rt_some, if_pos c]; exact ⟨rfl, q.w⟩
    · rw [if_neg c, rt_onL, if_neg c]
      exact ⟨q.1.1, x_tk o hst q.1 hb (fun w2 q2 => by rw [rt_some]; exact ⟨rfl, (q.tr q2).w⟩)⟩
  · unfold f_X12_kept
    rw [l1 w h, if_neg c1, l2, if_neg c2, rt_bind]
    refine (m_keptLoop o h (by omega) x2).mono ?_
    rintro ⟨v, w1⟩ ⟨e, q⟩
    dsimp only at e q ⊢
    rw [eb] at e
    subst e
    by_cases c : x2 = 0
    · rw [if_pos c, rt_some, if_pos c]; exact ⟨rfl, ZQ.w q⟩
    · rw [if_neg c, rt_onL, if_neg c, rt_bind]
      refine ⟨q.2.1, (m_talkOf o q.2 hb).mono ?_⟩
      rintro ⟨v, w2⟩ ⟨e2, q2, m2, -⟩
      rw [rt_some]
      exact ⟨e2, ZQ.w (q.tr ⟨q2, m2⟩)⟩
end Ops3
