/-! SAID HOW: the reference -/
section How3
variable {d : Dt} {C : Ct} {t m L : Nat} {w : Mm}
def ZB (d : Dt) (C : Ct) (w w' : Mm) : Prop := fx (fun c _ => c = 71 ∨ c = 72) w w' ∧ MI d C w'
theorem ZB.rf (h : MI d C w) : ZB d C w w := ⟨fx.rf, h⟩
theorem ZB.tr {w w' w'' : Mm} (h : ZB d C w w') (h' : ZB d C w' w'') : ZB d C w w'' := ⟨h.1.tr h'.1, h'.2⟩
theorem ZB.z {w w' : Mm} (h : ZB d C w w') : ZQ d C w w' := ⟨qs.of h.1 (fun c k z => by unfold qsP; omega), h.2⟩
theorem m_brB (o : Ok d C) (h : MI d C w) (ht : t < 2 ^ d 0 0) (hm : m < 64) : Rt (f_X12_briefOf (nI t) (nI m) w) (fun p => p.1 = nI (enc 1000000 (BF d t m)) ∧ ZB d C w p.2) := by
  refine (m_briefOf o.1 h.1 h.2.1 h.2.2.2.2.1 ht hm).mono ?_
  rintro p ⟨e, f, b, -⟩
  exact ⟨e, f, (h.x f (fun c k z => by unfold qsP; omega) b).2⟩
theorem encM_le (o : OkL d) (u : Nat) : enc 1000000 (BF d t u) ≤ 1000000 := enc_le (fun b e => by have := BF_le o e; omega)
theorem m_pair22 (o : Ok d C) (h : MI d C w) (ht : t < 2 ^ d 0 0) (hm : m < 64) (e : BF d t m = some L) {k u : Nat} (hk : k = 2 ∨ k = 3) (hu : u < 64) : Rt (wh (l_X12_findsPair_22 (nI t) (nI m) (nI k) (nI (jf (jl d k t))) (nI u)) FUEL (nI u, w)) (fun p => ZB d C w p.2.2 ∧ ((p.1 = 0 ∧ ∀ v, v < 64 → pP d t k m L (64 * u + v) = false) ∨ ∃ v, v < 64 ∧ p.1 = 1 ∧ p.2.1 = nI v ∧ pP d t k m L (64 * u + v) = true ∧ ∀ x, x < v → pP d t k m L (64 * u + x) = false)) := by
  have hL := BF_le o.1 e
  have j9 := jl_le o.1 (k := k) (t := t)
  have jb := jf_lt j9
  have hlow : ∀ v, v < u → v < 64 → pP d t k m L (64 * u + v) = false := fun v h1 h2 => by
    unfold pP
    rw [show (64 * u + v) / 64 = u by omega, show (64 * u + v) % 64 = v by omega, decide_eq_false (p := u ≤ v) (by omega)]
    simp
  refine rt_for (fun k' s => s.1 = nI (u + k') ∧ ZB d C w s.2 ∧ ∀ v, v < u + k' → pP d t k m L (64 * u + v) = false) (64 - u) ?_ ?_ ⟨rfl, ZB.rf h, fun v hv => hlow v hv (by omega)⟩ (by omega)
  · rintro k' ⟨c, w1⟩ hk' ⟨h1, hq, hno⟩
    dsimp only at h1 hq hno
    subst h1
    have hv : u + k' < 64 := by omega
    have hjl := jn_lt (k := k) hu hv
    unfold l_X12_findsPair_22
    dsimp only
    rw [if_neg (show ¬ (64 : Int32) ≤ nI (u + k') from nI_ge (b := 64) hv (by decide)), jn_N hk, Option.bind_some]
    have hP : pP d t k m L (64 * u + (u + k')) = (decide (0 < jl d k t) && decide (jn k u (u + k') = m) && decide (enc 1000000 (BF d t u) + enc 1000000 (BF d t (u + k')) + jl d k t = L)) := by
      unfold pP
      rw [show (64 * u + (u + k')) / 64 = u by omega, show (64 * u + (u + k')) % 64 = u + k' by omega, decide_eq_true (p := u ≤ u + k') (by omega), Bool.and_true]
    have hgo : ∀ w2, ZB d C w w2 → pP d t k m L (64 * u + (u + k')) = false → (nI (u + k') + 1 = nI (u + (k' + 1)) ∧ ZB d C w w2 ∧ ∀ v, v < u + (k' + 1) → pP d t k m L (64 * u + v) = false) := fun w2 q2 z => ⟨nI_1 _, q2, fun v hv' => by
      by_cases q : v = u + k'
      · rw [q]; exact z
      · exact hno v (by omega)⟩
    by_cases c1 : jn k u (u + k') = m
    · rw [if_pos (by rw [c1]), rt_mg, rt_onL, rt_bind]
      refine ⟨hq.2.1, (m_brB o hq.2 ht hu).mono ?_⟩
      rintro ⟨x1, w2⟩ ⟨e2, q2⟩
      dsimp only at e2 q2 ⊢
      subst e2
      rw [rt_onL, rt_bind]
      refine ⟨q2.2.1, (m_brB o q2.2 ht hv).mono ?_⟩
      rintro ⟨x2, w3⟩ ⟨e3, q3⟩
      dsimp only at e3 q3 ⊢
      subst e3
      rw [rt_onL, rt_bind]
      refine ⟨q3.2.1, (m_brB o q3.2 ht hm).mono ?_⟩
      rintro ⟨x3, w4⟩ ⟨e4, q4⟩
      dsimp only at e4 q4 ⊢
      subst e4
      have q04 := hq.tr ((q2.tr q3).tr q4)
      have b1 := encM_le o.1 (t := t) u
      have b2 := encM_le o.1 (t := t) (u + k')
      rw [e, enc_s, nI_add, nI_add]
      by_cases c2 : enc 1000000 (BF d t u) + enc 1000000 (BF d t (u + k')) + jf (jl d k t) = L
      · have hj0 : 0 < jl d k t ∧ jf (jl d k t) = jl d k t := by
          rcases jf_0 (j := jl d k t) with z | z
          · omega
          · exact z
        rw [if_pos (by rw [c2]), rt_some]
        dsimp only
        rw [nx_r]
        refine ⟨q04, Or.inr ⟨u + k', hv, rfl, rfl, ?_, hno⟩⟩
        rw [hP, decide_eq_true hj0.1, decide_eq_true c1, decide_eq_true (by omega)]; rfl
      · rw [if_neg (fun z => c2 ((nI_eq (by omega) (by omega)).mp z)), rt_some]
        dsimp only
        rw [rt_some, nx_l]
        refine hgo w4 q04 ?_
        rw [hP]
        by_cases z : 0 < jl d k t
        · rw [show jf (jl d k t) = jl d k t by unfold jf; rw [if_neg (by omega)]] at c2
          rw [decide_eq_false c2]; simp
        · rw [decide_eq_false z]; rfl
    · rw [if_neg (fun z => c1 ((nI_eq (by omega) (by omega)).mp z))]
      simp only [mg]
      rw [rt_some, nx_l]
      refine hgo w1 hq ?_
      rw [hP, decide_eq_false c1]; simp
  · rintro ⟨c, w1⟩ ⟨h1, hq, hno⟩
    dsimp only at h1 hq hno
    subst h1
    rw [show u + (64 - u) = 64 by omega] at hno ⊢
    unfold l_X12_findsPair_22
    dsimp only
    rw [if_pos (show (64 : Int32) ≤ nI 64 by decide), rt_some, nx_r]
    exact ⟨hq, Or.inl ⟨rfl, hno⟩⟩
def fhow (c k : Nat) : Prop := c = 71 ∨ c = 72 ∨ (c = 47 ∧ (45 ≤ k ∧ k ≤ 47))
theorem m_findsPair (o : Ok d C) (h : MI d C w) (ht : t < 2 ^ d 0 0) (hm : m < 64) (e : BF d t m = some L) {k : Nat} (hk : k = 2 ∨ k = 3) : Rt (f_X12_findsPair (nI t) (nI m) (nI k) w) (fun p => fx fhow w p.2 ∧ MI d C p.2 ∧ ((pr2 d t k m L = none ∧ p.1 = 0 ∧ ∀ j, gI p.2 47 j = gI w 47 j) ∨ ∃ r, pr2 d t k m L = some r ∧ p.1 = 1 ∧ gI p.2 47 45 = nI k ∧ gI p.2 47 46 = nI (r / 64) ∧ gI p.2 47 47 = nI (r % 64))) := by
  unfold f_X12_findsPair
  rw [m_joinOf o.1 h.2.1 (by omega) ht, Option.bind_some, rt_bind]
  refine Rt.mono (rt_for (Q := fun p => ZB d C w p.2.2.2 ∧ ((p.1 = 0 ∧ pr2 d t k m L = none) ∨ ∃ u v, u < 64 ∧ v < 64 ∧ p.1 = 1 ∧ p.2.1 = nI u ∧ p.2.2.1 = nI v ∧ pr2 d t k m L = some (64 * u + v))) (fun u s => s.1 = nI u ∧ ZB d C w s.2 ∧ amin (pP d t k m L) (fun _ => 0) (64 * u) = none) 64 ?_ ?_ ⟨rfl, ZB.rf h, rfl⟩ (by decide)) ?_
  · rintro u ⟨c, w1⟩ hu ⟨h1, hq, hA⟩
    dsimp only at h1 hq hA
    subst h1
    unfold l_X12_findsPair_11
    dsimp only
    rw [if_neg (show ¬ (64 : Int32) ≤ nI u from nI_ge (b := 64) hu (by decide)), rt_bind]
    refine (m_pair22 o hq.2 ht hm e hk hu).mono ?_
    rintro ⟨f, v', w2⟩ ⟨q2, hp⟩
    dsimp only at q2 hp ⊢
    rcases hp with ⟨e1, hz⟩ | ⟨v, hv, e1, e2, hp1, hp2⟩
    · rw [e1, if_pos rfl, rt_some, nx_l]
      refine ⟨nI_1 u, hq.tr q2, ?_⟩
      rw [amin_ext (n := 64 * u) (by omega) (fun i h1 h2 => by
        have := hz (i - 64 * u) (by omega)
        rw [show 64 * u + (i - 64 * u) = i by omega] at this
        exact this)]
      exact hA
    · rw [e1, if_neg (by decide), rt_some, nx_r]
      refine ⟨hq.tr q2, Or.inr ⟨u, v, hu, hv, rfl, rfl, e2, ?_⟩⟩
      refine amin_uniq (by omega) hp1 (fun j hj hpj => ⟨by omega, fun hlt => ?_⟩)
      exfalso
      by_cases c : j < 64 * u
      · rw [amin_none.mp hA j c] at hpj; cases hpj
      · have := hp2 (j - 64 * u) (by omega)
        rw [show 64 * u + (j - 64 * u) = j by omega, hpj] at this
        cases this
  · rintro ⟨c, w1⟩ ⟨h1, hq, hA⟩
    dsimp only at h1 hq hA
    subst h1
    unfold l_X12_findsPair_11
    dsimp only
    rw [if_pos (show (64 : Int32) ≤ nI 64 by decide), rt_some, nx_r]
    exact ⟨hq, Or.inl ⟨rfl, hA⟩⟩
  · rintro ⟨f, u', v', w1⟩ ⟨q, hp⟩
    dsimp only at q hp ⊢
    have fq : fx fhow w w1 := q.1.sub (fun c k z => by unfold fhow; omega)
    rcases hp with ⟨e1, hz⟩ | ⟨u, v, hu, hv, e1, e2, e3, hz⟩
    · rw [e1, if_pos rfl, rt_some]
      exact ⟨fq, q.2, Or.inl ⟨hz, rfl, fun j => q.1.I (by omega)⟩⟩
    · rw [e1, if_neg (by decide), rt_onL, rt_some, e2, e3]
      have f2 : fx (fun c k => c = 47 ∧ (45 ≤ k ∧ k ≤ 47)) w1 (sI (sI (sI w1 47 45 (nI k)) 47 46 (nI u)) 47 47 (nI v)) := ((fx.sI (by omega)).tr (fx.sI (by omega))).tr (fx.sI (by omega))
      refine ⟨q.2.1, fq.tr (f2.sub (fun c k z => by unfold fhow; omega)), (q.2.y f2 (fun c k z => by unfold inM mB; omega)).2, Or.inr ⟨64 * u + v, hz, rfl, ?_, ?_, ?_⟩⟩
      · rw [gI_sI, if_neg (by omega), gI_sI, if_neg (by omega), gI_sI, if_pos ⟨rfl, rfl⟩]
      · rw [gI_sI, if_neg (by omega), gI_sI, if_pos ⟨rfl, rfl⟩]; congr 1; omega
      · rw [gI_sI, if_pos ⟨rfl, rfl⟩]; congr 1; omega
/-- what the reference keeps of how it is said -/
def HowM (d : Dt) (t m L : Nat) (w : Mm) : Prop := gI w 47 45 = nI (hwS d t m L).1 ∧ gI w 47 46 = nI (hwS d t m L).2.1 ∧ gI w 47 47 = if 2 ≤ (hwS d t m L).1 then nI (hwS d t m L).2.2 else -1
theorem m_says (o : Ok d C) (h : MI d C w) (ht : t < 2 ^ d 0 0) (hm : m < 64) (e : BF d t m = some L) : Rt (f_X12_says (nI t) (nI m) w) (fun w' => fx fhow w w' ∧ MI d C w' ∧ HowM d t m L w') := by
  have hL := BF_le o.1 e
  have hxm := xor63_lt hm
  have p10 := pow10 o.1.1
  have o1 := o.1.1
  have j1 := jl_le o.1 (k := 1) (t := t)
  have jb := jf_lt j1
  have hxN : (63 : Int32) ^^^ nI m = nI (63 ^^^ m) := by rw [show (63 : Int32) = nI 63 from rfl, fb_xorI]
  have hmem : ∀ (w1 : Mm) (j : Nat) (v : Int32), 45 ≤ j ∧ j ≤ 47 → MI d C w1 → MI d C (sI w1 47 j v) ∧ fx fhow w1 (sI w1 47 j v) := fun w1 j v hj h1 => ⟨(h1.y (P := fun c k => c = 47 ∧ (45 ≤ k ∧ k ≤ 47)) (fx.sI ⟨rfl, hj⟩) (fun c k z => by unfold inM mB; omega)).2, fx.sI (by unfold fhow; omega)⟩
  unfold f_X12_says
  obtain ⟨m0, g0⟩ := hmem w 47 (-1) (by omega) h
  obtain ⟨m1, g1⟩ := hmem _ 45 0 (by omega) m0
  have f01 := g0.tr g1
  have hpw : pW d t m L = amin (fun i => t.testBit i && d 1 i == 0 && d 2 i == m && d 3 i == L) (fun _ => 0) (d 0 0) := amin_ext o1 (fun i h1 h2 => by rw [tb_small ht h1]; rfl)
  rw [rt_bind]
  refine Rt.mono (rt_for (Q := fun p => ZB d C (sI (sI w 47 47 (-1)) 47 45 0) p.2.2 ∧ ((p.1 = 0 ∧ pW d t m L = none) ∨ ∃ i, p.1 = 1 ∧ p.2.1 = nI i ∧ pW d t m L = some i)) (fun i s => s.1 = nI i ∧ ZB d C (sI (sI w 47 47 (-1)) 47 45 0) s.2 ∧ amin (fun i => t.testBit i && d 1 i == 0 && d 2 i == m && d 3 i == L) (fun _ => 0) i = none) (d 0 0) ?_ ?_ ⟨rfl, ZB.rf m1, rfl⟩ (by omega)) ?_
  · rintro i ⟨c, w1⟩ hi ⟨h1, hq, hA⟩
    dsimp only at h1 hq hA
    subst h1
    have hx1 := hq.2.2.1
    have hd := o.1.2.2.1 i (by omega)
    unfold l_X12_says_12
    dsimp only
    rw [rt_onL, hq.2.N, if_neg (nI_ge hi (by omega)), has_N (by omega) (by omega), if_pos (inb_nI (n := 10) (by omega) (by decide)), ix_nI (by omega), (hx1.2.2.2 i (by omega)).1, (hx1.2.2.2 i (by omega)).2.1, (hx1.2.2.2 i (by omega)).2.2.1]
    refine ⟨hq.2.1, ?_⟩
    simp only [bI_0]
    have hgo : ∀ w2, ZB d C (sI (sI w 47 47 (-1)) 47 45 0) w2 → (t.testBit i && d 1 i == 0 && d 2 i == m && d 3 i == L) = false → (nI i + 1 = nI (i + 1) ∧ ZB d C (sI (sI w 47 47 (-1)) 47 45 0) w2 ∧ amin (fun i => t.testBit i && d 1 i == 0 && d 2 i == m && d 3 i == L) (fun _ => 0) (i + 1) = none) := fun w2 q2 z => ⟨nI_1 i, q2, by rw [amin_n z]; exact hA⟩
    by_cases c1 : t.testBit i = true
    · rw [if_neg (by rw [c1]; decide)]
      by_cases c2 : d 1 i = 0
      · rw [c2, if_pos (by rfl)]
        by_cases c3 : d 2 i = m
        · rw [if_pos (by rw [c3]), rt_mg, rt_bind]
          refine (m_brB o hq.2 ht hm).mono ?_
          rintro ⟨x1, w2⟩ ⟨e2, q2⟩
          dsimp only at e2 q2 ⊢
          subst e2
          rw [e, enc_s]
          by_cases c4 : d 3 i = L
          · rw [if_pos (by rw [c4]), rt_some]
            dsimp only
            rw [nx_r]
            refine ⟨hq.tr q2, Or.inr ⟨i, rfl, rfl, ?_⟩⟩
            have hp : (fun i => t.testBit i && d 1 i == 0 && d 2 i == m && d 3 i == L) i = true := by simp [c1, c2, c3, c4]
            refine amin_uniq (by omega) hp (fun j hj hpj => ⟨by omega, fun hlt => ?_⟩)
            rw [amin_none.mp hA j hlt] at hpj
            cases hpj
          · rw [if_neg (fun z => c4 ((nI_eq (by omega) (by omega)).mp z)), rt_some]
            dsimp only
            rw [rt_some, nx_l]
            exact hgo w2 (hq.tr q2) (by simp [c4])
        · rw [if_neg (fun z => c3 ((nI_eq (by omega) (by omega)).mp z))]
          simp only [mg]
          rw [rt_some, nx_l]
          exact hgo w1 hq (by simp [c3])
      · rw [if_neg (nI_ne0 (by omega) (by omega))]
        simp only [mg]
        rw [rt_some, nx_l]
        exact hgo w1 hq (by simp [c2])
    · rw [if_pos (bool_f c1)]
      simp only [mg]
      rw [rt_some, nx_l]
      exact hgo w1 hq (by simp [bool_f c1])
  · rintro ⟨c, w1⟩ ⟨h1, hq, hA⟩
    dsimp only at h1 hq hA
    subst h1
    unfold l_X12_says_12
    dsimp only
    rw [rt_onL, hq.2.N, if_pos (nI_le (Nat.le_refl _) (by omega)), rt_some, nx_r]
    exact ⟨hq.2.1, hq, Or.inl ⟨rfl, by rw [hpw]; exact hA⟩⟩
  rintro ⟨f, iv, w1⟩ ⟨q, hp⟩
  dsimp only at q hp ⊢
  have f1 : fx fhow w w1 := f01.tr (q.1.sub (fun c k z => by unfold fhow; omega))
  have k45 : gI w1 47 45 = 0 := by rw [q.1.I (by omega), gI_sI, if_pos ⟨rfl, rfl⟩]
  have k47 : gI w1 47 47 = -1 := by rw [q.1.I (by omega), gI_sI, if_neg (by omega), gI_sI, if_pos ⟨rfl, rfl⟩]
  rcases hp with ⟨e1, hw⟩ | ⟨i, e1, e2, hw⟩
  · rw [e1, if_pos rfl, rt_onL, hxN]
    refine ⟨q.2.1, ?_⟩
    obtain ⟨m2, g2⟩ := hmem w1 45 1 (by omega) q.2
    obtain ⟨m3, g3⟩ := hmem _ 46 (nI (63 ^^^ m)) (by omega) m2
    rw [rt_bind]
    refine (m_brB o m3 ht hxm).mono ?_
    rintro ⟨x4, w4⟩ ⟨e4, q4⟩
    dsimp only at e4 q4 ⊢
    subst e4
    rw [rt_onL, show (1 : Int32) = nI 1 from rfl, m_joinOf o.1 q4.2.2.1 (by decide) ht, Option.bind_some, rt_bind]
    refine ⟨q4.2.1, (m_brB o q4.2 ht hm).mono ?_⟩
    rintro ⟨x5, w5⟩ ⟨e5, q5⟩
    dsimp only at e5 q5 ⊢
    subst e5
    have q35 := q4.tr q5
    have f5 : fx fhow w w5 := ((f1.tr g2).tr g3).tr (q35.1.sub (fun c k z => by unfold fhow; omega))
    have b1 := encM_le o.1 (t := t) (63 ^^^ m)
    have r45 : gI w5 47 45 = nI 1 := by rw [q35.1.I (by omega), gI_sI, if_neg (by omega), gI_sI, if_pos ⟨rfl, rfl⟩]; rfl
    have r46 : gI w5 47 46 = nI (63 ^^^ m) := by rw [q35.1.I (by omega), gI_sI, if_pos ⟨rfl, rfl⟩]
    have r47 : gI w5 47 47 = -1 := by rw [q35.1.I (by omega), gI_sI, if_neg (by omega), gI_sI, if_neg (by omega)]; exact k47
    rw [e, enc_s, nI_add, show (if jl d 1 t = 0 then 1000000 else jl d 1 t) = jf (jl d 1 t) from rfl]
    have hNe : hN d t m L ↔ enc 1000000 (BF d t (63 ^^^ m)) + jf (jl d 1 t) = L := by
      unfold hN
      rcases jf_0 (j := jl d 1 t) with z | ⟨z1, z2⟩
      · have : jl d 1 t = 0 := by
          unfold jf at z
          by_cases y : jl d 1 t = 0
          · exact y
          · rw [if_neg y] at z; omega
        omega
      · rw [z2]; exact ⟨fun y => y.2, fun y => ⟨z1, y⟩⟩
    by_cases c2 : enc 1000000 (BF d t (63 ^^^ m)) + jf (jl d 1 t) = L
    · rw [if_pos (show nI (enc 1000000 (BF d t (63 ^^^ m)) + jf (jl d 1 t)) = nI L by rw [c2]), rt_some]
      refine ⟨f5, q5.2, ?_⟩
      unfold HowM
      rw [hw_n hw (hNe.mpr c2)]
      exact ⟨r45, r46, r47⟩
    · have hn : ¬ hN d t m L := fun z => c2 (hNe.mp z)
      rw [if_neg (show ¬ nI (enc 1000000 (BF d t (63 ^^^ m)) + jf (jl d 1 t)) = nI L from fun z => c2 ((nI_eq (by omega) (by omega)).mp z)), rt_onL, show (2 : Int32) = nI 2 from rfl, rt_bind]
      refine ⟨q5.2.1, (m_findsPair o q5.2 ht hm e (Or.inl rfl)).mono ?_⟩
      rintro ⟨x6, w6⟩ ⟨f6, m6, hp6⟩
      dsimp only at f6 m6 hp6 ⊢
      rcases hp6 with ⟨ha, e6, hsame⟩ | ⟨r, ha, e6, y1, y2, y3⟩
      · rw [e6, if_pos rfl, rt_onL, show (3 : Int32) = nI 3 from rfl, rt_bind]
        refine ⟨m6.1, (m_findsPair o m6 ht hm e (Or.inr rfl)).mono ?_⟩
        rintro ⟨x7, w7⟩ ⟨f7, m7, hp7⟩
        dsimp only at f7 m7 hp7 ⊢
        obtain ⟨r0, ho⟩ := pr2_ex o.1 hm e hw hn ha
        rcases hp7 with ⟨hb, -⟩ | ⟨r, hb, e7, y1, y2, y3⟩
        · rw [ho] at hb; cases hb
        · rw [e7, if_neg (show ¬ (1 : Int32) = 0 by decide), onL_pos _ m7.1, Option.bind_some, rt_onL, rt_some]
          obtain ⟨m8, g8⟩ := hmem w7 46 (gI w7 47 46) (by omega) m7
          refine ⟨m7.1, (f5.tr (f6.tr f7)).tr g8, m8, ?_⟩
          unfold HowM
          rw [hw_o hw hn ha hb]
          refine ⟨by rw [gI_sI, if_neg (by omega)]; exact y1, by rw [gI_sI, if_pos ⟨rfl, rfl⟩]; exact y2, ?_⟩
          rw [gI_sI, if_neg (by omega), if_pos (show 2 ≤ 3 by decide)]; exact y3
      · rw [e6, if_neg (show ¬ (1 : Int32) = 0 by decide), rt_some]
        refine ⟨f5.tr f6, m6, ?_⟩
        unfold HowM
        rw [hw_a hw hn ha]
        exact ⟨y1, y2, by rw [if_pos (show 2 ≤ 2 by decide)]; exact y3⟩
  · rw [e1, if_neg (by decide), rt_onL, rt_some, e2]
    obtain ⟨m2, g2⟩ := hmem w1 46 (nI i) (by omega) q.2
    refine ⟨q.2.1, f1.tr g2, m2, ?_⟩
    unfold HowM
    rw [hw_w hw]
    refine ⟨by rw [gI_sI, if_neg (by omega)]; exact k45, by rw [gI_sI, if_pos ⟨rfl, rfl⟩], ?_⟩
    rw [gI_sI, if_neg (by omega), if_neg (show ¬ 2 ≤ 0 by decide)]; exact k47
end How3
