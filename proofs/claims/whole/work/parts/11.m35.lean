/-! leads, the reference -/
section Leads2
variable {d : Dt} {C : Ct} {w : Mm} {t m0 : Nat}
def fwf (c k : Nat) : Prop := fhow c k ∨ c = 77 ∨ c = 78
/-- the queue: n MEANINGS q, none twice, marked as seen -/
def Que (d : Dt) (t m0 n : Nat) (q : Nat → Nat) (w : Mm) : Prop := n ≤ 64 ∧ (∀ i, i < n → gI w 78 i = nI (q i) ∧ q i < 64 ∧ Rch d t m0 (q i)) ∧ (∀ i j, i < j → j < n → q i ≠ q j) ∧ ∀ x, x < 64 → (gI w 77 x = 0 ↔ ∀ i, i < n → q i ≠ x)
theorem Que.add {n : Nat} {q : Nat → Nat} (hq : Que d t m0 n q w) (hm : MI d C w) {x : Nat} (hx : x < 64) (hr : Rch d t m0 x) : Rt (if gI w 77 x = 0 then (if inb (nI n) 64 = true then some (nI n + (1 : Int32), sI (sI w 77 x (vp_nar .boolean (1 : Int32))) 78 (ix (nI n)) (nI x)) else none) else some (nI n, w)) (fun p => ∃ n' q', p.1 = nI n' ∧ n ≤ n' ∧ (∀ i, i < n → q' i = q i) ∧ (∃ i, i < n' ∧ q' i = x) ∧ Que d t m0 n' q' p.2 ∧ fx fwf w p.2 ∧ (∀ k, gI p.2 47 k = gI w 47 k) ∧ MI d C p.2) := by
  obtain ⟨h1, h2, h3, h4⟩ := id hq
  by_cases c : gI w 77 x = 0
  · have hne := (h4 x hx).mp c
    have hn : n < 64 := by
      have := fb_holes 64 (n + 1) (fun i => if i = n then x else q i) (fun i hi => by
        by_cases e : i = n
        · rw [if_pos e]; exact hx
        · rw [if_neg e]; exact (h2 i (by omega)).2.1) (fun i j hij hj => by
        rw [if_neg (show ¬ i = n by omega)]
        by_cases e : j = n
        · rw [if_pos e]; exact hne i (by omega)
        · rw [if_neg e]; exact h3 i j hij (by omega))
      omega
    rw [if_pos c, if_pos (inb_nI hn (by decide)), rt_some, nar_1, ix_nI (by omega)]
    have f : fx (fun c _ => c = 77 ∨ c = 78) w (sI (sI w 77 x 1) 78 n (nI x)) := (fx.sI (Or.inl rfl)).tr (fx.sI (Or.inr rfl))
    refine ⟨n + 1, fun i => if i = n then x else q i, nI_1 n, by omega, fun i hi => if_neg (by omega), ⟨n, by omega, if_pos rfl⟩, ⟨by omega, fun i hi => ?_, fun i j hij hj => ?_, fun y hy => ?_⟩, f.sub (fun c k z => by unfold fwf; omega), fun k => f.I (by omega), (hm.y f (fun c k z => by unfold inM mB; omega)).2⟩
    · dsimp only
      rw [gI_sI]
      by_cases e : i = n
      · rw [if_pos ⟨rfl, e⟩, if_pos e]; exact ⟨rfl, hx, hr⟩
      · rw [if_neg (by omega), gI_sI, if_neg (by omega), if_neg e]; exact h2 i (by omega)
    · dsimp only
      rw [if_neg (show ¬ i = n by omega)]
      by_cases e : j = n
      · rw [if_pos e]; exact hne i (by omega)
      · rw [if_neg e]; exact h3 i j hij (by omega)
    · dsimp only
      rw [gI_sI, if_neg (by omega), gI_sI]
      by_cases e : y = x
      · rw [if_pos ⟨rfl, e⟩]
        constructor
        · intro z; exact absurd z (by decide)
        · intro z; exact absurd (if_pos rfl) (e ▸ z n (by omega))
      · rw [if_neg (by omega), h4 y hy]
        constructor
        · intro z i hi
          by_cases ei : i = n
          · rw [if_pos ei]; exact fun z' => e z'.symm
          · rw [if_neg ei]; exact z i (by omega)
        · intro z i hi
          have := z i (by omega)
          rw [if_neg (by omega)] at this
          exact this
  · rw [if_neg c, rt_some]
    have : ∃ i, i < n ∧ q i = x := by
      by_cases z : ∃ i, i < n ∧ q i = x
      · exact z
      · exact absurd ((h4 x hx).mpr (fun i hi e => z ⟨i, hi, e⟩)) c
    exact ⟨n, q, rfl, Nat.le_refl _, fun _ _ => rfl, this, hq, fx.rf, fun _ => rfl, hm⟩
theorem m_wordsFor (o : Ok d C) (h : MI d C w) (ht : t < 2 ^ d 0 0) (hm : m0 < 64) (he : ∃ L, BF d t m0 = some L) : Rt (f_X12_wordsFor (nI t) (nI m0) w) (fun p => (∃ b, p.1 = nI b ∧ LdS d t m0 b) ∧ fx fwf w p.2 ∧ MI d C p.2) := by
  have p10 := pow10 o.1.1
  unfold f_X12_wordsFor
  rw [rt_bind]
  refine Rt.mono (Q := fun w1 => fx (fun c _ => c = 77) w w1 ∧ ∀ x, x < 64 → (gI w1 77 x = 0 ↔ x ≠ m0)) (rt_for (fun k s => s.1 = nI k ∧ fx (fun c _ => c = 77) w s.2 ∧ ∀ x, x < k → (gI s.2 77 x = 0 ↔ x ≠ m0)) 64 ?_ ?_ ⟨rfl, fx.rf, fun x hx => absurd hx (Nat.not_lt_zero x)⟩ (by decide)) ?_
  · rintro k ⟨c, w1⟩ hk ⟨h1, hf, hz⟩
    dsimp only at h1 hf hz
    subst h1
    unfold l_X12_wordsFor_2
    dsimp only
    rw [if_neg (show ¬ (64 : Int32) ≤ nI k from nI_ge (b := 64) hk (by decide)), rt_onL]
    refine ⟨hf.lay h.1, ?_⟩
    have hgo : ∀ v : Int32, (v = 0 ↔ k ≠ m0) → (nI k + 1 = nI (k + 1) ∧ fx (fun c _ => c = 77) w (sI w1 77 k v) ∧ ∀ x, x < k + 1 → (gI (sI w1 77 k v) 77 x = 0 ↔ x ≠ m0)) := fun v hv => by
      refine ⟨nI_1 k, hf.tr (fx.sI rfl), fun x hx => ?_⟩
      rw [gI_sI]
      by_cases e : x = k
      · subst e; rw [if_pos ⟨rfl, rfl⟩]; exact hv
      · rw [if_neg (by omega)]; exact hz x (by omega)
    by_cases c1 : k = m0
    · rw [if_pos (by rw [c1]), Option.bind_some, if_pos (inb_nI hk (by decide)), ix_nI (by omega), rt_some, nx_l, nar_1]
      exact hgo 1 ⟨fun z => absurd z (by decide), fun z => absurd c1 z⟩
    · rw [if_neg (fun z => c1 ((nI_eq (by omega) (by omega)).mp z)), Option.bind_some, if_pos (inb_nI hk (by decide)), ix_nI (by omega), rt_some, nx_l, nar_0]
      exact hgo 0 ⟨fun _ => c1, fun _ => rfl⟩
  · rintro ⟨c, w1⟩ ⟨h1, hf, hz⟩
    dsimp only at h1 hf hz
    subst h1
    unfold l_X12_wordsFor_2
    dsimp only
    rw [if_pos (show (64 : Int32) ≤ nI 64 by decide), rt_some, nx_r]
    exact ⟨hf, hz⟩
  rintro w1 ⟨f1, z1⟩
  have m1 : MI d C w1 := (h.y f1 (fun c k z => by unfold inM mB; omega)).2
  rw [rt_onL, rt_bind, show ix (0 : Int32) = 0 from rfl]
  refine ⟨m1.1, ?_⟩
  have f2 : fx (fun c _ => c = 78) w1 (sI w1 78 0 (nI m0)) := fx.sI rfl
  have m2 : MI d C (sI w1 78 0 (nI m0)) := (m1.y f2 (fun c k z => by unfold inM mB; omega)).2
  have hst : Que d t m0 1 (fun _ => m0) (sI w1 78 0 (nI m0)) := ⟨by decide, fun i hi => ⟨by rw [gI_sI, if_pos ⟨rfl, by omega⟩], hm, Rch.st _ _⟩, fun i j h1 h2 => by omega, fun x hx => by
    rw [f2.I (by omega), z1 x hx]
    exact ⟨fun z i _ => fun e => z e.symm, fun z => fun e => z 0 (by omega) e.symm⟩⟩
  refine Rt.mono (rt_wh (Q := fun p => (∃ b, p.1 = nI b ∧ LdS d t m0 b) ∧ fx fwf w p.2 ∧ MI d C p.2) (fun s => ∃ n k b q, s.1 = nI n ∧ s.2.1 = nI b ∧ s.2.2.1 = nI k ∧ k ≤ n ∧ b < 1024 ∧ 0 < n ∧ q 0 = m0 ∧ Que d t m0 n q s.2.2.2 ∧ (∀ i z, i < k → Dep d t (q i) z → ∃ j, j < n ∧ q j = z) ∧ (∀ j, b.testBit j = true ↔ ∃ i, i < k ∧ wd d t (q i) = j) ∧ fx fwf w s.2.2.2 ∧ MI d C s.2.2.2) (fun s => 64 - ix s.2.2.1) ?_ ⟨1, 0, 0, fun _ => m0, rfl, rfl, rfl, by omega, by decide, by omega, rfl, hst, fun i z hi => absurd hi (Nat.not_lt_zero i), fun j => by
    rw [Nat.zero_testBit]
    exact ⟨fun z => (by cases z), fun ⟨i, hi, _⟩ => absurd hi (Nat.not_lt_zero i)⟩, (f1.sub (fun c k z => by unfold fwf; omega)).tr (f2.sub (fun c k z => by unfold fwf; omega)), m2⟩ (by unfold FUEL; omega)) (fun p hp => by rw [rt_some]; exact hp)
  rintro ⟨sn, sb, sk, w3⟩ ⟨n, k, b, q, e1, e2, e3, hkn, hb, hn0, hq0, hQ, hcl, hbits, hf, hM⟩
  dsimp only at e1 e2 e3 hQ hf hM ⊢
  subst e1 e2 e3
  have hn64 := hQ.1
  unfold l_X12_wordsFor_45
  dsimp only
  by_cases c0 : n ≤ k
  · rw [if_pos (nI_le c0 (by omega)), rt_some, nx_r]
    have ekn : k = n := by omega
    subst ekn
    refine ⟨⟨b, rfl, hb, fun j => ?_⟩, hf, hM⟩
    rw [hbits j]
    constructor
    · rintro ⟨i, hi, z⟩
      exact ⟨q i, (hQ.2.1 i hi).2.2, z⟩
    · rintro ⟨x, hx, z⟩
      obtain ⟨i, hi, ei⟩ := hx (fun x => ∃ i, i < k ∧ q i = x) ⟨0, hn0, hq0⟩ (fun y z hy hd => by
        obtain ⟨i, hi, rfl⟩ := hy
        exact hcl i z hi hd)
      exact ⟨i, hi, by rw [ei]; exact z⟩
  · have hk : k < n := by omega
    obtain ⟨g78, hqk, hrk⟩ := hQ.2.1 k hk
    obtain ⟨-, L, e⟩ := hrk.ok o.1 hm he
    rw [if_neg (nI_ge hk (by omega)), rt_onL, if_pos (inb_nI (n := 64) (by omega) (by decide)), ix_nI (by omega), g78, rt_bind]
    refine ⟨hM.1, (m_says o hM ht hqk e).mono ?_⟩
    rintro w4 ⟨f4, m4, y1, y2, y3⟩
    have hok := hwS_ok o.1 hqk e
    have hwl := wd_lt o.1 ht hqk
    have hwd := wd_k e
    have hQ4 : Que d t m0 n q w4 := by
      obtain ⟨q1, q2, q3, q4⟩ := hQ
      exact ⟨q1, fun i hi => by rw [f4.I (by unfold fhow; omega)]; exact q2 i hi, q3, fun x hx => by rw [f4.I (by unfold fhow; omega)]; exact q4 x hx⟩
    have hf4 : fx fwf w w4 := hf.tr (f4.sub (fun c k z => Or.inl z))
    rw [rt_onL]
    refine ⟨m4.1, ?_⟩
    -- the WORD
    have hword : (if gI w4 47 45 = 0 then some (gI w4 47 46) else Option.bind (f_X12_joinerOf (nI t) (gI w4 47 45) w4) (fun p28 => some p28)) = some (nI (wd d t (q k))) := by
      rw [y1, y2]
      rcases hok with ⟨z1, z2, -, -⟩ | ⟨z1, -, -, z4, -⟩ | ⟨z1, -, -, z4, -⟩
      · rw [z1, if_pos (by rfl), hwd, if_pos z1]
      · obtain ⟨i, hi⟩ := (jl_pos o.1 (k := 1) ht).mp z4
        rw [z1, if_neg (by decide), m_joinerOf o.1 m4.2.1 (by decide) ht, Option.bind_some, hi, hwd, if_neg (by omega), z1, hi]; rfl
      · obtain ⟨i, hi⟩ := (jl_pos o.1 (k := (hwS d t (q k) L).1) ht).mp z4
        rw [if_neg (nI_ne0 (by omega) (by omega)), m_joinerOf o.1 m4.2.1 (by omega) ht, Option.bind_some, hi, hwd, if_neg (by omega), hi]; rfl
    rw [hword, Option.bind_some]
    -- the end of the step
    have hend : ∀ (n' : Nat) (q' : Nat → Nat) (w5 : Mm), n ≤ n' → (∀ i, i < n → q' i = q i) → (∀ z, Dep d t (q k) z → ∃ j, j < n' ∧ q' j = z) → Que d t m0 n' q' w5 → fx fwf w4 w5 → MI d C w5 → Nx (fun s' : Int32 × Int32 × Int32 × Mm => (∃ n k b q, s'.1 = nI n ∧ s'.2.1 = nI b ∧ s'.2.2.1 = nI k ∧ k ≤ n ∧ b < 1024 ∧ 0 < n ∧ q 0 = m0 ∧ Que d t m0 n q s'.2.2.2 ∧ (∀ i z, i < k → Dep d t (q i) z → ∃ j, j < n ∧ q j = z) ∧ (∀ j, b.testBit j = true ↔ ∃ i, i < k ∧ wd d t (q i) = j) ∧ fx fwf w s'.2.2.2 ∧ MI d C s'.2.2.2) ∧ 64 - ix s'.2.2.1 < 64 - k) (fun p : Int32 × Mm => (∃ b, p.1 = nI b ∧ LdS d t m0 b) ∧ fx fwf w p.2 ∧ MI d C p.2) (.inl (nI n', nI b ||| ((1 : Int32) <<< (nI (wd d t (q k)) &&& 31)), nI k + (1 : Int32), w5)) := fun n' q' w5 a1 a2 a3 a4 a5 a6 => by
      rw [nx_l, sh1_N (by omega), fa_or]
      refine ⟨⟨n', k + 1, b ||| 2 ^ wd d t (q k), q', rfl, rfl, nI_1 k, by omega, Nat.or_lt_two_pow (n := 10) hb (Nat.pow_lt_pow_right (by decide) hwl), by omega, by rw [a2 0 hn0]; exact hq0, a4, fun i z hi hd => ?_, fun j => ?_, hf4.tr a5, a6⟩, ?_⟩
      · rw [a2 i (by omega)] at hd
        by_cases ei : i = k
        · subst ei; exact a3 z hd
        · obtain ⟨j, hj, ej⟩ := hcl i z (by omega) hd
          exact ⟨j, by omega, by rw [a2 j hj]; exact ej⟩
      · rw [fb_bit_set]
        constructor
        · intro z
          rcases Bool.or_eq_true .. ▸ z with z | z
          · obtain ⟨i, hi, ei⟩ := (hbits j).mp z
            exact ⟨i, by omega, by rw [a2 i (by omega)]; exact ei⟩
          · exact ⟨k, by omega, by rw [a2 k hk]; exact (of_decide_eq_true z).symm⟩
        · rintro ⟨i, hi, ei⟩
          rw [a2 i (by omega)] at ei
          by_cases eik : i = k
          · subst eik; rw [decide_eq_true ei.symm]; simp
          · rw [(hbits j).mpr ⟨i, by omega, ei⟩]; rfl
      · dsimp only
        rw [nI_1, ix_nI (by omega)]
        omega
    rw [y1, y2, y3]
    rcases hok with ⟨z1, z2, -, -⟩ | ⟨z1, z2, -, -, -⟩ | ⟨z1, z2, z3, -, -, -⟩
    · rw [z1, if_pos (by rfl), Option.bind_some, if_pos rfl, Option.bind_some, if_neg (show ¬ 2 ≤ 0 by decide), if_pos rfl, Option.bind_some, rt_some]
      exact hend n q w4 (Nat.le_refl _) (fun _ _ => rfl) (fun z hz => by rcases (dep_k e z).mp hz with y | y <;> omega) hQ4 fx.rf m4
    · rw [z1, if_neg (show ¬ nI 1 = 0 by decide), Option.bind_some, if_neg (nm1 (by omega)), if_pos (inb_nI z2 (by decide)), ix_nI (by omega), rt_bind]
      have hdep : Dep d t (q k) (hwS d t (q k) L).2.1 := (dep_k e _).mpr (Or.inl ⟨z1, rfl⟩)
      refine (hQ4.add m4 z2 (hrk.nx hdep)).mono ?_
      rintro ⟨sn', w5⟩ ⟨n', q', b1, b2, b3, b4, b5, b6, b7, b8⟩
      dsimp only at b1 b5 b6 b7 b8 ⊢
      subst b1
      rw [if_neg (show ¬ 2 ≤ 1 by decide), if_pos rfl, Option.bind_some, rt_some]
      exact hend n' q' w5 b2 b3 (fun z hz => by
        rcases (dep_k e z).mp hz with ⟨-, y⟩ | ⟨y, -⟩
        · rw [y]; exact b4
        · omega) b5 b6 b8
    · rw [if_neg (nI_ne0 (by omega) (by omega)), Option.bind_some, if_neg (nm1 (by omega)), if_pos (inb_nI z2 (by decide)), ix_nI (n := (hwS d t (q k) L).2.1) (by omega), rt_bind]
      have hdep : Dep d t (q k) (hwS d t (q k) L).2.1 := (dep_k e _).mpr (Or.inr ⟨by omega, Or.inl rfl⟩)
      have hdep2 : Dep d t (q k) (hwS d t (q k) L).2.2 := (dep_k e _).mpr (Or.inr ⟨by omega, Or.inr rfl⟩)
      refine (hQ4.add m4 z2 (hrk.nx hdep)).mono ?_
      rintro ⟨sn', w5⟩ ⟨n', q', b1, b2, b3, b4, b5, b6, b7, b8⟩
      dsimp only at b1 b5 b6 b7 b8 ⊢
      subst b1
      rw [if_pos (show 2 ≤ (hwS d t (q k) L).1 by omega), if_neg (nm1 (by omega)), rt_bind, rt_onL, if_pos (inb_nI z3 (by decide)), ix_nI (n := (hwS d t (q k) L).2.2) (by omega)]
      refine ⟨b8.1, (b5.add b8 z3 (hrk.nx hdep2)).mono ?_⟩
      rintro ⟨sn'', w6⟩ ⟨n'', q'', c1, c2, c3, c4, c5, c6, c7, c8⟩
      dsimp only at c1 c5 c6 c7 c8 ⊢
      subst c1
      rw [rt_some]
      refine hend n'' q'' w6 (by omega) (fun i hi => by rw [c3 i (by omega)]; exact b3 i hi) (fun z hz => ?_) c5 (b6.tr c6) c8
      rcases (dep_k e z).mp hz with ⟨y, -⟩ | ⟨-, y | y⟩
      · omega
      · obtain ⟨i, hi, ei⟩ := b4
        exact ⟨i, by omega, by rw [c3 i hi, ei, y]⟩
      · rw [y]; exact c4
def qw (w w' : Mm) : Prop := fx (fun c k => qsP c k ∨ c = 77 ∨ c = 78) w w'
theorem qw.rf {w : Mm} : qw w w := fx.rf
theorem qw.q {w w' : Mm} (h : qw w w') : qf w w' := fx.sub h (fun c k z => by unfold qsP at z; unfold inM mB; omega)
theorem m_leadsTo (o : Ok d C) (h : MI d C w) {i : Nat} (hi : i < 10) : Rt (f_X12_leadsTo (nI i) w) (fun p => (∃ b, p.1 = nI b ∧ Lead d i b) ∧ qw w p.2 ∧ MI d C p.2) := by
  have hu := o.1.2.1
  have hm := (o.1.2.2.1 i hi).2.1
  unfold f_X12_leadsTo
  rw [if_pos (inb_nI hi (by decide)), h.U, wo_N (by omega), ix_nI (by omega), (h.2.1.2.2.2 i hi).2.1, rt_bind]
  refine (m_brB o h (wo_lt hu) hm).mono ?_
  rintro ⟨v, w1⟩ ⟨e1, q1⟩
  dsimp only at e1 q1 ⊢
  subst e1
  have qw1 : qw w w1 := q1.1.sub (fun c k z => by unfold qsP; omega)
  cases e : BF d (wo (d 0 1) i) (d 2 i) with
  | none =>
    rw [enc_n, if_neg (by decide), rt_some]
    exact ⟨⟨0, rfl, Or.inl ⟨e, rfl⟩⟩, qw1, q1.2⟩
  | some L =>
    have hl := BF_le o.1 e
    rw [enc_s, if_pos (show nI L < (1000000 : Int32) from nI_lt (b := 1000000) (by omega) (by decide)), rt_onL, (q1.2.2.1.2.2.2 i hi).2.1, rt_bind]
    refine ⟨q1.2.1, (m_wordsFor o q1.2 (wo_lt hu) hm ⟨L, e⟩).mono ?_⟩
    rintro ⟨v, w2⟩ ⟨⟨b, e2, hb⟩, f2, m2⟩
    dsimp only at e2 f2 m2 ⊢
    subst e2
    rw [rt_some]
    exact ⟨⟨b, rfl, Or.inr ⟨⟨L, e⟩, hb⟩⟩, qw1.tr (f2.sub (fun c k z => by unfold fwf fhow at z; unfold qsP; omega)), m2⟩
end Leads2
