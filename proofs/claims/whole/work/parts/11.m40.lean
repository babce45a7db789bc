/-! MADE UP: the reference -/
section Made2
variable {d : Dt} {C : Ct} {w : Mm}
theorem m_talkOf_yes (o : Ok d C) {t : Nat} (hL : Lay w) (hk : MTk d C w) (ht : t < 2 ^ d 0 0) (h73 : ¬ gI w 73 t = 0) : f_X12_talkOf (nI t) w = some (lN (tkA d C t), w) := by
  have p10 := pow10 o.1.1
  have hs := ((hk t ht).resolve_left h73).1
  have hby : ∀ s, s < 4 → f_X12_talkBy (nI t) (nI s) w = some (lN (tk d C t s), w) := fun s hs4 => by
    unfold f_X12_talkBy f_X12_talksBy
    rw [if_pos (inb_nI (n := 1024) (by omega) (by decide)), ix_nI (by omega), if_neg h73, Option.bind_some, onL_pos _ hL, show (4 : Int32) = nI 4 from rfl, pk_mul, nI_add, if_pos (inb_nI (n := 4096) (by omega) (by decide)), ix_nI (by omega), hs s hs4]
  apply Rt.eq
  unfold f_X12_talkOf
  rw [rt_bind]
  refine Rt.mono (rt_for (Q := fun p => p = (lN (tkA d C t), w)) (fun k s => s = (lN (fb_sm (fun j => tk d C t j) k), nI k, w)) 4 ?_ ?_ rfl (by decide)) (fun p hp => by rw [rt_some, hp])
  · rintro k s hk4 rfl
    unfold l_X12_talkOf_5
    dsimp only
    rw [if_neg (show ¬ (4 : Int32) ≤ nI k from nI_ge (b := 4) hk4 (by decide)), rt_onL, hby k hk4, Option.bind_some, rt_some, nx_l, lN_add, nI_1]
    exact ⟨hL, rfl⟩
  · rintro s rfl
    unfold l_X12_talkOf_5
    dsimp only
    rw [if_pos (show (4 : Int32) ≤ nI 4 by decide), rt_some, nx_r]
    have := tk_sum o.2.1 (C := C) (B := BF d t) (d 0 3) o.2.1.1
    unfold tkA tk
    rw [← this]
/-- the reference's memory while a child's words are tried: its row of BRIEF for those in use may hold anything -/
def MX (d : Dt) (C : Ct) (w : Mm) : Prop := Lay w ∧ MLx d w ∧ MDm d w ∧ MNr d C w ∧ (∀ t, t < 2 ^ d 0 0 → t ≠ d 0 1 → gI w 71 t = 0 ∨ RowM w t (fun m => enc 1000000 (BF d t m))) ∧ MTk d C w ∧ ¬ gI w 71 (d 0 1) = 0 ∧ ¬ gI w 73 (d 0 1) = 0 ∧ ∀ x, x < 64 → gI w 86 x = nI (enc 1000000 (BF d (d 0 1) x))
def fM (d : Dt) (w w' : Mm) : Prop := fx (fun c k => scS c k ∨ c = 72) w w' ∧ ∀ j, j < 64 * d 0 1 ∨ 64 * d 0 1 + 64 ≤ j → gI w' 72 j = gI w 72 j
theorem fM.rf : fM d w w := ⟨fx.rf, fun _ _ => rfl⟩
theorem fM.tr {w' w'' : Mm} (h : fM d w w') (h' : fM d w' w'') : fM d w w'' := ⟨h.1.tr h'.1, fun j hj => (h'.2 j hj).trans (h.2 j hj)⟩
theorem fM.s {x : Nat} {v : Int32} (hx : x < 64) : fM d w (sI w 72 (64 * d 0 1 + x) v) := ⟨fx.sI (Or.inr rfl), fun j hj => by rw [gI_sI, if_neg (by omega)]⟩
theorem fM.S {w' : Mm} (h : fx scS w w') : fM d w w' := ⟨h.sub (fun c k z => Or.inl z), fun j _ => h.I (by unfold scS; omega)⟩
theorem fM.B {w' : Mm} (h : frB (d 0 1) w w') : fM d w w' := ⟨h.1.x.sub (fun c k z => Or.inr z), h.2⟩
theorem fM_q {w' : Mm} (f : fM d w w') : qf w w' := qf.of f.1 (fun c k z => by unfold scS at z; unfold inM mB; omega)
theorem MX.fx {w' : Mm} (h : MX d C w) (f : fM d w w') : MX d C w' := by
  obtain ⟨h1, h2, h3, h4, h5, h6, h7, h8, h9⟩ := h
  have q := fM_q f
  refine ⟨q.lay h1, h2.qf q, h3.qf q, h4.qf q, fun t ht hne => ?_, h6.fx f.1 (fun k => by unfold scS; omega) (fun k => by unfold scS; omega) (fun k => by unfold scS; omega), by rw [f.1.I (by unfold scS; omega)]; exact h7, by rw [f.1.I (by unfold scS; omega)]; exact h8, fun x hx => by rw [f.1.I (by unfold scS; omega)]; exact h9 x hx⟩
  rcases h5 t ht hne with z | z
  · left; rw [f.1.I (by unfold scS; omega)]; exact z
  · right; intro m hm; rw [f.2 _ (by omega)]; exact z m hm
theorem m_restore (o : Ok d C) (h : MX d C w) (b : Int32 × Mm → Option ((Int32 × Mm) ⊕ Mm)) (hb : ∀ (k : Nat) (w1 : Mm), k < 64 → gI w1 47 6 = nI (d 0 1) → Lay w1 → b (nI k, w1) = some (.inl (nI k + (1 : Int32), sI w1 72 (64 * d 0 1 + k) (gI w1 86 k)))) (he : ∀ w1, b (nI 64, w1) = some (.inr w1)) : Rt (wh b FUEL ((0 : Int32), w)) (fun w' => fM d w w' ∧ RowM w' (d 0 1) (fun x => enc 1000000 (BF d (d 0 1) x))) := by
  refine rt_for (fun k s => s.1 = nI k ∧ fM d w s.2 ∧ ∀ x, x < k → gI s.2 72 (64 * d 0 1 + x) = nI (enc 1000000 (BF d (d 0 1) x))) 64 ?_ ?_ ⟨rfl, fM.rf, fun x hx => absurd hx (Nat.not_lt_zero x)⟩ (by decide)
  · rintro k ⟨c, w1⟩ hk ⟨h1, hf, hz⟩
    dsimp only at h1 hf hz
    subst h1
    have hx1 := h.fx hf
    rw [hb k w1 hk hx1.2.1.2.1 hx1.1, rt_some, nx_l]
    refine ⟨nI_1 k, hf.tr (fM.s hk), fun x hx => ?_⟩
    dsimp only
    rw [gI_sI]
    by_cases e : x = k
    · subst e; rw [if_pos ⟨rfl, rfl⟩]; exact hx1.2.2.2.2.2.2.2.2 x hk
    · rw [if_neg (by omega)]; exact hz x (by omega)
  · rintro ⟨c, w1⟩ ⟨h1, hf, hz⟩
    dsimp only at h1 hf hz
    subst h1
    rw [he, rt_some, nx_r]
    exact ⟨hf, hz⟩
theorem tw_106 : l_X12_talkWith_106 = l_X12_lays_147 := rfl
theorem m_talkWith (o : Ok d C) (h : MX d C w) {m l : Nat} (hm : m < 64) (hl1 : 1 ≤ l) (hl : l ≤ 9) : Rt (f_X12_talkWith (nI m) (nI l) w) (fun p => p.1 = lN (vU d C l m) ∧ fM d w p.2) := by
  have p10 := pow10 o.1.1
  have hu := o.1.2.1
  have hU := h.2.1.2.1
  unfold f_X12_talkWith
  rw [hU, show (64 : Int32) = nI 64 from rfl, pk_mul, nI_add, rt_bind]
  refine (m_restore o h _ (fun k w1 hk h6 hL1 => ?_) (fun w1 => ?_)).mono ?_
  · unfold l_X12_talkWith_11
    dsimp only
    rw [if_neg (show ¬ (64 : Int32) ≤ nI k from nI_ge (b := 64) hk (by decide)), onL_pos _ hL1, if_pos (inb_nI hk (by decide)), nI_add, if_pos (inb_nI (n := 65536) (by omega) (by decide)), ix_nI (by omega), ix_nI (by omega)]
  · unfold l_X12_talkWith_11
    dsimp only
    rw [if_pos (show (64 : Int32) ≤ nI 64 by decide)]
  rintro w1 ⟨f1, r1⟩
  have h1 := h.fx f1
  have b1 := encM_le o.1 (t := d 0 1) m
  rw [rt_onL, if_pos (inb_nI (n := 65536) (by omega) (by decide)), ix_nI (by omega), show gI w1 72 (64 * d 0 1 + m) = nI (enc 1000000 (BF d (d 0 1) m)) from r1 m hm, h1.2.1.2.1]
  refine ⟨h1.1, ?_⟩
  by_cases c : l < enc 1000000 (BF d (d 0 1) m)
  · have hv : vU d C l m = tkAB d C (BC d (d 0 1) m l) (d 0 3) := by unfold vU; rw [if_pos c]
    rw [hv, if_pos (nI_lt c (by omega))]
    have f2 : fM d w1 (sI w1 72 (64 * d 0 1 + m) (nI l)) := fM.s hm
    have h2 := h1.fx f2
    rw [show (1 : Int32) = nI 1 from rfl, show (2 : Int32) = nI 2 from rfl, show (3 : Int32) = nI 3 from rfl, m_joinOf o.1 h2.2.1 (by decide) hu, Option.bind_some, m_joinOf o.1 h2.2.1 (by decide) hu, Option.bind_some, m_joinOf o.1 h2.2.1 (by decide) hu, Option.bind_some, tw_106, rt_bind]
    have hr0 : RowM (sI w1 72 (64 * d 0 1 + m) (nI l)) (d 0 1) (fun x => if x = m then l else enc 1000000 (BF d (d 0 1) x)) := fun x hx => by
      dsimp only
      rw [gI_sI]
      by_cases e : x = m
      · rw [if_pos ⟨rfl, by rw [e]⟩, if_pos e]
      · rw [if_neg (by omega), if_neg e]; exact r1 x hx
    refine (m_relax (G := Gc d (d 0 1) m l) (fun m' c g => Gc_ok o.1 hm g) (by omega) h2.1 (jl_le o.1) (jl_le o.1) (jl_le o.1) (fun x hx => ?_) (fun x hx q => ?_) (fun x c' g => ?_) hr0).mono ?_
    · split
      · omega
      · exact encM_le o.1 x
    · by_cases e : x = m
      · rw [if_pos e]; exact Say.gen (Or.inr ⟨hl, e, rfl⟩)
      · rw [if_neg e] at q ⊢
        cases eb : BF d (d 0 1) x with
        | none => rw [eb, enc_n] at q; omega
        | some y => exact ((bf_some.mp eb).1).mono (fun _ _ g => Or.inl g)
    · have hgd : ∀ x c', Gd d (d 0 1) x c' → enc 1000000 (BF d (d 0 1) x) ≤ c' := fun x c' g => by
        cases eb : BF d (d 0 1) x with
        | none => exact absurd (Say.gen g) (bf_none.mp eb c')
        | some y => rw [enc_s]; exact (bf_some.mp eb).2 c' (Say.gen g)
      rcases g with g | ⟨-, rfl, rfl⟩
      · have := hgd x c' g
        by_cases e : x = m
        · rw [if_pos e]; rw [e] at this; omega
        · rw [if_neg e]; exact this
      · rw [if_pos rfl]; exact Nat.le_refl _
    rintro w3 ⟨f3, r3⟩
    have f13 : fM d w1 w3 := f2.tr (fM.B f3)
    have h3 := h1.fx f13
    have o3 := o.2.1.1
    rw [rt_bind]
    have r3' : RowM w3 (d 0 1) (fun x => enc 1000000 (BC d (d 0 1) m l x)) := r3
    refine Rt.mono (rt_for (Q := fun p => p.1 = lN (tkAB d C (BC d (d 0 1) m l) (d 0 3)) ∧ fx scS w3 p.2) (fun i s => s.1 = lN (tkAB d C (BC d (d 0 1) m l) i) ∧ s.2.1 = nI i ∧ fx scS w3 s.2.2) (d 0 3) ?_ ?_ ⟨rfl, rfl, fx.rf⟩ (by omega)) ?_
    · rintro i ⟨a, c', w4⟩ hi ⟨g1, g2, hf⟩
      dsimp only at g1 g2 hf
      subst g1 g2
      have h4 := h3.fx (fM.S hf)
      have hi24 : i < 24 := by omega
      have hr := o.2.1.2.2.2 i hi24
      obtain ⟨r6, r7, r8, r9⟩ := h4.2.2.1.2.2.2 i hi24
      unfold l_X12_talkWith_302
      dsimp only
      rw [rt_onL, h4.2.2.1.1, if_neg (nI_ge hi (by omega)), if_pos (inb_nI hi24 (by decide)), ix_nI (by omega), h4.2.1.2.1, r7, rt_bind]
      refine ⟨h4.1, (m_sayRow (B := BC d (d 0 1) m l) o.2.2 (fun j b e => BC_le o.1 hm e) h4.1 h4.2.2.2.1 (by omega) h4.2.2.2.2.2.2.1 (r3'.fx hf (fun k => by unfold scS; omega)) hr.2.1).mono ?_⟩
      rintro ⟨x5, w5⟩ ⟨e5, -, f5⟩
      dsimp only at e5 f5 ⊢
      subst e5
      have h5 := h4.fx (fM.S f5)
      have hle : enc 1000000 (sy C (BC d (d 0 1) m l) (d 7 i) 64).1 ≤ 1000000 := enc_le (fun b e => by have := sy_le (fun j b e => BC_le o.1 hm e) o.2.2.1 64 b e; omega)
      rw [rt_onL, h5.2.2.1.2.1, (h5.2.2.1.2.2.2 i hi24).2.2.1]
      refine ⟨h5.1, ?_⟩
      have hmn : (if nI (d 0 4) ≤ nI (enc 1000000 (sy C (BC d (d 0 1) m l) (d 7 i) 64).1) then some (nI (d 0 4)) else some (nI (enc 1000000 (sy C (BC d (d 0 1) m l) (d 7 i) 64).1))) = some (nI (min (enc 1000000 (sy C (BC d (d 0 1) m l) (d 7 i) 64).1) (d 0 4))) := by
        have := o.2.1.2.1
        by_cases z : d 0 4 ≤ enc 1000000 (sy C (BC d (d 0 1) m l) (d 7 i) 64).1
        · rw [if_pos (nI_le z (by omega)), Nat.min_eq_right z]
        · rw [if_neg (nI_ge (by omega) (by omega)), Nat.min_eq_left (by omega)]
      rw [hmn, Option.bind_some, rt_some, nx_l]
      refine ⟨?_, nI_1 i, hf.tr f5⟩
      dsimp only
      rw [nI_l (by omega), nI_l (by have := o.2.1.2.1; omega), lN_mul, lN_add]
      rfl
    · rintro ⟨a, c', w4⟩ ⟨g1, g2, hf⟩
      dsimp only at g1 g2 hf
      subst g1 g2
      have h4 := h3.fx (fM.S hf)
      unfold l_X12_talkWith_302
      dsimp only
      rw [rt_onL, h4.2.2.1.1, if_pos (nI_le (Nat.le_refl _) (by omega)), rt_some, nx_r]
      exact ⟨h4.1, rfl, hf⟩
    · rintro ⟨a, w4⟩ ⟨e4, f4⟩
      rw [rt_some]
      exact ⟨e4, (f1.tr f13).tr (fM.S f4)⟩
  · have hv : vU d C l m = tkA d C (d 0 1) := by unfold vU; rw [if_neg c]
    rw [hv, if_neg (nI_nlt (by omega) (by omega)), m_talkOf_yes o h1.1 h1.2.2.2.2.2.1 hu h1.2.2.2.2.2.2.2.1, Option.bind_some, rt_some]
    exact ⟨rfl, f1⟩
theorem ag_madeUp (o : Ok d C) (hst : d 0 7 < 2 ^ 31) (x1 x2 : Int32) : Agree d C (f_X11_madeUp x1 x2) (f_X12_madeUp x1 x2) := by
  have p10 := pow10 o.1.1
  have hu := o.1.2.1
  have l1 : f_X12_lies x1.toInt64 (1 : Int64) (9 : Int64) = f_X11_within x1 1 9 := lies_lit x1 1 9 (by decide) (by decide)
  have l2 : f_X12_lies x2.toInt64 (0 : Int64) (1 : Int64) = f_X11_within x2 0 1 := lies_lit x2 0 1 (by decide) (by decide)
  by_cases c1 : f_X11_within x1 1 9 = 0
  · refine ⟨-1, fun w h => ?_, fun w h => ?_⟩
    · unfold f_X11_madeUp
      rw [if_pos c1, rt_some]; exact ⟨rfl, KW.rf h⟩
    · unfold f_X12_madeUp
      rw [l1, if_pos c1, rt_some]; exact ⟨rfl, ZW.rf h⟩
  by_cases c2 : f_X11_within x2 0 1 = 0
  · refine ⟨-1, fun w h => ?_, fun w h => ?_⟩
    · unfold f_X11_madeUp
      rw [if_neg c1, if_pos c2, rt_some]; exact ⟨rfl, KW.rf h⟩
    · unfold f_X12_madeUp
      rw [l1, if_neg c1, l2, if_pos c2, rt_some]; exact ⟨rfl, ZW.rf h⟩
  obtain ⟨l, hl1, hl, rfl⟩ := within_c 1 9 (by decide) (by decide) c1
  obtain ⟨b, hb, eb⟩ := aU_some (C := C) o.2.1 l
  refine ⟨if x2 = 0 then (nI b).toInt64 else lN (tkA d C (d 0 1)) - lN (vU d C l b), fun w h => ?_, fun w h => ?_⟩
  · unfold f_X11_madeUp
    rw [if_neg c1, if_neg c2, rt_bind]
    refine (x9_childsWord o hst h hl1 hl x2).mono ?_
    rintro p ⟨q, b', -, eb', e⟩
    rw [eb] at eb'
    cases eb'
    rw [rt_some]
    exact ⟨e, q.w⟩
  · unfold f_X12_madeUp
    rw [l1, if_neg c1, l2, if_neg c2, h.U, rt_bind]
    refine (m_talkOf o h hu).mono ?_
    rintro ⟨v, w1⟩ ⟨e1, q1, m1, y1⟩
    dsimp only at e1 q1 m1 y1 ⊢
    subst e1
    rw [rt_onL, m1.U, rt_bind]
    refine ⟨m1.1, (m_lays o.1 m1.1 m1.2.1 m1.2.2.2.2.1 hu).mono ?_⟩
    rintro w2 ⟨f2, b2, n2, r2⟩
    have z2 := m1.x f2 (fun c k z => by unfold qsP; omega) b2
    have y2 : ¬ gI w2 73 (d 0 1) = 0 := by rw [f2.I (by omega)]; exact y1
    rw [rt_bind]
    refine Rt.mono (rt_for (Q := fun w3 => fx (fun c _ => c = 86) w2 w3 ∧ ∀ x, x < 64 → gI w3 86 x = nI (enc 1000000 (BF d (d 0 1) x))) (fun k s => s.1 = nI k ∧ fx (fun c _ => c = 86) w2 s.2 ∧ ∀ x, x < k → gI s.2 86 x = nI (enc 1000000 (BF d (d 0 1) x))) 64 ?_ ?_ ⟨rfl, fx.rf, fun x hx => absurd hx (Nat.not_lt_zero x)⟩ (by decide)) ?_
    · rintro k ⟨c, w3⟩ hk ⟨g1, hf, hz⟩
      dsimp only at g1 hf hz
      subst g1
      unfold l_X12_madeUp_46
      dsimp only
      rw [if_neg (show ¬ (64 : Int32) ≤ nI k from nI_ge (b := 64) hk (by decide)), rt_onL, hf.I (by omega), z2.2.U, show (64 : Int32) = nI 64 from rfl, pk_mul, nI_add, if_pos (inb_nI (n := 65536) (by omega) (by decide)), if_pos (inb_nI hk (by decide)), ix_nI (by omega), ix_nI (by omega), rt_some, nx_l]
      refine ⟨hf.lay z2.2.1, nI_1 k, hf.tr (fx.sI rfl), fun x hx => ?_⟩
      dsimp only
      rw [gI_sI]
      by_cases e : x = k
      · subst e; rw [if_pos ⟨rfl, rfl⟩, hf.I (by omega)]; exact r2 x hk
      · rw [if_neg (by omega)]; exact hz x (by omega)
    · rintro ⟨c, w3⟩ ⟨g1, hf, hz⟩
      dsimp only at g1 hf hz
      subst g1
      unfold l_X12_madeUp_46
      dsimp only
      rw [if_pos (show (64 : Int32) ≤ nI 64 by decide), rt_some, nx_r]
      exact ⟨hf, hz⟩
    rintro w3 ⟨f3, k3⟩
    have z3 := z2.2.y f3 (fun c k z => by unfold inM mB; omega)
    have hX : MX d C w3 := by
      obtain ⟨g1, g2, g3, g4, g5, g6⟩ := z3.2
      exact ⟨g1, g2, g3, g4, fun t ht _ => g5 t ht, g6, by rw [f3.I (by omega)]; exact n2, by rw [f3.I (by omega)]; exact y2, k3⟩
    rw [rt_bind]
    refine Rt.mono (rt_for (Q := fun p => p.1 = (aU d C l 64).elim 0 nI ∧ p.2.1 = lm (vU d C l) (aU d C l 64) ∧ fM d w3 p.2.2) (fun i s => s.1 = (aU d C l i).elim 0 nI ∧ s.2.1 = lm (vU d C l) (aU d C l i) ∧ s.2.2.1 = nI i ∧ fM d w3 s.2.2.2) 64 ?_ ?_ ⟨rfl, rfl, rfl, fM.rf⟩ (by decide)) ?_
    · rintro i ⟨me, le, c, w4⟩ hi ⟨g1, g2, g3, hf⟩
      dsimp only at g1 g2 g3 hf
      subst g1 g2 g3
      have h4 := hX.fx hf
      unfold l_X12_madeUp_92
      dsimp only
      rw [if_neg (show ¬ (64 : Int32) ≤ nI i from nI_ge (b := 64) hi (by decide)), rt_onL, rt_bind]
      refine ⟨h4.1, (m_talkWith o h4 hi hl1 hl).mono ?_⟩
      rintro ⟨v, w5⟩ ⟨e5, f5⟩
      dsimp only at e5 f5 ⊢
      subst e5
      have v2 := vU_lt (C := C) o.2.1 l i
      unfold aU
      cases e : amin (fun _ => true) (fun m => (vU d C l m : Int)) i with
      | none =>
        have hlt : lN (vU d C l i) < lm (vU d C l) none := by
          show lN (vU d C l i) < (1000000000000000 : Int64)
          rw [fa_lt64, lN_toInt v2, show (1000000000000000 : Int64).toInt = 1000000000000000 by decide]
          omega
        rw [if_pos hlt, Option.bind_some, rt_some, nx_l]
        dsimp only
        rw [amin_0 (p := fun _ => true) rfl e]
        exact ⟨rfl, rfl, nI_1 i, hf.tr f5⟩
      | some b' =>
        have v1 := vU_lt (C := C) o.2.1 l b'
        by_cases c3 : vU d C l i < vU d C l b'
        · rw [if_pos (show lN (vU d C l i) < lm (vU d C l) (some b') from (lN_lt v2 v1).mpr c3), Option.bind_some, rt_some, nx_l]
          dsimp only
          rw [amin_l (p := fun _ => true) rfl e (by omega)]
          exact ⟨rfl, rfl, nI_1 i, hf.tr f5⟩
        · rw [if_neg (show ¬ lN (vU d C l i) < lm (vU d C l) (some b') from fun z => c3 ((lN_lt v2 v1).mp z)), Option.bind_some, rt_some, nx_l]
          dsimp only
          rw [amin_k e (by omega)]
          exact ⟨rfl, rfl, nI_1 i, hf.tr f5⟩
    · rintro ⟨me, le, c, w4⟩ ⟨g1, g2, g3, hf⟩
      dsimp only at g1 g2 g3 hf
      subst g1 g2 g3
      unfold l_X12_madeUp_92
      dsimp only
      rw [if_pos (show (64 : Int32) ≤ nI 64 by decide), rt_some, nx_r]
      exact ⟨rfl, rfl, hf⟩
    rintro ⟨me, le, w4⟩ ⟨g1, g2, hf⟩
    dsimp only at g1 g2 hf ⊢
    rw [eb] at g1 g2
    subst g1 g2
    have h4 := hX.fx hf
    rw [rt_bind]
    refine (m_restore o h4 _ (fun k w5 hk h6 hL5 => ?_) (fun w5 => ?_)).mono ?_
    · unfold l_X12_madeUp_136
      dsimp only
      rw [if_neg (show ¬ (64 : Int32) ≤ nI k from nI_ge (b := 64) hk (by decide)), onL_pos _ hL5, if_pos (inb_nI hk (by decide)), h6, show (64 : Int32) = nI 64 from rfl, pk_mul, nI_add, if_pos (inb_nI (n := 65536) (by omega) (by decide)), ix_nI (by omega), ix_nI (by omega)]
    · unfold l_X12_madeUp_136
      dsimp only
      rw [if_pos (show (64 : Int32) ≤ nI 64 by decide)]
    rintro w5 ⟨f5, r5⟩
    have h5 := h4.fx f5
    have hMI : MI d C w5 := by
      obtain ⟨g1, g2, g3, g4, g5, g6, -⟩ := h5
      refine ⟨g1, g2, g3, g4, fun t ht => ?_, g6⟩
      by_cases e : t = d 0 1
      · subst e; exact Or.inr r5
      · exact g5 t ht e
    have hzw : ZW d C w w5 := ⟨((q1.q.tr z2.1.q).tr z3.1).tr (fM_q (hf.tr f5)), hMI⟩
    by_cases z : x2 = 0
    · rw [if_pos z, rt_some]
      exact ⟨by rw [if_pos z]; rfl, hzw⟩
    · rw [if_neg z, rt_some]
      exact ⟨by rw [if_neg z]; rfl, hzw⟩
end Made2
