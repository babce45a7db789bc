/-! the reference's TALK -/
def MTk (d : Dt) (C : Ct) (w : Mm) : Prop := ∀ t, t < 2 ^ d 0 0 → gI w 73 t = 0 ∨ (∀ s, s < 4 → gL w 74 (4 * t + s) = lN (tk d C t s)) ∧ gI w 75 t = nI (mu d C t)
def Ok (d : Dt) (C : Ct) : Prop := OkL d ∧ OkM d ∧ OkC d C
def MI (d : Dt) (C : Ct) (w : Mm) : Prop := Lay w ∧ MLx d w ∧ MDm d w ∧ MNr d C w ∧ MBr d w ∧ MTk d C w
theorem MI.q {d : Dt} {C : Ct} {w w' : Mm} (h : MI d C w) (f : qf w w') (hb : MBr d w') (ht : MTk d C w') : MI d C w' := ⟨f.lay h.1, h.2.1.qf f, h.2.2.1.qf f, h.2.2.2.1.qf f, hb, ht⟩
theorem MTk.fx {d : Dt} {C : Ct} {P : Nat → Nat → Prop} {w w' : Mm} (h : MTk d C w) (f : fx P w w') (h1 : ∀ k, ¬ P 73 k) (h2 : ∀ k, ¬ P 74 k) (h3 : ∀ k, ¬ P 75 k) : MTk d C w' := by
  intro t ht
  rcases h t ht with q | ⟨q1, q2⟩
  · left; rw [f.I (h1 t)]; exact q
  · right; exact ⟨fun s hs => by rw [f.L (h2 _)]; exact q1 s hs, by rw [f.I (h3 _)]; exact q2⟩
/-- a question that leaves the rows of TALK alone -/
theorem MI.x {d : Dt} {C : Ct} {P : Nat → Nat → Prop} {w w' : Mm} (h : MI d C w) (f : fx P w w') (hP : ∀ c k, P c k → qsP c k ∧ c ≠ 73 ∧ c ≠ 74 ∧ c ≠ 75) (hb : MBr d w') : qs w w' ∧ MI d C w' := by
  have q : qs w w' := qs.of f (fun c k z => (hP c k z).1)
  exact ⟨q, h.q q.q hb (h.2.2.2.2.2.fx f (fun k z => (hP 73 k z).2.1 rfl) (fun k z => (hP 74 k z).2.2.1 rfl) (fun k z => (hP 75 k z).2.2.2 rfl))⟩
/-- .. and the rows of BRIEF too -/
theorem MI.y {d : Dt} {C : Ct} {P : Nat → Nat → Prop} {w w' : Mm} (h : MI d C w) (f : fx P w w') (hP : ∀ c k, P c k → inM c ∧ ¬ mB c k ∧ c ≠ 73 ∧ c ≠ 74 ∧ c ≠ 75 ∧ c ≠ 71 ∧ c ≠ 72) : qf w w' ∧ MI d C w' := by
  have q : qf w w' := qf.of f (fun c k z => ⟨(hP c k z).1, (hP c k z).2.1⟩)
  exact ⟨q, h.q q (h.2.2.2.2.1.fx f (fun k z => (hP 71 k z).2.2.2.2.2.1 rfl) (fun k z => (hP 72 k z).2.2.2.2.2.2 rfl)) (h.2.2.2.2.2.fx f (fun k z => (hP 73 k z).2.2.1 rfl) (fun k z => (hP 74 k z).2.2.2.1 rfl) (fun k z => (hP 75 k z).2.2.2.2.1 rfl))⟩
def scU (t c k : Nat) : Prop := scT c k ∨ (c = 73 ∧ k = t) ∨ (c = 75 ∧ k = t) ∨ (c = 74 ∧ 4 * t ≤ k ∧ k < 4 * t + 4)
theorem scT_n {c k : Nat} (h : c ≠ 69) (h1 : c ≠ 70) (h2 : c ≠ 71) (h3 : c ≠ 72) (h4 : c ≠ 47) : ¬ scT c k := by unfold scT scS; omega
section MTalk
variable {d : Dt} {C : Ct} {w : Mm} {t m : Nat}
theorem m_sayable (o : Ok d C) (h : MI d C w) (ht : t < 2 ^ d 0 0) (hm : m < 64) : Rt (f_X12_sayableOf (nI t) (nI m) w) (fun p => p.1 = nI (enc 1000000 (pz d C t m).1) ∧ gI p.2 47 48 = nI (pz d C t m).2 ∧ qs w p.2 ∧ MI d C p.2) := by
  refine (m_sayableOf o.1 o.2.2 h.1 h.2.1 h.2.2.2.2.1 h.2.2.2.1 ht hm).mono ?_
  rintro p ⟨e1, e2, f, b⟩
  obtain ⟨q1, q2⟩ := h.x f (fun c k z => by unfold scT scS at z; unfold qsP; omega) b
  exact ⟨e1, e2, q1, q2⟩
theorem m_talksBy (o : Ok d C) (h : MI d C w) (ht : t < 2 ^ d 0 0) : Rt (f_X12_talksBy (nI t) w) (fun w' => qs w w' ∧ MI d C w' ∧ (∀ s, s < 4 → gL w' 74 (4 * t + s) = lN (tk d C t s)) ∧ gI w' 75 t = nI (mu d C t) ∧ ¬ gI w' 73 t = 0) := by
  have p10 := pow10 o.1.1
  obtain ⟨hL, hx, hd, hn, hb, hk⟩ := id h
  unfold f_X12_talksBy
  rw [if_pos (inb_nI (n := 1024) (by omega) (by decide)), ix_nI (by omega)]
  by_cases q : gI w 73 t = 0
  · rw [if_pos q, nar_1, rt_bind]
    have h0 : fx (scU t) w (sI (sI w 73 t 1) 75 t 0) := (fx.sI (by unfold scU; omega)).tr (fx.sI (by unfold scU; omega))
    have b0 : MBr d (sI (sI w 73 t 1) 75 t 0) := hb.fx (P := fun c _ => c = 73 ∨ c = 75) ((fx.sI (Or.inl rfl)).tr (fx.sI (Or.inr rfl))) (fun k => by omega) (fun k => by omega)
    have e73 : gI (sI (sI w 73 t 1) 75 t 0) 73 t = 1 := by rw [gI_sI, if_neg (by omega), gI_sI, if_pos ⟨rfl, rfl⟩]
    have e75 : gI (sI (sI w 73 t 1) 75 t 0) 75 t = 0 := by rw [gI_sI, if_pos ⟨rfl, rfl⟩]
    have qq : ∀ w', fx (scU t) w w' → qf w w' := fun w' f => qf.of f (fun c k z => by unfold scU scT scS at z; unfold inM mB; omega)
    refine Rt.mono (Q := fun w1 => fx (scU t) w w1 ∧ MBr d w1 ∧ (∀ s, s < 4 → gL w1 74 (4 * t + s) = 0) ∧ gI w1 75 t = 0 ∧ gI w1 73 t = 1) (rt_for (fun k s => s.1 = nI k ∧ fx (fun c j => c = 74 ∧ 4 * t ≤ j ∧ j < 4 * t + 4) (sI (sI w 73 t 1) 75 t 0) s.2 ∧ ∀ j, j < k → gL s.2 74 (4 * t + j) = 0) 4 ?_ ?_ ⟨rfl, fx.rf, fun m hm => absurd hm (Nat.not_lt_zero m)⟩ (by decide)) ?_
    · rintro k ⟨c, w1⟩ hk ⟨h1, hf, hr⟩
      dsimp only at h1 hf hr
      subst h1
      unfold l_X12_talksBy_26
      dsimp only
      rw [if_neg (show ¬ (4 : Int32) ≤ nI k from nI_ge (b := 4) hk (by decide)), show (4 : Int32) = nI 4 from rfl, pk_mul, nI_add, if_pos (inb_nI (by omega) (by decide)), ix_nI (by omega), rt_onL, rt_some, nx_l]
      refine ⟨hf.lay (h0.lay hL), nI_1 k, hf.tr (fx.sL (by omega)), fun m hm => ?_⟩
      dsimp only
      rw [gL_sL]
      by_cases e : m = k
      · rw [if_pos ⟨rfl, by rw [e]⟩]
      · rw [if_neg (by omega)]; exact hr m (by omega)
    · rintro ⟨c, w1⟩ ⟨h1, hf, hr⟩
      dsimp only at h1 hf hr
      subst h1
      unfold l_X12_talksBy_26
      dsimp only
      rw [if_pos (show (4 : Int32) ≤ nI 4 by decide), rt_some, nx_r]
      exact ⟨h0.tr (hf.sub (fun c k z => by unfold scU; omega)), b0.fx hf (fun k => by omega) (fun k => by omega), hr, by rw [hf.I (by omega)]; exact e75, by rw [hf.I (by omega)]; exact e73⟩
    rintro w1 ⟨f1, b1, z1, n1, y1⟩
    rw [rt_bind]
    have o3 := o.2.1.1
    refine Rt.mono (Q := fun w2 => fx (scU t) w w2 ∧ MBr d w2 ∧ (∀ s, s < 4 → gL w2 74 (4 * t + s) = lN (tkB d C (BF d t) s (d 0 3))) ∧ gI w2 75 t = nI (muR d C t (d 0 3)) ∧ gI w2 73 t = 1) (rt_for (fun i s => s.1 = nI i ∧ fx (scU t) w s.2 ∧ MBr d s.2 ∧ (∀ j, j < 4 → gL s.2 74 (4 * t + j) = lN (tkB d C (BF d t) j i)) ∧ gI s.2 75 t = nI (muR d C t i) ∧ gI s.2 73 t = 1) (d 0 3) ?_ ?_ ⟨rfl, f1, b1, z1, n1, y1⟩ (by omega)) ?_
    · rintro i ⟨c, w2⟩ hi ⟨h1, hf, hb2, hs2, hm2, hy2⟩
      dsimp only at h1 hf hb2 hs2 hm2 hy2
      subst h1
      have hi24 : i < 24 := by omega
      have q2 := qq w2 hf
      have hL2 := q2.lay hL
      have d2 := hd.qf q2
      have hr := o.2.1.2.2.2 i hi24
      unfold l_X12_talksBy_50
      dsimp only
      rw [rt_onL, d2.1, if_neg (nI_ge hi (by omega)), if_pos (inb_nI hi24 (by decide)), ix_nI (by omega), (d2.2.2.2 i hi24).2.1, rt_bind]
      refine ⟨hL2, (m_sayableOf o.1 o.2.2 hL2 (hx.qf q2) hb2 (hn.qf q2) ht hr.2.1).mono ?_⟩
      rintro ⟨x, w3⟩ ⟨e1, e2, f3, b3⟩
      dsimp only at e1 e2 f3 b3 ⊢
      subst e1
      have f03 : fx (scU t) w w3 := hf.tr (f3.sub (fun c k z => Or.inl z))
      have q3 := qq w3 f03
      have d3 := hd.qf q3
      rw [rt_onL, (d3.2.2.2 i hi24).1, (d3.2.2.2 i hi24).2.2.1, (d3.2.2.2 i hi24).2.2.2, d3.2.1, show (4 : Int32) = nI 4 from rfl, pk_mul, nI_add, if_pos (inb_nI (n := 4096) (by omega) (by decide)), ix_nI (by omega), ix_nI (by omega)]
      refine ⟨q3.lay hL, ?_⟩
      have hle : enc 1000000 (pz d C t (d 7 i)).1 ≤ 1000000 := enc_le (fun b e => by have := sy_le (fun j b e => BF_le o.1 e) o.2.2.1 64 b e; omega)
      have v1 : (if nI (d 0 4) ≤ nI (enc 1000000 (pz d C t (d 7 i)).1) then some (nI (d 0 4)) else some (nI (enc 1000000 (pz d C t (d 7 i)).1))) = some (nI (min (enc 1000000 (pz d C t (d 7 i)).1) (d 0 4))) := by
        have := o.2.1.2.1
        by_cases z : d 0 4 ≤ enc 1000000 (pz d C t (d 7 i)).1
        · rw [if_pos (nI_le z (by omega)), Nat.min_eq_right z]
        · rw [if_neg (nI_ge (by omega) (by omega)), Nat.min_eq_left (by omega)]
      have v2 : mg (if nI (d 9 i) ≤ 0 then some (.inl ()) else if nI (enc 1000000 (pz d C t (d 7 i)).1) ≤ nI (d 9 i) then some (.inl ()) else some (.inr ((1 : Int32) <<< (nI i &&& 31)))) (fun _ : Unit => some (0 : Int32)) = some (nI (if 0 < d 9 i ∧ d 9 i < enc 1000000 (pz d C t (d 7 i)).1 then 2 ^ i else 0)) := by
        by_cases z : d 9 i = 0
        · rw [z, if_pos (by decide), if_neg (by omega)]; rfl
        · rw [if_neg (nI_nle (by omega) (by omega))]
          by_cases z2 : enc 1000000 (pz d C t (d 7 i)).1 ≤ d 9 i
          · rw [if_pos (nI_le z2 (by omega)), if_neg (by omega)]; rfl
          · rw [if_neg (nI_ge (by omega) (by omega)), if_pos (by omega), sh1_N (by omega)]; rfl
      rw [v1, Option.bind_some, if_pos (inb_nI (n := 1024) (by omega) (by decide)), v2]
      simp only [Option.bind_some, rt_some, nx_l]
      have t74 : ∀ k, gL w3 74 k = gL w2 74 k := fun k => f3.L (scT_n (by decide) (by decide) (by decide) (by decide) (by decide))
      have t75 : ∀ k, gI w3 75 k = gI w2 75 k := fun k => f3.I (scT_n (by decide) (by decide) (by decide) (by decide) (by decide))
      refine ⟨nI_1 i, (f03.tr (fx.sL (by unfold scU; omega))).tr (fx.sI (by unfold scU; omega)), b3.fx (P := fun c _ => c = 74 ∨ c = 75) ((fx.sL (Or.inl rfl)).tr (fx.sI (Or.inr rfl))) (fun k => by omega) (fun k => by omega), fun j hj => ?_, ?_, ?_⟩
      · rw [gL_sI, gL_sL, t74, t74, hs2 _ hr.1]
        unfold tkB
        rw [fb_sm_succ]
        by_cases e : d 6 i = j
        · subst e
          rw [if_pos ⟨rfl, rfl⟩, if_pos rfl, nI_l (by omega), nI_l (by have := o.2.1.2.1; omega), lN_mul, lN_add]
          rfl
        · rw [if_neg (by omega), if_neg e, hs2 j hj]; rfl
      · rw [gI_sI, if_pos ⟨rfl, rfl⟩, t75, hm2, fa_or]; rfl
      · rw [gI_sI, if_neg (by omega), gI_sL, f3.I (scT_n (by decide) (by decide) (by decide) (by decide) (by decide))]; exact hy2
    · rintro ⟨c, w2⟩ ⟨h1, hf, hb2, hs2, hm2, hy2⟩
      dsimp only at h1 hf hb2 hs2 hm2 hy2
      subst h1
      have q2 := qq w2 hf
      unfold l_X12_talksBy_50
      dsimp only
      rw [rt_onL, (hd.qf q2).1, if_pos (nI_le (Nat.le_refl _) (by omega)), rt_some, nx_r]
      exact ⟨q2.lay hL, hf, hb2, hs2, hm2, hy2⟩
    rintro w2 ⟨f2, b2, s2, n2, y2⟩
    rw [rt_some]
    have q2 := qq w2 f2
    refine ⟨qs.of f2 (fun c k z => by unfold scU scT scS at z; unfold qsP; omega), h.q q2 b2 (fun t' ht' => ?_), s2, n2, by rw [y2]; decide⟩
    by_cases e : t' = t
    · subst e; exact Or.inr ⟨s2, n2⟩
    · have n73 : ¬ scU t 73 t' := by unfold scU scT scS; omega
      have n75 : ¬ scU t 75 t' := by unfold scU scT scS; omega
      rcases hk t' ht' with z | ⟨z1, z2⟩
      · left; rw [f2.I n73]; exact z
      · right; exact ⟨fun s hs => by rw [f2.L (by unfold scU scT scS; omega)]; exact z1 s hs, by rw [f2.I n75]; exact z2⟩
  · rw [if_neg q, rt_some]
    exact ⟨qs.rf, h, ((hk t ht).resolve_left q).1, ((hk t ht).resolve_left q).2, q⟩
theorem m_talkBy (o : Ok d C) (h : MI d C w) (ht : t < 2 ^ d 0 0) {s : Nat} (hs : s < 4) : Rt (f_X12_talkBy (nI t) (nI s) w) (fun p => p.1 = lN (tk d C t s) ∧ qs w p.2 ∧ MI d C p.2 ∧ ¬ gI p.2 73 t = 0) := by
  have p10 := pow10 o.1.1
  unfold f_X12_talkBy
  rw [rt_bind]
  refine (m_talksBy o h ht).mono ?_
  rintro w1 ⟨q1, h1, s1, -, y1⟩
  rw [rt_onL, show (4 : Int32) = nI 4 from rfl, pk_mul, nI_add, if_pos (inb_nI (n := 4096) (by omega) (by decide)), ix_nI (by omega), rt_some]
  exact ⟨h1.1, s1 s hs, q1, h1, y1⟩
theorem m_mustsOf (o : Ok d C) (h : MI d C w) (ht : t < 2 ^ d 0 0) : Rt (f_X12_mustsOf (nI t) w) (fun p => p.1 = nI (mu d C t) ∧ qs w p.2 ∧ MI d C p.2) := by
  have p10 := pow10 o.1.1
  unfold f_X12_mustsOf
  rw [rt_bind]
  refine (m_talksBy o h ht).mono ?_
  rintro w1 ⟨q1, h1, -, n1, -⟩
  rw [rt_onL, if_pos (inb_nI (n := 1024) (by omega) (by decide)), ix_nI (by omega), rt_some]
  exact ⟨h1.1, n1, q1, h1⟩
theorem m_talkOf (o : Ok d C) (h : MI d C w) (ht : t < 2 ^ d 0 0) : Rt (f_X12_talkOf (nI t) w) (fun p => p.1 = lN (tkA d C t) ∧ qs w p.2 ∧ MI d C p.2 ∧ ¬ gI p.2 73 t = 0) := by
  unfold f_X12_talkOf
  rw [rt_bind]
  refine Rt.mono (rt_for (Q := fun p => p.1 = lN (tkA d C t) ∧ qs w p.2 ∧ MI d C p.2 ∧ ¬ gI p.2 73 t = 0) (fun k s => s.1 = lN (fb_sm (fun j => tk d C t j) k) ∧ s.2.1 = nI k ∧ qs w s.2.2 ∧ MI d C s.2.2 ∧ (0 < k → ¬ gI s.2.2 73 t = 0)) 4 ?_ ?_ ⟨rfl, rfl, qs.rf, h, fun q => absurd q (by decide)⟩ (by decide)) (fun p hp => by rw [rt_some]; exact hp)
  · rintro k ⟨a, c, w1⟩ hk ⟨h1, h2, hf, hm, -⟩
    dsimp only at h1 h2 hf hm
    subst h1 h2
    unfold l_X12_talkOf_5
    dsimp only
    rw [if_neg (show ¬ (4 : Int32) ≤ nI k from nI_ge (b := 4) hk (by decide)), rt_onL, rt_bind]
    refine ⟨hm.1, (m_talkBy o hm ht hk).mono ?_⟩
    rintro ⟨a, w2⟩ ⟨e1, f2, m2, y2⟩
    dsimp only at e1 f2 m2 y2 ⊢
    subst e1
    rw [rt_some, nx_l]
    exact ⟨by rw [lN_add]; rfl, nI_1 k, hf.tr f2, m2, fun _ => y2⟩
  · rintro ⟨a, c, w1⟩ ⟨h1, h2, hf, hm, hy⟩
    dsimp only at h1 h2 hf hm hy
    subst h1 h2
    unfold l_X12_talkOf_5
    dsimp only
    rw [if_pos (show (4 : Int32) ≤ nI 4 by decide), rt_some, nx_r]
    refine ⟨?_, hf, hm, hy (by decide)⟩
    have := tk_sum o.2.1 (C := C) (B := BF d t) (d 0 3) o.2.1.1
    unfold tkA tk
    rw [← this]
end MTalk
