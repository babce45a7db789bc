/-! the reference: what its questions leave as it was -/
def fx (P : Nat → Nat → Prop) (w w' : Mm) : Prop := w'.2.2 = w.2.2 ∧ ∀ c k, ¬ P c k → gI w' c k = gI w c k ∧ gL w' c k = gL w c k
section Fx
variable {P Q : Nat → Nat → Prop} {w w' w'' : Mm}
theorem fx.rf : fx P w w := ⟨rfl, fun _ _ _ => ⟨rfl, rfl⟩⟩
theorem fx.tr (h : fx P w w') (h' : fx P w' w'') : fx P w w'' := ⟨h'.1.trans h.1, fun c k hc => ⟨(h'.2 c k hc).1.trans (h.2 c k hc).1, (h'.2 c k hc).2.trans (h.2 c k hc).2⟩⟩
theorem fx.sub (h : fx P w w') (hs : ∀ c k, P c k → Q c k) : fx Q w w' := ⟨h.1, fun c k hc => h.2 c k (fun q => hc (hs c k q))⟩
theorem fx.sI {c k : Nat} {v : Int32} (h : P c k) : fx P w (sI w c k v) := ⟨rfl, fun c' k' hc => ⟨if_neg (fun e : c' = c ∧ k' = k => hc (e.1 ▸ e.2 ▸ h)), rfl⟩⟩
theorem fx.sL {c k : Nat} {v : Int64} (h : P c k) : fx P w (sL w c k v) := ⟨rfl, fun c' k' hc => ⟨rfl, if_neg (fun e : c' = c ∧ k' = k => hc (e.1 ▸ e.2 ▸ h))⟩⟩
theorem fx.lay (h : fx P w w') (hl : Lay w) : Lay w' := by
  unfold Lay at hl ⊢
  rw [h.1]
  exact hl
theorem fx.I (h : fx P w w') {c k : Nat} (hc : ¬ P c k) : gI w' c k = gI w c k := (h.2 c k hc).1
theorem fx.L (h : fx P w w') {c k : Nat} (hc : ¬ P c k) : gL w' c k = gL w c k := (h.2 c k hc).2
theorem fr.x {P : Nat → Prop} (h : fr P w w') : fx (fun c _ => P c) w w' := ⟨h.1, fun c k hc => ⟨(h.2 c hc).1 k, (h.2 c hc).2 k⟩⟩
end Fx
/-- the reference's own cells -/
def inM (c : Nat) : Prop := 47 ≤ c ∧ c < 87
/-- what the reference keeps of its state itself -/
def mB (c k : Nat) : Prop := (c = 47 ∧ (k ≤ 6 ∨ k = 17)) ∨ (48 ≤ c ∧ c ≤ 62) ∨ (79 ≤ c ∧ c ≤ 82)
def qf (w w' : Mm) : Prop := fx (fun c k => inM c ∧ ¬ mB c k) w w'
/-- a question's scratch: nothing but it, and the rows of BRIEF and TALK, is written -/
def qsP (c k : Nat) : Prop := (69 ≤ c ∧ c ≤ 75) ∨ (c = 47 ∧ ((38 ≤ k ∧ k ≤ 40) ∨ (45 ≤ k ∧ k ≤ 48)))
def qs (w w' : Mm) : Prop := fx qsP w w'
theorem qs.rf {w : Mm} : qs w w := fx.rf
theorem qs.tr {w w' w'' : Mm} (h : qs w w') (h' : qs w' w'') : qs w w'' := fx.tr h h'
theorem qs.of {P : Nat → Nat → Prop} {w w' : Mm} (h : fx P w w') (hs : ∀ c k, P c k → qsP c k) : qs w w' := fx.sub h hs
theorem qs.q {w w' : Mm} (h : qs w w') : qf w w' := fx.sub h (fun c k z => by unfold qsP at z; unfold inM mB; omega)
theorem qf.rf {w : Mm} : qf w w := fx.rf
theorem qf.tr {w w' w'' : Mm} (h : qf w w') (h' : qf w' w'') : qf w w'' := fx.tr h h'
theorem qf.of {P : Nat → Nat → Prop} {w w' : Mm} (h : fx P w w') (hs : ∀ c k, P c k → inM c ∧ ¬ mB c k) : qf w w' := fx.sub h hs
theorem qf.I {w w' : Mm} (h : qf w w') {c k : Nat} (hc : mB c k) : gI w' c k = gI w c k := fx.I h (fun q => q.2 hc)
theorem qf.lay {w w' : Mm} (h : qf w w') (hl : Lay w) : Lay w' := fx.lay h hl
theorem MLx.qf {d : Dt} {w w' : Mm} (h : MLx d w) (f : qf w w') : MLx d w' := by
  obtain ⟨h1, h2, h3, h4⟩ := h
  refine ⟨?_, ?_, ?_, fun k hk => ?_⟩
  · rw [f.I (by unfold mB; omega)]; exact h1
  · rw [f.I (by unfold mB; omega)]; exact h2
  · rw [f.I (by unfold mB; omega)]; exact h3
  · rw [f.I (by unfold mB; omega), f.I (by unfold mB; omega), f.I (by unfold mB; omega), f.I (by unfold mB; omega)]; exact h4 k hk
def MBr (d : Dt) (w : Mm) : Prop := ∀ t, t < 2 ^ d 0 0 → gI w 71 t = 0 ∨ RowM w t (fun m => enc 1000000 (BF d t m))
theorem MBr.fx {d : Dt} {P : Nat → Nat → Prop} {w w' : Mm} (h : MBr d w) (f : fx P w w') (h1 : ∀ k, ¬ P 71 k) (h2 : ∀ k, ¬ P 72 k) : MBr d w' := by
  intro t ht
  rcases h t ht with q | q
  · left; rw [f.I (h1 t)]; exact q
  · right; intro m hm; rw [f.I (h2 _)]; exact q m hm
theorem RowM.fx {t : Nat} {r : Nat → Nat} {P : Nat → Nat → Prop} {w w' : Mm} (h : RowM w t r) (f : fx P w w') (h2 : ∀ k, ¬ P 72 k) : RowM w' t r := fun m hm => by rw [f.I (h2 _)]; exact h m hm
theorem RowM.B {t t' : Nat} {r : Nat → Nat} {w w' : Mm} (h : RowM w t r) (f : frB t' w w') (ht : t ≠ t') : RowM w' t r := fun m hm => by rw [f.2 _ (by omega)]; exact h m hm
theorem nar_1 : vp_nar .boolean (1 : Int32) = 1 := by rfl
theorem nar_0 : vp_nar .boolean (0 : Int32) = 0 := by rfl
section MLays
variable {d : Dt} {w : Mm} {t : Nat}
theorem m_lays_yes (ht : t < 1024) (h : ¬ gI w 71 t = 0) : f_X12_lays (nI t) w = some w := by
  unfold f_X12_lays
  rw [if_pos (inb_nI ht (by decide)), ix_nI (by omega), if_neg h]
theorem m_lays (o : OkL d) (hL : Lay w) (h : MLx d w) (hb : MBr d w) (ht : t < 2 ^ d 0 0) : Rt (f_X12_lays (nI t) w) (fun w' => fx (fun c _ => c = 71 ∨ c = 72) w w' ∧ MBr d w' ∧ ¬ gI w' 71 t = 0 ∧ RowM w' t (fun m => enc 1000000 (BF d t m))) := by
  have p10 := pow10 o.1
  have o1 := o.1
  by_cases q : gI w 71 t = 0
  · unfold f_X12_lays
    rw [if_pos (inb_nI (n := 1024) (by omega) (by decide)), ix_nI (by omega), if_pos q, nar_1, show (64 : Int32) = nI 64 from rfl, pk_mul, rt_bind]
    have hf0 : fx (fun c _ => c = 71 ∨ c = 72) w (sI w 71 t 1) := fx.sI (Or.inl rfl)
    refine Rt.mono (Q := fun w1 => frB t (sI w 71 t 1) w1 ∧ RowM w1 t (fun _ => 1000000)) (rt_for (fun k s => s.1 = nI k ∧ frB t (sI w 71 t 1) s.2 ∧ ∀ m, m < k → gI s.2 72 (64 * t + m) = nI 1000000) 64 ?_ ?_ ⟨rfl, frB.rf, fun m hm => absurd hm (Nat.not_lt_zero m)⟩ (by decide)) ?_
    · rintro k ⟨c, w1⟩ hk ⟨h1, hf, hr⟩
      dsimp only at h1 hf hr
      subst h1
      unfold l_X12_lays_24
      dsimp only
      rw [if_neg (show ¬ (64 : Int32) ≤ nI k from nI_ge (b := 64) hk (by decide)), nI_add, if_pos (inb_nI (by omega) (by decide)), ix_nI (by omega), rt_onL, rt_some, nx_l]
      refine ⟨hf.1.lay (hf0.lay hL), nI_1 k, hf.tr (frB.set hk), fun m hm => ?_⟩
      dsimp only
      rw [gI_sI]
      by_cases e : m = k
      · subst e; rw [if_pos ⟨rfl, rfl⟩]; rfl
      · rw [if_neg (by omega)]; exact hr m (by omega)
    · rintro ⟨c, w1⟩ ⟨h1, hf, hr⟩
      dsimp only at h1 hf hr
      subst h1
      unfold l_X12_lays_24
      dsimp only
      rw [if_pos (show (64 : Int32) ≤ nI 64 by decide), rt_some, nx_r]
      exact ⟨hf, hr⟩
    rintro w1 ⟨f1, r1⟩
    rw [rt_bind]
    have hq1 : ∀ w2, frB t (sI w 71 t 1) w2 → fx (fun c _ => c = 71 ∨ c = 72) w w2 := fun w2 f2 => hf0.tr (f2.1.x.sub (fun c _ q => Or.inr q))
    have hqm : ∀ w2, frB t (sI w 71 t 1) w2 → MLx d w2 := fun w2 f2 => h.qf (qf.of (hq1 w2 f2) (fun c k q => by unfold inM mB; omega))
    refine Rt.mono (Q := fun w2 => frB t (sI w 71 t 1) w2 ∧ ∃ r, RowM w2 t r ∧ (∀ m, m < 64 → r m ≤ 1000000) ∧ (∀ m, m < 64 → r m < 1000000 → Gd d t m (r m)) ∧ ∀ m c, Gd d t m c → r m ≤ c) (rt_for (fun k s => s.1 = nI k ∧ frB t (sI w 71 t 1) s.2 ∧ ∃ r, RowM s.2 t r ∧ (∀ m, m < 64 → r m ≤ 1000000) ∧ (∀ m, m < 64 → r m < 1000000 → Gd d t m (r m)) ∧ ∀ i, i < k → t.testBit i = true → d 1 i = 0 → r (d 2 i) ≤ d 3 i) (d 0 0) ?_ ?_ ⟨rfl, f1, _, r1, fun _ _ => Nat.le_refl _, fun _ _ q => absurd q (by omega), fun m hm => absurd hm (Nat.not_lt_zero m)⟩ (by omega)) ?_
    · rintro k ⟨c, w2⟩ hk ⟨h1, hf, r, hr, hr1, hr2, hr3⟩
      dsimp only at h1 hf hr
      subst h1
      have m2 := hqm w2 hf
      have hd := o.2.2.1 k (by omega)
      unfold l_X12_lays_49
      dsimp only
      rw [rt_onL]
      refine ⟨(hq1 w2 hf).lay hL, ?_⟩
      rw [m2.1, if_neg (nI_ge hk (by omega)), has_N (by omega) (by omega), if_pos (inb_nI (n := 10) (by omega) (by decide)), ix_nI (by omega), (m2.2.2.2 k (by omega)).1, (m2.2.2.2 k (by omega)).2.1, (m2.2.2.2 k (by omega)).2.2.1, nI_add, if_pos (inb_nI (n := 65536) (by omega) (by decide)), ix_nI (by omega), hr _ hd.2.1]
      simp only [bI_0]
      have hr1' := hr1 _ hd.2.1
      by_cases p1 : t.testBit k = true
      · rw [if_neg (by rw [p1]; decide)]
        by_cases p2 : d 1 k = 0
        · rw [p2, if_pos (by rfl)]
          by_cases q2 : r (d 2 k) ≤ d 3 k
          · rw [if_pos (nI_le q2 (by omega)), Option.bind_some, rt_some, nx_l]
            refine ⟨nI_1 k, hf, r, hr, hr1, hr2, fun i hi b1 b2 => ?_⟩
            by_cases e : i = k
            · subst e; exact q2
            · exact hr3 i (by omega) b1 b2
          · rw [if_neg (nI_ge (by omega) (by omega)), Option.bind_some, rt_some, nx_l]
            refine ⟨nI_1 k, hf.tr (frB.set hd.2.1), fun j => if j = d 2 k then d 3 k else r j, fun m hm => ?_, fun m hm => ?_, fun m hm => ?_, fun i hi b1 b2 => ?_⟩
            · dsimp only
              rw [gI_sI]
              by_cases e : m = d 2 k
              · subst e; rw [if_pos ⟨rfl, rfl⟩, if_pos rfl]
              · rw [if_neg (by omega), if_neg e]; exact hr m hm
            · dsimp only
              split
              · omega
              · exact hr1 m hm
            · dsimp only
              split
              · rename_i e; intro _; exact ⟨k, by omega, p1, p2, e.symm, rfl⟩
              · exact hr2 m hm
            · dsimp only
              by_cases e : i = k
              · subst e; rw [if_pos rfl]; exact Nat.le_refl _
              · have := hr3 i (by omega) b1 b2
                split
                · rename_i e2; rw [e2] at this; omega
                · exact this
        · rw [if_neg (nI_ne0 (by omega) (by omega)), Option.bind_some, rt_some, nx_l]
          refine ⟨nI_1 k, hf, r, hr, hr1, hr2, fun i hi b1 b2 => ?_⟩
          by_cases e : i = k
          · subst e; exact absurd b2 p2
          · exact hr3 i (by omega) b1 b2
      · rw [if_pos (bool_f p1), Option.bind_some, rt_some, nx_l]
        refine ⟨nI_1 k, hf, r, hr, hr1, hr2, fun i hi b1 b2 => ?_⟩
        by_cases e : i = k
        · subst e; exact absurd b1 p1
        · exact hr3 i (by omega) b1 b2
    · rintro ⟨c, w2⟩ ⟨h1, hf, r, hr, hr1, hr2, hr3⟩
      dsimp only at h1 hf hr
      subst h1
      unfold l_X12_lays_49
      dsimp only
      rw [rt_onL, (hqm w2 hf).1, if_pos (nI_le (Nat.le_refl _) (by omega)), rt_some, nx_r]
      refine ⟨(hq1 w2 hf).lay hL, hf, r, hr, hr1, hr2, ?_⟩
      rintro m c ⟨i, b1, b2, b3, rfl, rfl⟩
      exact hr3 i (tb_lt ht b2) b2 b3
    rintro w2 ⟨f2, r, hr, hr1, hr2, hr3⟩
    have m2 := hqm w2 f2
    rw [rt_onL]
    refine ⟨(hq1 w2 f2).lay hL, ?_⟩
    rw [show (1 : Int32) = nI 1 from rfl, m_joinOf o m2 (by decide) ht, Option.bind_some, show (2 : Int32) = nI 2 from rfl, m_joinOf o m2 (by decide) ht, Option.bind_some, show (3 : Int32) = nI 3 from rfl, m_joinOf o m2 (by decide) ht, Option.bind_some, rt_bind]
    refine (m_relax (G := Gd d t) (fun m c g => Gd_ok o g) (by omega) ((hq1 w2 f2).lay hL) (jl_le o) (jl_le o) (jl_le o) hr1 (fun m hm q => Say.gen (hr2 m hm q)) hr3 hr).mono ?_
    rintro w3 ⟨f3, r3⟩
    rw [rt_some]
    have f03 := f2.tr f3
    have h71 : ¬ gI w3 71 t = 0 := by
      rw [f03.1.I (by decide), gI_sI, if_pos ⟨rfl, rfl⟩]
      decide
    refine ⟨hq1 w3 f03, fun t' ht' => ?_, h71, r3⟩
    by_cases e : t' = t
    · subst e; exact Or.inr r3
    · rcases hb t' ht' with z | z
      · left
        rw [f03.1.I (by decide), gI_sI, if_neg (by omega)]
        exact z
      · right
        exact RowM.B (t' := t) (w := sI w 71 t 1) (fun m hm => by rw [gI_sI, if_neg (by omega)]; exact z m hm) f03 e
  · rw [m_lays_yes (by omega) q, rt_some]
    exact ⟨fx.rf, hb, q, (hb t ht).resolve_left q⟩
theorem m_briefOf (o : OkL d) (hL : Lay w) (h : MLx d w) (hb : MBr d w) (ht : t < 2 ^ d 0 0) {m : Nat} (hm : m < 64) : Rt (f_X12_briefOf (nI t) (nI m) w) (fun p => p.1 = nI (enc 1000000 (BF d t m)) ∧ fx (fun c _ => c = 71 ∨ c = 72) w p.2 ∧ MBr d p.2 ∧ ¬ gI p.2 71 t = 0) := by
  have p10 := pow10 o.1
  unfold f_X12_briefOf
  rw [rt_bind]
  refine (m_lays o hL h hb ht).mono ?_
  rintro w1 ⟨f1, b1, n1, r1⟩
  rw [rt_onL, show (64 : Int32) = nI 64 from rfl, pk_mul, nI_add, if_pos (inb_nI (n := 65536) (by omega) (by decide)), ix_nI (by omega), rt_some]
  exact ⟨f1.lay hL, r1 m hm, f1, b1, n1⟩
end MLays
