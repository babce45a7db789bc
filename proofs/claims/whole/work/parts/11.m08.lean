/-! the speech of one tongue -/
/-- the words of a tongue, and one that a child made up (of a length above 9: none) -/
def Gc (d : Dt) (t cm cl : Nat) : Nat → Nat → Prop := fun m c => Gd d t m c ∨ (cl ≤ 9 ∧ m = cm ∧ c = cl)
/-- BRIEF with a word that a child made up -/
noncomputable def BC (d : Dt) (t cm cl m : Nat) : Option Nat := bf (Say (Gc d t cm cl) (jl d 1 t) (jl d 2 t) (jl d 3 t)) m
theorem BC_far {d : Dt} {t cm cl m : Nat} (h : 9 < cl) : BC d t cm cl m = BF d t m := by
  unfold BC BF
  have : Gc d t cm cl = Gd d t := by
    funext m c
    exact propext ⟨fun q => q.elim id (fun q => absurd q.1 (by omega)), fun q => Or.inl q⟩
  rw [this]
theorem Gc_ok {d : Dt} (o : OkL d) {t cm cl m c : Nat} (hcm : cm < 64) (h : Gc d t cm cl m c) : m < 64 ∧ c ≤ 9 := by
  rcases h with h | ⟨h, rfl, rfl⟩
  · exact Gd_ok o h
  · exact ⟨hcm, h⟩
theorem BC_le {d : Dt} (o : OkL d) {t cm cl m b : Nat} (hcm : cm < 64) (e : BC d t cm cl m = some b) : b ≤ 3000 := bf_le (fun _ _ h => Gc_ok o hcm h) (jl_le o) (jl_le o) (jl_le o) e
theorem CLx.fr {d : Dt} {P : Nat → Prop} {w w' : Mm} (h : CLx d w) (f : fr P w w') (hP : ∀ c, c ≤ 5 → ¬ P c) : CLx d w' := by
  obtain ⟨h1, h2, h3, h4⟩ := h
  have q : ∀ c k, c ≤ 5 → gI w' c k = gI w c k := fun c k hc => f.I (hP c hc) k
  refine ⟨?_, ?_, ?_, fun k hk => ?_⟩
  · rw [q 1 4 (by omega)]; exact h1
  · rw [q 1 5 (by omega)]; exact h2
  · rw [q 1 6 (by omega)]; exact h3
  · rw [q 2 k (by omega), q 3 k (by omega), q 4 k (by omega), q 5 k (by omega)]; exact h4 k hk
/-- the speech at the cell a is that of the tongue t (with a child's word) -/
def Spd (d : Dt) (t cm cl a : Nat) (w : Mm) : Prop := gI w a 2 = nI t ∧ gI w a 3 = nI (jl d 1 t) ∧ gI w a 4 = nI (jl d 2 t) ∧ gI w a 5 = nI (jl d 3 t) ∧ Row w (a + 1) (fun m => enc 268435456 (BC d t cm cl m))
section Solve
variable {d : Dt} {w : Mm} {a t cm cl : Nat}
theorem x7_solve (o : OkL d) (hL : Lay w) (h : CLx d w) (ha : 24 ≤ a) (hsp : isSp w a = true) (ht : t < 2 ^ d 0 0) (hcm : cm < 64) (hcl : cl ≤ 9 ∨ cl = 268435456) : Rt (f_X7_solve a (nI t) (nI cm) (nI cl) w) (fun w' => fr (fun c => c = a ∨ c = a + 1) w w' ∧ Spd d t cm cl a w' ∧ gL w' a 7 = 0 ∧ gI w' a 8 = gI w a 8 ∧ gL w' a 9 = gL w a 9) := by
  have p10 := pow10 o.1
  have o1 := o.1
  unfold f_X7_solve
  rw [rt_bind]
  have hP : ∀ c, c ≤ 5 → ¬ (c = a ∨ c = a + 1) := fun c hc => by omega
  -- all FAR
  refine Rt.mono (Q := fun w1 => fr (fun c => c = a + 1) (sL (sI w a 2 (nI t)) a 7 0) w1 ∧ Row w1 (a + 1) (fun _ => 268435456)) (rt_for (fun k s => s.1 = nI k ∧ fr (fun c => c = a + 1) (sL (sI w a 2 (nI t)) a 7 0) s.2 ∧ ∀ m, m < k → gI s.2 (a + 1) m = nI 268435456) 64 ?_ ?_ ⟨rfl, fr.rf, fun m hm => absurd hm (Nat.not_lt_zero m)⟩ (by decide)) ?_
  · rintro k ⟨c, w1⟩ hk ⟨h1, hf, hr⟩
    dsimp only at h1 hf hr
    subst h1
    unfold l_X7_solve_13
    dsimp only
    rw [if_neg (show ¬ (64 : Int32) ≤ nI k from nI_ge (b := 64) hk (by decide)), if_pos (by rw [hf.sp]; exact hsp), if_pos (inb_nI hk (by decide)), rt_some, nx_l, ix_nI (by omega)]
    refine ⟨nI_1 k, hf.tr (fr.sI rfl), fun m hm => ?_⟩
    dsimp only
    rw [gI_sI]
    by_cases e : m = k
    · rw [if_pos ⟨rfl, e⟩]; rfl
    · rw [if_neg (by omega)]; exact hr m (by omega)
  · rintro ⟨c, w1⟩ ⟨h1, hf, hr⟩
    dsimp only at h1 hf hr
    subst h1
    unfold l_X7_solve_13
    dsimp only
    rw [if_pos (show (64 : Int32) ≤ nI 64 by decide), rt_some, nx_r]
    exact ⟨hf, hr⟩
  rintro w1 ⟨f1, r1⟩
  have f01 : fr (fun c => c = a ∨ c = a + 1) w w1 := ((fr.sI (Or.inl rfl)).tr (fr.sL (Or.inl rfl))).tr (f1.sub (fun c q => Or.inr q))
  have g12 : gI w1 a 2 = nI t := by
    rw [f1.I (show ¬ a = a + 1 by omega), gI_sL, gI_sI, if_pos ⟨rfl, rfl⟩]
  have g17 : gL w1 a 7 = 0 := by
    rw [f1.L (show ¬ a = a + 1 by omega), gL_sL, if_pos ⟨rfl, rfl⟩]
  have g18 : gI w1 a 8 = gI w a 8 := by
    rw [f1.I (show ¬ a = a + 1 by omega), gI_sL, gI_sI, if_neg (by omega)]
  have g19 : gL w1 a 9 = gL w a 9 := by
    rw [f1.L (show ¬ a = a + 1 by omega), gL_sL, if_neg (by omega), gL_sI]
  have c1 : CLx d w1 := h.fr f01 hP
  have l1 : Lay w1 := f01.lay hL
  have s1 : isSp w1 a = true := by rw [f01.sp]; exact hsp
  rw [rt_bind]
  -- the words
  refine Rt.mono (Q := fun w2 => fr (fun c => c = a + 1) w1 w2 ∧ ∃ r, Row w2 (a + 1) r ∧ (∀ m, m < 64 → r m ≤ 268435456) ∧ (∀ m, m < 64 → r m < 268435456 → Gd d t m (r m)) ∧ ∀ m c, Gd d t m c → r m ≤ c) (rt_for (fun k s => s.1 = nI k ∧ fr (fun c => c = a + 1) w1 s.2 ∧ ∃ r, Row s.2 (a + 1) r ∧ (∀ m, m < 64 → r m ≤ 268435456) ∧ (∀ m, m < 64 → r m < 268435456 → Gd d t m (r m)) ∧ ∀ i, i < k → t.testBit i = true → d 1 i = 0 → r (d 2 i) ≤ d 3 i) 10 ?_ ?_ ⟨rfl, fr.rf, _, r1, fun _ _ => Nat.le_refl _, fun _ _ q => absurd q (by omega), fun m hm => absurd hm (Nat.not_lt_zero m)⟩ (by decide)) ?_
  · rintro k ⟨c, w2⟩ hk ⟨h1, hf, r, hr, hr1, hr2, hr3⟩
    dsimp only at h1 hf hr
    subst h1
    have c2 : CLx d w2 := c1.fr hf (fun c hc => by omega)
    unfold l_X7_solve_38
    dsimp only
    rw [if_neg (show ¬ (10 : Int32) ≤ nI k from nI_ge (b := 10) hk (by decide)), if_pos (by rw [hf.sp]; exact s1), hf.I (show ¬ a = a + 1 by omega), g12, contains_N (by omega) (by omega)]
    simp only [bI_0]
    rw [x3_isPlain o c2 (by omega), x3_meaningOf o c2 (by omega), x3_lengthOf o c2 (by omega)]
    simp only [Option.bind_some]
    by_cases p1 : t.testBit k = true
    · have hkn : k < d 0 0 := tb_lt ht p1
      rw [if_neg (by rw [p1]; decide), if_pos hkn, if_pos hkn]
      simp only [rt_bind, rt_onL]
      refine ⟨hf.lay l1, ?_⟩
      have hd := o.2.2.1 k hk
      by_cases p2 : d 1 k = 0
      · rw [if_neg (by simp [hkn, p2, bI])]
        simp only [rt_bind]
        refine (x7_offer hr hd.2.1 (by omega) (by have := hr1 _ hd.2.1; omega)).mono ?_
        rintro w3 ⟨f3, r3⟩
        simp only [rt_some, nx_l]
        refine ⟨nI_1 k, hf.tr f3, _, r3, fun m hm => Nat.le_trans (ofr_le ..) (hr1 m hm), fun m hm q => ?_, fun i hi b1 b2 => ?_⟩
        · rcases ofr_or r (d 2 k) (d 3 k) m with e | ⟨rfl, e, q'⟩
          · rw [e] at q ⊢; exact hr2 m hm q
          · rw [e]; exact ⟨k, hk, p1, p2, rfl, rfl⟩
        · by_cases e : i = k
          · subst e; exact ofr_at ..
          · exact Nat.le_trans (ofr_le ..) (hr3 i (by omega) b1 b2)
      · rw [if_pos (by simp [p2, bI])]
        simp only [rt_some, nx_l]
        refine ⟨nI_1 k, hf, r, hr, hr1, hr2, fun i hi b1 b2 => ?_⟩
        by_cases e : i = k
        · subst e; exact absurd b2 p2
        · exact hr3 i (by omega) b1 b2
    · rw [if_pos (bool_f p1), Option.bind_some]
      simp only [rt_some, nx_l]
      refine ⟨nI_1 k, hf, r, hr, hr1, hr2, fun i hi b1 b2 => ?_⟩
      by_cases e : i = k
      · subst e; exact absurd b1 p1
      · exact hr3 i (by omega) b1 b2
  · rintro ⟨c, w2⟩ ⟨h1, hf, r, hr, hr1, hr2, hr3⟩
    dsimp only at h1 hf hr
    subst h1
    unfold l_X7_solve_38
    dsimp only
    rw [if_pos (show (10 : Int32) ≤ nI 10 by decide), rt_some, nx_r]
    refine ⟨hf, r, hr, hr1, hr2, ?_⟩
    rintro m c ⟨i, b1, b2, b3, rfl, rfl⟩
    exact hr3 i b1 b2 b3
  rintro w2 ⟨f2, r, hr, hr1, hr2, hr3⟩
  have f12 : fr (fun c => c = a ∨ c = a + 1) w w2 := f01.tr (f2.sub (fun c q => Or.inr q))
  rw [if_pos (by rw [f2.sp]; exact s1)]
  simp only [rt_onL, rt_bind]
  refine ⟨f12.lay hL, (x7_offer hr hcm (by omega) (by have := hr1 _ hcm; omega)).mono ?_⟩
  rintro w3 ⟨f3, r3⟩
  have f13 : fr (fun c => c = a ∨ c = a + 1) w w3 := f12.tr (f3.sub (fun c q => Or.inr q))
  have f23 : fr (fun c => c = a + 1) w1 w3 := f2.tr f3
  have l3 : Lay w3 := f13.lay hL
  have c3 : CLx d w3 := h.fr f13 hP
  rw [if_pos (by rw [f13.sp]; exact hsp)]
  simp only [rt_onL, rt_bind]
  refine ⟨l3, ?_⟩
  have na : ¬ a = a + 1 := by omega
  have i3 : gI w3 a 2 = nI t := by rw [f23.I na]; exact g12
  rw [i3, show (1 : Int32) = nI 1 from rfl, x3_joinLength o c3 (by decide) ht, rt_some]
  have f4 : fr (fun c => c = a ∨ c = a + 1) w (sI w3 a 3 (nI (jl d 1 t))) := f13.tr (fr.sI (Or.inl rfl))
  rw [gI_sI, if_neg (by omega), i3, show (2 : Int32) = nI 2 from rfl, x3_joinLength o (h.fr f4 hP) (by decide) ht, rt_some]
  have f5 : fr (fun c => c = a ∨ c = a + 1) w (sI (sI w3 a 3 (nI (jl d 1 t))) a 4 (nI (jl d 2 t))) := f4.tr (fr.sI (Or.inl rfl))
  rw [gI_sI, if_neg (by omega), gI_sI, if_neg (by omega), i3, show (3 : Int32) = nI 3 from rfl, x3_joinLength o (h.fr f5 hP) (by decide) ht, rt_some]
  have f6 : fr (fun c => c = a ∨ c = a + 1) w (sI (sI (sI w3 a 3 (nI (jl d 1 t))) a 4 (nI (jl d 2 t))) a 5 (nI (jl d 3 t))) := f5.tr (fr.sI (Or.inl rfl))
  have f36 : fr (fun c => c = a) w3 (sI (sI (sI w3 a 3 (nI (jl d 1 t))) a 4 (nI (jl d 2 t))) a 5 (nI (jl d 3 t))) := ((fr.sI (P := fun c => c = a) rfl).tr (fr.sI (P := fun c => c = a) rfl)).tr (fr.sI (P := fun c => c = a) rfl)
  have hdj : DJ (Gc d t cm cl) (jl d 1 t) (jl d 2 t) (jl d 3 t) (btL 0) (ofr r cm cl) := by
    refine ⟨fun m hm => Nat.le_trans (ofr_le ..) (hr1 m hm), fun m hm q => ?_, fun m c g => ?_, fun s u _ _ e => ?_, fun s _ e => ?_, fun a _ e => ?_, fun a b _ _ e => ?_⟩
    · rcases ofr_or r cm cl m with e | ⟨rfl, e, q'⟩
      · rw [e] at q ⊢; exact Say.gen (Or.inl (hr2 m hm q))
      · rw [e] at q ⊢; exact Say.gen (Or.inr ⟨by omega, rfl, rfl⟩)
    · rcases g with g | ⟨g, rfl, rfl⟩
      · exact Nat.le_trans (ofr_le ..) (hr3 m c g)
      · exact ofr_at ..
    · rw [bL_z] at e; cases e
    · rw [bL_z] at e; cases e
    · rw [bL_z] at e; cases e
    · rw [bL_z] at e; cases e
  refine (x7_settle (a := a) (fun m c g => Gc_ok o hcm g) (f6.lay hL) (by rw [f6.sp]; exact hsp) (jl_le o) (jl_le o) (jl_le o) (by rw [gI_sI, if_neg (by omega), gI_sI, if_neg (by omega), gI_sI, if_pos ⟨rfl, rfl⟩]) (by rw [gI_sI, if_neg (by omega), gI_sI, if_pos ⟨rfl, rfl⟩]) (by rw [gI_sI, if_pos ⟨rfl, rfl⟩]) hdj (fun m hm => by rw [f36.I (by omega)]; exact r3 m hm)).mono ?_
  rintro w7 ⟨f7, r7⟩
  rw [rt_some]
  refine ⟨f6.tr (f7.sub (fun c q => Or.inr q)), ⟨?_, ?_, ?_, ?_, r7⟩, ?_, ?_, ?_⟩
  · rw [f7.I na, gI_sI, if_neg (by omega), gI_sI, if_neg (by omega), gI_sI, if_neg (by omega)]; exact i3
  · rw [f7.I na, gI_sI, if_neg (by omega), gI_sI, if_neg (by omega), gI_sI, if_pos ⟨rfl, rfl⟩]
  · rw [f7.I na, gI_sI, if_neg (by omega), gI_sI, if_pos ⟨rfl, rfl⟩]
  · rw [f7.I na, gI_sI, if_pos ⟨rfl, rfl⟩]
  · rw [f7.L na]
    show gL w3 a 7 = 0
    rw [f23.L na]; exact g17
  · rw [f7.I na, gI_sI, if_neg (by omega), gI_sI, if_neg (by omega), gI_sI, if_neg (by omega), f23.I na]; exact g18
  · rw [f7.L na]
    show gL w3 a 9 = _
    rw [f23.L na]; exact g19
end Solve
