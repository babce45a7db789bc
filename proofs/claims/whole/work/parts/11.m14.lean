section Price2
variable {d : Dt} {C : Ct} {B : Nat → Option Nat} {t a m : Nat} {w : Mm}
/-- the marked prices are right -/
def Bits (C : Ct) (B : Nat → Option Nat) (a : Nat) (w : Mm) : Prop := ∀ j, j < 64 → btL (gL w a 7) j = true → ∃ p, gR w a 6 = some p ∧ gI w p j = prI (sy C B j 64)
theorem fx.sp {P : Nat → Nat → Prop} {w w' : Mm} (h : fx P w w') (a : Nat) : isSp w' a = isSp w a := by
  unfold isSp gK gR
  rw [h.1]
theorem fx.K {P : Nat → Nat → Prop} {w w' : Mm} (h : fx P w w') (c : Nat) : gK w' c = gK w c := by
  unfold gK
  rw [h.1]
theorem fx.R {P : Nat → Nat → Prop} {w w' : Mm} (h : fx P w w') (c k : Nat) : gR w' c k = gR w c k := by
  unfold gR
  rw [h.1]
theorem fx.ml {P : Nat → Nat → Prop} {w w' : Mm} (h : fx P w w') : mlen w' = mlen w := congrArg (fun q : (Nat → Nat → Option Nat) × List (Nat × Nat) => q.2.length) h.1
theorem fx.ms {P : Nat → Nat → Prop} {w w' : Mm} (h : fx P w w') : mslots w' = mslots w := congrArg (fun q : (Nat → Nat → Option Nat) × List (Nat × Nat) => (q.2.map (fun x : Nat × Nat => x.2)).sum) h.1
theorem CNr.fx {P : Nat → Nat → Prop} {w w' : Mm} (h : CNr d C w) (f : fx P w w') (hP : ∀ c k, (c = 16 ∧ k = 9) ∨ (c = 14 ∧ k = 5) ∨ (17 ≤ c ∧ c ≤ 21) → ¬ P c k) : CNr d C w' := by
  obtain ⟨h1, h2, h3⟩ := h
  refine ⟨by rw [f.I (hP _ _ (by omega))]; exact h1, by rw [f.I (hP _ _ (by omega))]; exact h2, fun w2 hw => h3 w2 (fun c k hc => ?_)⟩
  rw [hw c k hc, f.I (hP _ _ (by omega))]
theorem x9_fin (oC : OkC d C) (hB : ∀ j b, B j = some b → b ≤ 3000) (hL : Lay w) (hN : CNr d C w) (ha : a = 24 ∨ 87 ≤ a) (hsp : isSp w a = true) (hr : Row w (a + 1) (fun j => enc 268435456 (B j))) (hm : m < 64) {p : Nat} (hp : gR w a 6 = some p) (hk : gK w p = some (20, 64)) (hp2 : 87 ≤ p ∧ p ≠ a ∧ p ≠ a + 1) (hb : Bits C B a w) (o6 : Nat) : Rt (Option.bind (wh (l_X9_price_120 a (nI m) o6) FUEL (nI (enc 268435456 (B m)), nI m, (0 : Int32), w)) (fun p14 => if isSp p14.2.2 a = true then (Option.bind (if (268435456 : Int32) ≤ p14.1 then (some (-2 : Int32)) else (some ((p14.1 <<< ((6 : Int32) &&& 31)) ||| p14.2.1))) (fun p17 => if gK (sL p14.2.2 a 7 ((gL p14.2.2 a 7) ||| ((1 : Int64) <<< ((nI m).toInt64 &&& 63)))) p = some (20, 64) then (some (gI (sI (sL p14.2.2 a 7 ((gL p14.2.2 a 7) ||| ((1 : Int64) <<< ((nI m).toInt64 &&& 63)))) p m p17) p m, sI (sL p14.2.2 a 7 ((gL p14.2.2 a 7) ||| ((1 : Int64) <<< ((nI m).toInt64 &&& 63)))) p m p17)) else none)) else none)) (fun r => r.1 = prI (sy C B m 64) ∧ fx (fun c k => (c = a ∧ k = 7) ∨ c = p ∨ scN c k) w r.2 ∧ Bits C B a r.2 ∧ gL r.2 a 9 = gL w a 9) := by
  rw [rt_bind]
  refine (x9_loop oC hB hL hN ha hsp hr hm o6).mono ?_
  rintro ⟨b, y, w1⟩ ⟨e1, e2, f⟩
  dsimp only at e1 e2 f ⊢
  subst e1 e2
  rw [if_pos (by rw [f.sp]; exact hsp), price_v (fun v e => sy_le hB oC.1 64 v e) (sy_by hm 64 (Nat.le_refl _)), Option.bind_some, gK_sL, f.K, if_pos hk, rt_some]
  dsimp only
  have hf : fx (fun c k => (c = a ∧ k = 7) ∨ c = p ∨ scN c k) w (sI (sL w1 a 7 ((gL w1 a 7) ||| ((1 : Int64) <<< ((nI m).toInt64 &&& 63)))) p m (prI (sy C B m 64))) := ((f.sub (fun c k z => Or.inr (Or.inr z))).tr (fx.sL (Or.inl ⟨rfl, rfl⟩))).tr (fx.sI (Or.inr (Or.inl rfl)))
  refine ⟨by rw [gI_sI, if_pos ⟨rfl, rfl⟩], hf, fun j hj hbj => ?_, hf.L (by unfold scN; omega)⟩
  rw [gL_sI, gL_sL, if_pos ⟨rfl, rfl⟩, bL_set hm, f.L (show ¬ scN a 7 by unfold scN; omega)] at hbj
  refine ⟨p, by rw [hf.R]; exact hp, ?_⟩
  rw [gI_sI]
  by_cases e : m = j
  · subst e; rw [if_pos ⟨rfl, rfl⟩]
  · rw [if_neg (by omega), gI_sL, f.I (by unfold scN; omega)]
    rw [decide_eq_false e, Bool.or_false] at hbj
    obtain ⟨p', z1, z2⟩ := hb j hj hbj
    rw [hp] at z1
    cases z1
    exact z2
theorem price_120b : l_X9_price_120b = l_X9_price_120 := rfl
theorem x9_price (oC : OkC d C) (hB : ∀ j b, B j = some b → b ≤ 3000) (hst : d 0 7 < 2 ^ 31) (hL : Lay w) (hN : CNr d C w) (ha : a = 24 ∨ 87 ≤ a) (hs : SpOk d C B t a w) (hp : ∀ p, gR w a 6 = some p → 87 ≤ p ∧ p ≠ a ∧ p ≠ a + 1) (hc1 : mlen w + 1 ≤ 600000) (hc2 : mslots w + 64 ≤ 7302250) (hm : m < 64) : Rt (f_X9_price a (nI m) w) (fun p => p.1 = prI (sy C B m 64) ∧ PrQ d C B t a w p.2) := by
  obtain ⟨hsp, ⟨g2, g3, g4, g5⟩, hr, ⟨st, hst1, g8, hbits⟩, hpk⟩ := hs
  have hl1 : a < mlen w := gK_lt (sp_k0 hsp)
  have hl2 : a + 1 < mlen w := gK_lt (sp_k1 hsp)
  have h87 := hL.len
  unfold f_X9_price
  rw [m63 hm, if_pos (inb_nI hm (by decide)), ix_nI (by omega), show gI w (a + 1) m = nI (enc 268435456 (B m)) from hr m hm]
  have s1 : ∃ w1, (if gI w a 8 = gI w 14 5 then some w else some (sL (sI w a 8 (gI w 14 5)) a 7 (0 : Int64))) = some w1 ∧ fx (fun c k => c = a ∧ (k = 7 ∨ k = 8)) w w1 ∧ gI w1 a 8 = nI (d 0 7) ∧ Bits C B a w1 := by
    rw [g8, hN.2.1]
    by_cases e : nI st = nI (d 0 7)
    · rw [if_pos e]
      exact ⟨w, rfl, fx.rf, by rw [g8, e], hbits ((nI_eq (by omega) hst).mp e)⟩
    · rw [if_neg e]
      refine ⟨_, rfl, (fx.sI (by omega)).tr (fx.sL (by omega)), by rw [gI_sL, gI_sI, if_pos ⟨rfl, rfl⟩], fun j hj hb => ?_⟩
      rw [gL_sL, if_pos ⟨rfl, rfl⟩, bL_z] at hb
      cases hb
  obtain ⟨w1, e1, f1, h18, hb1⟩ := s1
  rw [e1, Option.bind_some, if_pos (by rw [f1.sp]; exact hsp)]
  have hL1 := f1.lay hL
  have hN1 : CNr d C w1 := hN.fx f1 (fun c k z => by omega)
  have hsp1 : isSp w1 a = true := by rw [f1.sp]; exact hsp
  have hr1 : Row w1 (a + 1) (fun j => enc 268435456 (B j)) := fun j hj => by rw [f1.I (by omega)]; exact hr j hj
  have hm1 : mlen w1 = mlen w := f1.ml
  have hs1 : mslots w1 = mslots w := f1.ms
  -- the end where nothing is made
  have fin : ∀ (w' : Mm) (p : Nat), gR w a 6 = some p → fx (fun c k => (c = a ∧ k = 7) ∨ c = p ∨ scN c k) w1 w' → Bits C B a w' → PrQ d C B t a w w' := by
    intro w' p hgp f2 hb2
    have hp2 := hp p hgp
    have f02 : fx (fun c k => (c = a ∧ (k = 7 ∨ k = 8)) ∨ c = p ∨ scN c k) w w' := (f1.sub (fun c k z => Or.inl z)).tr (f2.sub (fun c k z => z.elim (fun z => Or.inl ⟨z.1, Or.inl z.2⟩) Or.inr))
    have n1 : ∀ k, k ≤ 5 → ¬ ((a = a ∧ (k = 7 ∨ k = 8)) ∨ a = p ∨ scN a k) := fun k hk => by unfold scN; omega
    refine ⟨⟨by rw [f02.sp]; exact hsp, ⟨by rw [f02.I (n1 2 (by omega))]; exact g2, by rw [f02.I (n1 3 (by omega))]; exact g3, by rw [f02.I (n1 4 (by omega))]; exact g4, by rw [f02.I (n1 5 (by omega))]; exact g5⟩, fun j hj => ?_, ⟨d 0 7, Nat.le_refl _, ?_, fun _ => hb2⟩, fun q hq => ?_⟩, f02.lay hL, fun c k _ hc => ?_, ?_, fun c _ => f02.K c, fun c k _ _ => f02.R c k, Or.inl ⟨f02.ml, f02.ms, f02.R a 6⟩⟩
    · rw [f02.I (by unfold scN; omega)]; exact hr j hj
    · rw [f2.I (by unfold scN; omega)]; exact h18
    · rw [f02.R] at hq; rw [f02.K]; exact hpk q hq
    · have : ¬ ((c = a ∧ (k = 7 ∨ k = 8)) ∨ c = p ∨ scN c k) := fun z => hc (by
        rcases z with z | z | z
        · exact Or.inl z
        · subst z; exact Or.inr (Or.inl hgp)
        · exact Or.inr (Or.inr z))
      exact ⟨f02.I this, f02.L this⟩
    · exact f02.L (by unfold scN; omega)
  rw [rt_onq]
  refine ⟨fun hnone => ?_, fun p hsome => ?_⟩
  · -- no prices yet
    have hnb : ∀ j, j < 64 → btL (gL w1 a 7) j = false := fun j hj => bool_f (fun z => by
      obtain ⟨p, z1, -⟩ := hb1 j hj z
      rw [hnone] at z1
      cases z1)
    have hn0 : gR w a 6 = none := by rw [← f1.R]; exact hnone
    rw [rt_onL, hN1.1]
    refine ⟨hL1, ?_⟩
    by_cases q0 : d 0 6 = 0
    · rw [q0, if_pos (by decide)]
      have hsy : sy C B m 64 = (B m, m) := sy_none (oC.2.1 q0) 64
      have pv := price_v (x := (B m, m)) (fun v e => by have := hB m v e; omega) hm
      dsimp only at pv
      have hq : PrQ d C B t a w w1 := by
        have n1 : ∀ k, k ≤ 5 → ¬ (a = a ∧ (k = 7 ∨ k = 8)) := fun k hk => by omega
        refine ⟨⟨hsp1, ⟨by rw [f1.I (n1 2 (by omega))]; exact g2, by rw [f1.I (n1 3 (by omega))]; exact g3, by rw [f1.I (n1 4 (by omega))]; exact g4, by rw [f1.I (n1 5 (by omega))]; exact g5⟩, hr1, ⟨d 0 7, Nat.le_refl _, h18, fun _ => hb1⟩, fun q hq => ?_⟩, hL1, fun c k _ hc => ?_, ?_, fun c _ => f1.K c, fun c k _ _ => f1.R c k, Or.inl ⟨hm1, hs1, f1.R a 6⟩⟩
        · rw [hnone] at hq; cases hq
        · have : ¬ (c = a ∧ (k = 7 ∨ k = 8)) := fun z => hc (Or.inl z)
          exact ⟨f1.I this, f1.L this⟩
        · exact f1.L (by omega)
      by_cases c : (268435456 : Int32) ≤ nI (enc 268435456 (B m))
      · rw [if_pos c] at pv ⊢
        rw [rt_some, hsy]
        injection pv with pv
        exact ⟨pv, hq⟩
      · rw [if_neg c] at pv ⊢
        rw [rt_some, hsy]
        injection pv with pv
        exact ⟨pv, hq⟩
    · have oc3 := oC.2.2
      rw [if_neg (nI_nle (by omega) (by omega)), alq_ok (by omega) (by omega), Option.bind_some]
      dsimp only
      have hml : mlen (al w1 20 64) = mlen w1 + 1 := mlen_al ..
      -- the memory with the new row
      have hspA : isSp (al w1 20 64) a = true := by
        obtain ⟨z1, z2, z3, z4⟩ := isSp_n hsp1
        exact decide_eq_true ⟨by rw [gK_alo (by omega)]; exact z1, by rw [gR_al, if_neg (by omega)]; exact z2, by rw [gR_al, if_neg (by omega)]; exact z3, by rw [gK_alo (by omega)]; exact z4⟩
      have hspB : isSp (sR (al w1 20 64) a 6 (some (mlen w1))) a = true := by
        obtain ⟨z1, z2, z3, z4⟩ := isSp_n hspA
        exact decide_eq_true ⟨z1, by rw [gR_sR, if_neg (by omega)]; exact z2, by rw [gR_sR, if_neg (by omega)]; exact z3, z4⟩
      rw [if_pos hspA, if_pos hspB]
      have hbit : ¬ ((gL (al w1 20 64) a 7 >>> ((nI m).toInt64 &&& 63)) &&& (1 : Int64)) = (1 : Int64) := by
        rw [bL_1 hm, gL_al, if_neg (by omega), hnb m hm]
        decide
      rw [if_neg hbit]
      have hLB : Lay (sR (al w1 20 64) a 6 (some (mlen w1))) := lay_sR (by omega) (lay_al hL1)
      have gIB : ∀ c k, c < mlen w1 → gI (sR (al w1 20 64) a 6 (some (mlen w1))) c k = gI w1 c k := fun c k hc => by rw [gI_sR, gI_al, if_neg (by omega)]
      have gLB : ∀ c k, c < mlen w1 → gL (sR (al w1 20 64) a 6 (some (mlen w1))) c k = gL w1 c k := fun c k hc => by rw [gL_sR, gL_al, if_neg (by omega)]
      have hNB : CNr d C (sR (al w1 20 64) a 6 (some (mlen w1))) := by
        obtain ⟨z1, z2, z3⟩ := hN1
        refine ⟨by rw [gIB _ _ (by omega)]; exact z1, by rw [gIB _ _ (by omega)]; exact z2, fun w2 hw => z3 w2 (fun c k hc => ?_)⟩
        rw [hw c k hc, gIB _ _ (by omega)]
      have hRB : gR (sR (al w1 20 64) a 6 (some (mlen w1))) a 6 = some (mlen w1) := by rw [gR_sR, if_pos ⟨rfl, rfl⟩]
      refine (x9_fin (p := mlen w1) oC hB hLB hNB ha hspB (fun j hj => by rw [gIB _ _ (by omega)]; exact hr1 j hj) hm hRB (by rw [gK_sR]; exact gK_aln) (by omega) (fun j hj z => by rw [gLB _ _ (by omega), hnb j hj] at z; cases z) (mlen w1)).mono ?_
      rintro ⟨v, w'⟩ ⟨y1, f2, y3, y4⟩
      dsimp only at y1 f2 y3 y4 ⊢
      refine ⟨y1, ?_⟩
      have n2 : ∀ c k, c < mlen w1 → ¬ ((c = a ∧ (k = 7 ∨ k = 8)) ∨ scN c k) → gI w' c k = gI w c k ∧ gL w' c k = gL w c k := fun c k hc z => by
        have z1 : ¬ ((c = a ∧ k = 7) ∨ c = mlen w1 ∨ scN c k) := fun z' => by
          rcases z' with z' | z' | z'
          · exact z (Or.inl ⟨z'.1, Or.inl z'.2⟩)
          · omega
          · exact z (Or.inr z')
        rw [f2.I z1, f2.L z1, gIB _ _ hc, gLB _ _ hc]
        exact ⟨f1.I (fun z' => z (Or.inl z')), f1.L (fun z' => z (Or.inl z'))⟩
      have kK : ∀ c, c < mlen w → gK w' c = gK w c := fun c hc => by rw [f2.K, gK_sR, gK_alo (by omega), f1.K]
      refine ⟨⟨by rw [f2.sp]; exact hspB, ⟨by rw [(n2 a 2 (by omega) (by unfold scN; omega)).1]; exact g2, by rw [(n2 a 3 (by omega) (by unfold scN; omega)).1]; exact g3, by rw [(n2 a 4 (by omega) (by unfold scN; omega)).1]; exact g4, by rw [(n2 a 5 (by omega) (by unfold scN; omega)).1]; exact g5⟩, fun j hj => ?_, ⟨d 0 7, Nat.le_refl _, ?_, fun _ => y3⟩, fun q hq => ?_⟩, f2.lay hLB, fun c k hc z => n2 c k (by omega) (fun z' => z (z'.elim Or.inl (fun q => Or.inr (Or.inr q)))), ?_, kK, fun c k hc z => ?_, Or.inr ⟨?_, ?_, hn0, ?_⟩⟩
      · rw [(n2 (a + 1) j (by omega) (by unfold scN; omega)).1]; exact hr j hj
      · rw [f2.I (by unfold scN; omega), gIB _ _ (by omega)]; exact h18
      · rw [f2.R, hRB] at hq
        cases hq
        rw [f2.K, gK_sR]; exact gK_aln
      · rw [y4, gLB _ _ (by omega)]; exact f1.L (by omega)
      · rw [f2.R, gR_sR, if_neg z, gR_al, if_neg (by omega), f1.R]
      · rw [f2.ml, mlen_sR, hml, hm1]
      · rw [f2.ms]
        show mslots (al w1 20 64) = _
        rw [mslots_al, hs1]
      · rw [f2.R, hRB, hm1]
  · -- prices are there
    have hgp : gR w a 6 = some p := by rw [← f1.R]; exact hsome
    have hkp := hpk p hgp
    have hp2 := hp p hgp
    by_cases qb : btL (gL w1 a 7) m = true
    · rw [if_pos ((bL_1 hm).mpr qb), if_pos (by rw [f1.K]; exact hkp), rt_some]
      obtain ⟨p', z1, z2⟩ := hb1 m hm qb
      rw [hsome] at z1
      cases z1
      exact ⟨z2, fin w1 p hgp fx.rf hb1⟩
    · rw [if_neg (fun z => qb ((bL_1 hm).mp z)), price_120b]
      refine (x9_fin (p := p) oC hB hL1 hN1 ha hsp1 hr1 hm hsome (by rw [f1.K]; exact hkp) hp2 hb1 p).mono ?_
      rintro ⟨v, w'⟩ ⟨y1, f2, y3, -⟩
      exact ⟨y1, fin w' p hgp f2 y3⟩
end Price2
