def KQ (d : Dt) (C : Ct) (w w' : Mm) : Prop := KI d C w' ∧ cs w w' ∧ tq w w'
theorem KQ.rf {d : Dt} {C : Ct} {w : Mm} (h : KI d C w) : KQ d C w w := ⟨h, cs.rf, tq.rf⟩
theorem KQ.tr {d : Dt} {C : Ct} {w w' w'' : Mm} (h : KQ d C w w') (h' : KQ d C w' w'') : KQ d C w w'' := ⟨h'.1, h.2.1.tr h'.2.1, h.2.2.tr h'.2.2⟩
theorem m1023 {m : Nat} (hm : m < 1024) : nI m &&& (1023 : Int32) = nI m := by
  rw [show (1023 : Int32) = nI (2 ^ 10 - 1) from rfl, fa_mask, Nat.mod_eq_of_lt hm]
section Speech
variable {d : Dt} {C : Ct} {w : Mm} {t : Nat}
theorem x9_speech (o : Ok d C) (h : KI d C w) (ht : t < 2 ^ d 0 0) : Rt (f_X9_speech (nI t) w) (fun p => gR p.2 15 t = some p.1 ∧ KQ d C w p.2) := by
  have p10 := pow10 o.1.1
  have ht' : t < 1024 := by omega
  obtain ⟨hL, hx, hd, hn, ⟨own, hO, hO2, st, hst, h248⟩, hR⟩ := id h
  have hcap := hR.cap
  have h87 := hL.len
  unfold f_X9_speech
  rw [m1023 ht', if_pos (inb_nI ht' (by decide)), ix_nI (by omega), rt_onq]
  refine ⟨fun hnone => ?_, fun a ha => by rw [rt_some]; exact ⟨ha, KQ.rf h⟩⟩
  rw [alq_ok (by omega) (by omega), Option.bind_some]
  dsimp only
  unfold f_X7_init
  have hm1 : mlen (al w 7 10) = mlen w + 1 := mlen_al ..
  rw [alq_ok (by omega) (by rw [mslots_al]; omega), Option.bind_some]
  dsimp only
  rw [if_pos (by rw [gK_alo (by omega)]; exact gK_aln), Option.bind_some, hm1]
  have hw3 : ∃ w3, sR (sR (sR (al (al w 7 10) 20 64) (mlen w) 1 (some (mlen w + 1))) (mlen w) 6 none) (mlen w) 0 (some 1) = w3 := ⟨_, rfl⟩
  obtain ⟨w3, e3⟩ := hw3
  have gI3 : ∀ c k, gI w3 c k = if c = mlen w + 1 then 0 else if c = mlen w then 0 else gI w c k := fun c k => by
    rw [← e3, gI_sR, gI_sR, gI_sR, gI_al, hm1, gI_al]
  have gL3 : ∀ c k, gL w3 c k = if c = mlen w + 1 then 0 else if c = mlen w then 0 else gL w c k := fun c k => by
    rw [← e3, gL_sR, gL_sR, gL_sR, gL_al, hm1, gL_al]
  have gR3 : ∀ c k, c < mlen w → gR w3 c k = gR w c k := fun c k hc => by
    rw [← e3, gR_sR, if_neg (by omega), gR_sR, if_neg (by omega), gR_sR, if_neg (by omega), gR_al, if_neg (by omega), gR_al, if_neg (by omega)]
  have gK3 : ∀ c, c < mlen w → gK w3 c = gK w c := fun c hc => by
    rw [← e3, gK_sR, gK_sR, gK_sR, gK_alo (by omega), gK_alo hc]
  have gKa : gK w3 (mlen w) = some (7, 10) := by
    rw [← e3, gK_sR, gK_sR, gK_sR, gK_alo (by omega)]; exact gK_aln
  have gKa1 : gK w3 (mlen w + 1) = some (20, 64) := by
    rw [← e3, gK_sR, gK_sR, gK_sR, ← hm1]; exact gK_aln
  have sp3 : isSp w3 (mlen w) = true := decide_eq_true ⟨gKa, by rw [← e3, gR_sR, if_pos ⟨rfl, rfl⟩], by rw [← e3, gR_sR, if_neg (by omega), gR_sR, if_neg (by omega), gR_sR, if_pos ⟨rfl, rfl⟩], gKa1⟩
  have gR36 : gR w3 (mlen w) 6 = none := by rw [← e3, gR_sR, if_neg (by omega), gR_sR, if_pos ⟨rfl, rfl⟩]
  have hL3 : Lay w3 := by
    rw [← e3]
    exact lay_sR (by omega) (lay_sR (by omega) (lay_sR (by omega) (lay_al (lay_al hL))))
  have ml3 : mlen w3 = mlen w + 2 := by rw [← e3, mlen_sR, mlen_sR, mlen_sR, mlen_al, mlen_al]
  have ms3 : mslots w3 = mslots w + 74 := by
    rw [← e3]
    show mslots (al (al w 7 10) 20 64) = _
    rw [mslots_al, mslots_al]
  rw [e3, if_pos sp3, rt_onL]
  refine ⟨hL3, ?_⟩
  rw [if_pos gKa, rt_bind]
  have cs3 : ∀ c k, c < 87 → gI w3 c k = gI w c k ∧ gL w3 c k = gL w c k := fun c k hc => by
    rw [gI3, gL3, if_neg (by omega), if_neg (by omega), if_neg (by omega), if_neg (by omega)]
    exact ⟨rfl, rfl⟩
  have hx3 : CLx d w3 := hx.cq (fun c k hc => cs3 c k (by unfold cB inM at hc; omega))
  refine (x7_solve (a := mlen w) (t := t) (cm := 0) (cl := 268435456) o.1 hL3 hx3 (by omega) sp3 ht (by decide) (Or.inr rfl)).mono ?_
  rintro w4 ⟨f4, ⟨s2, s3, s4, s5, sr⟩, p7, p8, p9⟩
  rw [rt_onL, f4.K, if_pos gKa, rt_some]
  refine ⟨f4.lay hL3, ?_⟩
  dsimp only
  have gR15 : ∀ k, gR (sR w4 15 t (some (mlen w))) 15 k = if k = t then some (mlen w) else gR w 15 k := fun k => by
    rw [gR_sR]
    by_cases e : k = t
    · rw [if_pos ⟨rfl, e⟩, if_pos e]
    · rw [if_neg (by omega), if_neg e, f4.R, gR3 _ _ (by omega)]
  have gRo : ∀ c k, c ≠ 15 → c < mlen w → gR (sR w4 15 t (some (mlen w))) c k = gR w c k := fun c k h1 h2 => by
    rw [gR_sR, if_neg (by omega), f4.R, gR3 _ _ h2]
  have gRa : ∀ k, gR (sR w4 15 t (some (mlen w))) (mlen w) k = gR w3 (mlen w) k := fun k => by
    rw [gR_sR, if_neg (by omega), f4.R]
  have gIo : ∀ c k, c < mlen w → gI (sR w4 15 t (some (mlen w))) c k = gI w c k ∧ gL (sR w4 15 t (some (mlen w))) c k = gL w c k := fun c k hc => by
    rw [gI_sR, gL_sR, f4.I (by omega), f4.L (by omega), gI3, gL3, if_neg (by omega), if_neg (by omega), if_neg (by omega), if_neg (by omega)]
    exact ⟨rfl, rfl⟩
  have gKo : ∀ c, c < mlen w → gK (sR w4 15 t (some (mlen w))) c = gK w c := fun c hc => by
    rw [gK_sR, f4.K, gK3 c hc]
  have ml5 : mlen (sR w4 15 t (some (mlen w))) = mlen w + 2 := by
    rw [mlen_sR, f4.x.ml, ml3]
  have ms5 : mslots (sR w4 15 t (some (mlen w))) = mslots w + 74 := by
    show mslots w4 = _
    rw [f4.x.ms, ms3]
  have hcs : cs w (sR w4 15 t (some (mlen w))) := fun c k h1 _ _ _ => gIo c k (by omega)
  refine ⟨by rw [gR15, if_pos rfl], ⟨lay_sR (by omega) (f4.lay hL3), hx.cq hcs.q, hd.cq hcs.q, hn.cq hcs.q, ⟨ow (ow own (mlen w) (3 * t)) (mlen w + 1) (3 * t + 1), fun k b hk hb => ?_, fun p hp => ?_, st, hst, by rw [(gIo 24 8 (by omega)).1]; exact h248⟩, ?_⟩, hcs, fun k b hk hb => ?_⟩
  · rw [gR15] at hb
    by_cases e : k = t
    · rw [if_pos e] at hb
      injection hb with hb
      subst hb
      subst e
      refine ⟨ht, by omega, by rw [ow_o _ (by omega), ow_s], by rw [ow_s], fun p hp => ?_, ?_⟩
      · rw [gRa, gR36] at hp; cases hp
      · refine ⟨?_, ⟨s2, s3, s4, s5⟩, fun j hj => ?_, ⟨0, Nat.zero_le _, ?_, fun _ j hj hb => ?_⟩, fun p hp => ?_⟩
        · obtain ⟨z1, z2, z3, z4⟩ := isSp_n sp3
          exact decide_eq_true ⟨by rw [gK_sR, f4.K]; exact z1, by rw [gRa]; exact z2, by rw [gRa]; exact z3, by rw [gK_sR, f4.K]; exact z4⟩
        · show _ = nI (enc 268435456 (BF d k j))
          rw [gI_sR, show gI w4 (mlen w + 1) j = nI (enc 268435456 (BC d k 0 268435456 j)) from sr j hj, BC_far (by decide)]
        · rw [gI_sR, p8, gI3, if_neg (by omega), if_pos rfl]; rfl
        · rw [gL_sR, p7, bL_z] at hb; cases hb
        · rw [gRa, gR36] at hp; cases hp
    · rw [if_neg e] at hb
      obtain ⟨q0, q1, q2, q3, q4, q5⟩ := hO k b hk hb
      have l1 : b < mlen w := gK_lt (sp_k0 q5.1)
      have l2 : b + 1 < mlen w := gK_lt (sp_k1 q5.1)
      refine ⟨q0, q1, by rw [ow_o _ (by omega), ow_o _ (by omega)]; exact q2, by rw [ow_o _ (by omega), ow_o _ (by omega)]; exact q3, fun p hp => ?_, q5.st (fun j => (gIo b j l1).1) (fun j => (gIo _ j l2).1) (gIo b 7 l1).2 (fun j => gRo b j (by omega) l1) gKo (fun p hp j => (gIo p j (q4 p hp).2.1).1)⟩
      rw [gRo b 6 (by omega) l1] at hp
      have := q4 p hp
      exact ⟨this.1, by omega, by rw [ow_o _ (by omega), ow_o _ (by omega)]; exact this.2.2⟩
  · rw [gRo 24 6 (by omega) (by omega)] at hp
    have := hO2 p hp
    exact ⟨this.1, by omega, by rw [ow_o _ (by omega), ow_o _ (by omega)]; exact this.2.2.1, by rw [gKo p this.2.1]; exact this.2.2.2⟩
  · have hu : fb_sm (rm (sR w4 15 t (some (mlen w)))) 1024 = fb_sm (rm w) 1024 + 2 := by
      have h3 := fb_sm_upd (rm w) 2 ht'
      rw [show rm w t = 0 by unfold rm; rw [hnone]] at h3
      have hc : fb_sm (rm (sR w4 15 t (some (mlen w)))) 1024 = fb_sm (fun k => if k = t then 2 else rm w k) 1024 := by
        refine fb_sm_cong (fun k hk => ?_)
        by_cases e : k = t
        · subst e
          rw [if_pos rfl]
          unfold rm
          rw [gR15, if_pos rfl]
          dsimp only
          rw [gRa, gR36]
          rfl
        · rw [if_neg e]
          exact rm_cong (by rw [gR15, if_neg e]) (fun b hb => by
            obtain ⟨q0, q1, q2, q3, q4, q5⟩ := hO k b hk hb
            exact gRo b 6 (by omega) (gK_lt (sp_k0 q5.1)))
      rw [hc]
      omega
    unfold Rm
    rw [ml5, ms5, hu, gRo 24 6 (by omega) (by omega)]
    have := hR.1
    have := hR.2
    exact ⟨by omega, by omega⟩
  · by_cases e : k = t
    · subst e; rw [hnone] at hb; cases hb
    · refine ⟨by rw [gR15, if_neg e]; exact hb, ?_⟩
      obtain ⟨q0, q1, q2, q3, q4, q5⟩ := hO k b hk hb
      exact (gIo b 9 (gK_lt (sp_k0 q5.1))).2
/-- the speech at a speaks with BRIEF B: a kept one, or the child's -/
def Act (d : Dt) (C : Ct) (B : Nat → Option Nat) (t a : Nat) (w : Mm) : Prop := (t < 1024 ∧ gR w 15 t = some a ∧ B = BF d t) ∨ (a = 24 ∧ SpOk d C B t 24 w)
variable {a m : Nat} {B : Nat → Option Nat}
theorem Act.sp (h : KI d C w) (hA : Act d C B t a w) : SpOk d C B t a w := by
  rcases hA with ⟨h1, h2, rfl⟩ | ⟨rfl, h⟩
  · obtain ⟨-, -, -, -, ⟨own, hO, -⟩, -⟩ := h
    exact (hO t a h1 h2).2.2.2.2.2
  · exact h
theorem x9_priceA (o : Ok d C) (hst : d 0 7 < 2 ^ 31) (hB : ∀ j b, B j = some b → b ≤ 3000) (h : KI d C w) (hA : Act d C B t a w) (hm : m < 64) : Rt (f_X9_price a (nI m) w) (fun p => p.1 = prI (sy C B m 64) ∧ KQ d C w p.2 ∧ Act d C B t a p.2) := by
  obtain ⟨hL, hx, hd, hn, ⟨own, hO, hO2, -⟩, hR⟩ := id h
  have hcap := hR.cap
  have hsp := hA.sp h
  have ha : a = 24 ∨ 87 ≤ a := by
    rcases hA with ⟨h1, h2, -⟩ | h
    · exact Or.inr (hO t a h1 h2).2.1
    · exact Or.inl h.1
  refine (x9_price o.2.2 hB hst hL hn ha hsp (fun p hp => ?_) (by omega) (by omega) hm).mono ?_
  · rcases hA with ⟨h1, h2, -⟩ | h
    · obtain ⟨q0, q1, q2, q3, q4, q5⟩ := hO t a h1 h2
      have := q4 p hp
      exact ⟨this.1, fun z => by subst z; omega, fun z => by subst z; omega⟩
    · rw [h.1] at hp
      have := hO2 p hp
      exact ⟨this.1, by omega, by omega⟩
  · rintro ⟨v, w'⟩ ⟨e, hq⟩
    dsimp only at e hq ⊢
    have hc := hq.ci h (hA.elim Or.inl (fun z => Or.inr z.1))
    refine ⟨e, hc, ?_⟩
    rcases hA with ⟨h1, h2, rfl⟩ | ⟨rfl, -⟩
    · exact Or.inl ⟨h1, (hc.2.2 t a h1 h2).1, rfl⟩
    · exact Or.inr ⟨rfl, hq.1⟩
/-- TALK by a SORT or by all -/
def tks (d : Dt) (C : Ct) (B : Nat → Option Nat) (so : Option Nat) (n : Nat) : Nat := fb_sm (fun i => if so = none ∨ so = some (d 6 i) then tw d C B i else 0) n
theorem tks_n : tks d C B none = tkAB d C B := by
  funext n
  exact fb_sm_cong (fun k _ => if_pos (Or.inl rfl))
theorem tks_s {s : Nat} : tks d C B (some s) = tkB d C B s := by
  funext n
  refine fb_sm_cong (fun k _ => ?_)
  by_cases e : d 6 k = s
  · rw [if_pos (Or.inr (by rw [e])), if_pos e]
  · rw [if_neg (fun z => z.elim (fun z => by cases z) (fun z => e (by injection z with z; exact z.symm))), if_neg e]
theorem mn_N {x y : Nat} (hx : x < 2 ^ 31) (hy : y < 2 ^ 31) : mn (nI x) (nI y) = nI (min x y) := by
  unfold mn
  by_cases e : y < x
  · rw [if_pos (nI_lt e hx), Nat.min_eq_right (by omega)]
  · rw [if_neg (nI_nlt (by omega) hy), Nat.min_eq_left (by omega)]
theorem prI_2 {x : Option Nat × Nat} (h1 : ∀ v, x.1 = some v → v ≤ 4000) (h2 : x.2 < 64) : prI x = -2 ↔ x.1 = none := by
  unfold prI
  cases e : x.1 with
  | none => exact ⟨fun _ => rfl, fun _ => rfl⟩
  | some v => exact ⟨fun z => absurd z (nm2 (by have := h1 v e; omega)), fun z => by cases z⟩
theorem prI_s {x : Option Nat × Nat} {v : Nat} (h1 : v ≤ 4000) (h2 : x.2 < 64) (e : x.1 = some v) : prI x >>> ((6 : Int32) &&& 31) = nI v ∧ prI x &&& (63 : Int32) = nI x.2 := by
  unfold prI
  rw [e]
  dsimp only
  refine ⟨?_, ?_⟩
  · rw [pk_shrN (by omega) _ 6 (by decide)]
    congr 1
    omega
  · rw [show (63 : Int32) = nI (2 ^ 6 - 1) from rfl, fa_mask]
    congr 1
    omega
theorem x9_yearly (o : Ok d C) (hst : d 0 7 < 2 ^ 31) (hB : ∀ j b, B j = some b → b ≤ 3000) (h : KI d C w) (hA : Act d C B t a w) {so : Option Nat} (hso : ∀ s, so = some s → s < 4) : Rt (f_X9_yearly a (oI so) w) (fun p => p.1 = lN (tks d C B so (d 0 3)) ∧ KQ d C w p.2 ∧ Act d C B t a p.2) := by
  have o3 := o.2.1.1
  unfold f_X9_yearly
  rw [rt_bind]
  refine Rt.mono (rt_for (Q := fun p => p.1 = lN (tks d C B so (d 0 3)) ∧ KQ d C w p.2 ∧ Act d C B t a p.2) (fun i s => s.1 = lN (tks d C B so i) ∧ s.2.1 = nI i ∧ KQ d C w s.2.2 ∧ Act d C B t a s.2.2) (d 0 3) ?_ ?_ ⟨rfl, rfl, KQ.rf h, hA⟩ (by omega)) (fun p hp => by rw [rt_some]; exact hp)
  · rintro i ⟨v, c, w1⟩ hi ⟨h1, h2, hq, hA1⟩
    dsimp only at h1 h2 hq hA1
    subst h1 h2
    have hi24 : i < 24 := by omega
    obtain ⟨hL1, -, d1, -⟩ := id hq.1
    have hr := o.2.1.2.2.2 i hi24
    obtain ⟨r6, r7, r8, r9⟩ := d1.2.2.2 i hi24
    unfold l_X9_yearly_5
    dsimp only
    rw [rt_onL, d1.1, if_neg (nI_ge hi (by omega)), if_neg (show ¬ (24 : Int32) ≤ nI i from nI_ge (b := 24) hi24 (by decide)), if_pos (inb_nI hi24 (by decide)), ix_nI (by omega), r6, r7, r8]
    refine ⟨hL1, ?_⟩
    have hstep : tks d C B so (i + 1) = tks d C B so i + if so = none ∨ so = some (d 6 i) then tw d C B i else 0 := by unfold tks; rw [fb_sm_succ]
    by_cases q : so = none ∨ so = some (d 6 i)
    · have hc : (if oI so = (-1 : Int32) then some (.inl ()) else if nI (d 6 i) = oI so then some (.inl ()) else some (.inr (lN (tks d C B so i), w1))) = (some (.inl ()) : Option (Unit ⊕ (Int64 × Mm))) := by
        rcases q with q | q
        · rw [q, if_pos (by rfl)]
        · rw [q, if_neg (show ¬ oI (some (d 6 i)) = -1 from nm1 (by omega)), if_pos (by rfl)]
      rw [if_pos q] at hstep
      rw [hc]
      simp only [mg]
      rw [if_pos (inb_nI hi24 (by decide))]
      by_cases q8 : d 8 i = 0
      · rw [q8, if_pos (by decide), Option.bind_some, rt_some, nx_l]
        refine ⟨?_, nI_1 i, hq, hA1⟩
        rw [hstep]
        unfold tw
        rw [q8, Nat.zero_mul]
        rfl
      · rw [if_neg (nI_nle (by omega) (by omega)), if_pos (hA1.sp hq.1).1]
        simp only [rt_bind]
        refine (x9_priceA o hst hB hq.1 hA1 hr.2.1).mono ?_
        rintro ⟨v, w2⟩ ⟨e2, q2, A2⟩
        dsimp only at e2 q2 A2 ⊢
        subst e2
        obtain ⟨hL2, -, d2, -⟩ := id q2.1
        have hsy1 : ∀ v, (sy C B (d 7 i) 64).1 = some v → v ≤ 4000 := fun v e => sy_le hB o.2.2.1 64 v e
        have hsy2 : (sy C B (d 7 i) 64).2 < 64 := sy_by hr.2.1 64 (Nat.le_refl _)
        have hv : (if prI (sy C B (d 7 i) 64) = (-2 : Int32) then onL w2 (some (gI w2 6 6)) else onL w2 (some (mn (prI (sy C B (d 7 i) 64) >>> ((6 : Int32) &&& 31)) (gI w2 6 6)))) = some (nI (min (enc 1000000 (sy C B (d 7 i) 64).1) (d 0 4))) := by
          rw [onL_pos _ hL2, onL_pos _ hL2, d2.2.1]
          have := o.2.1.2.1
          cases e : (sy C B (d 7 i) 64).1 with
          | none => rw [if_pos ((prI_2 hsy1 hsy2).mpr e), enc_n, Nat.min_eq_right (by omega)]
          | some v =>
            rw [if_neg (fun z => by rw [(prI_2 hsy1 hsy2).mp z] at e; cases e), (prI_s (hsy1 v e) hsy2 e).1, mn_N (by have := hsy1 v e; omega) (by omega), enc_s]
        rw [hv]
        simp only [rt_some, rt_onL, nx_l]
        refine ⟨hL2, ?_, nI_1 i, hq.tr q2, A2⟩
        rw [(d2.2.2.2 i hi24).2.2.1, nI_l (by omega), nI_l (by have := o.2.1.2.1; omega), lN_mul, lN_add, hstep]
        rfl
    · have hc : (if oI so = (-1 : Int32) then some (.inl ()) else if nI (d 6 i) = oI so then some (.inl ()) else some (.inr (lN (tks d C B so i), w1))) = (some (.inr (lN (tks d C B so i), w1)) : Option (Unit ⊕ (Int64 × Mm))) := by
        cases e : so with
        | none => exact absurd (Or.inl e) q
        | some s =>
          have hs4 := hso s e
          rw [if_neg (show ¬ oI (some s) = -1 from nm1 (by omega)), if_neg (fun z => q (Or.inr (by rw [e, (nI_eq (a := d 6 i) (b := s) (by omega) (by omega)).mp z])))]
      rw [if_neg q] at hstep
      rw [hc]
      simp only [mg, Option.bind_some, rt_some, nx_l]
      exact ⟨by rw [hstep]; rfl, nI_1 i, hq, hA1⟩
  · rintro ⟨v, c, w1⟩ ⟨h1, h2, hq, hA1⟩
    dsimp only at h1 h2 hq hA1
    subst h1 h2
    unfold l_X9_yearly_5
    dsimp only
    rw [rt_onL, hq.1.2.2.1.1, if_pos (nI_le (Nat.le_refl _) (by omega)), rt_some, nx_r]
    exact ⟨hq.1.1, rfl, hq, hA1⟩
end Speech
