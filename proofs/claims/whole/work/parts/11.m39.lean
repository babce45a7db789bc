/-! MADE UP: the class -/
/-- TALK with a WORD more, of the MEANING m and the LENGTH l -/
noncomputable def vU (d : Dt) (C : Ct) (l m : Nat) : Nat := if l < enc 1000000 (BF d (d 0 1) m) then tkAB d C (BC d (d 0 1) m l) (d 0 3) else tkA d C (d 0 1)
noncomputable def aU (d : Dt) (C : Ct) (l n : Nat) : Option Nat := amin (fun _ => true) (fun m => (vU d C l m : Int)) n
section Made
variable {d : Dt} {C : Ct} {w : Mm}
theorem vU_lt (o : OkM d) (l m : Nat) : vU d C l m < 2 ^ 31 := by
  unfold vU
  split
  · exact Nat.lt_of_le_of_lt (tkAB_le o o.1) (by decide)
  · exact Nat.lt_of_le_of_lt (tkA_le o) (by decide)
theorem aU_some (o : OkM d) (l : Nat) : ∃ b, b < 64 ∧ aU d C l 64 = some b := by
  cases e : aU d C l 64 with
  | some b => exact ⟨b, (amin_some e).1, rfl⟩
  | none => have := amin_none.mp e 0 (by decide); cases this
theorem KI.ch {w' : Mm} (h : KI d C w) (f : fr (fun c => c = 24 ∨ c = 25) w w') (h8 : gI w' 24 8 = gI w 24 8) : KQ d C w w' := by
  obtain ⟨hL, hx, hd, hn, ⟨own, hO, hO2, st, hst, g8⟩, hR⟩ := h
  have hcs : cs w w' := fun c k _ h1 h2 _ => ⟨f.I (by omega) k, f.L (by omega) k⟩
  refine ⟨⟨f.lay hL, hx.cq hcs.q, hd.cq hcs.q, hn.cq hcs.q, ⟨own, fun k a hk ha => ?_, fun p hp => ?_, st, hst, by rw [h8]; exact g8⟩, ?_⟩, hcs, fun k a hk ha => ?_⟩
  · rw [f.R] at ha
    obtain ⟨q0, q1, q2, q3, q4, q5⟩ := hO k a hk ha
    exact ⟨q0, q1, q2, q3, fun p hp => by rw [f.R] at hp; rw [f.x.ml]; exact q4 p hp, q5.st (fun j => f.I (by omega) j) (fun j => f.I (by omega) j) (f.L (by omega) 7) (fun j => f.R a j) (fun c _ => f.K c) (fun p hp j => f.I (by have := (q4 p hp).1; omega) j)⟩
  · rw [f.R] at hp
    rw [f.x.ml, f.K]
    exact hO2 p hp
  · have hr : ∀ k, rm w' k = rm w k := fun k => rm_cong (f.R 15 k) (fun a _ => f.R a 6)
    unfold Rm
    rw [f.x.ml, f.x.ms, f.R, fb_sm_cong (fun k _ => hr k)]
    exact hR
  · obtain ⟨q0, q1, -⟩ := hO k a hk ha
    exact ⟨by rw [f.R]; exact ha, f.L (by omega) 9⟩
theorem x9_child (o : Ok d C) (h : KI d C w) {m l : Nat} (hm : m < 64) (hl : l ≤ 9) : Rt (f_X7_solve 24 (nI (d 0 1)) (nI m) (nI l) w) (fun w' => KQ d C w w' ∧ Act d C (BC d (d 0 1) m l) (d 0 1) 24 w') := by
  refine (x7_solve (a := 24) o.1 h.1 h.2.1 (by decide) (sp_24 h.1) o.1.2.1 hm (Or.inl hl)).mono ?_
  rintro w' ⟨f, ⟨s2, s3, s4, s5, sr⟩, p7, p8, -⟩
  have hq := h.ch f p8
  refine ⟨hq, Or.inr ⟨rfl, ?_⟩⟩
  obtain ⟨-, -, -, -, ⟨own, -, hO2, st, hst, g8⟩, -⟩ := hq.1
  exact ⟨sp_24 hq.1.1, ⟨s2, s3, s4, s5⟩, sr, ⟨st, hst, g8, fun _ j _ hb => by rw [p7, bL_z] at hb; cases hb⟩, fun p hp => (hO2 p hp).2.2.2⟩
theorem x9_childsWord (o : Ok d C) (hst : d 0 7 < 2 ^ 31) (h : KI d C w) {l : Nat} (hl1 : 1 ≤ l) (hl : l ≤ 9) (x2 : Int32) : Rt (f_X9_childsWord (nI l) x2 w) (fun p => KQ d C w p.2 ∧ ∃ b, b < 64 ∧ aU d C l 64 = some b ∧ p.1 = if x2 = 0 then (nI b).toInt64 else lN (tkA d C (d 0 1)) - lN (vU d C l b)) := by
  have p10 := pow10 o.1.1
  have hu := o.1.2.1
  unfold f_X9_childsWord
  rw [h.U, rt_bind]
  refine (x_sp o h hu).mono ?_
  rintro ⟨a, w1⟩ ⟨q1, hA, hs, hL, e1⟩
  dsimp only at q1 hA hs hL e1 ⊢
  rw [if_pos hs.1, rt_onL, rt_bind]
  refine ⟨hL, (x9_yearly (B := BF d (d 0 1)) (so := none) o hst (fun j b e => BF_le o.1 e) q1.1 hA (fun s' e => by cases e)).mono ?_⟩
  rintro ⟨v, w2⟩ ⟨e2, q2, -⟩
  dsimp only at e2 q2 ⊢
  subst e2
  rw [tks_n, rt_bind]
  have q02 := q1.tr q2
  have e15 : gR w2 15 (d 0 1) = some a := (q2.2.2 _ _ (by omega) e1).1
  refine Rt.mono (rt_for (Q := fun p => p.1 = lz (vU d C l) (aU d C l 64) ∧ p.2.1 = oI (aU d C l 64) ∧ KQ d C w p.2.2) (fun i s => s.1 = lz (vU d C l) (aU d C l i) ∧ s.2.1 = oI (aU d C l i) ∧ s.2.2.1 = nI i ∧ KQ d C w s.2.2.2 ∧ gR s.2.2.2 15 (d 0 1) = some a) 64 ?_ ?_ ⟨rfl, rfl, rfl, q02, e15⟩ (by decide)) ?_
  · rintro i ⟨le, me, c, w3⟩ hi ⟨h1, h2, h3, hq, e3⟩
    dsimp only at h1 h2 h3 hq e3
    subst h1 h2 h3
    have hA3 : Act d C (BF d (d 0 1)) (d 0 1) a w3 := Or.inl ⟨by omega, e3, rfl⟩
    have hs3 := hA3.sp hq.1
    unfold l_X9_childsWord_29
    dsimp only
    rw [if_neg (show ¬ (64 : Int32) ≤ nI i from nI_ge (b := 64) hi (by decide)), if_pos hs3.1, if_pos (inb_nI hi (by decide)), ix_nI (by omega), show gI w3 (a + 1) i = nI (enc 268435456 (BF d (d 0 1) i)) from hs3.2.2.1 i hi, hq.1.U]
    have b1 := encF_le o.1 (t := d 0 1) i
    have hval : Rt (if nI (enc 268435456 (BF d (d 0 1) i)) ≤ nI l then some (lN (tkAB d C (BF d (d 0 1)) (d 0 3)), w3) else onL w3 (Option.bind (f_X7_solve 24 (nI (d 0 1)) (nI i) (nI l) w3) (fun p12 => onL p12 (Option.bind (f_X9_yearly 24 (-1 : Int32) p12) (fun p14 => some (p14.1, p14.2)))))) (fun p => p.1 = lN (vU d C l i) ∧ KQ d C w p.2 ∧ gR p.2 15 (d 0 1) = some a) := by
      have hcmp : l < enc 1000000 (BF d (d 0 1) i) ↔ l < enc 268435456 (BF d (d 0 1) i) := by
        cases e : BF d (d 0 1) i with
        | none => rw [enc_n, enc_n]; omega
        | some x => rw [enc_s, enc_s]
      by_cases c1 : enc 268435456 (BF d (d 0 1) i) ≤ l
      · rw [if_pos (nI_le c1 (by omega)), rt_some]
        unfold vU
        rw [if_neg (by omega)]
        exact ⟨rfl, hq, e3⟩
      · rw [if_neg (nI_ge (by omega) (by omega)), rt_onL, rt_bind]
        refine ⟨hq.1.1, (x9_child o hq.1 hi hl).mono ?_⟩
        rintro w4 ⟨q4, A4⟩
        rw [rt_onL, rt_bind]
        refine ⟨q4.1.1, (x9_yearly (B := BC d (d 0 1) i l) (so := none) o hst (fun j b e => BC_le o.1 hi e) q4.1 A4 (fun s' e => by cases e)).mono ?_⟩
        rintro ⟨v, w5⟩ ⟨e5, q5, -⟩
        dsimp only at e5 q5 ⊢
        subst e5
        rw [rt_some, tks_n]
        unfold vU
        rw [if_pos (hcmp.mpr (by omega))]
        have q45 := q4.tr q5
        exact ⟨rfl, hq.tr q45, (q45.2.2 _ _ (by omega) e3).1⟩
    rw [rt_bind]
    refine hval.mono ?_
    rintro ⟨v, w4⟩ ⟨e4, q4, e4'⟩
    dsimp only at e4 q4 e4' ⊢
    subst e4
    unfold aU
    cases e : amin (fun _ => true) (fun m => (vU d C l m : Int)) i with
    | none =>
      rw [if_pos (by rfl)]
      simp only [mg, Option.bind_some]
      rw [rt_some, nx_l]
      dsimp only
      rw [amin_0 (p := fun _ => true) rfl e]
      exact ⟨rfl, rfl, nI_1 i, q4, e4'⟩
    | some b =>
      have hb := (amin_some e).1
      have v1 := vU_lt (C := C) o.2.1 l b
      have v2 := vU_lt (C := C) o.2.1 l i
      rw [if_neg (show ¬ oI (some b) = -1 from nm1 (by omega)), show lz (vU d C l) (some b) = lN (vU d C l b) from rfl]
      by_cases c2 : vU d C l b ≤ vU d C l i
      · rw [if_pos ((lN_le v1 v2).mpr c2)]
        simp only [mg, Option.bind_some]
        rw [rt_some, nx_l]
        dsimp only
        rw [amin_k e (by omega)]
        exact ⟨rfl, rfl, nI_1 i, q4, e4'⟩
      · rw [if_neg (fun z => c2 ((lN_le v1 v2).mp z))]
        simp only [mg, Option.bind_some]
        rw [rt_some, nx_l]
        dsimp only
        rw [amin_l (p := fun _ => true) rfl e (by omega)]
        exact ⟨rfl, rfl, nI_1 i, q4, e4'⟩
  · rintro ⟨le, me, c, w3⟩ ⟨h1, h2, h3, hq, e3⟩
    dsimp only at h1 h2 h3 hq e3
    subst h1 h2 h3
    unfold l_X9_childsWord_29
    dsimp only
    rw [if_pos (show (64 : Int32) ≤ nI 64 by decide), rt_some, nx_r]
    exact ⟨rfl, rfl, hq⟩
  · rintro ⟨le, me, w3⟩ ⟨h1, h2, hq⟩
    dsimp only at h1 h2 hq ⊢
    subst h1 h2
    obtain ⟨b, hb, eb⟩ := aU_some (C := C) o.2.1 l
    rw [eb]
    by_cases z : x2 = 0
    · rw [if_pos z, rt_some]
      exact ⟨hq, b, hb, rfl, by rw [if_pos z]; rfl⟩
    · rw [if_neg z, rt_some]
      exact ⟨hq, b, hb, rfl, by rw [if_neg z]; rfl⟩
end Made
