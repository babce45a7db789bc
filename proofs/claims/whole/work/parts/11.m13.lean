/-! the class: its speeches and prices -/
def prI (x : Option Nat × Nat) : Int32 := match x.1 with
  | none => -2
  | some v => nI (64 * v + x.2)
def CDm (d : Dt) (w : Mm) : Prop := gI w 6 5 = nI (d 0 3) ∧ gI w 6 6 = nI (d 0 4) ∧ (∀ s, s < 4 → gI w 7 s = nI (d 5 s)) ∧ ∀ i, i < 24 → gI w 8 i = nI (d 6 i) ∧ gI w 9 i = nI (d 7 i) ∧ gI w 10 i = nI (d 8 i) ∧ gI w 11 i = nI (d 9 i)
def scN (c k : Nat) : Prop := c = 22 ∨ c = 23 ∨ (c = 16 ∧ k = 8)
/-- the class's law of what is near costs as C says, whatever else the memory holds -/
def CNr (d : Dt) (C : Ct) (w : Mm) : Prop := gI w 16 9 = nI (d 0 6) ∧ gI w 14 5 = nI (d 0 7) ∧ ∀ w', (∀ c k, (c = 16 ∧ k = 9) ∨ (17 ≤ c ∧ c ≤ 21) → gI w' c k = gI w c k) → Lay w' → ∀ m c b, m < 64 → c < 64 → b ≤ 3000 → Rt (f_X4_extraFor 16 (nI m) (nI c) (nI b) w') (fun p => p.1 = oI (C m c b) ∧ fx scN w' p.2)
/-- what the class keeps of its state itself -/
def cB (c k : Nat) : Prop := (1 ≤ c ∧ c ≤ 11) ∨ (c = 12 ∧ k = 1) ∨ c = 13 ∨ (c = 14 ∧ k = 5) ∨ (c = 16 ∧ k = 9) ∨ (17 ≤ c ∧ c ≤ 21) ∨ (36 ≤ c ∧ c ≤ 39)
/-- base cells and the reference's are as they were -/
def cq (w w' : Mm) : Prop := ∀ c k, cB c k ∨ inM c → gI w' c k = gI w c k ∧ gL w' c k = gL w c k
theorem cq.rf {w : Mm} : cq w w := fun _ _ _ => ⟨rfl, rfl⟩
theorem cq.tr {w w' w'' : Mm} (h : cq w w') (h' : cq w' w'') : cq w w'' := fun c k hc => ⟨(h' c k hc).1.trans (h c k hc).1, (h' c k hc).2.trans (h c k hc).2⟩
theorem CLx.cq {d : Dt} {w w' : Mm} (h : CLx d w) (f : cq w w') : CLx d w' := by
  obtain ⟨h1, h2, h3, h4⟩ := h
  refine ⟨?_, ?_, ?_, fun k hk => ?_⟩
  · rw [(f 1 4 (by unfold cB; omega)).1]; exact h1
  · rw [(f 1 5 (by unfold cB; omega)).1]; exact h2
  · rw [(f 1 6 (by unfold cB; omega)).1]; exact h3
  · rw [(f 2 k (by unfold cB; omega)).1, (f 3 k (by unfold cB; omega)).1, (f 4 k (by unfold cB; omega)).1, (f 5 k (by unfold cB; omega)).1]; exact h4 k hk
theorem CDm.cq {d : Dt} {w w' : Mm} (h : CDm d w) (f : cq w w') : CDm d w' := by
  obtain ⟨h1, h2, h3, h4⟩ := h
  refine ⟨?_, ?_, fun k hk => ?_, fun k hk => ?_⟩
  · rw [(f 6 5 (by unfold cB; omega)).1]; exact h1
  · rw [(f 6 6 (by unfold cB; omega)).1]; exact h2
  · rw [(f 7 k (by unfold cB; omega)).1]; exact h3 k hk
  · rw [(f 8 k (by unfold cB; omega)).1, (f 9 k (by unfold cB; omega)).1, (f 10 k (by unfold cB; omega)).1, (f 11 k (by unfold cB; omega)).1]; exact h4 k hk
theorem CNr.cq {d : Dt} {C : Ct} {w w' : Mm} (h : CNr d C w) (f : cq w w') : CNr d C w' := by
  obtain ⟨h1, h2, h3⟩ := h
  refine ⟨by rw [(f 16 9 (by unfold cB; omega)).1]; exact h1, by rw [(f 14 5 (by unfold cB; omega)).1]; exact h2, fun w2 hw => h3 w2 (fun c k hc => ?_)⟩
  rw [hw c k hc, (f c k (by unfold cB; omega)).1]
theorem lay_sR {w : Mm} {c k : Nat} {v : Option Nat} (hc : c = 15 ∨ (c = 24 ∧ k = 6) ∨ 87 ≤ c) (h : Lay w) : Lay (sR w c k v) := by
  refine ⟨h.1, fun x hx => ?_⟩
  have hb : x.1 < 87 ∧ x.1 ≠ 15 ∧ ¬ (x.1 = 24 ∧ x.2.1 = 6) := by
    revert x
    decide +kernel
  show up2 w.2.2.1 c k v x.1 x.2.1 = _
  unfold up2
  rw [if_neg (by omega)]
  exact h.2 x hx
section Alloc
variable {w : Mm} {t n : Nat}
theorem gI_al (c k : Nat) : gI (al w t n) c k = if c = mlen w then 0 else gI w c k := rfl
theorem gL_al (c k : Nat) : gL (al w t n) c k = if c = mlen w then 0 else gL w c k := rfl
theorem gR_al (c k : Nat) : gR (al w t n) c k = if c = mlen w then none else gR w c k := rfl
theorem gK_alo {c : Nat} (h : c < mlen w) : gK (al w t n) c = gK w c := by
  unfold gK al
  exact List.getElem?_append_left h
theorem gK_aln : gK (al w t n) (mlen w) = some (t, n) := by simp [gK, al, mlen]
theorem alq_ok (h1 : mlen w + 1 ≤ 600000) (h2 : mslots w + n ≤ 7302250) : alq w t n = some (mlen w, al w t n) := if_pos ⟨h1, h2⟩
theorem gK_lt {c : Nat} {q : Nat × Nat} (h : gK w c = some q) : c < mlen w := (List.getElem?_eq_some_iff.mp h).1
end Alloc
/-- the speech at a, of the tongue t, with BRIEF B; its prices are right where they are marked -/
def SpOk (d : Dt) (C : Ct) (B : Nat → Option Nat) (t a : Nat) (w : Mm) : Prop := isSp w a = true ∧ (gI w a 2 = nI t ∧ gI w a 3 = nI (jl d 1 t) ∧ gI w a 4 = nI (jl d 2 t) ∧ gI w a 5 = nI (jl d 3 t)) ∧ Row w (a + 1) (fun m => enc 268435456 (B m)) ∧ (∃ st, st ≤ d 0 7 ∧ gI w a 8 = nI st ∧ (st = d 0 7 → ∀ m, m < 64 → btL (gL w a 7) m = true → ∃ p, gR w a 6 = some p ∧ gI w p m = prI (sy C B m 64))) ∧ ∀ p, gR w a 6 = some p → gK w p = some (20, 64)
section Price
variable {d : Dt} {C : Ct} {B : Nat → Option Nat} {t a m : Nat} {w : Mm}
theorem x9_loop (oC : OkC d C) (hB : ∀ j b, B j = some b → b ≤ 3000) (hL : Lay w) (hN : CNr d C w) (ha : a = 24 ∨ 87 ≤ a) (hsp : isSp w a = true) (hr : Row w (a + 1) (fun j => enc 268435456 (B j))) (hm : m < 64) (o6 : Nat) : Rt (wh (l_X9_price_120 a (nI m) o6) FUEL (nI (enc 268435456 (B m)), nI m, (0 : Int32), w)) (fun p => p.1 = nI (enc 268435456 (sy C B m 64).1) ∧ p.2.1 = nI (sy C B m 64).2 ∧ fx scN w p.2.2) := by
  have hle : ∀ k b, (sy C B m k).1 = some b → b ≤ 4000 := fun k b e => sy_le hB oC.1 k b e
  refine rt_for (fun k s => s.1 = nI (enc 268435456 (sy C B m k).1) ∧ s.2.1 = nI (sy C B m k).2 ∧ s.2.2.1 = nI k ∧ fx scN w s.2.2.2) 64 ?_ ?_ ⟨rfl, rfl, rfl, fx.rf⟩ (by decide)
  · rintro k ⟨b, y, c, w1⟩ hk ⟨h1, h2, h3, hf⟩
    dsimp only at h1 h2 h3 hf
    subst h1 h2 h3
    have hL1 := hf.lay hL
    have hsp1 : isSp w1 a = true := by
      have : isSp w1 a = isSp w a := by
        unfold isSp gK gR
        rw [hf.1]
      rw [this]; exact hsp
    unfold l_X9_price_120
    dsimp only
    rw [if_neg (show ¬ (64 : Int32) ≤ nI k from nI_ge (b := 64) hk (by decide)), if_pos hsp1, if_pos (inb_nI hk (by decide)), ix_nI (by omega), hf.I (show ¬ scN (a + 1) k by unfold scN; omega), show gI w (a + 1) k = nI (enc 268435456 (B k)) from hr k hk]
    by_cases q1 : k = m
    · subst q1
      rw [if_pos rfl, Option.bind_some, rt_some, nx_l]
      dsimp only
      rw [sy_m]
      exact ⟨rfl, rfl, nI_1 k, hf⟩
    · rw [if_neg (fun e => q1 ((nI_eq (by omega) (by omega)).mp e))]
      have hle0 : enc 268435456 (sy C B m k).1 ≤ 268435456 := enc_le (fun b e => by have := hle k b e; omega)
      cases e : B k with
      | none =>
        rw [enc_n, if_pos (nI_le hle0 (by decide)), Option.bind_some, rt_some, nx_l]
        dsimp only
        rw [sy_n e]
        exact ⟨rfl, rfl, nI_1 k, hf⟩
      | some b =>
        have hb := hB k b e
        rw [enc_s]
        by_cases q2 : enc 268435456 (sy C B m k).1 ≤ b
        · rw [if_pos (nI_le q2 (by omega)), Option.bind_some, rt_some, nx_l]
          dsimp only
          have : sy C B m (k + 1) = sy C B m k := by
            cases ec : C m k b with
            | none => exact sy_c e ec
            | some x =>
              refine sy_z e ec ?_
              cases es : (sy C B m k).1 with
              | none => rw [es, enc_n] at q2; omega
              | some v => rw [es, enc_s] at q2; rw [enc_s]; omega
          rw [this]
          exact ⟨rfl, rfl, nI_1 k, hf⟩
        · rw [if_neg (nI_ge (by omega) (by omega))]
          simp only [rt_bind, rt_onL]
          refine ⟨hL1, (hN.2.2 w1 (fun c k hc => hf.I (by unfold scN; omega)) hL1 m k b hm hk hb).mono ?_⟩
          rintro ⟨x, w2⟩ ⟨e2, f2⟩
          dsimp only at e2 f2 ⊢
          subst e2
          have f02 : fx scN w w2 := hf.tr f2
          cases ec : C m k b with
          | none =>
            rw [if_pos (by rfl), rt_some, rt_some, nx_l]
            dsimp only
            rw [sy_c e ec]
            exact ⟨rfl, rfl, nI_1 k, f02⟩
          | some x =>
            have hx := oC.1 m k b x ec
            rw [show oI (some x) = nI x from rfl, if_neg (nm1 (by omega)), nI_add]
            by_cases q3 : enc 268435456 (sy C B m k).1 ≤ b + x
            · rw [if_pos (nI_le q3 (by omega)), rt_some, rt_some, nx_l]
              dsimp only
              rw [sy_z e ec (by
                cases es : (sy C B m k).1 with
                | none => rw [es, enc_n] at q3; omega
                | some v => rw [es, enc_s] at q3; rw [enc_s]; omega)]
              exact ⟨rfl, rfl, nI_1 k, f02⟩
            · rw [if_neg (nI_ge (by omega) (by omega)), rt_some, rt_some, nx_l]
              dsimp only
              rw [sy_y q1 e ec (by
                cases es : (sy C B m k).1 with
                | none => rw [enc_n]; omega
                | some v => rw [es, enc_s] at q3; rw [enc_s]; omega)]
              exact ⟨rfl, rfl, nI_1 k, f02⟩
  · rintro ⟨b, y, c, w1⟩ ⟨h1, h2, h3, hf⟩
    dsimp only at h1 h2 h3 hf
    subst h1 h2 h3
    unfold l_X9_price_120
    dsimp only
    rw [if_pos (show (64 : Int32) ≤ nI 64 by decide), rt_some, nx_r]
    exact ⟨rfl, rfl, hf⟩
theorem price_v {x : Option Nat × Nat} (h1 : ∀ v, x.1 = some v → v ≤ 4000) (h2 : x.2 < 64) : (if (268435456 : Int32) ≤ nI (enc 268435456 x.1) then some (-2 : Int32) else some ((nI (enc 268435456 x.1) <<< ((6 : Int32) &&& 31)) ||| nI x.2)) = some (prI x) := by
  unfold prI
  cases e : x.1 with
  | none => rw [enc_n, if_pos (by decide)]
  | some v =>
    have := h1 v e
    rw [enc_s, if_neg (show ¬ (268435456 : Int32) ≤ nI v from nI_ge (b := 268435456) (by omega) (by decide)), pk_shlN _ 6 (by decide) (by omega), show v * 2 ^ 6 = 2 ^ 6 * v by omega, fa_or_sum v (k := 6) h2]
/-- what a price leaves: the speech's marks, its prices, scratch cells -/
def PrQ (d : Dt) (C : Ct) (B : Nat → Option Nat) (t a : Nat) (w w' : Mm) : Prop := SpOk d C B t a w' ∧ Lay w' ∧ (∀ c k, c < mlen w → ¬ ((c = a ∧ (k = 7 ∨ k = 8)) ∨ gR w a 6 = some c ∨ scN c k) → gI w' c k = gI w c k ∧ gL w' c k = gL w c k) ∧ gL w' a 9 = gL w a 9 ∧ (∀ c, c < mlen w → gK w' c = gK w c) ∧ (∀ c k, c < mlen w → ¬ (c = a ∧ k = 6) → gR w' c k = gR w c k) ∧ ((mlen w' = mlen w ∧ mslots w' = mslots w ∧ gR w' a 6 = gR w a 6) ∨ (mlen w' = mlen w + 1 ∧ mslots w' = mslots w + 64 ∧ gR w a 6 = none ∧ gR w' a 6 = some (mlen w)))
end Price
