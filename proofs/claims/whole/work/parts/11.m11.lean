/-! SAYABLE, TALK, MUSTS -/
def OkM (d : Dt) : Prop := d 0 3 ≤ 24 ∧ d 0 4 ≤ 5000 ∧ (∀ s, s < 4 → d 5 s ≤ 1000) ∧ ∀ i, i < 24 → d 6 i < 4 ∧ d 7 i < 64 ∧ d 8 i ≤ 1000 ∧ d 9 i ≤ 2000
abbrev Ct : Type := Nat → Nat → Nat → Option Nat
def OkC (d : Dt) (C : Ct) : Prop := (∀ m c b x, C m c b = some x → x ≤ 1000) ∧ (d 0 6 = 0 → ∀ m c b, C m c b = none) ∧ d 0 6 ≤ 12
def syS (C : Ct) (B : Nat → Option Nat) (m k : Nat) (s : Option Nat × Nat) : Option Nat × Nat := if k = m then s else match B k with
  | none => s
  | some b => match C m k b with
    | none => s
    | some x => if b + x < enc 1000000 s.1 then (some (b + x), k) else s
def sy (C : Ct) (B : Nat → Option Nat) (m : Nat) : Nat → Option Nat × Nat
  | 0 => (B m, m)
  | k + 1 => syS C B m k (sy C B m k)
section Sy
variable {C : Ct} {B : Nat → Option Nat} {m k : Nat}
theorem sy_m : sy C B m (m + 1) = sy C B m m := by rw [sy, syS, if_pos rfl]
theorem sy_n (h : B k = none) : sy C B m (k + 1) = sy C B m k := by
  rw [sy, syS]
  split
  · rfl
  · rw [h]
theorem sy_c {b : Nat} (h : B k = some b) (hc : C m k b = none) : sy C B m (k + 1) = sy C B m k := by
  rw [sy, syS]
  split
  · rfl
  · simp only [h, hc]
theorem sy_y {b x : Nat} (hk : k ≠ m) (h : B k = some b) (hc : C m k b = some x) (hl : b + x < enc 1000000 (sy C B m k).1) : sy C B m (k + 1) = (some (b + x), k) := by
  rw [sy, syS, if_neg hk]
  simp only [h, hc]
  rw [if_pos hl]
theorem sy_z {b x : Nat} (h : B k = some b) (hc : C m k b = some x) (hl : ¬ b + x < enc 1000000 (sy C B m k).1) : sy C B m (k + 1) = sy C B m k := by
  rw [sy, syS]
  split
  · rfl
  · simp only [h, hc]
    rw [if_neg hl]
theorem sy_le (hB : ∀ j b, B j = some b → b ≤ 3000) (hC : ∀ m c b x, C m c b = some x → x ≤ 1000) : ∀ k v, (sy C B m k).1 = some v → v ≤ 4000
  | 0, v, h => by have := hB m v h; omega
  | k + 1, v, h => by
    rw [sy, syS] at h
    have ih := sy_le hB hC k v
    split at h
    · exact ih h
    · split at h
      · exact ih h
      · rename_i b hb
        split at h
        · exact ih h
        · rename_i x hx
          split at h
          · have := hB k b hb
            have := hC m k b x hx
            injection h with h
            omega
          · exact ih h
theorem sy_by (hm : m < 64) : ∀ k, k ≤ 64 → (sy C B m k).2 < 64
  | 0, _ => hm
  | k + 1, h => by
    rw [sy, syS]
    have ih := sy_by hm k (by omega)
    split
    · exact ih
    · split
      · exact ih
      · split
        · exact ih
        · split
          · show k < 64; omega
          · exact ih
theorem sy_none (hC : ∀ m c b, C m c b = none) : ∀ k, sy C B m k = (B m, m)
  | 0 => rfl
  | k + 1 => by
    rw [sy, syS, sy_none hC k]
    split
    · rfl
    · split
      · rfl
      · rw [hC]
end Sy
noncomputable def pz (d : Dt) (C : Ct) (t m : Nat) : Option Nat × Nat := sy C (BF d t) m 64
/-- what one WANT costs, with BRIEF B -/
def tw (d : Dt) (C : Ct) (B : Nat → Option Nat) (i : Nat) : Nat := d 8 i * min (enc 1000000 (sy C B (d 7 i) 64).1) (d 0 4)
/-- TALK by a SORT, by all -/
def tkB (d : Dt) (C : Ct) (B : Nat → Option Nat) (s n : Nat) : Nat := fb_sm (fun i => if d 6 i = s then tw d C B i else 0) n
noncomputable def tk (d : Dt) (C : Ct) (t s : Nat) : Nat := tkB d C (BF d t) s (d 0 3)
def tkAB (d : Dt) (C : Ct) (B : Nat → Option Nat) (n : Nat) : Nat := fb_sm (fun i => tw d C B i) n
noncomputable def tkA (d : Dt) (C : Ct) (t : Nat) : Nat := tkAB d C (BF d t) (d 0 3)
/-- MUSTS that can't be -/
noncomputable def muR (d : Dt) (C : Ct) (t : Nat) : Nat → Nat
  | 0 => 0
  | i + 1 => muR d C t i ||| (if 0 < d 9 i ∧ d 9 i < enc 1000000 (pz d C t (d 7 i)).1 then 2 ^ i else 0)
noncomputable def mu (d : Dt) (C : Ct) (t : Nat) : Nat := muR d C t (d 0 3)
theorem tw_le {d : Dt} (o : OkM d) {C : Ct} {B : Nat → Option Nat} {i : Nat} (hi : i < 24) : tw d C B i ≤ 5000000 := by
  unfold tw
  have h1 := (o.2.2.2 i hi).2.2.1
  have h2 : min (enc 1000000 (sy C B (d 7 i) 64).1) (d 0 4) ≤ 5000 := by have := o.2.1; omega
  exact Nat.mul_le_mul h1 h2
theorem tkB_le {d : Dt} (o : OkM d) {C : Ct} {B : Nat → Option Nat} {s n : Nat} (hn : n ≤ 24) : tkB d C B s n ≤ 120000000 := by
  unfold tkB
  have h := fb_sm_le (f := fun i => if d 6 i = s then tw d C B i else 0) (g := fun _ => 5000000) (n := n) (fun k hk => by
    split
    · exact tw_le o (by omega)
    · omega)
  rw [fb_sm_const] at h
  have : n * 5000000 ≤ 24 * 5000000 := Nat.mul_le_mul hn (Nat.le_refl _)
  omega
theorem tkAB_le {d : Dt} (o : OkM d) {C : Ct} {B : Nat → Option Nat} {n : Nat} (hn : n ≤ 24) : tkAB d C B n ≤ 120000000 := by
  unfold tkAB
  have h := fb_sm_le (f := fun i => tw d C B i) (g := fun _ => 5000000) (n := n) (fun k hk => tw_le o (by omega))
  rw [fb_sm_const] at h
  have : n * 5000000 ≤ 24 * 5000000 := Nat.mul_le_mul hn (Nat.le_refl _)
  omega
theorem tk_le {d : Dt} (o : OkM d) {C : Ct} {t s : Nat} : tk d C t s ≤ 120000000 := tkB_le o o.1
theorem tkA_le {d : Dt} (o : OkM d) {C : Ct} {t : Nat} : tkA d C t ≤ 120000000 := tkAB_le o o.1
theorem tk_sum {d : Dt} (o : OkM d) {C : Ct} {B : Nat → Option Nat} : ∀ n, n ≤ 24 → fb_sm (fun s => tkB d C B s n) 4 = tkAB d C B n
  | 0, _ => rfl
  | n + 1, h => by
    have ih := tk_sum o (C := C) (B := B) n (by omega)
    have hs := (o.2.2.2 n (by omega)).1
    unfold tkAB at ih ⊢
    rw [fb_sm_succ (fun i => tw d C B i) n, ← ih]
    simp only [fb_sm, tkB]
    rcases (show d 6 n = 0 ∨ d 6 n = 1 ∨ d 6 n = 2 ∨ d 6 n = 3 by omega) with e | e | e | e <;> rw [e] <;> simp <;> omega
def MDm (d : Dt) (w : Mm) : Prop := gI w 47 3 = nI (d 0 3) ∧ gI w 47 5 = nI (d 0 4) ∧ (∀ s, s < 4 → gI w 53 s = nI (d 5 s)) ∧ ∀ i, i < 24 → gI w 54 i = nI (d 6 i) ∧ gI w 55 i = nI (d 7 i) ∧ gI w 56 i = nI (d 8 i) ∧ gI w 57 i = nI (d 9 i)
theorem MDm.qf {d : Dt} {w w' : Mm} (h : MDm d w) (f : qf w w') : MDm d w' := by
  obtain ⟨h1, h2, h3, h4⟩ := h
  refine ⟨?_, ?_, fun k hk => ?_, fun k hk => ?_⟩
  · rw [f.I (by unfold mB; omega)]; exact h1
  · rw [f.I (by unfold mB; omega)]; exact h2
  · rw [f.I (by unfold mB; omega)]; exact h3 k hk
  · rw [f.I (by unfold mB; omega), f.I (by unfold mB; omega), f.I (by unfold mB; omega), f.I (by unfold mB; omega)]; exact h4 k hk
def scC (c k : Nat) : Prop := c = 69 ∨ c = 70 ∨ (c = 47 ∧ (k = 38 ∨ k = 39 ∨ k = 40))
def scS (c k : Nat) : Prop := c = 69 ∨ c = 70 ∨ (c = 47 ∧ (k = 38 ∨ k = 39 ∨ k = 40 ∨ k = 48))
/-- the reference's law of what is near costs as C says, whatever else its memory holds -/
def MNr (d : Dt) (C : Ct) (w : Mm) : Prop := gI w 47 17 = nI (d 0 6) ∧ ∀ w', (∀ c k, (c = 47 ∧ k = 17) ∨ (58 ≤ c ∧ c ≤ 62) → gI w' c k = gI w c k) → Lay w' → ∀ m c b, m < 64 → c < 64 → b ≤ 3000 → Rt (f_X12_costOf (nI m) (nI c) (nI b) w') (fun p => p.1 = oI (C m c b) ∧ fx scC w' p.2)
theorem MNr.qf {d : Dt} {C : Ct} {w w' : Mm} (h : MNr d C w) (f : qf w w') : MNr d C w' := by
  obtain ⟨h1, h2⟩ := h
  refine ⟨by rw [f.I (by unfold mB; omega)]; exact h1, fun w2 hw => h2 w2 (fun c k hc => ?_)⟩
  rw [hw c k hc, f.I (by unfold mB; omega)]
section MSay
variable {d : Dt} {C : Ct} {w : Mm} {t m : Nat} {B : Nat → Option Nat}
theorem enc_s (F b : Nat) : enc F (some b) = b := rfl
theorem enc_n (F : Nat) : enc F none = F := rfl
theorem enc_le {F : Nat} {o : Option Nat} (h : ∀ b, o = some b → b ≤ F) : enc F o ≤ F := by
  cases o with
  | none => exact Nat.le_refl _
  | some b => exact h b rfl
theorem m_briefRow (ht : t < 1024) (hL : Lay w) (h71 : ¬ gI w 71 t = 0) (hr : RowM w t (fun j => enc 1000000 (B j))) {j : Nat} (hj : j < 64) : f_X12_briefOf (nI t) (nI j) w = some (nI (enc 1000000 (B j)), w) := by
  unfold f_X12_briefOf
  rw [m_lays_yes ht h71, Option.bind_some, onL_pos _ hL, show (64 : Int32) = nI 64 from rfl, pk_mul, nI_add, if_pos (inb_nI (n := 65536) (by omega) (by decide)), ix_nI (by omega), hr j hj]
theorem m_sayLoop (oC : OkC d C) (hB : ∀ j b, B j = some b → b ≤ 3000) (hL : Lay w) (hN : MNr d C w) (ht : t < 1024) (h71 : ¬ gI w 71 t = 0) (hr : RowM w t (fun j => enc 1000000 (B j))) (hm : m < 64) : Rt (wh (l_X12_sayableOf_15 (nI t) (nI m)) FUEL (nI (enc 1000000 (B m)), (0 : Int32), sI w 47 48 (nI m))) (fun p => p.1 = nI (enc 1000000 (sy C B m 64).1) ∧ gI p.2 47 48 = nI (sy C B m 64).2 ∧ fx scS w p.2) := by
  have hle : ∀ k, enc 1000000 (sy C B m k).1 ≤ 1000000 := fun k => enc_le (fun b e => by have := sy_le hB oC.1 k b e; omega)
  refine rt_for (fun k s => s.1 = nI (enc 1000000 (sy C B m k).1) ∧ s.2.1 = nI k ∧ gI s.2.2 47 48 = nI (sy C B m k).2 ∧ fx scS w s.2.2) 64 ?_ ?_ ⟨rfl, rfl, by rw [gI_sI, if_pos ⟨rfl, rfl⟩]; rfl, fx.sI (by unfold scS; omega)⟩ (by decide)
  · rintro k ⟨b, c, w1⟩ hk ⟨h1, h2, h3, hf⟩
    dsimp only at h1 h2 h3 hf
    subst h1 h2
    have hL1 := hf.lay hL
    unfold l_X12_sayableOf_15
    dsimp only
    rw [if_neg (show ¬ (64 : Int32) ≤ nI k from nI_ge (b := 64) hk (by decide)), rt_onL]
    refine ⟨hL1, ?_⟩
    rw [m_briefRow ht hL1 (by rw [hf.I (by unfold scS; omega)]; exact h71) (hr.fx hf (fun k => by unfold scS; omega)) hk, Option.bind_some]
    dsimp only
    by_cases q1 : k = m
    · subst q1
      rw [if_pos rfl, Option.bind_some, rt_some, nx_l]
      dsimp only
      rw [sy_m]
      exact ⟨rfl, nI_1 k, h3, hf⟩
    · rw [if_neg (fun e => q1 ((nI_eq (by omega) (by omega)).mp e))]
      cases e : B k with
      | none =>
        rw [enc_n, if_pos (by decide), Option.bind_some, rt_some, nx_l]
        dsimp only
        rw [sy_n e]
        exact ⟨rfl, nI_1 k, h3, hf⟩
      | some b =>
        have hb := hB k b e
        have hN1 : gI w1 47 17 = nI (d 0 6) := by rw [hf.I (by unfold scS; omega)]; exact hN.1
        rw [enc_s, if_neg (show ¬ (1000000 : Int32) ≤ nI b from nI_ge (b := 1000000) (by omega) (by decide)), hN1]
        simp only [rt_bind, rt_onL]
        refine ⟨hL1, ?_⟩
        by_cases q2 : d 0 6 = 0
        · rw [q2, if_pos (by rfl), rt_some, rt_some, nx_l]
          dsimp only
          rw [sy_c e (oC.2.1 q2 ..)]
          exact ⟨rfl, nI_1 k, h3, hf⟩
        · have oc3 := oC.2.2
          rw [if_neg (nI_ne0 (by omega) (by omega)), rt_bind]
          refine (hN.2 w1 (fun c k hc => hf.I (by unfold scS; omega)) hL1 m k b hm hk hb).mono ?_
          rintro ⟨x, w2⟩ ⟨e2, f2⟩
          dsimp only at e2 f2 ⊢
          subst e2
          have f02 : fx scS w w2 := hf.tr (f2.sub (fun c k hc => by unfold scC at hc; unfold scS; omega))
          have h32 : gI w2 47 48 = nI (sy C B m k).2 := by rw [f2.I (by unfold scC; omega)]; exact h3
          cases ec : C m k b with
          | none =>
            rw [if_pos (by rfl), rt_some, rt_some, nx_l]
            dsimp only
            rw [sy_c e ec]
            exact ⟨rfl, nI_1 k, h32, f02⟩
          | some x =>
            have hx := oC.1 m k b x ec
            have hl := hle k
            rw [show oI (some x) = nI x from rfl, if_neg (nm1 (by omega)), nI_add]
            by_cases q3 : b + x < enc 1000000 (sy C B m k).1
            · rw [if_pos (nI_lt q3 (by omega)), rt_onL, rt_some, rt_some, nx_l]
              refine ⟨f02.lay hL, ?_⟩
              dsimp only
              rw [sy_y q1 e ec q3]
              exact ⟨rfl, nI_1 k, by rw [gI_sI, if_pos ⟨rfl, rfl⟩], f02.tr (fx.sI (by unfold scS; omega))⟩
            · rw [if_neg (nI_nlt (by omega) (by omega)), rt_some, rt_some, nx_l]
              dsimp only
              rw [sy_z e ec q3]
              exact ⟨rfl, nI_1 k, h32, f02⟩
  · rintro ⟨b, c, w1⟩ ⟨h1, h2, h3, hf⟩
    dsimp only at h1 h2 h3 hf
    subst h1 h2
    unfold l_X12_sayableOf_15
    dsimp only
    rw [if_pos (show (64 : Int32) ≤ nI 64 by decide), rt_some, nx_r]
    exact ⟨rfl, h3, hf⟩
theorem m_sayRow (oC : OkC d C) (hB : ∀ j b, B j = some b → b ≤ 3000) (hL : Lay w) (hN : MNr d C w) (ht : t < 1024) (h71 : ¬ gI w 71 t = 0) (hr : RowM w t (fun j => enc 1000000 (B j))) (hm : m < 64) : Rt (f_X12_sayableOf (nI t) (nI m) w) (fun p => p.1 = nI (enc 1000000 (sy C B m 64).1) ∧ gI p.2 47 48 = nI (sy C B m 64).2 ∧ fx scS w p.2) := by
  unfold f_X12_sayableOf
  rw [m_briefRow ht hL h71 hr hm, Option.bind_some, rt_onL, rt_bind]
  refine ⟨hL, (m_sayLoop oC hB hL hN ht h71 hr hm).mono ?_⟩
  rintro p hp
  rw [rt_some]
  exact hp
def scT (c k : Nat) : Prop := scS c k ∨ c = 71 ∨ c = 72
theorem m_sayableOf (o : OkL d) (oC : OkC d C) (hL : Lay w) (h : MLx d w) (hb : MBr d w) (hN : MNr d C w) (ht : t < 2 ^ d 0 0) (hm : m < 64) : Rt (f_X12_sayableOf (nI t) (nI m) w) (fun p => p.1 = nI (enc 1000000 (pz d C t m).1) ∧ gI p.2 47 48 = nI (pz d C t m).2 ∧ fx scT w p.2 ∧ MBr d p.2) := by
  have p10 := pow10 o.1
  unfold f_X12_sayableOf
  rw [rt_bind]
  unfold f_X12_briefOf
  rw [rt_bind]
  refine (m_lays o hL h hb ht).mono ?_
  rintro w1 ⟨f1, b1, n1, r1⟩
  have hL1 := f1.lay hL
  have q1 : qf w w1 := qf.of f1 (fun c k q => by unfold inM mB; omega)
  rw [rt_onL, show (64 : Int32) = nI 64 from rfl, pk_mul, nI_add, if_pos (inb_nI (n := 65536) (by omega) (by decide)), ix_nI (by omega), rt_some, rt_onL, rt_bind, r1 m hm]
  refine ⟨hL1, hL1, (m_sayLoop oC (fun j b e => BF_le o e) hL1 (hN.qf q1) (by omega) n1 r1 hm).mono ?_⟩
  rintro p ⟨e1, e2, f2⟩
  rw [rt_some]
  refine ⟨e1, e2, (f1.sub (fun c k q => Or.inr q)).tr (f2.sub (fun c k q => Or.inl q)), b1.fx f2 (fun k => by unfold scS; omega) (fun k => by unfold scS; omega)⟩
end MSay
