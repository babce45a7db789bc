/-! the class's memory as a whole -/
def Own (own : Nat → Nat) (d : Dt) (C : Ct) (w : Mm) : Prop := (∀ k a, k < 1024 → gR w 15 k = some a → k < 2 ^ d 0 0 ∧ 87 ≤ a ∧ own a = 3 * k ∧ own (a + 1) = 3 * k + 1 ∧ (∀ p, gR w a 6 = some p → 87 ≤ p ∧ p < mlen w ∧ own p = 3 * k + 2) ∧ SpOk d C (BF d k) k a w) ∧ (∀ p, gR w 24 6 = some p → 87 ≤ p ∧ p < mlen w ∧ own p = 3074 ∧ gK w p = some (20, 64)) ∧ ∃ st, st ≤ d 0 7 ∧ gI w 24 8 = nI st
def on1 : Option Nat → Nat
  | none => 0
  | some _ => 1
def rm (w : Mm) (k : Nat) : Nat := match gR w 15 k with
  | none => 0
  | some a => 2 + on1 (gR w a 6)
def Rm (w : Mm) : Prop := mlen w ≤ 87 + fb_sm (rm w) 1024 + on1 (gR w 24 6) ∧ mslots w ≤ 78368 + 64 * (mlen w - 87)
def KI (d : Dt) (C : Ct) (w : Mm) : Prop := Lay w ∧ CLx d w ∧ CDm d w ∧ CNr d C w ∧ (∃ own, Own own d C w) ∧ Rm w
theorem on1_le (o : Option Nat) : on1 o ≤ 1 := by cases o <;> simp [on1]
theorem rm_le (w : Mm) (k : Nat) : rm w k ≤ 3 := by
  unfold rm
  split
  · omega
  · have := on1_le (gR w ‹Nat› 6); omega
theorem Rm.cap {w : Mm} (h : Rm w) : mlen w + 10 ≤ 600000 ∧ mslots w + 1000 ≤ 7302250 := by
  have h1 := fb_sm_le (f := rm w) (g := fun _ => 3) (n := 1024) (fun k _ => rm_le w k)
  rw [fb_sm_const] at h1
  have h2 := on1_le (gR w 24 6)
  have := h.1
  have := h.2
  omega
/-- all fixed cells but the child's speech and scratch are as they were -/
def cs (w w' : Mm) : Prop := ∀ c k, c < 87 → c ≠ 24 → c ≠ 25 → ¬ scN c k → gI w' c k = gI w c k ∧ gL w' c k = gL w c k
theorem cs.rf {w : Mm} : cs w w := fun _ _ _ _ _ _ => ⟨rfl, rfl⟩
theorem cs.tr {w w' w'' : Mm} (h : cs w w') (h' : cs w' w'') : cs w w'' := fun c k h1 h2 h3 h4 => ⟨(h' c k h1 h2 h3 h4).1.trans (h c k h1 h2 h3 h4).1, (h' c k h1 h2 h3 h4).2.trans (h c k h1 h2 h3 h4).2⟩
theorem cs.q {w w' : Mm} (h : cs w w') : cq w w' := fun c k hc => h c k (by unfold cB inM at hc; omega) (by unfold cB inM at hc; omega) (by unfold cB inM at hc; omega) (by unfold cB inM at hc; unfold scN; omega)
/-- the speeches stay, with what is kept for a plan -/
def tq (w w' : Mm) : Prop := ∀ k a, k < 1024 → gR w 15 k = some a → gR w' 15 k = some a ∧ gL w' a 9 = gL w a 9
theorem tq.rf {w : Mm} : tq w w := fun _ _ _ h => ⟨h, rfl⟩
theorem tq.tr {w w' w'' : Mm} (h : tq w w') (h' : tq w' w'') : tq w w'' := fun k a hk e => ⟨(h' k a hk (h k a hk e).1).1, ((h' k a hk (h k a hk e).1).2).trans (h k a hk e).2⟩
theorem SpOk.st {d : Dt} {C : Ct} {B : Nat → Option Nat} {t a : Nat} {w w' : Mm} (h : SpOk d C B t a w) (hI : ∀ k, gI w' a k = gI w a k) (hI1 : ∀ k, gI w' (a + 1) k = gI w (a + 1) k) (hL7 : gL w' a 7 = gL w a 7) (hR : ∀ k, gR w' a k = gR w a k) (hK : ∀ c, c < mlen w → gK w' c = gK w c) (hp : ∀ p, gR w a 6 = some p → ∀ k, gI w' p k = gI w p k) : SpOk d C B t a w' := by
  obtain ⟨hsp, ⟨g2, g3, g4, g5⟩, hr, ⟨st, hst1, g8, hbits⟩, hpk⟩ := h
  have hl1 : a < mlen w := gK_lt (sp_k0 hsp)
  have hl2 : a + 1 < mlen w := gK_lt (sp_k1 hsp)
  refine ⟨?_, ⟨by rw [hI]; exact g2, by rw [hI]; exact g3, by rw [hI]; exact g4, by rw [hI]; exact g5⟩, fun j hj => by rw [hI1]; exact hr j hj, ⟨st, hst1, by rw [hI]; exact g8, fun e j hj hb => ?_⟩, fun p hpp => ?_⟩
  · obtain ⟨z1, z2, z3, z4⟩ := isSp_n hsp
    exact decide_eq_true ⟨by rw [hK a hl1]; exact z1, by rw [hR]; exact z2, by rw [hR]; exact z3, by rw [hK _ hl2]; exact z4⟩
  · rw [hL7] at hb
    obtain ⟨p, z1, z2⟩ := hbits e j hj hb
    exact ⟨p, by rw [hR]; exact z1, by rw [hp p z1]; exact z2⟩
  · rw [hR] at hpp
    have := hpk p hpp
    rw [hK p (gK_lt this)]
    exact this
def ow (own : Nat → Nat) (n v : Nat) : Nat → Nat := fun c => if c = n then v else own c
theorem ow_s (own : Nat → Nat) (n v : Nat) : ow own n v n = v := if_pos rfl
theorem ow_o (own : Nat → Nat) {n v c : Nat} (h : c ≠ n) : ow own n v c = own c := if_neg h
section CIs
variable {d : Dt} {C : Ct} {w w' : Mm} {t a : Nat} {B : Nat → Option Nat}
theorem rm_cong {w w' : Mm} {k : Nat} (h : gR w' 15 k = gR w 15 k) (h2 : ∀ a, gR w 15 k = some a → gR w' a 6 = gR w a 6) : rm w' k = rm w k := by
  unfold rm
  rw [h]
  cases e : gR w 15 k with
  | none => rfl
  | some a => dsimp only; rw [h2 a e]
/-- a price keeps the class's memory right -/
theorem PrQ.ci (h : KI d C w) (hA : (t < 1024 ∧ gR w 15 t = some a ∧ B = BF d t) ∨ a = 24) (hq : PrQ d C B t a w w') : KI d C w' ∧ cs w w' ∧ tq w w' := by
  obtain ⟨hL, hx, hd, hn, ⟨own, hO, hO2, st, hst, h248⟩, hR1, hR2⟩ := h
  obtain ⟨hs', hL', hF, h9, hK, hRf, hmk⟩ := hq
  have h87 := hL.len
  -- the prices of this speech
  have hpa : ∀ p, gR w a 6 = some p → 87 ≤ p ∧ p < mlen w ∧ own p = if a = 24 then 3074 else 3 * t + 2 := by
    intro p hp
    rcases hA with ⟨h1, h2, -⟩ | rfl
    · obtain ⟨-, q1, -, -, q2, -⟩ := hO t a h1 h2
      have := q2 p hp
      exact ⟨this.1, this.2.1, by rw [if_neg (by omega)]; exact this.2.2⟩
    · have := hO2 p hp
      exact ⟨this.1, this.2.1, by rw [if_pos rfl]; exact this.2.2.1⟩
  have ha : a = 24 ∨ 87 ≤ a := by
    rcases hA with ⟨h1, h2, -⟩ | h
    · exact Or.inr (hO t a h1 h2).2.1
    · exact Or.inl h
  have hcs : cs w w' := fun c k h1 h2 h3 h4 => hF c k (by omega) (fun z => by
    rcases z with z | z | z
    · omega
    · have := (hpa c z).1; omega
    · exact h4 z)
  have hr15 : ∀ k, gR w' 15 k = gR w 15 k := fun k => hRf 15 k (by omega) (by omega)
  have hml : mlen w ≤ mlen w' := by omega
  -- another speech is untouched
  have hoth : ∀ k b, k < 1024 → gR w 15 k = some b → b ≠ a → (∀ j, gI w' b j = gI w b j ∧ gL w' b j = gL w b j) ∧ (∀ j, gI w' (b + 1) j = gI w (b + 1) j) ∧ (∀ j, gR w' b j = gR w b j) ∧ ∀ p, gR w b 6 = some p → ∀ j, gI w' p j = gI w p j := by
    intro k b hk hb hne
    obtain ⟨-, q1, q2, q3, q4, q5⟩ := hO k b hk hb
    have l1 : b < mlen w := gK_lt (sp_k0 q5.1)
    have l2 : b + 1 < mlen w := gK_lt (sp_k1 q5.1)
    have tag : ∀ c, gR w a 6 = some c → own c % 3 = 2 ∧ (own c = 3 * k + 2 → False) := fun c hc => by
      have := (hpa c hc).2.2
      by_cases e : a = 24
      · rw [if_pos e] at this; exact ⟨by omega, fun z => by omega⟩
      · rw [if_neg e] at this
        rcases hA with ⟨h1, h2, -⟩ | z
        · refine ⟨by omega, fun z => ?_⟩
          have : k = t := by omega
          subst this
          rw [hb] at h2
          cases h2
          exact hne rfl
        · exact absurd z e
    have ob : ∀ j, ¬ ((b = a ∧ (j = 7 ∨ j = 8)) ∨ gR w a 6 = some b ∨ scN b j) := fun j z => by
      rcases z with z | z | z
      · exact hne z.1
      · have := (tag b z).1; omega
      · unfold scN at z; omega
    have ob1 : ∀ j, ¬ ((b + 1 = a ∧ (j = 7 ∨ j = 8)) ∨ gR w a 6 = some (b + 1) ∨ scN (b + 1) j) := fun j z => by
      rcases z with z | z | z
      · rcases hA with ⟨h1, h2, -⟩ | h24
        · have := (hO t a h1 h2).2.2.1
          rw [← z.1] at this; omega
        · omega
      · have := (tag _ z).1; omega
      · unfold scN at z; omega
    refine ⟨fun j => hF b j l1 (ob j), fun j => (hF (b + 1) j l2 (ob1 j)).1, fun j => hRf b j l1 (fun z => hne z.1), fun p hp j => ?_⟩
    have := q4 p hp
    refine (hF p j this.2.1 (fun z => ?_)).1
    rcases z with z | z | z
    · rcases hA with ⟨h1, h2, -⟩ | h24
      · have := (hO t a h1 h2).2.2.1
        rw [← z.1] at this; omega
      · omega
    · exact (tag p z).2 this.2.2
    · unfold scN at z; omega
  have htq : tq w w' := fun k b hk hb => by
    refine ⟨by rw [hr15]; exact hb, ?_⟩
    by_cases e : b = a
    · subst e; exact h9
    · exact ((hoth k b hk hb e).1 9).2
  have hst8 : ∃ st, st ≤ d 0 7 ∧ gI w' 24 8 = nI st := by
    by_cases e : a = 24
    · subst e
      obtain ⟨-, -, -, ⟨s, z1, z2, -⟩, -⟩ := hs'
      exact ⟨s, z1, z2⟩
    · refine ⟨st, hst, ?_⟩
      rw [(hF 24 8 (by omega) (fun z => by
        rcases z with z | z | z
        · omega
        · have := (hpa 24 z).1; omega
        · unfold scN at z; omega)).1]
      exact h248
  refine ⟨⟨hL', hx.cq hcs.q, hd.cq hcs.q, hn.cq hcs.q, ?_, ?_⟩, hcs, htq⟩
  · -- owners
    rcases hmk with ⟨m1, m2, m3⟩ | ⟨m1, m2, m3, m4⟩
    · refine ⟨own, fun k b hk hb => ?_, fun p hp => ?_, hst8⟩
      · rw [hr15] at hb
        obtain ⟨q0, q1, q2, q3, q4, q5⟩ := hO k b hk hb
        by_cases e : b = a
        · subst e
          rcases hA with ⟨h1, h2, rfl⟩ | h24
          · have hkt : k = t := by have := (hO t b h1 h2).2.2.1; omega
            subst hkt
            exact ⟨q0, q1, q2, q3, fun p hp => by rw [m3] at hp; rw [m1]; exact q4 p hp, hs'⟩
          · omega
        · obtain ⟨g1, g2, g3, g4⟩ := hoth k b hk hb e
          exact ⟨q0, q1, q2, q3, fun p hp => by rw [g3] at hp; rw [m1]; exact q4 p hp, q5.st (fun j => (g1 j).1) g2 (g1 7).2 g3 hK g4⟩
      · by_cases e : a = 24
        · subst e
          rw [m3] at hp
          have := hO2 p hp
          exact ⟨this.1, by omega, this.2.2.1, by rw [hK p this.2.1]; exact this.2.2.2⟩
        · rw [hRf 24 6 (by omega) (by omega)] at hp
          have := hO2 p hp
          exact ⟨this.1, by omega, this.2.2.1, by rw [hK p this.2.1]; exact this.2.2.2⟩
    · refine ⟨ow own (mlen w) (if a = 24 then 3074 else 3 * t + 2), fun k b hk hb => ?_, fun p hp => ?_, hst8⟩
      · rw [hr15] at hb
        obtain ⟨q0, q1, q2, q3, q4, q5⟩ := hO k b hk hb
        have l1 : b < mlen w := gK_lt (sp_k0 q5.1)
        have l2 : b + 1 < mlen w := gK_lt (sp_k1 q5.1)
        by_cases e : b = a
        · subst e
          rcases hA with ⟨h1, h2, rfl⟩ | h24
          · have hkt : k = t := by have := (hO t b h1 h2).2.2.1; omega
            subst hkt
            refine ⟨q0, q1, by rw [ow_o own (by omega)]; exact q2, by rw [ow_o own (by omega)]; exact q3, fun p hp => ?_, hs'⟩
            rw [m4] at hp
            cases hp
            exact ⟨by omega, by omega, by rw [ow_s, if_neg (by omega)]⟩
          · omega
        · obtain ⟨g1, g2, g3, g4⟩ := hoth k b hk hb e
          refine ⟨q0, q1, by rw [ow_o own (by omega)]; exact q2, by rw [ow_o own (by omega)]; exact q3, fun p hp => ?_, q5.st (fun j => (g1 j).1) g2 (g1 7).2 g3 hK g4⟩
          rw [g3] at hp
          have := q4 p hp
          exact ⟨this.1, by omega, by rw [ow_o own (by omega)]; exact this.2.2⟩
      · by_cases e : a = 24
        · subst e
          rw [m4] at hp
          cases hp
          exact ⟨by omega, by omega, by rw [ow_s, if_pos rfl], hs'.2.2.2.2 _ m4⟩
        · rw [hRf 24 6 (by omega) (by omega)] at hp
          have := hO2 p hp
          exact ⟨this.1, by omega, by rw [ow_o own (by omega)]; exact this.2.2.1, by rw [hK p this.2.1]; exact this.2.2.2⟩
  · -- room
    rcases hmk with ⟨m1, m2, m3⟩ | ⟨m1, m2, m3, m4⟩
    · have hrm : fb_sm (rm w') 1024 = fb_sm (rm w) 1024 := fb_sm_cong (fun k hk => rm_cong (hr15 k) (fun b hb => by
        by_cases e : b = a
        · subst e; exact m3
        · exact (hoth k b hk hb e).2.2.1 6))
      have h24 : gR w' 24 6 = gR w 24 6 := by
        by_cases e : a = 24
        · subst e; exact m3
        · exact hRf 24 6 (by omega) (by omega)
      unfold Rm
      rw [m1, m2, hrm, h24]
      exact ⟨hR1, hR2⟩
    · rcases hA with ⟨h1, h2, -⟩ | h24
      · have hne : a ≠ 24 := by have := (hO t a h1 h2).2.1; omega
        have hu : fb_sm (rm w') 1024 + 2 = fb_sm (rm w) 1024 + 3 := by
          have h3 := fb_sm_upd (rm w) 3 h1
          rw [show rm w t = 2 by unfold rm; rw [h2]; dsimp only; rw [m3]; rfl] at h3
          have hc : fb_sm (rm w') 1024 = fb_sm (fun k => if k = t then 3 else rm w k) 1024 := by
            refine fb_sm_cong (fun k hk => ?_)
            by_cases e : k = t
            · subst e
              rw [if_pos rfl]
              unfold rm
              rw [hr15, h2]
              dsimp only
              rw [m4]
              rfl
            · rw [if_neg e]
              refine rm_cong (hr15 k) (fun b hb => ?_)
              have : b ≠ a := fun z => by
                subst z
                have q1 := (hO k b hk hb).2.2.1
                have q2 := (hO t b h1 h2).2.2.1
                omega
              exact (hoth k b hk hb this).2.2.1 6
          rw [hc]
          exact h3
        have h24 : gR w' 24 6 = gR w 24 6 := hRf 24 6 (by omega) (by omega)
        unfold Rm
        rw [m1, m2, h24]
        refine ⟨by omega, by omega⟩
      · subst h24
        have hrm : fb_sm (rm w') 1024 = fb_sm (rm w) 1024 := fb_sm_cong (fun k hk => rm_cong (hr15 k) (fun b hb => by
          have : b ≠ 24 := by have := (hO k b hk hb).2.1; omega
          exact (hoth k b hk hb this).2.2.1 6))
        unfold Rm
        rw [m1, m2, hrm, m4]
        rw [m3] at hR1
        simp only [on1] at hR1 ⊢
        exact ⟨by omega, by omega⟩
end CIs
