/-! VOTES: who stands ahead of whom -/
def kfree (c : Nat) : Prop := c < 87 ∧ ¬ (1 ≤ c ∧ c ≤ 11) ∧ c ≠ 14 ∧ c ≠ 16 ∧ ¬ (17 ≤ c ∧ c ≤ 21) ∧ c ≠ 24 ∧ c ≠ 25
theorem KI.fx {d : Dt} {C : Ct} {P : Nat → Nat → Prop} {w w' : Mm} (h : KI d C w) (f : fx P w w') (hP : ∀ c k, P c k → kfree c) : KI d C w' := by
  obtain ⟨hL, hx, hd, hn, ⟨own, hO, hO2, st, hst, h8⟩, hR⟩ := h
  have q : ∀ c k, ¬ kfree c → gI w' c k = gI w c k ∧ gL w' c k = gL w c k := fun c k hc => ⟨f.I (fun z => hc (hP c k z)), f.L (fun z => hc (hP c k z))⟩
  have nf : ∀ c, (1 ≤ c ∧ c ≤ 11) ∨ 87 ≤ c ∨ c = 24 → ¬ kfree c := fun c hc => by unfold kfree; omega
  refine ⟨f.lay hL, ?_, ?_, ?_, ⟨own, fun k a hk ha => ?_, fun p hp => ?_, st, hst, ?_⟩, ?_⟩
  · obtain ⟨h1, h2, h3, h4⟩ := hx
    exact ⟨by rw [(q 1 4 (nf _ (by omega))).1]; exact h1, by rw [(q 1 5 (nf _ (by omega))).1]; exact h2, by rw [(q 1 6 (nf _ (by omega))).1]; exact h3, fun k hk => by rw [(q 2 k (nf _ (by omega))).1, (q 3 k (nf _ (by omega))).1, (q 4 k (nf _ (by omega))).1, (q 5 k (nf _ (by omega))).1]; exact h4 k hk⟩
  · obtain ⟨h1, h2, h3, h4⟩ := hd
    exact ⟨by rw [(q 6 5 (nf _ (by omega))).1]; exact h1, by rw [(q 6 6 (nf _ (by omega))).1]; exact h2, fun s hs => by rw [(q 7 s (nf _ (by omega))).1]; exact h3 s hs, fun k hk => by rw [(q 8 k (nf _ (by omega))).1, (q 9 k (nf _ (by omega))).1, (q 10 k (nf _ (by omega))).1, (q 11 k (nf _ (by omega))).1]; exact h4 k hk⟩
  · exact hn.fx f (fun c k z hz => by have := hP c k hz; unfold kfree at this; omega)
  · rw [f.R] at ha
    obtain ⟨q0, q1, q2, q3, q4, q5⟩ := hO k a hk ha
    refine ⟨q0, q1, q2, q3, fun p hp => by rw [f.R] at hp; rw [f.ml]; exact q4 p hp, q5.st (fun j => (q a j (nf _ (by omega))).1) (fun j => (q _ j (nf _ (by omega))).1) (q a 7 (nf _ (by omega))).2 (fun j => f.R a j) (fun c _ => f.K c) (fun p hp j => (q p j (nf _ (by have := (q4 p hp).1; omega))).1)⟩
  · rw [f.R] at hp
    rw [f.ml, f.K]
    exact hO2 p hp
  · rw [(q 24 8 (nf _ (by omega))).1]; exact h8
  · have hr : ∀ k, rm w' k = rm w k := fun k => rm_cong (f.R 15 k) (fun a _ => f.R a 6)
    unfold Rm
    rw [f.ml, f.ms, f.R, fb_sm_cong (fun k _ => hr k)]
    exact hR
/-- v stands ahead of x in the row of the SORT s -/
noncomputable def ahB (d : Dt) (C : Ct) (s v x : Nat) : Bool := decide ((gw d C v s).toInt < (gw d C x s).toInt ∨ (gw d C v s).toInt = (gw d C x s).toInt ∧ v < x)
noncomputable def plc (d : Dt) (C : Ct) (s x : Nat) : Nat := fb_ct (fun v => (d 0 1).testBit v && ahB d C s v x) 10
noncomputable def bhd (d : Dt) (C : Ct) (s x : Nat) : Nat := fb_ct (fun v => (d 0 1).testBit v && ahB d C s x v) 10
section Vt
variable {d : Dt} {C : Ct} {s : Nat}
theorem ah_irr (x : Nat) : ahB d C s x x = false := by unfold ahB; exact decide_eq_false (by omega)
theorem ah_tot {x v : Nat} (h : x ≠ v) : ahB d C s x v = !ahB d C s v x := by
  unfold ahB
  by_cases c : (gw d C x s).toInt < (gw d C v s).toInt ∨ (gw d C x s).toInt = (gw d C v s).toInt ∧ x < v
  · rw [decide_eq_true c, decide_eq_false (by omega)]; rfl
  · rw [decide_eq_false c, decide_eq_true (by omega)]; rfl
theorem ah_tr {x v y : Nat} (h1 : ahB d C s x v = true) (h2 : ahB d C s v y = true) : ahB d C s x y = true := by
  unfold ahB at h1 h2 ⊢
  have h1 := of_decide_eq_true h1
  have h2 := of_decide_eq_true h2
  exact decide_eq_true (by omega)
theorem fb_ct_one {n x : Nat} (hx : x < n) : fb_ct (fun v => decide (v = x)) n = 1 := by
  have h := fb_ct_upd (fun _ => false) true hx
  have h0 : fb_ct (fun _ => false) n = 0 := fb_ct_zero.mpr (fun _ _ => rfl)
  rw [h0] at h
  rw [fb_ct_cong (q := fun k => if k = x then true else false) (fun k _ => by by_cases e : k = x <;> simp [e])]
  simpa using h
theorem pl_bh {x : Nat} (hx : x < 10) (hu : (d 0 1).testBit x = true) : plc d C s x + bhd d C s x + 1 = pc (d 0 1) := by
  unfold plc bhd pc
  have h1 := fb_ct_or (p := fun v => (d 0 1).testBit v && ahB d C s v x) (q := fun v => (d 0 1).testBit v && ahB d C s x v) (n := 10) (fun v _ z => by
    have z1 := z.1
    have z2 := z.2
    simp at z1 z2
    by_cases e : x = v
    · subst e; rw [ah_irr] at z1; exact absurd z1.2 (by decide)
    · rw [ah_tot e, z1.2] at z2; exact absurd z2.2 (by decide))
  have h2 := fb_ct_or (p := fun v => ((d 0 1).testBit v && ahB d C s v x) || ((d 0 1).testBit v && ahB d C s x v)) (q := fun v => decide (v = x)) (n := 10) (fun v _ z => by
    have z2 := of_decide_eq_true z.2
    subst z2
    have z1 := z.1
    rw [ah_irr] at z1
    simp at z1)
  have h3 := fb_ct_one hx
  suffices h4 : fb_ct (fun k => (d 0 1).testBit k && ahB d C s k x || (d 0 1).testBit k && ahB d C s x k || decide (k = x)) 10 = fb_ct (d 0 1).testBit 10 by omega
  refine fb_ct_cong (fun v _ => ?_)
  by_cases e : v = x
  · subst e; rw [hu]; simp
  · rw [decide_eq_false e, ah_tot (x := x) (v := v) (fun z => e z.symm)]
    cases (d 0 1).testBit v <;> cases ahB d C s v x <;> rfl
theorem pl_lt {x v : Nat} (hx : x < 10) (hv : v < 10) (hux : (d 0 1).testBit x = true) (huv : (d 0 1).testBit v = true) : plc d C s x < plc d C s v ↔ ahB d C s x v = true := by
  have mono : ∀ a b, a < 10 → (d 0 1).testBit a = true → ahB d C s a b = true → plc d C s a + 1 ≤ plc d C s b := fun a b ha hua hab => by
    unfold plc
    have h2 := fb_ct_or (p := fun y => (d 0 1).testBit y && ahB d C s y a) (q := fun y => decide (y = a)) (n := 10) (fun y _ z => by
      have z2 := of_decide_eq_true z.2
      subst z2
      have z1 := z.1
      rw [ah_irr] at z1
      simp at z1)
    rw [fb_ct_one ha] at h2
    rw [← h2]
    refine fb_ct_sub (fun y _ hy => ?_)
    simp at hy
    rcases hy with ⟨y1, y2⟩ | rfl
    · rw [y1, ah_tr y2 hab]; rfl
    · rw [hua, hab]; rfl
  constructor
  · intro h
    by_cases e : x = v
    · subst e; omega
    · cases c : ahB d C s x v with
      | true => rfl
      | false =>
        have := mono v x hv huv (by rw [ah_tot (fun z => e z.symm), c]; rfl)
        omega
  · intro h
    have := mono x v hx hux h
    omega
theorem pl_0 {x : Nat} (hx : x < 10) (hu : (d 0 1).testBit x = true) : plc d C s x = 0 ↔ bhd d C s x = pc (d 0 1) - 1 := by
  have := pl_bh (C := C) (s := s) hx hu
  omega
end Vt
/-- votes as the first; of those that have v ahead of x; POINTS; all voters -/
noncomputable def fvo (d : Dt) (C : Ct) (v : Nat) : Nat := fb_sm (fun s => if plc d C s v = 0 then d 5 s else 0) 4
noncomputable def av (d : Dt) (C : Ct) (v x : Nat) : Nat := fb_sm (fun s => if ahB d C s v x = true then d 5 s else 0) 4
noncomputable def pt (d : Dt) (C : Ct) (v : Nat) : Nat := fb_sm (fun s => d 5 s * bhd d C s v) 4
def vt (d : Dt) : Nat := fb_sm (fun s => d 5 s) 4
theorem sm4 {f : Nat → Nat} {n : Nat} (h : ∀ s, s < 4 → f s ≤ n) : fb_sm f 4 ≤ 4 * n := by
  have := fb_sm_le (f := f) (g := fun _ => n) (n := 4) h
  rw [fb_sm_const] at this
  exact this
theorem fvo_le {d : Dt} (o : OkM d) (C : Ct) (v : Nat) : fvo d C v ≤ 4000 := sm4 (n := 1000) (fun s hs => by have := o.2.2.1 s hs; split <;> omega)
theorem av_le {d : Dt} (o : OkM d) (C : Ct) (v x : Nat) : av d C v x ≤ 4000 := sm4 (n := 1000) (fun s hs => by have := o.2.2.1 s hs; split <;> omega)
theorem vt_le {d : Dt} (o : OkM d) : vt d ≤ 4000 := sm4 (n := 1000) (fun s hs => o.2.2.1 s hs)
theorem pt_le {d : Dt} (o : OkM d) (C : Ct) (v : Nat) : pt d C v ≤ 40000 := sm4 (n := 10000) (fun s hs => show d 5 s * bhd d C s v ≤ 1000 * 10 from Nat.mul_le_mul (o.2.2.1 s hs) (fb_ct_le _ _))
/-- the first with most, but for one; by points; the one that is ahead of each other one -/
noncomputable def fm (d : Dt) (C : Ct) (ex : Option Nat) : Option Nat := amin (fun v => (d 0 1).testBit v && !decide (ex = some v)) (fun v => -(fvo d C v : Int)) 10
noncomputable def pm (d : Dt) (C : Ct) : Option Nat := amin (d 0 1).testBit (fun v => -(pt d C v : Int)) 10
noncomputable def wn (d : Dt) (C : Ct) (v : Nat) : Prop := (d 0 1).testBit v = true ∧ ∀ x, x < 10 → x ≠ v → (d 0 1).testBit x = true → vt d < 2 * av d C v x
