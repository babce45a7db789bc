/-! NEAR's values, read with a stack: an abstract machine, and the descent -/
def opm : List Nat → Nat
  | [] => 0
  | s :: S => opm S + if s = 40 ∨ s = 91 ∨ s = 33 then 1 else 0
/-- what waits and is due is written down -/
def popf (q : Nat → Bool) (em : Nat → Nat) : List Nat → Cd → List Nat × Cd
  | [], M => ([], M)
  | s :: S, M => if q s = true then popf q em S (M ++ [(em s, 0)]) else (s :: S, M)
def qsm (x : Bool) (s : Nat) : Bool := decide (¬ opA 0 s = 0) || (x && decide (¬ opA 1 s = 0))
def qj (x : Bool) (s : Nat) : Bool := decide (s = 38) || (x && decide (s = 124))
def qn (s : Nat) : Bool := decide (s = 33)
abbrev Vr : Type := Int32 ⊕ (Nat × List Nat × Cd)
def smf (x : Bool) (S : List Nat) (M : Cd) : List Nat × Cd := popf (qsm x) (fun s => s) S M
def jnf (x : Bool) (S : List Nat) (M : Cd) : List Nat × Cd := popf (qj x) (fun s => s) S M
def nef (S : List Nat) (M : Cd) : List Nat × Cd := popf qn (fun _ => 2) S M
def vmT (d : Dt) (n : Nat) (rec : Bool → Nat → List Nat → Cd → Option Vr) (p : Nat) (S : List Nat) (M : Cd) : Option Vr := if hh d n p = 91 then (if opm S = 6 then some (.inl (flt 5 p)) else rec true (p + 1) (91 :: S) M) else if 48 ≤ hh d n p ∧ hh d n p ≤ 57 then (if 48 ≤ hh d n (nmL d n 5 p 0).1 ∧ hh d n (nmL d n 5 p 0).1 ≤ 57 then some (.inl (flt 2 (nmL d n 5 p 0).1)) else rec false (nmL d n 5 p 0).1 S (M ++ [(0, (nmL d n 5 p 0).2)])) else if ltr (hh d n p) = 8 then some (.inl (flt 1 p)) else rec false (p + 1) S (M ++ [(1, hh d n p)])
def vmF (d : Dt) (n : Nat) (rec : Bool → Nat → List Nat → Cd → Option Vr) (p : Nat) (S : List Nat) (M : Cd) : Option Vr := if ¬ opA 0 (hh d n p) = 0 ∨ ¬ opA 1 (hh d n p) = 0 then rec true (p + 1) (hh d n p :: (smf (decide (¬ opA 1 (hh d n p) = 0)) S M).1) (smf (decide (¬ opA 1 (hh d n p) = 0)) S M).2 else if hh d n p = 93 then (if (smf true S M).1.headD 0 = 91 then rec false (p + 1) (smf true S M).1.tail (smf true S M).2 else some (.inl (flt 1 p))) else if (smf true S M).1.headD 0 = 91 then some (.inl (flt 1 p)) else some (.inr (p, (smf true S M).1, (smf true S M).2))
def vm (d : Dt) (n : Nat) : Nat → Bool → Nat → List Nat → Cd → Option Vr
  | 0, _, _, _, _ => none
  | k + 1, true, p, S, M => vmT d n (vm d n k) p S M
  | k + 1, false, p, S, M => vmF d n (vm d n k) p S M
def GoV (d : Dt) (n : Nat) (t : Bool) (p : Nat) (S : List Nat) (M : Cd) (R : Vr) : Prop := ∃ k, vm d n k t p S M = some R
section Nvm
variable {d : Dt} {n : Nat}
theorem popf_n {q : Nat → Bool} {em : Nat → Nat} {S : List Nat} {M : Cd} (h : q (S.headD 0) = false) : popf q em S M = (S, M) := by
  cases S with
  | nil => rfl
  | cons s S =>
    rw [popf, if_neg]
    intro z
    rw [List.headD_cons] at h
    rw [h] at z
    cases z
theorem popf_c {q : Nat → Bool} {em : Nat → Nat} {s : Nat} {S : List Nat} {M : Cd} (h : q s = true) : popf q em (s :: S) M = popf q em S (M ++ [(em s, 0)]) := by rw [popf, if_pos h]
theorem gv_up {t t' : Bool} {p p' : Nat} {S S' : List Nat} {M M' : Cd} {X : Vr} (h : ∀ k, vm d n (k + 1) t p S M = vm d n k t' p' S' M') (g : GoV d n t' p' S' M' X) : GoV d n t p S M X := by
  obtain ⟨k, hk⟩ := g
  exact ⟨k + 1, by rw [h k]; exact hk⟩
theorem gv_st {t : Bool} {p : Nat} {S : List Nat} {M : Cd} {X : Vr} (h : vm d n 1 t p S M = some X) : GoV d n t p S M X := ⟨1, h⟩
theorem gv_T {p b : Nat} {S : List Nat} {M : Cd} {X : Vr} (hb : ¬ opA 0 b = 0) (h : GoV d n false p S (M ++ [(b, 0)]) X) : GoV d n false p (b :: S) M X := by
  obtain ⟨k, hk⟩ := h
  refine ⟨k, ?_⟩
  have e : ∀ x, smf x (b :: S) M = smf x S (M ++ [(b, 0)]) := fun x => popf_c (by unfold qsm; rw [decide_eq_true hb]; rfl)
  cases k with
  | zero => cases hk
  | succ k =>
    rw [vm] at hk ⊢
    unfold vmF at hk ⊢
    rw [e, e]
    exact hk
theorem gv_P {p b : Nat} {S : List Nat} {M : Cd} {X : Vr} (hb : ¬ opA 1 b = 0) (hp : opA 0 (hh d n p) = 0) (h : GoV d n false p S (M ++ [(b, 0)]) X) : GoV d n false p (b :: S) M X := by
  obtain ⟨k, hk⟩ := h
  refine ⟨k, ?_⟩
  have e : smf true (b :: S) M = smf true S (M ++ [(b, 0)]) := popf_c (by unfold qsm; rw [decide_eq_true hb, Bool.and_self, Bool.or_true])
  cases k with
  | zero => cases hk
  | succ k =>
    rw [vm] at hk ⊢
    unfold vmF at hk ⊢
    by_cases q : opA 1 (hh d n p) = 0
    · have nq : ¬ (¬ opA 0 (hh d n p) = 0 ∨ ¬ opA 1 (hh d n p) = 0) := fun z => z.elim (fun y => y hp) (fun y => y q)
      rw [if_neg nq] at hk ⊢
      rw [e]
      exact hk
    · rw [decide_eq_true q] at hk ⊢
      rw [e]
      exact hk
/-- a value as the machine reads it; j: 0 alone, 1 product, 2 sum -/
def GV (d : Dt) (n j : Nat) (t : Bool) (R : Nr) (p : Nat) (S : List Nat) (M0 M : Cd) : Prop := (∀ e, R = .inl e → GoV d n t p S M (.inl e)) ∧ ∀ p' K M' g, R = .inr (p', K, M', g) → (1 ≤ j → opA 0 (hh d n p') = 0) ∧ (2 ≤ j → opA 1 (hh d n p') = 0) ∧ ∀ X, GoV d n false p' S (M0 ++ M') X → GoV d n t p S M X
theorem hh_no {p : Nat} (h : n ≤ p) : hh d n p = 0 := by unfold hh; rw [sg_no h]; rfl
theorem gv_loop {f j o s : Nat} {S : List Nat} {M0 : Cd} (hj : j ≤ 1) (hs : qsm (decide (j = 1)) (S.headD 0) = false) (h1 : ∀ b, ¬ opA j b = 0 → ∀ s p M, p ≤ n → GV d n j true (naS d n f j o s p) p (b :: S) M M) (hl : ∀ s p, p ≤ n → NPr n p (naS d n f j o s p)) : ∀ (k p : Nat) (K M : Cd) (g : Mn), p ≤ n → n ≤ p + k → (1 ≤ j → opA 0 (hh d n p) = 0) → GV d n (j + 1) false (nrA d n (opA j) (naS d n f j o) s k p K M g) p S M0 (M0 ++ M)
  | 0, p, K, M, g, hp, hk, h0 => by
    refine ⟨fun e h => (by cases h), fun p' K' M' g' h => ?_⟩
    cases h
    rw [hh_no (by omega)]
    exact ⟨fun _ => by decide, fun _ => by decide, fun X h => h⟩
  | k + 1, p, K, M, g, hp, hk, h0 => by
    rw [nrA]
    by_cases z : opA j (hh d n p) = 0
    · rw [if_pos z]
      refine ⟨fun e h => (by cases h), fun p' K' M' g' h => ?_⟩
      cases h
      rcases (by omega : j = 0 ∨ j = 1) with rfl | rfl
      · exact ⟨fun _ => z, fun y => absurd y (by decide), fun X h => h⟩
      · exact ⟨fun _ => h0 (by decide), fun _ => z, fun X h => h⟩
    · rw [if_neg z]
      have hpn : p < n := hh_lt (d := d) rfl (fun q => z (by rw [q]; exact opA_ne))
      have go1 : ∀ X, GoV d n true (p + 1) (hh d n p :: S) (M0 ++ M) X → GoV d n false p S (M0 ++ M) X := fun X gx => by
        refine gv_up (fun k => ?_) gx
        rw [vm]
        unfold vmF
        rcases (by omega : j = 0 ∨ j = 1) with rfl | rfl
        · have n1 : opA 1 (hh d n p) = 0 := by
            have q := opA_ok z
            unfold opA at z ⊢
            simp only [if_true, show ¬ (1 : Nat) = 0 by decide, if_false] at z ⊢
            by_cases y1 : hh d n p = 43
            · rw [y1] at z; exact absurd rfl z
            · by_cases y2 : hh d n p = 45
              · rw [y2] at z; exact absurd rfl z
              · rw [if_neg y1, if_neg y2]
          rw [if_pos (Or.inl z), decide_eq_false (not_not_intro n1)]
          unfold smf
          rw [popf_n (q := qsm false) hs]
        · rw [if_pos (Or.inr z), decide_eq_true z]
          unfold smf
          rw [popf_n (q := qsm true) hs]
      have g1 := h1 (hh d n p) z (s + K.length) (p + 1) (M0 ++ M) hpn
      have hl' := hl (s + K.length) (p + 1) hpn
      cases e : naS d n f j o (s + K.length) (p + 1) with
      | inl e' =>
        rw [e] at g1
        dsimp only
        exact ⟨fun e2 h2 => (by obtain rfl := Sum.inl.inj h2; exact go1 _ (g1.1 e' rfl)), fun _ _ _ _ h => (by cases h)⟩
      | inr r =>
        obtain ⟨p', K', M', g'⟩ := r
        rw [e] at g1 hl'
        dsimp only
        obtain ⟨a1, a2, _⟩ := hl'.2 p' K' M' g' rfl
        obtain ⟨t1, t2, t3⟩ := g1.2 p' K' M' g' rfl
        have ih := gv_loop (M0 := M0) (s := s) hj hs h1 hl k p' (K ++ K' ++ [(opA j (hh d n p), 0)]) (M ++ M' ++ [(hh d n p, 0)]) (bd2 (hh d n p) g g') a2 (by omega) t1
        have go2 : ∀ X, GoV d n false p' S (M0 ++ (M ++ M' ++ [(hh d n p, 0)])) X → GoV d n false p S (M0 ++ M) X := fun X g2 => by
          refine go1 X (t3 X ?_)
          have e2 : M0 ++ (M ++ M' ++ [(hh d n p, 0)]) = (M0 ++ M ++ M') ++ [(hh d n p, 0)] := by simp only [List.append_assoc]
          rw [e2] at g2
          rcases (by omega : j = 0 ∨ j = 1) with rfl | rfl
          · exact gv_T z g2
          · exact gv_P z (t1 (by decide)) g2
        exact ⟨fun e2 h2 => go2 _ (ih.1 e2 h2), fun p2 K2 M2 g2 h2 => ⟨(ih.2 p2 K2 M2 g2 h2).1, (ih.2 p2 K2 M2 g2 h2).2.1, fun X gX => go2 X ((ih.2 p2 K2 M2 g2 h2).2.2 X gX)⟩⟩
theorem qsm_0 : ∀ x, qsm x 0 = false := by decide
theorem gv_all (hn : n ≤ 160) : ∀ (f j o s p : Nat) (S : List Nat) (M : Cd), j ≤ 2 → p ≤ n → o ≤ 6 → opm S = o → 3 * (6 - o) + 1 + j ≤ f → (1 ≤ j → qsm (decide (2 ≤ j)) (S.headD 0) = false) → GV d n j true (naS d n f j o s p) p S M M
  | 0, j, o, s, p, S, M, hj, hp, ho, hS, hf, _ => by omega
  | f + 1, 0, o, s, p, S, M, _, hp, ho, hS, hf, _ => by
    rw [naS]
    unfold naF
    have vme : ∀ k, vm d n (k + 1) true p S M = vmT d n (vm d n k) p S M := fun k => rfl
    by_cases h1 : hh d n p = 91
    · have hpn := hh_lt h1 (by decide)
      rw [if_pos h1]
      by_cases h2 : o < 6
      · rw [if_pos h2]
        have go1 : ∀ X, GoV d n true (p + 1) (91 :: S) M X → GoV d n true p S M X := fun X gx => gv_up (fun k => by rw [vme]; unfold vmT; rw [if_pos h1, if_neg (by omega)]) gx
        have ih := gv_all hn f 2 (o + 1) s (p + 1) (91 :: S) M (by decide) hpn h2 (by rw [opm, if_pos (Or.inr (Or.inl rfl)), hS]) (by omega) (fun _ => (by decide : qsm (decide (2 ≤ 2)) 91 = false))
        cases e : naS d n f 2 (o + 1) s (p + 1) with
        | inl e' =>
          rw [e] at ih
          dsimp only
          exact ⟨fun e2 h2 => (by obtain rfl := Sum.inl.inj h2; exact go1 _ (ih.1 e' rfl)), fun _ _ _ _ h => (by cases h)⟩
        | inr r =>
          obtain ⟨p', K', M', g'⟩ := r
          rw [e] at ih
          dsimp only
          obtain ⟨t1, t2, t3⟩ := ih.2 p' K' M' g' rfl
          have t1' := t1 (by decide)
          have t2' := t2 (by decide)
          have nq : ¬ (¬ opA 0 (hh d n p') = 0 ∨ ¬ opA 1 (hh d n p') = 0) := fun z => z.elim (fun y => y t1') (fun y => y t2')
          have es : ∀ M, smf true (91 :: S) M = (91 :: S, M) := fun M => popf_n (S := 91 :: S) (by decide : qsm true 91 = false)
          by_cases h3 : hh d n p' = 93
          · rw [if_pos h3]
            refine ⟨fun e h => (by cases h), fun p2 K2 M2 g2 h => ?_⟩
            cases h
            refine ⟨fun y => absurd y (by decide), fun y => absurd y (by decide), fun X gX => go1 X (t3 X (gv_up (fun k => ?_) gX))⟩
            rw [vm]
            unfold vmF
            rw [if_neg nq, if_pos h3, es, if_pos (show (91 :: S).headD 0 = 91 from rfl)]
            rfl
          · rw [if_neg h3]
            refine ⟨fun e h => ?_, fun _ _ _ _ h => (by cases h)⟩
            obtain rfl := Sum.inl.inj h
            refine go1 _ (t3 _ (gv_st ?_))
            rw [vm]
            unfold vmF
            rw [if_neg nq, if_neg h3, es, if_pos (show (91 :: S).headD 0 = 91 from rfl)]
      · rw [if_neg h2]
        refine ⟨fun e h => ?_, fun _ _ _ _ h => (by cases h)⟩
        obtain rfl := Sum.inl.inj h
        exact gv_st (by rw [vme]; unfold vmT; rw [if_pos h1, if_pos (by omega)])
    · rw [if_neg h1]
      by_cases h2 : 48 ≤ hh d n p ∧ hh d n p ≤ 57
      · rw [if_pos h2]
        by_cases h3 : 48 ≤ hh d n (nmL d n 5 p 0).1 ∧ hh d n (nmL d n 5 p 0).1 ≤ 57
        · rw [if_pos h3]
          refine ⟨fun e h => ?_, fun _ _ _ _ h => (by cases h)⟩
          obtain rfl := Sum.inl.inj h
          exact gv_st (by rw [vme]; unfold vmT; rw [if_neg h1, if_pos h2, if_pos h3])
        · rw [if_neg h3]
          refine ⟨fun e h => (by cases h), fun p2 K2 M2 g2 h => ?_⟩
          cases h
          exact ⟨fun y => absurd y (by decide), fun y => absurd y (by decide), fun X gX => gv_up (fun k => by rw [vme]; unfold vmT; rw [if_neg h1, if_pos h2, if_neg h3]) gX⟩
      · rw [if_neg h2]
        by_cases h3 : ltr (hh d n p) = 8
        · rw [if_pos h3]
          refine ⟨fun e h => ?_, fun _ _ _ _ h => (by cases h)⟩
          obtain rfl := Sum.inl.inj h
          exact gv_st (by rw [vme]; unfold vmT; rw [if_neg h1, if_neg h2, if_pos h3])
        · rw [if_neg h3]
          refine ⟨fun e h => (by cases h), fun p2 K2 M2 g2 h => ?_⟩
          cases h
          exact ⟨fun y => absurd y (by decide), fun y => absurd y (by decide), fun X gX => gv_up (fun k => by rw [vme]; unfold vmT; rw [if_neg h1, if_neg h2, if_neg h3]) gX⟩
  | f + 1, j + 1, o, s, p, S, M, hj, hp, ho, hS, hf, hq => by
    rw [naS]
    have hq' := hq (by omega)
    have hq0 : qsm false (S.headD 0) = false := by
      by_cases z : 2 ≤ j + 1
      · rw [decide_eq_true z] at hq'
        unfold qsm at hq' ⊢
        rw [Bool.or_eq_false_iff] at hq' ⊢
        exact ⟨hq'.1, rfl⟩
      · rw [decide_eq_false z] at hq'
        exact hq'
    have ih := gv_all hn f j o s p S M (by omega) hp ho hS (by omega) (fun y => by rw [decide_eq_false (by omega)]; exact hq0)
    have hl := np_aS (d := d) (n := n) (by omega) f j o s p hp
    cases e : naS d n f j o s p with
    | inl e' =>
      rw [e] at ih
      dsimp only
      exact ⟨fun e2 h2 => (by obtain rfl := Sum.inl.inj h2; exact ih.1 e' rfl), fun _ _ _ _ h => (by cases h)⟩
    | inr r =>
      obtain ⟨p', K', M', g'⟩ := r
      rw [e] at ih hl
      dsimp only
      obtain ⟨a1, a2, _⟩ := hl.2 p' K' M' g' rfl
      obtain ⟨t1, t2, t3⟩ := ih.2 p' K' M' g' rfl
      have gl := gv_loop (d := d) (n := n) (f := f) (j := j) (o := o) (s := s) (S := S) (M0 := M) (by omega) (by
        by_cases z : j = 1
        · rw [decide_eq_true (show 2 ≤ j + 1 by omega)] at hq'; rw [decide_eq_true z]; exact hq'
        · rw [decide_eq_false z]; exact hq0) (fun b hb s p M hp => gv_all hn f j o s p (b :: S) M (by omega) hp ho (by
          have q := opA_ok hb
          have nb : ¬ (b = 40 ∨ b = 91 ∨ b = 33) := fun z => by
            rcases z with rfl | rfl | rfl
            · exact absurd q.2.1 (by unfold opA; split <;> decide)
            · exact absurd q.2.1 (by unfold opA; split <;> decide)
            · exact absurd q.2.1 (by unfold opA; split <;> decide)
          rw [opm, if_neg nb]; exact hS) (by omega) (fun y => by
          have j1 : j = 1 := by omega
          subst j1
          show qsm (decide (2 ≤ 1)) b = false
          have hb2 : b = 43 ∨ b = 45 := by
            unfold opA at hb
            rw [if_neg (by decide)] at hb
            by_cases y1 : b = 43
            · exact Or.inl y1
            · by_cases y2 : b = 45
              · exact Or.inr y2
              · rw [if_neg y1, if_neg y2] at hb; exact absurd rfl hb
          rcases hb2 with rfl | rfl <;> decide)) (fun s p hp => np_aS (by omega) f j o s p hp) 160 p' K' M' g' a2 (by omega) t1
      exact ⟨fun e2 h2 => t3 _ (gl.1 e2 h2), fun p2 K2 M2 g2 h2 => ⟨(gl.2 p2 K2 M2 g2 h2).1, (gl.2 p2 K2 M2 g2 h2).2.1, fun X gX => t3 X ((gl.2 p2 K2 M2 g2 h2).2.2 X gX)⟩⟩
/-- a whole value -/
theorem gv_val (hn : n ≤ 160) {o p : Nat} {S : List Nat} {M : Cd} (hp : p ≤ n) (ho : o ≤ 6) (hS : opm S = o) (hq : qsm true (S.headD 0) = false) (h91 : S.headD 0 ≠ 91) (s : Nat) : GoV d n true p S M (match naS d n 100 2 o s p with
    | .inl e => .inl e
    | .inr (p', _, M', _) => if hh d n p' = 93 then .inl (flt 1 p') else .inr (p', S, M ++ M')) := by
  have g := gv_all (d := d) hn 100 2 o s p S M (by decide) hp ho hS (by omega) (fun _ => hq)
  cases e : naS d n 100 2 o s p with
  | inl e' =>
    rw [e] at g
    exact g.1 e' rfl
  | inr r =>
    obtain ⟨p', K', M', g'⟩ := r
    rw [e] at g
    dsimp only
    obtain ⟨t1, t2, t3⟩ := g.2 p' K' M' g' rfl
    have t1' := t1 (by decide)
    have t2' := t2 (by decide)
    have nq : ¬ (¬ opA 0 (hh d n p') = 0 ∨ ¬ opA 1 (hh d n p') = 0) := fun z => z.elim (fun y => y t1') (fun y => y t2')
    refine t3 _ (gv_st ?_)
    rw [vm]
    unfold vmF
    rw [if_neg nq, show smf true S (M ++ M') = (S, M ++ M') from popf_n hq]
    dsimp only
    rw [if_neg h91]
    split
    · rfl
    · rfl
end Nvm
