/-! NEAR's conditions, read with a stack: an abstract machine, and the descent -/
def er (R : Nr) : Int32 ⊕ (Nat × Nat × Cd × Mn) := match R with
  | .inl e => .inl e
  | .inr (p, K, M, g) => .inr (p, K.length, M, g)
abbrev Cr : Type := Int32 ⊕ (Nat × Cd)
def cmT (d : Dt) (n : Nat) (rec : Bool → Nat → List Nat → Cd → Option Cr) (p : Nat) (S : List Nat) (M : Cd) : Option Cr := if hh d n p = 33 ∨ hh d n p = 40 then (if opm S = 6 then some (.inl (flt 5 p)) else rec true (p + 1) (hh d n p :: S) M) else (match naS d n 100 2 (opm S) 0 p with
  | .inl e => some (.inl e)
  | .inr (p1, _, M1, _) => if cps (hh d n p1) = 0 then some (.inl (flt 1 p1)) else (match naS d n 100 2 (opm S) 0 (p1 + 1) with
    | .inl e => some (.inl e)
    | .inr (p2, _, M2, _) => if hh d n p2 = 93 then some (.inl (flt 1 p2)) else rec false p2 (nef S (M ++ M1 ++ M2 ++ [(hh d n p1, 0)])).1 (nef S (M ++ M1 ++ M2 ++ [(hh d n p1, 0)])).2))
def cmF (d : Dt) (n : Nat) (rec : Bool → Nat → List Nat → Cd → Option Cr) (p : Nat) (S : List Nat) (M : Cd) : Option Cr := if hh d n p = 38 ∨ hh d n p = 124 then rec true (p + 1) (hh d n p :: (jnf (decide (hh d n p = 124)) S M).1) (jnf (decide (hh d n p = 124)) S M).2 else if hh d n p = 41 then (if (jnf true S M).1.tail = [] then some (.inr (p + 1, (jnf true S M).2)) else rec false (p + 1) (nef (jnf true S M).1.tail (jnf true S M).2).1 (nef (jnf true S M).1.tail (jnf true S M).2).2) else some (.inl (flt 1 p))
def cm (d : Dt) (n : Nat) : Nat → Bool → Nat → List Nat → Cd → Option Cr
  | 0, _, _, _, _ => none
  | k + 1, true, p, S, M => cmT d n (cm d n k) p S M
  | k + 1, false, p, S, M => cmF d n (cm d n k) p S M
def GoC (d : Dt) (n : Nat) (t : Bool) (p : Nat) (S : List Nat) (M : Cd) (R : Cr) : Prop := ∃ k, cm d n k t p S M = some R
section Ncm
variable {d : Dt} {n : Nat}
theorem er_inl {R R' : Nr} {e : Int32} (h : er R = er R') (hR : R = .inl e) : R' = .inl e := by
  rw [hR] at h
  cases R' with
  | inl e' =>
    have : e = e' := Sum.inl.inj h
    rw [this]
  | inr r => cases h
theorem er_inr {R R' : Nr} {p : Nat} {K M : Cd} {g : Mn} (h : er R = er R') (hR : R = .inr (p, K, M, g)) : ∃ K', R' = .inr (p, K', M, g) ∧ K'.length = K.length := by
  rw [hR] at h
  cases R' with
  | inl e' => cases h
  | inr r =>
    obtain ⟨p', K', M', g'⟩ := r
    have h2 : (p, K.length, M, g) = (p', K'.length, M', g') := Sum.inr.inj h
    have h3 := congrArg (fun x => x.1) h2
    have h4 := congrArg (fun x => x.2.1) h2
    have h5 := congrArg (fun x => x.2.2.1) h2
    have h6 := congrArg (fun x => x.2.2.2) h2
    dsimp only at h3 h4 h5 h6
    subst h3 h5 h6
    exact ⟨K', rfl, h4.symm⟩
theorem er_A {op : Nat → Nat} {S : Nat → Nat → Nr} (hS : ∀ s s' p, er (S s p) = er (S s' p)) : ∀ (k p : Nat) (K K' M : Cd) (g : Mn) (s s' : Nat), K'.length = K.length → er (nrA d n op S s k p K M g) = er (nrA d n op S s' k p K' M g)
  | 0, p, K, K', M, g, s, s', h => by
    show (Sum.inr (p, K.length, M, g) : Int32 ⊕ (Nat × Nat × Cd × Mn)) = .inr (p, K'.length, M, g)
    rw [h]
  | k + 1, p, K, K', M, g, s, s', h => by
    rw [nrA, nrA]
    split
    · show (Sum.inr (p, K.length, M, g) : Int32 ⊕ (Nat × Nat × Cd × Mn)) = .inr (p, K'.length, M, g)
      rw [h]
    · have e := hS (s + K.length) (s' + K'.length) (p + 1)
      cases e1 : S (s + K.length) (p + 1) with
      | inl e' =>
        rw [er_inl e e1]
      | inr r =>
        obtain ⟨p2, K2, M2, g2⟩ := r
        obtain ⟨K3, e3, e4⟩ := er_inr e e1
        rw [e3]
        dsimp only
        exact er_A hS k p2 _ _ _ _ s s' (by simp only [List.length_append, List.length_cons, List.length_nil]; omega)
theorem er_aS : ∀ (f j o s s' p : Nat), er (naS d n f j o s p) = er (naS d n f j o s' p)
  | 0, _, _, _, _, _ => rfl
  | f + 1, 0, o, s, s', p => by
    rw [naS, naS]
    unfold naF
    have e := er_aS f 2 (o + 1) s s' (p + 1)
    split
    · split
      · cases e1 : naS d n f 2 (o + 1) s (p + 1) with
        | inl e' => rw [er_inl e e1]
        | inr r =>
          obtain ⟨p2, K2, M2, g2⟩ := r
          obtain ⟨K3, e3, e4⟩ := er_inr e e1
          rw [e3]
          dsimp only
          split
          · show (Sum.inr (p2 + 1, K2.length, M2, g2) : Int32 ⊕ (Nat × Nat × Cd × Mn)) = .inr (p2 + 1, K3.length, M2, g2)
            rw [e4]
          · rfl
      · rfl
    · rfl
  | f + 1, j + 1, o, s, s', p => by
    rw [naS, naS]
    have e := er_aS f j o s s' p
    cases e1 : naS d n f j o s p with
    | inl e' => rw [er_inl e e1]
    | inr r =>
      obtain ⟨p2, K2, M2, g2⟩ := r
      obtain ⟨K3, e3, e4⟩ := er_inr e e1
      rw [e3]
      dsimp only
      exact er_A (fun s s' p => er_aS f j o s s' p) 160 p2 K2 K3 M2 g2 s s' e4
theorem gc_up {t t' : Bool} {p p' : Nat} {S S' : List Nat} {M M' : Cd} {X : Cr} (h : ∀ k, cm d n (k + 1) t p S M = cm d n k t' p' S' M') (g : GoC d n t' p' S' M' X) : GoC d n t p S M X := by
  obtain ⟨k, hk⟩ := g
  exact ⟨k + 1, by rw [h k]; exact hk⟩
theorem gc_st {t : Bool} {p : Nat} {S : List Nat} {M : Cd} {X : Cr} (h : cm d n 1 t p S M = some X) : GoC d n t p S M X := ⟨1, h⟩
theorem gc_and {p : Nat} {S : List Nat} {M : Cd} {X : Cr} (h : GoC d n false p S (M ++ [(38, 0)]) X) : GoC d n false p (38 :: S) M X := by
  obtain ⟨k, hk⟩ := h
  refine ⟨k, ?_⟩
  have e : ∀ x, jnf x (38 :: S) M = jnf x S (M ++ [(38, 0)]) := fun x => popf_c (by unfold qj; rfl)
  cases k with
  | zero => cases hk
  | succ k =>
    rw [cm] at hk ⊢
    unfold cmF at hk ⊢
    rw [e, e]
    exact hk
theorem gc_or {p : Nat} {S : List Nat} {M : Cd} {X : Cr} (hp : ¬ hh d n p = 38) (h : GoC d n false p S (M ++ [(124, 0)]) X) : GoC d n false p (124 :: S) M X := by
  obtain ⟨k, hk⟩ := h
  refine ⟨k, ?_⟩
  have e : jnf true (124 :: S) M = jnf true S (M ++ [(124, 0)]) := popf_c (by unfold qj; rfl)
  cases k with
  | zero => cases hk
  | succ k =>
    rw [cm] at hk ⊢
    unfold cmF at hk ⊢
    by_cases q : hh d n p = 124
    · rw [decide_eq_true q] at hk ⊢
      rw [e]
      exact hk
    · have nq : ¬ (hh d n p = 38 ∨ hh d n p = 124) := fun z => z.elim hp q
      rw [if_neg nq] at hk ⊢
      rw [e]
      exact hk
theorem gc_93 {p : Nat} {S : List Nat} {M : Cd} {X : Cr} (h : hh d n p = 93) (g : GoC d n false p S M X) : X = .inl (flt 1 p) := by
  obtain ⟨k, hk⟩ := g
  cases k with
  | zero => cases hk
  | succ k =>
    rw [cm] at hk
    unfold cmF at hk
    rw [if_neg (by omega), if_neg (by omega)] at hk
    exact (Option.some.inj hk).symm
/-- a piece -/
def GP (d : Dt) (n : Nat) (R : Nr) (p : Nat) (S : List Nat) (M : Cd) : Prop := (∀ e, R = .inl e → GoC d n true p S M (.inl e)) ∧ ∀ p' K M' g, R = .inr (p', K, M', g) → ∀ X, GoC d n false p' (nef S (M ++ M')).1 (nef S (M ++ M')).2 X → GoC d n true p S M X
/-- pieces joined -/
def GJ (d : Dt) (n : Nat) (x t : Bool) (R : Nr) (p : Nat) (S : List Nat) (M0 M : Cd) : Prop := (∀ e, R = .inl e → GoC d n t p S M (.inl e)) ∧ ∀ p' K M' g, R = .inr (p', K, M', g) → ¬ hh d n p' = 38 ∧ (x = true → ¬ hh d n p' = 124) ∧ ∀ X, GoC d n false p' S (M0 ++ M') X → GoC d n t p S M X
theorem gj_and {f o s : Nat} {S : List Nat} {M0 : Cd} (hs : S.headD 0 ≠ 38) (h1 : ∀ s p M, p ≤ n → GP d n (ncS d n f 0 o s p) p (38 :: S) M) (hl : ∀ s p, p ≤ n → NPr n p (ncS d n f 0 o s p)) : ∀ (k p : Nat) (K M : Cd) (g : Mn), p ≤ n → n ≤ p + k → GJ d n false false (nrC d n 38 12 (ncS d n f 0 o) s k p K M g) p S M0 (M0 ++ M)
  | 0, p, K, M, g, hp, hk => by
    refine ⟨fun e h => (by cases h), fun p' K' M' g' h => ?_⟩
    cases h
    rw [hh_no (by omega)]
    exact ⟨by decide, fun z => (by cases z), fun X h => h⟩
  | k + 1, p, K, M, g, hp, hk => by
    rw [nrC]
    by_cases z : hh d n p = 38
    · rw [if_pos z]
      have hpn : p < n := hh_lt z (by decide)
      have go1 : ∀ X, GoC d n true (p + 1) (38 :: S) (M0 ++ M) X → GoC d n false p S (M0 ++ M) X := fun X gx => by
        refine gc_up (fun k => ?_) gx
        rw [cm]
        unfold cmF jnf
        rw [if_pos (Or.inl z), z, popf_n (show qj (decide (38 = 124)) (S.headD 0) = false by unfold qj; rw [decide_eq_false hs]; rfl)]
      have g1 := h1 (s + K.length + 1) (p + 1) (M0 ++ M) hpn
      have hl' := hl (s + K.length + 1) (p + 1) hpn
      cases e : ncS d n f 0 o (s + K.length + 1) (p + 1) with
      | inl e' =>
        rw [e] at g1
        dsimp only
        exact ⟨fun e2 h2 => (by obtain rfl := Sum.inl.inj h2; exact go1 _ (g1.1 e' rfl)), fun _ _ _ _ h => (by cases h)⟩
      | inr r =>
        obtain ⟨p', K', M', g'⟩ := r
        rw [e] at g1 hl'
        dsimp only
        obtain ⟨a1, a2, _⟩ := hl'.2 p' K' M' g' rfl
        have t3 := g1.2 p' K' M' g' rfl
        have ih := gj_and (M0 := M0) (s := s) hs h1 hl k p' (K ++ (12, s + K.length + 1 + K'.length) :: K') (M ++ M' ++ [(38, 0)]) (lzy 38 g g') a2 (by omega)
        have go2 : ∀ X, GoC d n false p' S (M0 ++ (M ++ M' ++ [(38, 0)])) X → GoC d n false p S (M0 ++ M) X := fun X g2 => by
          refine go1 X (t3 X ?_)
          unfold nef
          rw [popf_n (S := 38 :: S) (show qn 38 = false from rfl)]
          refine gc_and ?_
          rw [show M0 ++ (M ++ M' ++ [(38, 0)]) = (M0 ++ M ++ M') ++ [(38, 0)] by simp only [List.append_assoc]] at g2
          exact g2
        exact ⟨fun e2 h2 => go2 _ (ih.1 e2 h2), fun p2 K2 M2 g2 h2 => ⟨(ih.2 p2 K2 M2 g2 h2).1, fun z => (by cases z), fun X gX => go2 X ((ih.2 p2 K2 M2 g2 h2).2.2 X gX)⟩⟩
    · rw [if_neg z]
      refine ⟨fun e h => (by cases h), fun p' K' M' g' h => ?_⟩
      cases h
      exact ⟨z, fun y => (by cases y), fun X h => h⟩
theorem gj_or {f o s : Nat} {S : List Nat} {M0 : Cd} (hs : S.headD 0 ≠ 38 ∧ S.headD 0 ≠ 124) (h1 : ∀ s p M, p ≤ n → GJ d n false true (ncS d n f 1 o s p) p (124 :: S) M M) (hl : ∀ s p, p ≤ n → NPr n p (ncS d n f 1 o s p)) : ∀ (k p : Nat) (K M : Cd) (g : Mn), p ≤ n → n ≤ p + k → ¬ hh d n p = 38 → GJ d n true false (nrC d n 124 11 (ncS d n f 1 o) s k p K M g) p S M0 (M0 ++ M)
  | 0, p, K, M, g, hp, hk, h38 => by
    refine ⟨fun e h => (by cases h), fun p' K' M' g' h => ?_⟩
    cases h
    rw [hh_no (by omega)]
    exact ⟨by decide, fun _ => by decide, fun X h => h⟩
  | k + 1, p, K, M, g, hp, hk, h38 => by
    rw [nrC]
    by_cases z : hh d n p = 124
    · rw [if_pos z]
      have hpn : p < n := hh_lt z (by decide)
      have go1 : ∀ X, GoC d n true (p + 1) (124 :: S) (M0 ++ M) X → GoC d n false p S (M0 ++ M) X := fun X gx => by
        refine gc_up (fun k => ?_) gx
        rw [cm]
        unfold cmF jnf
        rw [if_pos (Or.inr z), z, popf_n (show qj (decide (124 = 124)) (S.headD 0) = false by unfold qj; rw [decide_eq_false hs.1, decide_eq_false hs.2]; rfl)]
      have g1 := h1 (s + K.length + 1) (p + 1) (M0 ++ M) hpn
      have hl' := hl (s + K.length + 1) (p + 1) hpn
      cases e : ncS d n f 1 o (s + K.length + 1) (p + 1) with
      | inl e' =>
        rw [e] at g1
        dsimp only
        exact ⟨fun e2 h2 => (by obtain rfl := Sum.inl.inj h2; exact go1 _ (g1.1 e' rfl)), fun _ _ _ _ h => (by cases h)⟩
      | inr r =>
        obtain ⟨p', K', M', g'⟩ := r
        rw [e] at g1 hl'
        dsimp only
        obtain ⟨a1, a2, _⟩ := hl'.2 p' K' M' g' rfl
        obtain ⟨t1, -, t3⟩ := g1.2 p' K' M' g' rfl
        have ih := gj_or (M0 := M0) (s := s) hs h1 hl k p' (K ++ (11, s + K.length + 1 + K'.length) :: K') (M ++ M' ++ [(124, 0)]) (lzy 124 g g') a2 (by omega) t1
        have go2 : ∀ X, GoC d n false p' S (M0 ++ (M ++ M' ++ [(124, 0)])) X → GoC d n false p S (M0 ++ M) X := fun X g2 => by
          refine go1 X (t3 X (gc_or t1 ?_))
          rw [show M0 ++ (M ++ M' ++ [(124, 0)]) = (M0 ++ M ++ M') ++ [(124, 0)] by simp only [List.append_assoc]] at g2
          exact g2
        exact ⟨fun e2 h2 => go2 _ (ih.1 e2 h2), fun p2 K2 M2 g2 h2 => ⟨(ih.2 p2 K2 M2 g2 h2).1, (ih.2 p2 K2 M2 g2 h2).2.1, fun X gX => go2 X ((ih.2 p2 K2 M2 g2 h2).2.2 X gX)⟩⟩
    · rw [if_neg z]
      refine ⟨fun e h => (by cases h), fun p' K' M' g' h => ?_⟩
      cases h
      exact ⟨h38, fun _ => z, fun X h => h⟩
def G5 (d : Dt) (n f o s p : Nat) (S : List Nat) (M : Cd) : Prop := (3 * (6 - o) + 1 ≤ f → GP d n (ncS d n f 0 o s p) p S M) ∧ (3 * (6 - o) + 2 ≤ f → S.headD 0 ≠ 38 → S.headD 0 ≠ 33 → GJ d n false true (ncS d n f 1 o s p) p S M M) ∧ (3 * (6 - o) + 3 ≤ f → S.headD 0 ≠ 38 → S.headD 0 ≠ 33 → S.headD 0 ≠ 124 → GJ d n true true (ncS d n f 2 o s p) p S M M)
theorem gp_one (hn : n ≤ 160) {f o s p : Nat} {S : List Nat} {M : Cd} (hp : p ≤ n) (ho : o ≤ 6) (hS : opm S = o) (hne : S ≠ []) (ih : ∀ (o s p : Nat) (S : List Nat) (M : Cd), p ≤ n → o ≤ 6 → opm S = o → S ≠ [] → G5 d n f o s p S M) (hf : 3 * (6 - o) ≤ f) : GP d n (ncS d n (f + 1) 0 o s p) p S M := by
  rw [ncS]
  unfold ncF
  have cme : ∀ k, cm d n (k + 1) true p S M = cmT d n (cm d n k) p S M := fun k => rfl
  have open1 : hh d n p = 33 ∨ hh d n p = 40 → o < 6 → ∀ X, GoC d n true (p + 1) (hh d n p :: S) M X → GoC d n true p S M X := fun h ho6 X gx => gc_up (fun k => by rw [cme]; unfold cmT; rw [if_pos h, if_neg (by omega)]) gx
  have open6 : hh d n p = 33 ∨ hh d n p = 40 → ¬ o < 6 → GP d n (.inl (flt 5 p)) p S M := fun h ho6 => by
    refine ⟨fun e h2 => ?_, fun _ _ _ _ h => (by cases h)⟩
    obtain rfl := Sum.inl.inj h2
    exact gc_st (by rw [cme]; unfold cmT; rw [if_pos h, if_pos (by omega)])
  by_cases h1 : hh d n p = 33
  · have hpn := hh_lt h1 (by decide)
    rw [if_pos h1]
    by_cases h2 : o < 6
    · rw [if_pos h2]
      have go1 := open1 (Or.inl h1) h2
      rw [h1] at go1
      have g := (ih (o + 1) s (p + 1) (33 :: S) M hpn h2 (by rw [opm, if_pos (Or.inr (Or.inr rfl)), hS]) (fun z => (by cases z))).1 (by omega)
      cases e : ncS d n f 0 (o + 1) s (p + 1) with
      | inl e' =>
        rw [e] at g
        dsimp only
        exact ⟨fun e2 h2 => (by obtain rfl := Sum.inl.inj h2; exact go1 _ (g.1 e' rfl)), fun _ _ _ _ h => (by cases h)⟩
      | inr r =>
        obtain ⟨p', K', M', g'⟩ := r
        rw [e] at g
        dsimp only
        refine ⟨fun e h => (by cases h), fun p2 K2 M2 g2 h X gX => ?_⟩
        cases h
        refine go1 X (g.2 p' K' M' g' rfl X ?_)
        rw [show nef (33 :: S) (M ++ M') = nef S (M ++ M' ++ [(2, 0)]) from popf_c rfl, List.append_assoc]
        exact gX
    · rw [if_neg h2]
      exact open6 (Or.inl h1) h2
  · rw [if_neg h1]
    by_cases h3 : hh d n p = 40
    · have hpn := hh_lt h3 (by decide)
      rw [if_pos h3]
      by_cases h2 : o < 6
      · rw [if_pos h2]
        have go1 := open1 (Or.inr h3) h2
        rw [h3] at go1
        have g := (ih (o + 1) s (p + 1) (40 :: S) M hpn h2 (by rw [opm, if_pos (Or.inl rfl), hS]) (fun z => (by cases z))).2.2 (by omega) (show (40 : Nat) ≠ 38 by decide) (show (40 : Nat) ≠ 33 by decide) (show (40 : Nat) ≠ 124 by decide)
        cases e : ncS d n f 2 (o + 1) s (p + 1) with
        | inl e' =>
          rw [e] at g
          dsimp only
          exact ⟨fun e2 h2 => (by obtain rfl := Sum.inl.inj h2; exact go1 _ (g.1 e' rfl)), fun _ _ _ _ h => (by cases h)⟩
        | inr r =>
          obtain ⟨p', K', M', g'⟩ := r
          rw [e] at g
          dsimp only
          obtain ⟨t1, t2, t3⟩ := g.2 p' K' M' g' rfl
          have nq : ¬ (hh d n p' = 38 ∨ hh d n p' = 124) := fun z => z.elim t1 (t2 rfl)
          have es : jnf true (40 :: S) (M ++ M') = (40 :: S, M ++ M') := popf_n (S := 40 :: S) (show qj true 40 = false from rfl)
          by_cases h4 : hh d n p' = 41
          · rw [if_pos h4]
            refine ⟨fun e h => (by cases h), fun p2 K2 M2 g2 h X gX => ?_⟩
            cases h
            refine go1 X (t3 X (gc_up (fun k => ?_) gX))
            rw [cm]
            unfold cmF
            rw [if_neg nq, if_pos h4, es, if_neg (show ¬ (40 :: S).tail = [] from hne)]
            rfl
          · rw [if_neg h4]
            refine ⟨fun e h => ?_, fun _ _ _ _ h => (by cases h)⟩
            obtain rfl := Sum.inl.inj h
            refine go1 _ (t3 _ (gc_st ?_))
            rw [cm]
            unfold cmF
            rw [if_neg nq, if_neg h4]
      · rw [if_neg h2]
        exact open6 (Or.inr h3) h2
    · rw [if_neg h3]
      have nq : ¬ (hh d n p = 33 ∨ hh d n p = 40) := fun z => z.elim h1 h3
      have ea := er_aS (d := d) (n := n) 100 2 o s 0 p
      cases e : naS d n 100 2 o s p with
      | inl e' =>
        dsimp only
        refine ⟨fun e2 h2 => ?_, fun _ _ _ _ h => (by cases h)⟩
        obtain rfl := Sum.inl.inj h2
        exact gc_st (by rw [cme]; unfold cmT; rw [if_neg nq, hS, er_inl ea e])
      | inr r =>
        obtain ⟨p1, K1, M1, g1⟩ := r
        obtain ⟨K1', e1', -⟩ := er_inr ea e
        dsimp only
        by_cases h5 : cps (hh d n p1) = 0
        · rw [if_pos h5]
          refine ⟨fun e2 h2 => ?_, fun _ _ _ _ h => (by cases h)⟩
          obtain rfl := Sum.inl.inj h2
          exact gc_st (by rw [cme]; unfold cmT; rw [if_neg nq, hS, e1']; dsimp only; rw [if_pos h5])
        · rw [if_neg h5]
          have ea2 := er_aS (d := d) (n := n) 100 2 o (s + K1.length) 0 (p1 + 1)
          cases e2 : naS d n 100 2 o (s + K1.length) (p1 + 1) with
          | inl e' =>
            dsimp only
            refine ⟨fun e3 h2 => ?_, fun _ _ _ _ h => (by cases h)⟩
            obtain rfl := Sum.inl.inj h2
            exact gc_st (by rw [cme]; unfold cmT; rw [if_neg nq, hS, e1']; dsimp only; rw [if_neg h5, er_inl ea2 e2])
          | inr r =>
            obtain ⟨p2, K2, M2, g2⟩ := r
            obtain ⟨K2', e2', -⟩ := er_inr ea2 e2
            dsimp only
            refine ⟨fun e h => (by cases h), fun p3 K3 M3 g3 h X gX => ?_⟩
            cases h
            by_cases h6 : hh d n p2 = 93
            · rw [gc_93 h6 gX]
              exact gc_st (by rw [cme]; unfold cmT; rw [if_neg nq, hS, e1']; dsimp only; rw [if_neg h5, e2']; dsimp only; rw [if_pos h6])
            · rw [show M ++ (M1 ++ M2 ++ [(hh d n p1, 0)]) = M ++ M1 ++ M2 ++ [(hh d n p1, 0)] by simp only [List.append_assoc]] at gX
              exact gc_up (fun k => by rw [cme]; unfold cmT; rw [if_neg nq, hS, e1']; dsimp only; rw [if_neg h5, e2']; dsimp only; rw [if_neg h6]) gX
theorem gc_all (hn : n ≤ 160) : ∀ (f o s p : Nat) (S : List Nat) (M : Cd), p ≤ n → o ≤ 6 → opm S = o → S ≠ [] → G5 d n f o s p S M
  | 0, o, s, p, S, M, hp, ho, hS, hne => ⟨fun h => (by omega), fun h => (by omega), fun h => (by omega)⟩
  | f + 1, o, s, p, S, M, hp, ho, hS, hne => by
    have ih := gc_all hn f
    refine ⟨fun h => gp_one hn hp ho hS hne ih (by omega), fun h s1 s2 => ?_, fun h s1 s2 s3 => ?_⟩
    · rw [ncS]
      have g := (ih o s p S M hp ho hS hne).1 (by omega)
      have hl := np_cS (d := d) (n := n) (by omega) f 0 o s p hp
      cases e : ncS d n f 0 o s p with
      | inl e' =>
        rw [e] at g
        dsimp only
        exact ⟨fun e2 h2 => (by obtain rfl := Sum.inl.inj h2; exact g.1 e' rfl), fun _ _ _ _ h => (by cases h)⟩
      | inr r =>
        obtain ⟨p1, K1, M1, g1⟩ := r
        rw [e] at g hl
        dsimp only
        obtain ⟨a1, a2, _⟩ := hl.2 p1 K1 M1 g1 rfl
        have gl := gj_and (d := d) (n := n) (f := f) (o := o) (s := s) (S := S) (M0 := M) s1 (fun s p M hp => (ih o s p (38 :: S) M hp ho (by rw [opm, if_neg (by decide)]; exact hS) (fun z => (by cases z))).1 (by omega)) (fun s p hp => np_cS (by omega) f 0 o s p hp) 160 p1 K1 M1 g1 a2 (by omega)
        have go2 : ∀ X, GoC d n false p1 S (M ++ M1) X → GoC d n true p S M X := fun X gX => by
          refine g.2 p1 K1 M1 g1 rfl X ?_
          unfold nef
          rw [popf_n (show qn (S.headD 0) = false by unfold qn; exact decide_eq_false s2)]
          exact gX
        exact ⟨fun e2 h2 => go2 _ (gl.1 e2 h2), fun p2 K2 M2 g2 h2 => ⟨(gl.2 p2 K2 M2 g2 h2).1, (gl.2 p2 K2 M2 g2 h2).2.1, fun X gX => go2 X ((gl.2 p2 K2 M2 g2 h2).2.2 X gX)⟩⟩
    · rw [ncS]
      have g := (ih o s p S M hp ho hS hne).2.1 (by omega) s1 s2
      have hl := np_cS (d := d) (n := n) (by omega) f 1 o s p hp
      cases e : ncS d n f 1 o s p with
      | inl e' =>
        rw [e] at g
        dsimp only
        exact ⟨fun e2 h2 => (by obtain rfl := Sum.inl.inj h2; exact g.1 e' rfl), fun _ _ _ _ h => (by cases h)⟩
      | inr r =>
        obtain ⟨p1, K1, M1, g1⟩ := r
        rw [e] at g hl
        dsimp only
        obtain ⟨a1, a2, _⟩ := hl.2 p1 K1 M1 g1 rfl
        obtain ⟨t1, -, t3⟩ := g.2 p1 K1 M1 g1 rfl
        have gl := gj_or (d := d) (n := n) (f := f) (o := o) (s := s) (S := S) (M0 := M) ⟨s1, s3⟩ (fun s p M hp => (ih o s p (124 :: S) M hp ho (by rw [opm, if_neg (by decide)]; exact hS) (fun z => (by cases z))).2.1 (by omega) (show (124 : Nat) ≠ 38 by decide) (show (124 : Nat) ≠ 33 by decide)) (fun s p hp => np_cS (by omega) f 1 o s p hp) 160 p1 K1 M1 g1 a2 (by omega) t1
        exact ⟨fun e2 h2 => t3 _ (gl.1 e2 h2), fun p2 K2 M2 g2 h2 => ⟨(gl.2 p2 K2 M2 g2 h2).1, (gl.2 p2 K2 M2 g2 h2).2.1, fun X gX => t3 X ((gl.2 p2 K2 M2 g2 h2).2.2 X gX)⟩⟩
/-- a whole condition, behind its opening bracket -/
theorem gc_cond (hn : n ≤ 160) {s p : Nat} {M : Cd} (hp : p ≤ n) : GoC d n true p [40] M (match ncS d n 100 2 1 s p with
    | .inl e => .inl e
    | .inr (p', _, M', _) => if hh d n p' = 41 then .inr (p' + 1, M ++ M') else .inl (flt 1 p')) := by
  have g := (gc_all (d := d) hn 100 1 s p [40] M hp (by decide) rfl (fun z => (by cases z))).2.2 (by decide) (by decide) (by decide) (by decide)
  cases e : ncS d n 100 2 1 s p with
  | inl e' =>
    rw [e] at g
    exact g.1 e' rfl
  | inr r =>
    obtain ⟨p', K', M', g'⟩ := r
    rw [e] at g
    dsimp only
    obtain ⟨t1, t2, t3⟩ := g.2 p' K' M' g' rfl
    have nq : ¬ (hh d n p' = 38 ∨ hh d n p' = 124) := fun z => z.elim t1 (t2 rfl)
    refine t3 _ (gc_st ?_)
    rw [cm]
    unfold cmF
    rw [if_neg nq]
    split
    · rw [show jnf true [40] (M ++ M') = ([40], M ++ M') from popf_n (S := [40]) (show qj true 40 = false from rfl), if_pos (show ([40] : List Nat).tail = [] from rfl)]
    · rfl
end Ncm
