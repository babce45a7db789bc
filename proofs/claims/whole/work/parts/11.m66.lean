/-! the stack machine answers as the descent does -/
section Mds
variable {d : Dt} {n : Nat}
theorem plus_as (a b c : Nat → Nat) : plus (plus a b) c = plus a (plus b c) := funext (fun i => Nat.add_assoc _ _ _)
theorem plus_l (a : Nat → Nat) : plus (fun _ => 0) a = a := funext (fun i => Nat.zero_add _)
theorem plus_z (a : Nat → Nat) : plus a (fun _ => 0) = a := funext (fun i => Nat.add_zero _)
theorem go_up {t t' : Bool} {p p' : Nat} {S V S' V' : List Nat} {c j c' j' : Nat → Nat} {X : Rr} (h : ∀ k, mc d n (k + 1) t p S V c j = mc d n k t' p' S' V' c' j') (g : Go d n t' p' S' V' c' j' X) : Go d n t p S V c j X := by
  obtain ⟨k, hk⟩ := g
  exact ⟨k + 1, by rw [h k]; exact hk⟩
theorem go_st {t : Bool} {p : Nat} {S V : List Nat} {c j : Nat → Nat} {X : Rr} (h : mc d n 1 t p S V c j = some X) : Go d n t p S V c j X := ⟨1, h⟩
theorem enf_n {S V : List Nat} {j : Nat → Nat} (h : S.headD 0 ≠ 45) : enf S V j = (S, V, j) := by
  cases S with
  | nil => rfl
  | cons s S =>
    unfold enf
    exact if_neg h
theorem jvf_n {x : Bool} {S V : List Nat} {j : Nat → Nat} (h : S.headD 0 ≠ 42) (h2 : x = true → S.headD 0 ≠ 43) : jvf x S V j = (S, V, j) := by
  cases S with
  | nil => rfl
  | cons s S =>
    unfold jvf
    refine if_neg ?_
    rintro (z | ⟨z1, z2⟩)
    · exact h z
    · exact h2 z1 z2
/-- one piece, as the machine reads it -/
def G1 (d : Dt) (n : Nat) (R : Lr) (p : Nat) (S V : List Nat) (c j : Nat → Nat) : Prop := (∀ e, R = .inl e → Go d n true p S V c j (.inl e)) ∧ ∀ p' m c' q, R = .inr (p', m, c', q) → ∀ X, Go d n false p' (enf S (m :: V) (plus j q)).1 (enf S (m :: V) (plus j q)).2.1 (plus c c') (enf S (m :: V) (plus j q)).2.2 X → Go d n true p S V c j X
/-- joined pieces; x: also by OR -/
def G2 (d : Dt) (n : Nat) (x t : Bool) (R : Lr) (p : Nat) (S V V0 : List Nat) (c j c0 j0 : Nat → Nat) : Prop := (∀ e, R = .inl e → Go d n t p S V0 c0 j0 (.inl e)) ∧ ∀ p' m c' q, R = .inr (p', m, c', q) → stS (sg d n p') = false ∧ (x = true → stP (sg d n p') = false) ∧ ∀ X, Go d n false p' S (m :: V) (plus c c') (plus j q) X → Go d n t p S V0 c0 j0 X
theorem sg_no {p : Nat} (h : n ≤ p) : sg d n p = none := by unfold sg; rw [if_neg (by omega)]
theorem g_both {f o : Nat} {S V : List Nat} {C J : Nat → Nat} (hs : S.headD 0 ≠ 42) (h1 : ∀ p V C J, p ≤ n → G1 d n (lwS d n f 2 o p) p (42 :: S) V C J) (hl : ∀ p, p ≤ n → LPr d n p (lwS d n f 2 o p)) : ∀ (k p m : Nat) (c j : Nat → Nat), p ≤ n → n ≤ p + k → G2 d n false false (lwL d n (lwS d n f 2 o) stS 0 2 (fun a b => a &&& b) k p m c j) p S V (m :: V) C J (plus C c) (plus J j)
  | 0, p, m, c, j, hp, hk => by
    refine ⟨fun e h => (by cases h), fun p' m' c' q h => ?_⟩
    cases h
    refine ⟨?_, fun z => (by cases z), fun X h => h⟩
    rw [sg_no (by omega)]
    rfl
  | k + 1, p, m, c, j, hp, hk => by
    rw [lwL]
    by_cases z : stS (sg d n p) = true
    · rw [if_pos z]
      have go1 : ∀ X, Go d n true p (42 :: S) (m :: V) (plus C c) (plus J j) X → Go d n false p S (m :: V) (plus C c) (plus J j) X := fun X g => by
        refine go_up (fun k => ?_) g
        rw [mc]
        cases e : sg d n p with
        | none => rw [e] at z; cases z
        | some b =>
          rw [e] at z
          dsimp only
          have hb : b ≠ 41 ∧ b ≠ 43 := by
            constructor
            · rintro rfl; exact absurd z (by decide)
            · rintro rfl; exact absurd z (by decide)
          rw [if_neg hb.1, if_neg hb.2, if_pos z, jvf_n hs (fun z => (by cases z))]
      have g := h1 (p + 0) (m :: V) (plus C c) (plus J j) hp
      have hl' := hl (p + 0) hp
      cases e : lwS d n f 2 o (p + 0) with
      | inl e' =>
        rw [e] at g
        dsimp only
        exact ⟨fun e2 h2 => (by cases h2; exact go1 _ (g.1 e' rfl)), fun _ _ _ _ h => (by cases h)⟩
      | inr r =>
        obtain ⟨p', m', c', q'⟩ := r
        rw [e] at g hl'
        dsimp only
        obtain ⟨a1, a2, _⟩ := hl'.2 p' m' c' q' rfl
        have ih := g_both (V := V) (C := C) (J := J) hs h1 hl k p' (m &&& m') (plus c c') (plus (plus j q') (one1 2)) a2 (by omega)
        have go2 : ∀ X, Go d n false p' S ((m &&& m') :: V) (plus C (plus c c')) (plus J (plus (plus j q') (one1 2))) X → Go d n false p S (m :: V) (plus C c) (plus J j) X := fun X g2 => by
          refine go1 X (g.2 p' m' c' q' rfl X ?_)
          rw [enf_n (S := 42 :: S) (show (42 : Nat) ≠ 45 by decide)]
          refine go_star ?_
          rw [plus_as, plus_as J, plus_as J]
          exact g2
        exact ⟨fun e2 h2 => go2 _ (ih.1 e2 h2), fun p2 m2 c2 q2 h2 => ⟨(ih.2 p2 m2 c2 q2 h2).1, fun z => (by cases z), fun X gX => go2 X ((ih.2 p2 m2 c2 q2 h2).2.2 X gX)⟩⟩
    · rw [if_neg z]
      refine ⟨fun e h => (by cases h), fun p' m' c' q h => ?_⟩
      cases h
      exact ⟨Bool.eq_false_iff.mpr z, fun z => (by cases z), fun X h => h⟩
theorem g_either {f o : Nat} {S V : List Nat} {C J : Nat → Nat} (hs : S.headD 0 ≠ 42 ∧ S.headD 0 ≠ 43) (h1 : ∀ p V C J, p ≤ n → G2 d n false true (lwS d n f 0 o p) p (43 :: S) V V C J C J) (hl : ∀ p, p ≤ n → LPr d n p (lwS d n f 0 o p)) : ∀ (k p m : Nat) (c j : Nat → Nat), p ≤ n → n ≤ p + k → stS (sg d n p) = false → G2 d n true false (lwL d n (lwS d n f 0 o) stP 1 3 (fun a b => a ||| b) k p m c j) p S V (m :: V) C J (plus C c) (plus J j)
  | 0, p, m, c, j, hp, hk, h0 => by
    refine ⟨fun e h => (by cases h), fun p' m' c' q h => ?_⟩
    cases h
    refine ⟨h0, fun _ => ?_, fun X h => h⟩
    rw [sg_no (by omega)]
    rfl
  | k + 1, p, m, c, j, hp, hk, h0 => by
    rw [lwL]
    by_cases z : stP (sg d n p) = true
    · rw [if_pos z]
      have hpn := st_lt (d := d) (n := n) (st := stP) rfl z
      have go1 : ∀ X, Go d n true (p + 1) (43 :: S) (m :: V) (plus C c) (plus J j) X → Go d n false p S (m :: V) (plus C c) (plus J j) X := fun X g => by
        refine go_up (fun k => ?_) g
        rw [mc]
        cases e : sg d n p with
        | none => rw [e] at z; cases z
        | some b =>
          rw [e] at z
          dsimp only
          have hb : b = 43 := eq_of_beq z
          rw [if_neg (by omega), if_pos hb, jvf_n hs.1 (fun _ => hs.2)]
      have g := h1 (p + 1) (m :: V) (plus C c) (plus J j) hpn
      have hl' := hl (p + 1) hpn
      cases e : lwS d n f 0 o (p + 1) with
      | inl e' =>
        rw [e] at g
        dsimp only
        exact ⟨fun e2 h2 => (by cases h2; exact go1 _ (g.1 e' rfl)), fun _ _ _ _ h => (by cases h)⟩
      | inr r =>
        obtain ⟨p', m', c', q'⟩ := r
        rw [e] at g hl'
        dsimp only
        obtain ⟨a1, a2, _⟩ := hl'.2 p' m' c' q' rfl
        obtain ⟨g1, _, g3⟩ := g.2 p' m' c' q' rfl
        have ih := g_either (V := V) (C := C) (J := J) hs h1 hl k p' (m ||| m') (plus c c') (plus (plus j q') (one1 3)) a2 (by omega) g1
        have go2 : ∀ X, Go d n false p' S ((m ||| m') :: V) (plus C (plus c c')) (plus J (plus (plus j q') (one1 3))) X → Go d n false p S (m :: V) (plus C c) (plus J j) X := fun X g2 => by
          refine go1 X (g3 X (go_plus g1 ?_))
          rw [plus_as, plus_as J, plus_as J]
          exact g2
        exact ⟨fun e2 h2 => go2 _ (ih.1 e2 h2), fun p2 m2 c2 q2 h2 => ⟨(ih.2 p2 m2 c2 q2 h2).1, (ih.2 p2 m2 c2 q2 h2).2.1, fun X gX => go2 X ((ih.2 p2 m2 c2 q2 h2).2.2 X gX)⟩⟩
    · rw [if_neg z]
      refine ⟨fun e h => (by cases h), fun p' m' c' q h => ?_⟩
      cases h
      exact ⟨h0, fun _ => Bool.eq_false_iff.mpr z, fun X h => h⟩
/-- the descent's three ways -/
def G3 (d : Dt) (n f o p : Nat) (S V : List Nat) (C J : Nat → Nat) : Prop := (3 * (6 - o) + 1 ≤ f → G1 d n (lwS d n f 2 o p) p S V C J) ∧ (3 * (6 - o) + 2 ≤ f → S.headD 0 ≠ 42 → S.headD 0 ≠ 45 → G2 d n false true (lwS d n f 0 o p) p S V V C J C J) ∧ (3 * (6 - o) + 3 ≤ f → S.headD 0 ≠ 42 → S.headD 0 ≠ 45 → S.headD 0 ≠ 43 → G2 d n true true (lwS d n f 1 o p) p S V V C J C J)
theorem g_one {f o p : Nat} {S V : List Nat} {C J : Nat → Nat} (hn : n ≤ 60) (hp : p ≤ n) (ho : o ≤ 6) (hS : opn S = o) (ih : ∀ (o p : Nat) (S V : List Nat) (C J : Nat → Nat), p ≤ n → o ≤ 6 → opn S = o → G3 d n f o p S V C J) (hf : 3 * (6 - o) ≤ f) : G1 d n (lwS d n (f + 1) 2 o p) p S V C J := by
  have key : ∀ (R : Lr), lwS d n (f + 1) 2 o p = R → G1 d n R p S V C J := by
    intro R hR
    rw [lwS] at hR
    rotate_left
    · exact fun z => absurd z (by decide)
    · exact fun z => absurd z (by decide)
    cases e : sg d n p with
    | none =>
      rw [e] at hR
      dsimp only at hR
      subst hR
      refine ⟨fun e2 h2 => ?_, fun _ _ _ _ h => (by cases h)⟩
      obtain rfl := Sum.inl.inj h2
      exact go_st (by rw [mc, e])
    | some b =>
      rw [e] at hR
      dsimp only at hR
      have hpn : p < n := st_lt (d := d) (n := n) (st := fun x => x == some b) rfl (p := p) (by rw [e]; exact beq_self_eq_true _)
      have mce : ∀ k, mc d n (k + 1) true p S V C J = if b = 45 ∨ b = 40 then (if opn S = 6 then some (.inl (flt 5 p)) else mc d n k true (p + 1) (b :: S) V C J) else if 97 ≤ b ∧ b ≤ 106 then (if b - 97 < d 0 0 ∧ d 1 (b - 97) = 0 then mc d n k false (p + 1) (enf S (d 2 (b - 97) :: V) J).1 (enf S (d 2 (b - 97) :: V) J).2.1 (plus C (one1 (b - 97))) (enf S (d 2 (b - 97) :: V) J).2.2 else some (.inl (flt 2 p))) else some (.inl (flt 1 p)) := fun k => by
        rw [mc, e]
      by_cases h1 : 97 ≤ b ∧ b ≤ 106
      · rw [if_pos h1] at hR
        have nb : ¬ (b = 45 ∨ b = 40) := by omega
        by_cases h2 : b - 97 < d 0 0 ∧ d 1 (b - 97) = 0
        · rw [if_pos h2] at hR
          subst hR
          refine ⟨fun _ h => (by cases h), fun p' m c' q h X gX => ?_⟩
          cases h
          rw [plus_z] at gX
          exact go_up (fun k => by rw [mce k, if_neg nb, if_pos h1, if_pos h2]) gX
        · rw [if_neg h2] at hR
          subst hR
          refine ⟨fun _ h => ?_, fun _ _ _ _ h => (by cases h)⟩
          obtain rfl := Sum.inl.inj h
          exact go_st (by rw [mce 0, if_neg nb, if_pos h1, if_neg h2])
      · rw [if_neg h1] at hR
        by_cases h3 : b = 45 ∨ b = 40
        · rw [if_pos h3] at hR
          by_cases h4 : o < 6
          · rw [if_pos h4] at hR
            have go1 : ∀ X, Go d n true (p + 1) (b :: S) V C J X → Go d n true p S V C J X := fun X g => go_up (fun k => by rw [mce k, if_pos h3, if_neg (by omega)]) g
            have hb : opn (b :: S) = o + 1 := by rw [opn, if_pos h3, hS]
            by_cases h5 : b = 45
            · rw [if_pos h5] at hR
              have g := (ih (o + 1) (p + 1) (b :: S) V C J hpn h4 hb).1 (by omega)
              cases e2 : lwS d n f 2 (o + 1) (p + 1) with
              | inl e' =>
                rw [e2] at hR g
                dsimp only at hR
                subst hR
                refine ⟨fun _ h => ?_, fun _ _ _ _ h => (by cases h)⟩
                obtain rfl := Sum.inl.inj h
                exact go1 _ (g.1 e' rfl)
              | inr r =>
                obtain ⟨p1, m1, c1, q1⟩ := r
                rw [e2] at hR g
                dsimp only at hR
                subst hR
                refine ⟨fun _ h => (by cases h), fun p' m c' q h X gX => go1 X (g.2 p1 m1 c1 q1 rfl X ?_)⟩
                cases h
                rw [h5, show enf (45 :: S) (m1 :: V) (plus J q1) = enf S ((63 ^^^ m1) :: V) (plus (plus J q1) (one1 1)) from rfl, plus_as]
                exact gX
            · rw [if_neg h5] at hR
              have h40 : b = 40 := h3.resolve_left h5
              have g := (ih (o + 1) (p + 1) (b :: S) V C J hpn h4 hb).2.2 (by omega) (show b ≠ 42 by omega) (show b ≠ 45 by omega) (show b ≠ 43 by omega)
              have hl := lp_S (d := d) (n := n) (by omega) f 1 (o + 1) (p + 1) hpn
              cases e2 : lwS d n f 1 (o + 1) (p + 1) with
              | inl e' =>
                rw [e2] at hR g
                dsimp only at hR
                subst hR
                refine ⟨fun _ h => ?_, fun _ _ _ _ h => (by cases h)⟩
                obtain rfl := Sum.inl.inj h
                exact go1 _ (g.1 e' rfl)
              | inr r =>
                obtain ⟨p1, m1, c1, q1⟩ := r
                rw [e2] at hR g hl
                dsimp only at hR
                obtain ⟨g1, g2, g3⟩ := g.2 p1 m1 c1 q1 rfl
                have jn : jvf true (b :: S) (m1 :: V) (plus J q1) = (b :: S, m1 :: V, plus J q1) := jvf_n (show b ≠ 42 by omega) (fun _ => show b ≠ 43 by omega)
                by_cases h6 : sg d n p1 = some 41
                · rw [if_pos h6] at hR
                  subst hR
                  refine ⟨fun _ h => (by cases h), fun p' m c' q h X gX => go1 X (g3 X ?_)⟩
                  cases h
                  refine go_up (fun k => ?_) gX
                  rw [mc, h6]
                  dsimp only
                  rw [if_pos rfl, jn]
                  dsimp only
                  rw [if_pos (show (b :: S).headD 0 = 40 from h40)]
                  rfl
                · rw [if_neg h6] at hR
                  subst hR
                  refine ⟨fun _ h => ?_, fun _ _ _ _ h => (by cases h)⟩
                  obtain rfl := Sum.inl.inj h
                  refine go1 _ (g3 _ (go_st ?_))
                  rw [mc]
                  cases e3 : sg d n p1 with
                  | none =>
                    dsimp only
                    rw [jn, if_neg (fun z => (by cases z))]
                  | some b1 =>
                    rw [e3] at g1 g2 h6
                    dsimp only
                    have n41 : ¬ b1 = 41 := fun z => h6 (by rw [z])
                    have n43 : ¬ b1 = 43 := fun z => (by rw [z] at g2; exact absurd (g2 rfl) (by decide))
                    rw [if_neg n41, if_neg n43, g1]
                    rfl
          · rw [if_neg h4] at hR
            subst hR
            refine ⟨fun _ h => ?_, fun _ _ _ _ h => (by cases h)⟩
            obtain rfl := Sum.inl.inj h
            exact go_st (by rw [mce 0, if_pos h3, if_pos (by omega)])
        · rw [if_neg h3] at hR
          subst hR
          refine ⟨fun _ h => ?_, fun _ _ _ _ h => (by cases h)⟩
          obtain rfl := Sum.inl.inj h
          exact go_st (by rw [mce 0, if_neg h3, if_neg h1])
  exact key _ rfl
theorem g_all (hn : n ≤ 60) : ∀ (f o p : Nat) (S V : List Nat) (C J : Nat → Nat), p ≤ n → o ≤ 6 → opn S = o → G3 d n f o p S V C J
  | 0, o, p, S, V, C, J, hp, ho, hS => ⟨fun h => (by omega), fun h => (by omega), fun h => (by omega)⟩
  | f + 1, o, p, S, V, C, J, hp, ho, hS => by
    have ih := g_all hn f
    refine ⟨fun h => g_one hn hp ho hS ih (by omega), fun h s1 s2 => ?_, fun h s1 s2 s3 => ?_⟩
    · rw [lwS]
      have g := (ih o p S V C J hp ho hS).1 (by omega)
      have hl := lp_S (d := d) (n := n) (by omega) f 2 o p hp
      cases e : lwS d n f 2 o p with
      | inl e' =>
        rw [e] at g
        dsimp only
        exact ⟨fun e2 h2 => (by cases h2; exact g.1 e' rfl), fun _ _ _ _ h => (by cases h)⟩
      | inr r =>
        obtain ⟨p1, m1, c1, q1⟩ := r
        rw [e] at g hl
        dsimp only
        obtain ⟨a1, a2, _⟩ := hl.2 p1 m1 c1 q1 rfl
        have gl := g_both (d := d) (n := n) (f := f) (o := o) (S := S) (V := V) (C := C) (J := J) s1 (fun p V C J hp => (ih o p (42 :: S) V C J hp ho (by rw [opn, if_neg (by decide)]; exact hS)).1 (by omega)) (fun p hp => lp_S (by omega) f 2 o p hp) 60 p1 m1 c1 q1 a2 (by omega)
        have go2 : ∀ X, Go d n false p1 S (m1 :: V) (plus C c1) (plus J q1) X → Go d n true p S V C J X := fun X gX => by
          refine g.2 p1 m1 c1 q1 rfl X ?_
          rw [enf_n s2]
          exact gX
        exact ⟨fun e2 h2 => go2 _ (gl.1 e2 h2), fun p2 m2 c2 q2 h2 => ⟨(gl.2 p2 m2 c2 q2 h2).1, (gl.2 p2 m2 c2 q2 h2).2.1, fun X gX => go2 X ((gl.2 p2 m2 c2 q2 h2).2.2 X gX)⟩⟩
    · rw [lwS]
      have g := (ih o p S V C J hp ho hS).2.1 (by omega) s1 s2
      have hl := lp_S (d := d) (n := n) (by omega) f 0 o p hp
      cases e : lwS d n f 0 o p with
      | inl e' =>
        rw [e] at g
        dsimp only
        exact ⟨fun e2 h2 => (by cases h2; exact g.1 e' rfl), fun _ _ _ _ h => (by cases h)⟩
      | inr r =>
        obtain ⟨p1, m1, c1, q1⟩ := r
        rw [e] at g hl
        dsimp only
        obtain ⟨a1, a2, _⟩ := hl.2 p1 m1 c1 q1 rfl
        obtain ⟨g1, _, g3⟩ := g.2 p1 m1 c1 q1 rfl
        have gl := g_either (d := d) (n := n) (f := f) (o := o) (S := S) (V := V) (C := C) (J := J) ⟨s1, s3⟩ (fun p V C J hp => (ih o p (43 :: S) V C J hp ho (by rw [opn, if_neg (by decide)]; exact hS)).2.1 (by omega) (show (43 : Nat) ≠ 42 by decide) (show (43 : Nat) ≠ 45 by decide)) (fun p hp => lp_S (by omega) f 0 o p hp) 60 p1 m1 c1 q1 a2 (by omega) g1
        exact ⟨fun e2 h2 => g3 _ (gl.1 e2 h2), fun p2 m2 c2 q2 h2 => ⟨(gl.2 p2 m2 c2 q2 h2).1, (gl.2 p2 m2 c2 q2 h2).2.1, fun X gX => g3 X ((gl.2 p2 m2 c2 q2 h2).2.2 X gX)⟩⟩
theorem go_law (hn : n ≤ 60) : Go d n true 0 [] [] (fun _ => 0) (fun _ => 0) (lawR d n) := by
  have g := (g_all (d := d) hn 100 0 0 [] [] (fun _ => 0) (fun _ => 0) (Nat.zero_le _) (by decide) rfl).2.2 (by decide) (by decide) (by decide) (by decide)
  have hl := lp_S (d := d) (n := n) (by omega) 100 1 0 0 (Nat.zero_le _)
  unfold lawR
  cases e : lwS d n 100 1 0 0 with
  | inl e' =>
    rw [e] at g
    exact g.1 e' rfl
  | inr r =>
    obtain ⟨p1, m1, c1, q1⟩ := r
    rw [e] at g hl
    dsimp only
    obtain ⟨a1, a2, _⟩ := hl.2 p1 m1 c1 q1 rfl
    obtain ⟨g1, g2, g3⟩ := g.2 p1 m1 c1 q1 rfl
    refine g3 _ (go_st ?_)
    rw [plus_l, plus_l, mc]
    by_cases q : p1 = n
    · rw [if_pos q, sg_no (by omega)]
      rfl
    · rw [if_neg q]
      cases e3 : sg d n p1 with
      | none => unfold sg at e3; rw [if_pos (by omega)] at e3; cases e3
      | some b1 =>
        rw [e3] at g1 g2
        dsimp only
        have n43 : ¬ b1 = 43 := fun z => (by rw [z] at g2; exact absurd (g2 rfl) (by decide))
        rw [if_neg n43, g1]
        by_cases h : b1 = 41
        · rw [if_pos h]
          exact if_neg (show ¬ ([] : List Nat).headD 0 = 40 by decide)
        · rw [if_neg h]
          rfl
end Mds
