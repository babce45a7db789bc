/-! the reference reads NEAR's conditions -/
noncomputable def rP (p1 : Mm) : Option Mm := onL p1 (Option.bind (f_X12_isGood p1) (fun p3 => Option.bind (if p3 = 0 then (some p1) else (Option.bind (f_X12_value p1) (fun p22 => some p22))) (fun p5 => onL p5 (Option.bind (f_X12_isGood p5) (fun p7 => if p7 = 0 then (some p5) else (Option.bind (f_X12_here p5) (fun p9 => if (f_X12_isSign p9) = 0 then (Option.bind (f_X12_wrongs (1 : Int32) (gI p5 47 28) p5) (fun p21 => some p21)) else (Option.bind (f_X12_puts p9 p5) (fun p11 => onL p11 (Option.bind (f_X12_value p11) (fun p13 => onL p13 (Option.bind (f_X12_isGood p13) (fun p15 => if p15 = 0 then (some p13) else (Option.bind (f_X12_top p13) (fun p17 => Option.bind (f_X12_emit p17 (0 : Int32) p13) (fun p18 => onL p18 (Option.bind (f_X12_ends (sI p18 47 34 ((gI p18 47 34) - (1 : Int32)))) (fun p20 => some p20))))))))))))))))))
noncomputable def rB (m : Int32) (p6 : Mm) : Option ((Int32 × Mm) ⊕ (Mm)) := onL p6 (Option.bind (f_X12_isGood p6) (fun p8 => if p8 = 0 then (some (.inl (m, p6))) else (Option.bind (f_X12_goesBehind p6) (fun p10 => some (.inl (p10.1, p10.2))))))
def wrU (c k : Nat) : Prop := wrV c k ∨ (c = 47 ∧ k = 35)
/-- stacks that come up between pieces -/
def wfS : Bool → List Nat → Prop
  | _, [] => False
  | t, s :: S => ((s = 38 ∨ s = 124) ∧ wfS false S) ∨ (s = 40 ∧ (S = [] ∨ wfS true S)) ∨ (t = true ∧ s = 33 ∧ wfS true S)
def UQ (n : Nat) (R : Cr) (w0 w' : Mm) : Prop := fx wrU w0 w' ∧ ((∃ e, R = .inl e ∧ e < 0 ∧ gI w' 47 30 = e) ∨ ∃ p M, R = .inr (p, M) ∧ p ≤ n ∧ ND p [] M w')
section Ncw
variable {d : Dt} {n : Nat} {w w0 : Mm} {Q : Mm → Prop} {R : Cr}
theorem wf_t : ∀ {S : List Nat}, wfS false S → wfS true S
  | [], h => h.elim
  | s :: S, h => by
    rcases h with h | h | ⟨h, _⟩
    · exact Or.inl h
    · exact Or.inr (Or.inl h)
    · cases h
theorem wf_ne {t : Bool} {S : List Nat} (h : wfS t S) : S ≠ [] := by
  rintro rfl
  cases t <;> exact h
theorem wf_hd {t : Bool} {S : List Nat} (h : wfS t S) : S.headD 0 = 38 ∨ S.headD 0 = 124 ∨ S.headD 0 = 40 ∨ S.headD 0 = 33 := by
  cases S with
  | nil => cases t <;> exact h.elim
  | cons s S =>
    rw [List.headD_cons]
    rcases h with ⟨h | h, _⟩ | ⟨h, _⟩ | ⟨_, h, _⟩ <;> omega
theorem wf_nef : ∀ {S : List Nat} {M : Cd}, wfS true S → wfS false (nef S M).1 ∧ opm (nef S M).1 ≤ opm S
  | [], _, h => h.elim
  | s :: S, M, h => by
    by_cases z : s = 33
    · rcases h with ⟨h | h, _⟩ | ⟨h, _⟩ | ⟨_, _, h⟩
      · omega
      · omega
      · omega
      · rw [show nef (s :: S) M = nef S (M ++ [(2, 0)]) from popf_c (by unfold qn; exact decide_eq_true z)]
        have := wf_nef (M := M ++ [(2, 0)]) h
        exact ⟨this.1, Nat.le_trans this.2 (by rw [opm]; omega)⟩
    · rw [show nef (s :: S) M = (s :: S, M) from popf_n (S := s :: S) (by unfold qn; exact decide_eq_false z)]
      refine ⟨?_, Nat.le_refl _⟩
      rcases h with h | h | ⟨_, h, _⟩
      · exact Or.inl h
      · exact Or.inr (Or.inl h)
      · exact absurd h z
theorem wf_jnf (x : Bool) : ∀ {S : List Nat} {M : Cd}, wfS false S → wfS false (jnf x S M).1 ∧ opm (jnf x S M).1 = opm S ∧ (x = true → ∃ t, (jnf x S M).1 = 40 :: t ∧ (t = [] ∨ wfS true t))
  | [], _, h => h.elim
  | s :: S, M, h => by
    by_cases z : qj x s = true
    · have zs : s = 38 ∨ s = 124 := by
        unfold qj at z
        simp only [Bool.or_eq_true, decide_eq_true_eq, Bool.and_eq_true] at z
        omega
      have hS : wfS false S := by
        rcases h with h | h | h
        · exact h.2
        · omega
        · omega
      rw [show jnf x (s :: S) M = jnf x S (M ++ [(s, 0)]) from popf_c z]
      have := wf_jnf x (M := M ++ [(s, 0)]) hS
      exact ⟨this.1, by rw [this.2.1, opm, if_neg (by omega), Nat.add_zero], this.2.2⟩
    · rw [show jnf x (s :: S) M = (s :: S, M) from popf_n (S := s :: S) (Bool.eq_false_iff.mpr z)]
      refine ⟨h, rfl, fun hx => ?_⟩
      have zs : ¬ (s = 38 ∨ s = 124) := by
        intro y
        apply z
        unfold qj
        rw [hx]
        simp only [Bool.or_eq_true, decide_eq_true_eq, Bool.and_eq_true]
        rcases y with y | y
        · exact Or.inl y
        · exact Or.inr ⟨trivial, y⟩
      rcases h with h | h | ⟨h, _⟩
      · exact absurd h.1 zs
      · exact ⟨S, by rw [h.1], h.2⟩
      · cases h
theorem wrV_U {c k : Nat} (h : wrV c k) : wrU c k := Or.inl h
theorem NSt.wU {w' : Mm} (h : NSt d n w) (f : fx wrU w w') : NSt d n w' := h.mv f (fun c k z y => by unfold wrU wrV wrW at z; omega)
theorem hd_q {S : List Nat} (h : S.headD 0 = 38 ∨ S.headD 0 = 124 ∨ S.headD 0 = 40 ∨ S.headD 0 = 33) : qsm true (S.headD 0) = false ∧ S.headD 0 ≠ 91 := by
  rcases h with z | z | z | z <;> (rw [z]; exact ⟨by decide, by decide⟩)
/-- a comparison -/
theorem rP_ok (oT : OkT d) (hn : n ≤ 160) {p : Nat} {S : List Nat} {M : Cd} (hp : p ≤ n) (hs : NSt d n w) (h : ND p S M w) (hM : M.length + S.length ≤ p) (ho : opm S ≤ 6) (hw : wfS true S) (nq : ¬ (hh d n p = 33 ∨ hh d n p = 40)) : Rt (rP w) (fun w' => fx wrV w w' ∧ ((∃ e, e < 0 ∧ gI w' 47 30 = e ∧ ∀ rec, cmT d n rec p S M = some (.inl e)) ∨ ∃ p' S' M', p < p' ∧ p' ≤ n ∧ ND p' S' M' w' ∧ M'.length + S'.length ≤ p' ∧ wfS false S' ∧ opm S' ≤ 6 ∧ ∀ rec, cmT d n rec p S M = rec false p' S' M')) := by
  have hq := hd_q (wf_hd hw)
  have np1 := np_aS (d := d) (n := n) (by omega) 100 2 (opm S) 0 p hp
  have hcm : ∀ rec, cmT d n rec p S M = (match naS d n 100 2 (opm S) 0 p with
      | .inl e => some (.inl e)
      | .inr (p1, _, M1, _) => if cps (hh d n p1) = 0 then some (.inl (flt 1 p1)) else (match naS d n 100 2 (opm S) 0 (p1 + 1) with
        | .inl e => some (.inl e)
        | .inr (p2, _, M2, _) => if hh d n p2 = 93 then some (.inl (flt 1 p2)) else rec false p2 (nef S (M ++ M1 ++ M2 ++ [(hh d n p1, 0)])).1 (nef S (M ++ M1 ++ M2 ++ [(hh d n p1, 0)])).2)) := fun rec => by
    unfold cmT
    rw [if_neg nq]
    rfl
  unfold rP
  rw [rt_onL, ig_1 h.2.1, Option.bind_some, if_neg (by decide), rt_bind, rt_bind]
  refine ⟨hs.1, ?_⟩
  refine (n_val oT hn hp hs h hM ho hq.1 hq.2 0).mono ?_
  rintro w1 ⟨f1, hr⟩
  rw [rt_some, rt_onL]
  refine ⟨f1.lay hs.1, ?_⟩
  rcases hr with ⟨e, e1, e2, e3⟩ | ⟨p1, K1, M1, g1, e1, e2, h1⟩
  · have ne : ¬ gI w1 47 30 = 0 := by rw [e2]; exact fun z => by rw [z] at e1; exact absurd e1 (by decide)
    rw [ig_0 ne, Option.bind_some, if_pos rfl, rt_some]
    refine ⟨f1, Or.inl ⟨e, e1, e2, fun rec => ?_⟩⟩
    rw [hcm]
    rcases e3 with e3 | ⟨p', K, M', g, e3, e4, e5⟩
    · rw [e3]
    · rw [e3]
      dsimp only
      rw [e4, if_pos (by decide), e5]
  · have hs1 := hs.wV f1
    obtain ⟨a1, a2, a3, a4, a5⟩ := np1.2 p1 K1 M1 g1 e1
    have hb := hh_256 (n := n) (p := p1) oT
    rw [ig_1 h1.2.1, Option.bind_some, if_neg (by decide), n_here oT hn (by omega) hs1 h1.1, Option.bind_some, is_sign _ hb]
    by_cases q : cps (hh d n p1) = 0
    · rw [if_pos q, if_pos rfl, h1.1, show f_X12_wrongs (1 : Int32) (nI p1) w1 = some (sI w1 47 30 (flt 1 p1)) from n_wrongs h1.1 h1.2.1 1, Option.bind_some, rt_some]
      exact ⟨f1.tr (fx.sI (by unfold wrV wrW; omega)), Or.inl ⟨_, flt_neg 1 (by decide) (by decide) p1 (by omega), rfl, fun rec => by rw [hcm, e1]; dsimp only; rw [if_pos q]⟩⟩
    · have qc := cps_ok q
      have hpn : p1 < n := hh_lt (d := d) rfl (fun z => q (by rw [z]; decide))
      rw [if_neg q, if_neg (by decide), rt_bind]
      refine (n_puts hb (by omega) h1 (by omega)).mono ?_
      rintro w2 ⟨f2, h2, -⟩
      have hs2 := hs1.wW f2
      have eo : opm (hh d n p1 :: S) = opm S := by rw [opm, if_neg (by omega), Nat.add_zero]
      have np2 := np_aS (d := d) (n := n) (by omega) 100 2 (opm S) 0 (p1 + 1) hpn
      rw [rt_onL, rt_bind]
      refine ⟨hs2.1, ?_⟩
      have hM2 : (M ++ M1).length + (hh d n p1 :: S).length ≤ p1 + 1 := by rw [List.length_append, List.length_cons]; omega
      refine (n_val oT hn hpn hs2 h2 hM2 (by omega) (by rw [List.headD_cons]; rcases qc.2.2.2.2.2 with z | z | z <;> (rw [z]; decide)) (by rw [List.headD_cons]; omega) 0).mono ?_
      rintro w3 ⟨f3, hr⟩
      rw [eo] at hr
      have fA : fx wrV w w3 := (f1.tr (f2.sub (fun c k z => wrW_V z))).tr f3
      rw [rt_onL]
      refine ⟨fA.lay hs.1, ?_⟩
      rcases hr with ⟨e, e1', e2', e3'⟩ | ⟨p2, K2, M2, g2, e1', e2', h3⟩
      · have ne : ¬ gI w3 47 30 = 0 := by rw [e2']; exact fun z => by rw [z] at e1'; exact absurd e1' (by decide)
        rw [ig_0 ne, Option.bind_some, if_pos rfl, rt_some]
        refine ⟨fA, Or.inl ⟨e, e1', e2', fun rec => ?_⟩⟩
        rw [hcm, e1]
        dsimp only
        rw [if_neg q]
        rcases e3' with e3' | ⟨p', K, M', g, e3', e4', e5'⟩
        · rw [e3']
        · rw [e3']
          dsimp only
          rw [if_pos e4', e5']
      · obtain ⟨b1, b2, b3, b4, b5⟩ := np2.2 p2 K2 M2 g2 e1'
        have ml : (M ++ M1 ++ M2).length = M.length + M1.length + M2.length := by rw [List.length_append, List.length_append]
        rw [ig_1 h3.2.1, Option.bind_some, if_neg (by decide), n_top h3.2.2.2.1 h3.2.2.2.2.1 (by rw [List.length_cons]; omega), Option.bind_some, List.headD_cons, rt_bind]
        refine (n_emit (fA.lay hs.1) h3 (by omega) (hh d n p1) 0).mono ?_
        rintro w4 ⟨f4, ⟨c1, c2, c3, c4, c5, c6, c7⟩, -⟩
        have fB := fA.tr (f4.sub (fun c k z => wrW_V z))
        rw [rt_onL, rt_bind, c4, List.length_cons, nI_pred]
        refine ⟨fB.lay hs.1, ?_⟩
        have f5 : fx wrW w4 (sI w4 47 34 (nI S.length)) := fx.sI (by unfold wrW; omega)
        have wn := wf_nef (M := M ++ M1 ++ M2 ++ [(hh d n p1, 0)]) hw
        have pl := popf_len (q := qn) (em := fun _ => 2) S (M ++ M1 ++ M2 ++ [(hh d n p1, 0)])
        have ml2 : (M ++ M1 ++ M2 ++ [(hh d n p1, 0)]).length = M.length + M1.length + M2.length + 1 := by rw [List.length_append, ml]; rfl
        unfold f_X12_ends
        rw [rt_bind]
        refine (n_ends (p := p2) S (M ++ M1 ++ M2 ++ [(hh d n p1, 0)]) (sI w4 47 34 (nI S.length)) FUEL (by unfold FUEL; omega) (by omega) (f5.lay (fB.lay hs.1)) ⟨c1, c2, by rw [eo] at c3; exact c3, rfl, c5.2.2.of (fun k hk => rfl), c6, fun a ha => c7 a ha⟩).mono ?_
        rintro w5 ⟨f6, h5⟩
        rw [rt_some, rt_some]
        refine ⟨fB.tr ((f5.tr f6).sub (fun c k z => wrW_V z)), Or.inr ⟨p2, _, _, by omega, b2, h5, by unfold nef; omega, wn.1, by omega, fun rec => ?_⟩⟩
        rw [hcm, e1]
        dsimp only
        rw [if_neg q, e1']
        dsimp only
        rw [if_neg e2']
/-- what comes behind a piece -/
theorem n_behind (oT : OkT d) (hn : n ≤ 160) {p : Nat} {S : List Nat} {M : Cd} (hp : p ≤ n) (hs : NSt d n w) (h : ND p S M w) (h35 : gI w 47 35 = 0) (hM : M.length + S.length ≤ p) (ho : opm S ≤ 6) (hw : wfS false S) : Rt (f_X12_goesBehind w) (fun r => fx wrU w r.2 ∧ ((∃ S' M', p < n ∧ r.1 = 1 ∧ gI r.2 47 35 = 0 ∧ ND (p + 1) S' M' r.2 ∧ M'.length + S'.length ≤ p + 1 ∧ wfS true S' ∧ opm S' ≤ 6 ∧ ∀ rec, cmF d n rec p S M = rec true (p + 1) S' M') ∨ (∃ S' M', p < n ∧ r.1 = 0 ∧ gI r.2 47 35 = 0 ∧ ND (p + 1) S' M' r.2 ∧ M'.length + S'.length ≤ p + 1 ∧ wfS false S' ∧ opm S' ≤ 6 ∧ ∀ rec, cmF d n rec p S M = rec false (p + 1) S' M') ∨ (∃ e, r.1 = 0 ∧ e < 0 ∧ gI r.2 47 30 = e ∧ ∀ rec, cmF d n rec p S M = some (.inl e)) ∨ ∃ M', p < n ∧ r.1 = 0 ∧ gI r.2 47 30 = 0 ∧ gI r.2 47 35 = 1 ∧ ND (p + 1) [] M' r.2 ∧ ∀ rec, cmF d n rec p S M = some (.inr (p + 1, M')))) := by
  have hb := hh_256 (n := n) (p := p) oT
  have e38 : nI (hh d n p) = 38 ↔ hh d n p = 38 := nI_eq (b := 38) (by omega) (by decide)
  have e124 : nI (hh d n p) = 124 ↔ hh d n p = 124 := nI_eq (b := 124) (by omega) (by decide)
  have e41 : nI (hh d n p) = 41 ↔ hh d n p = 41 := nI_eq (b := 41) (by omega) (by decide)
  unfold f_X12_goesBehind f_X12_joins
  rw [n_here oT hn (by omega) hs h.1, Option.bind_some]
  by_cases c : hh d n p = 38 ∨ hh d n p = 124
  · have hpn : p < n := hh_lt (d := d) rfl (by omega)
    have ec : ∀ (X : Option (Unit ⊕ (Int32 × Mm))), (if nI (hh d n p) = (38 : Int32) then (some (.inl ())) else (if nI (hh d n p) = (124 : Int32) then (some (.inl ())) else X)) = some (.inl ()) := fun X => by
      by_cases z : hh d n p = 38
      · rw [if_pos (e38.mpr z)]
      · rw [if_neg (fun y => z (e38.mp y)), if_pos (e124.mpr (c.resolve_left z))]
    have ex : (if nI (hh d n p) = (124 : Int32) then (some (1 : Int32)) else (some (0 : Int32))) = some (if decide (hh d n p = 124) = true then 1 else 0) := by
      by_cases z : hh d n p = 124
      · rw [if_pos (e124.mpr z), decide_eq_true z]; rfl
      · rw [if_neg (fun y => z (e124.mp y)), decide_eq_false z]; rfl
    have lt := popf_len (q := qj (decide (hh d n p = 124))) (em := fun s => s) S M
    have wj := wf_jnf (decide (hh d n p = 124)) (M := M) hw
    rw [ec, rt_mg, rt_some]
    dsimp only
    rw [ex, Option.bind_some, rt_bind, rt_bind]
    refine (n_joins (decide (hh d n p = 124)) S M w FUEL (by unfold FUEL; omega) (by omega) hs.1 h).mono ?_
    rintro w1 ⟨f1, h1⟩
    rw [rt_some, rt_onL, rt_bind]
    refine ⟨f1.lay hs.1, ?_⟩
    refine (n_puts hb (by omega) h1 (by unfold jnf; omega)).mono ?_
    rintro w2 ⟨f2, h2, -⟩
    rw [rt_some]
    have fW := f1.tr f2
    refine ⟨fW.sub (fun c k z => wrV_U (wrW_V z)), Or.inl ⟨_, _, hpn, rfl, (fW.I (by unfold wrW; omega)).trans h35, h2, ?_, Or.inl ⟨c, wj.1⟩, ?_, fun rec => by unfold cmF; rw [if_pos c]⟩⟩
    · rw [List.length_cons]
      unfold jnf
      omega
    · rw [opm, if_neg (by omega), wj.2.1]
      omega
  · have hcm : ∀ rec, cmF d n rec p S M = if hh d n p = 41 then (if (jnf true S M).1.tail = [] then some (.inr (p + 1, (jnf true S M).2)) else rec false (p + 1) (nef (jnf true S M).1.tail (jnf true S M).2).1 (nef (jnf true S M).1.tail (jnf true S M).2).2) else some (.inl (flt 1 p)) := fun rec => by
      unfold cmF
      rw [if_neg c]
    rw [if_neg (fun y => c (Or.inl (e38.mp y))), if_neg (fun y => c (Or.inr (e124.mp y)))]
    by_cases q : hh d n p = 41
    · have hpn : p < n := hh_lt q (by decide)
      have lt := popf_len (q := qj true) (em := fun s => s) S M
      have wj := wf_jnf true (M := M) hw
      obtain ⟨t, et, wt⟩ := wj.2.2 rfl
      rw [if_pos (e41.mpr q), rt_mg, rt_bind, rt_bind]
      refine (n_joins true S M w FUEL (by unfold FUEL; omega) (by omega) hs.1 h).mono ?_
      rintro w1 ⟨f1, h1⟩
      have lt2 : (jnf true S M).2.length + (jnf true S M).1.length = M.length + S.length ∧ (jnf true S M).1.length ≤ S.length := lt
      have hop := wj.2.1
      generalize jnf true S M = J at *
      obtain ⟨S1, M1⟩ := J
      dsimp only at *
      subst et
      obtain ⟨a1, a2, a3, a4, a5, a6, a7⟩ := h1
      rw [List.length_cons] at a4 lt2
      rw [opm, if_pos (Or.inl rfl)] at a3 hop
      rw [rt_some, rt_onL, a4, a3, a1, nI_pred, nI_pred, nI_1]
      refine ⟨f1.lay hs.1, ?_⟩
      have fU : fx wrU w w1 := f1.sub (fun c k z => wrV_U (wrW_V z))
      by_cases z : t = []
      · subst z
        rw [if_pos (show nI ([] : List Nat).length = 0 from rfl), Option.bind_some, if_pos (by decide), if_neg (by decide), rt_some]
        dsimp only
        have f2 : fx wrU w1 (sI (sI (sI (sI w1 47 34 (nI ([] : List Nat).length)) 47 33 (nI (opm []))) 47 28 (nI (p + 1))) 47 35 1) := (((fx.sI (by unfold wrU wrV wrW; omega)).tr (fx.sI (by unfold wrU wrV wrW; omega))).tr (fx.sI (by unfold wrU wrV wrW; omega))).tr (fx.sI (by unfold wrU wrV wrW; omega))
        exact ⟨fU.tr f2, Or.inr (Or.inr (Or.inr ⟨M1, hpn, rfl, a2, rfl, ⟨rfl, a2, rfl, rfl, trivial, a6, fun a ha => a7 a ha⟩, fun rec => by rw [hcm, if_pos q]; exact if_pos rfl⟩))⟩
      · have hl : 0 < t.length := List.length_pos_iff.mpr z
        have wt' := wt.resolve_left z
        have wn := wf_nef (M := M1) wt'
        have pl := popf_len (q := qn) (em := fun _ => 2) t M1
        rw [if_neg (nI_ne0 hl (by omega)), Option.bind_some, if_pos (by decide), if_pos rfl, rt_bind]
        have f2 : fx wrU w1 (sI (sI (sI (sI w1 47 34 (nI t.length)) 47 33 (nI (opm t))) 47 28 (nI (p + 1))) 47 35 0) := (((fx.sI (by unfold wrU wrV wrW; omega)).tr (fx.sI (by unfold wrU wrV wrW; omega))).tr (fx.sI (by unfold wrU wrV wrW; omega))).tr (fx.sI (by unfold wrU wrV wrW; omega))
        unfold f_X12_ends
        rw [rt_bind]
        refine (n_ends (p := p + 1) t M1 _ FUEL (by unfold FUEL; omega) (by omega) (f2.lay (f1.lay hs.1)) ⟨rfl, a2, rfl, rfl, a5.2.2.of (fun k hk => rfl), a6, fun a ha => a7 a ha⟩).mono ?_
        rintro w3 ⟨f3, h3⟩
        rw [rt_some, rt_some]
        dsimp only
        refine ⟨(fU.tr f2).tr (f3.sub (fun c k z => wrV_U (wrW_V z))), Or.inr (Or.inl ⟨_, _, hpn, rfl, f3.I (by unfold wrW; omega), h3, by unfold nef; omega, wn.1, by omega, fun rec => by rw [hcm, if_pos q, if_neg (show ¬ (40 :: t).tail = [] from z)]; rfl⟩)⟩
    · rw [if_neg (fun y => q (e41.mp y)), h.1, show f_X12_wrongs (1 : Int32) (nI p) w = some (sI w 47 30 (flt 1 p)) from n_wrongs h.1 h.2.1 1, Option.bind_some, rt_mg, rt_some]
      exact ⟨fx.sI (by unfold wrU wrV wrW; omega), Or.inr (Or.inr (Or.inl ⟨_, rfl, flt_neg 1 (by decide) (by decide) p (by omega), rfl, fun rec => by rw [hcm, if_neg q]⟩))⟩
end Ncw
