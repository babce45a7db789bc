/-! the reference reads NEAR's clauses -/
def wrY (c k : Nat) : Prop := wrU c k ∨ (c = 47 ∧ k = 31) ∨ (63 ≤ c ∧ c ≤ 65)
def NC (i : Nat) (cl : List Cl) (w : Mm) : Prop := gI w 47 31 = nI i ∧ cl.length = i ∧ ClG 63 w cl
section Ncy
variable {d : Dt} {n : Nat} {w w0 : Mm}
theorem wrU_Y {c k : Nat} (h : wrU c k) : wrY c k := Or.inl h
theorem NSt.wY {w' : Mm} (h : NSt d n w) (f : fx wrY w w') : NSt d n w' := h.mv f (fun c k z y => by unfold wrY wrU wrV wrW at z; omega)
theorem clg_app {e : Nat} {cl : List Cl} {x : Cl} {w w' : Mm} (h : ClG e w cl) (h1 : ∀ c k, e ≤ c → c ≤ e + 2 → k ≠ cl.length → gI w' c k = gI w c k) (hx : gI w' e cl.length = nI x.1 ∧ gI w' (e + 1) cl.length = nI x.2.1 ∧ gI w' (e + 2) cl.length = nI x.2.2.1) : ClG e w' (cl ++ [x]) := by
  intro i y hy
  by_cases z : i < cl.length
  · rw [List.getElem?_append_left z] at hy
    rw [h1 e i (by omega) (by omega) (by omega), h1 (e + 1) i (by omega) (by omega) (by omega), h1 (e + 2) i (by omega) (by omega) (by omega)]
    exact h i y hy
  · rw [List.getElem?_append_right (by omega)] at hy
    have hi : i = cl.length := by
      by_cases q : i - cl.length = 0
      · omega
      · rw [List.getElem?_eq_none (by rw [List.length_cons, List.length_nil]; omega)] at hy
        cases hy
    subst hi
    rw [Nat.sub_self] at hy
    cases hy
    exact hx
/-- a clause -/
def KlQ (d : Dt) (n i p s : Nat) (M : Cd) (cl : List Cl) (w w' : Mm) : Prop := fx wrY w w' ∧ ((∃ e, e < 0 ∧ gI w' 47 30 = e ∧ ((i = 12 ∧ hh d n p = 107 ∧ e = flt 4 p) ∨ (¬ (i = 12 ∧ hh d n p = 107) ∧ ncl d n s p = .inl e))) ∨ ∃ p' K' M' x, ¬ (i = 12 ∧ hh d n p = 107) ∧ ncl d n s p = .inr (p', K', M', x) ∧ ND p' [] (M ++ M') w' ∧ NC (i + 1) (cl ++ [x]) w')
theorem n_clause (oT : OkT d) (hn : n ≤ 160) {i p : Nat} {M : Cd} {cl : List Cl} (hi : i ≤ 12) (hp : p ≤ n) (hs : NSt d n w) (h : ND p [] M w) (hM : M.length ≤ p) (hc : NC i cl w) : Rt (f_X12_clause w) (KlQ d n i p M.length M cl w) := by
  obtain ⟨c31, hcl, cg⟩ := hc
  have hb := hh_256 (n := n) (p := p) oT
  have e107 : nI (hh d n p) = 107 ↔ hh d n p = 107 := nI_eq (b := 107) (by omega) (by decide)
  have bad : ∀ (c : Nat), 0 < c → c < 6 → ∀ (Y : Mm → Option Mm), Rt (onL (sI w 47 30 (flt c p)) (Option.bind (f_X12_isGood (sI w 47 30 (flt c p))) (fun p5 => if p5 = 0 then (some (sI w 47 30 (flt c p))) else Y (sI w 47 30 (flt c p))))) (fun w' => fx wrY w w' ∧ gI w' 47 30 = flt c p) := fun c c0 c6 Y => by
    have f1 : fx wrY w (sI w 47 30 (flt c p)) := fx.sI (by unfold wrY wrU wrV wrW; omega)
    rw [rt_onL, ig_0 (show ¬ gI (sI w 47 30 (flt c p)) 47 30 = 0 from flt_ne c6 c0 (by omega)), Option.bind_some, if_pos rfl, rt_some]
    exact ⟨f1.lay hs.1, f1, rfl⟩
  unfold f_X12_clause
  rw [n_here oT hn (by omega) hs h.1, Option.bind_some]
  by_cases q : hh d n p = 107
  · have hpn : p < n := hh_lt q (by decide)
    rw [if_pos (e107.mpr q), c31]
    by_cases q2 : i = 12
    · rw [if_pos (show nI i = 12 by rw [q2]; rfl), h.1, show f_X12_wrongs (4 : Int32) (nI p) w = some (sI w 47 30 (flt 4 p)) from n_wrongs h.1 h.2.1 4, Option.bind_some, Option.bind_some]
      refine (bad 4 (by decide) (by decide) (fun p3 => if inb (gI p3 47 31) 12 = true then (Option.bind (f_X12_value (sI (sI (sI (sI p3 63 (ix (gI p3 47 31)) (gI p3 47 32)) 47 28 ((gI p3 47 28) + (1 : Int32))) 47 34 (0 : Int32)) 47 33 (0 : Int32))) (fun p9 => onL p9 (if inb (gI p9 47 31) 12 = true then (Option.bind (f_X12_isGood (sI p9 64 (ix (gI p9 47 31)) (gI p9 47 32))) (fun p13 => Option.bind (if p13 = 0 then (some (sI p9 64 (ix (gI p9 47 31)) (gI p9 47 32))) else (Option.bind (f_X12_condition (sI p9 64 (ix (gI p9 47 31)) (gI p9 47 32))) (fun p19 => some p19))) (fun p15 => onL p15 (if inb (gI p15 47 31) 12 = true then (some (sI (sI p15 65 (ix (gI p15 47 31)) (gI p15 47 32)) 47 31 ((gI p15 47 31) + (1 : Int32)))) else none)))) else none))) else none)).mono ?_
      rintro w' ⟨f1, g1⟩
      exact ⟨f1, Or.inl ⟨_, flt_neg 4 (by decide) (by decide) p (by omega), g1, Or.inl ⟨q2, q, rfl⟩⟩⟩
    · have nq : ¬ (i = 12 ∧ hh d n p = 107) := fun z => q2 z.1
      rw [if_neg (fun z => q2 ((nI_eq (by omega) (by decide)).mp (z.trans (show (12 : Int32) = nI 12 from rfl)))), Option.bind_some, rt_onL, ig_1 h.2.1, Option.bind_some, if_neg (by decide), c31, if_pos (inb_nI (by omega) (by decide)), ix_nI (by omega), h.2.2.2.2.2.1, h.1, nI_1, rt_bind]
      refine ⟨hs.1, ?_⟩
      have f1 : fx wrY w (sI (sI (sI (sI w 63 i (nI M.length)) 47 28 (nI (p + 1))) 47 34 0) 47 33 0) := (((fx.sI (by unfold wrY; omega)).tr (fx.sI (by unfold wrY wrU wrV wrW; omega))).tr (fx.sI (by unfold wrY wrU wrV wrW; omega))).tr (fx.sI (by unfold wrY wrU wrV wrW; omega))
      have h1 : ND (p + 1) [] M (sI (sI (sI (sI w 63 i (nI M.length)) 47 28 (nI (p + 1))) 47 34 0) 47 33 0) := ⟨rfl, h.2.1, rfl, rfl, trivial, h.2.2.2.2.2.1, fun a ha => h.2.2.2.2.2.2 a ha⟩
      have g31 : gI (sI (sI (sI (sI w 63 i (nI M.length)) 47 28 (nI (p + 1))) 47 34 0) 47 33 0) 47 31 = nI i := c31
      have g63 : ∀ k, gI (sI (sI (sI (sI w 63 i (nI M.length)) 47 28 (nI (p + 1))) 47 34 0) 47 33 0) 63 k = if k = i then nI M.length else gI w 63 k := fun k => by
        show gI (sI w 63 i (nI M.length)) 63 k = _
        rw [gI_sI]
        by_cases z : k = i
        · rw [if_pos ⟨rfl, z⟩, if_pos z]
        · rw [if_neg (fun y => z y.2), if_neg z]
      have g64 : ∀ c k, c = 64 ∨ c = 65 → gI (sI (sI (sI (sI w 63 i (nI M.length)) 47 28 (nI (p + 1))) 47 34 0) 47 33 0) c k = gI w c k := fun c k hc => by rcases hc with rfl | rfl <;> rfl
      generalize sI (sI (sI (sI w 63 i (nI M.length)) 47 28 (nI (p + 1))) 47 34 0) 47 33 0 = w1 at *
      have hs1 := hs.wY f1
      have np1 := np_aS (d := d) (n := n) (by omega) 100 2 0 M.length (p + 1) hpn
      refine (n_val oT hn hpn hs1 h1 (by show M.length + 0 ≤ p + 1; omega) (by decide) (by decide) (by decide) M.length).mono ?_
      rintro w2 ⟨f2, hr⟩
      have fY2 : fx wrY w w2 := f1.tr (f2.sub (fun c k z => wrU_Y (wrV_U z)))
      have k2 : ∀ c k, 63 ≤ c → c ≤ 65 → gI w2 c k = gI w1 c k := fun c k a b => f2.I (by unfold wrV wrW; omega)
      have g31' : gI w2 47 31 = nI i := (f2.I (by unfold wrV wrW; omega)).trans g31
      rw [rt_onL, g31', if_pos (inb_nI (by omega) (by decide)), ix_nI (by omega)]
      refine ⟨fY2.lay hs.1, ?_⟩
      have eo : opm ([] : List Nat) = 0 := rfl
      rw [eo] at hr
      rcases hr with ⟨e, e1, e2, e3⟩ | ⟨p1, K1, M1, g1, e1, e2, h2⟩
      · have ne : ¬ gI (sI w2 64 i (gI w2 47 32)) 47 30 = 0 := by show ¬ gI w2 47 30 = 0; rw [e2]; exact fun z => by rw [z] at e1; exact absurd e1 (by decide)
        have f3 : fx wrY w (sI w2 64 i (gI w2 47 32)) := fY2.tr (fx.sI (by unfold wrY; omega))
        rw [ig_0 ne, Option.bind_some, if_pos rfl, Option.bind_some, rt_onL, show gI (sI w2 64 i (gI w2 47 32)) 47 31 = nI i from g31', if_pos (inb_nI (by omega) (by decide)), rt_some]
        refine ⟨f3.lay hs.1, (f3.tr (fx.sI (by unfold wrY; omega))).tr (fx.sI (by unfold wrY; omega)), Or.inl ⟨e, e1, e2, Or.inr ⟨nq, ?_⟩⟩⟩
        unfold ncl
        rw [if_pos q]
        rcases e3 with e3 | ⟨p', K, M', g, e3, e4, e5⟩
        · rw [e3]
        · rw [e3]
          dsimp only
          rw [if_neg (by omega), e5]
      · obtain ⟨a1, a2, a3, a4, a5⟩ := np1.2 p1 K1 M1 g1 e1
        have h3 : ND p1 [] (M ++ M1) (sI w2 64 i (gI w2 47 32)) := ⟨h2.1, h2.2.1, h2.2.2.1, h2.2.2.2.1, trivial, h2.2.2.2.2.2.1, fun a ha => h2.2.2.2.2.2.2 a ha⟩
        have f3 : fx wrY w (sI w2 64 i (gI w2 47 32)) := fY2.tr (fx.sI (by unfold wrY; omega))
        have x63 : ∀ k, gI (sI w2 64 i (gI w2 47 32)) 63 k = if k = i then nI M.length else gI w 63 k := fun k => (k2 63 k (by decide) (by decide)).trans (g63 k)
        have x64 : ∀ k, gI (sI w2 64 i (gI w2 47 32)) 64 k = if k = i then nI (M ++ M1).length else gI w 64 k := fun k => by
          rw [gI_sI]
          by_cases z : k = i
          · rw [if_pos ⟨rfl, z⟩, if_pos z]; exact h2.2.2.2.2.2.1
          · rw [if_neg (fun y => z y.2), if_neg z]; exact (k2 64 k (by decide) (by decide)).trans (g64 64 k (Or.inl rfl))
        have x65 : ∀ k, gI (sI w2 64 i (gI w2 47 32)) 65 k = gI w 65 k := fun k => (k2 65 k (by decide) (by decide)).trans (g64 65 k (Or.inr rfl))
        have g31'' : gI (sI w2 64 i (gI w2 47 32)) 47 31 = nI i := g31'
        rw [ig_1 h3.2.1, Option.bind_some, if_neg (by decide), rt_bind, rt_bind]
        generalize sI w2 64 i (gI w2 47 32) = w3 at *
        have hs3 := hs.wY f3
        have ml : (M ++ M1).length = M.length + M1.length := List.length_append
        refine (n_cond oT hn a2 hs3 h3 (by omega) (M.length + K1.length)).mono ?_
        rintro w4 ⟨f4, hr⟩
        have fY4 : fx wrY w w4 := f3.tr (f4.sub (fun c k z => wrU_Y z))
        have k4 : ∀ c k, 63 ≤ c → c ≤ 65 → gI w4 c k = gI w3 c k := fun c k a b => f4.I (by unfold wrU wrV wrW; omega)
        have g31a : gI w4 47 31 = nI i := (f4.I (by unfold wrU wrV wrW; omega)).trans g31''
        rw [rt_some, rt_onL, g31a, if_pos (inb_nI (by omega) (by decide)), ix_nI (by omega), rt_some, nI_1]
        refine ⟨fY4.lay hs.1, ?_⟩
        have f5 : fx wrY w (sI (sI w4 65 i (gI w4 47 32)) 47 31 (nI (i + 1))) := (fY4.tr (fx.sI (by unfold wrY; omega))).tr (fx.sI (by unfold wrY; omega))
        have hncl : ncl d n M.length p = if hh d n p1 = 40 then (match ncS d n 100 2 1 (M.length + K1.length) (p1 + 1) with
            | .inl e => .inl e
            | .inr (p2, K2, M2, g2) => if hh d n p2 = 41 then .inr (p2 + 1, K1 ++ K2, M1 ++ M2, (M.length, M.length + K1.length, M.length + K1.length + K2.length, g1, g2)) else .inl (flt 1 p2)) else .inl (flt 1 p1) := by
          unfold ncl
          rw [if_pos q, e1]
          rfl
        unfold cnR at hr
        rcases hr with ⟨e, c1, c2, c3⟩ | ⟨p2, M2, c1, c2, h4⟩
        · refine ⟨f5, Or.inl ⟨e, c2, c3, Or.inr ⟨nq, ?_⟩⟩⟩
          rw [hncl]
          by_cases z : hh d n p1 = 40
          · rw [if_pos z] at c1 ⊢
            cases en : ncS d n 100 2 1 (M.length + K1.length) (p1 + 1) with
            | inl e' =>
              rw [en] at c1
              have c1' : (Sum.inl e' : Cr) = .inl e := c1
              rw [Sum.inl.inj c1']
            | inr r =>
              obtain ⟨p3, K3, M3, g3⟩ := r
              rw [en] at c1
              dsimp only at c1 ⊢
              by_cases y : hh d n p3 = 41
              · rw [if_pos y] at c1; cases c1
              · rw [if_neg y] at c1 ⊢; rw [Sum.inl.inj c1]
          · rw [if_neg z] at c1 ⊢
            rw [Sum.inl.inj c1]
        · by_cases z : hh d n p1 = 40
          · have hpn1 := hh_lt z (by decide)
            rw [if_pos z] at c1 hncl
            cases en : ncS d n 100 2 1 (M.length + K1.length) (p1 + 1) with
            | inl e' =>
              rw [en] at c1
              have c1' : (Sum.inl e' : Cr) = .inr (p2, M2) := c1
              cases c1'
            | inr r =>
              obtain ⟨p3, K3, M3, g3⟩ := r
              rw [en] at c1 hncl
              dsimp only at c1 hncl
              by_cases y : hh d n p3 = 41
              · rw [if_pos y] at c1 hncl
                have e5 := Sum.inr.inj c1
                have z1 := congrArg (fun x => x.1) e5
                have z2 := congrArg (fun x => x.2) e5
                dsimp only at z1 z2
                obtain ⟨b1, b2, b3, b4, b5⟩ := (np_cS (d := d) (n := n) (by omega) 100 2 1 _ (p1 + 1) hpn1).2 _ _ _ _ en
                have ml3 : (M ++ M1 ++ M3).length = M.length + M1.length + M3.length := by rw [List.length_append, ml]
                rw [← z1, ← z2] at h4
                refine ⟨f5, Or.inr ⟨p3 + 1, _, _, _, nq, hncl, ?_, rfl, by rw [List.length_append, hcl]; rfl, ?_⟩⟩
                · rw [← List.append_assoc]
                  exact ⟨h4.1, h4.2.1, h4.2.2.1, h4.2.2.2.1, trivial, h4.2.2.2.2.2.1, fun a ha => h4.2.2.2.2.2.2 a ha⟩
                · have w65 : ∀ k, gI (sI (sI w4 65 i (gI w4 47 32)) 47 31 (nI (i + 1))) 65 k = if k = i then nI (M ++ M1 ++ M3).length else gI w 65 k := fun k => by
                    show gI (sI w4 65 i (gI w4 47 32)) 65 k = _
                    rw [gI_sI]
                    by_cases v : k = i
                    · rw [if_pos ⟨rfl, v⟩, if_pos v]; exact h4.2.2.2.2.2.1
                    · rw [if_neg (fun y => v y.2), if_neg v]; exact (k4 65 k (by decide) (by decide)).trans (x65 k)
                  have w63 : ∀ k, gI (sI (sI w4 65 i (gI w4 47 32)) 47 31 (nI (i + 1))) 63 k = if k = i then nI M.length else gI w 63 k := fun k => (k4 63 k (by decide) (by decide)).trans (x63 k)
                  have w64 : ∀ k, gI (sI (sI w4 65 i (gI w4 47 32)) 47 31 (nI (i + 1))) 64 k = if k = i then nI (M ++ M1).length else gI w 64 k := fun k => (k4 64 k (by decide) (by decide)).trans (x64 k)
                  refine clg_app cg (fun c k hc1 hc2 hk => ?_) ⟨?_, ?_, ?_⟩
                  · rw [hcl] at hk
                    rcases (by omega : c = 63 ∨ c = 64 ∨ c = 65) with rfl | rfl | rfl
                    · rw [w63, if_neg hk]
                    · rw [w64, if_neg hk]
                    · rw [w65, if_neg hk]
                  · rw [hcl, w63, if_pos rfl]
                  · rw [hcl]
                    refine (w64 i).trans ?_
                    rw [if_pos rfl, ml, a4]
                  · rw [hcl]
                    refine (w65 i).trans ?_
                    rw [if_pos rfl, ml3, a4, b4]
              · rw [if_neg y] at c1; cases c1
          · rw [if_neg z] at c1; cases c1
  · have nq : ¬ (i = 12 ∧ hh d n p = 107) := fun z => q z.2
    rw [if_neg (fun z => q (e107.mp z)), h.1, show f_X12_wrongs (1 : Int32) (nI p) w = some (sI w 47 30 (flt 1 p)) from n_wrongs h.1 h.2.1 1, Option.bind_some, Option.bind_some]
    refine (bad 1 (by decide) (by decide) (fun p3 => if inb (gI p3 47 31) 12 = true then (Option.bind (f_X12_value (sI (sI (sI (sI p3 63 (ix (gI p3 47 31)) (gI p3 47 32)) 47 28 ((gI p3 47 28) + (1 : Int32))) 47 34 (0 : Int32)) 47 33 (0 : Int32))) (fun p9 => onL p9 (if inb (gI p9 47 31) 12 = true then (Option.bind (f_X12_isGood (sI p9 64 (ix (gI p9 47 31)) (gI p9 47 32))) (fun p13 => Option.bind (if p13 = 0 then (some (sI p9 64 (ix (gI p9 47 31)) (gI p9 47 32))) else (Option.bind (f_X12_condition (sI p9 64 (ix (gI p9 47 31)) (gI p9 47 32))) (fun p19 => some p19))) (fun p15 => onL p15 (if inb (gI p15 47 31) 12 = true then (some (sI (sI p15 65 (ix (gI p15 47 31)) (gI p15 47 32)) 47 31 ((gI p15 47 31) + (1 : Int32)))) else none)))) else none))) else none)).mono ?_
    rintro w' ⟨f1, g1⟩
    exact ⟨f1, Or.inl ⟨_, flt_neg 1 (by decide) (by decide) p (by omega), g1, Or.inr ⟨nq, by unfold ncl; rw [if_neg q]⟩⟩⟩
end Ncy
