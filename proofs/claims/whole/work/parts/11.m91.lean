/-! the reference reads NEAR's values as the machine does -/
section Nvw
variable {d : Dt} {n : Nat} {w w0 : Mm} {R : Vr}
theorem n_stays (oT : OkT d) (hn : n ≤ 160) {p : Nat} {S : List Nat} {M : Cd} (hp : p ≤ n) (hs : NSt d n w) (h : ND p S M w) (h36 : gI w 47 36 = 0) (hM : M.length + S.length ≤ p) : Rt (f_X12_stays w) (fun r => fx wrV w r.2 ∧ ((∃ S' M', p < n ∧ r.1 = 1 ∧ gI r.2 47 36 = 0 ∧ ND (p + 1) S' M' r.2 ∧ M'.length + S'.length ≤ p + 1 ∧ ∀ rec, vmF d n rec p S M = rec true (p + 1) S' M') ∨ (∃ S' M', p < n ∧ r.1 = 1 ∧ gI r.2 47 36 = 1 ∧ ND (p + 1) S' M' r.2 ∧ M'.length + S'.length ≤ p + 1 ∧ ∀ rec, vmF d n rec p S M = rec false (p + 1) S' M') ∨ (∃ e, r.1 = 0 ∧ e < 0 ∧ gI r.2 47 30 = e ∧ ∀ rec, vmF d n rec p S M = some (.inl e)) ∨ ∃ S' M', r.1 = 0 ∧ ND p S' M' r.2 ∧ S'.length ≤ 160 ∧ ∀ rec, vmF d n rec p S M = some (if S'.headD 0 = 91 then .inl (flt 1 p) else .inr (p, S', M')))) := by
  have hb := hh_256 (n := n) (p := p) oT
  have lt1 := popf_len (q := qsm true) (em := fun s => s) S M
  unfold f_X12_stays f_X12_sums
  rw [n_here oT hn (by omega) hs h.1, Option.bind_some, is_times _ hb, is_plus _ hb]
  by_cases c : ¬ opA 0 (hh d n p) = 0 ∨ ¬ opA 1 (hh d n p) = 0
  · have hne : hh d n p ≠ 0 := fun z => by rw [z] at c; exact absurd c (by decide)
    have hpn : p < n := hh_lt (d := d) rfl hne
    have ec : ∀ (X : Option (Unit ⊕ (Int32 × Mm))), (if (if opA 0 (hh d n p) = 0 then (0 : Int32) else 1) = 0 then (if (if opA 1 (hh d n p) = 0 then (0 : Int32) else 1) = 0 then X else (some (.inl ()))) else (some (.inl ()))) = some (.inl ()) := fun X => by
      by_cases z : opA 0 (hh d n p) = 0
      · have z1 := c.resolve_left (fun y => y z)
        rw [if_pos z, if_pos rfl, if_neg z1, if_neg (by decide)]
      · rw [if_neg z, if_neg (by decide)]
    have ex : (if opA 1 (hh d n p) = 0 then (0 : Int32) else 1) = if decide (¬ opA 1 (hh d n p) = 0) = true then 1 else 0 := by
      by_cases z : opA 1 (hh d n p) = 0
      · rw [if_pos z, decide_eq_false (not_not_intro z)]; rfl
      · rw [if_neg z, decide_eq_true z]; rfl
    have lt := popf_len (q := qsm (decide (¬ opA 1 (hh d n p) = 0))) (em := fun s => s) S M
    rw [ec, rt_mg, rt_some]
    dsimp only
    rw [ex, rt_bind, rt_bind]
    refine (n_sums (decide (¬ opA 1 (hh d n p) = 0)) S M w FUEL (by unfold FUEL; omega) (by omega) hs.1 h).mono ?_
    rintro w1 ⟨f1, g1, h1⟩
    rw [rt_some, rt_onL, rt_bind]
    refine ⟨f1.lay hs.1, ?_⟩
    have nb : ¬ (hh d n p = 40 ∨ hh d n p = 91 ∨ hh d n p = 33) := by
      rintro (z | z | z) <;> (rw [z] at c; exact absurd c (by decide))
    refine (n_puts hb nb h1 (by unfold smf; omega)).mono ?_
    rintro w2 ⟨f2, h2, g2⟩
    rw [rt_some]
    refine ⟨(f1.tr f2).sub (fun c k z => wrW_V z), Or.inl ⟨_, _, hpn, rfl, g2.trans (g1.trans h36), h2, ?_, fun rec => by unfold vmF; rw [if_pos c]⟩⟩
    rw [List.length_cons]
    unfold smf
    omega
  · have c0 : opA 0 (hh d n p) = 0 := by
      by_cases z : opA 0 (hh d n p) = 0
      · exact z
      · exact absurd (Or.inl z) c
    have c1 : opA 1 (hh d n p) = 0 := by
      by_cases z : opA 1 (hh d n p) = 0
      · exact z
      · exact absurd (Or.inr z) c
    rw [if_pos c0, if_pos rfl, if_pos c1, if_pos rfl, rt_mg, rt_bind, rt_bind]
    refine (n_sums true S M w FUEL (by unfold FUEL; omega) (by omega) hs.1 h).mono ?_
    rintro w1 ⟨f1, g1, h1⟩
    have fV : fx wrV w w1 := f1.sub (fun c k z => wrW_V z)
    have hvm : ∀ rec, vmF d n rec p S M = if hh d n p = 93 then (if (smf true S M).1.headD 0 = 91 then rec false (p + 1) (smf true S M).1.tail (smf true S M).2 else some (.inl (flt 1 p))) else if (smf true S M).1.headD 0 = 91 then some (.inl (flt 1 p)) else some (.inr (p, (smf true S M).1, (smf true S M).2)) := fun rec => by
      unfold vmF
      rw [if_neg c]
    have lt2 : (smf true S M).2.length + (smf true S M).1.length = M.length + S.length ∧ (smf true S M).1.length ≤ S.length := lt1
    generalize smf true S M = J at *
    obtain ⟨S1, M1⟩ := J
    dsimp only at *
    have e93 : nI (hh d n p) = 93 ↔ hh d n p = 93 := nI_eq (b := 93) (by omega) (by decide)
    rw [rt_some]
    by_cases q : hh d n p = 93
    · have hpn : p < n := hh_lt q (by decide)
      have hl := sta_hd h1.2.2.2.2.1
      have e91 : nI (S1.headD 0) = 91 ↔ S1.headD 0 = 91 := nI_eq (b := 91) (by omega) (by decide)
      rw [if_pos (e93.mpr q), rt_onL, n_top h1.2.2.2.1 h1.2.2.2.2.1 (by omega), Option.bind_some]
      refine ⟨fV.lay hs.1, ?_⟩
      by_cases q2 : S1.headD 0 = 91
      · cases S1 with
        | nil => exact absurd q2 (by decide)
        | cons s t =>
          rw [List.headD_cons] at q2
          obtain ⟨a1, a2, a3, a4, a5, a6, a7⟩ := h1
          rw [List.length_cons] at a4 lt2
          rw [opm, if_pos (Or.inr (Or.inl q2))] at a3
          rw [if_pos (e91.mpr q2), rt_some]
          dsimp only
          rw [a4, a3, a1, nI_pred, nI_pred, nI_1]
          have f2 : fx wrV w1 (sI (sI (sI (sI w1 47 34 (nI t.length)) 47 33 (nI (opm t))) 47 28 (nI (p + 1))) 47 36 1) := (((fx.sI (by unfold wrV wrW; omega)).tr (fx.sI (by unfold wrV wrW; omega))).tr (fx.sI (by unfold wrV wrW; omega))).tr (fx.sI (by unfold wrV wrW; omega))
          exact ⟨fV.tr f2, Or.inr (Or.inl ⟨t, M1, hpn, rfl, rfl, ⟨rfl, a2, rfl, rfl, a5.2.2.of (fun k hk => rfl), a6, fun a ha => a7 a ha⟩, by omega, fun rec => by rw [hvm, if_pos q, if_pos (show (s :: t).headD 0 = 91 from q2)]; rfl⟩)⟩
      · rw [if_neg (fun z => q2 (e91.mp z)), h1.1, show f_X12_wrongs (1 : Int32) (nI p) w1 = some (sI w1 47 30 (flt 1 p)) from n_wrongs h1.1 h1.2.1 1, Option.bind_some, rt_some]
        exact ⟨fV.tr (fx.sI (by unfold wrV wrW; omega)), Or.inr (Or.inr (Or.inl ⟨_, rfl, flt_neg 1 (by decide) (by decide) p (by omega), rfl, fun rec => by rw [hvm, if_pos q, if_neg q2]⟩))⟩
    · rw [if_neg (fun z => q (e93.mp z)), rt_some]
      refine ⟨fV, Or.inr (Or.inr (Or.inr ⟨S1, M1, rfl, h1, by omega, fun rec => ?_⟩))⟩
      rw [hvm, if_neg q]
      split <;> rfl
theorem n_vm (oT : OkT d) (hn : n ≤ 160) : ∀ k, (∀ (p : Nat) (S : List Nat) (M : Cd) (w : Mm) (a b : Nat), vm d n k true p S M = some R → p ≤ n → NSt d n w → ND p S M w → fx wrV w0 w → M.length + S.length ≤ p → n + 2 ≤ a + p → n + 2 ≤ b + p → Rt (wh l_X12_factor_0 a w) (fun p1 => Rt (rFa p1) (fun p6 => Rt (rV p6) (Nx (fun s => Rt (wh l_X12_value_7 b s) (VQ n R w0)) (VQ n R w0))))) ∧ (∀ (p : Nat) (S : List Nat) (M : Cd) (w : Mm) (b : Nat), vm d n k false p S M = some R → p ≤ n → NSt d n w → ND p S M w → fx wrV w0 w → M.length + S.length ≤ p → n + 2 ≤ b + p → Rt (rV w) (Nx (fun s => Rt (wh l_X12_value_7 b s) (VQ n R w0)) (VQ n R w0)))
  | 0 => ⟨fun p S M w a b h => (by cases h), fun p S M w b h => (by cases h)⟩
  | k + 1 => by
    have ih := n_vm oT hn k
    constructor
    · intro p S M w a b hm hp hs h f0 hM ha hb
      have hb2 := hh_256 (n := n) (p := p) oT
      have e91 : nI (hh d n p) = 91 ↔ hh d n p = 91 := nI_eq (b := 91) (by omega) (by decide)
      obtain ⟨a, rfl⟩ : ∃ a', a = a' + 1 := ⟨a - 1, by omega⟩
      rw [vm] at hm
      refine rt_step ?_
      rw [l_X12_factor_0, rt_onL, ig_1 h.2.1, Option.bind_some, if_neg (by decide), n_here oT hn (by omega) hs h.1, Option.bind_some]
      refine ⟨hs.1, ?_⟩
      by_cases q : hh d n p = 91
      · have hpn : p < n := hh_lt q (by decide)
        rw [if_pos (e91.mpr q), rt_bind]
        refine (n_opens oT hn hp hs h (Or.inr (Or.inl q)) (by omega)).mono ?_
        rintro w1 ⟨f1, g1, g2⟩
        rw [rt_some, nx_l]
        have fV := f0.tr (f1.sub (fun c k z => wrW_V z))
        unfold vmT at hm
        rw [if_pos q] at hm
        by_cases q2 : opm S = 6
        · rw [if_pos q2] at hm
          cases hm
          have hbad : ¬ gI w1 47 30 = 0 := by rw [g1 q2]; exact flt_ne (by decide) (by decide) (by omega)
          obtain ⟨a, rfl⟩ : ∃ a', a = a' + 1 := ⟨a - 1, by omega⟩
          refine rt_step ?_
          rw [l_X12_factor_0, rt_onL, ig_0 hbad, Option.bind_some, if_pos rfl, rt_some, nx_r]
          refine ⟨f1.lay hs.1, (rFa_bad (f1.lay hs.1) hbad).mono ?_⟩
          rintro w2 rfl
          exact rV_bad (f1.lay hs.1) hbad (by omega) ⟨fV.tr (fx.sI (Or.inr ⟨rfl, rfl⟩)), Or.inl ⟨_, rfl, flt_neg 5 (by decide) (by decide) p (by omega), g1 q2⟩⟩
        · rw [if_neg q2] at hm
          have h2 := g2 q2
          rw [q] at h2
          exact ih.1 (p + 1) (91 :: S) M w1 a b hm hpn (hs.wW f1) h2 fV (by rw [List.length_cons]; omega) (by omega) (by omega)
      · rw [if_neg (fun z => q (e91.mp z)), rt_some, nx_r]
        refine (rFa_ok oT hn hp hs h q hM).mono ?_
        rintro w1 ⟨f1, ⟨e, e1, e2, e3⟩ | ⟨p', M', a1, a2, a3, h2, e3⟩⟩
        · rw [e3] at hm
          cases hm
          have hbad : ¬ gI w1 47 30 = 0 := by rw [e2]; exact fun z => by rw [z] at e1; exact absurd e1 (by decide)
          exact rV_bad (f1.lay hs.1) hbad (by omega) ⟨(f0.tr (f1.sub (fun c k z => wrW_V z))).tr (fx.sI (Or.inr ⟨rfl, rfl⟩)), Or.inl ⟨e, rfl, e1, e2⟩⟩
        · rw [e3] at hm
          exact ih.2 p' S M' w1 b hm a2 (hs.wW f1) h2 (f0.tr (f1.sub (fun c k z => wrW_V z))) (by omega) (by omega)
    · intro p S M w b hm hp hs h f0 hM hb
      rw [vm] at hm
      have f1 : fx wrV w (sI w 47 36 0) := fx.sI (Or.inr ⟨rfl, rfl⟩)
      refine rV_good hs.1 h.2.1 (by omega) ?_
      refine (n_stays oT hn hp (hs.wV f1) h.c36 rfl hM).mono ?_
      rintro ⟨r1, w1⟩ ⟨f2, hr⟩
      dsimp only at f2 hr ⊢
      have fA := f0.tr (f1.tr f2)
      have hsA := hs.wV (f1.tr f2)
      rcases hr with ⟨S', M', hpn, rfl, g36, h2, hM2, e3⟩ | ⟨S', M', hpn, rfl, g36, h2, hM2, e3⟩ | ⟨e, rfl, e1, e2, e3⟩ | ⟨S', M', rfl, h2, hS2, e3⟩
      · rw [e3] at hm
        refine ⟨fun z => absurd z (by decide), fun _ => ?_⟩
        obtain ⟨b, rfl⟩ : ∃ b', b = b' + 1 := ⟨b - 1, by omega⟩
        exact vl_0 hsA.1 h2.2.1 g36 (ih.1 (p + 1) S' M' w1 FUEL b hm hpn hsA h2 fA hM2 (by unfold FUEL; omega) (by omega))
      · rw [e3] at hm
        refine ⟨fun z => absurd z (by decide), fun _ => ?_⟩
        obtain ⟨b, rfl⟩ : ∃ b', b = b' + 1 := ⟨b - 1, by omega⟩
        exact vl_1 hsA.1 h2.2.1 (by rw [g36]; decide) (ih.2 (p + 1) S' M' w1 b hm hpn hsA h2 fA hM2 (by omega))
      · rw [e3] at hm
        cases hm
        exact ⟨fun _ => ⟨fA, Or.inl ⟨e, rfl, e1, e2⟩⟩, fun z => absurd rfl z⟩
      · rw [e3] at hm
        exact ⟨fun _ => ⟨fA, Or.inr ⟨p, S', M', h2, hp, hS2, (Option.some.inj hm).symm⟩⟩, fun z => absurd rfl z⟩
/-- a whole value -/
theorem n_val (oT : OkT d) (hn : n ≤ 160) {p : Nat} {S : List Nat} {M : Cd} (hp : p ≤ n) (hs : NSt d n w) (h : ND p S M w) (hM : M.length + S.length ≤ p) (ho : opm S ≤ 6) (hq : qsm true (S.headD 0) = false) (h91 : S.headD 0 ≠ 91) (s : Nat) : Rt (f_X12_value w) (fun w' => fx wrV w w' ∧ ((∃ e, e < 0 ∧ gI w' 47 30 = e ∧ (naS d n 100 2 (opm S) s p = .inl e ∨ ∃ p' K M' g, naS d n 100 2 (opm S) s p = .inr (p', K, M', g) ∧ hh d n p' = 93 ∧ e = flt 1 p')) ∨ ∃ p' K M' g, naS d n 100 2 (opm S) s p = .inr (p', K, M', g) ∧ ¬ hh d n p' = 93 ∧ ND p' S (M ++ M') w')) := by
  obtain ⟨k, hk⟩ := gv_val (d := d) (M := M) hn hp ho rfl hq h91 s
  have e : f_X12_value w = Option.bind (wh l_X12_value_7 FUEL ((1 : Int32), sI w 47 36 0)) rV2 := rfl
  have f1 : fx wrV w (sI w 47 36 0) := fx.sI (Or.inr ⟨rfl, rfl⟩)
  have hF : FUEL = (FUEL - 1) + 1 := rfl
  have g := (n_vm (R := (match naS d n 100 2 (opm S) s p with
    | .inl e => .inl e
    | .inr (p', _, M', _) => if hh d n p' = 93 then .inl (flt 1 p') else .inr (p', S, M ++ M'))) (w0 := w) oT hn k).1 p S M (sI w 47 36 0) FUEL (FUEL - 1) hk hp (hs.wV f1) h.c36 f1 hM (by unfold FUEL; omega) (by unfold FUEL; omega)
  rw [e, rt_bind, hF]
  refine (vl_0 (f1.lay hs.1) h.2.1 rfl g).mono ?_
  rintro w1 ⟨f2, hr⟩
  unfold rV2
  rw [rt_onL]
  refine ⟨f2.lay hs.1, ?_⟩
  rcases hr with ⟨e, e1, e2, e3⟩ | ⟨p', S', M', h2, hp', hS', e1⟩
  · have ne : ¬ gI w1 47 30 = 0 := by rw [e3]; exact fun z => by rw [z] at e2; exact absurd e2 (by decide)
    rw [ig_0 ne, Option.bind_some, if_pos rfl, rt_some]
    refine ⟨f2, Or.inl ⟨e, e2, e3, ?_⟩⟩
    cases en : naS d n 100 2 (opm S) s p with
    | inl e' =>
      rw [en] at e1
      exact Or.inl (by rw [Sum.inl.inj e1])
    | inr r =>
      obtain ⟨p1, K1, M1, g1⟩ := r
      rw [en] at e1
      dsimp only at e1
      split at e1
      · exact Or.inr ⟨p1, K1, M1, g1, rfl, ‹_›, (Sum.inl.inj e1).symm⟩
      · cases e1
  · have hl := sta_hd h2.2.2.2.2.1
    have e91 : nI (S'.headD 0) = 91 ↔ S'.headD 0 = 91 := nI_eq (b := 91) (by omega) (by decide)
    rw [ig_1 h2.2.1, Option.bind_some, if_neg (by decide), n_top h2.2.2.2.1 h2.2.2.2.2.1 (by omega), Option.bind_some]
    by_cases q : S'.headD 0 = 91
    · rw [if_pos q] at e1
      rw [if_pos (e91.mpr q), h2.1, show f_X12_wrongs (1 : Int32) (nI p') w1 = some (sI w1 47 30 (flt 1 p')) from n_wrongs h2.1 h2.2.1 1, Option.bind_some, rt_some]
      refine ⟨f2.tr (fx.sI (by unfold wrV wrW; omega)), Or.inl ⟨_, flt_neg 1 (by decide) (by decide) p' (by omega), rfl, ?_⟩⟩
      cases en : naS d n 100 2 (opm S) s p with
      | inl e' =>
        rw [en] at e1
        exact Or.inl (by rw [Sum.inl.inj e1])
      | inr r =>
        obtain ⟨p1, K1, M1, g1⟩ := r
        rw [en] at e1
        dsimp only at e1
        split at e1
        · exact Or.inr ⟨p1, K1, M1, g1, rfl, ‹_›, (Sum.inl.inj e1).symm⟩
        · cases e1
    · rw [if_neg q] at e1
      rw [if_neg (fun z => q (e91.mp z)), rt_some]
      refine ⟨f2, Or.inr ?_⟩
      cases en : naS d n 100 2 (opm S) s p with
      | inl e' => rw [en] at e1; cases e1
      | inr r =>
        obtain ⟨p1, K1, M1, g1⟩ := r
        rw [en] at e1
        dsimp only at e1
        split at e1
        · cases e1
        · have e2 := Sum.inr.inj e1
          have z1 := congrArg (fun x => x.1) e2
          have z2 := congrArg (fun x => x.2.1) e2
          have z3 := congrArg (fun x => x.2.2) e2
          dsimp only at z1 z2 z3
          subst z1 z2 z3
          exact ⟨p1, K1, M1, g1, rfl, ‹_›, h2⟩
end Nvw
