/-! the reference reads a LAW's text as the machine does -/
def LQ2 (d : Dt) (n : Nat) (R : Rr) (w0 w' : Mm) : Prop := fx wrN w0 w' ∧ ((∃ e, R = .inl e ∧ e < 0 ∧ gI w' 47 30 = e) ∨ ∃ S V c j, LD n S V c j w' ∧ V.length = bin S + 1 ∧ S.length ≤ 190 ∧ V.length ≤ 60 ∧ R = if (jvf true S V j).1 = [] then .inr ((jvf true S V j).2.1.headD 0, c, (jvf true S V j).2.2) else .inl (flt 1 n))
section Lgo
variable {d : Dt} {n p : Nat} {S V : List Nat} {c j : Nat → Nat} {w w0 : Mm} {x1 : Int32} {b : Nat} {Q : Mm → Prop} {R : Rr}
theorem lw_step (hL : Lay w) (h : gI w 47 30 = 0) (hQ : Rt (wh l_X12_readsD_0 FUEL w) (fun p1 => Rt (rR p1) (fun p5 => Rt (rM p5) (Nx (fun s => Rt (wh (l_X12_law_87 x1) b s) Q) Q)))) : Rt (wh (l_X12_law_87 x1) (b + 1) ((1 : Int32), w)) Q := by
  refine rt_step ?_
  have e : f_X12_readsD w = Option.bind (wh l_X12_readsD_0 FUEL w) rR := rfl
  rw [← rt_bind, ← e] at hQ
  rw [l_X12_law_87]
  dsimp only
  rw [if_neg (by decide), rt_onL, ig_1 h, Option.bind_some, if_neg (by decide), rt_bind]
  exact ⟨hL, hQ⟩
theorem fl_out (oT : OkT d) (hn : n ≤ 60) (hp : p ≤ n) (hs : LSt d n w) (h : LD p S V c j w) (e : ¬ sg0 (sg d n p) = 41) {a : Nat} (ha : 2 ≤ a) (hQ : Q w) : Rt (wh l_X12_followsD_2 a ((1 : Int32), w)) Q := by
  have hx := hs.mx h
  have hb := sg0_lt (d := d) (n := n) (p := p) oT
  obtain ⟨a, rfl⟩ : ∃ a', a = a' + 1 + 1 := ⟨a - 2, by omega⟩
  refine rt_step ?_
  rw [l_X12_followsD_2]
  dsimp only
  rw [if_neg (by decide), rt_onL, ig_1 h.2.1, Option.bind_some, if_neg (by decide), m_here oT (by omega) (by omega) hx, Option.bind_some, if_neg (fun z => e ((nI_eq (by omega) (by decide)).mp (z.trans (show (41 : Int32) = nI 41 from rfl)))), Option.bind_some, if_pos rfl, rt_some, nx_l]
  refine ⟨hs.1, ?_⟩
  refine rt_step ?_
  rw [l_X12_followsD_2]
  dsimp only
  rw [if_pos rfl, rt_some, nx_r]
  exact hQ
theorem rF_end (hL : Lay w) (h : gI w 47 30 = 0) (e : gI w 47 28 = gI w 47 29) : Rt (rF w) (fun r => r = ((0 : Int32), w)) := by
  unfold rF
  rw [rt_onL, ig_1 h, Option.bind_some, if_neg (by decide), if_pos e, rt_some]
  exact ⟨hL, rfl⟩
theorem rF_bad (hL : Lay w) (h : ¬ gI w 47 30 = 0) : Rt (rF w) (fun r => r = ((0 : Int32), w)) := by
  unfold rF
  rw [rt_onL, ig_0 h, Option.bind_some, if_pos rfl, rt_some]
  exact ⟨hL, rfl⟩
theorem rF_flt (oT : OkT d) (hn : n ≤ 60) (hs : LSt d n w) (h : LD p S V c j w) (e : sg d n p = some b) (h1 : ¬ b = 43) (h2 : stS (some b) = false) : Rt (rF w) (fun r => r = ((0 : Int32), sI w 47 30 (flt 1 p))) := by
  have hx := hs.mx h
  have hb := sg_lt oT e
  unfold rF
  rw [rt_onL, ig_1 h.2.1, Option.bind_some, if_neg (by decide), h.1, hs.2.2.1, if_neg (fun z => by have := (nI_eq (a := p) (b := n) (by omega) (by omega)).mp z; omega), m_here oT (by omega) (by omega) hx, Option.bind_some, e, show nI (sg0 (some b)) = nI b from rfl, if_neg (fun z => h1 ((nI_eq (by omega) (by decide)).mp (z.trans (show (43 : Int32) = nI 43 from rfl)))), m_stD _ hb.1, h2, if_pos (show (if false = true then (1 : Int32) else 0) = 0 from rfl), show f_X12_wrongs 1 (nI p) w = some (sI w 47 30 (flt 1 p)) from m_wrongs hx 1]
  exact ⟨hs.1, ⟨_, rfl, rfl⟩⟩
theorem rF_go (oT : OkT d) (hn : n ≤ 60) (hs : LSt d n w) (h : LD p S V c j w) (e : sg d n p = some b) (x : Bool) (hx1 : x = true ↔ b = 43) (h2 : x = false → stS (some b) = true) (hV : V.length = bin S + 1) (hS : S.length ≤ 190) (hV2 : V.length ≤ 60) : Rt (rF w) (fun r => r.1 = 1 ∧ fx wrN w r.2 ∧ LD (if x = true then p + 1 else p) ((if x = true then 43 else 42) :: (jvf x S V j).1) (jvf x S V j).2.1 c (jvf x S V j).2.2 r.2) := by
  have hx := hs.mx h
  have hb := sg_lt oT e
  have eq : ∀ {α : Type} (u v : α), (if nI b = (43 : Int32) then u else v) = if x = true then u else v := fun u v => by
    by_cases z : x = true
    · rw [if_pos z, hx1.mp z, if_pos (show nI 43 = 43 from rfl)]
    · rw [if_neg z, if_neg (fun y => z (hx1.mpr ((nI_eq (by omega) (by decide)).mp (y.trans (show (43 : Int32) = nI 43 from rfl)))))]
  unfold rF
  rw [rt_onL, ig_1 h.2.1, Option.bind_some, if_neg (by decide), h.1, hs.2.2.1, if_neg (fun z => by have := (nI_eq (a := p) (b := n) (by omega) (by omega)).mp z; omega), m_here oT (by omega) (by omega) hx, Option.bind_some, e, show nI (sg0 (some b)) = nI b from rfl]
  refine ⟨hs.1, ?_⟩
  rw [eq, eq, eq, m_stD _ hb.1]
  have ec : (if x = true then (some (.inl ()) : Option (Unit ⊕ (Int32 × Mm))) else (if (if stS (some b) = true then (1 : Int32) else 0) = 0 then (Option.bind (f_X12_wrongs (1 : Int32) (nI p) w) (fun p20 => some (.inr ((0 : Int32), p20)))) else (some (.inl ())))) = some (.inl ()) := by
    by_cases z : x = true
    · rw [if_pos z]
    · rw [if_neg z, h2 (Bool.eq_false_iff.mpr z), if_pos rfl, if_neg (by decide)]
  rw [ec, rt_mg, rt_some]
  dsimp only
  have e10 : (if x = true then (some (1 : Int32)) else (some (0 : Int32))) = some (if x = true then 1 else 0) := by split <;> rfl
  have e14 : (if x = true then (some (43 : Int32)) else (some (42 : Int32))) = some (nI (if x = true then 43 else 42)) := by split <;> rfl
  rw [e10, e14, Option.bind_some, rt_bind]
  unfold f_X12_joinsValues
  rw [rt_bind]
  refine (m_jv x d n S V j w FUEL (by unfold FUEL; omega) hV (by omega) (by omega) hs h).mono ?_
  rintro w1 ⟨f1, g⟩
  have hj := jvf_ok x S V j hV
  rw [rt_some, rt_onL, Option.bind_some]
  refine ⟨f1.lay hs.1, ?_⟩
  obtain ⟨h1, h2', h3, h4, h5, h6, h7, h8, h9⟩ := g
  rw [h4, if_pos (inb_nI (by omega) (by decide)), ix_nI (by omega), Option.bind_some, rt_some, nI_1]
  have f2 : fx wrN w1 (sI (sI (sI w1 68 (jvf x S V j).1.length (nI (if x = true then 43 else 42))) 47 34 (nI ((jvf x S V j).1.length + 1))) 47 28 (gI w1 47 28 + (if x = true then 1 else 0))) := ((fx.sI (by unfold wrN; omega)).tr (fx.sI (by unfold wrN; omega))).tr (fx.sI (by unfold wrN; omega))
  refine ⟨rfl, f1.tr f2, ?_, h2', ?_, rfl, ⟨?_, by split <;> omega, h5.of (fun k hk => ?_)⟩, h6, h7.of (fun k hk => rfl), h8, h9⟩
  · show gI w1 47 28 + (if x = true then 1 else 0) = _
    rw [h1]
    split
    · exact nI_1 p
    · exact nI_add p 0
  · have e45 : ¬ ((if x = true then 43 else 42) = 45 ∨ (if x = true then 43 else 42) = 40) := by split <;> omega
    show gI w1 47 33 = nI (opn (jvf x S V j).1 + if (if x = true then 43 else 42) = 45 ∨ (if x = true then 43 else 42) = 40 then 1 else 0)
    rw [if_neg e45]
    exact h3
  · show gI (sI w1 68 (jvf x S V j).1.length (nI (if x = true then 43 else 42))) 68 (jvf x S V j).1.length = _
    rw [gI_sI, if_pos ⟨rfl, rfl⟩]
  · show gI (sI w1 68 (jvf x S V j).1.length (nI (if x = true then 43 else 42))) 68 k = gI w1 68 k
    rw [gI_sI, if_neg (by omega)]
/-- a closing bracket -/
theorem fl_close (oT : OkT d) (hn : n ≤ 60) (hs : LSt d n w) (h : LD p S V c j w) (e : sg d n p = some 41) (hV : V.length = bin S + 1) (hS : S.length ≤ 190) (hV2 : V.length ≤ 60) : Rt (l_X12_followsD_2 ((1 : Int32), w)) (Nx (fun s => s.1 = 1 ∧ fx wrN w s.2 ∧ ((jvf true S V j).1.headD 0 = 40 → LD (p + 1) (enf (jvf true S V j).1.tail (jvf true S V j).2.1 (jvf true S V j).2.2).1 (enf (jvf true S V j).1.tail (jvf true S V j).2.1 (jvf true S V j).2.2).2.1 c (enf (jvf true S V j).1.tail (jvf true S V j).2.1 (jvf true S V j).2.2).2.2 s.2) ∧ (¬ (jvf true S V j).1.headD 0 = 40 → gI s.2 47 30 = flt 1 p)) (fun _ => False)) := by
  have hx := hs.mx h
  have hb := sg_lt oT e
  rw [l_X12_followsD_2]
  dsimp only
  rw [if_neg (by decide), rt_onL, ig_1 h.2.1, Option.bind_some, if_neg (by decide), m_here oT (by omega) (by omega) hx, Option.bind_some, e, if_pos (show nI (sg0 (some 41)) = 41 from rfl), Option.bind_some, if_neg (by decide), rt_bind]
  refine ⟨hs.1, ?_⟩
  unfold f_X12_joinsValues
  rw [rt_bind]
  refine (m_jv true d n S V j w FUEL (by unfold FUEL; omega) hV (by omega) (by omega) hs h).mono ?_
  rintro w1 ⟨f1, g⟩
  have hj := jvf_ok true S V j hV
  have hs1 := hs.fx f1
  rw [rt_some, rt_onL, m_top g (by omega), Option.bind_some]
  refine ⟨hs1.1, ?_⟩
  have hl := hd_lt g
  generalize jvf true S V j = J at *
  obtain ⟨S1, V1, j1⟩ := J
  dsimp only at *
  by_cases q : S1.headD 0 = 40
  · rw [q, if_pos (show nI 40 = 40 from rfl)]
    cases S1 with
    | nil => exact absurd q (by simp)
    | cons s t =>
      simp only [List.headD_cons] at q
      rw [bin, if_neg (by omega)] at hj
      simp only [List.length_cons] at hj
      obtain ⟨h1, h2, h3, h4, h5, h6, h7, h8, h9⟩ := g
      simp only [List.length_cons] at h4
      rw [opn, if_pos (Or.inr q)] at h3
      have f2 : fx wrN w1 (sI (sI (sI w1 47 34 (nI t.length)) 47 33 (nI (opn t))) 47 28 (nI (p + 1))) := ((fx.sI (by unfold wrN; omega)).tr (fx.sI (by unfold wrN; omega))).tr (fx.sI (by unfold wrN; omega))
      rw [h4, h3, h1, nI_pred, nI_pred, nI_1, rt_bind]
      unfold f_X12_endsD
      rw [rt_bind]
      refine (m_en (p := p + 1) (c := c) d n t V1 j1 _ FUEL (by unfold FUEL; omega) (by omega) (by omega) (by omega) (hs1.fx f2) ⟨rfl, h2, rfl, rfl, h5.2.2.of (fun k hk => rfl), h6, h7.of (fun k hk => rfl), h8, h9⟩).mono ?_
      rintro w2 ⟨f3, g2⟩
      rw [rt_some, rt_some, nx_l]
      exact ⟨rfl, (f1.tr f2).tr f3, fun _ => g2, fun z => absurd rfl z⟩
  · have hx1 := hs1.mx g
    rw [if_neg (fun z => q ((nI_eq (by omega) (by decide)).mp (z.trans (show (40 : Int32) = nI 40 from rfl)))), g.1, show (1 : Int32) = nI 1 from rfl, m_wrongs hx1 1, Option.bind_some, rt_some, nx_l]
    exact ⟨rfl, f1.tr (fx.sI (by unfold wrN; omega)), fun z => absurd z q, fun _ => rfl⟩
theorem m_go (o : OkL d) (oT : OkT d) (hn : n ≤ 60) : ∀ k, (∀ (p : Nat) (S V : List Nat) (c j : Nat → Nat) (w : Mm) (a b : Nat), mc d n k true p S V c j = some R → p ≤ n → LSt d n w → LD p S V c j w → fx wrN w0 w → V.length = bin S → S.length ≤ 2 * p → V.length ≤ p → n + 2 ≤ a + p → n + 2 ≤ b + p → Rt (wh l_X12_readsD_0 a w) (fun p1 => Rt (rR p1) (fun p5 => Rt (rM p5) (Nx (fun s => Rt (wh (l_X12_law_87 x1) b s) (LQ2 d n R w0)) (LQ2 d n R w0))))) ∧ (∀ (p : Nat) (S V : List Nat) (c j : Nat → Nat) (w : Mm) (a b : Nat), mc d n k false p S V c j = some R → p ≤ n → LSt d n w → LD p S V c j w → fx wrN w0 w → V.length = bin S + 1 → S.length + 1 ≤ 2 * p → V.length ≤ p → n + 2 ≤ a + p → n + 3 ≤ b + p → Rt (wh l_X12_followsD_2 a ((1 : Int32), w)) (fun p1 => Rt (rF p1) (fun p11 => (p11.1 = 0 → LQ2 d n R w0 p11.2) ∧ (¬ p11.1 = 0 → Rt (wh (l_X12_law_87 x1) b ((1 : Int32), p11.2)) (LQ2 d n R w0)))))
  | 0 => ⟨fun p S V c j w a b h => (by cases h), fun p S V c j w a b h => (by cases h)⟩
  | k + 1 => by
    have ih := m_go o oT hn k
    constructor
    · intro p S V c j w a b hm hp hs h f0 hV hS hV2 ha hb
      obtain ⟨a, rfl⟩ : ∃ a', a = a' + 1 := ⟨a - 1, by omega⟩
      have fault : ∀ r, 0 < r → r < 6 → ¬ (sg0 (sg d n p) = 45 ∨ sg0 (sg d n p) = 40) → r = (if 97 ≤ sg0 (sg d n p) ∧ sg0 (sg d n p) ≤ 106 then 2 else 1) → ¬ (97 ≤ sg0 (sg d n p) ∧ sg0 (sg d n p) ≤ 106 ∧ sg0 (sg d n p) - 97 < d 0 0 ∧ d 1 (sg0 (sg d n p) - 97) = 0) → R = .inl (flt r p) → Rt (wh l_X12_readsD_0 (a + 1) w) (fun p1 => Rt (rR p1) (fun p5 => Rt (rM p5) (Nx (fun s => Rt (wh (l_X12_law_87 x1) b s) (LQ2 d n R w0)) (LQ2 d n R w0)))) := fun r r0 r6 hne hr hq hR => by
        refine rt_step ?_
        rw [rl_exit oT hn hp hs h hne, rt_some, nx_r]
        refine (rr_flt o oT hn hp hs h ⟨r, r0, r6, hr, hq, rfl⟩).mono ?_
        rintro w1 ⟨f1, g⟩
        refine rm_bad (f1.lay hs.1) (by rw [g]; exact flt_ne r6 r0 (by omega)) (by omega) ⟨f0.tr f1, Or.inl ⟨flt r p, hR, flt_neg r r6 r0 p (by omega), g⟩⟩
      rw [mc] at hm
      cases e : sg d n p with
      | none =>
        rw [e] at hm fault
        dsimp only at hm
        cases hm
        exact fault 1 (by decide) (by decide) (by decide) (by decide) (fun z => absurd z.1 (by decide)) rfl
      | some x =>
        rw [e] at hm fault
        dsimp only at hm
        have hpn := (sg_lt oT e).2
        by_cases q1 : x = 45 ∨ x = 40
        · rw [if_pos q1] at hm
          refine rt_step ?_
          refine (rl_open oT hn hs h e q1 (by omega)).mono ?_
          rintro (w1 | w1) hw1
          · obtain ⟨f1, g1, g2⟩ := hw1
            rw [nx_l]
            by_cases q2 : opn S = 6
            · rw [if_pos q2] at hm
              cases hm
              have hbad : ¬ gI w1 47 30 = 0 := by rw [g1 q2]; exact flt_ne (by decide) (by decide) (by omega)
              obtain ⟨a, rfl⟩ : ∃ a', a = a' + 1 := ⟨a - 1, by omega⟩
              refine rt_step ?_
              rw [rl_bad (f1.lay hs.1) hbad, rt_some, nx_r]
              refine (rr_bad (f1.lay hs.1) hbad).mono ?_
              rintro w2 rfl
              exact rm_bad (f1.lay hs.1) hbad (by omega) ⟨f0.tr f1, Or.inl ⟨flt 5 p, rfl, flt_neg 5 (by decide) (by decide) p (by omega), g1 q2⟩⟩
            · rw [if_neg q2] at hm
              exact ih.1 (p + 1) (x :: S) V c j w1 a b hm hpn (hs.fx f1) (g2 q2) (f0.tr f1) (by rw [bin, if_neg (by omega)]; exact hV) (by simp only [List.length_cons]; omega) (by omega) (by omega) (by omega)
          · exact absurd hw1 id
        · rw [if_neg q1] at hm
          by_cases q2 : 97 ≤ x ∧ x ≤ 106
          · rw [if_pos q2] at hm
            by_cases q3 : x - 97 < d 0 0 ∧ d 1 (x - 97) = 0
            · rw [if_pos q3] at hm
              refine rt_step ?_
              rw [rl_exit oT hn hp hs h (by rw [e]; exact q1), rt_some, nx_r]
              refine (rr_ok o oT hn hs h e q2 q3 hV (by omega) (by omega)).mono ?_
              rintro w1 ⟨f1, g⟩
              have hk := enf_ok S (d 2 (x - 97) :: V) j (by simp only [List.length_cons]; omega)
              simp only [List.length_cons] at hk
              exact rm_good (f1.lay hs.1) g.2.1 (by omega) (ih.2 (p + 1) _ _ _ _ w1 FUEL b hm hpn (hs.fx f1) g (f0.tr f1) hk.1 (by omega) (by omega) (by unfold FUEL; omega) (by omega))
            · rw [if_neg q3] at hm
              cases hm
              exact fault 2 (by decide) (by decide) q1 (if_pos q2).symm (fun z => q3 z.2.2) rfl
          · rw [if_neg q2] at hm
            cases hm
            exact fault 1 (by decide) (by decide) q1 (if_neg q2).symm (fun z => q2 ⟨z.1, z.2.1⟩) rfl
    · intro p S V c j w a b hm hp hs h f0 hV hS hV2 ha hb
      rw [mc] at hm
      cases e : sg d n p with
      | none =>
        rw [e] at hm
        dsimp only at hm
        have hpn : p = n := by
          unfold sg at e
          split at e
          · cases e
          · omega
        refine fl_out oT hn hp hs h (by rw [e]; decide) (by omega) ?_
        refine (rF_end hs.1 h.2.1 (by rw [h.1, hs.2.2.1, hpn])).mono ?_
        rintro r rfl
        refine ⟨fun _ => ⟨f0, Or.inr ⟨S, V, c, j, hpn ▸ h, hV, by omega, by omega, ?_⟩⟩, fun z => absurd rfl z⟩
        by_cases q : (jvf true S V j).1 = []
        · rw [if_pos q] at hm ⊢
          cases hm
          rfl
        · rw [if_neg q] at hm ⊢
          cases hm
          rw [hpn]
      | some x =>
        rw [e] at hm
        dsimp only at hm
        have hpn := (sg_lt oT e).2
        by_cases q1 : x = 41
        · rw [if_pos q1] at hm
          rw [q1] at e
          obtain ⟨a, rfl⟩ : ∃ a', a = a' + 1 := ⟨a - 1, by omega⟩
          refine rt_step ?_
          refine (fl_close oT hn hs h e hV (by omega) (by omega)).mono ?_
          rintro (s | s) hw1
          · obtain ⟨s1, w1⟩ := s
            obtain ⟨z1, f1, g1, g2⟩ := hw1
            dsimp only at z1 f1 g1 g2
            rw [nx_l, z1]
            by_cases q2 : (jvf true S V j).1.headD 0 = 40
            · rw [if_pos q2] at hm
              have hj := jvf_ok true S V j hV
              have hb2 : (jvf true S V j).2.1.length = bin (jvf true S V j).1.tail + 1 := by
                rw [hj.1]
                cases q3 : (jvf true S V j).1 with
                | nil => rfl
                | cons s t => rw [q3] at q2; rw [bin, if_neg (by simp only [List.headD_cons] at q2; omega)]; rfl
              have hk := enf_ok _ _ (jvf true S V j).2.2 hb2
              have ht : (jvf true S V j).1.tail.length ≤ (jvf true S V j).1.length := by rw [List.length_tail]; omega
              exact ih.2 (p + 1) _ _ _ _ w1 a b hm hpn (hs.fx f1) (g1 q2) (f0.tr f1) hk.1 (by omega) (by omega) (by omega) (by omega)
            · rw [if_neg q2] at hm
              cases hm
              have hbad : ¬ gI w1 47 30 = 0 := by rw [g2 q2]; exact flt_ne (by decide) (by decide) (by omega)
              obtain ⟨a, rfl⟩ : ∃ a', a = a' + 1 := ⟨a - 1, by omega⟩
              refine rt_step ?_
              rw [l_X12_followsD_2]
              dsimp only
              rw [if_neg (by decide), rt_onL, ig_0 hbad, Option.bind_some, if_pos rfl, rt_some, nx_r]
              refine ⟨f1.lay hs.1, (rF_bad (f1.lay hs.1) hbad).mono ?_⟩
              rintro r rfl
              exact ⟨fun _ => ⟨f0.tr f1, Or.inl ⟨flt 1 p, rfl, flt_neg 1 (by decide) (by decide) p (by omega), g2 q2⟩⟩, fun z => absurd rfl z⟩
          · exact absurd hw1 id
        · rw [if_neg q1] at hm
          refine fl_out oT hn hp hs h (by rw [e]; exact q1) (by omega) ?_
          obtain ⟨b, rfl⟩ : ∃ b', b = b' + 1 := ⟨b - 1, by omega⟩
          by_cases q2 : x = 43
          · rw [if_pos q2] at hm
            have hj := jvf_ok true S V j hV
            refine (rF_go oT hn hs h e true (by simp [q2]) (fun z => (by cases z)) hV (by omega) (by omega)).mono ?_
            rintro r ⟨r1, f1, g⟩
            refine ⟨fun z => (by rw [r1] at z; exact absurd z (by decide)), fun _ => lw_step (f1.lay hs.1) g.2.1 (ih.1 (p + 1) _ _ _ _ r.2 FUEL b hm hpn (hs.fx f1) g (f0.tr f1) ?_ ?_ (by omega) (by unfold FUEL; omega) (by omega))⟩
            · rw [bin, if_pos (Or.inr rfl)]; exact hj.1
            · simp only [List.length_cons]; omega
          · rw [if_neg q2] at hm
            by_cases q3 : stS (some x) = true
            · rw [if_pos q3] at hm
              have hj := jvf_ok false S V j hV
              refine (rF_go oT hn hs h e false (by simp [q2]) (fun z => q3) hV (by omega) (by omega)).mono ?_
              rintro r ⟨r1, f1, g⟩
              refine ⟨fun z => (by rw [r1] at z; exact absurd z (by decide)), fun _ => lw_step (f1.lay hs.1) g.2.1 (ih.1 p _ _ _ _ r.2 FUEL b hm hp (hs.fx f1) g (f0.tr f1) ?_ ?_ (by omega) (by unfold FUEL; omega) (by omega))⟩
              · rw [bin, if_pos (Or.inl rfl)]; exact hj.1
              · simp only [List.length_cons]; omega
            · rw [if_neg q3] at hm
              cases hm
              refine (rF_flt oT hn hs h e q2 (Bool.eq_false_iff.mpr q3)).mono ?_
              rintro r rfl
              exact ⟨fun _ => ⟨f0.tr (fx.sI (by unfold wrN; omega)), Or.inl ⟨flt 1 p, rfl, flt_neg 1 (by decide) (by decide) p (by omega), rfl⟩⟩, fun z => absurd rfl z⟩
end Lgo
