/-! what the reference's law of NEAR costs -/
section Nwl
variable {w w0 : Mm} {m c b : Nat}
theorem ltr_is : ∀ x, x < 256 → ltr x < 8 → x = 97 ∨ x = 98 ∨ x = 99 ∨ x = 108 ∨ x = 115 ∨ x = 119 ∨ x = 120 ∨ x = 121 := by decide +kernel
theorem n_valueOf {x : Nat} (hm : m < 64) (hc : c < 64) (h1 : gI w 47 38 = nI m) (h2 : gI w 47 39 = nI c) (h3 : gI w 47 40 = nI b) (hx : x < 256) (hl : ltr x < 8) : f_X12_valueOf (nI x) w = some (Lf m c b (ltr x)) := by
  have l1 : m &&& c < 1024 := Nat.lt_of_le_of_lt Nat.and_le_left (by omega)
  have l2 : c &&& (m ^^^ 4294967295) < 1024 := Nat.lt_of_le_of_lt Nat.and_le_left (by omega)
  have l3 : m &&& (c ^^^ 4294967295) < 1024 := Nat.lt_of_le_of_lt Nat.and_le_left (by omega)
  unfold f_X12_valueOf
  rw [h1, h2, h3, nb_and, nb_and, fa_and, m_sizeOf l1, m_sizeOf l2, m_sizeOf l3, m_sizeOf (t := m) (by omega), m_sizeOf (t := c) (by omega), Option.bind_some, Option.bind_some, Option.bind_some, Option.bind_some, Option.bind_some]
  rcases ltr_is x hx hl with rfl | rfl | rfl | rfl | rfl | rfl | rfl | rfl
  · rw [if_pos (show nI 97 = 97 from rfl)]; rfl
  · rw [if_neg (show ¬ nI 98 = 97 by decide), if_pos (show nI 98 = 98 from rfl)]; rfl
  · rw [if_neg (show ¬ nI 99 = 97 by decide), if_neg (show ¬ nI 99 = 98 by decide), if_pos (show nI 99 = 99 from rfl)]; rfl
  · rw [if_neg (show ¬ nI 108 = 97 by decide), if_neg (show ¬ nI 108 = 98 by decide), if_neg (show ¬ nI 108 = 99 by decide), if_neg (show ¬ nI 108 = 115 by decide), if_neg (show ¬ nI 108 = 119 by decide), if_neg (show ¬ nI 108 = 120 by decide), if_neg (show ¬ nI 108 = 121 by decide)]; rfl
  · rw [if_neg (show ¬ nI 115 = 97 by decide), if_neg (show ¬ nI 115 = 98 by decide), if_neg (show ¬ nI 115 = 99 by decide), if_pos (show nI 115 = 115 from rfl)]; rfl
  · rw [if_neg (show ¬ nI 119 = 97 by decide), if_neg (show ¬ nI 119 = 98 by decide), if_neg (show ¬ nI 119 = 99 by decide), if_neg (show ¬ nI 119 = 115 by decide), if_pos (show nI 119 = 119 from rfl)]; rfl
  · rw [if_neg (show ¬ nI 120 = 97 by decide), if_neg (show ¬ nI 120 = 98 by decide), if_neg (show ¬ nI 120 = 99 by decide), if_neg (show ¬ nI 120 = 115 by decide), if_neg (show ¬ nI 120 = 119 by decide), if_pos (show nI 120 = 120 from rfl)]; rfl
  · rw [if_neg (show ¬ nI 121 = 97 by decide), if_neg (show ¬ nI 121 = 98 by decide), if_neg (show ¬ nI 121 = 99 by decide), if_neg (show ¬ nI 121 = 115 by decide), if_neg (show ¬ nI 121 = 119 by decide), if_neg (show ¬ nI 121 = 120 by decide), if_pos (show nI 121 = 121 from rfl)]; rfl
theorem n_worksL (hm : m < 64) (hc : c < 64) : ∀ (M : Cd) (i N : Nat) (st st' : List (Option Int32)) (w : Mm), (∀ x, x ∈ M → MO x) → AtW w i M → i + M.length ≤ 160 → st.length + M.length ≤ 190 → M.length < N → Lay w → RsA w st → gI w 47 38 = nI m ∧ gI w 47 39 = nI c ∧ gI w 47 40 = nI b → fx (fun c _ => scW c) w0 w → me (Lf m c b) M st = some st' → Rt (wh (l_X12_works_5 (nI (i + M.length))) N (nI st.length, nI i, w)) (fun w' => fx (fun c _ => scW c) w0 w' ∧ RsA w' st')
  | M, i, 0, st, st', w, _, _, _, _, hN, _, _, _, _, _ => absurd hN (Nat.not_lt_zero _)
  | [], i, N + 1, st, st', w, _, _, hi, _, hN, hL, hR, _, f0, h => by
    cases h
    refine rt_step ?_
    rw [l_X12_works_5]
    dsimp only
    rw [if_pos (nI_le (by rw [List.length_nil]; omega) (by omega)), rt_some, nx_r]
    exact ⟨f0, hR⟩
  | x :: M, i, N + 1, st, st', w, hO, hA, hi, hst, hN, hL, hR, hl, f0, h => by
    obtain ⟨o1, o2, o3⟩ := hO x (List.mem_cons_self ..)
    obtain ⟨a1, a2, a3⟩ := hA
    rw [List.length_cons] at hi hst hN
    have eto : i + (x :: M).length = i + 1 + M.length := by rw [List.length_cons]; omega
    have next : ∀ (st2 : List (Option Int32)) (w2 : Mm), me (Lf m c b) M st2 = some st' → fx (fun c _ => scW c) w w2 → RsA w2 st2 → st2.length ≤ st.length + 1 → Rt (wh (l_X12_works_5 (nI (i + (x :: M).length))) N (nI st2.length, nI i + 1, w2)) (fun w' => fx (fun c _ => scW c) w0 w' ∧ RsA w' st') := fun st2 w2 e f1 r2 l2 => by
      rw [eto, nI_1]
      exact n_worksL hm hc M (i + 1) N st2 st' w2 (fun y hy => hO y (List.mem_cons_of_mem _ hy)) (a3.of (fun k => ⟨f1.I (by unfold scW; omega), f1.I (by unfold scW; omega)⟩)) (by omega) (by omega) (by omega) (f1.lay hL) r2 ⟨(f1.I (by unfold scW; omega)).trans hl.1, (f1.I (by unfold scW; omega)).trans hl.2.1, (f1.I (by unfold scW; omega)).trans hl.2.2⟩ (f0.tr f1) e
    rw [me] at h
    unfold mst at h
    refine rt_step ?_
    rw [l_X12_works_5]
    dsimp only
    rw [if_neg (nI_ge (by rw [eto]; omega) (by rw [eto]; omega)), rt_onL, if_pos (inb_nI (by omega) (by decide)), ix_nI (by omega), a1, a2]
    refine ⟨hL, ?_⟩
    have push : ∀ (v : Int32), me (Lf m c b) M (some v :: st) = some st' → Rt (wh (l_X12_works_5 (nI (i + (x :: M).length))) N (nI st.length + 1, nI i + 1, sI (sI w 70 st.length (vp_nar .boolean 0)) 69 st.length v)) (fun w' => fx (fun c _ => scW c) w0 w' ∧ RsA w' st') := fun v e => by
      rw [nI_1 st.length]
      refine next (some v :: st) _ e ((fx.sI (Or.inr rfl)).tr (fx.sI (Or.inl rfl))) ⟨?_, ?_, hR.of (fun k hk => ⟨?_, ?_⟩)⟩ (by rw [List.length_cons]; omega)
      · show gI (sI w 70 st.length (vp_nar .boolean 0)) 70 st.length = 0
        rw [gI_sI, if_pos ⟨rfl, rfl⟩, nar_0]
      · rw [gI_sI, if_pos ⟨rfl, rfl⟩]
      · rw [gI_sI, if_neg (by omega)]; rfl
      · show gI (sI w 70 st.length (vp_nar .boolean 0)) 70 k = _
        rw [gI_sI, if_neg (by omega)]
    by_cases c0 : x.1 = 0
    · rw [if_pos c0] at h
      rw [c0, if_pos (show nI 0 ≤ 2 by decide), if_neg (show ¬ nI 0 = 2 by decide), if_pos (inb_nI (by omega) (by decide)), if_pos (show nI 0 = 0 from rfl), Option.bind_some, Option.bind_some, rt_some, nx_l, ix_nI (by omega)]
      exact push _ h
    · rw [if_neg c0] at h
      by_cases c1 : x.1 = 1
      · rw [if_pos c1] at h
        obtain ⟨x8, x9⟩ := o3 c1
        rw [c1, if_pos (show nI 1 ≤ 2 by decide), if_neg (show ¬ nI 1 = 2 by decide), if_pos (inb_nI (by omega) (by decide)), if_neg (show ¬ nI 1 = 0 by decide), n_valueOf (m := m) (c := c) (b := b) hm hc (show gI (sI w 70 (ix (nI st.length)) (vp_nar .boolean 0)) 47 38 = nI m from hl.1) (show gI (sI w 70 (ix (nI st.length)) (vp_nar .boolean 0)) 47 39 = nI c from hl.2.1) (show gI (sI w 70 (ix (nI st.length)) (vp_nar .boolean 0)) 47 40 = nI b from hl.2.2) x8 x9, Option.bind_some, Option.bind_some, Option.bind_some, rt_some, nx_l, ix_nI (by omega)]
        exact push _ h
      · rw [if_neg c1] at h
        match st, hst, hR, h, next with
        | [], _, _, h, _ => cases h
        | v :: t, hst, hR, h, next =>
          dsimp only at h
          rw [List.length_cons] at hst
          by_cases c2 : x.1 = 2
          · rw [if_pos c2] at h
            rw [c2, if_pos (show nI 2 ≤ 2 by decide), if_pos (show nI 2 = 2 from rfl), List.length_cons, nI_pred, if_pos (inb_nI (by omega) (by decide)), Option.bind_some, rt_some, nx_l, ix_nI (by omega)]
            obtain ⟨v0, v1⟩ := hR.hd
            refine next (v.map (fun x => 1 - x) :: t) _ h (fx.sI (Or.inl rfl)) (RsA.cons (fun hv => ?_) (fun y hy => ?_) (hR.tl.of (fun k hk => ⟨?_, rfl⟩))) (by rw [List.length_cons, List.length_cons]; omega)
            · cases v with
              | none => exact v0 rfl
              | some u => cases hv
            · cases v with
              | none => cases hy
              | some u =>
                cases hy
                obtain ⟨z0, z1⟩ := v1 u rfl
                refine ⟨z0, ?_⟩
                rw [gI_sI, if_pos ⟨rfl, rfl⟩, z1]
            · rw [gI_sI, if_neg (by omega)]
          · rw [if_neg c2] at h
            match t, hst, hR, h, next with
            | [], _, _, h, _ => cases h
            | u :: t', hst, hR, h, next =>
              dsimp only at h
              rw [List.length_cons] at hst
              rw [if_neg (show ¬ nI x.1 ≤ 2 from nI_ge (a := 2) (by omega) (by omega)), List.length_cons, List.length_cons, m_1, nI_pred, rt_bind, rt_bind]
              refine (n_does (t := t') o1 (by omega) hR).mono ?_
              rintro w2 ⟨f1, r2⟩
              rw [rt_some, rt_some, nx_l]
              exact next (dz x.1 u v :: t') w2 h f1 r2 (by rw [List.length_cons, List.length_cons, List.length_cons]; omega)
theorem atw_of {M : Cd} : ∀ (M1 : Cd) (a : Nat), AtC (Fl M) a M1 → a + M1.length ≤ M.length → CdM 61 w M → AtW w a M1 ∧ ∀ y, y ∈ M1 → y ∈ M
  | [], _, _, _, _ => ⟨trivial, fun y hy => (by cases hy)⟩
  | x :: t, a, h, hl, hC => by
    rw [List.length_cons] at hl
    have ih := atw_of t (a + 1) h.2 (by omega) hC
    have g := hC a (by omega)
    rw [h.1] at g
    refine ⟨⟨g.1, g.2, ih.1⟩, fun y hy => ?_⟩
    rcases List.mem_cons.mp hy with z | z
    · rw [z, ← h.1]
      exact fl_mem (by omega)
    · exact ih.2 y z
theorem n_works {M M1 : Cd} {a : Nat} {g : Mn} (hm : m < 64) (hc : c < 64) (hg : ∀ st, me (Lf m c b) M1 st = some (g (Lf m c b) :: st)) (hat : AtC (Fl M) a M1) (hl : a + M1.length ≤ M.length) (hM : M.length ≤ 160) (hO : ∀ x, x ∈ M → MO x) (hL : Lay w) (hC : CdM 61 w M) (hv : gI w 47 38 = nI m ∧ gI w 47 39 = nI c ∧ gI w 47 40 = nI b) : Rt (f_X12_works (nI a) (nI (a + M1.length)) w) (fun w' => fx (fun c _ => scW c) w w' ∧ RsA w' [g (Lf m c b)]) := by
  obtain ⟨h1, h2⟩ := atw_of M1 a hat hl hC
  unfold f_X12_works
  rw [rt_bind]
  refine (n_worksL (w0 := w) hm hc M1 a FUEL [] [g (Lf m c b)] w (fun x hx => hO x (h2 x hx)) h1 (by omega) (by rw [List.length_nil]; omega) (by unfold FUEL; omega) hL trivial hv fx.rf (hg [])).mono ?_
  intro w1 h3
  rw [rt_some]
  exact h3
theorem n_exL {K M : Cd} {cl : List Cl} (hm : m < 64) (hc : c < 64) (hM : M.length ≤ 160) (hMK : M.length = K.length) (hO : ∀ x, x ∈ M → MO x) (hcl : cl.length ≤ 12) (hok : ∀ x, x ∈ cl → ClOk K M x) : ∀ (suf : List Cl) (i N : Nat) (w : Mm), i + suf.length = cl.length → (∀ j, suf[j]? = cl[i + j]?) → suf.length < N → Lay w → CdM 61 w M → ClG 58 w cl → gI w 47 17 = nI cl.length → (gI w 47 38 = nI m ∧ gI w 47 39 = nI c ∧ gI w 47 40 = nI b) → fx (fun c _ => scW c) w0 w → Rt (wh l_X12_costOf_18 N (nI i, w)) (fun p => fx (fun c _ => scW c) w0 p.2.2 ∧ ((p.1 = 0 ∧ cstL (Lf m c b) suf = none) ∨ (p.1 = 1 ∧ ∃ j x, cl[j]? = some x ∧ p.2.1 = nI j ∧ cstL (Lf m c b) suf = pri ((x.2.2.2.1 (Lf m c b)).getD 0))))
  | _, i, 0, w, _, _, hN, _, _, _, _, _, _ => absurd hN (Nat.not_lt_zero _)
  | [], i, N + 1, w, hi, hs, hN, hL, hC, hG, h9, hl, f0 => by
    refine rt_step ?_
    rw [l_X12_costOf_18]
    dsimp only
    rw [rt_onL, h9, if_pos (nI_le (by rw [List.length_nil] at hi; omega) (by omega)), rt_some, nx_r]
    exact ⟨hL, f0, Or.inl ⟨rfl, rfl⟩⟩
  | x :: t, i, N + 1, w, hi, hs, hN, hL, hC, hG, h9, hl, f0 => by
    have hx : cl[i]? = some x := by
      have := hs 0
      rw [Nat.add_zero] at this
      exact this.symm
    obtain ⟨K1, K2, M1, M2, c1, c2, c3, c4, c5, c6, c7, c8, c9, c10, c11, c12⟩ := hok x (List.mem_of_getElem? hx)
    obtain ⟨g1, g2, g3⟩ := hG i x hx
    rw [List.length_cons] at hi hN
    refine rt_step ?_
    rw [l_X12_costOf_18]
    dsimp only
    rw [rt_onL, h9, if_neg (nI_ge (by omega) (by omega)), if_pos (inb_nI (by omega) (by decide)), ix_nI (by omega), show gI w 59 i = nI x.2.1 from g2, show gI w 60 i = nI x.2.2.1 from g3, c2, ← c4, rt_bind]
    refine ⟨hL, ?_⟩
    refine (n_works (M := M) (M1 := M2) (g := x.2.2.2.2) hm hc (fun st => c8.2 _ st) (c6 (Fl M) (fl_at M)).2 (by omega) hM hO hL hC hl).mono ?_
    rintro w1 ⟨f1, r1⟩
    obtain ⟨z0, z1⟩ := r1.hd
    rw [List.length_nil] at z0 z1
    rw [rt_onL, show ix (0 : Int32) = 0 from rfl]
    refine ⟨f1.lay hL, ?_⟩
    have cont : (x.2.2.2.2 (Lf m c b)).getD 0 = 0 → Rt (wh l_X12_costOf_18 N (nI i + 1, w1)) (fun p => fx (fun c _ => scW c) w0 p.2.2 ∧ ((p.1 = 0 ∧ cstL (Lf m c b) (x :: t) = none) ∨ (p.1 = 1 ∧ ∃ j x', cl[j]? = some x' ∧ p.2.1 = nI j ∧ cstL (Lf m c b) (x :: t) = pri ((x'.2.2.2.1 (Lf m c b)).getD 0)))) := fun q => by
      rw [nI_1, cstL, if_pos q]
      exact n_exL hm hc hM hMK hO hcl hok t (i + 1) N w1 (by omega) (fun j => by have := hs (j + 1); rw [show i + 1 + j = i + (j + 1) by omega, ← this]; rfl) (by omega) (f1.lay hL) (fun a ha => ⟨(f1.I (by unfold scW; omega)).trans (hC a ha).1, (f1.I (by unfold scW; omega)).trans (hC a ha).2⟩) (fun j y hy => ⟨(f1.I (by unfold scW; omega)).trans (hG j y hy).1, (f1.I (by unfold scW; omega)).trans (hG j y hy).2.1, (f1.I (by unfold scW; omega)).trans (hG j y hy).2.2⟩) ((f1.I (by unfold scW; omega)).trans h9) ⟨(f1.I (by unfold scW; omega)).trans hl.1, (f1.I (by unfold scW; omega)).trans hl.2.1, (f1.I (by unfold scW; omega)).trans hl.2.2⟩ (f0.tr f1)
    cases eg : x.2.2.2.2 (Lf m c b) with
    | none =>
      rw [z0 eg, if_neg (by decide), rt_mg, rt_some]
      dsimp only
      rw [rt_some, nx_l]
      exact cont (by rw [eg]; rfl)
    | some v =>
      obtain ⟨y0, y1⟩ := z1 v eg
      rw [y0, if_pos rfl, y1]
      rcases c9 _ v eg with rfl | rfl
      · rw [if_neg (by decide), rt_mg, rt_some]
        dsimp only
        rw [rt_some, nx_l]
        exact cont (by rw [eg]; rfl)
      · rw [if_pos rfl, rt_mg, rt_some]
        dsimp only
        rw [nx_r]
        refine ⟨f0.tr f1, Or.inr ⟨rfl, i, x, hx, rfl, ?_⟩⟩
        rw [cstL, if_neg (by rw [eg]; decide)]
theorem n_cost {K M : Cd} {cl : List Cl} (hM : M.length ≤ 160) (hMK : M.length = K.length) (hO : ∀ x, x ∈ M → MO x) (hcl : cl.length ≤ 12) (hok : ∀ x, x ∈ cl → ClOk K M x) (hL : Lay w) (hC : CdM 61 w M) (hG : ClG 58 w cl) (h9 : gI w 47 17 = nI cl.length) (hm : m < 64) (hc : c < 64) : Rt (f_X12_costOf (nI m) (nI c) (nI b) w) (fun p => p.1 = oI (cstO cl m c b) ∧ fx scC w p.2) := by
  have f1 : fx scC w (sI (sI (sI w 47 38 (nI m)) 47 39 (nI c)) 47 40 (nI b)) := ((fx.sI (by unfold scC; omega)).tr (fx.sI (by unfold scC; omega))).tr (fx.sI (by unfold scC; omega))
  have hC1 : CdM 61 (sI (sI (sI w 47 38 (nI m)) 47 39 (nI c)) 47 40 (nI b)) M := fun a ha => hC a ha
  have hG1 : ClG 58 (sI (sI (sI w 47 38 (nI m)) 47 39 (nI c)) 47 40 (nI b)) cl := fun j y hy => hG j y hy
  unfold f_X12_costOf
  rw [rt_bind]
  refine (n_exL (m := m) (c := c) (b := b) (K := K) hm hc hM hMK hO hcl hok cl 0 FUEL _ (Nat.zero_add _) (fun j => by rw [Nat.zero_add]) (by unfold FUEL; omega) (f1.lay hL) hC1 hG1 h9 ⟨rfl, rfl, rfl⟩ fx.rf).mono ?_
  rintro ⟨fl, i, w2⟩ ⟨f2, hq⟩
  dsimp only at f2 hq ⊢
  have fN : fx scC w w2 := f1.tr (f2.sub (fun c k z => by unfold scW at z; unfold scC; omega))
  rcases hq with ⟨rfl, e⟩ | ⟨rfl, j, x, hx, rfl, e⟩
  · rw [if_pos rfl, rt_some]
    exact ⟨by show _ = oI (cstL (Lf m c b) cl); rw [e]; rfl, fN⟩
  · have hj : j < cl.length := (List.getElem?_eq_some_iff.mp hx).1
    obtain ⟨K1, K2, M1, M2, c1, c2, c3, c4, c5, c6, c7, c8, c9, c10, c11, c12⟩ := hok x (List.mem_of_getElem? hx)
    obtain ⟨g1, g2, g3⟩ := hG j x hx
    have hG2 : gI w2 58 j = nI x.1 ∧ gI w2 59 j = nI x.2.1 := ⟨(fN.I (by unfold scC; omega)).trans g1, (fN.I (by unfold scC; omega)).trans g2⟩
    rw [if_neg (by decide), rt_onL, if_pos (inb_nI (by omega) (by decide)), ix_nI (by omega), hG2.1, hG2.2, c1, ← c3, rt_bind]
    refine ⟨fN.lay hL, ?_⟩
    refine (n_works (M := M) (M1 := M1) (m := m) (c := c) (b := b) (g := x.2.2.2.1) hm hc (fun st => c7.2 _ st) (c6 (Fl M) (fl_at M)).1 (by omega) hM hO (fN.lay hL) (fun a ha => ⟨(fN.I (by unfold scC; omega)).trans (hC a ha).1, (fN.I (by unfold scC; omega)).trans (hC a ha).2⟩) ⟨f2.I (by unfold scW; omega), f2.I (by unfold scW; omega), f2.I (by unfold scW; omega)⟩).mono ?_
    rintro w3 ⟨f3, r3⟩
    obtain ⟨z0, z1⟩ := r3.hd
    rw [List.length_nil] at z0 z1
    have fN3 : fx scC w w3 := fN.tr (f3.sub (fun c k z => by unfold scW at z; unfold scC; omega))
    rw [rt_onL, show ix (0 : Int32) = 0 from rfl]
    refine ⟨fN3.lay hL, ?_⟩
    have ev : (if (gI w3 70 0) = 0 then (some (gI w3 69 0)) else (some (0 : Int32))) = some ((x.2.2.2.1 (Lf m c b)).getD 0) := by
      cases eg : x.2.2.2.1 (Lf m c b) with
      | none => rw [z0 eg, if_neg (by decide)]; rfl
      | some v => rw [(z1 v eg).1, if_pos rfl, (z1 v eg).2]; rfl
    rw [ev, Option.bind_some]
    have ec : cstO cl m c b = pri ((x.2.2.2.1 (Lf m c b)).getD 0) := e
    rw [ec]
    generalize (x.2.2.2.1 (Lf m c b)).getD 0 = v
    have pv := pri_ok v
    rw [lies_lit v 0 1000 (by decide) (by decide)]
    have wi := within_iffN (x := v) (a := 0) (b := 1000) (by decide) (by decide)
    cases ep : pri v with
    | none =>
      have hz : f_X11_within v 0 1000 = 0 := by
        by_cases y : f_X11_within v 0 1000 = 0
        · exact y
        · obtain ⟨u, u1, u2, rfl⟩ := wi.mp y
          rcases pv.1 ep with z | z
          · exact absurd z (nI_pos (by omega))
          · exact absurd z (nI_nlt (b := u) (a := 1000) (by omega) (by decide))
      rw [if_pos hz, rt_some]
      exact ⟨rfl, fN3⟩
    | some u =>
      obtain ⟨z1, z2, z3, z4⟩ := pv.2 u ep
      have hz : ¬ f_X11_within v 0 1000 = 0 := wi.mpr ⟨u, by omega, z4, z3⟩
      rw [if_neg hz, rt_some]
      exact ⟨z3, fN3⟩
end Nwl
