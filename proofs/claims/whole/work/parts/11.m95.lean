/-! the reference reads NEAR's text -/
section Ncz
variable {d : Dt} {n : Nat} {w w0 : Mm}
def LnQ (n : Nat) (R : Int32 ⊕ (Cd × Cd × List Cl)) (w0 w' : Mm) : Prop := fx wrY w0 w' ∧ ((∃ e, R = .inl e ∧ e < 0 ∧ gI w' 47 30 = e) ∨ ∃ K M cl, R = .inr (K, M, cl) ∧ gI w' 47 30 = 0 ∧ gI w' 47 32 = nI M.length ∧ CdM 66 w' M ∧ NC cl.length cl w')
theorem nl_0 {N : Nat} {Q : Mm → Prop} (hN : 1 ≤ N) (h : Q w) : Rt (wh l_X12_near_39 N ((0 : Int32), w)) Q := by
  obtain ⟨N, rfl⟩ : ∃ N', N = N' + 1 := ⟨N - 1, by omega⟩
  refine rt_step ?_
  rw [l_X12_near_39]
  dsimp only
  rw [if_pos rfl, rt_some, nx_r]
  exact h
theorem nl_b {N : Nat} {Q : Mm → Prop} (hN : 1 ≤ N) (hL : Lay w) (hb : ¬ gI w 47 30 = 0) (h : Q w) : Rt (wh l_X12_near_39 N ((1 : Int32), w)) Q := by
  obtain ⟨N, rfl⟩ : ∃ N', N = N' + 1 := ⟨N - 1, by omega⟩
  refine rt_step ?_
  rw [l_X12_near_39]
  dsimp only
  rw [if_neg (by decide), rt_onL, ig_0 hb, Option.bind_some, if_pos rfl, rt_some, nx_r]
  exact ⟨hL, h⟩
theorem n_nearL (oT : OkT d) (hn : n ≤ 160) : ∀ (k i p : Nat) (K M : Cd) (cl : List Cl) (N : Nat) (w : Mm), i + k = 13 → 1 ≤ k → k + 1 ≤ N → p ≤ n → K.length ≤ p → M.length = K.length → NSt d n w → ND p [] M w → NC i cl w → fx wrY w0 w → Rt (wh l_X12_near_39 N ((1 : Int32), w)) (LnQ n (nrT d n k i p K M cl) w0)
  | 0, _, _, _, _, _, _, _, _, h1, _, _, _, _, _, _, _, _ => absurd h1 (by decide)
  | k + 1, i, p, K, M, cl, N, w, hik, _, hN, hp, hK, hM, hs, h, hc, f0 => by
    obtain ⟨N, rfl⟩ : ∃ N', N = N' + 1 := ⟨N - 1, by omega⟩
    refine rt_step ?_
    rw [l_X12_near_39]
    dsimp only
    rw [if_neg (by decide), rt_onL, ig_1 h.2.1, Option.bind_some, if_neg (by decide), rt_bind, nrT]
    refine ⟨hs.1, ?_⟩
    refine (n_clause oT hn (by omega) hp hs h (by omega) hc).mono ?_
    rintro w1 ⟨f1, hr⟩
    have fA := f0.tr f1
    have hs1 := hs.wY f1
    rw [rt_onL]
    refine ⟨hs1.1, ?_⟩
    rcases hr with ⟨e, e1, e2, e3⟩ | ⟨p', K', M', x, nq, e3, h1, hc1⟩
    · have ne : ¬ gI w1 47 30 = 0 := by rw [e2]; exact fun z => by rw [z] at e1; exact absurd e1 (by decide)
      rw [ig_0 ne, Option.bind_some, if_pos rfl]
      show Rt (Option.bind (some (0 : Int32)) _) _
      rw [Option.bind_some, if_pos rfl, rt_some, nx_l]
      refine nl_0 (by omega) ⟨fA, Or.inl ⟨e, ?_, e1, e2⟩⟩
      rcases e3 with ⟨z1, z2, z3⟩ | ⟨z1, z2⟩
      · rw [if_pos ⟨z1, z2⟩, z3]
      · rw [if_neg z1, ← hM, z2]
    · obtain ⟨a1, a2, a3, a4⟩ := (np_cl (d := d) (n := n) (s := M.length) (by omega) hp).2 p' K' M' x e3
      have ml : (M ++ M').length = M.length + M'.length := List.length_append
      have kl : (K ++ K').length = K.length + K'.length := List.length_append
      have e3' : ncl d n K.length p = .inr (p', K', M', x) := by rw [← hM]; exact e3
      rw [ig_1 h1.2.1, Option.bind_some, if_neg (by decide), hs1.2.2, h1.1, if_neg nq, e3']
      dsimp only
      by_cases q : n ≤ p'
      · rw [if_pos (nI_le q (by omega)), if_pos q]
        show Rt (Option.bind (some (0 : Int32)) _) _
        rw [Option.bind_some, if_pos rfl, rt_some, nx_l]
        refine nl_0 (by omega) ⟨fA, Or.inr ⟨_, _, _, rfl, h1.2.1, h1.2.2.2.2.2.1, h1.2.2.2.2.2.2, ?_⟩⟩
        obtain ⟨c1, c2, c3⟩ := hc1
        exact ⟨by rw [c2]; exact c1, rfl, c3⟩
      · rw [if_neg (nI_ge (by omega) (by omega)), if_neg q]
        show Rt (Option.bind (some (1 : Int32)) _) _
        have hb := hh_256 (n := n) (p := p') oT
        have e59 : nI (hh d n p') = 59 ↔ hh d n p' = 59 := nI_eq (b := 59) (by omega) (by decide)
        rw [Option.bind_some, if_neg (by decide), n_here oT hn (by omega) hs1 h1.1, Option.bind_some]
        by_cases q2 : hh d n p' = 59
        · have f2 : fx wrY w1 (sI w1 47 28 (nI (p' + 1))) := fx.sI (by unfold wrY wrU wrV wrW; omega)
          rw [if_pos (e59.mpr q2), Option.bind_some, rt_onL, rt_some, nx_l, h1.1, nI_1, if_pos q2]
          obtain ⟨c1, c2, c3⟩ := hc1
          have hi11 : i ≤ 11 := by
            by_cases z : i = 12
            · have hne : ¬ hh d n p = 107 := fun y => nq ⟨z, y⟩
              unfold ncl at e3
              rw [if_neg hne] at e3
              cases e3
            · omega
          exact ⟨hs1.1, n_nearL oT hn k (i + 1) (p' + 1) (K ++ K') (M ++ M') (cl ++ [x]) N _ (by omega) (by omega) (by omega) (by omega) (by omega) (by omega) (hs1.wY f2) ⟨rfl, h1.2.1, h1.2.2.1, h1.2.2.2.1, trivial, h1.2.2.2.2.2.1, fun a ha => h1.2.2.2.2.2.2 a ha⟩ ⟨c1, c2, fun j y hy => c3 j y hy⟩ (fA.tr f2)⟩
        · have f2 : fx wrY w1 (sI w1 47 30 (flt 1 p')) := fx.sI (by unfold wrY wrU wrV wrW; omega)
          have f3 : fx wrY w1 (sI (sI w1 47 30 (flt 1 p')) 47 28 (gI (sI w1 47 30 (flt 1 p')) 47 28 + 1)) := f2.tr (fx.sI (by unfold wrY wrU wrV wrW; omega))
          rw [if_neg (fun z => q2 (e59.mp z)), show f_X12_wrongs (1 : Int32) (nI p') w1 = some (sI w1 47 30 (flt 1 p')) from n_wrongs h1.1 h1.2.1 1, Option.bind_some, Option.bind_some, rt_onL, rt_some, nx_l, if_neg q2]
          refine ⟨f2.lay hs1.1, nl_b (by omega) (f3.lay hs1.1) (show ¬ flt 1 p' = 0 from flt_ne (by decide) (by decide) (by omega)) ⟨fA.tr f3, Or.inl ⟨_, rfl, flt_neg 1 (by decide) (by decide) p' (by omega), rfl⟩⟩⟩
end Ncz
