/-! the class reads NEAR's values -/
section Nkv
variable {d : Dt} {n : Nat}
theorem k_step (w : Mm) : f_X8_step w = some (sI w 12 3 (gI w 12 3 + 1)) := rfl
theorem fx_st {w : Mm} {v : Int32} : fx wrK w (sI w 12 3 v) := fx.sI (Or.inl ⟨rfl, by decide⟩)
theorem fx_fl {w : Mm} {v : Int32} : fx wrK w (sI w 12 4 v) := fx.sI (Or.inl ⟨rfl, by decide⟩)
theorem nq_flt {s c p : Nat} {w : Mm} (h : Tx d n p 0 w) (h1 : c < 6) (h2 : 0 < c) (h3 : p ≤ 300) {R : Nr} (hR : R = .inl (flt c p)) : NQ d n s R w (sI w 12 4 (flt c p)) := ⟨fx_fl, Or.inl ⟨flt c p, p, hR, flt_ne h1 h2 (by omega), (k_fail h c).2⟩⟩
theorem k_numL (oT : OkT d) (hn : n ≤ d 0 5) (hn160 : n ≤ 160) : ∀ (k i p v N : Nat) (w : Mm), i + k = 5 → k < N → p ≤ n → Lay w → Tx d n p 0 w → Rt (wh l_X5_number_4 N (nI v, nI i, w)) (fun r => r.1 = nI (nmL d n k p v).2 ∧ Tx d n (nmL d n k p v).1 0 r.2 ∧ fx (fun c k => c = 12 ∧ k = 3) w r.2)
  | k, i, p, v, 0, w, _, hN, _, _, _ => absurd hN (Nat.not_lt_zero _)
  | 0, i, p, v, N + 1, w, hi, hN, hp, hL, h => by
    refine rt_step ?_
    rw [l_X5_number_4]
    dsimp only
    rw [if_pos (show (5 : Int32) ≤ nI i from nI_le (a := 5) (by omega) (by omega)), rt_some, nx_r]
    exact ⟨rfl, h, fx.rf⟩
  | k + 1, i, p, v, N + 1, w, hi, hN, hp, hL, h => by
    refine rt_step ?_
    rw [l_X5_number_4]
    dsimp only
    rw [if_neg (show ¬ (5 : Int32) ≤ nI i from nI_ge (b := 5) (by omega) (by decide)), rt_onL, k_sign oT hn (by omega) h, Option.bind_some, sv_dig oT]
    refine ⟨hL, ?_⟩
    by_cases q : 48 ≤ hh d n p ∧ hh d n p ≤ 57
    · have hpn : p < n := hh_lt (d := d) rfl (by omega)
      have ev : oI (sg d n p) = nI (hh d n p) := (sv_eq oT (by omega) (hh_256 oT)).mpr rfl
      have hb := hh_256 (n := n) (p := p) oT
      have t1 := k_stp h
      rw [if_pos q, if_neg (by decide), Option.bind_some, k_step, Option.bind_some, rt_some, nx_l, ev, show (10 : Int32) * nI v = nI (10 * v) from pk_mul 10 v, nI_add, show nI (10 * v + hh d n p) - 48 = nI (10 * v + hh d n p - 48) from pk_sub (b := 48) (by omega), nI_1, show 10 * v + hh d n p - 48 = 10 * v + (hh d n p - 48) by omega, nmL, if_pos q]
      refine (k_numL oT hn hn160 k (i + 1) (p + 1) (10 * v + (hh d n p - 48)) N _ (by omega) (by omega) hpn (fx_st.lay hL) t1).mono ?_
      rintro r ⟨a1, a2, a3⟩
      exact ⟨a1, a2, (fx.sI ⟨rfl, rfl⟩).tr a3⟩
    · rw [if_neg q, if_pos rfl, rt_some, nx_r, nmL, if_neg q]
      exact ⟨rfl, h, fx.rf⟩
theorem k_num (oT : OkT d) (hn : n ≤ d 0 5) (hn160 : n ≤ 160) {s p : Nat} {w : Mm} (q : 48 ≤ hh d n p ∧ hh d n p ≤ 57) (hs : s ≤ p) (hL : Lay w) (h : Tx d n p 0 w) (h7 : gI w 27 7 = nI s) (S : Nat → Nat → Nat → Nr) (o : Nat) : Rt (f_X5_number w) (NQ d n s (naF d n S o s p) w) := by
  have hm := nm_gt q
  have hF : naF d n S o s p = if 48 ≤ hh d n (nmL d n 5 p 0).1 ∧ hh d n (nmL d n 5 p 0).1 ≤ 57 then .inl (flt 2 (nmL d n 5 p 0).1) else .inr ((nmL d n 5 p 0).1, [(0, (nmL d n 5 p 0).2)], [(0, (nmL d n 5 p 0).2)], fun _ => some (nI (nmL d n 5 p 0).2)) := by
    unfold naF
    rw [if_neg (by omega), if_pos q]
  unfold f_X5_number
  rw [rt_bind]
  refine (k_numL oT hn hn160 5 0 p 0 FUEL w rfl (by unfold FUEL; omega) (by omega) hL h).mono ?_
  rintro ⟨v, w1⟩ ⟨a1, a2, a3⟩
  dsimp only at a1 a2 a3 ⊢
  subst a1
  have f1 : fx wrK w w1 := a3.sub (fun c k z => Or.inl ⟨z.1, by omega⟩)
  rw [rt_onL, k_sign oT hn (by omega) a2, Option.bind_some, sv_dig oT]
  refine ⟨f1.lay hL, ?_⟩
  by_cases q2 : 48 ≤ hh d n (nmL d n 5 p 0).1 ∧ hh d n (nmL d n 5 p 0).1 ≤ 57
  · have z := k_fail a2 2
    rw [if_pos q2, if_neg (by decide), show (2 : Int32) = nI 2 from rfl, z.1, Option.bind_some, Option.bind_some, rt_onL, rt_bind]
    refine ⟨fx_fl.lay (f1.lay hL), (put_any _ _).mono ?_⟩
    intro r hr
    rw [rt_some]
    exact ⟨(f1.tr fx_fl).tr (hr.sub (fun c k z => wrP_k z)), Or.inl ⟨_, _, by rw [hF, if_pos q2], flt_ne (by decide) (by decide) (by omega), z.2.fp hr⟩⟩
  · have h7' : gI w1 27 7 = nI s := (a3.I (by omega)).trans h7
    rw [if_neg q2, if_pos rfl, Option.bind_some, rt_onL, put_ok h7' (by omega), Option.bind_some, rt_some]
    refine ⟨f1.lay hL, ?_⟩
    have pa := put_at (w := w1) (s := s) (c := 0) (v := (nmL d n 5 p 0).2)
    exact ⟨f1.tr (pa.2.2.sub (fun c k z => wrP_k z)), Or.inr ⟨_, _, _, _, by rw [hF, if_neg q2], a2.fp pa.2.2, rfl, pa.1, fun k hk => ⟨(pa.2.1 k hk).1.trans (a3.I (by omega)), (pa.2.1 k hk).2.trans (a3.I (by omega))⟩⟩⟩
/-- what is asked of a reader of values -/
def RdA (d : Dt) (n f j o : Nat) : Prop := ∀ (s p : Nat) (w : Mm), s ≤ p → p ≤ n → Lay w → Tx d n p 0 w → gI w 27 7 = nI s → Rt (rcA f j o w) (NQ d n s (naS d n f j o s p) w)
def clz (d : Dt) (n b : Nat) (R : Nr) : Nr := match R with
  | .inl e => .inl e
  | .inr (p', K, M, g) => if hh d n p' = b then .inr (p' + 1, K, M, g) else .inl (flt 1 p')
theorem ltr_le : ∀ b, b < 256 → ltr b ≤ 8 := by decide +kernel
/-- a bracket closes -/
theorem k_close (oT : OkT d) (hn : n ≤ d 0 5) (hn160 : n ≤ 160) {s p b : Nat} {R : Nr} {w w1 : Mm} (hb0 : 0 < b) (hb : b < 256) (hR : NPr n p R) (hp : p ≤ n) (h : NQ d n s R w w1) : Rt (f_X8_pass (nI b) w1) (NQ d n s (clz d n b R) w) := by
  obtain ⟨f1, ⟨e, p', e1, e2, t⟩ | ⟨p', K, M, g, e1, t, h7, hA, hB⟩⟩ := h
  · rw [k_passF t e2 hb, rt_some]
    exact ⟨f1, Or.inl ⟨e, p', by rw [e1]; rfl, e2, t⟩⟩
  · obtain ⟨a1, a2, -⟩ := hR.2 p' K M g e1
    have z := k_pass oT hn (by omega) t hb
    have ec : clz d n b R = if hh d n p' = b then .inr (p' + 1, K, M, g) else .inl (flt 1 p') := by rw [e1]; rfl
    rw [ec]
    by_cases q : hh d n p' = b
    · have es : sg d n p' = some b := by
        unfold hh at q
        cases e : sg d n p' with
        | none => rw [e] at q; exact absurd q.symm (by show ¬ b = 0; omega)
        | some c => rw [e] at q; rw [show c = b from q]
      rw [z.1 es, rt_some, if_pos q]
      exact ⟨f1.tr fx_st, Or.inr ⟨p' + 1, K, M, g, rfl, k_stp t, h7, hA.of (fun k _ _ => ⟨rfl, rfl⟩), hB⟩⟩
    · have es : sg d n p' ≠ some b := fun e => q (by unfold hh; rw [e]; rfl)
      rw [z.2 es, rt_some, if_neg q]
      exact ⟨f1.tr fx_fl, Or.inl ⟨flt 1 p', p', rfl, flt_ne (by decide) (by decide) (by omega), (k_fail t 1).2⟩⟩
theorem NQ.pre {s : Nat} {R : Nr} {w w1 w2 : Mm} (f : fx (fun c k => c = 12 ∧ 2 ≤ k) w w1) (h : NQ d n s R w1 w2) : NQ d n s R w w2 := by
  obtain ⟨f1, h⟩ := h
  refine ⟨(f.sub (fun c k z => Or.inl z)).tr f1, ?_⟩
  rcases h with h | ⟨p', K, M, g, e1, t, h7, hA, hB⟩
  · exact Or.inl h
  · exact Or.inr ⟨p', K, M, g, e1, t, h7, hA, fun k hk => ⟨(hB k hk).1.trans (f.I (by omega)), (hB k hk).2.trans (f.I (by omega))⟩⟩
theorem k_fac (oT : OkT d) (hn : n ≤ d 0 5) (hn160 : n ≤ 160) {f o s p : Nat} {w : Mm} (ho : o ≤ 6) (ih : o < 6 → RdA d n f 2 (o + 1)) (hs : s ≤ p) (hp : p ≤ n) (hL : Lay w) (h : Tx d n p 0 w) (h7 : gI w 27 7 = nI s) : Rt (rcA (f + 1) 0 o w) (NQ d n s (naS d n (f + 1) 0 o s p) w) := by
  rw [naS]
  unfold rcA
  rw [if_pos rfl, rc_X5_factor, if_pos rfl]
  unfold gf_X5_factor
  rw [k_sign oT hn (by omega) h, Option.bind_some]
  by_cases q1 : hh d n p = 91
  · have hpn := hh_lt q1 (by decide)
    have hF : naF d n (naS d n f 2) o s p = if o < 6 then clz d n 93 (naS d n f 2 (o + 1) s (p + 1)) else .inl (flt 5 p) := by
      unfold naF clz
      rw [if_pos q1]
      rfl
    rw [if_pos (show oI (sg d n p) = 91 from (sv_eq (c := 91) oT (by decide) (by decide)).mpr q1), hF]
    unfold f_X8_opens
    by_cases q2 : o < 6
    · rw [if_pos (show nI o < 6 from nI_lt (b := 6) q2 (by decide)), Option.bind_some, if_neg (show ¬ (1 : Int32) = 0 by decide), rt_onL, if_pos q2, nI_1]
      refine ⟨fx_st.lay hL, ?_⟩
      have r := ih q2 s (p + 1) (sI w 12 3 (gI w 12 3 + 1)) (by omega) hpn (fx_st.lay hL) (k_stp h) h7
      unfold rcA at r
      rw [if_neg (by decide), if_neg (by decide)] at r
      rw [rt_bind]
      refine r.mono ?_
      intro w1 hw1
      have hw1' := hw1.pre (fx.sI (w := w) ⟨rfl, by decide⟩)
      rw [rt_onL, rt_bind]
      refine ⟨hw1'.1.lay hL, ?_⟩
      refine (k_close (b := 93) oT hn hn160 (by decide) (by decide) (np_aS (by omega) f 2 (o + 1) s (p + 1) hpn) hpn hw1').mono ?_
      intro w2 hw2
      rw [rt_some]
      exact hw2
    · have z := k_fail h 5
      rw [if_neg (show ¬ nI o < 6 from nI_nlt (b := 6) (by omega) (by omega)), show (5 : Int32) = nI 5 from rfl, z.1, Option.bind_some, Option.bind_some, if_pos rfl, rt_some, if_neg q2]
      exact nq_flt h (by decide) (by decide) (by omega) rfl
  · rw [if_neg (show ¬ oI (sg d n p) = 91 from fun z => q1 ((sv_eq (c := 91) oT (by decide) (by decide)).mp z)), sv_dig oT]
    by_cases q2 : 48 ≤ hh d n p ∧ hh d n p ≤ 57
    · rw [if_pos q2, if_neg (by decide), rt_bind]
      refine (k_num oT hn hn160 q2 hs hL h h7 (naS d n f 2) o).mono ?_
      intro w1 hw1
      rw [rt_some]
      exact hw1
    · rw [if_neg q2, if_pos rfl, sv_let oT]
      have hF : naF d n (naS d n f 2) o s p = if ltr (hh d n p) = 8 then .inl (flt 1 p) else .inr (p + 1, [(1, ltr (hh d n p))], [(1, hh d n p)], fun L => some (L (ltr (hh d n p)))) := by
        unfold naF
        rw [if_neg q1, if_neg q2]
      rw [hF]
      by_cases q3 : ltr (hh d n p) = 8
      · have z := k_fail h 1
        rw [if_pos q3, if_pos rfl, show (1 : Int32) = nI 1 from rfl, z.1, Option.bind_some, rt_some, if_pos q3]
        exact nq_flt h (by decide) (by decide) (by omega) rfl
      · have hl : ltr (hh d n p) < 8 := by
          have := ltr_le _ (hh_256 (n := n) (p := p) oT)
          omega
        have hpn : p < n := hh_lt (d := d) rfl (fun q => q3 (by rw [q]; decide))
        have h7' : gI (sI w 12 3 (gI w 12 3 + 1)) 27 7 = nI s := h7
        rw [if_neg q3, if_neg (fun z => nm1 (a := ltr (hh d n p)) (by omega) z), if_neg q3, k_step, Option.bind_some, rt_onL, put_ok h7' (by omega), Option.bind_some, rt_some]
        refine ⟨fx_st.lay hL, ?_⟩
        have pa := put_at (w := sI w 12 3 (gI w 12 3 + 1)) (s := s) (c := 1) (v := ltr (hh d n p))
        exact ⟨fx_st.tr (pa.2.2.sub (fun c k z => wrP_k z)), Or.inr ⟨_, _, _, _, rfl, (k_stp h).fp pa.2.2, rfl, pa.1, pa.2.1⟩⟩
end Nkv
