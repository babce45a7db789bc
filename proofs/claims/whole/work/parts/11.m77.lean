/-! the class reads NEAR's sums -/
noncomputable def rA (x1 i : Int32) (p6 : Mm) : Option ((Int32 × Int32 × Int32 × Mm) ⊕ (Mm)) := Option.bind (if x1 = 0 then (onL p6 (Option.bind (f_X8_sign p6) (fun p18 => some (f_X5_sumStep p18)))) else (onL p6 (Option.bind (f_X8_sign p6) (fun p16 => some (f_X5_productStep p16))))) (fun p8 => Option.bind (if p8 = (-1 : Int32) then (some (0 : Int32)) else (some (1 : Int32))) (fun p10 => Option.bind (if p10 = 0 then (some p6) else (onL p6 (Option.bind (f_X8_step p6) (fun p14 => some p14)))) (fun p12 => some (.inl (p8, p10, i + (1 : Int32), p12)))))
def lvl (j : Nat) : Int32 := if j = 0 then 1 else 0
section Nks
variable {d : Dt} {n : Nat}
theorem rA_live (oT : OkT d) (hn : n ≤ d 0 5) {j i p : Nat} {w : Mm} (hj : j ≤ 1) (hp : p ≤ 300) (hL : Lay w) (h : Tx d n p 0 w) : rA (lvl j) (nI i) w = some (.inl (if opA j (hh d n p) = 0 then ((-1 : Int32), (0 : Int32), nI (i + 1), w) else (nI (opA j (hh d n p)), (1 : Int32), nI (i + 1), sI w 12 3 (gI w 12 3 + 1)))) := by
  have es := sv_op (n := n) (p := p) oT
  have e0 : (if lvl j = 0 then (onL w (Option.bind (f_X8_sign w) (fun p18 => some (f_X5_sumStep p18)))) else (onL w (Option.bind (f_X8_sign w) (fun p16 => some (f_X5_productStep p16))))) = some (if opA j (hh d n p) = 0 then -1 else nI (opA j (hh d n p))) := by
    apply Rt.eq
    rcases (by omega : j = 0 ∨ j = 1) with rfl | rfl
    · rw [if_neg (show ¬ lvl 0 = 0 by decide), rt_onL, k_sign oT hn (by omega) h, Option.bind_some, rt_some, es.1]
      exact ⟨hL, rfl⟩
    · rw [if_pos (show lvl 1 = 0 by decide), rt_onL, k_sign oT hn (by omega) h, Option.bind_some, rt_some, es.2]
      exact ⟨hL, rfl⟩
  unfold rA
  rw [e0, Option.bind_some]
  by_cases z : opA j (hh d n p) = 0
  · rw [if_pos z, if_pos z, if_pos rfl, Option.bind_some, if_pos rfl, Option.bind_some, nI_1]
  · have q := (opA_ok z).1
    apply Rt.eq
    rw [if_neg z, if_neg z, if_neg (fun y => nm1 (a := opA j (hh d n p)) (by omega) y), Option.bind_some, if_neg (by decide), rt_bind, rt_onL, k_step, Option.bind_some, rt_some, rt_some, nI_1]
    exact ⟨hL, rfl⟩
theorem rA_dead {j i p : Nat} {F : Int32} {w : Mm} (hL : Lay w) (h : Tx d n p F w) (hF : ¬ F = 0) : rA (lvl j) (nI i) w = some (.inl ((-1 : Int32), (0 : Int32), nI (i + 1), w)) := by
  have e0 : (if lvl j = 0 then (onL w (Option.bind (f_X8_sign w) (fun p18 => some (f_X5_sumStep p18)))) else (onL w (Option.bind (f_X8_sign w) (fun p16 => some (f_X5_productStep p16))))) = some (-1) := by
    apply Rt.eq
    split
    · rw [rt_onL, k_signF h hF, Option.bind_some, rt_some]
      exact ⟨hL, by decide⟩
    · rw [rt_onL, k_signF h hF, Option.bind_some, rt_some]
      exact ⟨hL, by decide⟩
  unfold rA
  rw [e0, Option.bind_some, if_pos rfl, Option.bind_some, if_pos rfl, Option.bind_some, nI_1]
theorem sumX {f j o N i : Nat} {st : Int32} {w : Mm} (hN : 1 ≤ N) : wh (l_X5_sum_8 (rc_X5_factor f) (lvl j) (nI o)) N (st, (0 : Int32), nI i, w) = some w := by
  obtain ⟨N, rfl⟩ : ∃ N', N = N' + 1 := ⟨N - 1, by omega⟩
  apply Rt.eq
  refine rt_step ?_
  rw [l_X5_sum_8]
  dsimp only
  by_cases q : (160 : Int32) ≤ nI i
  · rw [if_pos q, rt_some, nx_r]
  · rw [if_neg q, if_pos rfl, rt_some, nx_r]
theorem sumT {f j o N i : Nat} {st : Int32} {w : Mm} {Q : Mm → Prop} (hj : j ≤ 1) (hi : i < 160) (hN : 1 ≤ N) (hL : Lay w) (h : Rt (rcA f j o w) (fun p4 => Rt (if st = (-1 : Int32) then (some p4) else (onL p4 (Option.bind (f_X4_put 27 st (0 : Int32) p4) (fun p20 => some p20.2)))) (fun p6 => Rt (rA (lvl j) (nI i) p6) (Nx (fun s' => Rt (wh (l_X5_sum_8 (rc_X5_factor f) (lvl j) (nI o)) (N - 1) s') Q) Q)))) : Rt (wh (l_X5_sum_8 (rc_X5_factor f) (lvl j) (nI o)) N (st, (1 : Int32), nI i, w)) Q := by
  obtain ⟨N, rfl⟩ : ∃ N', N = N' + 1 := ⟨N - 1, by omega⟩
  refine rt_step ?_
  rw [l_X5_sum_8]
  dsimp only
  rw [if_neg (show ¬ (160 : Int32) ≤ nI i from nI_ge (b := 160) hi (by decide)), if_neg (by decide), rt_bind]
  have e : (if lvl j = 0 then (onL w (Option.bind (rc_X5_factor f 1 (1 : Int32) (nI o) w) (fun p24 => some p24))) else (onL w (Option.bind (rc_X5_factor f 0 (nI o) 0 w) (fun p22 => some p22)))) = onL w (rcA f j o w) := by
    unfold rcA
    have eb : ∀ (x : Option Mm), Option.bind x (fun p => some p) = x := fun x => by cases x <;> rfl
    rcases (by omega : j = 0 ∨ j = 1) with rfl | rfl
    · rw [if_neg (show ¬ lvl 0 = 0 by decide), eb, if_pos rfl]
    · rw [if_pos (show lvl 1 = 0 by decide), eb, if_neg (by decide), if_pos rfl]
  rw [e, rt_onL]
  refine ⟨hL, h.mono ?_⟩
  intro p4 h4
  rw [rt_bind]
  exact h4
theorem sumL (oT : OkT d) (hn : n ≤ d 0 5) (hn160 : n ≤ 160) {f j o s : Nat} {w0 : Mm} (hj : j ≤ 1) (ih : RdA d n f j o) : ∀ (k p : Nat) (K M : Cd) (g : Mn) (i N : Nat) (w : Mm), n ≤ p + k → i + 1 ≤ p → p ≤ n → n + 2 ≤ N + p → s + K.length ≤ p → Lay w → Tx d n p 0 w → gI w 27 7 = nI (s + K.length) → AtK w s K → fx wrK w0 w → Blw s w0 w → Rt (rA (lvl j) (nI i) w) (Nx (fun s' => Rt (wh (l_X5_sum_8 (rc_X5_factor f) (lvl j) (nI o)) N s') (NQ d n s (nrA d n (opA j) (naS d n f j o) s k p K M g) w0)) (NQ d n s (nrA d n (opA j) (naS d n f j o) s k p K M g) w0)) := by
  intro k
  induction k with
  | zero =>
    intro p K M g i N w hk hi hp hN hc hL h h7 hA f0 hB
    have hz : opA j (hh d n p) = 0 := by
      rw [show hh d n p = 0 from by unfold hh; rw [sg_no (by omega)]; rfl]
      exact opA_ne
    rw [rA_live oT hn hj (by omega) hL h, if_pos hz, rt_some, nx_l, sumX (by omega), rt_some]
    exact ⟨f0, Or.inr ⟨p, K, M, g, rfl, h, h7, hA, hB⟩⟩
  | succ k ihk =>
    intro p K M g i N w hk hi hp hN hc hL h h7 hA f0 hB
    rw [rA_live oT hn hj (by omega) hL h, rt_some, nx_l]
    by_cases hz : opA j (hh d n p) = 0
    · rw [if_pos hz, sumX (by omega), rt_some]
      exact ⟨f0, Or.inr ⟨p, K, M, g, by rw [nrA, if_pos hz], h, h7, hA, hB⟩⟩
    · have hpn : p < n := hh_lt (d := d) rfl (fun q => hz (by rw [q]; exact opA_ne))
      have oq := opA_ok hz
      rw [if_neg hz]
      have hR : nrA d n (opA j) (naS d n f j o) s (k + 1) p K M g = match naS d n f j o (s + K.length) (p + 1) with
        | .inl e => .inl e
        | .inr (p', K', M', g') => nrA d n (opA j) (naS d n f j o) s k p' (K ++ K' ++ [(opA j (hh d n p), 0)]) (M ++ M' ++ [(hh d n p, 0)]) (bd2 (hh d n p) g g') := by
        rw [nrA, if_neg hz]
        rfl
      refine sumT hj (by omega) (by omega) (fx_st.lay hL) ?_
      refine (ih (s + K.length) (p + 1) _ (by omega) hpn (fx_st.lay hL) (k_stp h) h7).mono ?_
      intro w2 hw2
      have hw2' := hw2.pre (fx.sI (w := w) ⟨rfl, by decide⟩)
      obtain ⟨f2, ⟨e, p', e1, e2, t⟩ | ⟨p', K', M', g', e1, t, h7', hA', hB'⟩⟩ := hw2'
      · rw [e1] at hR
        dsimp only at hR
        rw [hR, if_neg (fun y => nm1 (a := opA j (hh d n p)) (by omega) y), rt_onL, rt_bind]
        refine ⟨f2.lay hL, (put_any _ _).mono ?_⟩
        intro r hr
        rw [rt_some, rA_dead (hr.lay (f2.lay hL)) (t.fp hr) e2, rt_some, nx_l, sumX (by omega), rt_some]
        exact ⟨(f0.tr f2).tr (hr.sub (fun c k z => wrP_k z)), Or.inl ⟨e, p', rfl, e2, t.fp hr⟩⟩
      · rw [e1] at hR
        dsimp only at hR
        obtain ⟨a1, a2, a3, a4, a5⟩ := (np_aS (d := d) (n := n) (by omega) f j o (s + K.length) (p + 1) hpn).2 p' K' M' g' e1
        have pa := put_at (w := w2) (s := s + K.length + K'.length) (c := opA j (hh d n p)) (v := 0)
        rw [hR, if_neg (fun y => nm1 (a := opA j (hh d n p)) (by omega) y), rt_onL, put_ok h7' (by omega), Option.bind_some, rt_some]
        refine ⟨f2.lay hL, ?_⟩
        have hlen : (K ++ K' ++ [(opA j (hh d n p), 0)]).length = K.length + K'.length + 1 := by simp only [List.length_append, List.length_cons, List.length_nil]
        have lo : s + K.length ≤ s + K.length + K'.length := by omega
        refine ihk p' _ _ _ (i + 1) (N - 1) _ (by omega) (by omega) a2 (by omega) (by rw [hlen]; omega) (pa.2.2.lay (f2.lay hL)) (t.fp pa.2.2) (by rw [hlen]; show nI _ = _; rw [show s + K.length + K'.length + 1 = s + (K.length + K'.length + 1) by omega]) ?_ ((f0.tr f2).tr (pa.2.2.sub (fun c k z => wrP_k z))) ?_
        · refine atk_app (atk_app ?_ ?_) ?_
          · exact hA.of (fun k h1 h2 => ⟨((pa.2.1 k (by omega)).1).trans (hB' k h2).1, ((pa.2.1 k (by omega)).2).trans (hB' k h2).2⟩)
          · exact hA'.of (fun k h1 h2 => pa.2.1 k h2)
          · rw [List.length_append, ← Nat.add_assoc]
            exact pa.1
        · exact (hB.tr (hB'.lo (by omega))).tr (pa.2.1.lo (by omega))
theorem k_sum (oT : OkT d) (hn : n ≤ d 0 5) (hn160 : n ≤ 160) {f j o : Nat} (hj : j ≤ 1) (ih : RdA d n f j o) : RdA d n (f + 1) (j + 1) o := by
  intro s p w hs hp hL h h7
  have e1 : rcA (f + 1) (j + 1) o w = Option.bind (wh (l_X5_sum_8 (rc_X5_factor f) (lvl j) (nI o)) FUEL ((-1 : Int32), (1 : Int32), nI 0, w)) (fun p1 => some p1) := by
    unfold rcA
    rw [if_neg (by omega), rc_X5_factor, if_neg (by decide), show (if j + 1 = 1 then (1 : Int32) else 0) = lvl j by unfold lvl; by_cases z : j = 0 <;> simp [z]]
    rfl
  rw [e1, rt_bind]
  refine Rt.mono (Q := NQ d n s (naS d n (f + 1) (j + 1) o s p) w) ?_ (fun w' hw' => by rw [rt_some]; exact hw')
  refine sumT hj (by decide) (by decide) hL ?_
  refine (ih s p w hs hp hL h h7).mono ?_
  intro w2 hw2
  rw [if_pos rfl, rt_some]
  rw [naS]
  obtain ⟨f2, ⟨e, p', e1, e2, t⟩ | ⟨p', K', M', g', e1, t, h7', hA', hB'⟩⟩ := hw2
  · rw [e1]
    dsimp only
    rw [rA_dead (f2.lay hL) t e2, rt_some, nx_l, sumX (by decide), rt_some]
    exact ⟨f2, Or.inl ⟨e, p', rfl, e2, t⟩⟩
  · rw [e1]
    dsimp only
    obtain ⟨a1, a2, a3, a4, a5⟩ := (np_aS (d := d) (n := n) (by omega) f j o s p hp).2 p' K' M' g' e1
    exact sumL oT hn hn160 hj ih 160 p' K' M' g' 0 (FUEL - 1) w2 (by omega) (by omega) a2 (by unfold FUEL; omega) (by omega) (f2.lay hL) t h7' hA' f2 hB'
theorem k_na (oT : OkT d) (hn : n ≤ d 0 5) (hn160 : n ≤ 160) : ∀ (f j o : Nat), j ≤ 2 → o ≤ 6 → 3 * (6 - o) + 1 + j ≤ f → RdA d n f j o
  | 0, j, o, _, _, hf => by omega
  | f + 1, 0, o, _, ho, hf => fun s p w hs hp hL h h7 => k_fac oT hn hn160 ho (fun ho6 => k_na oT hn hn160 f 2 (o + 1) (by decide) (by omega) (by omega)) hs hp hL h h7
  | f + 1, j + 1, o, hj, ho, hf => k_sum oT hn hn160 (by omega) (k_na oT hn hn160 f j o (by omega) ho (by omega))
end Nks
