/-! the class reads pieces of NEAR's conditions -/
section Nkq
variable {d : Dt} {n : Nat}
theorem sg_of {p b : Nat} (hb : b ≠ 0) (q : hh d n p = b) : sg d n p = some b := by
  unfold hh at q
  cases e : sg d n p with
  | none => rw [e] at q; exact absurd q.symm hb
  | some c => rw [e] at q; rw [show c = b from q]
theorem cps_n {b : Nat} (h : cps b = 0) : b ≠ 60 ∧ b ≠ 62 ∧ b ≠ 61 := by
  refine ⟨?_, ?_, ?_⟩ <;> (rintro rfl; exact absurd h (by decide))
/-- the class's sign between two values -/
theorem sv_cmp (oT : OkT d) {p : Nat} : (if oI (sg d n p) = (60 : Int32) then (some (7 : Int32)) else (if oI (sg d n p) = (62 : Int32) then (some (8 : Int32)) else (some (9 : Int32)))) = some (nI (if cps (hh d n p) = 0 then 9 else cps (hh d n p))) := sg_case (fun v b => (if v = (60 : Int32) then (some (7 : Int32)) else (if v = (62 : Int32) then (some (8 : Int32)) else (some (9 : Int32)))) = some (nI (if cps b = 0 then 9 else cps b))) (by decide +kernel) (by decide +kernel) oT
theorem sv_cmp2 (oT : OkT d) {p : Nat} : (if nI (if cps (hh d n p) = 0 then 9 else cps (hh d n p)) = (9 : Int32) then (some (61 : Int32)) else (some (oI (sg d n p)))) = some (nI (if cps (hh d n p) = 0 then 61 else hh d n p)) := sg_case (fun v b => (if nI (if cps b = 0 then 9 else cps b) = (9 : Int32) then (some (61 : Int32)) else (some v)) = some (nI (if cps b = 0 then 61 else b))) (by decide +kernel) (by decide +kernel) oT
theorem k_piece (oT : OkT d) (hn : n ≤ d 0 5) (hn160 : n ≤ 160) {f o : Nat} (ho : o ≤ 6) (ih0 : o < 6 → RdC d n f 0 (o + 1)) (ih2 : o < 6 → RdC d n f 2 (o + 1)) : RdC d n (f + 1) 0 o := by
  intro s p w hs hp hL h h7
  have ihA : RdA d n 100 2 o := k_na oT hn hn160 100 2 o (by decide) ho (by omega)
  rw [ncS]
  unfold rcC
  rw [if_pos rfl, rc_X5_condition, if_neg (by decide)]
  unfold gf_X5_piece
  rw [k_sign oT hn (by omega) h, Option.bind_some]
  by_cases q1 : hh d n p = 33
  · have hpn := hh_lt q1 (by decide)
    rw [if_pos (show oI (sg d n p) = 33 from (sv_eq (c := 33) oT (by decide) (by decide)).mpr q1)]
    unfold f_X8_opens
    by_cases q2 : o < 6
    · have hF : ncF d n (ncS d n f 0) (ncS d n f 2) o s p = match ncS d n f 0 (o + 1) s (p + 1) with
          | .inl e => .inl e
          | .inr (p', K, M, f) => .inr (p', K ++ [(10, 0)], M ++ [(2, 0)], fun L => (f L).map (fun x => 1 - x)) := by
        unfold ncF
        rw [if_pos q1, if_pos q2]
        rfl
      rw [if_pos (show nI o < 6 from nI_lt (b := 6) q2 (by decide)), Option.bind_some, if_neg (show ¬ (1 : Int32) = 0 by decide), rt_onL, nI_1, hF]
      refine ⟨fx_st.lay hL, ?_⟩
      have r := ih0 q2 s (p + 1) (sI w 12 3 (gI w 12 3 + 1)) (by omega) hpn (fx_st.lay hL) (k_stp h) h7
      unfold rcC at r
      rw [if_pos rfl] at r
      rw [rt_bind]
      refine r.mono ?_
      intro w1 hw1
      have hw1' := hw1.pre (fx.sI (w := w) ⟨rfl, by decide⟩)
      obtain ⟨f1, ⟨e, p', e1, e2, t⟩ | ⟨p', K, M, g, e1, t, h7', hA, hB⟩⟩ := hw1'
      · rw [rt_onL, rt_bind, e1]
        refine ⟨f1.lay hL, (put_any _ _).mono ?_⟩
        intro r hr
        rw [rt_some]
        exact ⟨f1.tr (hr.sub (fun c k z => wrP_k z)), Or.inl ⟨e, p', rfl, e2, t.fp hr⟩⟩
      · obtain ⟨a1, a2, a3, a4, a5⟩ := (np_cS (d := d) (n := n) (by omega) f 0 (o + 1) s (p + 1) hpn).2 p' K M g e1
        rw [rt_onL, put_ok h7' (by omega), Option.bind_some, rt_some, e1]
        have pa := put_at (w := w1) (s := s + K.length) (c := 10) (v := 0)
        refine ⟨f1.lay hL, f1.tr (pa.2.2.sub (fun c k z => wrP_k z)), Or.inr ⟨p', _, _, _, rfl, t.fp pa.2.2, ?_, ?_, hB.tr (pa.2.1.lo (by omega))⟩⟩
        · show nI (s + K.length + 1) = _
          rw [List.length_append, List.length_cons, List.length_nil, Nat.add_assoc]
        · exact atk_app (hA.of (fun k h1 h2 => pa.2.1 k h2)) pa.1
    · have z := k_fail h 5
      have hF : ncF d n (ncS d n f 0) (ncS d n f 2) o s p = .inl (flt 5 p) := by
        unfold ncF
        rw [if_pos q1, if_neg q2]
      rw [if_neg (show ¬ nI o < 6 from nI_nlt (b := 6) (by omega) (by omega)), show (5 : Int32) = nI 5 from rfl, z.1, Option.bind_some, Option.bind_some, if_pos rfl, rt_some, hF]
      exact nq_flt h (by decide) (by decide) (by omega) rfl
  · rw [if_neg (show ¬ oI (sg d n p) = 33 from fun z => q1 ((sv_eq (c := 33) oT (by decide) (by decide)).mp z))]
    by_cases q3 : hh d n p = 40
    · have hpn := hh_lt q3 (by decide)
      rw [if_pos (show oI (sg d n p) = 40 from (sv_eq (c := 40) oT (by decide) (by decide)).mpr q3)]
      unfold f_X8_opens
      by_cases q2 : o < 6
      · have hF : ncF d n (ncS d n f 0) (ncS d n f 2) o s p = clz d n 41 (ncS d n f 2 (o + 1) s (p + 1)) := by
          unfold ncF clz
          rw [if_neg q1, if_pos q3, if_pos q2]
          rfl
        rw [if_pos (show nI o < 6 from nI_lt (b := 6) q2 (by decide)), Option.bind_some, if_neg (show ¬ (1 : Int32) = 0 by decide), rt_onL, nI_1, hF]
        refine ⟨fx_st.lay hL, ?_⟩
        have r := ih2 q2 s (p + 1) (sI w 12 3 (gI w 12 3 + 1)) (by omega) hpn (fx_st.lay hL) (k_stp h) h7
        unfold rcC at r
        rw [if_neg (by decide), if_neg (by decide)] at r
        rw [rt_bind]
        refine r.mono ?_
        intro w1 hw1
        have hw1' := hw1.pre (fx.sI (w := w) ⟨rfl, by decide⟩)
        rw [rt_onL, rt_bind]
        refine ⟨hw1'.1.lay hL, ?_⟩
        refine (k_close (b := 41) oT hn hn160 (by decide) (by decide) (np_cS (by omega) f 2 (o + 1) s (p + 1) hpn) hpn hw1').mono ?_
        intro w2 hw2
        rw [rt_some]
        exact hw2
      · have z := k_fail h 5
        have hF : ncF d n (ncS d n f 0) (ncS d n f 2) o s p = .inl (flt 5 p) := by
          unfold ncF
          rw [if_neg q1, if_pos q3, if_neg q2]
        rw [if_neg (show ¬ nI o < 6 from nI_nlt (b := 6) (by omega) (by omega)), show (5 : Int32) = nI 5 from rfl, z.1, Option.bind_some, Option.bind_some, if_pos rfl, rt_some, hF]
        exact nq_flt h (by decide) (by decide) (by omega) rfl
    · rw [if_neg (show ¬ oI (sg d n p) = 40 from fun z => q3 ((sv_eq (c := 40) oT (by decide) (by decide)).mp z)), sum_A, rt_bind]
      have hF : ncF d n (ncS d n f 0) (ncS d n f 2) o s p = match naS d n 100 2 o s p with
          | .inl e => .inl e
          | .inr (p', K, M, f) => if cps (hh d n p') = 0 then .inl (flt 1 p') else (match naS d n 100 2 o (s + K.length) (p' + 1) with
            | .inl e => .inl e
            | .inr (p2, K2, M2, g) => .inr (p2, K ++ K2 ++ [(cps (hh d n p'), 0)], M ++ M2 ++ [(hh d n p', 0)], bd2 (hh d n p') f g)) := by
        unfold ncF
        rw [if_neg q1, if_neg q3]
        rfl
      rw [hF]
      refine (ihA s p w hs hp hL h h7).mono ?_
      intro w1 hw1
      have hdead : ∀ (x : Int32) (e : Int32) (p' : Nat) (w2 : Mm), ¬ e = 0 → fx wrK w w2 → Tx d n p' e w2 → Rt (Option.bind (f_X5_sum (0 : Int32) (nI o) w2) (fun p13 => onL p13 (Option.bind (f_X4_put 27 x (0 : Int32) p13) (fun p15 => some p15.2)))) (fun w3 => fx wrK w w3 ∧ Tx d n p' e w3) := fun x e p' w2 he f2 t => by
        rw [sum_A, a_dead t he (f2.lay hL) 100 2 o (by decide) (by decide), Option.bind_some, rt_onL, rt_bind]
        refine ⟨f2.lay hL, (put_any _ _).mono ?_⟩
        intro r hr
        rw [rt_some]
        exact ⟨f2.tr (hr.sub (fun c k z => wrP_k z)), t.fp hr⟩
      obtain ⟨f1, ⟨e, p', e1, e2, t⟩ | ⟨p', K, M, g, e1, t, h7', hA, hB⟩⟩ := hw1
      · rw [e1]
        rw [rt_onL, k_signF t e2, Option.bind_some, if_neg (by decide), if_neg (by decide), Option.bind_some, if_pos rfl, Option.bind_some, show (61 : Int32) = nI 61 from rfl, k_passF t e2 (by decide), Option.bind_some, rt_onL]
        refine ⟨f1.lay hL, f1.lay hL, (hdead _ e p' w1 e2 f1 t).mono ?_⟩
        rintro w3 ⟨f3, t3⟩
        exact ⟨f3, Or.inl ⟨e, p', rfl, e2, t3⟩⟩
      · obtain ⟨a1, a2, a3, a4, a5⟩ := (np_aS (d := d) (n := n) (by omega) 100 2 o s p hp).2 p' K M g e1
        rw [e1]
        dsimp only
        rw [rt_onL, k_sign oT hn (by omega) t, Option.bind_some, sv_cmp oT, Option.bind_some, sv_cmp2 oT, Option.bind_some, rt_bind]
        refine ⟨f1.lay hL, ?_⟩
        by_cases q4 : cps (hh d n p') = 0
        · have nb := cps_n q4
          have es : sg d n p' ≠ some 61 := fun e => nb.2.2 (by unfold hh; rw [e]; rfl)
          rw [if_pos q4, if_pos q4, if_pos q4, (k_pass oT hn (by omega) t (b := 61) (by decide)).2 es, rt_some, rt_onL]
          have tf := (k_fail t 1).2
          have f2 := f1.tr (fx_fl (v := flt 1 p'))
          refine ⟨f2.lay hL, (hdead _ (flt 1 p') p' _ (flt_ne (by decide) (by decide) (by omega)) f2 tf).mono ?_⟩
          rintro w3 ⟨f3, t3⟩
          exact ⟨f3, Or.inl ⟨_, p', rfl, flt_ne (by decide) (by decide) (by omega), t3⟩⟩
        · have qc := cps_ok q4
          have hpn : p' < n := hh_lt (d := d) rfl (fun q => q4 (by rw [q]; decide))
          have es := sg_of (d := d) (n := n) (p := p') (b := hh d n p') (by omega) rfl
          rw [if_neg q4, if_neg q4, if_neg q4, (k_pass oT hn (by omega) t (b := hh d n p') (hh_256 oT)).1 es, rt_some, rt_onL, sum_A, rt_bind]
          have f2 := f1.tr (fx_st (v := gI w1 12 3 + 1))
          refine ⟨f2.lay hL, ?_⟩
          refine (ihA (s + K.length) (p' + 1) _ (by omega) hpn (f2.lay hL) (k_stp t) h7').mono ?_
          intro w2 hw2
          have hw2' := hw2.pre (fx.sI (w := w1) ⟨rfl, by decide⟩)
          obtain ⟨f3, ⟨e, p2, e1', e2, t2⟩ | ⟨p2, K2, M2, g2, e1', t2, h72, hA2, hB2⟩⟩ := hw2'
          · rw [rt_onL, rt_bind, e1']
            refine ⟨(f1.tr f3).lay hL, (put_any _ _).mono ?_⟩
            intro r hr
            rw [rt_some]
            exact ⟨(f1.tr f3).tr (hr.sub (fun c k z => wrP_k z)), Or.inl ⟨e, p2, rfl, e2, t2.fp hr⟩⟩
          · obtain ⟨b1, b2, b3, b4, b5⟩ := (np_aS (d := d) (n := n) (by omega) 100 2 o (s + K.length) (p' + 1) hpn).2 p2 K2 M2 g2 e1'
            rw [rt_onL, put_ok h72 (by omega), Option.bind_some, rt_some, e1']
            have pa := put_at (w := w2) (s := s + K.length + K2.length) (c := cps (hh d n p')) (v := 0)
            refine ⟨(f1.tr f3).lay hL, (f1.tr f3).tr (pa.2.2.sub (fun c k z => wrP_k z)), Or.inr ⟨p2, _, _, _, rfl, t2.fp pa.2.2, ?_, ?_, (hB.tr (hB2.lo (by omega))).tr (pa.2.1.lo (by omega))⟩⟩
            · show nI (s + K.length + K2.length + 1) = _
              rw [List.length_append, List.length_append, List.length_cons, List.length_nil, show s + K.length + K2.length + 1 = s + (K.length + K2.length + (0 + 1)) by omega]
            · refine atk_app (atk_app ?_ ?_) ?_
              · exact hA.of (fun k h1 h2 => ⟨((pa.2.1 k (by omega)).1).trans (hB2 k h2).1, ((pa.2.1 k (by omega)).2).trans (hB2 k h2).2⟩)
              · exact hA2.of (fun k h1 h2 => pa.2.1 k h2)
              · rw [List.length_append, ← Nat.add_assoc]
                exact pa.1
theorem k_nc (oT : OkT d) (hn : n ≤ d 0 5) (hn160 : n ≤ 160) : ∀ (f j o : Nat), j ≤ 2 → o ≤ 6 → 3 * (6 - o) + 1 + j ≤ f → RdC d n f j o
  | 0, j, o, _, _, hf => by omega
  | f + 1, 0, o, _, ho, hf => k_piece oT hn hn160 ho (fun ho6 => k_nc oT hn hn160 f 0 (o + 1) (by decide) (by omega) (by omega)) (fun ho6 => k_nc oT hn hn160 f 2 (o + 1) (by decide) (by omega) (by omega))
  | f + 1, j + 1, o, hj, ho, hf => k_cond oT hn hn160 (by omega) (k_nc oT hn hn160 f j o (by omega) ho (by omega))
end Nkq
