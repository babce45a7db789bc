/-! the class reads NEAR's conditions -/
noncomputable def rC (x1 x3 jm i : Int32) (p6 : Mm) : Option ((Int32 × Int32 × Int32 × Mm) ⊕ (Mm)) := onL p6 (Option.bind (f_X8_sign p6) (fun p8 => Option.bind (if p8 = x3 then (some (1 : Int32)) else (some (0 : Int32))) (fun p10 => Option.bind (if p10 = 0 then (some (jm, p6)) else (Option.bind (f_X8_step p6) (fun p13 => onL p13 (Option.bind (if x1 = 0 then (some (11 : Int32)) else (some (12 : Int32))) (fun p16 => Option.bind (f_X4_put 27 p16 (0 : Int32) p13) (fun p17 => some (p17.1, p17.2))))))) (fun p12 => some (.inl (p12.1, p10, i + (1 : Int32), p12.2))))))
noncomputable def rcC (f j o : Nat) (w : Mm) : Option Mm := if j = 0 then rc_X5_condition f 1 (nI o) 0 w else rc_X5_condition f 0 (if j = 1 then 1 else 0) (nI o) w
def jbO (j : Nat) : Nat := if j = 0 then 38 else 124
def jcO (j : Nat) : Nat := if j = 0 then 12 else 11
section Nkc
variable {d : Dt} {n : Nat}
theorem sum_A (o : Nat) (w : Mm) : f_X5_sum 0 (nI o) w = rcA 100 2 o w := by
  unfold f_X5_sum rcA
  rw [if_neg (show ¬ 2 = 0 by decide), if_neg (show ¬ 2 = 1 by decide)]
theorem condX {f j o N i : Nat} {st x3 : Int32} {w : Mm} (hN : 1 ≤ N) : wh (l_X5_condition_21 (rc_X5_condition f) (lvl j) (nI o) x3) N (st, (0 : Int32), nI i, w) = some w := by
  obtain ⟨N, rfl⟩ : ∃ N', N = N' + 1 := ⟨N - 1, by omega⟩
  apply Rt.eq
  refine rt_step ?_
  rw [l_X5_condition_21]
  dsimp only
  by_cases q : (160 : Int32) ≤ nI i
  · rw [if_pos q, rt_some, nx_r]
  · rw [if_neg q, if_pos rfl, rt_some, nx_r]
theorem condT {f j o N i : Nat} {st x3 : Int32} {w : Mm} {Q : Mm → Prop} (hj : j ≤ 1) (hi : i < 160) (hN : 1 ≤ N) (hL : Lay w) (h : Rt (rcC f j o w) (fun p4 => Lay p4 ∧ Rt (f_X4_land 27 st p4) (fun p6 => Rt (rC (lvl j) x3 st (nI i) p6) (Nx (fun s' => Rt (wh (l_X5_condition_21 (rc_X5_condition f) (lvl j) (nI o) x3) (N - 1) s') Q) Q)))) : Rt (wh (l_X5_condition_21 (rc_X5_condition f) (lvl j) (nI o) x3) N (st, (1 : Int32), nI i, w)) Q := by
  obtain ⟨N, rfl⟩ : ∃ N', N = N' + 1 := ⟨N - 1, by omega⟩
  refine rt_step ?_
  rw [l_X5_condition_21]
  dsimp only
  rw [if_neg (show ¬ (160 : Int32) ≤ nI i from nI_ge (b := 160) hi (by decide)), if_neg (by decide), rt_bind]
  have e : (if lvl j = 0 then (onL w (Option.bind (rc_X5_condition f 0 (1 : Int32) (nI o) w) (fun p21 => some p21))) else (onL w (Option.bind (rc_X5_condition f 1 (nI o) 0 w) (fun p19 => some p19)))) = onL w (rcC f j o w) := by
    unfold rcC
    have eb : ∀ (x : Option Mm), Option.bind x (fun p => some p) = x := fun x => by cases x <;> rfl
    rcases (by omega : j = 0 ∨ j = 1) with rfl | rfl
    · rw [if_neg (show ¬ lvl 0 = 0 by decide), eb, if_pos rfl]
    · rw [if_pos (show lvl 1 = 0 by decide), eb, if_neg (by decide), if_pos rfl]
  rw [e, rt_onL]
  refine ⟨hL, h.mono ?_⟩
  rintro p4 ⟨h4, h5⟩
  rw [rt_onL, rt_bind]
  exact ⟨h4, h5⟩
theorem rC_dead {j i p : Nat} {F x3 jm : Int32} {w : Mm} (h3 : ¬ (-1 : Int32) = x3) (hL : Lay w) (h : Tx d n p F w) (hF : ¬ F = 0) : rC (lvl j) x3 jm (nI i) w = some (.inl (jm, (0 : Int32), nI (i + 1), w)) := by
  apply Rt.eq
  unfold rC
  rw [rt_onL, k_signF h hF, Option.bind_some, if_neg h3, Option.bind_some, if_pos rfl, Option.bind_some, rt_some, nI_1]
  exact ⟨hL, rfl⟩
theorem jb_ne {j : Nat} : ¬ (-1 : Int32) = nI (jbO j) := by
  unfold jbO
  split <;> decide
/-- behind a fault -/
theorem c_dead {p : Nat} {F : Int32} (hF : ¬ F = 0) : ∀ (f j o : Nat) (w : Mm), j ≤ 2 → j < f → Lay w → Tx d n p F w → Rt (rcC f j o w) (fun w' => fx wrP w w')
  | 0, _, _, _, _, hf, _, _ => absurd hf (Nat.not_lt_zero _)
  | f + 1, 0, o, w, _, _, hL, h => by
    unfold rcC
    rw [if_pos rfl, rc_X5_condition, if_neg (by decide)]
    unfold gf_X5_piece
    have ea := a_dead h hF hL 100 2 o (by decide) (by decide)
    rw [k_signF h hF, Option.bind_some, if_neg (by decide), if_neg (by decide), sum_A, ea, Option.bind_some, rt_onL, k_signF h hF, Option.bind_some, if_neg (by decide), if_neg (by decide), Option.bind_some, if_pos rfl, Option.bind_some, show (61 : Int32) = nI 61 from rfl, k_passF h hF (by decide), Option.bind_some, rt_onL, sum_A, ea, Option.bind_some, rt_onL, rt_bind]
    refine ⟨hL, hL, hL, (put_any _ _).mono ?_⟩
    intro r hr
    rw [rt_some]
    exact hr
  | f + 1, j + 1, o, w, hj, hf, hL, h => by
    have e1 : rcC (f + 1) (j + 1) o w = Option.bind (wh (l_X5_condition_21 (rc_X5_condition f) (lvl j) (nI o) (nI (jbO j))) FUEL ((-1 : Int32), (1 : Int32), nI 0, w)) (fun p1 => some p1) := by
      unfold rcC
      rw [if_neg (by omega), rc_X5_condition, if_pos rfl]
      rcases (by omega : j = 0 ∨ j = 1) with rfl | rfl
      · rfl
      · rfl
    rw [e1, rt_bind]
    refine Rt.mono (Q := fun w' => fx wrP w w') ?_ (fun w' hw' => by rw [rt_some]; exact hw')
    refine condT (by omega) (by decide) (by decide) hL ?_
    refine (c_dead hF f j o w (by omega) (by omega) hL h).mono ?_
    intro w1 f1
    refine ⟨f1.lay hL, (land_any _).mono ?_⟩
    intro w2 f2
    have f12 := f1.tr f2
    rw [rC_dead jb_ne (f12.lay hL) (h.fp f12) hF, rt_some, nx_l, condX (by decide), rt_some]
    exact f12
def RdC (d : Dt) (n f j o : Nat) : Prop := ∀ (s p : Nat) (w : Mm), s ≤ p → p ≤ n → Lay w → Tx d n p 0 w → gI w 27 7 = nI s → Rt (rcC f j o w) (NQ d n s (ncS d n f j o s p) w)
theorem rC_no (oT : OkT d) (hn : n ≤ d 0 5) {j i p : Nat} {jm : Int32} {w : Mm} (hp : p ≤ 300) (hL : Lay w) (h : Tx d n p 0 w) (q : ¬ hh d n p = jbO j) : rC (lvl j) (nI (jbO j)) jm (nI i) w = some (.inl (jm, (0 : Int32), nI (i + 1), w)) := by
  apply Rt.eq
  unfold rC
  rw [rt_onL, k_sign oT hn (by omega) h, Option.bind_some, if_neg (fun z => q ((sv_eq oT (by unfold jbO; split <;> decide) (by unfold jbO; split <;> decide)).mp z)), Option.bind_some, if_pos rfl, Option.bind_some, rt_some, nI_1]
  exact ⟨hL, rfl⟩
theorem rC_yes (oT : OkT d) (hn : n ≤ d 0 5) {j i p s : Nat} {jm : Int32} {w : Mm} (hj : j ≤ 1) (hp : p ≤ 300) (hL : Lay w) (h : Tx d n p 0 w) (q : hh d n p = jbO j) (h7 : gI w 27 7 = nI s) (hs : s < 160) : rC (lvl j) (nI (jbO j)) jm (nI i) w = some (.inl (nI s, (1 : Int32), nI (i + 1), sI (sI (sI (sI w 12 3 (gI w 12 3 + 1)) 28 s (nI (jcO j))) 29 s (nI 0)) 27 7 (nI (s + 1)))) := by
  have h7' : gI (sI w 12 3 (gI w 12 3 + 1)) 27 7 = nI s := h7
  have ec : (if lvl j = 0 then (some (11 : Int32)) else (some (12 : Int32))) = some (nI (jcO j)) := by
    rcases (by omega : j = 0 ∨ j = 1) with rfl | rfl
    · rfl
    · rfl
  apply Rt.eq
  unfold rC
  rw [rt_onL, k_sign oT hn (by omega) h, Option.bind_some, if_pos ((sv_eq oT (by unfold jbO; split <;> decide) (by unfold jbO; split <;> decide)).mpr q), Option.bind_some, if_neg (by decide), k_step, Option.bind_some, rt_bind, rt_onL, ec, Option.bind_some, put_ok h7' hs, Option.bind_some, rt_some, rt_some, nI_1]
  exact ⟨hL, fx_st.lay hL, rfl⟩
theorem condL (oT : OkT d) (hn : n ≤ d 0 5) (hn160 : n ≤ 160) {f j o s : Nat} {w0 : Mm} (hj : j ≤ 1) (ih : RdC d n f j o) : ∀ (k p : Nat) (K M : Cd) (g : Mn) (i N : Nat) (jm : Int32) (w : Mm), n ≤ p + k → i + 1 ≤ p → p ≤ n → n + 2 ≤ N + p → s + K.length ≤ p → Lay w → Tx d n p 0 w → gI w 27 7 = nI (s + K.length) → AtK w s K → fx wrK w0 w → Blw s w0 w → Rt (rC (lvl j) (nI (jbO j)) jm (nI i) w) (Nx (fun s' => Rt (wh (l_X5_condition_21 (rc_X5_condition f) (lvl j) (nI o) (nI (jbO j))) N s') (NQ d n s (nrC d n (jbO j) (jcO j) (ncS d n f j o) s k p K M g) w0)) (NQ d n s (nrC d n (jbO j) (jcO j) (ncS d n f j o) s k p K M g) w0)) := by
  have jb0 : jbO j ≠ 0 := by unfold jbO; split <;> decide
  intro k
  induction k with
  | zero =>
    intro p K M g i N jm w hk hi hp hN hc hL h h7 hA f0 hB
    have hz : ¬ hh d n p = jbO j := by
      rw [show hh d n p = 0 from by unfold hh; rw [sg_no (by omega)]; rfl]
      exact jb0.symm
    rw [rC_no oT hn (by omega) hL h hz, rt_some, nx_l, condX (by omega), rt_some]
    exact ⟨f0, Or.inr ⟨p, K, M, g, rfl, h, h7, hA, hB⟩⟩
  | succ k ihk =>
    intro p K M g i N jm w hk hi hp hN hc hL h h7 hA f0 hB
    by_cases hz : hh d n p = jbO j
    · have hpn : p < n := hh_lt hz jb0
      rw [rC_yes oT hn hj (by omega) hL h hz h7 (by omega), rt_some, nx_l]
      have pa := put_at (w := sI w 12 3 (gI w 12 3 + 1)) (s := s + K.length) (c := jcO j) (v := 0)
      have hR : nrC d n (jbO j) (jcO j) (ncS d n f j o) s (k + 1) p K M g = match ncS d n f j o (s + K.length + 1) (p + 1) with
        | .inl e => .inl e
        | .inr (p', K', M', g') => nrC d n (jbO j) (jcO j) (ncS d n f j o) s k p' (K ++ (jcO j, s + K.length + 1 + K'.length) :: K') (M ++ M' ++ [(jbO j, 0)]) (lzy (jbO j) g g') := by
        rw [nrC, if_pos hz]
        rfl
      have t1 := (k_stp h).fp pa.2.2
      have f1 : fx wrK w _ := fx_st.tr (pa.2.2.sub (fun c k z => wrP_k z))
      generalize hw1 : sI (sI (sI (sI w 12 3 (gI w 12 3 + 1)) 28 (s + K.length) (nI (jcO j))) 29 (s + K.length) (nI 0)) 27 7 (nI (s + K.length + 1)) = w1 at *
      have h71 : gI w1 27 7 = nI (s + K.length + 1) := by rw [← hw1]; rfl
      have hB1 : Blw (s + K.length) w w1 := fun k hk => pa.2.1 k hk
      refine condT hj (by omega) (by omega) (f1.lay hL) ?_
      refine (ih (s + K.length + 1) (p + 1) w1 (by omega) hpn (f1.lay hL) t1 h71).mono ?_
      intro w2 hw2
      obtain ⟨f2, ⟨e, p', e1, e2, t⟩ | ⟨p', K', M', g', e1, t, h7', hA', hB'⟩⟩ := hw2
      · rw [e1] at hR
        dsimp only at hR
        rw [hR]
        have fA := f1.tr f2
        refine ⟨fA.lay hL, (land_any _).mono ?_⟩
        intro w3 f3
        rw [rC_dead jb_ne (f3.lay (fA.lay hL)) (t.fp f3) e2, rt_some, nx_l, condX (by omega), rt_some]
        exact ⟨(f0.tr fA).tr (f3.sub (fun c k z => wrP_k z)), Or.inl ⟨e, p', rfl, e2, t.fp f3⟩⟩
      · rw [e1] at hR
        dsimp only at hR
        obtain ⟨a1, a2, a3, a4, a5⟩ := (np_cS (d := d) (n := n) (by omega) f j o (s + K.length + 1) (p + 1) hpn).2 p' K' M' g' e1
        rw [hR]
        have fA := f1.tr f2
        refine ⟨fA.lay hL, ?_⟩
        have el : f_X4_land 27 (nI (s + K.length)) w2 = some (sI w2 29 (s + K.length) (nI (s + K.length + 1 + K'.length))) := by
          unfold f_X4_land
          rw [if_neg (nI_pos (by omega)), if_neg (show ¬ (160 : Int32) ≤ nI (s + K.length) from nI_ge (b := 160) (by omega) (by decide)), if_pos (inb_nI (by omega) (by decide)), ix_nI (by omega), h7']
        rw [el, rt_some]
        have f3 : fx wrP w2 (sI w2 29 (s + K.length) (nI (s + K.length + 1 + K'.length))) := fx.sI (by unfold wrP; omega)
        have s28 : ∀ k, gI (sI w2 29 (s + K.length) (nI (s + K.length + 1 + K'.length))) 28 k = gI w2 28 k := fun k => rfl
        have s29 : ∀ k, k ≠ s + K.length → gI (sI w2 29 (s + K.length) (nI (s + K.length + 1 + K'.length))) 29 k = gI w2 29 k := fun k hk => by rw [gI_sI, if_neg (fun z => hk z.2)]
        have hlen : (K ++ (jcO j, s + K.length + 1 + K'.length) :: K').length = K.length + 1 + K'.length := by simp only [List.length_append, List.length_cons]; omega
        refine ihk p' _ _ _ (i + 1) (N - 1) _ _ (by omega) (by omega) a2 (by omega) (by rw [hlen]; omega) (f3.lay (fA.lay hL)) (t.fp f3) (by rw [hlen]; show gI w2 27 7 = _; rw [h7', show s + K.length + 1 + K'.length = s + (K.length + 1 + K'.length) by omega]) ?_ ((f0.tr fA).tr (f3.sub (fun c k z => wrP_k z))) ?_
        · refine atk_app (hA.of (fun k h1 h2 => ⟨?_, ?_⟩)) ⟨?_, ?_, hA'.of (fun k h1 h2 => ⟨s28 k, s29 k (by omega)⟩)⟩
          · rw [s28, (hB' k (by omega)).1, (hB1 k h2).1]
          · rw [s29 k (by omega), (hB' k (by omega)).2, (hB1 k h2).2]
          · rw [s28, (hB' _ (by omega)).1]
            exact pa.1.1
          · rw [gI_sI, if_pos ⟨rfl, rfl⟩]
        · intro k hk
          rw [s28, s29 k (by omega), (hB' k (by omega)).1, (hB' k (by omega)).2, (hB1 k (by omega)).1, (hB1 k (by omega)).2]
          exact hB k hk
    · rw [rC_no oT hn (by omega) hL h hz, rt_some, nx_l, condX (by omega), rt_some]
      exact ⟨f0, Or.inr ⟨p, K, M, g, by rw [nrC, if_neg hz], h, h7, hA, hB⟩⟩
theorem k_cond (oT : OkT d) (hn : n ≤ d 0 5) (hn160 : n ≤ 160) {f j o : Nat} (hj : j ≤ 1) (ih : RdC d n f j o) : RdC d n (f + 1) (j + 1) o := by
  intro s p w hs hp hL h h7
  have e1 : rcC (f + 1) (j + 1) o w = Option.bind (wh (l_X5_condition_21 (rc_X5_condition f) (lvl j) (nI o) (nI (jbO j))) FUEL ((-1 : Int32), (1 : Int32), nI 0, w)) (fun p1 => some p1) := by
    unfold rcC
    rw [if_neg (by omega), rc_X5_condition, if_pos rfl]
    rcases (by omega : j = 0 ∨ j = 1) with rfl | rfl
    · rfl
    · rfl
  rw [e1, rt_bind]
  refine Rt.mono (Q := NQ d n s (ncS d n (f + 1) (j + 1) o s p) w) ?_ (fun w' hw' => by rw [rt_some]; exact hw')
  refine condT hj (by decide) (by decide) hL ?_
  refine (ih s p w hs hp hL h h7).mono ?_
  intro w2 hw2
  refine ⟨hw2.1.lay hL, ?_⟩
  have el : f_X4_land 27 (-1) w2 = some w2 := by
    unfold f_X4_land
    rw [if_pos (by decide)]
  rw [el, rt_some, ncS]
  obtain ⟨f2, ⟨e, p', e1, e2, t⟩ | ⟨p', K', M', g', e1, t, h7', hA', hB'⟩⟩ := hw2
  · rw [e1]
    dsimp only
    rw [rC_dead jb_ne (f2.lay hL) t e2, rt_some, nx_l, condX (by decide), rt_some]
    exact ⟨f2, Or.inl ⟨e, p', rfl, e2, t⟩⟩
  · rw [e1]
    dsimp only
    obtain ⟨a1, a2, a3, a4, a5⟩ := (np_cS (d := d) (n := n) (by omega) f j o s p hp).2 p' K' M' g' e1
    exact condL oT hn hn160 hj ih 160 p' K' M' g' 0 (FUEL - 1) _ w2 (by omega) (by omega) a2 (by unfold FUEL; omega) (by omega) (f2.lay hL) t h7' hA' f2 hB'
end Nkc
