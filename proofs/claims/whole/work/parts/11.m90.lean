/-! the reference reads NEAR's values -/
noncomputable def rFa (p1 : Mm) : Option Mm := onL p1 (Option.bind (f_X12_isGood p1) (fun p3 => if p3 = 0 then (some p1) else (Option.bind (f_X12_seesDigit p1) (fun p5 => if p5 = 0 then (Option.bind (f_X12_here p1) (fun p7 => if (f_X12_isValue p7) = 0 then (Option.bind (f_X12_wrongs (1 : Int32) (gI p1 47 28) p1) (fun p9 => some p9)) else (Option.bind (f_X12_here p1) (fun p10 => Option.bind (f_X12_emit (1 : Int32) p10 p1) (fun p11 => onL p11 (some (sI p11 47 28 ((gI p11 47 28) + (1 : Int32))))))))) else (Option.bind (f_X12_reads p1) (fun p13 => onL p13.2 (Option.bind (f_X12_emit (0 : Int32) p13.1 p13.2) (fun p15 => some p15))))))))
noncomputable def rV (p6 : Mm) : Option ((Int32 × Mm) ⊕ (Mm)) := onL p6 (Option.bind (f_X12_isGood (sI p6 47 36 (0 : Int32))) (fun p8 => Option.bind (mg (if p8 = 0 then (some (.inl (sI p6 47 36 (0 : Int32)))) else (Option.bind (f_X12_stays (sI p6 47 36 (0 : Int32))) (fun p12 => if p12.1 = 0 then (some (.inl p12.2)) else (some (.inr ((1 : Int32), p12.2)))))) (fun p11 => some ((0 : Int32), p11))) (fun p10 => some (.inl (p10.1, p10.2)))))
noncomputable def rV2 (p1 : Mm) : Option Mm := onL p1 (Option.bind (f_X12_isGood p1) (fun p3 => if p3 = 0 then (some p1) else (Option.bind (f_X12_top p1) (fun p5 => if p5 = (91 : Int32) then (Option.bind (f_X12_wrongs (1 : Int32) (gI p1 47 28) p1) (fun p7 => some p7)) else (some p1)))))
def wrV (c k : Nat) : Prop := wrW c k ∨ (c = 47 ∧ k = 36)
def VQ (n : Nat) (R : Vr) (w0 w' : Mm) : Prop := fx wrV w0 w' ∧ ((∃ e, R = .inl e ∧ e < 0 ∧ gI w' 47 30 = e) ∨ ∃ p S M, ND p S M w' ∧ p ≤ n ∧ S.length ≤ 160 ∧ R = if S.headD 0 = 91 then .inl (flt 1 p) else .inr (p, S, M))
section Nvv
variable {d : Dt} {n : Nat} {w w0 : Mm} {Q : Mm → Prop} {R : Vr}
theorem wrW_V {c k : Nat} (h : wrW c k) : wrV c k := Or.inl h
theorem NSt.wV {w' : Mm} (h : NSt d n w) (f : fx wrV w w') : NSt d n w' := h.mv f (fun c k z y => by unfold wrV wrW at z; omega)
theorem ND.c36 {p : Nat} {S : List Nat} {M : Cd} {v : Int32} (h : ND p S M w) : ND p S M (sI w 47 36 v) := ⟨h.1, h.2.1, h.2.2.1, h.2.2.2.1, h.2.2.2.2.1.of (fun k hk => rfl), h.2.2.2.2.2.1, fun a ha => h.2.2.2.2.2.2 a ha⟩
theorem n_reads (oT : OkT d) (hn : n ≤ 160) {p : Nat} {S : List Nat} {M : Cd} : ∀ (k i q v N : Nat) (w : Mm), i + k = 5 → q = p + i → q ≤ n → k + 2 < N → NSt d n w → ND q S M w → Rt (wh (l_X12_reads_7 (nI p)) N (nI v, w)) (fun r => fx wrW w r.2 ∧ ((48 ≤ hh d n (nmL d n k q v).1 ∧ hh d n (nmL d n k q v).1 ≤ 57 ∧ gI r.2 47 30 = flt 2 (nmL d n k q v).1) ∨ (¬ (48 ≤ hh d n (nmL d n k q v).1 ∧ hh d n (nmL d n k q v).1 ≤ 57) ∧ r.1 = nI (nmL d n k q v).2 ∧ ND (nmL d n k q v).1 S M r.2)))
  | k, i, q, v, 0, w, _, _, _, hN, _, _ => absurd hN (Nat.not_lt_zero _)
  | 0, i, q, v, N + 1, w, hi, hq, hqn, hN, hs, h => by
    have hb := hh_256 (n := n) (p := q) oT
    refine rt_step ?_
    rw [l_X12_reads_7]
    dsimp only
    unfold f_X12_seesDigit
    rw [rt_onL, ig_1 h.2.1, Option.bind_some, if_neg (by decide), n_here oT hn (by omega) hs h.1, Option.bind_some, Option.bind_some, is_digit _ hb]
    refine ⟨hs.1, ?_⟩
    by_cases z : 48 ≤ hh d n q ∧ hh d n q ≤ 57
    · have e5 : nI q = nI p + 5 := by rw [show nI p + 5 = nI (p + 5) from nI_add p 5, hq, show i = 5 by omega]
      have f1 : fx wrW w (sI w 47 30 (flt 2 q)) := fx.sI (by unfold wrW; omega)
      have f2 : fx wrW w (sI (sI w 47 30 (flt 2 q)) 47 28 (gI (sI w 47 30 (flt 2 q)) 47 28 + 1)) := f1.tr (fx.sI (by unfold wrW; omega))
      rw [if_pos z, if_neg (by decide), h.1, if_pos e5, show f_X12_wrongs (2 : Int32) (nI q) w = some (sI w 47 30 (flt 2 q)) from n_wrongs h.1 h.2.1 2, Option.bind_some, Option.bind_some, rt_onL, n_here oT hn (by omega) (hs.wW f1) (show gI (sI w 47 30 (flt 2 q)) 47 28 = nI q from h.1), Option.bind_some, rt_some, nx_l]
      refine ⟨f1.lay hs.1, ?_⟩
      obtain ⟨N, rfl⟩ : ∃ N', N = N' + 1 := ⟨N - 1, by omega⟩
      refine rt_step ?_
      rw [l_X12_reads_7]
      dsimp only
      rw [rt_onL, ig_0 (show ¬ gI (sI (sI w 47 30 (flt 2 q)) 47 28 (gI (sI w 47 30 (flt 2 q)) 47 28 + 1)) 47 30 = 0 from flt_ne (by decide) (by decide) (by omega)), Option.bind_some, if_pos rfl, rt_some, nx_r]
      exact ⟨f2.lay hs.1, f2, Or.inl ⟨z.1, z.2, rfl⟩⟩
    · rw [if_neg z, if_pos rfl, rt_some, nx_r]
      exact ⟨fx.rf, Or.inr ⟨z, rfl, h⟩⟩
  | k + 1, i, q, v, N + 1, w, hi, hq, hqn, hN, hs, h => by
    have hb := hh_256 (n := n) (p := q) oT
    refine rt_step ?_
    rw [l_X12_reads_7]
    dsimp only
    unfold f_X12_seesDigit
    rw [rt_onL, ig_1 h.2.1, Option.bind_some, if_neg (by decide), n_here oT hn (by omega) hs h.1, Option.bind_some, Option.bind_some, is_digit _ hb]
    refine ⟨hs.1, ?_⟩
    by_cases z : 48 ≤ hh d n q ∧ hh d n q ≤ 57
    · have hpn : q < n := hh_lt (d := d) rfl (by omega)
      have e5 : ¬ nI q = nI p + 5 := by
        rw [show nI p + 5 = nI (p + 5) from nI_add p 5]
        exact fun y => by have := (nI_eq (a := q) (b := p + 5) (by omega) (by omega)).mp y; omega
      have f1 : fx wrW w (sI w 47 28 (nI (q + 1))) := fx.sI (by unfold wrW; omega)
      rw [if_pos z, if_neg (by decide), h.1, if_neg e5, Option.bind_some, rt_onL, n_here oT hn (by omega) hs h.1, Option.bind_some, rt_some, nx_l, h.1, nI_1, show (10 : Int32) * nI v = nI (10 * v) from pk_mul 10 v, nI_add, show nI (10 * v + hh d n q) - 48 = nI (10 * v + hh d n q - 48) from pk_sub (b := 48) (by omega), show 10 * v + hh d n q - 48 = 10 * v + (hh d n q - 48) by omega, nmL, if_pos z]
      refine ⟨hs.1, ?_⟩
      refine (n_reads oT hn k (i + 1) (q + 1) (10 * v + (hh d n q - 48)) N _ (by omega) (by omega) hpn (by omega) (hs.wW f1) ⟨rfl, h.2.1, h.2.2.1, h.2.2.2.1, h.2.2.2.2.1.of (fun k hk => rfl), h.2.2.2.2.2.1, fun a ha => h.2.2.2.2.2.2 a ha⟩).mono ?_
      rintro r ⟨f2, hr⟩
      exact ⟨f1.tr f2, hr⟩
    · rw [if_neg z, if_pos rfl, rt_some, nx_r, nmL, if_neg z]
      exact ⟨fx.rf, Or.inr ⟨z, rfl, h⟩⟩
theorem rV_bad {b : Nat} (hL : Lay w) (h : ¬ gI w 47 30 = 0) (hb : 1 ≤ b) (hQ : Q (sI w 47 36 0)) : Rt (rV w) (Nx (fun s => Rt (wh l_X12_value_7 b s) Q) Q) := by
  unfold rV
  rw [rt_onL, ig_0 (show ¬ gI (sI w 47 36 0) 47 30 = 0 from h), Option.bind_some, if_pos rfl]
  refine ⟨hL, ?_⟩
  show Rt (some (Sum.inl ((0 : Int32), sI w 47 36 0))) _
  rw [rt_some, nx_l]
  obtain ⟨b, rfl⟩ : ∃ b', b = b' + 1 := ⟨b - 1, by omega⟩
  refine rt_step ?_
  rw [l_X12_value_7]
  dsimp only
  rw [if_pos rfl, rt_some, nx_r]
  exact hQ
theorem rV_good {b : Nat} (hL : Lay w) (h : gI w 47 30 = 0) (hb : 1 ≤ b) (hQ : Rt (f_X12_stays (sI w 47 36 0)) (fun p12 => (p12.1 = 0 → Q p12.2) ∧ (¬ p12.1 = 0 → Rt (wh l_X12_value_7 b ((1 : Int32), p12.2)) Q))) : Rt (rV w) (Nx (fun s => Rt (wh l_X12_value_7 b s) Q) Q) := by
  obtain ⟨p12, e1, q1, q2⟩ := hQ
  unfold rV
  rw [rt_onL, ig_1 (show gI (sI w 47 36 0) 47 30 = 0 from h), Option.bind_some, if_neg (by decide), e1, Option.bind_some]
  refine ⟨hL, ?_⟩
  by_cases z : p12.1 = 0
  · rw [if_pos z]
    show Rt (some (Sum.inl ((0 : Int32), p12.2))) _
    rw [rt_some, nx_l]
    obtain ⟨b, rfl⟩ : ∃ b', b = b' + 1 := ⟨b - 1, by omega⟩
    refine rt_step ?_
    rw [l_X12_value_7]
    dsimp only
    rw [if_pos rfl, rt_some, nx_r]
    exact q1 z
  · rw [if_neg z]
    show Rt (some (Sum.inl ((1 : Int32), p12.2))) _
    rw [rt_some, nx_l]
    exact q2 z
theorem vl_0 {b : Nat} (hL : Lay w) (h : gI w 47 30 = 0) (h36 : gI w 47 36 = 0) (hQ : Rt (wh l_X12_factor_0 FUEL w) (fun p1 => Rt (rFa p1) (fun p6 => Rt (rV p6) (Nx (fun s => Rt (wh l_X12_value_7 b s) Q) Q)))) : Rt (wh l_X12_value_7 (b + 1) ((1 : Int32), w)) Q := by
  have e : f_X12_factor w = Option.bind (wh l_X12_factor_0 FUEL w) rFa := rfl
  rw [← rt_bind, ← e] at hQ
  refine rt_step ?_
  rw [l_X12_value_7]
  dsimp only
  rw [if_neg (by decide), rt_onL, ig_1 h, Option.bind_some, if_neg (by decide), if_pos h36, rt_bind, rt_bind]
  refine ⟨hL, hQ.mono ?_⟩
  intro p6 h6
  rw [rt_some]
  exact h6
theorem vl_1 {b : Nat} (hL : Lay w) (h : gI w 47 30 = 0) (h36 : ¬ gI w 47 36 = 0) (hQ : Rt (rV w) (Nx (fun s => Rt (wh l_X12_value_7 b s) Q) Q)) : Rt (wh l_X12_value_7 (b + 1) ((1 : Int32), w)) Q := by
  refine rt_step ?_
  rw [l_X12_value_7]
  dsimp only
  rw [if_neg (by decide), rt_onL, ig_1 h, Option.bind_some, if_neg (by decide), if_neg h36, Option.bind_some]
  exact ⟨hL, hQ⟩
theorem rFa_bad (hL : Lay w) (h : ¬ gI w 47 30 = 0) : Rt (rFa w) (fun w' => w' = w) := by
  unfold rFa
  rw [rt_onL, ig_0 h, Option.bind_some, if_pos rfl, rt_some]
  exact ⟨hL, rfl⟩
/-- what stands alone, behind its brackets -/
theorem rFa_ok (oT : OkT d) (hn : n ≤ 160) {p : Nat} {S : List Nat} {M : Cd} (hp : p ≤ n) (hs : NSt d n w) (h : ND p S M w) (h91 : ¬ hh d n p = 91) (hM : M.length + S.length ≤ p) : Rt (rFa w) (fun w' => fx wrW w w' ∧ ((∃ e, e < 0 ∧ gI w' 47 30 = e ∧ ∀ rec, vmT d n rec p S M = some (.inl e)) ∨ ∃ p' M', p < p' ∧ p' ≤ n ∧ M'.length = M.length + 1 ∧ ND p' S M' w' ∧ ∀ rec, vmT d n rec p S M = rec false p' S M')) := by
  have hb := hh_256 (n := n) (p := p) oT
  unfold rFa f_X12_seesDigit
  rw [rt_onL, ig_1 h.2.1, Option.bind_some, if_neg (by decide), n_here oT hn (by omega) hs h.1, Option.bind_some, Option.bind_some, is_digit _ hb, Option.bind_some, Option.bind_some, is_value _ hb]
  refine ⟨hs.1, ?_⟩
  by_cases z : 48 ≤ hh d n p ∧ hh d n p ≤ 57
  · have hm := nm_gt z
    rw [if_pos z, if_neg (by decide), rt_bind]
    unfold f_X12_reads
    rw [rt_bind, h.1]
    refine (n_reads oT hn 5 0 p 0 FUEL w rfl rfl hp (by unfold FUEL; omega) hs h).mono ?_
    rintro ⟨v, w1⟩ ⟨f1, hr⟩
    dsimp only at f1 hr
    rw [rt_some, rt_onL, rt_bind]
    refine ⟨f1.lay hs.1, ?_⟩
    rcases hr with ⟨r1, r2, r3⟩ | ⟨r1, r2, r3⟩
    · have hne := flt_ne (c := 2) (p := (nmL d n 5 p 0).1) (by decide) (by decide) (by omega)
      unfold f_X12_emit
      rw [ig_0 (by rw [r3]; exact hne), Option.bind_some, if_pos rfl, rt_some, rt_some]
      exact ⟨f1, Or.inl ⟨_, flt_neg 2 (by decide) (by decide) _ (by omega), r3, fun rec => by unfold vmT; rw [if_neg h91, if_pos z, if_pos ⟨r1, r2⟩]⟩⟩
    · dsimp only
      rw [r2]
      refine (n_emit (f1.lay hs.1) r3 (by omega) 0 _).mono ?_
      rintro w2 ⟨f2, h2, -⟩
      rw [rt_some]
      exact ⟨f1.tr f2, Or.inr ⟨_, _, hm.1, hm.2.1, by rw [List.length_append]; rfl, h2, fun rec => by unfold vmT; rw [if_neg h91, if_pos z, if_neg r1]⟩⟩
  · rw [if_neg z, if_pos rfl]
    by_cases y : ltr (hh d n p) = 8
    · rw [if_pos y, if_pos rfl, h.1, show f_X12_wrongs (1 : Int32) (nI p) w = some (sI w 47 30 (flt 1 p)) from n_wrongs h.1 h.2.1 1, Option.bind_some, rt_some]
      exact ⟨fx.sI (by unfold wrW; omega), Or.inl ⟨_, flt_neg 1 (by decide) (by decide) p (by omega), rfl, fun rec => by unfold vmT; rw [if_neg h91, if_neg z, if_pos y]⟩⟩
    · have hpn : p < n := hh_lt (d := d) rfl (fun q => y (by rw [q]; decide))
      rw [if_neg y, if_neg (by decide), rt_bind]
      refine (n_emit hs.1 h (by omega) 1 (hh d n p)).mono ?_
      rintro w2 ⟨f2, h2, -⟩
      rw [rt_onL, rt_some, h2.1, nI_1]
      refine ⟨f2.lay hs.1, f2.tr (fx.sI (by unfold wrW; omega)), Or.inr ⟨p + 1, _, by omega, hpn, by rw [List.length_append]; rfl, ⟨rfl, h2.2.1, h2.2.2.1, h2.2.2.2.1, h2.2.2.2.2.1.of (fun k hk => rfl), h2.2.2.2.2.2.1, fun a ha => h2.2.2.2.2.2.2 a ha⟩, fun rec => by unfold vmT; rw [if_neg h91, if_neg z, if_neg y]⟩⟩
end Nvv
