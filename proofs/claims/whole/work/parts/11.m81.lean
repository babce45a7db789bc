/-! the class reads NEAR's text -/
def wrD (c k : Nat) : Prop := (c = 12 ∧ 2 ≤ k) ∨ (c = 27 ∧ (k = 7 ∨ k = 9)) ∨ (28 ≤ c ∧ c ≤ 32)
def wrE (c k : Nat) : Prop := (c = 27 ∧ k = 9) ∨ (30 ≤ c ∧ c ≤ 32)
def ClA (w : Mm) : Nat → List Cl → Prop
  | _, [] => True
  | i, x :: t => gI w 30 i = nI x.1 ∧ gI w 31 i = nI x.2.1 ∧ gI w 32 i = nI x.2.2.1 ∧ ClA w (i + 1) t
noncomputable def T4 (i : Int32) (p17 : Mm) : Option ((Int32 × Mm) ⊕ (Nat × Mm)) := onL p17 (Option.bind (f_X8_pass (41 : Int32) p17) (fun p19 => onL p19 (Option.bind (f_X4_endClause 27 p19) (fun p21 => onL p21 (Option.bind (f_X8_isAtEnd p21) (fun p23 => if p23 = 0 then (Option.bind (f_X8_pass (59 : Int32) p21) (fun p25 => some (.inl (i + (1 : Int32), p25)))) else (some (.inr (1, p21)))))))))
noncomputable def T3 (i : Int32) (p13 : Mm) : Option ((Int32 × Mm) ⊕ (Nat × Mm)) := onL p13 (Option.bind (f_X4_startCondition 27 p13) (fun p15 => onL p15 (Option.bind (f_X5_condition (0 : Int32) (1 : Int32) p15) (fun p17 => T4 i p17))))
noncomputable def T2 (i : Int32) (p9 : Mm) : Option ((Int32 × Mm) ⊕ (Nat × Mm)) := onL p9 (Option.bind (f_X5_sum (0 : Int32) (0 : Int32) p9) (fun p11 => onL p11 (Option.bind (f_X8_pass (40 : Int32) p11) (fun p13 => T3 i p13))))
noncomputable def T1 (i : Int32) (p5 : Mm) : Option ((Int32 × Mm) ⊕ (Nat × Mm)) := onL p5 (Option.bind (f_X8_pass (107 : Int32) p5) (fun p7 => onL p7 (Option.bind (f_X4_startPrice 27 p7) (fun p9 => T2 i p9))))
section Nkr
variable {d : Dt} {n : Nat}
theorem read_T (s : Int32 × Mm) : l_X5_read_17 s = if (12 : Int32) < s.1 then (some (.inr (0, s.2))) else (onL s.2 (if (gI s.2 12 4) = 0 then (Option.bind (if s.1 = (12 : Int32) then (Option.bind (f_X8_sign s.2) (fun p26 => if p26 = (107 : Int32) then (Option.bind (f_X8_fail (4 : Int32) s.2) (fun p28 => some p28)) else (some s.2))) else (some s.2)) (fun p5 => T1 s.1 p5)) else (some (.inr (0, s.2))))) := rfl
theorem wrK_D {c k : Nat} (h : wrK c k) : wrD c k := by
  unfold wrK wrP at h
  unfold wrD
  omega
theorem wrE_D {c k : Nat} (h : wrE c k) : wrD c k := by
  unfold wrE at h
  unfold wrD
  omega
theorem Tx.fe {p : Nat} {F : Int32} {w w' : Mm} (h : Tx d n p F w) (f : fx wrE w w') : Tx d n p F w' := ⟨h.1.of rfl rfl (f.I (by unfold wrE; omega)) (fun k => f.I (by unfold wrE; omega)), (f.I (by unfold wrE; omega)).trans h.2.1, (f.I (by unfold wrE; omega)).trans h.2.2.1, (f.I (by unfold wrE; omega)).trans h.2.2.2⟩
theorem cls_in {w : Mm} (h1 : ¬ gI w 27 9 < 0) (h2 : ¬ (12 : Int32) ≤ gI w 27 9) : ∃ i, i < 12 ∧ gI w 27 9 = nI i := by
  obtain ⟨s, hs, e⟩ := nI_of h1
  refine ⟨s, ?_, e⟩
  by_cases z : s < 12
  · exact z
  · exact absurd (by rw [e]; exact nI_le (a := 12) (by omega) hs) h2
theorem sp_any {w : Mm} : Rt (f_X4_startPrice 27 w) (fun w' => fx wrE w w') := by
  unfold f_X4_startPrice
  by_cases h1 : gI w 27 9 < 0
  · rw [if_pos h1, rt_some]; exact fx.rf
  · rw [if_neg h1]
    by_cases h2 : (12 : Int32) ≤ gI w 27 9
    · rw [if_pos h2, rt_some]; exact fx.rf
    · obtain ⟨i, hi, e⟩ := cls_in h1 h2
      rw [if_neg h2, if_pos (by rw [e]; exact inb_nI hi (by decide)), rt_some]
      exact fx.sI (by unfold wrE; omega)
theorem sc_any {w : Mm} : Rt (f_X4_startCondition 27 w) (fun w' => fx wrE w w') := by
  unfold f_X4_startCondition
  by_cases h1 : gI w 27 9 < 0
  · rw [if_pos h1, rt_some]; exact fx.rf
  · rw [if_neg h1]
    by_cases h2 : (12 : Int32) ≤ gI w 27 9
    · rw [if_pos h2, rt_some]; exact fx.rf
    · obtain ⟨i, hi, e⟩ := cls_in h1 h2
      rw [if_neg h2, if_pos (by rw [e]; exact inb_nI hi (by decide)), rt_some]
      exact fx.sI (by unfold wrE; omega)
theorem ec_any {w : Mm} : Rt (f_X4_endClause 27 w) (fun w' => fx wrE w w') := by
  unfold f_X4_endClause
  by_cases h1 : gI w 27 9 < 0
  · rw [if_pos h1, rt_some]; exact fx.rf
  · rw [if_neg h1]
    by_cases h2 : (12 : Int32) ≤ gI w 27 9
    · rw [if_pos h2, rt_some]; exact fx.rf
    · obtain ⟨i, hi, e⟩ := cls_in h1 h2
      rw [if_neg h2, if_pos (by rw [e]; exact inb_nI hi (by decide)), rt_some]
      exact (fx.sI (by unfold wrE; omega)).tr (fx.sI (by unfold wrE; omega))
def DdT (d : Dt) (n i p : Nat) (F : Int32) (w : Mm) (r : (Int32 × Mm) ⊕ (Nat × Mm)) : Prop := ∃ w', r = .inl (nI (i + 1), w') ∧ Tx d n p F w' ∧ fx wrD w w'
theorem t4_dead {i p : Nat} {F : Int32} {w : Mm} (hF : ¬ F = 0) (hL : Lay w) (h : Tx d n p F w) : Rt (T4 (nI i) w) (DdT d n i p F w) := by
  unfold T4
  rw [rt_onL, show (41 : Int32) = nI 41 from rfl, k_passF h hF (by decide), Option.bind_some, rt_onL, rt_bind]
  refine ⟨hL, hL, ec_any.mono ?_⟩
  intro w1 f1
  have t1 := h.fe f1
  have hL1 := f1.lay hL
  unfold f_X8_isAtEnd
  rw [rt_onL, t1.2.2.2, if_neg hF, Option.bind_some, if_pos rfl, show (59 : Int32) = nI 59 from rfl, k_passF t1 hF (by decide), Option.bind_some, rt_some, nI_1]
  exact ⟨hL1, w1, rfl, t1, f1.sub (fun c k z => wrE_D z)⟩
theorem DdT.pre {i p : Nat} {F : Int32} {w w1 : Mm} {r : (Int32 × Mm) ⊕ (Nat × Mm)} (f : fx wrD w w1) (h : DdT d n i p F w1 r) : DdT d n i p F w r := by
  obtain ⟨w', e, t, f'⟩ := h
  exact ⟨w', e, t, f.tr f'⟩
theorem cond_C (o : Nat) (w : Mm) : f_X5_condition 0 (nI o) w = rcC 100 2 o w := by
  unfold f_X5_condition rcC
  rw [if_neg (show ¬ 2 = 0 by decide), if_neg (show ¬ 2 = 1 by decide)]
theorem t3_dead {i p : Nat} {F : Int32} {w : Mm} (hF : ¬ F = 0) (hL : Lay w) (h : Tx d n p F w) : Rt (T3 (nI i) w) (DdT d n i p F w) := by
  unfold T3
  rw [rt_onL, rt_bind]
  refine ⟨hL, sc_any.mono ?_⟩
  intro w1 f1
  have t1 := h.fe f1
  have hL1 := f1.lay hL
  rw [rt_onL, show (1 : Int32) = nI 1 from rfl, cond_C, rt_bind]
  refine ⟨hL1, (c_dead hF 100 2 1 w1 (by decide) (by decide) hL1 t1).mono ?_⟩
  intro w2 f2
  refine (t4_dead hF (f2.lay hL1) (t1.fp f2)).mono ?_
  intro r hr
  exact hr.pre ((f1.sub (fun c k z => wrE_D z)).tr (f2.sub (fun c k z => wrK_D (wrP_k z))))
theorem t2_dead {i p : Nat} {F : Int32} {w : Mm} (hF : ¬ F = 0) (hL : Lay w) (h : Tx d n p F w) : Rt (T2 (nI i) w) (DdT d n i p F w) := by
  unfold T2
  rw [rt_onL, show f_X5_sum (0 : Int32) (0 : Int32) w = rcA 100 2 0 w from sum_A 0 w, a_dead h hF hL 100 2 0 (by decide) (by decide), Option.bind_some, rt_onL, show (40 : Int32) = nI 40 from rfl, k_passF h hF (by decide), Option.bind_some]
  exact ⟨hL, hL, t3_dead hF hL h⟩
theorem t1_dead {i p : Nat} {F : Int32} {w : Mm} (hF : ¬ F = 0) (hL : Lay w) (h : Tx d n p F w) : Rt (T1 (nI i) w) (DdT d n i p F w) := by
  unfold T1
  rw [rt_onL, show (107 : Int32) = nI 107 from rfl, k_passF h hF (by decide), Option.bind_some, rt_onL, rt_bind]
  refine ⟨hL, hL, sp_any.mono ?_⟩
  intro w1 f1
  refine (t2_dead hF (f1.lay hL) (h.fe f1)).mono ?_
  intro r hr
  exact hr.pre (f1.sub (fun c k z => wrE_D z))
end Nkr
