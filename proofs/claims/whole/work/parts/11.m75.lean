/-! the class reads NEAR's text: its pieces -/
def wrP (c k : Nat) : Prop := (c = 27 ∧ k = 7) ∨ c = 28 ∨ c = 29
def wrK (c k : Nat) : Prop := (c = 12 ∧ 2 ≤ k) ∨ wrP c k
def AtK (w : Mm) : Nat → Cd → Prop
  | _, [] => True
  | s, x :: t => gI w 28 s = nI x.1 ∧ gI w 29 s = nI x.2 ∧ AtK w (s + 1) t
def Blw (s : Nat) (w w' : Mm) : Prop := ∀ k, k < s → gI w' 28 k = gI w 28 k ∧ gI w' 29 k = gI w 29 k
def NQ (d : Dt) (n s : Nat) (R : Nr) (w w' : Mm) : Prop := fx wrK w w' ∧ ((∃ e p', R = .inl e ∧ ¬ e = 0 ∧ Tx d n p' e w') ∨ ∃ p' K M g, R = .inr (p', K, M, g) ∧ Tx d n p' 0 w' ∧ gI w' 27 7 = nI (s + K.length) ∧ AtK w' s K ∧ Blw s w w')
section Nkp
variable {d : Dt} {n p : Nat} {F : Int32} {w w' w'' : Mm}
theorem sg_case (P : Int32 → Nat → Prop) (h0 : P (-1) 0) (h : ∀ b, b < 256 → P (nI b) b) (oT : OkT d) : P (oI (sg d n p)) (hh d n p) := by
  unfold hh
  cases e : sg d n p with
  | none => exact h0
  | some b => exact h b (sg_lt oT e).1
theorem sv_dig (oT : OkT d) : f_X5_isDigit (oI (sg d n p)) = if 48 ≤ hh d n p ∧ hh d n p ≤ 57 then 1 else 0 := sg_case (fun v b => f_X5_isDigit v = if 48 ≤ b ∧ b ≤ 57 then 1 else 0) (by decide +kernel) (by decide +kernel) oT
theorem sv_let (oT : OkT d) : f_X5_letterOf (oI (sg d n p)) = if ltr (hh d n p) = 8 then -1 else nI (ltr (hh d n p)) := sg_case (fun v b => f_X5_letterOf v = if ltr b = 8 then -1 else nI (ltr b)) (by decide +kernel) (by decide +kernel) oT
theorem sv_op (oT : OkT d) : f_X5_productStep (oI (sg d n p)) = (if opA 0 (hh d n p) = 0 then -1 else nI (opA 0 (hh d n p))) ∧ f_X5_sumStep (oI (sg d n p)) = if opA 1 (hh d n p) = 0 then -1 else nI (opA 1 (hh d n p)) := sg_case (fun v b => f_X5_productStep v = (if opA 0 b = 0 then -1 else nI (opA 0 b)) ∧ f_X5_sumStep v = if opA 1 b = 0 then -1 else nI (opA 1 b)) (by decide +kernel) (by decide +kernel) oT
theorem sv_eq (oT : OkT d) {c : Nat} (h0 : 0 < c) (hc : c < 256) : oI (sg d n p) = nI c ↔ hh d n p = c := sg_case (fun v b => v = nI c ↔ b = c) ⟨fun z => absurd z.symm (fun z => nm1 (a := c) (by omega) z), fun z => by omega⟩ (fun b hb => nI_eq (by omega) (by omega)) oT
theorem hh_256 (oT : OkT d) : hh d n p < 256 := sg0_lt oT
theorem Tx.fp (h : Tx d n p F w) (f : fx wrP w w') : Tx d n p F w' := ⟨h.1.of rfl rfl (f.I (by unfold wrP; omega)) (fun k => f.I (by unfold wrP; omega)), (f.I (by unfold wrP; omega)).trans h.2.1, (f.I (by unfold wrP; omega)).trans h.2.2.1, (f.I (by unfold wrP; omega)).trans h.2.2.2⟩
theorem wrP_k {c k : Nat} (h : wrP c k) : wrK c k := Or.inr h
theorem put_any (x y : Int32) : Rt (f_X4_put 27 x y w) (fun r => fx wrP w r.2) := by
  unfold f_X4_put
  by_cases h1 : gI w 27 7 < 0
  · rw [if_pos h1, rt_some]
    exact fx.rf
  · rw [if_neg h1]
    by_cases h2 : gI w 27 7 < 160
    · obtain ⟨s, hs, e⟩ := nI_of h1
      have hs2 : s < 160 := by
        rw [e] at h2
        exact (nI_ltI (b := 160) hs (by decide)).mp h2
      rw [if_pos h2, if_pos (by rw [e]; exact inb_nI hs2 (by decide)), show gI (sI w (27 + 1) (ix (gI w 27 7)) x) 27 7 = gI w 27 7 from rfl, if_pos (by rw [e]; exact inb_nI hs2 (by decide)), rt_some]
      exact ((fx.sI (by unfold wrP; omega)).tr (fx.sI (by unfold wrP; omega))).tr (fx.sI (by unfold wrP; omega))
    · rw [if_neg h2, rt_some]
      exact fx.rf
theorem put_ok {s : Nat} (h : gI w 27 7 = nI s) (hs : s < 160) (x y : Int32) : f_X4_put 27 x y w = some (nI s, sI (sI (sI w 28 s x) 29 s y) 27 7 (nI (s + 1))) := by
  unfold f_X4_put
  have e1 : gI (sI w (27 + 1) (ix (gI w 27 7)) x) 27 7 = gI w 27 7 := rfl
  have e2 : gI (sI (sI w (27 + 1) (ix (gI w 27 7)) x) (27 + 2) (ix (gI w 27 7)) y) 27 7 = gI w 27 7 := rfl
  rw [e1, e2, h, if_neg (nI_pos (by omega)), if_pos (show nI s < 160 from nI_lt (b := 160) hs (by decide)), if_pos (inb_nI hs (by decide)), if_pos (inb_nI hs (by decide)), ix_nI (by omega), nI_1]
  show some (nI (s + 1) - 1, _) = _
  rw [nI_pred]
theorem land_any (x : Int32) : Rt (f_X4_land 27 x w) (fun w' => fx wrP w w') := by
  unfold f_X4_land
  by_cases h1 : x < 0
  · rw [if_pos h1, rt_some]; exact fx.rf
  · rw [if_neg h1]
    by_cases h2 : (160 : Int32) ≤ x
    · rw [if_pos h2, rt_some]; exact fx.rf
    · obtain ⟨s, hs, e⟩ := nI_of h1
      have hs2 : s < 160 := by
        by_cases z : s < 160
        · exact z
        · exact absurd (by rw [e]; exact nI_le (a := 160) (by omega) hs) h2
      rw [if_neg h2, if_pos (by rw [e]; exact inb_nI hs2 (by decide)), rt_some]
      exact fx.sI (by unfold wrP; omega)
theorem AtK.of : ∀ {K : Cd} {s : Nat}, AtK w s K → (∀ k, s ≤ k → k < s + K.length → gI w' 28 k = gI w 28 k ∧ gI w' 29 k = gI w 29 k) → AtK w' s K
  | [], _, _, _ => trivial
  | x :: t, s, h, e => by
    have e0 := e s (Nat.le_refl _) (by rw [List.length_cons]; omega)
    exact ⟨e0.1.trans h.1, e0.2.trans h.2.1, AtK.of h.2.2 (fun k h1 h2 => e k (by omega) (by rw [List.length_cons]; omega))⟩
theorem atk_app : ∀ {K K' : Cd} {s : Nat}, AtK w s K → AtK w (s + K.length) K' → AtK w s (K ++ K')
  | [], _, _, _, h => h
  | x :: t, K', s, h, h' => ⟨h.1, h.2.1, atk_app h.2.2 (by rw [List.length_cons, show s + (t.length + 1) = s + 1 + t.length by omega] at h'; exact h')⟩
theorem Blw.tr {s : Nat} (h : Blw s w w') (h' : Blw s w' w'') : Blw s w w'' := fun k hk => ⟨(h' k hk).1.trans (h k hk).1, (h' k hk).2.trans (h k hk).2⟩
theorem Blw.lo {s s' : Nat} (h : Blw s' w w') (hs : s ≤ s') : Blw s w w' := fun k hk => h k (by omega)
theorem Blw.rf {s : Nat} : Blw s w w := fun _ _ => ⟨rfl, rfl⟩
/-- one more step of code -/
theorem put_at {s c v : Nat} : AtK (sI (sI (sI w 28 s (nI c)) 29 s (nI v)) 27 7 (nI (s + 1))) s [(c, v)] ∧ Blw s w (sI (sI (sI w 28 s (nI c)) 29 s (nI v)) 27 7 (nI (s + 1))) ∧ fx wrP w (sI (sI (sI w 28 s (nI c)) 29 s (nI v)) 27 7 (nI (s + 1))) := by
  refine ⟨⟨?_, ?_, trivial⟩, fun k hk => ⟨?_, ?_⟩, ((fx.sI (by unfold wrP; omega)).tr (fx.sI (by unfold wrP; omega))).tr (fx.sI (by unfold wrP; omega))⟩
  · show gI (sI w 28 s (nI c)) 28 s = _
    rw [gI_sI, if_pos ⟨rfl, rfl⟩]
  · show gI (sI (sI w 28 s (nI c)) 29 s (nI v)) 29 s = _
    rw [gI_sI, if_pos ⟨rfl, rfl⟩]
  · show gI (sI w 28 s (nI c)) 28 k = _
    rw [gI_sI, if_neg (by omega)]
  · show gI (sI (sI w 28 s (nI c)) 29 s (nI v)) 29 k = gI w 29 k
    rw [gI_sI, if_neg (by omega)]
    rfl
/-- values of a class that reads -/
noncomputable def rcA (f j o : Nat) (w : Mm) : Option Mm := if j = 0 then rc_X5_factor f 0 (nI o) 0 w else rc_X5_factor f 1 (if j = 1 then 1 else 0) (nI o) w
/-- behind a fault a value reads nothing -/
theorem a_dead (h : Tx d n p F w) (hF : ¬ F = 0) (hL : Lay w) : ∀ (f j o : Nat), j ≤ 2 → j < f → rcA f j o w = some w
  | 0, _, _, _, hf => absurd hf (Nat.not_lt_zero _)
  | f + 1, 0, o, _, _ => by
    unfold rcA
    rw [if_pos rfl, rc_X5_factor, if_pos rfl]
    unfold gf_X5_factor
    rw [k_signF h hF, Option.bind_some, if_neg (by decide), if_pos (by decide), if_pos (by decide), k_failF h hF, Option.bind_some]
  | f + 1, j + 1, o, hj, hf => by
    have ih := a_dead h hF hL f j o (by omega) (by omega)
    unfold rcA
    rw [if_neg (by omega), rc_X5_factor, if_neg (by decide)]
    unfold gf_X5_sum
    have e : wh (l_X5_sum_8 (rc_X5_factor f) (if j + 1 = 1 then 1 else 0) (nI o)) FUEL ((-1 : Int32), (1 : Int32), (0 : Int32), w) = some w := by
      apply Rt.eq
      refine rt_for (fun k (s : Int32 × Int32 × Int32 × Mm) => s = ((-1 : Int32), (if k = 0 then (1 : Int32) else 0), nI k, w)) 1 ?_ ?_ rfl (by decide)
      · rintro k s hk rfl
        have hk0 : k = 0 := by omega
        subst hk0
        by_cases z : j = 0
        · subst z
          unfold rcA at ih
          rw [if_pos rfl] at ih
          show Rt (l_X5_sum_8 (rc_X5_factor f) 1 (nI o) ((-1 : Int32), (1 : Int32), (0 : Int32), w)) _
          rw [l_X5_sum_8]
          dsimp only
          rw [if_neg (by decide), if_neg (by decide), if_neg (by decide), rt_bind, rt_onL, ih, Option.bind_some, rt_some]
          refine ⟨hL, ?_⟩
          rw [if_pos rfl, Option.bind_some, if_neg (by decide), rt_bind, rt_onL, k_signF h hF, Option.bind_some, rt_some]
          refine ⟨hL, ?_⟩
          rw [if_pos (by decide), Option.bind_some, if_pos rfl, Option.bind_some, rt_some, nx_l]
          rfl
        · have z2 : j = 1 := by omega
          subst z2
          unfold rcA at ih
          rw [if_neg (by decide), if_pos rfl] at ih
          show Rt (l_X5_sum_8 (rc_X5_factor f) 0 (nI o) ((-1 : Int32), (1 : Int32), (0 : Int32), w)) _
          rw [l_X5_sum_8]
          dsimp only
          rw [if_neg (by decide), if_neg (by decide), if_pos rfl, rt_bind, rt_onL, ih, Option.bind_some, rt_some]
          refine ⟨hL, ?_⟩
          rw [if_pos rfl, Option.bind_some, if_pos rfl, rt_bind, rt_onL, k_signF h hF, Option.bind_some, rt_some]
          refine ⟨hL, ?_⟩
          rw [if_pos (by decide), Option.bind_some, if_pos rfl, Option.bind_some, rt_some, nx_l]
          rfl
      · rintro s rfl
        unfold l_X5_sum_8
        dsimp only
        rw [if_neg (by decide), if_pos (by decide), rt_some, nx_r]
    rw [e, Option.bind_some]
end Nkp
