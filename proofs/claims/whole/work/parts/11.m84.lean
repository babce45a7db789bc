/-! the class runs NEAR's code -/
def Fl (K : Cd) (a : Nat) : Nat × Nat := K.getD a (0, 0)
def CdM (c : Nat) (w : Mm) (K : Cd) : Prop := ∀ a, a < K.length → gI w c a = nI (Fl K a).1 ∧ gI w (c + 1) a = nI (Fl K a).2
def StI (w : Mm) : List Int32 → Prop
  | [] => True
  | x :: t => gI w 23 t.length = x ∧ StI w t
def scR (c k : Nat) : Prop := c = 23 ∨ (c = 16 ∧ k = 8)
section Nrn
variable {w w' : Mm} {K : Cd} {L : Nat → Int32}
theorem at_of {F : Nat → Nat × Nat} : ∀ (K : Cd) (s : Nat), (∀ i, i < K.length → F (s + i) = K.getD i (0, 0)) → AtC F s K
  | [], _, _ => trivial
  | x :: t, s, h => ⟨h 0 (by rw [List.length_cons]; omega), at_of t (s + 1) (fun i hi => by
      have := h (i + 1) (by rw [List.length_cons]; omega)
      rw [show s + 1 + i = s + (i + 1) by omega, this]
      rfl)⟩
theorem fl_at (K : Cd) : AtC (Fl K) 0 K := at_of K 0 (fun i _ => by rw [Nat.zero_add]; rfl)
theorem fl_mem {a : Nat} (h : a < K.length) : Fl K a ∈ K := by
  unfold Fl
  rw [List.getD_eq_getElem?_getD, List.getElem?_eq_getElem h]
  exact List.getElem_mem h
theorem StI.of : ∀ {st : List Int32}, StI w st → (∀ k, k < st.length → gI w' 23 k = gI w 23 k) → StI w' st
  | [], _, _ => trivial
  | x :: t, h, e => ⟨(e _ (Nat.lt_succ_self _)).trans h.1, StI.of h.2 (fun k hk => e k (Nat.lt_succ_of_lt hk))⟩
theorem StI.bot : ∀ {st : List Int32}, StI w st → 0 < st.length → gI w 23 0 = st.getLastD 0
  | [], _, h => absurd h (Nat.lt_irrefl 0)
  | [x], h, _ => h.1
  | x :: y :: t, h, _ => by
    have := StI.bot (st := y :: t) h.2 (by rw [List.length_cons]; omega)
    rw [this]
    rfl
theorem joined_ap {c : Nat} (hc : 2 ≤ c ∧ c ≤ 9) (x y : Int32) (w : Mm) : f_X4_joined 16 (nI c) x y w = match ap (chr c) x y with
    | none => some (0, sI w 16 8 1)
    | some z => some (z, w) := by
  have ec : c = 2 ∨ c = 3 ∨ c = 4 ∨ c = 5 ∨ c = 6 ∨ c = 7 ∨ c = 8 ∨ c = 9 := by omega
  unfold f_X4_joined
  rcases ec with rfl | rfl | rfl | rfl | rfl | rfl | rfl | rfl
  · rw [show chr 2 = 43 from rfl]
    unfold ap
    simp only [show (nI 2 = 2) = True from eq_true rfl, show (43 = 43) = True from eq_true rfl, if_true, if_false]
  · rw [show chr 3 = 45 from rfl]
    unfold ap
    simp only [show (nI 3 = 2) = False from eq_false (by decide), show (nI 3 = 3) = True from eq_true rfl, show ((45 : Nat) = 43) = False from eq_false (by decide), show (45 = 45) = True from eq_true rfl, if_true, if_false]
  · rw [show chr 4 = 42 from rfl]
    unfold ap
    simp only [show (nI 4 = 2) = False from eq_false (by decide), show (nI 4 = 3) = False from eq_false (by decide), show (nI 4 = 4) = True from eq_true rfl, show ((42 : Nat) = 43) = False from eq_false (by decide), show ((42 : Nat) = 45) = False from eq_false (by decide), show (42 = 42) = True from eq_true rfl, if_true, if_false]
  · rw [show chr 5 = 47 from rfl]
    unfold ap
    simp only [show (nI 5 = 2) = False from eq_false (by decide), show (nI 5 = 3) = False from eq_false (by decide), show (nI 5 = 4) = False from eq_false (by decide), show (nI 5 = 7) = False from eq_false (by decide), show (nI 5 = 8) = False from eq_false (by decide), show (nI 5 = 9) = False from eq_false (by decide), show (nI 5 = 5) = True from eq_true rfl, show ((47 : Nat) = 43) = False from eq_false (by decide), show ((47 : Nat) = 45) = False from eq_false (by decide), show ((47 : Nat) = 42) = False from eq_false (by decide), show (47 = 47) = True from eq_true rfl, if_true, if_false]
    by_cases q : y = 0
    · simp only [q, if_true]
    · simp only [q, if_false]
  · rw [show chr 6 = 37 from rfl]
    unfold ap
    simp only [show (nI 6 = 2) = False from eq_false (by decide), show (nI 6 = 3) = False from eq_false (by decide), show (nI 6 = 4) = False from eq_false (by decide), show (nI 6 = 7) = False from eq_false (by decide), show (nI 6 = 8) = False from eq_false (by decide), show (nI 6 = 9) = False from eq_false (by decide), show (nI 6 = 5) = False from eq_false (by decide), show ((37 : Nat) = 43) = False from eq_false (by decide), show ((37 : Nat) = 45) = False from eq_false (by decide), show ((37 : Nat) = 42) = False from eq_false (by decide), show ((37 : Nat) = 47) = False from eq_false (by decide), show (37 = 37) = True from eq_true rfl, if_true, if_false]
    by_cases q : y = 0
    · simp only [q, if_true]
    · simp only [q, if_false]
  · rw [show chr 7 = 60 from rfl]
    unfold ap
    simp only [show (nI 7 = 2) = False from eq_false (by decide), show (nI 7 = 3) = False from eq_false (by decide), show (nI 7 = 4) = False from eq_false (by decide), show (nI 7 = 7) = True from eq_true rfl, show ((60 : Nat) = 43) = False from eq_false (by decide), show ((60 : Nat) = 45) = False from eq_false (by decide), show ((60 : Nat) = 42) = False from eq_false (by decide), show ((60 : Nat) = 47) = False from eq_false (by decide), show ((60 : Nat) = 37) = False from eq_false (by decide), show (60 = 60) = True from eq_true rfl, if_true, if_false]
    by_cases q : y ≤ x
    · simp only [q, if_true]
    · simp only [q, if_false]
  · rw [show chr 8 = 62 from rfl]
    unfold ap
    simp only [show (nI 8 = 2) = False from eq_false (by decide), show (nI 8 = 3) = False from eq_false (by decide), show (nI 8 = 4) = False from eq_false (by decide), show (nI 8 = 7) = False from eq_false (by decide), show (nI 8 = 8) = True from eq_true rfl, show ((62 : Nat) = 43) = False from eq_false (by decide), show ((62 : Nat) = 45) = False from eq_false (by decide), show ((62 : Nat) = 42) = False from eq_false (by decide), show ((62 : Nat) = 47) = False from eq_false (by decide), show ((62 : Nat) = 37) = False from eq_false (by decide), show ((62 : Nat) = 60) = False from eq_false (by decide), show (62 = 62) = True from eq_true rfl, if_true, if_false]
    by_cases q : x ≤ y
    · simp only [q, if_true]
    · simp only [q, if_false]
  · rw [show chr 9 = 61 from rfl]
    unfold ap
    simp only [show (nI 9 = 2) = False from eq_false (by decide), show (nI 9 = 3) = False from eq_false (by decide), show (nI 9 = 4) = False from eq_false (by decide), show (nI 9 = 7) = False from eq_false (by decide), show (nI 9 = 8) = False from eq_false (by decide), show (nI 9 = 9) = True from eq_true rfl, show ((61 : Nat) = 43) = False from eq_false (by decide), show ((61 : Nat) = 45) = False from eq_false (by decide), show ((61 : Nat) = 42) = False from eq_false (by decide), show ((61 : Nat) = 47) = False from eq_false (by decide), show ((61 : Nat) = 37) = False from eq_false (by decide), show ((61 : Nat) = 60) = False from eq_false (by decide), show ((61 : Nat) = 62) = False from eq_false (by decide), if_true, if_false]
    by_cases q : x = y
    · simp only [q, if_true]
    · simp only [q, if_false]
def RnQ (w : Mm) (r : Int32) (p : Nat × Int32 × Mm) : Prop := fx scR w p.2.2 ∧ ((p.1 = 0 ∧ ∃ st, StI p.2.2 st ∧ st.length ≤ 24 ∧ p.2.1 = nI st.length ∧ r = st.getLastD 0) ∨ (p.1 = 1 ∧ r = 0))
theorem m_1 (n : Nat) : nI (n + 1) + (-1 : Int32) = nI n := nI_am1 (a := n + 1) (b := 1) (by omega)
theorem k_runL {to : Nat} {r : Int32} {w0 : Mm} (hto : to ≤ K.length) (hK : K.length ≤ 160) (hO : ∀ x, x ∈ K → KO x) : ∀ (f k a N : Nat) (st : List Int32) (w : Mm), f + k = 160 → f ≤ N → a < 100000 → st.length ≤ 24 → Lay w → CdM 17 w K → (∀ i, i < 8 → gI w 22 i = L i) → gI w 16 8 = 0 → StI w st → fx scR w0 w → kr (Fl K) L to f a st = some r → Rt (wh (l_X4_run_13 16 (nI to)) N (nI st.length, nI a, nI k, w)) (RnQ w0 r)
  | 0, k, a, N, st, w, _, _, _, _, _, _, _, _, _, _, h => by cases h
  | f + 1, k, a, N, st, w, hk, hN, ha, hst, hL, hC, hl, h8, hS, f0, h => by
    obtain ⟨N, rfl⟩ : ∃ N', N = N' + 1 := ⟨N - 1, by omega⟩
    have next : ∀ (st' : List Int32) (a' : Nat) (w' : Mm), kr (Fl K) L to f a' st' = some r → fx scR w w' → StI w' st' → st'.length ≤ 24 → a' < 100000 → gI w' 16 8 = 0 → Rt (onL w' (if gI w' 16 8 = 0 then (some (.inl (nI st'.length, nI a', nI k + 1, w')) : Option ((Int32 × Int32 × Int32 × Mm) ⊕ (Nat × Int32 × Mm))) else (some (.inr (1, 0, w'))))) (Nx (fun s' => Rt (wh (l_X4_run_13 16 (nI to)) N s') (RnQ w0 r)) (RnQ w0 r)) := fun st' a' w' e f1 s1 l1 a1 z => by
      rw [rt_onL, if_pos z, rt_some, nx_l, nI_1]
      exact ⟨f1.lay hL, k_runL hto hK hO f (k + 1) a' N st' w' (by omega) (by omega) a1 l1 (f1.lay hL) (fun b hb => ⟨(f1.I (by unfold scR; omega)).trans (hC b hb).1, (f1.I (by unfold scR; omega)).trans (hC b hb).2⟩) (fun i hi => (f1.I (by unfold scR; omega)).trans (hl i hi)) z s1 (f0.tr f1) e⟩
    rw [kr] at h
    unfold kst at h
    refine rt_step ?_
    rw [l_X4_run_13]
    dsimp only
    rw [if_neg (show ¬ (160 : Int32) ≤ nI k from nI_ge (b := 160) (by omega) (by decide)), if_neg (nI_pos (by omega))]
    by_cases h1 : a < to
    · rw [if_pos h1] at h
      have hx := hO _ (fl_mem (K := K) (a := a) (by omega))
      obtain ⟨x1, x2, x3⟩ := hx
      obtain ⟨h17, h18⟩ := hC a (by omega)
      rw [if_neg (nI_ge h1 (by omega)), if_neg (show ¬ (160 : Int32) ≤ nI a from nI_ge (b := 160) (by omega) (by decide)), rt_onL, if_pos (inb_nI (by omega) (by decide)), ix_nI (by omega)]
      refine ⟨hL, ?_⟩
      rw [show (17 : Nat) + 1 = 18 from rfl] at h18
      rw [show (16 : Nat) + 1 = 17 from rfl, show (16 : Nat) + 2 = 18 from rfl, show (16 : Nat) + 7 = 23 from rfl, show (16 : Nat) + 6 = 22 from rfl, h17, h18]
      have ne : ∀ (m : Nat), m < 100000 → ¬ (Fl K a).1 = m → ¬ nI (Fl K a).1 = nI m := fun m hm z y => z ((nI_eq (by omega) (by omega)).mp y)
      have push : ∀ (v : Int32), st.length < 24 → kr (Fl K) L to f (a + 1) (v :: st) = some r → Rt (onL (sI w 23 st.length v) (if gI (sI w 23 st.length v) 16 8 = 0 then (some (.inl (nI st.length + 1, nI a + 1, nI k + 1, sI w 23 st.length v)) : Option ((Int32 × Int32 × Int32 × Mm) ⊕ (Nat × Int32 × Mm))) else (some (.inr (1, 0, sI w 23 st.length v))))) (Nx (fun s' => Rt (wh (l_X4_run_13 16 (nI to)) N s') (RnQ w0 r)) (RnQ w0 r)) := fun v hl2 e => by
        rw [nI_1, nI_1 a]
        refine next (v :: st) (a + 1) _ e (fx.sI (Or.inl rfl)) ⟨?_, hS.of (fun k hk => ?_)⟩ (by rw [List.length_cons]; omega) (by omega) h8
        · rw [gI_sI, if_pos ⟨rfl, rfl⟩]
        · rw [gI_sI, if_neg (by omega)]
      by_cases c0 : (Fl K a).1 = 0
      · rw [if_pos c0] at h
        have hl2 : st.length < 24 := by
          by_cases z : st.length < 24
          · exact z
          · rw [if_neg z] at h; cases h
        rw [if_pos hl2] at h
        rw [c0, if_pos (show nI 0 = 0 from rfl), rt_bind, rt_mg, rt_some]
        dsimp only
        rw [if_neg (show ¬ (24 : Int32) ≤ nI st.length from nI_ge (b := 24) hl2 (by decide)), if_pos (show nI 0 = 0 from rfl), Option.bind_some, if_pos (inb_nI hl2 (by decide)), ix_nI (by omega), rt_some]
        exact push _ hl2 h
      · rw [if_neg c0] at h
        rw [if_neg (show ¬ nI (Fl K a).1 = 0 from ne 0 (by decide) c0)]
        by_cases c1 : (Fl K a).1 = 1
        · rw [if_pos c1] at h
          have hl2 : st.length < 24 := by
            by_cases z : st.length < 24
            · exact z
            · rw [if_neg z] at h; cases h
          rw [if_pos hl2] at h
          have g8 := x3 c1
          have e7 : nI (Fl K a).2 &&& 7 = nI (Fl K a).2 := by
            rw [show (7 : Int32) = nI (2 ^ 3 - 1) from rfl, fa_mask, Nat.mod_eq_of_lt (by omega)]
          rw [c1, if_pos (show nI 1 = 1 from rfl), rt_bind, rt_mg, rt_some]
          dsimp only
          rw [if_neg (show ¬ (24 : Int32) ≤ nI st.length from nI_ge (b := 24) hl2 (by decide)), if_neg (show ¬ nI 1 = 0 by decide), e7, if_pos (inb_nI g8 (by decide)), ix_nI (by omega), Option.bind_some, if_pos (inb_nI hl2 (by decide)), ix_nI (by omega), rt_some, hl _ g8]
          exact push _ hl2 h
        · rw [if_neg c1] at h
          rw [if_neg (show ¬ nI (Fl K a).1 = 1 from ne 1 (by decide) c1)]
          match st, hst, hS, h with
          | [], _, _, h => cases h
          | v :: t, hst, hS, h =>
            dsimp only at h
            simp only [List.length_cons] at hst
            rw [List.length_cons]
            have hv : gI w 23 t.length = v := hS.1
            rw [if_neg (nI_nle (by omega) (by omega)), if_neg (show ¬ (24 : Int32) < nI (t.length + 1) from nI_nlt (a := 24) (by omega) (by decide)), nI_pred, if_pos (inb_nI (by omega) (by decide)), ix_nI (by omega), hv, m_1]
            by_cases c10 : (Fl K a).1 = 10
            · rw [if_pos c10] at h
              rw [c10, if_pos (show nI 10 = 10 from rfl), rt_bind, rt_mg, rt_some]
              dsimp only
              rw [nI_1 a]
              refine next ((1 - v) :: t) (a + 1) _ h (fx.sI (Or.inl rfl)) ⟨?_, hS.2.of (fun k hk => ?_)⟩ (by rw [List.length_cons]; omega) (by omega) h8
              · rw [gI_sI, if_pos ⟨rfl, rfl⟩]
              · rw [gI_sI, if_neg (by omega)]
            · rw [if_neg c10] at h
              rw [if_neg (show ¬ nI (Fl K a).1 = 10 from ne 10 (by decide) c10)]
              have stay : ∀ (a' : Nat), a' < 100000 → kr (Fl K) L to f a' (v :: t) = some r → Rt (onL w (if gI w 16 8 = 0 then (some (.inl (nI (t.length + 1), nI a', nI k + 1, w)) : Option ((Int32 × Int32 × Int32 × Mm) ⊕ (Nat × Int32 × Mm))) else (some (.inr (1, 0, w))))) (Nx (fun s' => Rt (wh (l_X4_run_13 16 (nI to)) N s') (RnQ w0 r)) (RnQ w0 r)) := fun a' ha' e => next (v :: t) a' w e fx.rf hS hst ha' h8
              have drop : kr (Fl K) L to f (a + 1) t = some r → Rt (onL w (if gI w 16 8 = 0 then (some (.inl (nI t.length, nI a + 1, nI k + 1, w)) : Option ((Int32 × Int32 × Int32 × Mm) ⊕ (Nat × Int32 × Mm))) else (some (.inr (1, 0, w))))) (Nx (fun s' => Rt (wh (l_X4_run_13 16 (nI to)) N s') (RnQ w0 r)) (RnQ w0 r)) := fun e => by
                rw [nI_1 a]
                exact next t (a + 1) w e fx.rf hS.2 (by omega) (by omega) h8
              by_cases c11 : (Fl K a).1 = 11
              · rw [if_pos c11] at h
                rw [c11, if_pos (show nI 11 = 11 from rfl), rt_bind, rt_mg, rt_mg, rt_some]
                dsimp only
                by_cases z : v = 0
                · rw [if_pos z] at h
                  rw [if_pos z, Option.bind_some, if_pos (show nI 11 = 11 from rfl), Option.bind_some, if_neg (by decide), rt_some]
                  exact drop h
                · rw [if_neg z] at h
                  rw [if_neg z, Option.bind_some, if_pos (show nI 11 = 11 from rfl), Option.bind_some, if_pos rfl, rt_some]
                  exact stay _ x2 h
              · rw [if_neg c11] at h
                rw [if_neg (show ¬ nI (Fl K a).1 = 11 from ne 11 (by decide) c11)]
                by_cases c12 : (Fl K a).1 = 12
                · rw [if_pos c12] at h
                  rw [c12, if_pos (show nI 12 = 12 from rfl), rt_bind, rt_mg, rt_mg, rt_some]
                  dsimp only
                  by_cases z : v = 0
                  · rw [if_pos z] at h
                    rw [if_pos z, Option.bind_some, if_neg (show ¬ nI 12 = 11 by decide), Option.bind_some, if_pos rfl, rt_some]
                    exact stay _ x2 h
                  · rw [if_neg z] at h
                    rw [if_neg z, Option.bind_some, if_neg (show ¬ nI 12 = 11 by decide), Option.bind_some, if_neg (by decide), rt_some]
                    exact drop h
                · rw [if_neg c12] at h
                  rw [if_neg (show ¬ nI (Fl K a).1 = 12 from ne 12 (by decide) c12)]
                  match t, hst, hS, hv, h with
                  | [], _, _, _, h => cases h
                  | x :: t', hst, hS, hv, h =>
                    dsimp only at h
                    simp only [List.length_cons] at hst hv
                    rw [List.length_cons]
                    have hx : gI w 23 t'.length = x := hS.2.1
                    rw [if_neg (show ¬ nI (t'.length + 1 + 1) ≤ 1 from nI_ge (a := 1) (by omega) (by omega)), nI_pred, if_pos (inb_nI (by omega) (by decide)), ix_nI (by omega), hx, joined_ap (by omega)]
                    cases ea : ap (chr (Fl K a).1) x v with
                    | none =>
                      rw [ea] at h
                      dsimp only at h ⊢
                      have f1 : fx scR w (sI w 16 8 1) := fx.sI (Or.inr ⟨rfl, rfl⟩)
                      have f2 : fx scR w (sI (sI w 16 8 1) 23 t'.length 0) := f1.tr (fx.sI (Or.inl rfl))
                      rw [Option.bind_some, rt_bind, rt_mg, rt_mg, rt_onL, rt_some]
                      refine ⟨f1.lay hL, ?_⟩
                      dsimp only
                      rw [rt_onL, show gI (sI (sI w 16 8 1) 23 t'.length 0) 16 8 = 1 from rfl, if_neg (by decide), rt_some, nx_r]
                      cases h
                      exact ⟨f2.lay hL, f0.tr f2, Or.inr ⟨rfl, rfl⟩⟩
                    | some z =>
                      rw [ea] at h
                      dsimp only at h ⊢
                      rw [Option.bind_some, rt_bind, rt_mg, rt_mg, rt_onL, rt_some]
                      refine ⟨hL, ?_⟩
                      dsimp only
                      rw [nI_1 a]
                      refine next (z :: t') (a + 1) _ h (fx.sI (Or.inl rfl)) ⟨?_, hS.2.2.of (fun k hk => ?_)⟩ (by rw [List.length_cons]; omega) (by omega) h8
                      · rw [gI_sI, if_pos ⟨rfl, rfl⟩]
                      · rw [gI_sI, if_neg (by omega)]
    · rw [if_neg h1] at h
      cases h
      rw [if_pos (nI_le (by omega) (by omega)), rt_some, nx_r]
      exact ⟨f0, Or.inl ⟨rfl, st, hS, hst, rfl, rfl⟩⟩
end Nrn
