/-! COUNT and what a LAW is -/
section Cnt
variable {d d' : Dt} {C : Ct} {w w' : Mm}
theorem lmk_lt (f : Nat → Bool) : ∀ n, lmk f n < 2 ^ n
  | 0 => (by decide : 0 < 1)
  | n + 1 => by
    rw [lmk]
    refine Nat.or_lt_two_pow (Nat.lt_trans (lmk_lt f n) (Nat.pow_lt_pow_right (by decide) (by omega))) ?_
    split
    · exact Nat.pow_lt_pow_right (by decide) (by omega)
    · exact Nat.two_pow_pos _
theorem lmk_bit (f : Nat → Bool) (i : Nat) : ∀ n, (lmk f n).testBit i = (decide (i < n) && f i)
  | 0 => by simp [lmk]
  | n + 1 => by
    rw [lmk, Nat.testBit_or, lmk_bit f i n]
    by_cases e : i = n
    · subst e
      cases q : f i with
      | false => simp
      | true => simp [Nat.testBit_two_pow_self]
    · have h1 : (if f n = true then 2 ^ n else 0).testBit i = false := by
        split
        · exact Nat.testBit_two_pow_of_ne (fun h => e h.symm)
        · exact Nat.zero_testBit i
      rw [h1, Bool.or_false]
      by_cases z : i < n
      · rw [decide_eq_true z, decide_eq_true (by omega : i < n + 1)]
      · rw [decide_eq_false z, decide_eq_false (by omega : ¬ i < n + 1)]
theorem lmk_ext {f : Nat → Bool} {n : Nat} : ∀ {m : Nat}, n ≤ m → (∀ k, n ≤ k → k < m → f k = false) → lmk f m = lmk f n
  | 0, h, _ => by rw [show n = 0 by omega]
  | m + 1, h, hp => by
    by_cases e : n = m + 1
    · rw [e]
    · rw [lmk, hp m (by omega) (by omega), if_neg (by decide), Nat.or_zero]
      exact lmk_ext (by omega) (fun k h1 h2 => hp k h1 (by omega))
theorem lmk_not (f : Nat → Bool) {u : Nat} : nI (lmk f 10) &&& (nI u ^^^ (-1 : Int32)) = nI (lmk (fun k => f k && !u.testBit k) 10) := by
  rw [show (-1 : Int32) = nI 4294967295 by decide, fb_xorI, fa_and]
  refine congrArg nI (Nat.eq_of_testBit_eq (fun i => ?_))
  rw [Nat.testBit_and, Nat.testBit_xor, lmk_bit, lmk_bit, show (4294967295 : Nat) = 2 ^ 32 - 1 by decide, Nat.testBit_two_pow_sub_one]
  by_cases z : i < 10
  · rw [decide_eq_true z, decide_eq_true (by omega : i < 32)]
    cases f i <;> cases u.testBit i <;> rfl
  · rw [decide_eq_false z, Bool.false_and, Bool.false_and, Bool.false_and]
theorem sm_ext {f : Nat → Nat} {n : Nat} : ∀ {m : Nat}, n ≤ m → (∀ k, n ≤ k → k < m → f k = 0) → fb_sm f m = fb_sm f n
  | 0, h, _ => by rw [show n = 0 by omega]
  | m + 1, h, hp => by
    by_cases e : n = m + 1
    · rw [e]
    · rw [fb_sm, hp m (by omega) (by omega), Nat.add_zero]
      exact sm_ext (by omega) (fun k h1 h2 => hp k h1 (by omega))
theorem k_told (oT : OkT d) (h : KT d C w) : f_X11_toldLaws w = some (nI (lmk (fun k => decide (0 < d 11 k)) 4)) := by
  apply Rt.eq
  unfold f_X11_toldLaws
  rw [rt_bind]
  refine (rt_for (fun k (s : Int32 × Int32) => s.1 = nI (lmk (fun k => decide (0 < d 11 k)) k) ∧ s.2 = nI k) 4 (Q := fun p => p = nI (lmk (fun k => decide (0 < d 11 k)) 4)) ?_ ?_ ⟨rfl, rfl⟩ (by decide)).mono (fun p h => by rw [rt_some]; exact h)
  · rintro k ⟨s1, s2⟩ hk ⟨h1, h2⟩
    dsimp only at h1 h2
    subst h1 h2
    have hr : gR w 35 k = some (36 + k) ∧ isRl (36 + k) = true := by
      rcases (by omega : k = 0 ∨ k = 1 ∨ k = 2 ∨ k = 3) with rfl | rfl | rfl | rfl
      · exact ⟨r35_0 h.1.1, rfl⟩
      · exact ⟨r35_1 h.1.1, rfl⟩
      · exact ⟨r35_2 h.1.1, rfl⟩
      · exact ⟨r35_3 h.1.1, rfl⟩
    have z := (oT.2.2 k hk).1
    unfold l_X11_toldLaws_4
    dsimp only
    rw [if_neg (show ¬ (4 : Int32) ≤ nI k from nI_ge (b := 4) hk (by decide)), if_pos (inb_nI hk (by decide)), ix_nI (by omega), rt_onq, hr.1]
    refine ⟨fun z => (by cases z), fun c hc => ?_⟩
    cases hc
    rw [if_pos hr.2, (h.2.2 k hk).1]
    by_cases q : d 11 k = 0
    · rw [q, if_pos (by rfl), rt_some, nx_l]
      exact ⟨by rw [lmk, if_neg (by rw [q]; decide), Nat.or_zero], nI_1 k⟩
    · rw [if_neg (nI_ne0 (by omega) (by omega)), rt_some, nx_l, sh1_N (by omega), fa_or]
      exact ⟨by rw [lmk, if_pos (decide_eq_true (by omega))], nI_1 k⟩
  · rintro ⟨s1, s2⟩ ⟨h1, h2⟩
    dsimp only at h1 h2
    subst h1 h2
    unfold l_X11_toldLaws_4
    dsimp only
    rw [if_pos (by decide), rt_some, nx_r]
theorem m_lawsTold (oT : OkT d) (h : MT d C w) : f_X12_lawsTold w = some (nI (lmk (fun k => decide (0 < d 11 k)) 4)) := by
  apply Rt.eq
  unfold f_X12_lawsTold
  rw [rt_bind]
  refine (rt_for (fun k (s : Int32 × Int32) => s.1 = nI (lmk (fun k => decide (0 < d 11 k)) k) ∧ s.2 = nI k) 4 (Q := fun p => p = nI (lmk (fun k => decide (0 < d 11 k)) 4)) ?_ ?_ ⟨rfl, rfl⟩ (by decide)).mono (fun p h => by rw [rt_some]; exact h)
  · rintro k ⟨s1, s2⟩ hk ⟨h1, h2⟩
    dsimp only at h1 h2
    subst h1 h2
    have z := (oT.2.2 k hk).1
    unfold l_X12_lawsTold_4
    dsimp only
    rw [if_neg (show ¬ (4 : Int32) ≤ nI k from nI_ge (b := 4) hk (by decide)), if_pos (inb_nI hk (by decide)), ix_nI (by omega), (h.2.2 k hk).1]
    by_cases q : d 11 k = 0
    · rw [q, if_pos (by rfl), Option.bind_some, rt_some, nx_l, show (0 : Int32) = nI 0 from rfl, fa_or]
      exact ⟨by rw [lmk, if_neg (by rw [q]; decide)], nI_1 k⟩
    · rw [if_neg (nI_ne0 (by omega) (by omega)), Option.bind_some, rt_some, nx_l, sh1_N (by omega), fa_or]
      exact ⟨by rw [lmk, if_pos (decide_eq_true (by omega))], nI_1 k⟩
  · rintro ⟨s1, s2⟩ ⟨h1, h2⟩
    dsimp only at h1 h2
    subst h1 h2
    unfold l_X12_lawsTold_4
    dsimp only
    rw [if_pos (by decide), rt_some, nx_r]
theorem wn_neg {x b : Int32} (h : x < 0) : f_X11_within x 0 b = 0 := within_iff.mpr (Or.inl h)
theorem srt_no : ∀ j, j < 20 → f_X11_within (nI j - 20) 0 3 = 0 := by decide
theorem st_count (o : Ok d C) (oT : OkT d) (x : Int32) : ∃ v, (∀ w, KT d C w → f_X11_count x w = some v) ∧ ∀ w, MT d C w → f_X12_count x w = some v := by
  have o1 := o.1.1
  have l1 : ∀ w, MT d C w → f_X12_lies ((x - (10 : Int32)).toInt64) (0 : Int64) (((gI w 47 2) - (1 : Int32)).toInt64) = f_X11_within (x - 10) 0 (nI (d 0 0) - 1) := fun w h => by rw [h.1.N]; exact lies_lit (x - 10) 0 (nI (d 0 0) - 1) (by decide) rfl
  by_cases c0 : x = 0
  · subst c0
    exact ⟨nI (d 0 0), fun w h => by unfold f_X11_count; rw [if_pos rfl]; exact congrArg some h.1.2.1.1, fun w h => by unfold f_X12_count; rw [l1 w h, if_pos (wn_neg (by decide)), m_isSort, if_pos (wn_neg (by decide)), if_pos rfl]; exact congrArg some h.1.2.1.1⟩
  by_cases c1 : x = 1
  · subst c1
    exact ⟨nI (d 0 1), fun w h => by unfold f_X11_count; rw [if_neg (by decide), if_pos rfl]; exact congrArg some h.1.U, fun w h => by unfold f_X12_count; rw [l1 w h, if_pos (wn_neg (by decide)), m_isSort, if_pos (wn_neg (by decide)), if_neg (by decide), if_pos rfl]; exact congrArg some h.1.U⟩
  by_cases c2 : x = 2
  · subst c2
    exact ⟨nI (d 0 2), fun w h => by unfold f_X11_count; rw [if_neg (by decide), if_neg (by decide), if_pos rfl]; exact congrArg some h.1.2.1.2.2.1, fun w h => by unfold f_X12_count; rw [l1 w h, if_pos (wn_neg (by decide)), m_isSort, if_pos (wn_neg (by decide)), if_neg (by decide), if_neg (by decide), if_pos rfl]; exact congrArg some h.1.2.1.2.2.1⟩
  by_cases c3 : x = 3
  · subst c3
    exact ⟨nI (d 0 3), fun w h => by unfold f_X11_count; rw [if_neg (by decide), if_neg (by decide), if_neg (by decide), if_pos rfl]; exact congrArg some h.1.2.2.1.1, fun w h => by unfold f_X12_count; rw [l1 w h, if_pos (wn_neg (by decide)), m_isSort, if_pos (wn_neg (by decide)), if_neg (by decide), if_neg (by decide), if_neg (by decide), if_pos rfl]; exact congrArg some h.1.2.2.1.1⟩
  by_cases c4 : x = 4
  · subst c4
    exact ⟨nI (d 0 6), fun w h => by unfold f_X11_count; rw [if_neg (by decide), if_neg (by decide), if_neg (by decide), if_neg (by decide), if_pos rfl]; exact congrArg some h.1.2.2.2.1.1, fun w h => by unfold f_X12_count; rw [l1 w h, if_pos (wn_neg (by decide)), m_isSort, if_pos (wn_neg (by decide)), if_neg (by decide), if_neg (by decide), if_neg (by decide), if_neg (by decide), if_pos rfl]; exact congrArg some h.1.2.2.2.1.1⟩
  by_cases c5 : x = 5
  · subst c5
    exact ⟨nI (d 0 5), fun w h => by unfold f_X11_count; rw [if_neg (by decide), if_neg (by decide), if_neg (by decide), if_neg (by decide), if_neg (by decide), if_pos rfl]; exact congrArg some h.2.1.1, fun w h => by unfold f_X12_count; rw [l1 w h, if_pos (wn_neg (by decide)), m_isSort, if_pos (wn_neg (by decide)), if_neg (by decide), if_neg (by decide), if_neg (by decide), if_neg (by decide), if_neg (by decide), if_pos rfl]; exact congrArg some h.2.1.1⟩
  by_cases c6 : x = 6
  · subst c6
    exact ⟨nI (d 0 4), fun w h => by unfold f_X11_count; rw [if_neg (by decide), if_neg (by decide), if_neg (by decide), if_neg (by decide), if_neg (by decide), if_neg (by decide), if_pos rfl]; exact congrArg some h.1.2.2.1.2.1, fun w h => by unfold f_X12_count; rw [l1 w h, if_pos (wn_neg (by decide)), m_isSort, if_pos (wn_neg (by decide)), if_neg (by decide), if_neg (by decide), if_neg (by decide), if_neg (by decide), if_neg (by decide), if_neg (by decide), if_pos rfl]; exact congrArg some h.1.2.2.1.2.1⟩
  by_cases c7 : x = 7
  · subst c7
    exact ⟨_, fun w h => by unfold f_X11_count; rw [if_neg (by decide), if_neg (by decide), if_neg (by decide), if_neg (by decide), if_neg (by decide), if_neg (by decide), if_neg (by decide), if_pos rfl, k_told oT h, Option.bind_some], fun w h => by unfold f_X12_count; rw [l1 w h, if_pos (wn_neg (by decide)), m_isSort, if_pos (wn_neg (by decide)), if_neg (by decide), if_neg (by decide), if_neg (by decide), if_neg (by decide), if_neg (by decide), if_neg (by decide), if_neg (by decide), if_pos rfl, m_lawsTold oT h, Option.bind_some]⟩
  have hk : ∀ w, f_X11_count x w = (if (f_X11_within x (10 : Int32) (19 : Int32)) = 0 then (if (f_X11_within x (20 : Int32) (23 : Int32)) = 0 then (some (-1 : Int32)) else (if inb (x - (20 : Int32)) 4 = true then (some (gI w 7 (ix (x - (20 : Int32))))) else none)) else (Option.bind (f_X3_yearOf (x - (10 : Int32)) w) (fun p14 => some p14))) := fun w => by
    unfold f_X11_count
    rw [if_neg c0, if_neg c1, if_neg c2, if_neg c3, if_neg c4, if_neg c5, if_neg c6, if_neg c7]
  have hm : ∀ w, MT d C w → f_X12_count x w = (if f_X11_within (x - 10) 0 (nI (d 0 0) - 1) = 0 then (if (f_X11_within (x - (20 : Int32)) 0 3) = 0 then some (-1) else (if inb (x - (20 : Int32)) 4 = true then (some (gI w 53 (ix (x - (20 : Int32))))) else none)) else (if inb (x - (10 : Int32)) 10 = true then (some (gI w 52 (ix (x - (10 : Int32))))) else none)) := fun w h => by
    unfold f_X12_count
    rw [l1 w h, m_isSort, if_neg c0, if_neg c1, if_neg c2, if_neg c3, if_neg c4, if_neg c5, if_neg c6, if_neg c7]
  by_cases c10 : f_X11_within x 10 19 = 0
  case neg =>
    obtain ⟨j, hj1, hj2, rfl⟩ := within_c 10 19 (by decide) (by decide) c10
    have e10 : nI j - 10 = nI (j - 10) := pk_sub (b := 10) hj1
    by_cases q : j - 10 < d 0 0
    · refine ⟨nI (d 4 (j - 10)) - 1, fun w h => ?_, fun w h => ?_⟩
      · rw [hk, if_neg c10, e10]
        unfold f_X3_yearOf
        rw [x3_all o.1 h.1.2.1, Option.bind_some, contains_N (all_lt o.1) (by omega), all_bit, decide_eq_true q, if_neg (by decide), if_pos (inb_nI (by omega) (by decide)), ix_nI (by omega), Option.bind_some, (h.1.2.1.2.2.2 (j - 10) (by omega)).2.2.2]
      · rw [hm w h, e10, if_neg (show ¬ f_X11_within (nI (j - 10)) 0 (nI (d 0 0) - 1) = 0 by
          rw [show d 0 0 = d 0 0 - 1 + 1 by omega, nI_pred]
          exact (within_iffN (a := 0) (b := d 0 0 - 1) (by omega) (by omega)).mpr ⟨j - 10, by omega, by omega, rfl⟩), if_pos (inb_nI (by omega) (by decide)), ix_nI (by omega), (h.1.2.1.2.2.2 (j - 10) (by omega)).2.2.2]
    · refine ⟨-1, fun w h => ?_, fun w h => ?_⟩
      · rw [hk, if_neg c10, e10]
        unfold f_X3_yearOf
        rw [x3_all o.1 h.1.2.1, Option.bind_some, contains_N (all_lt o.1) (by omega), all_bit, decide_eq_false q, if_pos (by decide), Option.bind_some]
      · rw [hm w h, e10]
        by_cases z : f_X11_within (nI (j - 10)) 0 (nI (d 0 0) - 1) = 0
        · rw [if_pos z, if_pos (srt_no j (by omega))]
        · obtain ⟨i, hi, e⟩ := within_p (by omega) z
          have := (nI_eq (by omega) (by omega)).mp e
          omega
  by_cases c20 : f_X11_within x 20 23 = 0
  case neg =>
    obtain ⟨j, hj1, hj2, rfl⟩ := within_c 20 23 (by decide) (by decide) c20
    have e10 : nI j - 10 = nI (j - 10) := pk_sub (b := 10) (by omega)
    have e20 : nI j - 20 = nI (j - 20) := pk_sub (b := 20) hj1
    refine ⟨nI (d 5 (j - 20)), fun w h => ?_, fun w h => ?_⟩
    · rw [hk, if_pos c10, if_neg c20, e20, if_pos (inb_nI (by omega) (by decide)), ix_nI (by omega), h.1.P (by omega)]
    · rw [hm w h, e10, e20]
      by_cases z : f_X11_within (nI (j - 10)) 0 (nI (d 0 0) - 1) = 0
      · rw [if_pos z, if_neg (show ¬ f_X11_within (nI (j - 20)) 0 3 = 0 from (within_iffN (a := 0) (b := 3) (by decide) (by decide)).mpr ⟨j - 20, by omega, by omega, rfl⟩), if_pos (inb_nI (by omega) (by decide)), ix_nI (by omega), h.1.P (by omega)]
      · obtain ⟨i, hi, e⟩ := within_p (by omega) z
        have := (nI_eq (by omega) (by omega)).mp e
        omega
  refine ⟨-1, fun w h => ?_, fun w h => ?_⟩
  · rw [hk, if_pos c10, if_pos c20]
  · rw [hm w h]
    by_cases z : f_X11_within (x - 10) 0 (nI (d 0 0) - 1) = 0
    · rw [if_pos z]
      by_cases y : f_X11_within (x - 20) 0 3 = 0
      · rw [if_pos y]
      · obtain ⟨i, -, hi, e⟩ := within_c 0 3 (by decide) (by decide) y
        have e' : x = nI (i + 20) := by
          rw [← nI_add, ← e, show nI 20 = (20 : Int32) from rfl, Int32.sub_add_cancel]
        exact absurd c20 ((within_iffN (a := 20) (b := 23) (by decide) (by decide)).mpr ⟨i + 20, by omega, by omega, e'⟩)
    · obtain ⟨i, hi, e⟩ := within_p (by omega) z
      have e' : x = nI (i + 10) := by
        rw [← nI_add, ← e, show nI 10 = (10 : Int32) from rfl, Int32.sub_add_cancel]
      exact absurd c10 ((within_iffN (a := 10) (b := 19) (by decide) (by decide)).mpr ⟨i + 10, by omega, by omega, e'⟩)
end Cnt
