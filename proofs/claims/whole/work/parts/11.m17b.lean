def KW (d : Dt) (C : Ct) (w w' : Mm) : Prop := KI d C w' ∧ cq w w'
theorem KQ.w {d : Dt} {C : Ct} {w w' : Mm} (h : KQ d C w w') : KW d C w w' := ⟨h.1, h.2.1.q⟩
theorem KW.rf {d : Dt} {C : Ct} {w : Mm} (h : KI d C w) : KW d C w w := ⟨h, cq.rf⟩
def ZQ (d : Dt) (C : Ct) (w w' : Mm) : Prop := qs w w' ∧ MI d C w'
def ZW (d : Dt) (C : Ct) (w w' : Mm) : Prop := qf w w' ∧ MI d C w'
theorem ZQ.w {d : Dt} {C : Ct} {w w' : Mm} (h : ZQ d C w w') : ZW d C w w' := ⟨h.1.q, h.2⟩
theorem ZW.rf {d : Dt} {C : Ct} {w : Mm} (h : MI d C w) : ZW d C w w := ⟨qf.rf, h⟩
theorem ZW.tr {d : Dt} {C : Ct} {w w' w'' : Mm} (h : ZW d C w w') (h' : ZW d C w' w'') : ZW d C w w'' := ⟨h.1.tr h'.1, h'.2⟩
theorem ZQ.rf {d : Dt} {C : Ct} {w : Mm} (h : MI d C w) : ZQ d C w w := ⟨qs.rf, h⟩
theorem ZQ.tr {d : Dt} {C : Ct} {w w' w'' : Mm} (h : ZQ d C w w') (h' : ZQ d C w' w'') : ZQ d C w w'' := ⟨h.1.tr h'.1, h'.2⟩
/-- the class's f and the reference's g answer the same, and leave all right -/
def Agree {α : Type} (d : Dt) (C : Ct) (f g : Mm → Option (α × Mm)) : Prop := ∃ v, (∀ w, KI d C w → Rt (f w) (fun p => p.1 = v ∧ KW d C w p.2)) ∧ ∀ w, MI d C w → Rt (g w) (fun p => p.1 = v ∧ ZW d C w p.2)
/-- lengths as they are answered -/
def e2 : Option Nat → Int32
  | none => -2
  | some b => nI b
section Ops
variable {d : Dt} {C : Ct} {w : Mm}
theorem k_isTongue (o : OkL d) (h : CLx d w) (x : Int32) : f_X3_isTongue x w = some (f_X11_within x 0 (nI (2 ^ d 0 0 - 1))) := by
  unfold f_X3_isTongue
  rw [x3_all o h]
  rfl
theorem m_isTongue (o : OkL d) (h : MLx d w) (x : Int32) : f_X12_isTongue x w = some (f_X11_within x 0 (nI (2 ^ d 0 0 - 1))) := by
  unfold f_X12_isTongue
  have := o.1
  rw [h.1, sh1_N (by omega), show (1 : Int32) = nI 1 from rfl, pk_sub Nat.one_le_two_pow, lies_lit x 0 (nI (2 ^ d 0 0 - 1)) (by decide) rfl]
theorem m_isMeaning (x : Int32) : f_X12_isMeaning x = f_X11_within x 0 63 := lies_lit x 0 63 (by decide) (by decide)
theorem m_isSort (x : Int32) : f_X12_isSort x = f_X11_within x 0 3 := lies_lit x 0 3 (by decide) (by decide)
theorem tongue_of (o : OkL d) {x : Int32} (h : ¬ f_X11_within x 0 (nI (2 ^ d 0 0 - 1)) = 0) : ∃ t, t < 2 ^ d 0 0 ∧ x = nI t := by
  have h1 := pow10 o.1
  have h2 := @Nat.one_le_two_pow (d 0 0)
  obtain ⟨j, -, h4, h5⟩ := (within_iffN (a := 0) (b := 2 ^ d 0 0 - 1) (by omega) (by omega)).mp h
  exact ⟨j, by omega, h5⟩
theorem within_c {x : Int32} (a b : Nat) (hab : a ≤ b) (hb : b < 2 ^ 31) (h : ¬ f_X11_within x (nI a) (nI b) = 0) : ∃ j, a ≤ j ∧ j ≤ b ∧ x = nI j := (within_iffN hab hb).mp h
theorem m_isUsed (o : OkL d) (h : MLx d w) (x : Int32) : f_X12_isUsed x w = some (f_X11_contains (nI (d 0 1)) x) := by
  have o1 := o.1
  have p10 := pow10 o.1
  have hu := o.2.1
  unfold f_X12_isUsed
  rw [h.1, h.2.1]
  by_cases hx : x < 0
  · rw [lies_lit x 0 (nI (d 0 0) - 1) (by decide) rfl, if_pos (within_iff.mpr (Or.inl hx))]
    unfold f_X11_contains
    rw [if_pos hx]
  · obtain ⟨i, hi, rfl⟩ := nI_of hx
    rw [contains_N (by omega) hi, lies_lit (nI i) 0 (nI (d 0 0) - 1) (by decide) rfl]
    by_cases hn : i < d 0 0
    · rw [if_neg, has_N (by omega) (by omega)]
      · cases (d 0 1).testBit i <;> rfl
      · rw [show (1 : Int32) = nI 1 from rfl, pk_sub (by omega)]
        exact (within_iffN (a := 0) (by omega) (by omega)).mpr ⟨i, by omega, by omega, rfl⟩
    · rw [if_pos, tb_small hu (by omega)]
      · rfl
      · by_cases h0 : d 0 0 = 0
        · rw [h0]
          refine within_iff.mpr (Or.inr ?_)
          rw [fa_lt, nI_toInt hi, show (nI 0 - 1).toInt = -1 by decide]
          omega
        · rw [show (1 : Int32) = nI 1 from rfl, pk_sub (by omega)]
          exact within_iff.mpr (Or.inr (nI_lt (by omega) (by omega)))
theorem wo_lt {t i n : Nat} (h : t < 2 ^ n) : wo t i < 2 ^ n := Nat.lt_of_le_of_lt wo_le h
theorem shortest_N {B : Nat → Option Nat} {t a m : Nat} (hB : ∀ j b, B j = some b → b ≤ 3000) (hs : SpOk d C B t a w) (hm : m < 64) : f_X7_shortest a (nI m) w = some (e2 (B m)) := by
  unfold f_X7_shortest
  rw [m63 hm, if_pos (inb_nI hm (by decide)), ix_nI (by omega), show gI w (a + 1) m = nI (enc 268435456 (B m)) from hs.2.2.1 m hm]
  cases e : B m with
  | none => rw [enc_n, if_pos (by decide)]; rfl
  | some b =>
    have := hB m b e
    rw [enc_s, if_neg (show ¬ (268435456 : Int32) ≤ nI b from nI_ge (b := 268435456) (by omega) (by decide))]; rfl
theorem e2_N (o : OkL d) {t m : Nat} {w : Mm} : (if nI (enc 1000000 (BF d t m)) < (1000000 : Int32) then some (nI (enc 1000000 (BF d t m)), w) else some ((-2 : Int32), w)) = some (e2 (BF d t m), w) := by
  cases e : BF d t m with
  | none => rw [enc_n, if_neg (by decide)]; rfl
  | some b =>
    have := BF_le o e
    rw [enc_s, if_pos (show nI b < (1000000 : Int32) from nI_lt (b := 1000000) (by omega) (by decide))]; rfl
/-- the speech of a tongue, as the next step has it -/
theorem x_sp (o : Ok d C) (h : KI d C w) {t : Nat} (ht : t < 2 ^ d 0 0) : Rt (f_X9_speech (nI t) w) (fun p => KQ d C w p.2 ∧ Act d C (BF d t) t p.1 p.2 ∧ SpOk d C (BF d t) t p.1 p.2 ∧ Lay p.2 ∧ gR p.2 15 t = some p.1) := by
  refine (x9_speech o h ht).mono ?_
  rintro p ⟨e, q⟩
  have p10 := pow10 o.1.1
  have hA : Act d C (BF d t) t p.1 p.2 := Or.inl ⟨by omega, e, rfl⟩
  exact ⟨q, hA, hA.sp q.1, q.1.1, e⟩
theorem x_tk (o : Ok d C) (hst : d 0 7 < 2 ^ 31) (h : KI d C w) {t : Nat} (ht : t < 2 ^ d 0 0) {β : Type} {k : Int64 × Mm → Option β} {Q : β → Prop} (hk : ∀ w', KQ d C w w' → Rt (k (lN (tkA d C t), w')) Q) : Rt (Option.bind (f_X9_speech (nI t) w) (fun p => if isSp p.2 p.1 = true then onL p.2 (Option.bind (f_X9_yearly p.1 (-1 : Int32) p.2) k) else none)) Q := by
  rw [rt_bind]
  refine (x_sp o h ht).mono ?_
  rintro ⟨a, w1⟩ ⟨q1, hA, hs, hL, -⟩
  dsimp only at q1 hA hs hL ⊢
  rw [if_pos hs.1, rt_onL, rt_bind]
  refine ⟨hL, (x9_yearly (so := none) o hst (fun j b e => BF_le o.1 e) q1.1 hA (fun s e => by cases e)).mono ?_⟩
  rintro ⟨v, w2⟩ ⟨e, q2, -⟩
  dsimp only at e q2 ⊢
  subst e
  rw [tks_n]
  exact hk w2 (q1.tr q2)
theorem x_tkS (o : Ok d C) (hst : d 0 7 < 2 ^ 31) (h : KI d C w) {t s : Nat} (hs4 : s < 4) (ht : t < 2 ^ d 0 0) {β : Type} {k : Int64 × Mm → Option β} {Q : β → Prop} (hk : ∀ w', KQ d C w w' → Rt (k (lN (tk d C t s), w')) Q) : Rt (Option.bind (f_X9_speech (nI t) w) (fun p => if isSp p.2 p.1 = true then onL p.2 (Option.bind (f_X9_yearly p.1 (nI s) p.2) k) else none)) Q := by
  rw [rt_bind]
  refine (x_sp o h ht).mono ?_
  rintro ⟨a, w1⟩ ⟨q1, hA, hs, hL, -⟩
  dsimp only at q1 hA hs hL ⊢
  rw [if_pos hs.1, rt_onL, rt_bind]
  refine ⟨hL, (x9_yearly (so := some s) o hst (fun j b e => BF_le o.1 e) q1.1 hA (fun s' e => by cases e; exact hs4)).mono ?_⟩
  rintro ⟨v, w2⟩ ⟨e, q2, -⟩
  dsimp only at e q2 ⊢
  subst e
  rw [tks_s]
  exact hk w2 (q1.tr q2)
theorem KI.U (h : KI d C w) : gI w 1 5 = nI (d 0 1) := h.2.1.2.1
theorem MI.U (h : MI d C w) : gI w 47 6 = nI (d 0 1) := h.2.1.2.1
theorem MI.N (h : MI d C w) : gI w 47 2 = nI (d 0 0) := h.2.1.1
-- BRIEF, SAYABLE, TALK
theorem ag_brief (o : Ok d C) (x1 x2 : Int32) : Agree d C (f_X11_brief x1 x2) (f_X12_brief x1 x2) := by
  by_cases c1 : f_X11_within x1 0 (nI (2 ^ d 0 0 - 1)) = 0
  · refine ⟨-1, fun w h => ?_, fun w h => ?_⟩
    · unfold f_X11_brief
      rw [k_isTongue o.1 h.2.1, Option.bind_some, if_pos c1, rt_some]; exact ⟨rfl, KW.rf h⟩
    · unfold f_X12_brief
      rw [m_isTongue o.1 h.2.1, Option.bind_some, if_pos c1, rt_some]; exact ⟨rfl, ZW.rf h⟩
  by_cases c2 : f_X11_within x2 0 63 = 0
  · refine ⟨-1, fun w h => ?_, fun w h => ?_⟩
    · unfold f_X11_brief
      rw [k_isTongue o.1 h.2.1, Option.bind_some, if_neg c1, if_pos c2, rt_some]; exact ⟨rfl, KW.rf h⟩
    · unfold f_X12_brief
      rw [m_isTongue o.1 h.2.1, Option.bind_some, if_neg c1, m_isMeaning, if_pos c2, rt_some]; exact ⟨rfl, ZW.rf h⟩
  obtain ⟨t, ht, rfl⟩ := tongue_of o.1 c1
  obtain ⟨m, -, hm, rfl⟩ := within_c 0 63 (by decide) (by decide) c2
  have hm' : m < 64 := by omega
  refine ⟨e2 (BF d t m), fun w h => ?_, fun w h => ?_⟩
  · unfold f_X11_brief
    rw [k_isTongue o.1 h.2.1, Option.bind_some, if_neg c1, if_neg c2, rt_bind]
    refine (x_sp o h ht).mono ?_
    rintro ⟨a, w1⟩ ⟨q1, hA, hs, hL, -⟩
    dsimp only at q1 hA hs hL ⊢
    rw [if_pos hs.1, rt_onL, shortest_N (fun j b e => BF_le o.1 e) hs hm', Option.bind_some, rt_some]
    exact ⟨hL, rfl, q1.w⟩
  · unfold f_X12_brief
    rw [m_isTongue o.1 h.2.1, Option.bind_some, if_neg c1, m_isMeaning, if_neg c2, rt_bind]
    refine (m_briefOf o.1 h.1 h.2.1 h.2.2.2.2.1 ht hm').mono ?_
    rintro ⟨v, w1⟩ ⟨e, f1, b1, -⟩
    dsimp only at e f1 b1 ⊢
    subst e
    rw [e2_N o.1, rt_some]
    exact ⟨rfl, ZQ.w (h.x f1 (fun c k z => by unfold qsP; omega) b1)⟩
theorem ag_sayable (o : Ok d C) (hst : d 0 7 < 2 ^ 31) (x1 x2 x3 : Int32) : Agree d C (f_X11_sayable x1 x2 x3) (f_X12_sayable x1 x2 x3) := by
  by_cases c1 : f_X11_within x1 0 (nI (2 ^ d 0 0 - 1)) = 0
  · refine ⟨-1, fun w h => ?_, fun w h => ?_⟩
    · unfold f_X11_sayable
      rw [k_isTongue o.1 h.2.1, Option.bind_some, if_pos c1, rt_some]; exact ⟨rfl, KW.rf h⟩
    · unfold f_X12_sayable
      rw [m_isTongue o.1 h.2.1, Option.bind_some, if_pos c1, rt_some]; exact ⟨rfl, ZW.rf h⟩
  by_cases c2 : f_X11_within x2 0 63 = 0
  · refine ⟨-1, fun w h => ?_, fun w h => ?_⟩
    · unfold f_X11_sayable
      rw [k_isTongue o.1 h.2.1, Option.bind_some, if_neg c1, if_pos c2, rt_some]; exact ⟨rfl, KW.rf h⟩
    · unfold f_X12_sayable
      rw [m_isTongue o.1 h.2.1, Option.bind_some, if_neg c1, m_isMeaning, if_pos c2, rt_some]; exact ⟨rfl, ZW.rf h⟩
  have l3 : f_X12_lies x3.toInt64 (0 : Int64) (1 : Int64) = f_X11_within x3 0 1 := lies_lit x3 0 1 (by decide) (by decide)
  by_cases c3 : f_X11_within x3 0 1 = 0
  · refine ⟨-1, fun w h => ?_, fun w h => ?_⟩
    · unfold f_X11_sayable
      rw [k_isTongue o.1 h.2.1, Option.bind_some, if_neg c1, if_neg c2, if_pos c3, rt_some]; exact ⟨rfl, KW.rf h⟩
    · unfold f_X12_sayable
      rw [m_isTongue o.1 h.2.1, Option.bind_some, if_neg c1, m_isMeaning, if_neg c2, l3, if_pos c3, rt_some]; exact ⟨rfl, ZW.rf h⟩
  obtain ⟨t, ht, rfl⟩ := tongue_of o.1 c1
  obtain ⟨m, -, hm, rfl⟩ := within_c 0 63 (by decide) (by decide) c2
  have hm' : m < 64 := by omega
  have hsy1 : ∀ v, (pz d C t m).1 = some v → v ≤ 4000 := fun v e => sy_le (fun j b e => BF_le o.1 e) o.2.2.1 64 v e
  have hsy2 : (pz d C t m).2 < 64 := sy_by hm' 64 (Nat.le_refl _)
  refine ⟨match (pz d C t m).1 with | none => -2 | some v => if x3 = 0 then nI v else nI (pz d C t m).2, fun w h => ?_, fun w h => ?_⟩
  · unfold f_X11_sayable
    rw [k_isTongue o.1 h.2.1, Option.bind_some, if_neg c1, if_neg c2, if_neg c3, rt_bind]
    refine (x_sp o h ht).mono ?_
    rintro ⟨a, w1⟩ ⟨q1, hA, hs, hL, -⟩
    dsimp only at q1 hA hs hL ⊢
    rw [if_pos hs.1, rt_onL, rt_bind]
    refine ⟨hL, (x9_priceA (B := BF d t) o hst (fun j b e => BF_le o.1 e) q1.1 hA hm').mono ?_⟩
    rintro ⟨v, w2⟩ ⟨e, q2, -⟩
    dsimp only at e q2 ⊢
    subst e
    rw [show sy C (BF d t) m 64 = pz d C t m from rfl]
    cases e : (pz d C t m).1 with
    | none => rw [if_pos ((prI_2 hsy1 hsy2).mpr e), rt_some]; exact ⟨rfl, (q1.tr q2).w⟩
    | some v =>
      have hp := prI_s (x := pz d C t m) (hsy1 v e) hsy2 e
      rw [if_neg (fun z => by rw [(prI_2 hsy1 hsy2).mp z] at e; cases e)]
      by_cases c : x3 = 0
      · rw [if_pos c, rt_some]
        exact ⟨by show _ = if x3 = 0 then nI v else nI (pz d C t m).2; rw [if_pos c]; exact hp.1, (q1.tr q2).w⟩
      · rw [if_neg c, rt_some]
        exact ⟨by show _ = if x3 = 0 then nI v else nI (pz d C t m).2; rw [if_neg c]; exact hp.2, (q1.tr q2).w⟩
  · unfold f_X12_sayable
    rw [m_isTongue o.1 h.2.1, Option.bind_some, if_neg c1, m_isMeaning, if_neg c2, l3, if_neg c3, rt_bind]
    refine (m_sayable o h ht hm').mono ?_
    rintro ⟨v, w1⟩ ⟨e, e48, f1, m1⟩
    dsimp only at e e48 f1 m1 ⊢
    subst e
    cases e : (pz d C t m).1 with
    | none => rw [enc_n, if_neg (by decide), rt_some]; exact ⟨rfl, f1.q, m1⟩
    | some v =>
      have := hsy1 v e
      rw [enc_s, if_pos (show nI v < (1000000 : Int32) from nI_lt (b := 1000000) (by omega) (by decide))]
      by_cases c : x3 = 0
      · rw [if_pos c, rt_some]
        exact ⟨by show _ = if x3 = 0 then nI v else nI (pz d C t m).2; rw [if_pos c], f1.q, m1⟩
      · rw [if_neg c, rt_onL, rt_some]
        exact ⟨m1.1, by show _ = if x3 = 0 then nI v else nI (pz d C t m).2; rw [if_neg c]; exact e48, f1.q, m1⟩
end Ops
