/-! how, told, leads -/
section Told
variable {d : Dt} {C : Ct} {w : Mm}
theorem ag_how (o : Ok d C) (x1 x2 x3 : Int32) : Agree d C (f_X11_how x1 x2 x3) (f_X12_how x1 x2 x3) := by
  by_cases c1 : f_X11_within x1 0 (nI (2 ^ d 0 0 - 1)) = 0
  · refine ⟨-1, fun w h => ?_, fun w h => ?_⟩
    · unfold f_X11_how
      rw [k_isTongue o.1 h.2.1, Option.bind_some, if_pos c1, rt_some]; exact ⟨rfl, KW.rf h⟩
    · unfold f_X12_how
      rw [m_isTongue o.1 h.2.1, Option.bind_some, if_pos c1, rt_some]; exact ⟨rfl, ZW.rf h⟩
  by_cases c2 : f_X11_within x2 0 63 = 0
  · refine ⟨-1, fun w h => ?_, fun w h => ?_⟩
    · unfold f_X11_how
      rw [k_isTongue o.1 h.2.1, Option.bind_some, if_neg c1, if_pos c2, rt_some]; exact ⟨rfl, KW.rf h⟩
    · unfold f_X12_how
      rw [m_isTongue o.1 h.2.1, Option.bind_some, if_neg c1, m_isMeaning, if_pos c2, rt_some]; exact ⟨rfl, ZW.rf h⟩
  have l3 : f_X12_lies x3.toInt64 (0 : Int64) (2 : Int64) = f_X11_within x3 0 2 := lies_lit x3 0 2 (by decide) (by decide)
  by_cases c3 : f_X11_within x3 0 2 = 0
  · refine ⟨-1, fun w h => ?_, fun w h => ?_⟩
    · unfold f_X11_how
      rw [k_isTongue o.1 h.2.1, Option.bind_some, if_neg c1, if_neg c2, if_pos c3, rt_some]; exact ⟨rfl, KW.rf h⟩
    · unfold f_X12_how
      rw [m_isTongue o.1 h.2.1, Option.bind_some, if_neg c1, m_isMeaning, if_neg c2, l3, if_pos c3, rt_some]; exact ⟨rfl, ZW.rf h⟩
  obtain ⟨t, ht, rfl⟩ := tongue_of o.1 c1
  obtain ⟨m, -, hm, rfl⟩ := within_c 0 63 (by decide) (by decide) c2
  have hm' : m < 64 := by omega
  cases e : BF d t m with
  | none =>
    refine ⟨-2, fun w h => ?_, fun w h => ?_⟩
    · unfold f_X11_how
      rw [k_isTongue o.1 h.2.1, Option.bind_some, if_neg c1, if_neg c2, if_neg c3, rt_bind]
      refine (x_sp o h ht).mono ?_
      rintro ⟨a, w1⟩ ⟨q1, hA, hs, hL, -⟩
      dsimp only at q1 hA hs hL ⊢
      rw [if_pos hs.1, rt_onL, shortest_N (fun j b e => BF_le o.1 e) hs hm', Option.bind_some, e, if_pos (by rfl), rt_some]
      exact ⟨hL, rfl, q1.w⟩
    · unfold f_X12_how
      rw [m_isTongue o.1 h.2.1, Option.bind_some, if_neg c1, m_isMeaning, if_neg c2, l3, if_neg c3, rt_bind]
      refine (m_brB o h ht hm').mono ?_
      rintro ⟨v, w1⟩ ⟨e1, q1⟩
      dsimp only at e1 q1 ⊢
      subst e1
      rw [e, enc_n, if_neg (by decide), rt_some]
      exact ⟨rfl, q1.z.w⟩
  | some L =>
    have hL := BF_le o.1 e
    have hok := hwS_ok o.1 hm' e
    have hk4 : (hwS d t m L).1 < 4 := by rcases hok with z | z | z <;> omega
    have ha : (hwS d t m L).2.1 < 64 := by rcases hok with z | z | z <;> omega
    have hb : (hwS d t m L).2.2 < 64 := by rcases hok with z | z | z <;> omega
    refine ⟨if x3 = 0 then nI (hwS d t m L).1 else if x3 = 1 then nI (hwS d t m L).2.1 else if 2 ≤ (hwS d t m L).1 then nI (hwS d t m L).2.2 else -1, fun w h => ?_, fun w h => ?_⟩
    · unfold f_X11_how
      rw [k_isTongue o.1 h.2.1, Option.bind_some, if_neg c1, if_neg c2, if_neg c3, rt_bind]
      refine (x_sp o h ht).mono ?_
      rintro ⟨a, w1⟩ ⟨q1, hA, hs, hL1, -⟩
      dsimp only at q1 hA hs hL1 ⊢
      obtain ⟨k1, k2, k3⟩ := pack_k hk4 ha hb
      rw [if_pos hs.1, rt_onL, shortest_N (fun j b e => BF_le o.1 e) hs hm', Option.bind_some, e, if_neg (show ¬ e2 (some L) = -2 from nm2 (by omega)), x7_manner o.1 q1.1.2.1 ht hs hm' e, Option.bind_some, k1, k2, k3]
      refine ⟨hL1, ?_⟩
      by_cases z0 : x3 = 0
      · rw [if_pos z0, if_pos z0, rt_some]; exact ⟨rfl, q1.w⟩
      · rw [if_neg z0, if_neg z0]
        by_cases z1 : x3 = 1
        · rw [if_pos z1, if_pos z1, rt_some]; exact ⟨rfl, q1.w⟩
        · rw [if_neg z1, if_neg z1]
          by_cases z2 : 2 ≤ (hwS d t m L).1
          · rw [if_pos z2]
            rcases (show (hwS d t m L).1 = 2 ∨ (hwS d t m L).1 = 3 by omega) with z | z
            · rw [z, if_pos (by rfl)]
              simp only [mg]
              rw [rt_some]; exact ⟨rfl, q1.w⟩
            · rw [z, if_neg (by decide), if_pos (by rfl)]
              simp only [mg]
              rw [rt_some]; exact ⟨rfl, q1.w⟩
          · rw [if_neg z2, if_neg (show ¬ nI (hwS d t m L).1 = (2 : Int32) from fun z => z2 (by have := (nI_eq (b := 2) (by omega) (by decide)).mp z; omega)), if_neg (show ¬ nI (hwS d t m L).1 = (3 : Int32) from fun z => z2 (by have := (nI_eq (b := 3) (by omega) (by decide)).mp z; omega))]
            simp only [mg]
            rw [rt_some]; exact ⟨rfl, q1.w⟩
    · unfold f_X12_how
      rw [m_isTongue o.1 h.2.1, Option.bind_some, if_neg c1, m_isMeaning, if_neg c2, l3, if_neg c3, rt_bind]
      refine (m_brB o h ht hm').mono ?_
      rintro ⟨v, w1⟩ ⟨e1, q1⟩
      dsimp only at e1 q1 ⊢
      subst e1
      rw [e, enc_s, if_pos (show nI L < (1000000 : Int32) from nI_lt (b := 1000000) (by omega) (by decide)), rt_onL, rt_bind]
      refine ⟨q1.2.1, (m_says o q1.2 ht hm' e).mono ?_⟩
      rintro w2 ⟨f2, m2, y1, y2, y3⟩
      have zq : ZW d C w w2 := ⟨q1.z.w.1.tr (qf.of f2 (fun c k z => by unfold fhow at z; unfold inM mB; omega)), m2⟩
      by_cases z0 : x3 = 0
      · rw [if_pos z0, if_pos z0, rt_onL, rt_some]; exact ⟨m2.1, y1, zq⟩
      · rw [if_neg z0, if_neg z0]
        by_cases z1 : x3 = 1
        · rw [if_pos z1, if_pos z1, rt_onL, rt_some]; exact ⟨m2.1, y2, zq⟩
        · rw [if_neg z1, if_neg z1, rt_onL, rt_some]; exact ⟨m2.1, y3, zq⟩
/-- a MEANING's WORD IN USE -/
noncomputable def mnt (d : Dt) (x : Int32) : Int32 := if f_X11_contains (nI (d 0 1)) x = 0 then 0 else if d 1 (ix x) = 0 then 1 else 0
theorem k_plain (o : Ok d C) (h : KI d C w) (x : Int32) : f_X3_isPlainInUse x w = some (mnt d x) := by
  have p10 := pow10 o.1.1
  have hu := o.1.2.1
  unfold f_X3_isPlainInUse mnt
  rw [h.U]
  by_cases c : f_X11_contains (nI (d 0 1)) x = 0
  · rw [if_pos c, if_pos c]
  · obtain ⟨i, hi, rfl, hb⟩ := contains_of (by omega) c
    have hd := (o.1.2.2.1 i hi).1
    rw [if_neg c, if_neg c, if_pos (inb_nI hi (by decide)), ix_nI (by omega), (h.2.1.2.2.2 i hi).1]
    by_cases c2 : d 1 i = 0
    · rw [c2, if_pos (by rfl), if_pos rfl]
    · rw [if_neg (nI_ne0 (by omega) (by omega)), if_neg c2]
theorem m_meant (o : Ok d C) (h : MI d C w) (x : Int32) : f_X12_isMeant x w = some (mnt d x) := by
  have p10 := pow10 o.1.1
  have hu := o.1.2.1
  unfold f_X12_isMeant mnt
  rw [m_isUsed o.1 h.2.1, Option.bind_some]
  by_cases c : f_X11_contains (nI (d 0 1)) x = 0
  · rw [if_pos c, if_pos c]
  · obtain ⟨i, hi, rfl, hb⟩ := contains_of (by omega) c
    have hd := (o.1.2.2.1 i hi).1
    rw [if_neg c, if_neg c, if_pos (inb_nI hi (by decide)), ix_nI (by omega), (h.2.1.2.2.2 i hi).1]
    by_cases c2 : d 1 i = 0
    · rw [c2, if_pos (by rfl), if_pos rfl]
    · rw [if_neg (nI_ne0 (by omega) (by omega)), if_neg c2]
theorem mnt_of (o : Ok d C) {x : Int32} (h : ¬ mnt d x = 0) : ∃ i, i < d 0 0 ∧ i < 10 ∧ x = nI i ∧ (d 0 1).testBit i = true ∧ d 1 i = 0 := by
  have p10 := pow10 o.1.1
  have hu := o.1.2.1
  unfold mnt at h
  by_cases c : f_X11_contains (nI (d 0 1)) x = 0
  · rw [if_pos c] at h; exact absurd rfl h
  · obtain ⟨i, hi, rfl, hb⟩ := contains_of (by omega) c
    rw [if_neg c, ix_nI (by omega)] at h
    by_cases c2 : d 1 i = 0
    · exact ⟨i, tb_lt hu hb, hi, rfl, hb, c2⟩
    · rw [if_neg c2] at h; exact absurd rfl h
theorem ag_told (o : Ok d C) (x1 : Int32) : Agree d C (f_X11_told x1) (f_X12_told x1) := by
  have hu := o.1.2.1
  by_cases c1 : mnt d x1 = 0
  · refine ⟨-1, fun w h => ?_, fun w h => ?_⟩
    · unfold f_X11_told
      rw [k_plain o h, Option.bind_some, if_pos c1, rt_some]; exact ⟨rfl, KW.rf h⟩
    · unfold f_X12_told
      rw [m_meant o h, Option.bind_some, if_pos c1, rt_some]; exact ⟨rfl, ZW.rf h⟩
  obtain ⟨i, hin, hi, rfl, hb, hk⟩ := mnt_of o c1
  have hm := (o.1.2.2.1 i hi).2.1
  refine ⟨e2 (BF d (wo (d 0 1) i) (d 2 i)), fun w h => ?_, fun w h => ?_⟩
  · unfold f_X11_told
    rw [k_plain o h, Option.bind_some, if_neg c1, h.U, without_N (by omega), rt_bind]
    refine (x_sp o h (wo_lt hu)).mono ?_
    rintro ⟨a, w1⟩ ⟨q1, hA, hs, hL, -⟩
    dsimp only at q1 hA hs hL ⊢
    rw [rt_onL, x3_meaningOf o.1 q1.1.2.1 (by omega), Option.bind_some, if_pos hs.1, if_pos hin, shortest_N (fun j b e => BF_le o.1 e) hs hm, Option.bind_some, rt_some]
    exact ⟨hL, rfl, q1.w⟩
  · unfold f_X12_told
    rw [m_meant o h, Option.bind_some, if_neg c1, if_pos (inb_nI hi (by decide)), h.U, wo_N (by omega), ix_nI (by omega), (h.2.1.2.2.2 i hi).2.1, rt_bind]
    refine (m_brB o h (wo_lt hu) hm).mono ?_
    rintro ⟨v, w1⟩ ⟨e1, q1⟩
    dsimp only at e1 q1 ⊢
    subst e1
    rw [e2_N o.1, rt_some]
    exact ⟨rfl, q1.z.w⟩
-- all that is said on the way
def Rch (d : Dt) (t m0 x : Nat) : Prop := ∀ P : Nat → Prop, P m0 → (∀ y z, P y → Dep d t y z → P z) → P x
theorem Rch.st (t m0 : Nat) : Rch d t m0 m0 := fun _ h _ => h
theorem Rch.nx {t m0 y z : Nat} (h : Rch d t m0 y) (hd : Dep d t y z) : Rch d t m0 z := fun P h1 h2 => h2 y z (h P h1 h2) hd
theorem Rch.ok (o : OkL d) {t m0 x : Nat} (hm : m0 < 64) (he : ∃ L, BF d t m0 = some L) (h : Rch d t m0 x) : x < 64 ∧ ∃ L, BF d t x = some L := h (fun x => x < 64 ∧ ∃ L, BF d t x = some L) ⟨hm, he⟩ (fun _ _ hy hd => Dep_ok o hy.1 hd)
/-- the WORD of the last step -/
noncomputable def wd (d : Dt) (t x : Nat) : Nat := match BF d t x with
  | none => 0
  | some L => if (hwS d t x L).1 = 0 then (hwS d t x L).2.1 else (jw d (hwS d t x L).1 t).getD 0
theorem wd_lt (o : OkL d) {t x : Nat} (ht : t < 2 ^ d 0 0) (hx : x < 64) : wd d t x < 10 := by
  unfold wd
  cases e : BF d t x with
  | none => exact (by decide : 0 < 10)
  | some L =>
    dsimp only
    rcases hwS_ok o hx e with ⟨h1, h2, -⟩ | ⟨h1, -, -, h4, -⟩ | ⟨h1, -, -, h4, -⟩
    · rw [if_pos h1]; exact h2
    · rw [if_neg (by omega)]
      cases q : jw d (hwS d t x L).1 t with
      | none => decide
      | some i => exact (amin_some q).1
    · rw [if_neg (by omega)]
      cases q : jw d (hwS d t x L).1 t with
      | none => decide
      | some i => exact (amin_some q).1
/-- the set of WORDS that m0 leads to -/
def LdS (d : Dt) (t m0 b : Nat) : Prop := b < 1024 ∧ ∀ j, b.testBit j = true ↔ ∃ x, Rch d t m0 x ∧ wd d t x = j
theorem LdS.uniq {t m0 b b' : Nat} (h : LdS d t m0 b) (h' : LdS d t m0 b') : b = b' := by
  apply Nat.eq_of_testBit_eq
  intro j
  have h1 := h.2 j
  have h2 := h'.2 j
  cases c : b.testBit j with
  | true => rw [h2.mpr (h1.mp c)]
  | false =>
    cases c' : b'.testBit j with
    | false => rfl
    | true => rw [h1.mpr (h2.mp c')] at c; cases c
end Told
