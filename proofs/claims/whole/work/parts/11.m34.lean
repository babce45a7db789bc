/-! leads -/
section Leads
variable {d : Dt} {C : Ct} {w : Mm} {t m0 : Nat}
theorem btL_and (x y : Int64) (j : Nat) : btL (x &&& y) j = (btL x j && btL y j) := by unfold btL; rw [Int64.toBitVec_and, BitVec.getLsbD_and]
theorem btL_or (x y : Int64) (j : Nat) : btL (x ||| y) j = (btL x j || btL y j) := by unfold btL; rw [Int64.toBitVec_or, BitVec.getLsbD_or]
theorem btL_not {x : Int64} {j : Nat} (hj : j < 64) : btL (x ^^^ (-1 : Int64)) j = !btL x j := by
  unfold btL
  rw [Int64.toBitVec_xor, BitVec.getLsbD_xor, show (-1 : Int64).toBitVec = BitVec.allOnes 64 by decide, BitVec.getLsbD_allOnes, decide_eq_true hj]
  simp
theorem btL_ext {x y : Int64} (h : ∀ j, j < 64 → btL x j = btL y j) : x = y := Int64.toBitVec_inj.mp (BitVec.eq_of_getLsbD_eq (fun i hi => h i hi))
theorem bL_one {m j : Nat} (hm : m < 64) : btL ((1 : Int64) <<< ((nI m).toInt64 &&& 63)) j = decide (m = j) := by
  have := bL_set (x := 0) (j := j) hm
  rw [bL_z, Bool.false_or] at this
  rw [← this]
  congr 1
  exact (btL_ext (fun i _ => by rw [btL_or, bL_z, Bool.false_or])).symm
theorem x2_lowestOf {x : Int64} (h : ∃ j, j < 64 ∧ btL x j = true) : Rt (f_X2_lowestOf x) (fun p => ∃ m, m < 64 ∧ p = nI m ∧ btL x m = true) := by
  unfold f_X2_lowestOf
  rw [rt_bind]
  obtain ⟨j0, hj0, hb0⟩ := h
  obtain ⟨m, hm1, hm2⟩ := least_ex (P := fun j => btL x j = true) j0 hb0
  have hm64 : m < 64 := by have := hm2 j0 hb0; omega
  refine Rt.mono (rt_for (Q := fun p => p = (1, nI m)) (fun i s => s = nI i) m ?_ ?_ rfl (by omega)) ?_
  · rintro i s hi rfl
    unfold l_X2_lowestOf_2
    rw [if_neg (show ¬ (64 : Int32) ≤ nI i from nI_ge (b := 64) (by omega) (by decide)), if_neg (fun z => by have := hm2 i ((bL_1 (by omega)).mp z); omega), rt_some, nx_l]
    exact nI_1 i
  · rintro s rfl
    unfold l_X2_lowestOf_2
    rw [if_neg (show ¬ (64 : Int32) ≤ nI m from nI_ge (b := 64) (by omega) (by decide)), if_pos ((bL_1 hm64).mpr hm1), rt_some, nx_r]
  · rintro p rfl
    rw [if_neg (show ¬ 1 = 0 by decide), rt_some]
    exact ⟨m, hm64, rfl, hm1⟩
theorem dep_k {x L : Nat} (e : BF d t x = some L) (z : Nat) : Dep d t x z ↔ (((hwS d t x L).1 = 1 ∧ z = (hwS d t x L).2.1) ∨ (2 ≤ (hwS d t x L).1 ∧ (z = (hwS d t x L).2.1 ∨ z = (hwS d t x L).2.2))) := by
  unfold Dep
  constructor
  · rintro ⟨L', e', h⟩
    rw [e] at e'
    cases e'
    exact h
  · intro h
    exact ⟨L, e, h⟩
theorem wd_k {x L : Nat} (e : BF d t x = some L) : wd d t x = if (hwS d t x L).1 = 0 then (hwS d t x L).2.1 else (jw d (hwS d t x L).1 t).getD 0 := by unfold wd; rw [e]
theorem x2_loop (o : Ok d C) (h : KI d C w) (ht : t < 2 ^ d 0 0) {a : Nat} (hs : SpOk d C (BF d t) t a w) (hm : m0 < 64) (he : ∃ L, BF d t m0 = some L) : Rt (wh (l_X2_entry_61 (nI t) a w) FUEL ((1 : Int64) <<< ((nI m0).toInt64 &&& 63), (0 : Int64), (0 : Int32), (0 : Int32))) (fun p => ∃ b, p = nI b ∧ LdS d t m0 b) := by
  have p10 := pow10 o.1.1
  refine rt_for (fun k s => s.2.2.2 = nI k ∧ ∃ b, s.2.2.1 = nI b ∧ b < 1024 ∧ (∀ j, j < 64 → btL s.2.1 j = true → btL s.1 j = true) ∧ (∀ j, j < 64 → btL s.1 j = true → Rch d t m0 j) ∧ btL s.1 m0 = true ∧ (∀ y z, y < 64 → btL s.2.1 y = true → Dep d t y z → btL s.1 z = true) ∧ (∀ j, b.testBit j = true ↔ ∃ x, x < 64 ∧ btL s.2.1 x = true ∧ wd d t x = j) ∧ fb_ct (btL s.2.1) 64 = k) 64 ?_ ?_ ?_ (by decide)
  · rintro k ⟨T, S, bb, c⟩ hk ⟨h1, b, h2, hb, hST, hTR, hT0, hcl, hbits, hct⟩
    dsimp only at h1 h2 hST hTR hT0 hcl hbits hct
    subst h1 h2
    unfold l_X2_entry_61
    dsimp only
    rw [if_neg (show ¬ (64 : Int32) ≤ nI k from nI_ge (b := 64) hk (by decide))]
    by_cases ceq : T = S
    · rw [if_pos ceq, rt_some, nx_r]
      subst ceq
      refine ⟨b, rfl, hb, fun j => ?_⟩
      rw [hbits j]
      constructor
      · rintro ⟨x, hx, z1, z2⟩
        exact ⟨x, hTR x hx z1, z2⟩
      · rintro ⟨x, hx, z⟩
        have := hx (fun x => x < 64 ∧ btL T x = true) ⟨hm, hT0⟩ (fun y z hy hd => ⟨(Dep_ok o.1 hy.1 hd).1, hcl y z hy.1 hy.2 hd⟩)
        exact ⟨x, this.1, this.2, z⟩
    · rw [if_neg ceq, rt_bind]
      have hex : ∃ j, j < 64 ∧ btL (T &&& (S ^^^ (-1 : Int64))) j = true := by
        by_cases q : ∃ j, j < 64 ∧ btL (T &&& (S ^^^ (-1 : Int64))) j = true
        · exact q
        · refine absurd (btL_ext (fun j hj => ?_)) ceq
          cases c1 : btL S j with
          | true => rw [hST j hj c1]
          | false =>
            cases c2 : btL T j with
            | false => rfl
            | true => exact absurd ⟨j, hj, by rw [btL_and, btL_not hj, c1, c2]; rfl⟩ q
      refine (x2_lowestOf hex).mono ?_
      rintro p ⟨x, hx, rfl, hbx⟩
      rw [btL_and, btL_not hx] at hbx
      simp at hbx
      obtain ⟨hTx, hSx⟩ := hbx
      have hrx := hTR x hx hTx
      obtain ⟨-, L, e⟩ := hrx.ok o.1 hm he
      have hok := hwS_ok o.1 hx e
      have hk4 : (hwS d t x L).1 < 4 := by rcases hok with z | z | z <;> omega
      have ha : (hwS d t x L).2.1 < 64 := by rcases hok with z | z | z <;> omega
      have hb2 : (hwS d t x L).2.2 < 64 := by rcases hok with z | z | z <;> omega
      obtain ⟨k1, k2, k3⟩ := pack_k hk4 ha hb2
      have hwl := wd_lt o.1 ht hx
      have hwd := wd_k e
      rw [x7_manner o.1 h.2.1 ht hs hx e, Option.bind_some, k1, k2, k3]
      -- what the step makes of it
      have hfin : ∀ T', (∀ j, j < 64 → btL T j = true → btL T' j = true) → (∀ j, j < 64 → btL T' j = true → btL T j = true ∨ Dep d t x j) → (∀ z, Dep d t x z → btL T' z = true) → Nx (fun s : Int64 × Int64 × Int32 × Int32 => s.2.2.2 = nI (k + 1) ∧ ∃ b, s.2.2.1 = nI b ∧ b < 1024 ∧ (∀ j, j < 64 → btL s.2.1 j = true → btL s.1 j = true) ∧ (∀ j, j < 64 → btL s.1 j = true → Rch d t m0 j) ∧ btL s.1 m0 = true ∧ (∀ y z, y < 64 → btL s.2.1 y = true → Dep d t y z → btL s.1 z = true) ∧ (∀ j, b.testBit j = true ↔ ∃ x, x < 64 ∧ btL s.2.1 x = true ∧ wd d t x = j) ∧ fb_ct (btL s.2.1) 64 = k + 1) (fun p => ∃ b, p = nI b ∧ LdS d t m0 b) (.inl (T', S ||| ((1 : Int64) <<< ((nI x).toInt64 &&& 63)), nI (b ||| 2 ^ wd d t x), nI k + (1 : Int32))) := fun T' t1 t2 t3 => by
        rw [nx_l]
        refine ⟨nI_1 k, b ||| 2 ^ wd d t x, rfl, Nat.or_lt_two_pow (n := 10) hb (Nat.pow_lt_pow_right (by decide) hwl), fun j hj z => ?_, fun j hj z => ?_, t1 m0 hm hT0, fun y z hy hz hd => ?_, fun j => ?_, ?_⟩
        · dsimp only at z ⊢
          rw [bL_set hx] at z
          rcases Bool.or_eq_true .. ▸ z with z | z
          · exact t1 j hj (hST j hj z)
          · rw [← of_decide_eq_true z]; exact t1 x hx hTx
        · rcases t2 j hj z with z | z
          · exact hTR j hj z
          · exact hrx.nx z
        · dsimp only at hz ⊢
          rw [bL_set hx] at hz
          rcases Bool.or_eq_true .. ▸ hz with hz | hz
          · exact t1 z (Dep_ok o.1 hy hd).1 (hcl y z hy hz hd)
          · rw [← of_decide_eq_true hz] at hd; exact t3 z hd
        · dsimp only
          rw [fb_bit_set]
          constructor
          · intro z
            rcases Bool.or_eq_true .. ▸ z with z | z
            · obtain ⟨y, y1, y2, y3⟩ := (hbits j).mp z
              exact ⟨y, y1, by rw [bL_set hx, y2]; rfl, y3⟩
            · exact ⟨x, hx, by rw [bL_set hx, decide_eq_true rfl]; simp, (of_decide_eq_true z).symm⟩
          · rintro ⟨y, y1, y2, y3⟩
            rw [bL_set hx] at y2
            rcases Bool.or_eq_true .. ▸ y2 with y2 | y2
            · rw [(hbits j).mpr ⟨y, y1, y2, y3⟩]; rfl
            · have hxy := of_decide_eq_true y2
              subst hxy
              rw [decide_eq_true y3.symm]; simp
        · dsimp only
          have hu := fb_ct_upd (btL S) true hx
          rw [fb_ct_cong (q := fun k => if k = x then true else btL S k) (fun k hk => by
            rw [bL_set hx]
            by_cases q : k = x
            · subst q; simp
            · rw [if_neg q, decide_eq_false (fun z => q z.symm), Bool.or_false])]
          rw [hSx, hct] at hu
          simpa using hu
      rcases hok with ⟨z1, z2, -, -⟩ | ⟨z1, -, -, z4, -⟩ | ⟨z1, -, -, z4, -⟩
      · rw [z1, if_pos (by rfl), Option.bind_some, rt_some, sh1_N (by omega), fa_or]
        rw [if_pos z1] at hwd
        rw [← hwd]
        refine hfin T (fun j _ z => z) (fun j _ z => Or.inl z) (fun z hz => ?_)
        rcases (dep_k e z).mp hz with q | q <;> omega
      · obtain ⟨i, hi⟩ := (jl_pos o.1 (k := 1) ht).mp z4
        rw [if_neg (by omega), z1, hi] at hwd
        have hi10 := (amin_some hi).1
        rw [z1, if_neg (by decide), x3_shortestOf o.1 h.2.1 (by omega) (by omega), Option.bind_some, hi, if_pos (show nI 1 = (1 : Int32) from rfl), Option.bind_some, Option.bind_some, rt_some, show oI (some i) = nI i from rfl, sh1_N (by omega), fa_or]
        rw [show i = wd d t x from hwd.symm]
        refine hfin _ (fun j _ z => by rw [btL_or, bL_set ha, z]; rfl) (fun j _ z => ?_) (fun z hz => ?_)
        · rw [btL_or, bL_set ha, bL_z, Bool.or_false] at z
          rcases Bool.or_eq_true .. ▸ z with z | z
          · exact Or.inl z
          · exact Or.inr ((dep_k e j).mpr (Or.inl ⟨z1, (of_decide_eq_true z).symm⟩))
        · rw [btL_or, bL_set ha]
          rcases (dep_k e z).mp hz with ⟨-, q⟩ | ⟨q, -⟩
          · rw [decide_eq_true q.symm]; simp
          · omega
      · obtain ⟨i, hi⟩ := (jl_pos o.1 (k := (hwS d t x L).1) ht).mp z4
        rw [if_neg (by omega), hi] at hwd
        have hi10 := (amin_some hi).1
        rw [if_neg (nI_ne0 (by omega) (by omega)), x3_shortestOf o.1 h.2.1 (by omega) (by omega), Option.bind_some, hi, if_neg (show ¬ nI (hwS d t x L).1 = (1 : Int32) from fun z => by have := (nI_eq (b := 1) (by omega) (by decide)).mp z; omega), Option.bind_some, Option.bind_some, rt_some, show oI (some i) = nI i from rfl, sh1_N (by omega), fa_or]
        rw [show i = wd d t x from hwd.symm]
        refine hfin _ (fun j _ z => by rw [bL_set hb2, bL_set ha, z]; rfl) (fun j _ z => ?_) (fun z hz => ?_)
        · rw [bL_set hb2, bL_set ha] at z
          rcases Bool.or_eq_true .. ▸ z with z | z
          · rcases Bool.or_eq_true .. ▸ z with z | z
            · exact Or.inl z
            · exact Or.inr ((dep_k e j).mpr (Or.inr ⟨by omega, Or.inl (of_decide_eq_true z).symm⟩))
          · exact Or.inr ((dep_k e j).mpr (Or.inr ⟨by omega, Or.inr (of_decide_eq_true z).symm⟩))
        · rw [bL_set hb2, bL_set ha]
          rcases (dep_k e z).mp hz with ⟨q, -⟩ | ⟨-, q | q⟩
          · omega
          · rw [decide_eq_true q.symm]; simp
          · rw [decide_eq_true q.symm]; simp
  · rintro ⟨T, S, bb, c⟩ ⟨h1, b, h2, hb, hST, hTR, hT0, hcl, hbits, hct⟩
    dsimp only at h1 h2 hST hTR hT0 hcl hbits hct
    subst h1 h2
    unfold l_X2_entry_61
    dsimp only
    rw [if_pos (show (64 : Int32) ≤ nI 64 by decide), rt_some, nx_r]
    have hall := fb_ct_all.mp hct
    refine ⟨b, rfl, hb, fun j => ?_⟩
    rw [hbits j]
    constructor
    · rintro ⟨x, hx, z1, z2⟩
      exact ⟨x, hTR x hx (hST x hx z1), z2⟩
    · rintro ⟨x, hx, z⟩
      have := (hx.ok o.1 hm he).1
      exact ⟨x, this, hall x this, z⟩
  · refine ⟨rfl, 0, rfl, by decide, fun j _ z => ?_, fun j hj z => ?_, ?_, fun y z _ hz => ?_, fun j => ?_, fb_ct_zero.mpr (fun k _ => bL_z k)⟩
    · rw [bL_z] at z; cases z
    · rw [bL_one hm] at z
      rw [← of_decide_eq_true z]
      exact Rch.st _ _
    · rw [bL_one hm]; exact decide_eq_true rfl
    · rw [bL_z] at hz; cases hz
    · rw [Nat.zero_testBit]
      constructor
      · intro z; cases z
      · rintro ⟨x, _, z, _⟩
        rw [bL_z] at z; cases z
/-- to which WORDS a WORD leads, as a set; 0: it can't be TOLD -/
def Lead (d : Dt) (i b : Nat) : Prop := (BF d (wo (d 0 1) i) (d 2 i) = none ∧ b = 0) ∨ ((∃ L, BF d (wo (d 0 1) i) (d 2 i) = some L) ∧ LdS d (wo (d 0 1) i) (d 2 i) b)
theorem Lead.uniq {i b b' : Nat} (h : Lead d i b) (h' : Lead d i b') : b = b' := by
  rcases h with ⟨e, rfl⟩ | ⟨⟨L, e⟩, h⟩
  · rcases h' with ⟨-, rfl⟩ | ⟨⟨L, e'⟩, -⟩
    · rfl
    · rw [e] at e'; cases e'
  · rcases h' with ⟨e', -⟩ | ⟨-, h'⟩
    · rw [e] at e'; cases e'
    · exact h.uniq h'
theorem Lead.lt {i b : Nat} (h : Lead d i b) : b < 1024 := by
  rcases h with ⟨-, rfl⟩ | ⟨-, h⟩
  · decide
  · exact h.1
theorem x2_entry (o : Ok d C) (h : KI d C w) {i : Nat} (hi : i < 10) (hin : i < d 0 0) : Rt (f_X2_entry (nI i) w) (fun p => KQ d C w p.2 ∧ ∃ b, p.1 = nI b ∧ Lead d i b) := by
  have hu := o.1.2.1
  have hm := (o.1.2.2.1 i hi).2.1
  unfold f_X2_entry
  rw [h.U, without_N (by omega), rt_bind]
  refine (x_sp o h (wo_lt hu)).mono ?_
  rintro ⟨a, w1⟩ ⟨q1, hA, hs, hL, -⟩
  dsimp only at q1 hA hs hL ⊢
  rw [rt_onL, x3_meaningOf o.1 q1.1.2.1 (by omega), Option.bind_some, if_pos hs.1, if_pos hin, shortest_N (fun j b e => BF_le o.1 e) hs hm, Option.bind_some]
  refine ⟨hL, ?_⟩
  cases e : BF d (wo (d 0 1) i) (d 2 i) with
  | none =>
    rw [if_pos (by rfl), rt_some]
    exact ⟨q1, 0, rfl, Or.inl ⟨e, rfl⟩⟩
  | some L =>
    have hl := BF_le o.1 e
    rw [if_neg (show ¬ e2 (some L) = -2 from nm2 (by omega)), Option.bind_some, rt_bind]
    refine (x2_loop o q1.1 (wo_lt hu) hs hm ⟨L, e⟩).mono ?_
    rintro p ⟨b, rfl, hb⟩
    rw [rt_some]
    exact ⟨q1, b, rfl, Or.inr ⟨⟨L, e⟩, hb⟩⟩
end Leads
