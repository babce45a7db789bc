/-! BACK, the reference's three loops -/
section Back2
variable {d : Dt} {C : Ct} {w : Mm}
def b1 (o : Option Nat) : Int32 := oI (o.map (fun r => r / 10 % 10))
def b2 (o : Option Nat) : Int32 := oI (o.map (fun r => r % 10))
def b3 (o : Option Nat) : Int32 := oI (o.map (fun r => r / 100))
theorem pB_at (o : OkL d) {b x y : Nat} (hx : x < 10) (hy : y < 10) (hb : b < d 0 0) (hbu : (d 0 1).testBit b = false) : pB d (100 * b + 10 * x + y) = (decide (x < y) && (d 0 1).testBit x && (d 0 1).testBit y) := by
  obtain ⟨e1, e2, e3⟩ := dig (b := b) hx hy
  unfold pB
  rw [e1, e2, e3, zs_bit o, decide_eq_true hb, hbu]
  rfl
theorem tB_at (o : OkL d) {b x y : Nat} (hx : x < 10) (hy : y < 10) (hb : b < d 0 0) (hbu : (d 0 1).testBit b = false) (hux : (d 0 1).testBit x = true) (huy : (d 0 1).testBit y = true) : (nI (d 0 1) ||| ((1 : Int32) <<< (nI b &&& 31))) &&& ((((1 : Int32) <<< (nI x &&& 31)) ||| ((1 : Int32) <<< (nI y &&& 31))) ^^^ (-1 : Int32)) = nI (tB d (100 * b + 10 * x + y)) := by
  have o1 := o.1
  have p10 := pow10 o.1
  have hu := o.2.1
  obtain ⟨e1, e2, e3⟩ := dig (b := b) hx hy
  unfold tB
  rw [e1, e2, e3, sh1_N (by omega), sh1_N (by omega), sh1_N (by omega), show (-1 : Int32) = nI 4294967295 by decide, fa_or, fa_or, fb_xorI, fa_and]
  congr 1
  apply Nat.eq_of_testBit_eq
  intro j
  have hbx : b ≠ x := fun z => by rw [z, hux] at hbu; cases hbu
  have hby : b ≠ y := fun z => by rw [z, huy] at hbu; cases hbu
  have hw : wo (d 0 1) x < 2 ^ 32 := Nat.lt_of_le_of_lt wo_le (by omega)
  rw [Nat.testBit_and, Nat.testBit_or, Nat.testBit_xor, Nat.testBit_or, Nat.testBit_or, wo_bit hw, wo_bit (by omega), Nat.testBit_two_pow, Nat.testBit_two_pow, Nat.testBit_two_pow, show (4294967295 : Nat) = 2 ^ 32 - 1 by decide, Nat.testBit_two_pow_sub_one]
  by_cases hj : j < 32
  · rw [decide_eq_true hj]
    by_cases jb : b = j
    · subst jb
      rw [decide_eq_false (fun z : x = b => hbx z.symm), decide_eq_false (fun z : y = b => hby z.symm)]
      simp
    · by_cases jx : x = j
      · subst jx; simp [jb]
      · by_cases jy : y = j
        · subst jy; simp [jb]
        · simp [jb, jx, jy]
  · rw [decide_eq_false hj, tb_small (n := 32) (by omega) (by omega), decide_eq_false (show ¬ b = j by omega), decide_eq_false (show ¬ x = j by omega), decide_eq_false (show ¬ y = j by omega)]
    rfl
/-- the state of the three loops behind all rows below r -/
def BSt (d : Dt) (C : Ct) (r : Nat) (s : Int32 × Int32 × Int32 × Int64) : Prop := s.1 = b1 (aB d C r) ∧ s.2.1 = b2 (aB d C r) ∧ s.2.2.1 = b3 (aB d C r) ∧ s.2.2.2 = lm (vB d C) (aB d C r)
theorem aB_ext {r r' : Nat} (h : r ≤ r') (hp : ∀ i, r ≤ i → i < r' → pB d i = false) : aB d C r' = aB d C r := amin_ext h hp
theorem split_row {b x i : Nat} (h1 : 100 * b + 10 * x ≤ i) (h2 : i < 100 * b + 10 * x + 10) : ∃ y, y < 10 ∧ i = 100 * b + 10 * x + y := ⟨i - (100 * b + 10 * x), by omega, by omega⟩
theorem m_b99 (o : Ok d C) (h : MI d C w) (x1 : Int32) {b x : Nat} (hb : b < d 0 0) (hbu : (d 0 1).testBit b = false) (hx : x < d 0 0) {s : Int32 × Int32 × Int32 × Int64} (hs : BSt d C (100 * b + 10 * x) s) : Rt (wh (l_X12_back_99 x1 (nI b) (nI x)) FUEL (s.1, s.2.1, s.2.2.1, s.2.2.2, nI x + (1 : Int32), w)) (fun p => BSt d C (100 * b + 10 * (x + 1)) (p.1, p.2.1, p.2.2.1, p.2.2.2.1) ∧ ZQ d C w p.2.2.2.2) := by
  have p10 := pow10 o.1.1
  have o1 := o.1.1
  have hu := o.1.2.1
  have hA0 : aB d C (100 * b + 10 * x + (x + 1)) = aB d C (100 * b + 10 * x) := aB_ext (by omega) (fun i h1 h2 => by
    obtain ⟨y, hy, rfl⟩ := split_row (b := b) (x := x) h1 (by omega)
    rw [pB_at o.1 (by omega) hy hb hbu, decide_eq_false (by omega)]; rfl)
  by_cases hux : (d 0 1).testBit x = true
  · refine rt_for (fun k t => t.2.2.2.2.1 = nI (x + 1 + k) ∧ BSt d C (100 * b + 10 * x + (x + 1 + k)) (t.1, t.2.1, t.2.2.1, t.2.2.2.1) ∧ ZQ d C w t.2.2.2.2.2) (d 0 0 - (x + 1)) ?_ ?_ ⟨nI_1 x, by unfold BSt; rw [Nat.add_zero, hA0]; exact hs, ZQ.rf h⟩ (by omega)
    · rintro k ⟨s1, s2, s3, s4, c, w1⟩ hk ⟨h1, hS, hq⟩
      dsimp only at h1 hS hq
      subst h1
      have hy : x + 1 + k < d 0 0 := by omega
      obtain ⟨g1, g2, g3, g4⟩ := hS
      dsimp only at g1 g2 g3 g4
      subst g1 g2 g3 g4
      unfold l_X12_back_99
      dsimp only
      rw [rt_onL, hq.2.N, hq.2.U, if_neg (nI_ge hy (by omega)), has_N (by omega) (by omega), has_N (by omega) (by omega)]
      refine ⟨hq.2.1, ?_⟩
      simp only [bI_0]
      rw [if_neg (by rw [hux]; decide)]
      have hpa := pB_at o.1 (b := b) (x := x) (y := x + 1 + k) (by omega) (by omega) hb hbu
      rw [decide_eq_true (show x < x + 1 + k by omega), hux] at hpa
      by_cases huy : (d 0 1).testBit (x + 1 + k) = true
      · rw [huy] at hpa
        have hp : pB d (100 * b + 10 * x + (x + 1 + k)) = true := hpa
        rw [if_neg (by rw [huy]; decide), tB_at o.1 (by omega) (by omega) hb hbu hux huy]
        simp only [rt_bind]
        refine (m_talkOf o hq.2 (tB_lt o.1 hp)).mono ?_
        rintro ⟨v, w2⟩ ⟨e2, q2, m2, -⟩
        dsimp only at e2 q2 m2 ⊢
        subst e2
        obtain ⟨d1, d2, d3⟩ := dig (b := b) (x := x) (y := x + 1 + k) (by omega) (by omega)
        have v1 := vB_lt (C := C) o.2.1 (100 * b + 10 * x + (x + 1 + k))
        have hnew : aB d C (100 * b + 10 * x + (x + 1 + k) + 1) = some (100 * b + 10 * x + (x + 1 + k)) → BSt d C (100 * b + 10 * x + (x + 1 + (k + 1))) (nI x, nI (x + 1 + k), nI b, lN (vB d C (100 * b + 10 * x + (x + 1 + k)))) := fun e => by
          unfold BSt
          rw [show 100 * b + 10 * x + (x + 1 + (k + 1)) = 100 * b + 10 * x + (x + 1 + k) + 1 by omega, e]
          refine ⟨?_, ?_, ?_, rfl⟩
          · exact congrArg nI d2.symm
          · exact congrArg nI d3.symm
          · exact congrArg nI d1.symm
        cases e : aB d C (100 * b + 10 * x + (x + 1 + k)) with
        | none =>
          have hlt : lN (tkA d C (tB d (100 * b + 10 * x + (x + 1 + k)))) < lm (vB d C) none := by
            show lN (vB d C (100 * b + 10 * x + (x + 1 + k))) < (1000000000000000 : Int64)
            rw [fa_lt64, lN_toInt v1, show (1000000000000000 : Int64).toInt = 1000000000000000 by decide]
            omega
          rw [if_pos hlt, rt_some, rt_some, nx_l]
          exact ⟨nI_1 _, hnew (amin_0 hp e), hq.tr ⟨q2, m2⟩⟩
        | some r =>
          have v2 := vB_lt (C := C) o.2.1 r
          by_cases c : vB d C (100 * b + 10 * x + (x + 1 + k)) < vB d C r
          · have hlt : lN (tkA d C (tB d (100 * b + 10 * x + (x + 1 + k)))) < lm (vB d C) (some r) := (lN_lt v1 v2).mpr c
            rw [if_pos hlt, rt_some, rt_some, nx_l]
            exact ⟨nI_1 _, hnew (amin_l hp e (by omega)), hq.tr ⟨q2, m2⟩⟩
          · have hlt : ¬ lN (tkA d C (tB d (100 * b + 10 * x + (x + 1 + k)))) < lm (vB d C) (some r) := fun z => c ((lN_lt v1 v2).mp z)
            rw [if_neg hlt, rt_some, rt_some, nx_l]
            refine ⟨nI_1 _, ?_, hq.tr ⟨q2, m2⟩⟩
            unfold BSt
            rw [show 100 * b + 10 * x + (x + 1 + (k + 1)) = 100 * b + 10 * x + (x + 1 + k) + 1 by omega, show aB d C (100 * b + 10 * x + (x + 1 + k) + 1) = some r from amin_k e (by omega)]
            exact ⟨rfl, rfl, rfl, rfl⟩
      · rw [bool_f huy] at hpa
        rw [if_pos (bool_f huy), Option.bind_some, rt_some, nx_l]
        refine ⟨nI_1 _, ?_, hq⟩
        unfold BSt
        rw [show 100 * b + 10 * x + (x + 1 + (k + 1)) = 100 * b + 10 * x + (x + 1 + k) + 1 by omega, show aB d C (100 * b + 10 * x + (x + 1 + k) + 1) = aB d C (100 * b + 10 * x + (x + 1 + k)) from amin_n hpa]
        exact ⟨rfl, rfl, rfl, rfl⟩
    · rintro ⟨s1, s2, s3, s4, c, w1⟩ ⟨h1, hS, hq⟩
      dsimp only at h1 hS hq
      subst h1
      unfold l_X12_back_99
      dsimp only
      rw [rt_onL, hq.2.N, if_pos (nI_le (by omega) (by omega)), rt_some, nx_r]
      refine ⟨hq.2.1, ?_, hq⟩
      unfold BSt at hS ⊢
      rw [show aB d C (100 * b + 10 * (x + 1)) = aB d C (100 * b + 10 * x + (x + 1 + (d 0 0 - (x + 1)))) from aB_ext (by omega) (fun i h1 h2 => by
        obtain ⟨y, hy, rfl⟩ := split_row (b := b) (x := x) (i := i) (by omega) (by omega)
        rw [pB_at o.1 (by omega) hy hb hbu, tb_small (n := d 0 0) hu (j := y) (by omega)]; simp)]
      exact hS
  · have hux := bool_f hux
    refine rt_for (fun _ t => t = (s.1, s.2.1, s.2.2.1, s.2.2.2, nI x + (1 : Int32), w)) 0 (fun k _ hk => absurd hk (Nat.not_lt_zero k)) (fun t ht => ?_) rfl (by decide)
    subst ht
    have hA : aB d C (100 * b + 10 * (x + 1)) = aB d C (100 * b + 10 * x) := aB_ext (by omega) (fun i h1 h2 => by
      obtain ⟨y, hy, rfl⟩ := split_row (b := b) (x := x) h1 (by omega)
      rw [pB_at o.1 (by omega) hy hb hbu, hux]; simp)
    unfold l_X12_back_99
    dsimp only
    rw [rt_onL, h.N, h.U, has_N (by omega) (by omega), hux]
    refine ⟨h.1, ?_⟩
    have hS : BSt d C (100 * b + 10 * (x + 1)) (s.1, s.2.1, s.2.2.1, s.2.2.2) := by unfold BSt; rw [hA]; exact hs
    split
    · rw [rt_some, nx_r]; exact ⟨hS, ZQ.rf h⟩
    · rw [if_pos (by rfl), rt_some, nx_r]; exact ⟨hS, ZQ.rf h⟩
theorem m_b72 (o : Ok d C) (h : MI d C w) (x1 : Int32) {b : Nat} (hb : b < d 0 0) {s : Int32 × Int32 × Int32 × Int64} (hs : BSt d C (100 * b) s) : Rt (wh (l_X12_back_72 x1 (nI b)) FUEL (s.1, s.2.1, s.2.2.1, s.2.2.2, (0 : Int32), w)) (fun p => BSt d C (100 * (b + 1)) (p.1, p.2.1, p.2.2.1, p.2.2.2.1) ∧ ZQ d C w p.2.2.2.2) := by
  have p10 := pow10 o.1.1
  have o1 := o.1.1
  have hu := o.1.2.1
  by_cases hbu : (d 0 1).testBit b = true
  · refine rt_for (fun _ t => t = (s.1, s.2.1, s.2.2.1, s.2.2.2, (0 : Int32), w)) 0 (fun k _ hk => absurd hk (Nat.not_lt_zero k)) (fun t ht => ?_) rfl (by decide)
    subst ht
    have hA : aB d C (100 * (b + 1)) = aB d C (100 * b) := aB_ext (by omega) (fun i h1 h2 => by
      unfold pB
      rw [show i / 100 = b by omega, zs_bit o.1, hbu]; simp)
    have hS : BSt d C (100 * (b + 1)) (s.1, s.2.1, s.2.2.1, s.2.2.2) := by unfold BSt; rw [hA]; exact hs
    unfold l_X12_back_72
    dsimp only
    rw [rt_onL, h.N, h.U, has_N (by omega) (by omega), hbu, if_neg (show ¬ nI (d 0 0) ≤ 0 from nI_nle (by omega) (by omega)), if_neg (show ¬ bI true = 0 by decide), rt_some, nx_r]
    exact ⟨h.1, hS, ZQ.rf h⟩
  · have hbu := bool_f hbu
    refine rt_for (fun x t => t.2.2.2.2.1 = nI x ∧ BSt d C (100 * b + 10 * x) (t.1, t.2.1, t.2.2.1, t.2.2.2.1) ∧ ZQ d C w t.2.2.2.2.2) (d 0 0) ?_ ?_ ⟨rfl, hs, ZQ.rf h⟩ (by omega)
    · rintro x ⟨s1, s2, s3, s4, c, w1⟩ hx ⟨h1, hS, hq⟩
      dsimp only at h1 hS hq
      subst h1
      unfold l_X12_back_72
      dsimp only
      rw [rt_onL, hq.2.N, hq.2.U, if_neg (nI_ge hx (by omega)), has_N (by omega) (by omega), hbu, if_pos (show bI false = 0 by rfl), rt_bind]
      refine ⟨hq.2.1, (m_b99 o hq.2 x1 hb hbu hx hS).mono ?_⟩
      rintro p ⟨hS2, q2⟩
      rw [rt_some, nx_l]
      exact ⟨nI_1 x, hS2, hq.tr q2⟩
    · rintro ⟨s1, s2, s3, s4, c, w1⟩ ⟨h1, hS, hq⟩
      dsimp only at h1 hS hq
      subst h1
      unfold l_X12_back_72
      dsimp only
      rw [rt_onL, hq.2.N, if_pos (nI_le (Nat.le_refl _) (by omega)), rt_some, nx_r]
      refine ⟨hq.2.1, ?_, hq⟩
      unfold BSt at hS ⊢
      rw [show aB d C (100 * (b + 1)) = aB d C (100 * b + 10 * d 0 0) from aB_ext (by omega) (fun i h1 h2 => by
        unfold pB
        rw [tb_small (n := d 0 0) hu (j := i / 10 % 10) (by omega)]; simp)]
      exact hS
theorem m_b60 (o : Ok d C) (h : MI d C w) (x1 : Int32) : Rt (wh (l_X12_back_60 x1) FUEL ((-1 : Int32), (-1 : Int32), (-1 : Int32), (1000000000000000 : Int64), (0 : Int32), w)) (fun p => BSt d C 1000 (p.1, p.2.1, p.2.2.1, p.2.2.2.1) ∧ ZQ d C w p.2.2.2.2) := by
  have p10 := pow10 o.1.1
  have o1 := o.1.1
  refine rt_for (fun b t => t.2.2.2.2.1 = nI b ∧ BSt d C (100 * b) (t.1, t.2.1, t.2.2.1, t.2.2.2.1) ∧ ZQ d C w t.2.2.2.2.2) (d 0 0) ?_ ?_ ⟨rfl, ⟨rfl, rfl, rfl, rfl⟩, ZQ.rf h⟩ (by omega)
  · rintro b ⟨s1, s2, s3, s4, c, w1⟩ hb ⟨h1, hS, hq⟩
    dsimp only at h1 hS hq
    subst h1
    unfold l_X12_back_60
    dsimp only
    rw [rt_onL, hq.2.N, if_neg (nI_ge hb (by omega)), rt_bind]
    refine ⟨hq.2.1, (m_b72 o hq.2 x1 hb hS).mono ?_⟩
    rintro p ⟨hS2, q2⟩
    rw [rt_some, nx_l]
    exact ⟨nI_1 b, hS2, hq.tr q2⟩
  · rintro ⟨s1, s2, s3, s4, c, w1⟩ ⟨h1, hS, hq⟩
    dsimp only at h1 hS hq
    subst h1
    unfold l_X12_back_60
    dsimp only
    rw [rt_onL, hq.2.N, if_pos (nI_le (Nat.le_refl _) (by omega)), rt_some, nx_r]
    refine ⟨hq.2.1, ?_, hq⟩
    unfold BSt at hS ⊢
    rw [show aB d C 1000 = aB d C (100 * d 0 0) from aB_ext (by omega) (fun i h1 h2 => by
      unfold pB
      rw [zs_bit o.1, decide_eq_false (show ¬ i / 100 < d 0 0 by omega)]; rfl)]
    exact hS
theorem aB_some (o : Ok d C) (h1 : d 0 1 ≠ 2 ^ d 0 0 - 1) (h2 : 2 ≤ pc (d 0 1)) : ∃ r, r < 1000 ∧ aB d C 1000 = some r := by
  have p10 := pow10 o.1.1
  have o1 := o.1.1
  have hu := o.1.2.1
  cases e : aB d C 1000 with
  | some r => exact ⟨r, (amin_some e).1, rfl⟩
  | none =>
    exfalso
    have hn := amin_none.mp e
    have hb : ∃ b, b < d 0 0 ∧ (d 0 1).testBit b = false := by
      by_cases q : ∃ b, b < d 0 0 ∧ (d 0 1).testBit b = false
      · exact q
      · refine absurd (Nat.eq_of_testBit_eq (fun i => ?_)) h1
        rw [all_bit]
        by_cases hi : i < d 0 0
        · rw [decide_eq_true hi]
          cases z : (d 0 1).testBit i with
          | true => rfl
          | false => exact absurd ⟨i, hi, z⟩ q
        · rw [decide_eq_false hi, tb_small hu (by omega)]
    obtain ⟨b, hb1, hb2⟩ := hb
    obtain ⟨i, hi, hui⟩ := fb_ct_pos.mp (show 0 < fb_ct (d 0 1).testBit 10 from Nat.lt_of_lt_of_le (by decide) h2)
    have hpc := pc_wo (t := d 0 1) (by omega) hui
    obtain ⟨j, hj, huj⟩ := fb_ct_pos.mp (show 0 < fb_ct (wo (d 0 1) i).testBit 10 from (show 0 < pc (wo (d 0 1) i) by omega))
    rw [wo_bit (by omega)] at huj
    simp at huj
    have key : ∀ x y, x < 10 → y < 10 → x < y → (d 0 1).testBit x = true → (d 0 1).testBit y = true → False := fun x y hx hy hxy hux huy => by
      have := hn (100 * b + 10 * x + y) (by omega)
      rw [pB_at o.1 hx hy hb1 hb2, decide_eq_true hxy, hux, huy] at this
      cases this
    rcases Nat.lt_trichotomy i j with q | q | q
    · exact key i j hi hj q hui huj.1
    · exact huj.2 q
    · exact key j i hj hi q huj.1 hui
theorem ag_back (o : Ok d C) (hst : d 0 7 < 2 ^ 31) (x1 : Int32) : Agree d C (f_X11_back x1) (f_X12_back x1) := by
  have p10 := pow10 o.1.1
  have o1 := o.1.1
  have hu := o.1.2.1
  have al := all_lt o.1
  have pl := pc_le (d 0 1)
  have l1 : f_X12_lies x1.toInt64 (0 : Int64) (3 : Int64) = f_X11_within x1 0 3 := lies_lit x1 0 3 (by decide) (by decide)
  have mall : ∀ w, MI d C w → ((1 : Int32) <<< ((gI w 47 2) &&& 31)) - (1 : Int32) = nI (2 ^ d 0 0 - 1) := fun w h => by
    rw [h.N, sh1_N (by omega), show (1 : Int32) = nI 1 from rfl, pk_sub Nat.one_le_two_pow]
  by_cases c1 : f_X11_within x1 0 3 = 0
  · refine ⟨-1, fun w h => ?_, fun w h => ?_⟩
    · unfold f_X11_back
      rw [if_pos c1, rt_some]; exact ⟨rfl, KW.rf h⟩
    · unfold f_X12_back
      rw [l1, if_pos c1, rt_some]; exact ⟨rfl, ZW.rf h⟩
  by_cases c2 : d 0 1 = 2 ^ d 0 0 - 1
  · refine ⟨-1, fun w h => ?_, fun w h => ?_⟩
    · unfold f_X11_back
      rw [if_neg c1, x3_all o.1 h.2.1, Option.bind_some, h.U, if_pos (by rw [← c2]), rt_some]; exact ⟨rfl, KW.rf h⟩
    · unfold f_X12_back
      rw [l1, if_neg c1, mall w h, h.U, if_pos (by rw [← c2]), rt_some]; exact ⟨rfl, ZW.rf h⟩
  have c2' : ¬ nI (d 0 1) = nI (2 ^ d 0 0 - 1) := fun z => c2 ((nI_eq (by omega) (by omega)).mp z)
  by_cases c3 : 2 ≤ pc (d 0 1)
  · obtain ⟨r, hr, er⟩ := aB_some o c2 c3
    refine ⟨if x1 = 0 then (nI (r / 100)).toInt64 else if x1 = 1 then (nI (r / 10 % 10)).toInt64 else if x1 = 2 then (nI (r % 10)).toInt64 else lN (vB d C r), fun w h => ?_, fun w h => ?_⟩
    · unfold f_X11_back
      rw [if_neg c1, x3_all o.1 h.2.1, Option.bind_some, h.U, if_neg c2', bitCount_N _ (by omega), if_pos (show (2 : Int32) ≤ nI (pc (d 0 1)) from nI_le (a := 2) c3 (by omega)), rt_bind]
      unfold f_X10_exchange
      rw [x3_all o.1 h.2.1, Option.bind_some, h.U, show (-1 : Int32) = nI 4294967295 by decide, fb_xorI, fa_and, rt_bind]
      refine (x10_exchange o hst h x1).mono ?_
      rintro ⟨v, l, w1⟩ ⟨e1, e2, q⟩
      dsimp only at e1 e2 q ⊢
      rw [er] at e1 e2
      subst e1 e2
      rw [show oI (some r) = nI r from rfl, show (100 : Int32) = nI 100 from rfl, show (10 : Int32) = nI 10 from rfl, pk_rem (a := r) (d := 10) (by omega) (by decide) (by decide), pk_div (a := r) (d := 10) (by omega) (by decide) (by decide), pk_div (a := r) (d := 100) (by omega) (by decide) (by decide), pk_rem (a := r / 10) (d := 10) (by omega) (by decide) (by decide)]
      by_cases z0 : x1 = 0
      · rw [if_pos z0, if_pos z0, rt_some, rt_some]; exact ⟨rfl, q.w⟩
      · rw [if_neg z0, if_neg z0]
        by_cases z1 : x1 = 1
        · rw [if_pos z1, if_pos z1, rt_some, rt_some]; exact ⟨rfl, q.w⟩
        · rw [if_neg z1, if_neg z1]
          by_cases z2 : x1 = 2
          · rw [if_pos z2, if_pos z2, rt_some, rt_some]; exact ⟨rfl, q.w⟩
          · rw [if_neg z2, if_neg z2, rt_some, rt_some]; exact ⟨rfl, q.w⟩
    · unfold f_X12_back
      rw [l1, if_neg c1, mall w h, h.U, if_neg c2', m_sizeOf (by omega), Option.bind_some, if_pos (show (2 : Int32) ≤ nI (pc (d 0 1)) from nI_le (a := 2) c3 (by omega)), rt_bind]
      refine (m_b60 o h x1).mono ?_
      rintro ⟨s1, s2, s3, s4, w1⟩ ⟨⟨g1, g2, g3, g4⟩, q⟩
      dsimp only at g1 g2 g3 g4 q ⊢
      rw [er] at g1 g2 g3 g4
      subst g1 g2 g3 g4
      by_cases z0 : x1 = 0
      · rw [if_pos z0, if_pos z0, rt_some]; exact ⟨rfl, q.w⟩
      · rw [if_neg z0, if_neg z0]
        by_cases z1 : x1 = 1
        · rw [if_pos z1, if_pos z1, rt_some]; exact ⟨rfl, q.w⟩
        · rw [if_neg z1, if_neg z1]
          by_cases z2 : x1 = 2
          · rw [if_pos z2, if_pos z2, rt_some]; exact ⟨rfl, q.w⟩
          · rw [if_neg z2, if_neg z2, rt_some]; exact ⟨rfl, q.w⟩
  · refine ⟨-1, fun w h => ?_, fun w h => ?_⟩
    · unfold f_X11_back
      rw [if_neg c1, x3_all o.1 h.2.1, Option.bind_some, h.U, if_neg c2', bitCount_N _ (by omega), if_neg (show ¬ (2 : Int32) ≤ nI (pc (d 0 1)) from nI_ge (b := 2) (by omega) (by decide)), rt_some]; exact ⟨rfl, KW.rf h⟩
    · unfold f_X12_back
      rw [l1, if_neg c1, mall w h, h.U, if_neg c2', m_sizeOf (by omega), Option.bind_some, if_neg (show ¬ (2 : Int32) ≤ nI (pc (d 0 1)) from nI_ge (b := 2) (by omega) (by decide)), rt_some]; exact ⟨rfl, ZW.rf h⟩
end Back2
