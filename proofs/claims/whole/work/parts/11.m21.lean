/-! THE ORDER -/
noncomputable def RR (d : Dt) (C : Ct) : Nat → Nat → Nat
  | 0, _ => 0
  | k + 1, t => match amin t.testBit (fun i => ((tkA d C (wo t i) + RR d C k (wo t i) : Nat) : Int)) 10 with
    | none => 0
    | some i => tkA d C (wo t i) + RR d C k (wo t i)
/-- the WORD that is STRUCK next, k more behind it -/
noncomputable def bnx (d : Dt) (C : Ct) (k t : Nat) : Option Nat := amin t.testBit (fun i => ((tkA d C (wo t i) + RR d C k (wo t i) : Nat) : Int)) 10
section Ord
variable {d : Dt} {C : Ct}
theorem RR_s {k t i : Nat} (h : bnx d C k t = some i) : RR d C (k + 1) t = tkA d C (wo t i) + RR d C k (wo t i) := by
  unfold bnx at h
  rw [RR, h]
theorem RR_le (o : OkM d) : ∀ k t, RR d C k t ≤ k * 120000000
  | 0, _ => Nat.zero_le _
  | k + 1, t => by
    rw [RR]
    split
    · exact Nat.zero_le _
    · have := RR_le o k (wo t ‹Nat›)
      have := tkA_le o (C := C) (t := wo t ‹Nat›)
      omega
theorem bnx_some {k t : Nat} (ht : t < 1024) (h0 : t ≠ 0) : ∃ i, bnx d C k t = some i ∧ i < 10 ∧ t.testBit i = true := by
  cases e : bnx d C k t with
  | some i => exact ⟨i, rfl, (amin_some e).1, (amin_some e).2.1⟩
  | none => exact absurd (pc_0 ht (fb_ct_zero.mpr (amin_none.mp e))) h0
theorem sub_bit {t u : Nat} (h : t &&& u = t) {i : Nat} (hi : t.testBit i = true) : u.testBit i = true := by
  have : (t &&& u).testBit i = true := by rw [h]; exact hi
  rw [Nat.testBit_and] at this
  simp at this
  exact this.2
theorem sub_of {t u : Nat} (h : ∀ i, t.testBit i = true → u.testBit i = true) : t &&& u = t := by
  apply Nat.eq_of_testBit_eq
  intro i
  rw [Nat.testBit_and]
  cases e : t.testBit i with
  | false => rfl
  | true => rw [h i e]; rfl
theorem wo_sub {t u i : Nat} (ht : t < 2 ^ 32) (h : t &&& u = t) : wo t i &&& u = wo t i := sub_of (fun j hj => by
  rw [wo_bit ht] at hj
  simp at hj
  exact sub_bit h hj.1)
theorem wo_ltt {t i : Nat} (ht : t < 2 ^ 32) (hb : t.testBit i = true) : wo t i < t := by
  have h1 : wo t i ≤ t := wo_le
  have h2 : wo t i ≠ t := fun e => by
    have : (wo t i).testBit i = true := by rw [e]; exact hb
    rw [wo_bit ht] at this
    simp at this
  omega
theorem sub_le {t u : Nat} (h : t &&& u = t) : t ≤ u := by rw [← h]; exact Nat.and_le_right
theorem sub_N {t u : Nat} (ht : t < 2 ^ 31) : nI t &&& (nI u ^^^ (-1 : Int32)) = 0 ↔ t &&& u = t := by
  rw [show (-1 : Int32) = nI 4294967295 by decide, fb_xorI, fa_and, show (0 : Int32) = nI 0 from rfl, nI_eq (Nat.lt_of_le_of_lt Nat.and_le_left ht) (by decide)]
  constructor
  · intro h
    refine sub_of (fun i hi => ?_)
    have hz : (t &&& (u ^^^ 4294967295)).testBit i = false := by rw [h]; exact Nat.zero_testBit i
    have hi32 : i < 32 := tb_lt (n := 32) (by omega) hi
    rw [Nat.testBit_and, Nat.testBit_xor, hi, show (4294967295 : Nat) = 2 ^ 32 - 1 by decide, Nat.testBit_two_pow_sub_one, decide_eq_true hi32] at hz
    simpa using hz
  · intro h
    apply Nat.eq_of_testBit_eq
    intro i
    rw [Nat.zero_testBit, Nat.testBit_and, Nat.testBit_xor, show (4294967295 : Nat) = 2 ^ 32 - 1 by decide, Nat.testBit_two_pow_sub_one]
    cases e : t.testBit i with
    | false => rfl
    | true =>
      rw [sub_bit h e, decide_eq_true (tb_lt (n := 32) (by omega) e)]
      rfl
theorem and_N {t u : Nat} (ht : t < 2 ^ 31) : nI t &&& nI u = nI t ↔ t &&& u = t := by
  rw [fa_and, nI_eq (Nat.lt_of_le_of_lt Nat.and_le_left ht) ht]
/-- what the class keeps for the plan: the tongues below K -/
def PL (d : Dt) (C : Ct) (L K : Nat) (w : Mm) : Prop := ∀ t, t < K → t &&& d 0 1 = t → L ≤ pc t → ∃ a, gR w 15 t = some a ∧ gL w a 9 = lN ((if t = d 0 1 then 0 else tkA d C t) + RR d C (pc t - L) t)
theorem PL.tq {L K : Nat} {w w' : Mm} (o : Ok d C) (h : PL d C L K w) (q : tq w w') : PL d C L K w' := fun t h1 h2 h3 => by
  have p10 := pow10 o.1.1
  have := o.1.2.1
  obtain ⟨a, e1, e2⟩ := h t h1 h2 h3
  have := q t a (by have := sub_le h2; omega) e1
  exact ⟨a, this.1, by rw [this.2]; exact e2⟩
theorem PL.mono {L K K' : Nat} {w : Mm} (h : PL d C L K w) (hk : K' ≤ K) : PL d C L K' w := fun t h1 => h t (by omega)
theorem KI.sL9 {w : Mm} (h : KI d C w) (a : Nat) (v : Int64) : KI d C (sL w a 9 v) := by
  obtain ⟨hL, hx, hd, hn, ⟨own, hO, hO2, hO3⟩, hR⟩ := h
  refine ⟨hL, hx, hd, hn, ⟨own, fun k b hk hb => ?_, hO2, hO3⟩, hR⟩
  obtain ⟨q0, q1, q2, q3, q4, q5⟩ := hO k b hk hb
  exact ⟨q0, q1, q2, q3, q4, q5.st (fun _ => rfl) (fun _ => rfl) (by rw [gL_sL, if_neg (by omega)]) (fun _ => rfl) (fun _ _ => rfl) (fun _ _ _ => rfl)⟩
theorem cs.sL9 {w : Mm} {a : Nat} (ha : 87 ≤ a) (v : Int64) : cs w (sL w a 9 v) := fun c k h1 _ _ _ => ⟨rfl, by rw [gL_sL, if_neg (by omega)]⟩
theorem KI.uniq {w : Mm} (h : KI d C w) {k k' a : Nat} (h1 : k < 1024) (h2 : k' < 1024) (e : gR w 15 k = some a) (e' : gR w 15 k' = some a) : k = k' := by
  obtain ⟨-, -, -, -, ⟨own, hO, -⟩, -⟩ := h
  have := (hO k a h1 e).2.2.1
  have := (hO k' a h2 e').2.2.1
  omega
theorem KI.a87 {w : Mm} (h : KI d C w) {k a : Nat} (h1 : k < 1024) (e : gR w 15 k = some a) : 87 ≤ a := by
  obtain ⟨-, -, -, -, ⟨own, hO, -⟩, -⟩ := h
  exact (hO k a h1 e).2.1
theorem x10_bestNext (o : Ok d C) {w : Mm} (h : KI d C w) {t L k : Nat} (ht : t < 2 ^ d 0 0) (hs : t &&& d 0 1 = t) (hk : pc t = L + k + 1) (hk6 : k ≤ 6) (hP : PL d C L t w) : Rt (f_X10_bestNext (nI t) w) (fun p => p.1 = oI (bnx d C k t) ∧ KQ d C w p.2) := by
  have p10 := pow10 o.1.1
  unfold f_X10_bestNext bnx
  rw [rt_bind]
  refine Rt.mono (rt_for (Q := fun p => p.1 = oI (amin t.testBit (fun i => ((tkA d C (wo t i) + RR d C k (wo t i) : Nat) : Int)) 10) ∧ KQ d C w p.2) (fun i s => s.1 = oI (amin t.testBit (fun i => ((tkA d C (wo t i) + RR d C k (wo t i) : Nat) : Int)) i) ∧ s.2.1 = lz (fun i => tkA d C (wo t i) + RR d C k (wo t i)) (amin t.testBit (fun i => ((tkA d C (wo t i) + RR d C k (wo t i) : Nat) : Int)) i) ∧ s.2.2.1 = nI i ∧ KQ d C w s.2.2.2) 10 ?_ ?_ ⟨rfl, rfl, rfl, KQ.rf h⟩ (by decide)) (fun p hp => by rw [rt_some]; exact hp)
  · rintro i ⟨b, l, c, w1⟩ hi ⟨h1, h2, h3, hq⟩
    dsimp only at h1 h2 h3 hq
    subst h1 h2 h3
    unfold l_X10_bestNext_7
    dsimp only
    rw [if_neg (show ¬ (10 : Int32) ≤ nI i from nI_ge (b := 10) hi (by decide)), contains_N (by omega) (by omega)]
    simp only [bI_0]
    by_cases p1 : t.testBit i = true
    · rw [if_neg (by rw [p1]; decide), without_N (by omega)]
      simp only [rt_bind, rt_onL]
      refine ⟨hq.1.1, (x_sp o hq.1 (wo_lt ht)).mono ?_⟩
      rintro ⟨a, w2⟩ ⟨q2, -, hsp, -, e2⟩
      dsimp only at q2 hsp e2 ⊢
      have hlt := wo_ltt (by omega) p1
      have hpc := pc_wo (by omega) p1
      have q12 := hq.tr q2
      obtain ⟨a', z1, z2⟩ := (hP.tq o q12.2.2) (wo t i) hlt (wo_sub (by omega) hs) (by omega)
      rw [e2] at z1
      cases z1
      rw [if_pos hsp.1, z2, if_neg (show ¬ wo t i = d 0 1 by have := sub_le hs; omega), show pc (wo t i) - L = k by omega]
      have hV := am_y (V := fun i => tkA d C (wo t i) + RR d C k (wo t i)) (p := t.testBit) (i := i) (fun j _ _ => by
        have := tkA_le o.2.1 (C := C) (t := wo t j)
        have := RR_le o.2.1 (C := C) k (wo t j)
        have : k * 120000000 ≤ 6 * 120000000 := Nat.mul_le_mul hk6 (Nat.le_refl _)
        omega) (by omega) p1 w2
      refine (rt_eq hV).mpr ?_
      rw [rt_some, nx_l]
      exact ⟨rfl, rfl, nI_1 i, q12⟩
    · rw [if_pos (bool_f p1), Option.bind_some, rt_some, nx_l]
      dsimp only
      rw [amin_n (bool_f p1)]
      exact ⟨rfl, rfl, nI_1 i, hq⟩
  · rintro ⟨b, l, c, w1⟩ ⟨h1, h2, h3, hq⟩
    dsimp only at h1 h2 h3 hq
    subst h1 h2 h3
    unfold l_X10_bestNext_7
    dsimp only
    rw [if_pos (show (10 : Int32) ≤ nI 10 by decide), rt_some, nx_r]
    exact ⟨rfl, hq⟩
theorem x10_plan (o : Ok d C) (hst : d 0 7 < 2 ^ 31) {w : Mm} (h : KI d C w) {n : Nat} (hn : n ≤ 6) (hn2 : n ≤ pc (d 0 1)) : Rt (f_X10_plan (nI n) w) (fun p => p.1 = lN (RR d C n (d 0 1)) ∧ KI d C p.2 ∧ cs w p.2 ∧ PL d C (pc (d 0 1) - n) (d 0 1 + 1) p.2) := by
  have p10 := pow10 o.1.1
  have hu := o.1.2.1
  have hpu := pc_le (d 0 1)
  have hL : ∃ L, pc (d 0 1) - n = L ∧ L + n = pc (d 0 1) := ⟨_, rfl, by omega⟩
  obtain ⟨L, eL, eL2⟩ := hL
  unfold f_X10_plan
  rw [h.U, bitCount_N _ (by omega), pk_sub hn2, eL, rt_bind]
  refine Rt.mono (rt_for (Q := fun w' => KI d C w' ∧ cs w w' ∧ PL d C L (d 0 1 + 1) w') (fun k s => s.1 = nI k ∧ KI d C s.2 ∧ cs w s.2 ∧ PL d C L k s.2) (d 0 1 + 1) ?_ ?_ ⟨rfl, h, cs.rf, fun t ht => absurd ht (Nat.not_lt_zero t)⟩ (by omega)) ?_
  · rintro k ⟨c, w1⟩ hk ⟨h1, hI, hc, hP⟩
    dsimp only at h1 hI hc hP
    subst h1
    unfold l_X10_plan_18
    dsimp only
    have hk10 : k < 1024 := by omega
    have hpk := pc_le k
    rw [if_neg (show ¬ (1024 : Int32) ≤ nI k from nI_ge (b := 1024) hk10 (by decide)), if_neg (nI_nlt (by omega) (by omega)), bitCount_N k hk10]
    by_cases c1 : k &&& d 0 1 = k
    · rw [if_pos ((and_N (by omega)).mpr c1)]
      by_cases c2 : pc k < L
      · rw [if_pos (nI_lt c2 (by omega)), Option.bind_some, rt_some, nx_l]
        refine ⟨nI_1 k, hI, hc, fun t h1 h2 h3 => ?_⟩
        by_cases e : t = k
        · subst e; omega
        · exact hP t (by omega) h2 h3
      · rw [if_neg (nI_nlt (by omega) (by omega))]
        simp only [rt_bind, rt_onL]
        have hkt : k < 2 ^ d 0 0 := by omega
        refine ⟨hI.1, (x_sp o hI hkt).mono ?_⟩
        rintro ⟨a, w2⟩ ⟨q2, hA2, hs2, hL2, e2⟩
        dsimp only at q2 hA2 hs2 hL2 e2 ⊢
        have ha := q2.1.a87 hk10 e2
        have hval : Rt (if nI k = nI (d 0 1) then some ((0 : Int64), w2) else onL w2 (if isSp w2 a = true then Option.bind (f_X9_yearly a (-1 : Int32) w2) (fun p21 => some (p21.1, p21.2)) else none)) (fun p => p.1 = lN (if k = d 0 1 then 0 else tkA d C k) ∧ KQ d C w1 p.2 ∧ gR p.2 15 k = some a) := by
          by_cases c3 : k = d 0 1
          · rw [if_pos (by rw [c3]), rt_some, if_pos c3]
            exact ⟨rfl, q2, e2⟩
          · rw [if_neg (fun z => c3 ((nI_eq (by omega) (by omega)).mp z)), rt_onL, if_pos hs2.1, rt_bind, if_neg c3]
            refine ⟨hL2, (x9_yearly (B := BF d k) (so := none) o hst (fun j b e => BF_le o.1 e) q2.1 hA2 (fun s' e => by cases e)).mono ?_⟩
            rintro ⟨v, w3⟩ ⟨e3, q3, -⟩
            dsimp only at e3 q3 ⊢
            subst e3
            rw [rt_some, tks_n]
            exact ⟨rfl, q2.tr q3, (q3.2.2 k a hk10 e2).1⟩
        refine hval.mono ?_
        rintro ⟨v, w3⟩ ⟨e3, q3, e3'⟩
        dsimp only at e3 q3 e3' ⊢
        subst e3
        have hsp3 : isSp w3 a = true := (Act.sp q3.1 (Or.inl ⟨hk10, e3', rfl⟩ : Act d C (BF d k) k a w3)).1
        rw [if_pos hsp3]
        have hP3 : PL d C L k w3 := hP.tq o q3.2.2
        -- the memory with what is kept
        have hkeep : ∀ (w4 : Mm) (v : Int64), KI d C w4 → gR w4 15 k = some a → PL d C L k w4 → PL d C L k (sL w4 a 9 v) := fun w4 v h4 e4 hP4 t h1 h2 h3 => by
          obtain ⟨b, z1, z2⟩ := hP4 t h1 h2 h3
          refine ⟨b, z1, ?_⟩
          rw [gL_sL, if_neg (fun z => by
            have := h4.uniq (k := t) (k' := k) (a := b) (by omega) hk10 z1 (by rw [z.1]; exact e4)
            omega)]
          exact z2
        by_cases c4 : pc k ≤ L
        · rw [if_pos (nI_le c4 (by omega)), rt_some, rt_some, nx_l]
          refine ⟨nI_1 k, q3.1.sL9 a _, (hc.tr q3.2.1).tr (cs.sL9 ha _), fun t h1 h2 h3 => ?_⟩
          by_cases e : t = k
          · subst e
            refine ⟨a, e3', ?_⟩
            rw [gL_sL, if_pos ⟨rfl, rfl⟩, show pc t - L = 0 by omega]
            rfl
          · exact hkeep w3 _ q3.1 e3' hP3 t (by omega) h2 h3
        · rw [if_neg (nI_ge (by omega) (by omega))]
          simp only [rt_bind, rt_onL]
          have hI4 := q3.1.sL9 a (lN (if k = d 0 1 then 0 else tkA d C k))
          have hk' : pc k = L + (pc k - L - 1) + 1 := by omega
          have hpk2 : pc k ≤ pc (d 0 1) := by
            unfold pc
            exact fb_ct_sub (fun j _ hj => sub_bit c1 hj)
          refine ⟨hI4.1, (x10_bestNext o hI4 hkt c1 hk' (by omega) (hkeep w3 _ q3.1 e3' hP3)).mono ?_⟩
          rintro ⟨v, w5⟩ ⟨e5, q5⟩
          dsimp only at e5 q5 ⊢
          have hk0 : k ≠ 0 := fun z => by rw [z, pc_z] at c4; omega
          obtain ⟨i, ei, hi10, hib⟩ := bnx_some (d := d) (C := C) (k := pc k - L - 1) hk10 hk0
          rw [ei] at e5
          subst e5
          have z5 := q5.2.2 k a hk10 (show gR (sL w3 a 9 _) 15 k = some a from e3')
          rw [gL_sL, if_pos ⟨rfl, rfl⟩] at z5
          have hsp5 : isSp w5 a = true := (Act.sp q5.1 (Or.inl ⟨hk10, z5.1, rfl⟩ : Act d C (BF d k) k a w5)).1
          rw [if_pos hsp5, show oI (some i) = nI i from rfl, without_N (by omega), rt_onL, rt_bind]
          refine ⟨q5.1.1, (x_sp o q5.1 (wo_lt hkt)).mono ?_⟩
          rintro ⟨a6, w6⟩ ⟨q6, -, hs6, -, e6⟩
          dsimp only at q6 hs6 e6 ⊢
          have z6 := q6.2.2 k a hk10 z5.1
          have hsp6 : isSp w6 a = true := (Act.sp q6.1 (Or.inl ⟨hk10, z6.1, rfl⟩ : Act d C (BF d k) k a w6)).1
          have hP6 : PL d C L k w6 := (hkeep w3 _ q3.1 e3' hP3).tq o (q5.2.2.tr q6.2.2)
          have hlt := wo_ltt (by omega) hib
          have hpc := pc_wo (by omega) hib
          obtain ⟨b, y1, y2⟩ := hP6 (wo k i) hlt (wo_sub (by omega) c1) (by omega)
          rw [e6] at y1
          cases y1
          rw [if_pos hs6.1, if_pos hsp6, z5.2, y2, lN_add, rt_some, rt_some, nx_l]
          refine ⟨nI_1 k, q6.1.sL9 a _, (((hc.tr q3.2.1).tr (cs.sL9 ha _)).tr (q5.2.1.tr q6.2.1)).tr (cs.sL9 ha _), fun t h1 h2 h3 => ?_⟩
          by_cases e : t = k
          · subst e
            refine ⟨a, z6.1, ?_⟩
            rw [gL_sL, if_pos ⟨rfl, rfl⟩, if_neg (show ¬ wo t i = d 0 1 by omega), show pc (wo t i) - L = pc t - L - 1 by omega]
            have := RR_s ei
            rw [show pc t - L - 1 + 1 = pc t - L by omega] at this
            rw [this]
          · exact hkeep w6 _ q6.1 z6.1 hP6 t (by omega) h2 h3
    · rw [if_neg (fun z => c1 ((and_N (by omega)).mp z)), Option.bind_some, rt_some, nx_l]
      refine ⟨nI_1 k, hI, hc, fun t h1 h2 h3 => ?_⟩
      by_cases e : t = k
      · subst e; exact absurd h2 c1
      · exact hP t (by omega) h2 h3
  · rintro ⟨c, w1⟩ ⟨h1, hI, hc, hP⟩
    dsimp only at h1 hI hc hP
    subst h1
    unfold l_X10_plan_18
    dsimp only
    by_cases c1 : 1024 ≤ d 0 1 + 1
    · rw [if_pos (show (1024 : Int32) ≤ nI (d 0 1 + 1) from nI_le (a := 1024) c1 (by omega)), rt_some, nx_r]
      exact ⟨hI, hc, hP⟩
    · rw [if_neg (show ¬ (1024 : Int32) ≤ nI (d 0 1 + 1) from nI_ge (b := 1024) (by omega) (by decide)), if_pos (nI_lt (by omega) (by omega)), rt_some, nx_r]
      exact ⟨hI, hc, hP⟩
  · rintro w1 ⟨hI, hc, hP⟩
    rw [rt_onL, rt_bind]
    refine ⟨hI.1, (x_sp o hI hu).mono ?_⟩
    rintro ⟨a, w2⟩ ⟨q2, -, hs2, -, e2⟩
    dsimp only at q2 hs2 e2 ⊢
    have hP2 := hP.tq o q2.2.2
    obtain ⟨b, y1, y2⟩ := hP2 (d 0 1) (by omega) (Nat.and_self _) (by omega)
    rw [e2] at y1
    cases y1
    rw [if_pos hs2.1, rt_some, y2, if_pos rfl]
    refine ⟨?_, q2.1, hc.tr q2.2.1, hP2⟩
    rw [Nat.zero_add, show pc (d 0 1) - L = n by omega]
end Ord
