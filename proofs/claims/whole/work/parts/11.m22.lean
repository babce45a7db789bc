/-! THE ORDER: its WORDS, and the reference's -/
noncomputable def os (d : Dt) (C : Ct) (n : Nat) : Nat → Nat
  | 0 => d 0 1
  | k + 1 => match bnx d C (n - 1 - k) (os d C n k) with
    | none => os d C n k
    | some i => wo (os d C n k) i
section Ord2
variable {d : Dt} {C : Ct} {w : Mm} {n : Nat}
theorem os_s {k i : Nat} (h : bnx d C (n - 1 - k) (os d C n k) = some i) : os d C n (k + 1) = wo (os d C n k) i := by rw [os, h]
theorem os_ok (o : Ok d C) (hn2 : n ≤ pc (d 0 1)) : ∀ k, k ≤ n → os d C n k < 2 ^ d 0 0 ∧ os d C n k &&& d 0 1 = os d C n k ∧ pc (os d C n k) + k = pc (d 0 1)
  | 0, _ => ⟨o.1.2.1, Nat.and_self _, rfl⟩
  | k + 1, h => by
    have p10 := pow10 o.1.1
    obtain ⟨h1, h2, h3⟩ := os_ok o hn2 k (by omega)
    have h0 : os d C n k ≠ 0 := fun z => by rw [z, pc_z] at h3; omega
    obtain ⟨i, e, hi, hb⟩ := bnx_some (d := d) (C := C) (k := n - 1 - k) (by omega) h0
    rw [os_s e]
    have := pc_wo (by omega) hb
    exact ⟨wo_lt h1, wo_sub (by omega) h2, by omega⟩
theorem os_b (o : Ok d C) (hn2 : n ≤ pc (d 0 1)) {k : Nat} (hk : k < n) : ∃ i, bnx d C (n - 1 - k) (os d C n k) = some i ∧ i < 10 ∧ (os d C n k).testBit i = true := by
  have p10 := pow10 o.1.1
  obtain ⟨h1, h2, h3⟩ := os_ok o hn2 k (by omega)
  exact bnx_some (by omega) (fun z => by rw [z, pc_z] at h3; omega)
theorem x10_planned (o : Ok d C) (h : KI d C w) (hn : n ≤ 6) (hn2 : n ≤ pc (d 0 1)) (hP : PL d C (pc (d 0 1) - n) (d 0 1 + 1) w) {p : Nat} (hp : p < n) : Rt (f_X10_planned (nI p) w) (fun r => r.1 = oI (bnx d C (n - 1 - p) (os d C n p)) ∧ KQ d C w r.2) := by
  have hb : ∀ (w1 : Mm) (k : Nat), KQ d C w w1 → k < n → Rt (f_X10_bestNext (nI (os d C n k)) w1) (fun r => r.1 = oI (bnx d C (n - 1 - k) (os d C n k)) ∧ KQ d C w1 r.2) := fun w1 k q hk => by
    obtain ⟨h1, h2, h3⟩ := os_ok o hn2 k (by omega)
    exact x10_bestNext o q.1 (L := pc (d 0 1) - n) h1 h2 (by omega) (by omega) ((hP.tq o q.2.2).mono (by have := sub_le h2; omega))
  unfold f_X10_planned
  rw [h.U, rt_bind]
  refine (hb w 0 (KQ.rf h) (by omega)).mono ?_
  rintro ⟨v, w1⟩ ⟨e1, q1⟩
  dsimp only at e1 q1 ⊢
  subst e1
  rw [rt_bind]
  refine Rt.mono (rt_for (Q := fun r => r.1 = oI (bnx d C (n - 1 - p) (os d C n p)) ∧ KQ d C w r.2) (fun k s => s.1 = nI (os d C n k) ∧ s.2.1 = oI (bnx d C (n - 1 - k) (os d C n k)) ∧ s.2.2.1 = nI k ∧ KQ d C w s.2.2.2) p ?_ ?_ ⟨rfl, rfl, rfl, q1⟩ (by omega)) (fun p hp => by rw [rt_some]; exact hp)
  · rintro k ⟨a, b, c, w2⟩ hk ⟨h1, h2, h3, hq⟩
    dsimp only at h1 h2 h3 hq
    subst h1 h2 h3
    obtain ⟨i, e, hi, -⟩ := os_b o hn2 (k := k) (by omega)
    unfold l_X10_planned_17
    dsimp only
    rw [if_neg (nI_ge hk (by omega)), if_neg (show ¬ (6 : Int32) ≤ nI k from nI_ge (b := 6) (by omega) (by decide)), e, show oI (some i) = nI i from rfl, if_neg (nm1 (by omega)), rt_onL, without_N (by omega), ← os_s e, rt_bind]
    refine ⟨hq.1.1, (hb w2 (k + 1) hq (by omega)).mono ?_⟩
    rintro ⟨v, w3⟩ ⟨e3, q3⟩
    dsimp only at e3 q3 ⊢
    subst e3
    rw [rt_some, nx_l]
    exact ⟨rfl, rfl, nI_1 k, hq.tr q3⟩
  · rintro ⟨a, b, c, w2⟩ ⟨h1, h2, h3, hq⟩
    dsimp only at h1 h2 h3 hq
    subst h1 h2 h3
    unfold l_X10_planned_17
    dsimp only
    rw [if_pos (nI_le (Nat.le_refl _) (by omega)), rt_some, nx_r]
    exact ⟨rfl, hq⟩
-- the reference
def foP (t c k : Nat) : Prop := qsP c k ∨ (c = 76 ∧ k = t)
def RS (d : Dt) (C : Ct) (L K : Nat) (w : Mm) : Prop := ∀ t, t < K → t &&& d 0 1 = t → L ≤ pc t → gL w 76 t = lN (RR d C (pc t - L) t)
theorem qs.L76 {w w' : Mm} (h : qs w w') (k : Nat) : gL w' 76 k = gL w 76 k := fx.L h (by unfold qsP; omega)
theorem RS.qs {L K : Nat} {w w' : Mm} (h : RS d C L K w) (q : qs w w') : RS d C L K w' := fun t h1 h2 h3 => by rw [q.L76]; exact h t h1 h2 h3
def lm (V : Nat → Nat) : Option Nat → Int64
  | none => 1000000000000000
  | some b => lN (V b)
theorem vle (o : OkM d) {k t : Nat} (hk : k ≤ 6) (i : Nat) : tkA d C (wo t i) + RR d C k (wo t i) < 2 ^ 31 := by
  have := tkA_le o (C := C) (t := wo t i)
  have := RR_le o (C := C) k (wo t i)
  have : k * 120000000 ≤ 6 * 120000000 := Nat.mul_le_mul hk (Nat.le_refl _)
  omega
theorem m_lo68 (o : Ok d C) (h : MI d C w) {t L k : Nat} (ht : t < 2 ^ d 0 0) (hs : t &&& d 0 1 = t) (hk : pc t = L + k + 1) (hk6 : k ≤ 6) (hR : RS d C L t w) (h76 : gL w 76 t = 1000000000000000) : Rt (wh (l_X12_laysOrder_68 (nI L) (nI t) (nI (pc t))) FUEL ((0 : Int32), w)) (fun w' => fx (foP t) w w' ∧ MI d C w' ∧ gL w' 76 t = lN (RR d C (k + 1) t)) := by
  have p10 := pow10 o.1.1
  have o1 := o.1.1
  have hpt := pc_le t
  refine rt_for (fun i s => s.1 = nI i ∧ fx (foP t) w s.2 ∧ MI d C s.2 ∧ gL s.2 76 t = lm (fun i => tkA d C (wo t i) + RR d C k (wo t i)) (amin t.testBit (fun i => ((tkA d C (wo t i) + RR d C k (wo t i) : Nat) : Int)) i)) (d 0 0) ?_ ?_ ⟨rfl, fx.rf, h, h76⟩ (by omega)
  · rintro i ⟨c, w1⟩ hi ⟨h1, hf, hm, hg⟩
    dsimp only at h1 hf hm hg
    subst h1
    unfold l_X12_laysOrder_68
    dsimp only
    rw [rt_onL, hm.N, if_neg (nI_ge hi (by omega)), if_neg (nI_ge (by omega) (by omega)), has_N (by omega) (by omega)]
    refine ⟨hm.1, ?_⟩
    simp only [bI_0]
    by_cases p1 : t.testBit i = true
    · have hlt := wo_ltt (by omega) p1
      have hpc := pc_wo (by omega) p1
      have hwl : wo t i < 2 ^ d 0 0 := wo_lt ht
      rw [if_neg (by rw [p1]; decide), wo_N (by omega)]
      simp only [rt_bind]
      refine (m_talkOf o hm hwl).mono ?_
      rintro ⟨v, w2⟩ ⟨e2, q2, m2, -⟩
      dsimp only at e2 q2 m2 ⊢
      subst e2
      have f2 : fx (foP t) w w2 := hf.tr (fx.sub q2 (fun c k z => Or.inl z))
      have r2 : gL w2 76 (wo t i) = lN (RR d C k (wo t i)) := by
        rw [f2.L (by unfold foP qsP; omega), hR _ hlt (wo_sub (by omega) hs) (by omega), show pc (wo t i) - L = k by omega]
      rw [rt_onL, if_pos (inb_nI (n := 1024) (by omega) (by decide)), if_pos (inb_nI (n := 1024) (by omega) (by decide)), ix_nI (by omega), ix_nI (by omega), q2.L76, hg, r2, lN_add]
      refine ⟨m2.1, ?_⟩
      have hnew : ∀ w3, qs w2 w3 → MI d C w3 → fx (foP t) w (sL w3 76 t (lN (tkA d C (wo t i)) + gL w3 76 (wo t i))) ∧ MI d C (sL w3 76 t (lN (tkA d C (wo t i)) + gL w3 76 (wo t i))) ∧ gL (sL w3 76 t (lN (tkA d C (wo t i)) + gL w3 76 (wo t i))) 76 t = lN (tkA d C (wo t i) + RR d C k (wo t i)) := fun w3 q3 m3 => by
        refine ⟨(f2.tr (fx.sub q3 (fun c k z => Or.inl z))).tr (fx.sL (Or.inr ⟨rfl, rfl⟩)), (m3.y (P := fun c _ => c = 76) (fx.sL rfl) (fun c k z => by subst z; unfold inM mB; omega)).2, ?_⟩
        rw [gL_sL, if_pos ⟨rfl, rfl⟩, q3.L76, r2, lN_add]
      cases e : amin t.testBit (fun i => ((tkA d C (wo t i) + RR d C k (wo t i) : Nat) : Int)) i with
      | none =>
        have hv := vle (C := C) (t := t) o.2.1 hk6 i
        rw [if_neg (show ¬ lm _ none ≤ _ from fun z => by
          rw [fa_le64, lN_toInt hv] at z
          rw [show (lm (fun i => tkA d C (wo t i) + RR d C k (wo t i)) none).toInt = 1000000000000000 by show (1000000000000000 : Int64).toInt = _; decide] at z
          omega), rt_bind]
        refine (m_talkOf o m2 hwl).mono ?_
        rintro ⟨v, w3⟩ ⟨e3, q3, m3, -⟩
        dsimp only at e3 q3 m3 ⊢
        subst e3
        rw [rt_onL, rt_some, rt_some, nx_l]
        obtain ⟨z1, z2, z3⟩ := hnew w3 q3 m3
        exact ⟨m3.1, nI_1 i, z1, z2, by rw [amin_0 p1 e]; exact z3⟩
      | some b =>
        have hv := vle (C := C) (t := t) o.2.1 hk6 i
        have hv2 := vle (C := C) (t := t) o.2.1 hk6 b
        rw [show lm (fun i => tkA d C (wo t i) + RR d C k (wo t i)) (some b) = lN (tkA d C (wo t b) + RR d C k (wo t b)) from rfl]
        by_cases c : tkA d C (wo t b) + RR d C k (wo t b) ≤ tkA d C (wo t i) + RR d C k (wo t i)
        · rw [if_pos ((lN_le hv2 hv).mpr c), rt_some, rt_some, nx_l]
          refine ⟨nI_1 i, f2, m2, ?_⟩
          rw [amin_k e (by omega)]
          dsimp only
          rw [q2.L76, hg, e]
        · rw [if_neg (fun z => c ((lN_le hv2 hv).mp z)), rt_bind]
          refine (m_talkOf o m2 hwl).mono ?_
          rintro ⟨v, w3⟩ ⟨e3, q3, m3, -⟩
          dsimp only at e3 q3 m3 ⊢
          subst e3
          rw [rt_onL, rt_some, rt_some, nx_l]
          obtain ⟨z1, z2, z3⟩ := hnew w3 q3 m3
          exact ⟨m3.1, nI_1 i, z1, z2, by rw [amin_l p1 e (by omega)]; exact z3⟩
    · rw [if_pos (bool_f p1), Option.bind_some, rt_some, nx_l]
      refine ⟨nI_1 i, hf, hm, ?_⟩
      rw [amin_n (bool_f p1)]
      exact hg
  · rintro ⟨c, w1⟩ ⟨h1, hf, hm, hg⟩
    dsimp only at h1 hf hm hg
    subst h1
    unfold l_X12_laysOrder_68
    dsimp only
    rw [rt_onL, hm.N, if_pos (nI_le (Nat.le_refl _) (by omega)), rt_some, nx_r]
    refine ⟨hm.1, hf, hm, ?_⟩
    have h0 : t ≠ 0 := fun z => by rw [z, pc_z] at hk; omega
    obtain ⟨i, e, hi, hb⟩ := bnx_some (d := d) (C := C) (k := k) (by omega) h0
    have e' : amin t.testBit (fun i => ((tkA d C (wo t i) + RR d C k (wo t i) : Nat) : Int)) (d 0 0) = some i := by
      rw [← e]
      exact (amin_ext o1 (fun i h1 h2 => tb_small ht h1)).symm
    rw [hg, e', RR_s e]
    rfl
def qo (w w' : Mm) : Prop := fx (fun c k => qsP c k ∨ c = 76) w w'
theorem qo.rf {w : Mm} : qo w w := fx.rf
theorem qo.q {w w' : Mm} (h : qo w w') : qf w w' := fx.sub h (fun c k z => by unfold qsP at z; unfold inM mB; omega)
theorem m_laysOrder (o : Ok d C) (h : MI d C w) (hn : n ≤ 6) (hn2 : n ≤ pc (d 0 1)) : Rt (f_X12_laysOrder (nI n) w) (fun w' => qo w w' ∧ MI d C w' ∧ RS d C (pc (d 0 1) - n) (d 0 1 + 1) w') := by
  have p10 := pow10 o.1.1
  have hu := o.1.2.1
  have hpu := pc_le (d 0 1)
  have hL : ∃ L, pc (d 0 1) - n = L ∧ L + n = pc (d 0 1) := ⟨_, rfl, by omega⟩
  obtain ⟨L, eL, eL2⟩ := hL
  unfold f_X12_laysOrder
  rw [h.U, m_sizeOf (by omega), Option.bind_some, pk_sub hn2, eL, rt_bind]
  refine Rt.mono (rt_for (Q := fun w' => qo w w' ∧ MI d C w' ∧ RS d C L (d 0 1 + 1) w') (fun k s => s.1 = nI k ∧ qo w s.2 ∧ MI d C s.2 ∧ RS d C L k s.2) (d 0 1 + 1) ?_ ?_ ⟨rfl, qo.rf, h, fun t ht => absurd ht (Nat.not_lt_zero t)⟩ (by omega)) (fun p hp => by rw [rt_some]; exact hp)
  · rintro k ⟨c, w1⟩ hk ⟨h1, hf, hm, hR⟩
    dsimp only at h1 hf hm hR
    subst h1
    unfold l_X12_laysOrder_12
    dsimp only
    have hk10 : k < 1024 := by omega
    have hpk := pc_le k
    rw [rt_onL, hm.U, if_neg (nI_nlt (by omega) (by omega)), m_sizeOf hk10, Option.bind_some]
    refine ⟨hm.1, ?_⟩
    by_cases c1 : k &&& d 0 1 = k
    · rw [if_pos ((sub_N (by omega)).mpr c1)]
      by_cases c2 : L ≤ pc k
      · have hpk2 : pc k ≤ pc (d 0 1) := by
          unfold pc
          exact fb_ct_sub (fun j _ hj => sub_bit c1 hj)
        rw [if_pos (nI_le c2 (by omega))]
        have hstart : ∀ v, fx (foP k) w1 (sL w1 76 k v) ∧ MI d C (sL w1 76 k v) ∧ RS d C L k (sL w1 76 k v) ∧ gL (sL w1 76 k v) 76 k = v := fun v => ⟨fx.sL (Or.inr ⟨rfl, rfl⟩), (hm.y (P := fun c _ => c = 76) (fx.sL rfl) (fun c k z => by subst z; unfold inM mB; omega)).2, fun t h1 h2 h3 => by rw [gL_sL, if_neg (by omega)]; exact hR t h1 h2 h3, by rw [gL_sL, if_pos ⟨rfl, rfl⟩]⟩
        have hend : ∀ w2, fx (foP k) w1 w2 → MI d C w2 → gL w2 76 k = lN (RR d C (pc k - L) k) → (nI k + 1 = nI (k + 1) ∧ qo w w2 ∧ MI d C w2 ∧ RS d C L (k + 1) w2) := fun w2 f2 m2 g2 => by
          refine ⟨nI_1 k, hf.tr (f2.sub (fun c k z => by unfold foP at z; exact z.elim Or.inl (fun z => Or.inr z.1))), m2, fun t h1 h2 h3 => ?_⟩
          by_cases e : t = k
          · subst e; exact g2
          · rw [f2.L (by unfold foP qsP; omega)]; exact hR t (by omega) h2 h3
        by_cases c3 : pc k = L
        · rw [c3, if_pos rfl, Option.bind_some, if_pos (inb_nI hk10 (by decide)), ix_nI (by omega)]
          simp only [rt_bind]
          obtain ⟨s1, s2, s3, s4⟩ := hstart 0
          refine Rt.mono (Q := fun w2 => w2 = sL w1 76 k 0) (rt_for (fun i s => s = ((0 : Int32), sL w1 76 k 0)) 0 (fun i s hi => absurd hi (Nat.not_lt_zero i)) (fun s hs => ?_) rfl (by decide)) ?_
          · subst hs
            unfold l_X12_laysOrder_68
            dsimp only
            rw [rt_onL]
            refine ⟨s2.1, ?_⟩
            split
            · rw [rt_some, nx_r]
            · rw [if_pos (nI_le (Nat.le_refl _) (by omega)), rt_some, nx_r]
          · rintro w2 rfl
            rw [rt_some, rt_some, nx_l]
            exact hend _ s1 s2 (by rw [s4, c3, Nat.sub_self]; rfl)
        · rw [if_neg (fun z => c3 ((nI_eq (by omega) (by omega)).mp z)), Option.bind_some, if_pos (inb_nI hk10 (by decide)), ix_nI (by omega)]
          simp only [rt_bind]
          obtain ⟨s1, s2, s3, s4⟩ := hstart 1000000000000000
          refine (m_lo68 o s2 (k := pc k - L - 1) (by omega) c1 (by omega) (by omega) s3 s4).mono ?_
          rintro w2 ⟨f2, m2, g2⟩
          rw [rt_some, rt_some, nx_l]
          exact hend w2 (s1.tr f2) m2 (by rw [g2, show pc k - L - 1 + 1 = pc k - L by omega])
      · rw [if_neg (nI_ge (by omega) (by omega)), Option.bind_some, rt_some, nx_l]
        refine ⟨nI_1 k, hf, hm, fun t h1 h2 h3 => ?_⟩
        by_cases e : t = k
        · subst e; omega
        · exact hR t (by omega) h2 h3
    · rw [if_neg (fun z => c1 ((sub_N (by omega)).mp z)), Option.bind_some, rt_some, nx_l]
      refine ⟨nI_1 k, hf, hm, fun t h1 h2 h3 => ?_⟩
      by_cases e : t = k
      · subst e; exact absurd h2 c1
      · exact hR t (by omega) h2 h3
  · rintro ⟨c, w1⟩ ⟨h1, hf, hm, hR⟩
    dsimp only at h1 hf hm hR
    subst h1
    unfold l_X12_laysOrder_12
    dsimp only
    rw [rt_onL, hm.U, if_pos (nI_lt (by omega) (by omega)), rt_some, nx_r]
    exact ⟨hm.1, hf, hm, hR⟩
theorem m_find (o : Ok d C) (h : MI d C w) (hn : n ≤ 6) (hn2 : n ≤ pc (d 0 1)) (hR : RS d C (pc (d 0 1) - n) (d 0 1 + 1) w) (x2 x5 : Int32) {k i : Nat} (hk : k < n) (hi : bnx d C (n - 1 - k) (os d C n k) = some i) : Rt (wh (l_X12_order_67 x2 (nI (os d C n k)) x5) FUEL ((0 : Int32), w)) (fun p => p.1 = nI i ∧ ZQ d C w p.2) := by
  have p10 := pow10 o.1.1
  have hu := o.1.2.1
  obtain ⟨t1, t2, t3⟩ := os_ok o hn2 k (by omega)
  have hpt := pc_le (os d C n k)
  obtain ⟨b1, b2, b3⟩ := amin_some hi
  have hrr := RR_s hi
  -- one place
  have step : ∀ (w1 : Mm) (j : Nat), ZQ d C w w1 → j < 10 → (os d C n k).testBit j = true → Rt (onL w1 (Option.bind (f_X12_talkOf (nI (wo (os d C n k) j)) w1) (fun p4 => onL p4.2 (if inb (nI (wo (os d C n k) j)) 1024 = true then (if inb (nI (os d C n k)) 1024 = true then (if (p4.1 + (gL p4.2 76 (ix (nI (wo (os d C n k) j))))) = (gL p4.2 76 (ix (nI (os d C n k)))) then (some (Sum.inr (Sum.inr (nI j, p4.2))) : Option (Mm ⊕ ((Int32 × Mm) ⊕ (Int32 × Mm)))) else (some (.inl p4.2))) else none) else none)))) (fun s => ∃ w2, ZQ d C w w2 ∧ s = if tkA d C (wo (os d C n k) j) + RR d C (n - 1 - k) (wo (os d C n k) j) = RR d C (n - 1 - k + 1) (os d C n k) then Sum.inr (Sum.inr (nI j, w2)) else .inl w2) := by
    intro w1 j hq hj hb
    have hlt := wo_ltt (by omega) hb
    have hpc := pc_wo (by omega) hb
    have hle := sub_le t2
    rw [rt_onL, rt_bind]
    refine ⟨hq.2.1, (m_talkOf o hq.2 (wo_lt t1)).mono ?_⟩
    rintro ⟨v, w2⟩ ⟨e2, q2, m2, -⟩
    dsimp only at e2 q2 m2 ⊢
    subst e2
    have q02 := hq.1.tr q2
    have r1 : gL w2 76 (wo (os d C n k) j) = lN (RR d C (n - 1 - k) (wo (os d C n k) j)) := by
      rw [q02.L76, hR _ (by omega) (wo_sub (by omega) t2) (by omega), show pc (wo (os d C n k) j) - (pc (d 0 1) - n) = n - 1 - k by omega]
    have r2 : gL w2 76 (os d C n k) = lN (RR d C (n - 1 - k + 1) (os d C n k)) := by
      rw [q02.L76, hR _ (by omega) t2 (by omega), show pc (os d C n k) - (pc (d 0 1) - n) = n - 1 - k + 1 by omega]
    rw [rt_onL, if_pos (inb_nI (n := 1024) (by omega) (by decide)), if_pos (inb_nI (n := 1024) (by omega) (by decide)), ix_nI (by omega), ix_nI (by omega), r1, r2, lN_add]
    refine ⟨m2.1, ?_⟩
    have v1 := vle (C := C) (t := os d C n k) (k := n - 1 - k) o.2.1 (by omega) j
    have v2 : RR d C (n - 1 - k + 1) (os d C n k) < 2 ^ 31 := by
      have := RR_le o.2.1 (C := C) (n - 1 - k + 1) (os d C n k)
      have : (n - 1 - k + 1) * 120000000 ≤ 6 * 120000000 := Nat.mul_le_mul (by omega) (Nat.le_refl _)
      omega
    by_cases c : tkA d C (wo (os d C n k) j) + RR d C (n - 1 - k) (wo (os d C n k) j) = RR d C (n - 1 - k + 1) (os d C n k)
    · rw [if_pos ((lN_eq v1 v2).mpr c), rt_some]
      exact ⟨w2, ⟨q02, m2⟩, by rw [if_pos c]⟩
    · rw [if_neg (fun z => c ((lN_eq v1 v2).mp z)), rt_some]
      exact ⟨w2, ⟨q02, m2⟩, by rw [if_neg c]⟩
  refine rt_for (fun j s => s.1 = nI j ∧ ZQ d C w s.2) i ?_ ?_ ⟨rfl, ZQ.rf h⟩ (by omega)
  · rintro j ⟨c, w1⟩ hj ⟨h1, hq⟩
    dsimp only at h1 hq
    subst h1
    unfold l_X12_order_67
    dsimp only
    rw [has_N (by omega) (by omega), rt_mg]
    simp only [bI_0]
    by_cases p1 : (os d C n k).testBit j = true
    · rw [if_neg (by rw [p1]; decide), wo_N (by omega)]
      refine (step w1 j hq (by omega) p1).mono ?_
      rintro s ⟨w2, q2, rfl⟩
      have hlt := (b3 j (by omega) p1).2 hj
      rw [if_neg (by rw [hrr]; omega)]
      dsimp only
      rw [rt_some, nx_l]
      exact ⟨nI_1 j, q2⟩
    · rw [if_pos (bool_f p1), rt_some]
      dsimp only
      rw [rt_some, nx_l]
      exact ⟨nI_1 j, hq⟩
  · rintro ⟨c, w1⟩ ⟨h1, hq⟩
    dsimp only at h1 hq
    subst h1
    unfold l_X12_order_67
    dsimp only
    rw [has_N (by omega) (by omega), rt_mg]
    simp only [bI_0]
    rw [if_neg (by rw [b2]; decide), wo_N (by omega)]
    refine (step w1 i hq b1 b2).mono ?_
    rintro s ⟨w2, q2, rfl⟩
    rw [if_pos hrr.symm]
    dsimp only
    rw [nx_r]
    exact ⟨rfl, q2⟩
end Ord2
