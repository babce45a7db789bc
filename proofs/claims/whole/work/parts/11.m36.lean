/-! leads, ROUND -/
section Rnd
variable {d : Dt} {C : Ct} {w : Mm}
theorem bits_ex (P : Nat → Prop) : ∀ n, ∃ b, b < 2 ^ n ∧ ∀ j, b.testBit j = true ↔ j < n ∧ P j
  | 0 => ⟨0, by decide, fun j => by rw [Nat.zero_testBit]; exact ⟨fun z => (by cases z), fun z => absurd z.1 (Nat.not_lt_zero j)⟩⟩
  | n + 1 => by
    obtain ⟨b, hb, h⟩ := bits_ex P n
    have h2 : 2 ^ n < 2 ^ (n + 1) := Nat.pow_lt_pow_right (by decide) (by omega)
    by_cases c : P n
    · refine ⟨b ||| 2 ^ n, Nat.or_lt_two_pow (by omega) h2, fun j => ?_⟩
      rw [fb_bit_set]
      constructor
      · intro z
        rcases Bool.or_eq_true .. ▸ z with z | z
        · have := (h j).mp z; exact ⟨by omega, this.2⟩
        · rw [of_decide_eq_true z]; exact ⟨by omega, c⟩
      · rintro ⟨z1, z2⟩
        by_cases e : j = n
        · rw [decide_eq_true e]; simp
        · rw [(h j).mpr ⟨by omega, z2⟩]; rfl
    · refine ⟨b, by omega, fun j => ?_⟩
      rw [h j]
      constructor
      · rintro ⟨z1, z2⟩; exact ⟨by omega, z2⟩
      · rintro ⟨z1, z2⟩
        by_cases e : j = n
        · rw [e] at z2; exact absurd z2 c
        · exact ⟨by omega, z2⟩
theorem wd_ltn (o : OkL d) {t x L : Nat} (ht : t < 2 ^ d 0 0) (hx : x < 64) (e : BF d t x = some L) : wd d t x < d 0 0 := by
  rw [wd_k e]
  have key : ∀ k, 0 < jl d k t → (jw d k t).getD 0 < d 0 0 := fun k hk => by
    obtain ⟨i, hi⟩ := (jl_pos o ht).mp hk
    rw [hi]
    have := (amin_some hi).2.1
    simp at this
    exact tb_lt ht this.1
  rcases hwS_ok o hx e with ⟨h1, -, h3, -⟩ | ⟨h1, -, -, h4, -⟩ | ⟨h1, -, -, h4, -⟩
  · rw [if_pos h1]; exact tb_lt ht h3
  · rw [if_neg (by omega), h1]; exact key 1 h4
  · rw [if_neg (by omega)]; exact key _ h4
theorem Lead_ex (o : Ok d C) {i : Nat} (hi : i < 10) : ∃ b, b < 2 ^ d 0 0 ∧ Lead d i b := by
  have hu := o.1.2.1
  have hm := (o.1.2.2.1 i hi).2.1
  have o1 := o.1.1
  cases e : BF d (wo (d 0 1) i) (d 2 i) with
  | none => exact ⟨0, Nat.two_pow_pos _, Or.inl ⟨e, rfl⟩⟩
  | some L =>
    obtain ⟨b, hb, h⟩ := bits_ex (fun j => ∃ x, Rch d (wo (d 0 1) i) (d 2 i) x ∧ wd d (wo (d 0 1) i) x = j) (d 0 0)
    refine ⟨b, hb, Or.inr ⟨⟨L, e⟩, Nat.lt_of_lt_of_le hb (pow10 o1), fun j => ?_⟩⟩
    rw [h j]
    constructor
    · exact fun z => z.2
    · rintro ⟨x, hx, z⟩
      obtain ⟨y1, L', y2⟩ := hx.ok o.1 hm ⟨L, e⟩
      exact ⟨by rw [← z]; exact wd_ltn o.1 (wo_lt hu) y1 y2, x, hx, z⟩
theorem ag_leads (o : Ok d C) (x1 : Int32) : Agree d C (f_X11_leads x1) (f_X12_leads x1) := by
  by_cases c1 : mnt d x1 = 0
  · refine ⟨-1, fun w h => ?_, fun w h => ?_⟩
    · unfold f_X11_leads
      rw [k_plain o h, Option.bind_some, if_pos c1, rt_some]; exact ⟨rfl, KW.rf h⟩
    · unfold f_X12_leads
      rw [m_meant o h, Option.bind_some, if_pos c1, rt_some]; exact ⟨rfl, ZW.rf h⟩
  obtain ⟨i, hin, hi, rfl, hb, hk⟩ := mnt_of o c1
  obtain ⟨b, -, hl⟩ := Lead_ex o hi
  refine ⟨nI b, fun w h => ?_, fun w h => ?_⟩
  · unfold f_X11_leads
    rw [k_plain o h, Option.bind_some, if_neg c1, rt_bind]
    refine (x2_entry o h hi hin).mono ?_
    rintro ⟨v, w1⟩ ⟨q, b', e, hl'⟩
    dsimp only at q e ⊢
    rw [rt_some, e, hl'.uniq hl]
    exact ⟨rfl, q.w⟩
  · unfold f_X12_leads
    rw [m_meant o h, Option.bind_some, if_neg c1, rt_bind]
    refine (m_leadsTo o h hi).mono ?_
    rintro ⟨v, w1⟩ ⟨⟨b', e, hl'⟩, q, m⟩
    dsimp only at q e m ⊢
    rw [rt_some, e, hl'.uniq hl]
    exact ⟨rfl, q.q, m⟩
/-- the DICTIONARY -/
def Dic (d : Dt) (E : Nat → Nat) : Prop := ∀ i, i < 10 → E i < 2 ^ d 0 0 ∧ (¬ mnt d (nI i) = 0 → Lead d i (E i)) ∧ (mnt d (nI i) = 0 → E i = 0)
theorem Dic_ex (o : Ok d C) : ∃ E, Dic d E := by
  have : ∀ i, ∃ b, i < 10 → b < 2 ^ d 0 0 ∧ (¬ mnt d (nI i) = 0 → Lead d i b) ∧ (mnt d (nI i) = 0 → b = 0) := fun i => by
    by_cases hi : i < 10
    · by_cases c : mnt d (nI i) = 0
      · exact ⟨0, fun _ => ⟨Nat.two_pow_pos _, fun z => absurd c z, fun _ => rfl⟩⟩
      · obtain ⟨b, hb, hl⟩ := Lead_ex o hi
        exact ⟨b, fun _ => ⟨hb, fun _ => hl, fun z => absurd z c⟩⟩
    · exact ⟨0, fun z => absurd z hi⟩
  exact ⟨fun i => (this i).choose, fun i hi => (this i).choose_spec hi⟩
def TC (E : Nat → Nat) (i j : Nat) : Prop := ∀ P : Nat → Prop, (∀ z, (E i).testBit z = true → P z) → (∀ y z, P y → (E y).testBit z = true → P z) → P j
theorem TC.one {E : Nat → Nat} {i j : Nat} (h : (E i).testBit j = true) : TC E i j := fun _ h1 _ => h1 j h
theorem TC.st {E : Nat → Nat} {i y z : Nat} (h : TC E i y) (hz : (E y).testBit z = true) : TC E i z := fun P h1 h2 => h2 y z (h P h1 h2) hz
theorem TC.tr {E : Nat → Nat} {i y z : Nat} (h : TC E i y) (h' : TC E y z) : TC E i z := h' (fun z => TC E i z) (fun _ hz => h.st hz) (fun _ _ hy hz => hy.st hz)
/-- a row R that is closed and rests on E is all that can be come to -/
theorem TC_of {E : Nat → Nat} {i c : Nat} (h1 : ∀ j, (E i).testBit j = true → c.testBit j = true) (h2 : ∀ v j, c.testBit v = true → (E v).testBit j = true → c.testBit j = true) {j : Nat} (h : TC E i j) : c.testBit j = true := h (fun j => c.testBit j = true) h1 (fun y z hy hz => h2 y z hy hz)
def RnS (E : Nat → Nat) (b : Nat) : Prop := b < 1024 ∧ ∀ j, b.testBit j = true ↔ j < 10 ∧ TC E j j
-- the class
def R46 (R : Nat → Nat) (w : Mm) : Prop := ∀ j, j < 10 → gI w 46 j = nI (R j) ∧ R j < 1024
theorem KI.s46 (h : KI d C w) (k : Nat) (v : Int32) : KI d C (sI w 46 k v) := h.fx (P := fun c _ => c = 46) (fx.sI rfl) (fun c k z => by subst z; unfold kfree; omega)
theorem cq.s46 (w : Mm) (k : Nat) (v : Int32) : cq w (sI w 46 k v) := fun c j hc => ⟨by rw [gI_sI, if_neg (by unfold cB inM at hc; omega)], rfl⟩
theorem x2_circ50 (o : Ok d C) (h : KI d C w) {k : Nat} (hk : k < 10) {R : Nat → Nat} (hR : R46 R w) : Rt (wh (l_X2_circles_50 (nI k)) FUEL ((0 : Int32), w)) (fun w' => KW d C w w' ∧ R46 (fun x => if (R x).testBit k then R x ||| R k else R x) w') := by
  refine rt_for (fun i s => s.1 = nI i ∧ KW d C w s.2 ∧ ∀ x, x < 10 → gI s.2 46 x = nI (if x < i ∧ (R x).testBit k = true then R x ||| R k else R x)) 10 ?_ ?_ ⟨rfl, KW.rf h, fun x hx => by rw [if_neg (by omega)]; exact (hR x hx).1⟩ (by decide)
  · rintro i ⟨c, w1⟩ hi ⟨h1, hq, hz⟩
    dsimp only at h1 hq hz
    subst h1
    unfold l_X2_circles_50
    dsimp only
    have ei : gI w1 46 i = nI (R i) := by rw [hz i hi, if_neg (by omega)]
    have ek : gI w1 46 k = nI (R k) := by
      rw [hz k hk]
      split
      · rw [Nat.or_self]
      · rfl
    rw [if_neg (show ¬ (10 : Int32) ≤ nI i from nI_ge (b := 10) hi (by decide)), rt_onL, if_pos (inb_nI hi (by decide)), if_pos (inb_nI hk (by decide)), ix_nI (by omega), ix_nI (by omega), ei, ek, contains_N (hR i hi).2 (by omega)]
    refine ⟨hq.1.1, ?_⟩
    simp only [bI_0]
    by_cases c1 : (R i).testBit k = true
    · rw [if_neg (by rw [c1]; decide), Option.bind_some, rt_some, nx_l, fa_or]
      refine ⟨nI_1 i, ⟨hq.1.s46 _ _, hq.2.tr (cq.s46 _ _ _)⟩, fun x hx => ?_⟩
      dsimp only
      rw [gI_sI]
      by_cases e : x = i
      · subst e; rw [if_pos ⟨rfl, rfl⟩, if_pos ⟨by omega, c1⟩]
      · rw [if_neg (by omega), hz x hx]
        congr 1
        by_cases q : (R x).testBit k = true
        · by_cases y : x < i
          · rw [if_pos ⟨y, q⟩, if_pos ⟨by omega, q⟩]
          · rw [if_neg (by omega), if_neg (by omega)]
        · rw [if_neg (fun z => q z.2), if_neg (fun z => q z.2)]
    · rw [if_pos (bool_f c1), Option.bind_some, rt_some, nx_l]
      refine ⟨nI_1 i, hq, fun x hx => ?_⟩
      dsimp only
      rw [hz x hx]
      congr 1
      by_cases q : (R x).testBit k = true
      · have hxi : x ≠ i := fun z => by rw [z] at q; exact c1 q
        by_cases y : x < i
        · rw [if_pos ⟨y, q⟩, if_pos ⟨by omega, q⟩]
        · rw [if_neg (by omega), if_neg (by omega)]
      · rw [if_neg (fun z => q z.2), if_neg (fun z => q z.2)]
  · rintro ⟨c, w1⟩ ⟨h1, hq, hz⟩
    dsimp only at h1 hq hz
    subst h1
    unfold l_X2_circles_50
    dsimp only
    rw [if_pos (show (10 : Int32) ≤ nI 10 by decide), rt_some, nx_r]
    refine ⟨hq, fun x hx => ?_⟩
    rw [hz x hx]
    dsimp only
    by_cases q : (R x).testBit k = true
    · rw [if_pos ⟨hx, q⟩, if_pos q]
      exact ⟨rfl, Nat.or_lt_two_pow (n := 10) (hR x hx).2 (hR k hk).2⟩
    · rw [if_neg (fun z => q z.2), if_neg q]
      exact ⟨rfl, (hR x hx).2⟩
/-- E, what can be come to, closed over the first k -/
def War (E R : Nat → Nat) (k : Nat) : Prop := (∀ i j, i < 10 → (E i).testBit j = true → (R i).testBit j = true) ∧ (∀ i j, i < 10 → (R i).testBit j = true → TC E i j) ∧ ∀ m, m < k → ∀ i j, i < 10 → (R i).testBit m = true → (R m).testBit j = true → (R i).testBit j = true
theorem War.next {E R : Nat → Nat} {k : Nat} (hk : k < 10) (h : War E R k) : War E (fun x => if (R x).testBit k then R x ||| R k else R x) (k + 1) := by
  obtain ⟨h1, h2, h3⟩ := h
  have hb : ∀ x j, (if (R x).testBit k = true then R x ||| R k else R x).testBit j = true ↔ (R x).testBit j = true ∨ ((R x).testBit k = true ∧ (R k).testBit j = true) := fun x j => by
    by_cases c : (R x).testBit k = true
    · rw [if_pos c, Nat.testBit_or]; simp [c]
    · rw [if_neg c]; simp [c]
  refine ⟨fun i j hi hz => (hb i j).mpr (Or.inl (h1 i j hi hz)), fun i j hi hz => ?_, fun m hm i j hi y1 y2 => ?_⟩
  · rcases (hb i j).mp hz with z | ⟨z1, z2⟩
    · exact h2 i j hi z
    · exact (h2 i k hi z1).tr (h2 k j hk z2)
  · have y1 := (hb i m).mp y1
    have y2 := (hb m j).mp y2
    refine (hb i j).mpr ?_
    by_cases e : m = k
    · subst e
      have a1 : (R i).testBit m = true := y1.elim id (fun z => z.1)
      have a2 : (R m).testBit j = true := y2.elim id (fun z => z.2)
      exact Or.inr ⟨a1, a2⟩
    · have hmk : m < k := by omega
      rcases y1 with y1 | ⟨y1, y1'⟩
      · rcases y2 with y2 | ⟨y2, y2'⟩
        · exact Or.inl (h3 m hmk i j hi y1 y2)
        · exact Or.inr ⟨h3 m hmk i k hi y1 y2, y2'⟩
      · rcases y2 with y2 | ⟨y2, y2'⟩
        · exact Or.inr ⟨y1, h3 m hmk k j hk y1' y2⟩
        · exact Or.inr ⟨y1, y2'⟩
theorem x2_circles (o : Ok d C) (h : KI d C w) {E : Nat → Nat} (hE : Dic d E) : Rt (f_X2_circles w) (fun p => KW d C w p.2 ∧ ∃ b, p.1 = nI b ∧ RnS E b) := by
  have p10 := pow10 o.1.1
  have hEl : ∀ i, i < 10 → E i < 1024 := fun i hi => by have := (hE i hi).1; omega
  unfold f_X2_circles
  rw [rt_bind]
  refine Rt.mono (Q := fun w1 => KW d C w w1 ∧ R46 E w1) (rt_for (fun i s => s.1 = nI i ∧ KW d C w s.2 ∧ ∀ j, j < i → gI s.2 46 j = nI (E j)) 10 ?_ ?_ ⟨rfl, KW.rf h, fun j hj => absurd hj (Nat.not_lt_zero j)⟩ (by decide)) ?_
  · rintro i ⟨c, w1⟩ hi ⟨h1, hq, hz⟩
    dsimp only at h1 hq hz
    subst h1
    unfold l_X2_circles_2
    dsimp only
    rw [if_neg (show ¬ (10 : Int32) ≤ nI i from nI_ge (b := 10) hi (by decide)), rt_onL, k_plain o hq.1, Option.bind_some]
    refine ⟨hq.1.1, ?_⟩
    have hend : ∀ w2 v, KQ d C w1 w2 → v = nI (E i) → Rt (onL w2 (if inb (nI i) 10 = true then some (.inl (nI i + (1 : Int32), sI w2 46 (ix (nI i)) v)) else none)) (Nx (fun s : Int32 × Mm => s.1 = nI (i + 1) ∧ KW d C w s.2 ∧ ∀ j, j < i + 1 → gI s.2 46 j = nI (E j)) (fun w1 => KW d C w w1 ∧ R46 E w1)) := fun w2 v q2 hv => by
      rw [rt_onL, if_pos (inb_nI hi (by decide)), ix_nI (by omega), rt_some, nx_l]
      refine ⟨q2.1.1, nI_1 i, ⟨q2.1.s46 _ _, (hq.2.tr q2.2.1.q).tr (cq.s46 _ _ _)⟩, fun j hj => ?_⟩
      dsimp only
      rw [gI_sI]
      by_cases e : j = i
      · subst e; rw [if_pos ⟨rfl, rfl⟩]; exact hv
      · rw [if_neg (by omega), (q2.2.1 46 j (by decide) (by decide) (by decide) (by unfold scN; omega)).1]
        exact hz j (by omega)
    by_cases c1 : mnt d (nI i) = 0
    · rw [if_pos c1, Option.bind_some]
      exact hend w1 0 (KQ.rf hq.1) (by rw [(hE i hi).2.2 c1]; rfl)
    · obtain ⟨i', hin, hi', ei', -, -⟩ := mnt_of o c1
      have : i = i' := (nI_eq (by omega) (by omega)).mp ei'
      subst this
      rw [if_neg c1, rt_bind, rt_bind]
      refine (x2_entry o hq.1 hi hin).mono ?_
      rintro ⟨v, w2⟩ ⟨q2, b, e2, hl⟩
      dsimp only at q2 e2 ⊢
      subst e2
      rw [rt_some]
      exact hend w2 _ q2 (by rw [hl.uniq ((hE i hi).2.1 c1)])
  · rintro ⟨c, w1⟩ ⟨h1, hq, hz⟩
    dsimp only at h1 hq hz
    subst h1
    unfold l_X2_circles_2
    dsimp only
    rw [if_pos (show (10 : Int32) ≤ nI 10 by decide), rt_some, nx_r]
    exact ⟨hq, fun j hj => ⟨hz j hj, hEl j hj⟩⟩
  rintro w1 ⟨q1, r1⟩
  rw [rt_bind]
  refine Rt.mono (rt_for (Q := fun w2 => KW d C w w2 ∧ ∃ R, R46 R w2 ∧ War E R 10) (fun k s => s.1 = nI k ∧ KW d C w s.2 ∧ ∃ R, R46 R s.2 ∧ War E R k) 10 ?_ ?_ ⟨rfl, q1, E, r1, fun _ _ _ z => z, fun _ _ _ z => TC.one z, fun m hm => absurd hm (Nat.not_lt_zero m)⟩ (by decide)) ?_
  · rintro k ⟨c, w2⟩ hk ⟨h1, hq, R, hR, hW⟩
    dsimp only at h1 hq hR
    subst h1
    unfold l_X2_circles_42
    dsimp only
    rw [if_neg (show ¬ (10 : Int32) ≤ nI k from nI_ge (b := 10) hk (by decide)), rt_bind]
    refine (x2_circ50 o hq.1 hk hR).mono ?_
    rintro w3 ⟨q3, r3⟩
    rw [rt_some, nx_l]
    exact ⟨nI_1 k, ⟨q3.1, hq.2.tr q3.2⟩, _, r3, hW.next hk⟩
  · rintro ⟨c, w2⟩ ⟨h1, hq, R, hR, hW⟩
    dsimp only at h1 hq hR
    subst h1
    unfold l_X2_circles_42
    dsimp only
    rw [if_pos (show (10 : Int32) ≤ nI 10 by decide), rt_some, nx_r]
    exact ⟨hq, R, hR, hW⟩
  rintro w2 ⟨q2, R, hR, hW⟩
  rw [rt_onL, rt_bind]
  refine ⟨q2.1.1, ?_⟩
  have hTC : ∀ i j, i < 10 → ((R i).testBit j = true ↔ TC E i j) := fun i j hi => ⟨hW.2.1 i j hi, fun z => TC_of (hW.1 i · hi) (fun v j' hv hj' => by
    have hv10 : v < 10 := tb_lt (n := 10) (hR i hi).2 hv
    exact hW.2.2 v hv10 i j' hi hv (hW.1 v j' hv10 hj')) z⟩
  refine Rt.mono (rt_for (Q := fun p => ∃ b, p = nI b ∧ RnS E b) (fun i s => s.2 = nI i ∧ ∃ b, s.1 = nI b ∧ b < 1024 ∧ ∀ j, b.testBit j = true ↔ j < i ∧ TC E j j) 10 ?_ ?_ ⟨rfl, 0, rfl, by decide, fun j => by
    rw [Nat.zero_testBit]
    exact ⟨fun z => (by cases z), fun z => absurd z.1 (Nat.not_lt_zero j)⟩⟩ (by decide)) ?_
  · rintro i ⟨v, c⟩ hi ⟨h1, b, h2, hb, hbits⟩
    dsimp only at h1 h2
    subst h1 h2
    unfold l_X2_circles_100
    dsimp only
    rw [if_neg (show ¬ (10 : Int32) ≤ nI i from nI_ge (b := 10) hi (by decide)), if_pos (inb_nI hi (by decide)), ix_nI (by omega), (hR i hi).1, contains_N (hR i hi).2 (by omega)]
    simp only [bI_0]
    by_cases c1 : (R i).testBit i = true
    · rw [if_neg (by rw [c1]; decide), Option.bind_some, rt_some, nx_l, sh1_N (by omega), fa_or]
      refine ⟨nI_1 i, b ||| 2 ^ i, rfl, Nat.or_lt_two_pow (n := 10) hb (Nat.pow_lt_pow_right (by decide) hi), fun j => ?_⟩
      rw [fb_bit_set]
      constructor
      · intro z
        rcases Bool.or_eq_true .. ▸ z with z | z
        · have := (hbits j).mp z; exact ⟨by omega, this.2⟩
        · rw [of_decide_eq_true z]; exact ⟨by omega, (hTC i i hi).mp c1⟩
      · rintro ⟨z1, z2⟩
        by_cases e : j = i
        · rw [decide_eq_true e]; simp
        · rw [(hbits j).mpr ⟨by omega, z2⟩]; rfl
    · rw [if_pos (bool_f c1), Option.bind_some, rt_some, nx_l]
      refine ⟨nI_1 i, b, rfl, hb, fun j => ?_⟩
      rw [hbits j]
      constructor
      · rintro ⟨z1, z2⟩; exact ⟨by omega, z2⟩
      · rintro ⟨z1, z2⟩
        by_cases e : j = i
        · subst e; exact absurd ((hTC j j hi).mpr z2) c1
        · exact ⟨by omega, z2⟩
  · rintro ⟨v, c⟩ ⟨h1, b, h2, hb, hbits⟩
    dsimp only at h1 h2
    subst h1 h2
    unfold l_X2_circles_100
    dsimp only
    rw [if_pos (show (10 : Int32) ≤ nI 10 by decide), rt_some, nx_r]
    exact ⟨b, rfl, hb, hbits⟩
  · rintro p ⟨b, e, hb⟩
    rw [rt_some]
    exact ⟨q2, b, e, hb⟩
end Rnd
