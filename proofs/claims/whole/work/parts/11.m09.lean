/-! the reference's rows of BRIEF -/
theorem fb_sm_lt {f g : Nat → Nat} : ∀ {n : Nat}, (∀ k, k < n → f k ≤ g k) → (∃ k, k < n ∧ f k < g k) → fb_sm f n < fb_sm g n
  | 0, _, ⟨k, hk, _⟩ => absurd hk (Nat.not_lt_zero k)
  | n + 1, h, ⟨k, hk, hl⟩ => by
    rw [fb_sm_succ, fb_sm_succ]
    have h1 := fb_sm_le (n := n) (fun k hk => h k (by omega))
    have h2 := h n (by omega)
    by_cases e : k = n
    · subst e; omega
    · have := fb_sm_lt (n := n) (fun k hk => h k (by omega)) ⟨k, by omega, hl⟩
      omega
def RowM (w : Mm) (t : Nat) (r : Nat → Nat) : Prop := ∀ m, m < 64 → gI w 72 (64 * t + m) = nI (r m)
def frB (t : Nat) (w w' : Mm) : Prop := fr (fun c => c = 72) w w' ∧ ∀ j, j < 64 * t ∨ 64 * t + 64 ≤ j → gI w' 72 j = gI w 72 j
theorem frB.rf {t : Nat} {w : Mm} : frB t w w := ⟨fr.rf, fun _ _ => rfl⟩
theorem frB.tr {t : Nat} {w w' w'' : Mm} (h : frB t w w') (h' : frB t w' w'') : frB t w w'' := ⟨h.1.tr h'.1, fun j hj => (h'.2 j hj).trans (h.2 j hj)⟩
theorem frB.set {t m : Nat} {w : Mm} {v : Int32} (hm : m < 64) : frB t w (sI w 72 (64 * t + m) v) := ⟨fr.sI rfl, fun j hj => by rw [gI_sI, if_neg (by omega)]⟩
def PR (G : Nat → Nat → Prop) (no an ro : Nat) (r0 r : Nat → Nat) (mo : Bool) : Prop := (∀ m, m < 64 → r m ≤ r0 m) ∧ (∀ m, m < 64 → r m < 1000000 → Say G no an ro m (r m)) ∧ (mo = false → ∀ m, m < 64 → r m = r0 m) ∧ (mo = true → fb_sm r 64 < fb_sm r0 64)
def CP (an ro : Nat) (r : Nat → Nat) (a b : Nat) : Prop := r a + r b < 1000000 → (0 < an → r (a &&& b) ≤ r a + r b + an) ∧ (0 < ro → r (a ||| b) ≤ r a + r b + ro)
def CN (no : Nat) (r : Nat → Nat) (a : Nat) : Prop := r a < 1000000 → 0 < no → r (63 ^^^ a) ≤ r a + no
theorem PR.step {G : Nat → Nat → Prop} {no an ro : Nat} {r0 r : Nat → Nat} {mo : Bool} (h0 : ∀ m, m < 64 → r0 m ≤ 1000000) (h : PR G no an ro r0 r mo) {m v : Nat} (hm : m < 64) (hv : 1000000 ≤ v ∨ Say G no an ro m v) : PR G no an ro r0 (ofr r m v) (mo || decide (v < r m)) := by
  obtain ⟨h1, h2, h3, h4⟩ := h
  refine ⟨fun k hk => Nat.le_trans (ofr_le ..) (h1 k hk), fun k hk q => ?_, fun e k hk => ?_, fun e => ?_⟩
  · rcases ofr_or r m v k with e | ⟨rfl, e, q'⟩
    · rw [e] at q ⊢; exact h2 k hk q
    · rw [e] at q ⊢
      rcases hv with hv | hv
      · omega
      · exact hv
  · simp at e
    rw [ofr, if_neg (by omega)]
    exact h3 e.1 k hk
  · have hle : fb_sm r 64 ≤ fb_sm r0 64 := fb_sm_le h1
    by_cases q : v < r m
    · have := fb_sm_lt (f := ofr r m v) (g := r) (n := 64) (fun k _ => ofr_le ..) ⟨m, hm, by rw [ofr, if_pos ⟨rfl, q⟩]; exact q⟩
      omega
    · simp [q] at e
      have := h4 e
      have : fb_sm (ofr r m v) 64 ≤ fb_sm r 64 := fb_sm_le (fun k _ => ofr_le ..)
      omega
theorem orB {x y : Bool} : mg (if bI x = 0 then (if bI y = 0 then some (.inr (0 : Int32)) else some (.inl ())) else some (.inl ())) (fun _ : Unit => some (1 : Int32)) = some (bI (y || x)) := by
  cases x <;> cases y <;> rfl
section MBrief
variable {w : Mm} {t : Nat} {r : Nat → Nat}
theorem m_shortens {m v : Nat} (ht : t < 1024) (hr : RowM w t r) (hm : m < 64) (hv : v < 2 ^ 31) (hb : r m < 2 ^ 31) : Rt (f_X12_shortens (nI (64 * t)) (nI m) (nI v) w) (fun p => p.1 = bI (decide (v < r m)) ∧ frB t w p.2 ∧ RowM p.2 t (ofr r m v)) := by
  unfold f_X12_shortens
  rw [nI_add, if_pos (inb_nI (by omega) (by decide)), ix_nI (by omega), hr m hm]
  by_cases q : v < r m
  · rw [if_pos (nI_lt q hb), rt_some, decide_eq_true q]
    refine ⟨rfl, frB.set hm, fun k hk => ?_⟩
    rw [gI_sI]
    by_cases e : k = m
    · subst e; rw [if_pos ⟨rfl, rfl⟩, ofr, if_pos ⟨rfl, q⟩]
    · rw [if_neg (by omega), hr k hk, ofr, if_neg (by omega)]
  · rw [if_neg (nI_nlt (by omega) hv), rt_some, decide_eq_false q]
    refine ⟨rfl, frB.rf, fun k hk => ?_⟩
    rw [hr k hk, ofr, if_neg (by omega)]
variable {G : Nat → Nat → Prop} {no an ro : Nat} {r0 : Nat → Nat}
/-- the length of a join, FAR for none -/
def jf (j : Nat) : Nat := if j = 0 then 1000000 else j
theorem jf_0 {j : Nat} : jf j = 1000000 ∨ 0 < j ∧ jf j = j := by
  unfold jf
  by_cases q : j = 0
  · rw [if_pos q]; exact Or.inl rfl
  · rw [if_neg q]; exact Or.inr ⟨by omega, rfl⟩
theorem jf_lt {j : Nat} (h : j ≤ 9) : jf j ≤ 1000000 := by
  unfold jf
  split <;> omega
theorem m_inner (x3 : Int32) (ht : t < 1024) (hL : Lay w) (han : an ≤ 9) (hro : ro ≤ 9) (h0 : ∀ m, m < 64 → r0 m ≤ 1000000) {a : Nat} (ha : a < 64) {mo : Bool} (hr : RowM w t r) (hp : PR G no an ro r0 r mo) : Rt (wh (l_X12_lays_222 (nI (64 * t)) x3 (nI (jf an)) (nI (jf ro)) (nI a)) FUEL (bI mo, (0 : Int32), w)) (fun p => ∃ mo' r', p.1 = bI mo' ∧ frB t w p.2 ∧ RowM p.2 t r' ∧ PR G no an ro r0 r' mo' ∧ (mo = true → mo' = true) ∧ (mo' = false → ∀ b, b < a → CP an ro r0 a b)) := by
  refine rt_for (fun k s => ∃ mo' r', s.1 = bI mo' ∧ s.2.1 = nI k ∧ frB t w s.2.2 ∧ RowM s.2.2 t r' ∧ PR G no an ro r0 r' mo' ∧ (mo = true → mo' = true) ∧ (mo' = false → ∀ b, b < k → CP an ro r0 a b)) a ?_ ?_ ⟨mo, r, rfl, rfl, frB.rf, hr, hp, id, fun _ b hb => absurd hb (Nat.not_lt_zero b)⟩ (by omega)
  · rintro k ⟨f, c, w1⟩ hk ⟨mo1, r1, h1, h2, hf, hr1, hp1, hm1, hc1⟩
    dsimp only at h1 h2 hf hr1
    subst h1 h2
    have hk64 : k < 64 := by omega
    unfold l_X12_lays_222
    dsimp only
    rw [if_neg (nI_ge hk (by omega)), nI_add, nI_add, if_pos (inb_nI (by omega) (by decide)), if_pos (inb_nI (by omega) (by decide)), ix_nI (by omega), ix_nI (by omega), hr1 a ha, hr1 k hk64, nI_add, rt_onL]
    refine ⟨hf.1.lay hL, ?_⟩
    have b1 := hp1.1 a ha
    have b2 := hp1.1 k hk64
    have b3 := h0 a ha
    have b4 := h0 k hk64
    have bj1 := jf_lt han
    have bj2 := jf_lt hro
    by_cases q : r1 a + r1 k < 1000000
    · rw [if_pos (show nI (r1 a + r1 k) < (1000000 : Int32) from nI_lt (b := 1000000) q (by decide)), nI_add, nI_add, fa_and, fa_or]
      have m1 : a &&& k < 64 := and_lt64 ha
      have m2 : a ||| k < 64 := or_lt64 ha hk64
      have sa := hp1.2.1 a ha (by omega)
      have sk := hp1.2.1 k hk64 (by omega)
      simp only [rt_bind]
      refine (m_shortens ht hr1 m1 (by omega) (by have := hp1.1 _ m1; have := h0 _ m1; omega)).mono ?_
      rintro ⟨f2, w2⟩ ⟨e2, g2, r2⟩
      dsimp only at e2 g2 r2 ⊢
      subst e2
      have hp2 := hp1.step h0 m1 (v := r1 a + r1 k + jf an) (by
        rcases jf_0 (j := an) with e | ⟨e0, e⟩
        · left; omega
        · right; rw [e]; exact sa.and e0 sk)
      rw [orB, rt_some]
      simp only [rt_onL, rt_bind]
      refine ⟨g2.1.lay (hf.1.lay hL), (m_shortens ht r2 m2 (by omega) (by have := hp2.1 _ m2; have := h0 _ m2; omega)).mono ?_⟩
      rintro ⟨f3, w3⟩ ⟨e3, g3, r3⟩
      dsimp only at e3 g3 r3 ⊢
      subst e3
      have hp3 := hp2.step h0 m2 (v := r1 a + r1 k + jf ro) (by
        rcases jf_0 (j := ro) with e | ⟨e0, e⟩
        · left; omega
        · right; rw [e]; exact sa.or e0 sk)
      rw [orB]
      simp only [rt_some, nx_l]
      refine ⟨_, _, rfl, nI_1 k, (hf.tr g2).tr g3, r3, hp3, fun e => by rw [hm1 e]; simp, fun e b hb => ?_⟩
      simp at e
      obtain ⟨⟨e1, e2⟩, e3⟩ := e
      by_cases eb : b = k
      · subst eb
        intro _
        have z := hp1.2.2.1 e1
        rw [← z a ha, ← z b hk64, ← z _ m1, ← z _ m2]
        have z2 : ofr r1 (a &&& b) (r1 a + r1 b + jf an) (a ||| b) = r1 (a ||| b) := by rw [ofr, if_neg (by omega)]
        rw [z2] at e3
        refine ⟨fun q0 => ?_, fun q0 => ?_⟩
        · rcases jf_0 (j := an) with e | ⟨e0, e⟩
          · unfold jf at e; rw [if_neg (by omega)] at e; omega
          · omega
        · rcases jf_0 (j := ro) with e | ⟨e0, e⟩
          · unfold jf at e; rw [if_neg (by omega)] at e; omega
          · omega
      · exact hc1 e1 b (by omega)
    · rw [if_neg (show ¬ nI (r1 a + r1 k) < (1000000 : Int32) from nI_nlt (b := 1000000) (by omega) (by omega)), Option.bind_some, rt_some, nx_l]
      refine ⟨mo1, r1, rfl, nI_1 k, hf, hr1, hp1, hm1, fun e b hb => ?_⟩
      by_cases eb : b = k
      · subst eb
        intro q'
        have z := hp1.2.2.1 e
        rw [← z a ha, ← z b hk64] at q'
        exact absurd q' q
      · exact hc1 e b (by omega)
  · rintro ⟨f, c, w1⟩ ⟨mo1, r1, h1, h2, hf, hr1, hp1, hm1, hc1⟩
    dsimp only at h1 h2 hf hr1
    subst h1 h2
    unfold l_X12_lays_222
    dsimp only
    rw [if_pos (nI_le (Nat.le_refl _) (by omega)), rt_some, nx_r]
    exact ⟨mo1, r1, rfl, hf, hr1, hp1, hm1, hc1⟩
theorem m_pass (ht : t < 1024) (hL : Lay w) (hno : no ≤ 9) (han : an ≤ 9) (hro : ro ≤ 9) (h0 : ∀ m, m < 64 → r0 m ≤ 1000000) (hs : ∀ m, m < 64 → r0 m < 1000000 → Say G no an ro m (r0 m)) (hr : RowM w t r0) : Rt (wh (l_X12_lays_158 (nI (64 * t)) (nI (jf no)) (nI (jf an)) (nI (jf ro))) FUEL ((0 : Int32), (0 : Int32), w)) (fun p => ∃ mo' r', p.1 = bI mo' ∧ frB t w p.2 ∧ RowM p.2 t r' ∧ PR G no an ro r0 r' mo' ∧ (mo' = false → ∀ a, a < 64 → CN no r0 a ∧ ∀ b, b < a → CP an ro r0 a b)) := by
  refine rt_for (fun k s => ∃ mo' r', s.1 = bI mo' ∧ s.2.1 = nI k ∧ frB t w s.2.2 ∧ RowM s.2.2 t r' ∧ PR G no an ro r0 r' mo' ∧ (mo' = false → ∀ a, a < k → CN no r0 a ∧ ∀ b, b < a → CP an ro r0 a b)) 64 ?_ ?_ ⟨false, r0, rfl, rfl, frB.rf, hr, ⟨fun _ _ => Nat.le_refl _, hs, fun _ _ _ => rfl, fun e => by cases e⟩, fun _ b hb => absurd hb (Nat.not_lt_zero b)⟩ (by decide)
  · rintro k ⟨f, c, w1⟩ hk ⟨mo1, r1, h1, h2, hf, hr1, hp1, hc1⟩
    dsimp only at h1 h2 hf hr1
    subst h1 h2
    unfold l_X12_lays_158
    dsimp only
    rw [if_neg (show ¬ (64 : Int32) ≤ nI k from nI_ge (b := 64) hk (by decide)), nI_add, if_pos (inb_nI (by omega) (by decide)), ix_nI (by omega), hr1 k hk, rt_onL]
    refine ⟨hf.1.lay hL, ?_⟩
    have b1 := hp1.1 k hk
    have b3 := h0 k hk
    have bj1 := jf_lt hno
    by_cases q : r1 k < 1000000
    · rw [if_pos (show nI (r1 k) < (1000000 : Int32) from nI_lt (b := 1000000) q (by decide)), nI_add, show (63 : Int32) = nI 63 from rfl, fb_xorI]
      have m1 : 63 ^^^ k < 64 := xor63_lt hk
      have sk := hp1.2.1 k hk q
      simp only [rt_bind]
      refine (m_shortens ht hr1 m1 (by omega) (by have := hp1.1 _ m1; have := h0 _ m1; omega)).mono ?_
      rintro ⟨f2, w2⟩ ⟨e2, g2, r2⟩
      dsimp only at e2 g2 r2 ⊢
      subst e2
      have hp2 := hp1.step h0 m1 (v := r1 k + jf no) (by
        rcases jf_0 (j := no) with e | ⟨e0, e⟩
        · left; omega
        · right; rw [e]; exact sk.not e0)
      rw [orB, rt_some]
      refine (m_inner (nI (jf no)) ht (g2.1.lay (hf.1.lay hL)) han hro h0 hk r2 hp2).mono ?_
      rintro ⟨f3, w3⟩ ⟨mo3, r3, e3, g3, hr3, hp3, hm3, hc3⟩
      dsimp only at e3 g3 hr3 ⊢
      subst e3
      simp only [rt_some, nx_l]
      refine ⟨_, _, rfl, nI_1 k, (hf.tr g2).tr g3, hr3, hp3, fun e a ha => ?_⟩
      have e' : (mo1 || decide (r1 k + jf no < r1 (63 ^^^ k))) = false := by
        cases z : (mo1 || decide (r1 k + jf no < r1 (63 ^^^ k))) with
        | false => rfl
        | true => rw [hm3 z] at e; cases e
      simp at e'
      by_cases eb : a = k
      · subst eb
        refine ⟨fun _ q0 => ?_, hc3 e⟩
        have z := hp1.2.2.1 e'.1
        rw [← z a hk, ← z _ m1]
        rcases jf_0 (j := no) with e | ⟨e0, e⟩
        · unfold jf at e; rw [if_neg (by omega)] at e; omega
        · omega
      · exact hc1 e'.1 a (by omega)
    · rw [if_neg (show ¬ nI (r1 k) < (1000000 : Int32) from nI_nlt (b := 1000000) (by omega) (by omega)), Option.bind_some, rt_some, nx_l]
      refine ⟨mo1, r1, rfl, nI_1 k, hf, hr1, hp1, fun e a ha => ?_⟩
      by_cases eb : a = k
      · subst eb
        have z := hp1.2.2.1 e a hk
        exact ⟨fun q' => by omega, fun b _ q' => by omega⟩
      · exact hc1 e a (by omega)
  · rintro ⟨f, c, w1⟩ ⟨mo1, r1, h1, h2, hf, hr1, hp1, hc1⟩
    dsimp only at h1 h2 hf hr1
    subst h1 h2
    unfold l_X12_lays_158
    dsimp only
    rw [if_pos (show (64 : Int32) ≤ nI 64 by decide), rt_some, nx_r]
    exact ⟨mo1, r1, rfl, hf, hr1, hp1, hc1⟩
theorem m_relax (hG : ∀ m c, G m c → m < 64 ∧ c ≤ 9) (ht : t < 1024) (hL : Lay w) (hno : no ≤ 9) (han : an ≤ 9) (hro : ro ≤ 9) (h0 : ∀ m, m < 64 → r0 m ≤ 1000000) (hs : ∀ m, m < 64 → r0 m < 1000000 → Say G no an ro m (r0 m)) (hg : ∀ m c, G m c → r0 m ≤ c) (hr : RowM w t r0) : Rt (wh (l_X12_lays_147 (nI (64 * t)) (nI (jf no)) (nI (jf an)) (nI (jf ro))) FUEL ((1 : Int32), w)) (fun w' => frB t w w' ∧ RowM w' t (fun m => enc 1000000 (bf (Say G no an ro) m))) := by
  have hsum : ∀ r : Nat → Nat, (∀ m, m < 64 → r m ≤ 1000000) → fb_sm r 64 ≤ 64 * 1000000 := fun r h => by
    have := fb_sm_le (f := r) (g := fun _ => 1000000) h
    rw [fb_sm_const] at this
    exact this
  have hmu : ∀ (w1 : Mm) (r : Nat → Nat), RowM w1 t r → (∀ m, m < 64 → r m ≤ 1000000) → fb_sm (fun m => ix (gI w1 72 (64 * t + m))) 64 = fb_sm r 64 := fun w1 r hr1 hle => fb_sm_cong (fun k hk => by rw [hr1 k hk, ix_nI (by have := hle k hk; omega)])
  refine rt_wh (fun s => ∃ mo r, s.1 = bI mo ∧ frB t w s.2 ∧ RowM s.2 t r ∧ (∀ m, m < 64 → r m ≤ 1000000) ∧ (∀ m, m < 64 → r m < 1000000 → Say G no an ro m (r m)) ∧ (∀ m c, G m c → r m ≤ c) ∧ (mo = false → ∀ a, a < 64 → CN no r a ∧ ∀ b, b < a → CP an ro r a b)) (fun s => if s.1 = 0 then 0 else fb_sm (fun m => ix (gI s.2 72 (64 * t + m))) 64 + 1) ?_ ⟨true, r0, rfl, frB.rf, hr, h0, hs, hg, fun e => by cases e⟩ ?_
  · rintro ⟨f, w1⟩ ⟨mo, r, h1, hf, hr1, hle, hs1, hg1, hc⟩
    dsimp only at h1 hf hr1 ⊢
    subst h1
    unfold l_X12_lays_147
    dsimp only
    cases mo with
    | false =>
      rw [if_pos (by rfl), rt_some, nx_r]
      refine ⟨hf, fun m hm => ?_⟩
      have hcl := hc rfl
      rw [hr1 m hm, row_ok (F := 1000000) (r := r) (by decide) hG hno han hro hle hs1 hg1 (fun a ha z q => (hcl a ha).1 q z) (fun a b ha hb z q => ?_) (fun a b ha hb z q => ?_) m hm]
      · rcases Nat.lt_trichotomy a b with e | e | e
        · have := ((hcl b hb).2 a e (by omega)).1 z
          rw [Nat.and_comm]; omega
        · subst e; rw [Nat.and_self]; omega
        · exact ((hcl a ha).2 b e q).1 z
      · rcases Nat.lt_trichotomy a b with e | e | e
        · have := ((hcl b hb).2 a e (by omega)).2 z
          rw [Nat.or_comm]; omega
        · subst e; rw [Nat.or_self]; omega
        · exact ((hcl a ha).2 b e q).2 z
    | true =>
      rw [if_neg (by decide), rt_bind]
      refine (m_pass ht (hf.1.lay hL) hno han hro hle hs1 hr1).mono ?_
      rintro ⟨f2, w2⟩ ⟨mo2, r2, e2, g2, hr2, hp2, hc2⟩
      dsimp only at e2 g2 hr2 ⊢
      subst e2
      rw [rt_some, nx_l]
      refine ⟨⟨mo2, r2, rfl, hf.tr g2, hr2, fun m hm => Nat.le_trans (hp2.1 m hm) (hle m hm), hp2.2.1, fun m c g => Nat.le_trans (hp2.1 m (hG m c g).1) (hg1 m c g), fun e a ha => ?_⟩, ?_⟩
      · have z := hp2.2.2.1 e
        have hq := hc2 e a ha
        refine ⟨fun q q' => ?_, fun b hb q => ?_⟩
        · rw [z a ha] at q ⊢
          rw [z _ (xor63_lt ha)]
          exact hq.1 q q'
        · have hb64 : b < 64 := by omega
          rw [z a ha, z b hb64] at q ⊢
          rw [z _ (and_lt64 ha), z _ (or_lt64 ha hb64)]
          exact hq.2 b hb q
      · rw [if_neg (show ¬ bI true = 0 by decide), hmu w1 r hr1 hle, hmu w2 r2 hr2 (fun m hm => Nat.le_trans (hp2.1 m hm) (hle m hm))]
        cases mo2 with
        | false => rw [if_pos (by rfl)]; omega
        | true => rw [if_neg (show ¬ bI true = 0 by decide)]; have := hp2.2.2.2 rfl; omega
  · dsimp only
    rw [if_neg (by decide), hmu w r0 hr h0]
    have := hsum r0 h0
    unfold FUEL
    omega
end MBrief
