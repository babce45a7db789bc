def lo (r : Nat → Nat) : Option Nat → Nat
  | none => 268435456
  | some m => r m
theorem lo_n (r : Nat → Nat) : lo r none = 268435456 := rfl
theorem lo_s (r : Nat → Nat) (m : Nat) : lo r (some m) = r m := rfl
section Settle
variable {a : Nat} {w : Mm} {r : Nat → Nat}
theorem x7_pick (Z : Int64) (x3 : Int32) (hr : Row w (a + 1) r) (hF : ∀ m, m < 64 → r m ≤ 268435456) : wh (l_X7_settle_20 a Z x3 w) FUEL ((-1 : Int32), (268435456 : Int32), (0 : Int32)) = some (oI (amin (fun m => !btL Z m && decide (r m < 268435456)) (fun m => (r m : Int)) 64), nI (lo r (amin (fun m => !btL Z m && decide (r m < 268435456)) (fun m => (r m : Int)) 64))) := by
  apply Rt.eq
  refine rt_for (fun i s => s.2.2 = nI i ∧ s.1 = oI (amin (fun m => !btL Z m && decide (r m < 268435456)) (fun m => (r m : Int)) i) ∧ s.2.1 = nI (lo r (amin (fun m => !btL Z m && decide (r m < 268435456)) (fun m => (r m : Int)) i))) 64 ?_ ?_ ⟨rfl, rfl, rfl⟩ (by decide)
  · rintro i ⟨b, l, c⟩ hi ⟨h1, h2, h3⟩
    dsimp only at h1 h2 h3
    subst h1
    unfold l_X7_settle_20
    dsimp only
    rw [if_neg (show ¬ (64 : Int32) ≤ nI i from nI_ge (b := 64) hi (by decide)), if_pos (inb_nI hi (by decide)), ix_nI (by omega), hr i hi]
    simp only [bL_0 hi]
    have hd := hF i hi
    by_cases p1 : btL Z i = true
    · have hp : (fun m => !btL Z m && decide (r m < 268435456)) i = false := by simp [p1]
      rw [if_neg (show ¬ btL Z i = false by rw [p1]; decide), ite_self, Option.bind_some, rt_some]
      exact ⟨nI_1 i, by rw [amin_n hp]; exact h2, by rw [amin_n hp]; exact h3⟩
    · have p1' := bool_f p1
      rw [if_pos p1']
      cases e : amin (fun m => !btL Z m && decide (r m < 268435456)) (fun m => (r m : Int)) i with
      | none =>
        rw [e, lo_n] at h3
        rw [e] at h2
        rw [h3]
        by_cases q : 268435456 ≤ r i
        · have hp : (fun m => !btL Z m && decide (r m < 268435456)) i = false := by
            have : ¬ r i < 268435456 := by omega
            simp [this]
          rw [if_pos (nI_le q (by omega)), Option.bind_some, rt_some]
          exact ⟨nI_1 i, by rw [amin_n hp, e]; exact h2, by rw [amin_n hp, e]; rfl⟩
        · have hp : (fun m => !btL Z m && decide (r m < 268435456)) i = true := by
            have : r i < 268435456 := by omega
            simp [this, p1']
          rw [if_neg (nI_ge (by omega) (by decide)), Option.bind_some, rt_some]
          exact ⟨nI_1 i, by rw [amin_0 hp e]; rfl, by rw [amin_0 hp e]; rfl⟩
      | some b' =>
        rw [e, lo_s] at h3
        rw [e] at h2
        have hb := amin_some e
        have hbF := hF b' (by omega)
        have hb2 := hb.2.1
        simp at hb2
        rw [h3]
        by_cases q : r b' ≤ r i
        · rw [if_pos (nI_le q (by omega)), Option.bind_some, rt_some]
          have e2 := amin_k (i := i) e (show ¬ (r i : Int) < (r b' : Int) by omega)
          exact ⟨nI_1 i, by rw [e2]; exact h2, by rw [e2]; rfl⟩
        · have hp : (fun m => !btL Z m && decide (r m < 268435456)) i = true := by
            have : r i < 268435456 := by omega
            simp [this, p1']
          rw [if_neg (nI_ge (by omega) (by omega)), Option.bind_some, rt_some]
          have e2 := amin_l hp e (show (r i : Int) < (r b' : Int) by omega)
          exact ⟨nI_1 i, by rw [e2]; rfl, by rw [e2]; rfl⟩
  · rintro ⟨b, l, c⟩ ⟨h1, h2, h3⟩
    dsimp only at h1 h2 h3
    subst h1 h2 h3
    unfold l_X7_settle_20
    dsimp only
    rw [if_pos (show (64 : Int32) ≤ nI 64 by decide), rt_some, nx_r]
variable {G : Nat → Nat → Prop} {no an ro : Nat} {r0 : Nat → Nat} {x : Nat} {Z : Int64}
theorem x7_pair (x3 : Int32) (hL : Lay w) (hsp : isSp w a = true) (hn : an ≤ 9) (hro : ro ≤ 9) (h4 : gI w a 4 = nI an) (h5 : gI w a 5 = nI ro) (h0 : DJ G no an ro (btL Z) r0) (hx : x < 64) (hxs : btL Z x = false) (hxf : r0 x < 268435456) (hr : Row w (a + 1) r) (hA : DA G no an ro (btL Z) r0 r x) (hK : DK no an ro (btL Z) r0 r x 0) : Rt (wh (l_X7_settle_102 a Z x3 (nI x) (nI (r0 x))) FUEL ((0 : Int32), w)) (fun w' => fr (fun c => c = a + 1) w w' ∧ ∃ r', Row w' (a + 1) r' ∧ DA G no an ro (btL Z) r0 r' x ∧ DK no an ro (btL Z) r0 r' x 64) := by
  refine rt_for (fun k s => s.1 = nI k ∧ fr (fun c => c = a + 1) w s.2 ∧ ∃ r', Row s.2 (a + 1) r' ∧ DA G no an ro (btL Z) r0 r' x ∧ DK no an ro (btL Z) r0 r' x k) 64 ?_ ?_ ⟨rfl, fr.rf, r, hr, hA, hK⟩ (by decide)
  · rintro k ⟨c, w1⟩ hk ⟨h1, hf, r', hr', hA', hK'⟩
    dsimp only at h1 hf hr'
    subst h1
    have hsp1 : isSp w1 a = true := by rw [hf.sp]; exact hsp
    have e4 : gI w1 a 4 = nI an := by rw [hf.I (show ¬ a = a + 1 by omega)]; exact h4
    have e5 : gI w1 a 5 = nI ro := by rw [hf.I (show ¬ a = a + 1 by omega)]; exact h5
    unfold l_X7_settle_102
    dsimp only
    rw [if_neg (show ¬ (64 : Int32) ≤ nI k from nI_ge (b := 64) hk (by decide)), if_pos hsp1, e4, e5, nI_add]
    by_cases q0 : an + ro = 0
    · rw [q0, if_pos (by decide), rt_some, nx_r]
      exact ⟨hf, r', hr', hA', hK'.1, fun m hm hs => ⟨fun z => by omega, fun z => by omega⟩⟩
    · rw [if_neg (nI_nle (by omega) (by omega))]
      simp only [bL_1 hk]
      by_cases qb : btL Z k = true
      · rw [if_pos qb, if_pos (inb_nI hk (by decide)), ix_nI (by omega), hr' k hk, hA'.2.1 k hk (Or.inl qb)]
        have b0 := h0.1 k hk
        have b1 := h0.1 x hx
        have sx := h0.2.1 x hx hxf
        have sk := h0.2.1 k hk (h0.2.2.2.2.1 k hk qb)
        have hin : k < 64 := hk
        have v1 : ∃ v, (if nI an ≤ 0 then some (268435456 : Int32) else some (nI (r0 x) + nI (r0 k) + nI an)) = some (nI v) ∧ v < 2 ^ 31 ∧ (268435456 ≤ v ∨ Say G no an ro (x &&& k) v ∧ r0 x < v) ∧ (0 < an → v = r0 x + r0 k + an) := by
          by_cases q : an = 0
          · rw [q, if_pos (by decide)]
            exact ⟨268435456, rfl, by decide, Or.inl (Nat.le_refl _), fun z => by omega⟩
          · rw [if_neg (nI_nle (by omega) (by omega)), nI_add, nI_add]
            exact ⟨_, rfl, by omega, Or.inr ⟨sx.and (by omega) sk, by omega⟩, fun _ => rfl⟩
        have v2 : ∃ v, (if nI ro ≤ 0 then some (268435456 : Int32) else some (nI (r0 x) + nI (r0 k) + nI ro)) = some (nI v) ∧ v < 2 ^ 31 ∧ (268435456 ≤ v ∨ Say G no an ro (x ||| k) v ∧ r0 x < v) ∧ (0 < ro → v = r0 x + r0 k + ro) := by
          by_cases q : ro = 0
          · rw [q, if_pos (by decide)]
            exact ⟨268435456, rfl, by decide, Or.inl (Nat.le_refl _), fun z => by omega⟩
          · rw [if_neg (nI_nle (by omega) (by omega)), nI_add, nI_add]
            exact ⟨_, rfl, by omega, Or.inr ⟨sx.or (by omega) sk, by omega⟩, fun _ => rfl⟩
        obtain ⟨v1, ev1, hv1, hs1, hq1⟩ := v1
        obtain ⟨v2, ev2, hv2, hs2, hq2⟩ := v2
        rw [ev1, Option.bind_some, fa_and, fa_or]
        have m1 : x &&& k < 64 := and_lt64 hx
        have m2 : x ||| k < 64 := or_lt64 hx hk
        simp only [rt_bind, rt_onL]
        refine ⟨hf.lay hL, (x7_offer hr' m1 hv1 (by have := hA'.1 _ m1; have := h0.1 _ m1; omega)).mono ?_⟩
        rintro w2 ⟨f2, r2⟩
        have hA2 := hA'.ofr h0 hx hxs m1 hs1
        have hK2 := hK'.ofr (x &&& k) v1
        rw [if_pos (by rw [f2.sp]; exact hsp1), f2.I (show ¬ a = a + 1 by omega), e5]
        simp only [rt_bind, rt_onL]
        rw [ev2, rt_some]
        refine ⟨f2.lay (hf.lay hL), (x7_offer r2 m2 hv2 (by have := hA2.1 _ m2; have := h0.1 _ m2; omega)).mono ?_⟩
        rintro w3 ⟨f3, r3⟩
        simp only [rt_some, nx_l]
        refine ⟨nI_1 k, (hf.tr f2).tr f3, _, r3, hA2.ofr h0 hx hxs m2 hs2, ?_⟩
        have hK3 := hK2.ofr (x ||| k) v2
        refine ⟨hK3.1, fun m hm hs => ?_⟩
        by_cases e : m = k
        · subst e
          refine ⟨fun z => ?_, fun z => ?_⟩
          · have := ofr_at r' (x &&& m) v1
            have := ofr_le (ofr r' (x &&& m) v1) (x ||| m) v2 (x &&& m)
            have := hq1 z
            omega
          · have := ofr_at (ofr r' (x &&& m) v1) (x ||| m) v2
            have := hq2 z
            omega
        · exact hK3.2 m (by omega) hs
      · rw [if_neg qb, Option.bind_some, rt_some, nx_l]
        refine ⟨nI_1 k, hf, r', hr', hA', hK'.1, fun m hm hs => ?_⟩
        by_cases e : m = k
        · subst e; exact absurd hs qb
        · exact hK'.2 m (by omega) hs
  · rintro ⟨c, w1⟩ ⟨h1, hf, r', hr', hA', hK'⟩
    dsimp only at h1 hf hr'
    subst h1
    unfold l_X7_settle_102
    dsimp only
    rw [if_pos (show (64 : Int32) ≤ nI 64 by decide), rt_some, nx_r]
    exact ⟨hf, r', hr', hA', hK'⟩
theorem x7_settle (hG : ∀ m c, G m c → m < 64 ∧ c ≤ 9) (hL : Lay w) (hsp : isSp w a = true) (hno : no ≤ 9) (hn : an ≤ 9) (hro : ro ≤ 9) (h3 : gI w a 3 = nI no) (h4 : gI w a 4 = nI an) (h5 : gI w a 5 = nI ro) (h0 : DJ G no an ro (btL 0) r) (hr : Row w (a + 1) r) : Rt (f_X7_settle a w) (fun w' => fr (fun c => c = a + 1) w w' ∧ Row w' (a + 1) (fun m => enc 268435456 (bf (Say G no an ro) m))) := by
  unfold f_X7_settle
  rw [rt_bind]
  have hend : ∀ (Z : Int64) (w1 : Mm) (r1 : Nat → Nat), Row w1 (a + 1) r1 → DJ G no an ro (btL Z) r1 → (∀ m, m < 64 → r1 m < 268435456 → btL Z m = true) → Row w1 (a + 1) (fun m => enc 268435456 (bf (Say G no an ro) m)) := by
    intro Z w1 r1 hr1 hd hall m hm
    rw [hr1 m hm, row_ok (F := 268435456) (r := r1) (by decide) hG hno hn hro hd.1 hd.2.1 hd.2.2.1 (fun b hb z q => hd.2.2.2.2.2.1 b hb (hall b hb q) z) (fun b c hb hc z q => (hd.2.2.2.2.2.2 b c hb hc (hall b hb (by omega)) (hall c hc (by omega))).1 z) (fun b c hb hc z q => (hd.2.2.2.2.2.2 b c hb hc (hall b hb (by omega)) (hall c hc (by omega))).2 z) m hm]
  refine rt_for (fun n s => s.2.1 = nI n ∧ fr (fun c => c = a + 1) w s.2.2 ∧ ∃ r1, Row s.2.2 (a + 1) r1 ∧ DJ G no an ro (btL s.1) r1 ∧ fb_ct (btL s.1) 64 = n) 64 ?_ ?_ ⟨rfl, fr.rf, r, hr, h0, fb_ct_zero.mpr (fun k _ => bL_z k)⟩ (by decide)
  · rintro n ⟨Z, c, w1⟩ hk ⟨h1, hf, r1, hr1, hd, hct⟩
    dsimp only at h1 hf hr1 hd hct
    subst h1
    have hsp1 : isSp w1 a = true := by rw [hf.sp]; exact hsp
    unfold l_X7_settle_4
    dsimp only
    rw [if_neg (show ¬ (64 : Int32) ≤ nI n from nI_ge (b := 64) hk (by decide)), if_pos hsp1, x7_pick Z (nI n) hr1 hd.1, Option.bind_some, rt_onL]
    refine ⟨hf.lay hL, ?_⟩
    cases e : amin (fun m => !btL Z m && decide (r1 m < 268435456)) (fun m => (r1 m : Int)) 64 with
    | none =>
      rw [if_pos (by rfl), rt_some, nx_r]
      have hq := amin_none.mp e
      have : ∀ m, m < 64 → r1 m < 268435456 → btL Z m = true := fun m hm q => by
        have := hq m hm
        simp [q] at this
        exact this
      simp only [Nat.one_ne_zero, if_false, rt_some]
      exact ⟨hf, hend Z w1 r1 hr1 hd this⟩
    | some x =>
      obtain ⟨q1, q2, q3⟩ := amin_some e
      simp at q2
      have hx0 : DA G no an ro (btL Z) r1 r1 x := ⟨fun _ _ => Nat.le_refl _, fun _ _ _ => rfl, fun m hm hs => by
        by_cases q : r1 m < 268435456
        · have := (q3 m hm (by simp [hs, q])).1; omega
        · omega, hd.2.1⟩
      rw [show oI (some x) = nI x from rfl, if_neg (nm1 (by omega)), lo_s]
      have e3 : gI w1 a 3 = nI no := by rw [hf.I (show ¬ a = a + 1 by omega)]; exact h3
      rw [e3]
      have hstep : Rt (if nI no ≤ 0 then some w1 else Option.bind (f_X7_offer a ((63 : Int32) ^^^ nI x) (nI (r1 x) + nI no) w1) (fun p9 => some p9)) (fun w2 => fr (fun c => c = a + 1) w1 w2 ∧ ∃ r2, Row w2 (a + 1) r2 ∧ DA G no an ro (btL Z) r1 r2 x ∧ DK no an ro (btL Z) r1 r2 x 0) := by
        by_cases q : no = 0
        · rw [q, if_pos (by decide), rt_some]
          exact ⟨fr.rf, r1, hr1, by rw [q] at hx0; exact hx0, fun z => by omega, fun m hm => absurd hm (Nat.not_lt_zero m)⟩
        · rw [if_neg (nI_nle (by omega) (by omega)), rt_bind, nI_add, show (63 : Int32) = nI 63 from rfl, fb_xorI]
          have := hd.1 _ (xor63_lt q1)
          refine (x7_offer hr1 (xor63_lt q1) (by omega) (by omega)).mono ?_
          rintro w2 ⟨f2, r2⟩
          rw [rt_some]
          exact ⟨f2, _, r2, hx0.ofr hd q1 q2.1 (xor63_lt q1) (Or.inr ⟨(hd.2.1 x q1 q2.2).not (by omega), by omega⟩), fun z => ofr_at .., fun m hm => absurd hm (Nat.not_lt_zero m)⟩
      rw [rt_bind]
      refine hstep.mono ?_
      rintro w2 ⟨f2, r2, hr2, hA2, hK2⟩
      rw [rt_bind]
      refine (x7_pair (nI n) (f2.lay (hf.lay hL)) (by rw [f2.sp]; exact hsp1) hn hro (by rw [f2.I (show ¬ a = a + 1 by omega), hf.I (show ¬ a = a + 1 by omega)]; exact h4) (by rw [f2.I (show ¬ a = a + 1 by omega), hf.I (show ¬ a = a + 1 by omega)]; exact h5) hd q1 q2.1 q2.2 hr2 hA2 hK2).mono ?_
      rintro w3 ⟨f3, r3, hr3, hA3, hK3⟩
      rw [rt_some, nx_l]
      refine ⟨nI_1 n, (hf.tr f2).tr f3, r3, hr3, hd.next (fun m c g => (hG m c g).1) q1 q2.1 q2.2 hA3 hK3 (fun m hm => bL_set q1), ?_⟩
      show fb_ct (btL (Z ||| ((1 : Int64) <<< ((nI x).toInt64 &&& 63)))) 64 = n + 1
      have hu := fb_ct_upd (btL Z) true q1
      rw [fb_ct_cong (q := fun k => if k = x then true else btL Z k) (fun k hk => by
        rw [bL_set q1]
        by_cases e : k = x
        · subst e; simp
        · rw [if_neg e, decide_eq_false (fun q => e q.symm), Bool.or_false])]
      rw [q2.1, hct] at hu
      simpa using hu
  · rintro ⟨Z, c, w1⟩ ⟨h1, hf, r1, hr1, hd, hct⟩
    dsimp only at h1 hf hr1 hd hct
    subst h1
    unfold l_X7_settle_4
    dsimp only
    rw [if_pos (show (64 : Int32) ≤ nI 64 by decide), rt_some, nx_r]
    simp only [if_true, rt_some]
    exact ⟨hf, hend Z w1 r1 hr1 hd (fun m hm _ => fb_ct_all.mp hct m hm)⟩
end Settle
