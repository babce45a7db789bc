/-! SAID HOW: the class -/
section How2
variable {d : Dt} {C : Ct} {t m L a : Nat} {w : Mm}
theorem jn_fits {k u v : Nat} (h : jn k u v = m) : (k = 2 → u &&& m = m) ∧ (¬ k = 2 → u ||| m = m) := by
  unfold jn at h
  refine ⟨fun e => ?_, fun e => ?_⟩
  · rw [if_pos e] at h
    rw [← h, ← Nat.and_assoc, Nat.and_self]
  · rw [if_neg e] at h
    rw [← h, ← Nat.or_assoc, Nat.or_self]
theorem fits_N {k u m : Nat} (hk : k = 2 ∨ k = 3) (hu : u < 64) (hm : m < 64) : (if nI k = (2 : Int32) then (if (nI u &&& nI m) = nI m then some (1 : Int32) else some 0) else (if (nI u ||| nI m) = nI m then some 1 else some 0)) = some (bI (decide ((k = 2 → u &&& m = m) ∧ (¬ k = 2 → u ||| m = m)))) := by
  rw [fa_and, fa_or]
  have e1 : nI (u &&& m) = nI m ↔ u &&& m = m := nI_eq (by have := and_lt64 (b := m) hu; omega) (by omega)
  have e2 : nI (u ||| m) = nI m ↔ u ||| m = m := nI_eq (by have := or_lt64 hu hm; omega) (by omega)
  rcases hk with rfl | rfl
  · rw [if_pos (by rfl)]
    by_cases c : u &&& m = m
    · rw [if_pos (e1.mpr c), decide_eq_true ⟨fun _ => c, fun z => absurd rfl z⟩]; rfl
    · rw [if_neg (fun z => c (e1.mp z)), decide_eq_false (fun z => c (z.1 rfl))]; rfl
  · rw [if_neg (by decide)]
    by_cases c : u ||| m = m
    · rw [if_pos (e2.mpr c), decide_eq_true ⟨fun z => absurd z (by decide), fun _ => c⟩]; rfl
    · rw [if_neg (fun z => c (e2.mp z)), decide_eq_false (fun z => c (z.2 (by decide)))]; rfl
theorem x7_pairOf (o : OkL d) (ht : t < 2 ^ d 0 0) (hs : SpOk d C (BF d t) t a w) (hm : m < 64) {k : Nat} (hk : k = 2 ∨ k = 3) (hjl : 0 < jl d k t) (hL : L ≤ 3000) : f_X7_pairOf a (nI k) (nI m) (nI L - nI (jl d k t)) w = some (match pr2 d t k m L with | none => -1 | some r => nI (4096 * k + r)) := by
  have j9 := jl_le o (k := k) (t := t)
  apply Rt.eq
  unfold f_X7_pairOf
  rw [rt_bind]
  have hrow : ∀ u, u < 64 → (∀ v, v < 64 → pP d t k m L (64 * u + v) = false) → amin (pP d t k m L) (fun _ => 0) (64 * u) = none → amin (pP d t k m L) (fun _ => 0) (64 * (u + 1)) = none := fun u hu hz hA => by
    rw [amin_ext (n := 64 * u) (by omega) (fun i h1 h2 => by
      have := hz (i - 64 * u) (by omega)
      rw [show 64 * u + (i - 64 * u) = i by omega] at this
      exact this)]
    exact hA
  refine Rt.mono (rt_for (Q := fun p => (p.1 = 0 ∧ pr2 d t k m L = none) ∨ ∃ u v, u < 64 ∧ v < 64 ∧ p.1 = 1 ∧ p.2.1 = nI u ∧ p.2.2 = nI v ∧ pr2 d t k m L = some (64 * u + v)) (fun u s => s = nI u ∧ amin (pP d t k m L) (fun _ => 0) (64 * u) = none) 64 ?_ ?_ ⟨rfl, rfl⟩ (by decide)) ?_
  · rintro u s hu ⟨rfl, hA⟩
    unfold l_X7_pairOf_3
    rw [if_neg (show ¬ (64 : Int32) ≤ nI u from nI_ge (b := 64) hu (by decide)), fits_N hk hu hm, Option.bind_some, if_pos (inb_nI hu (by decide)), ix_nI (by omega), show gI w (a + 1) u = nI (enc 268435456 (BF d t u)) from hs.2.2.1 u hu]
    have b1 := encF_le o (t := t) u
    simp only [bI_0]
    by_cases c1 : (k = 2 → u &&& m = m) ∧ (¬ k = 2 → u ||| m = m)
    · rw [decide_eq_true c1, if_neg (by decide)]
      by_cases c2 : jl d k t ≤ L
      · rw [pk_sub c2]
        by_cases c3 : L - jl d k t ≤ enc 268435456 (BF d t u)
        · rw [if_pos (nI_le c3 (by omega))]
          simp only [mg]
          rw [rt_some, nx_l]
          refine ⟨nI_1 u, hrow u hu (fun v hv => ?_) hA⟩
          unfold pP
          rw [show (64 * u + v) / 64 = u by omega, show (64 * u + v) % 64 = v by omega]
          rw [decide_eq_false (p := enc 1000000 (BF d t u) + enc 1000000 (BF d t v) + jl d k t = L) (fun z => by
            have := (far_eq o hL).mp z
            have := encF_pos o ht v
            omega)]
          simp
        · rw [if_neg (nI_ge (by omega) (by omega)), x7_pair66 o hs hm hk hu hjl hL c2, Option.bind_some]
          cases e : amin (fun v => decide (u ≤ v) && pP d t k m L (64 * u + v)) (fun _ => 0) 64 with
          | none =>
            dsimp only
            rw [if_pos rfl]
            simp only [mg]
            rw [rt_some, nx_l]
            refine ⟨nI_1 u, hrow u hu (fun v hv => ?_) hA⟩
            have := amin_none.mp e v hv
            cases q : pP d t k m L (64 * u + v) with
            | false => rfl
            | true =>
              exfalso
              rw [q] at this
              have h2 := q
              unfold pP at h2
              rw [show (64 * u + v) / 64 = u by omega, show (64 * u + v) % 64 = v by omega] at h2
              simp at h2
              rw [decide_eq_true h2.1.1.2] at this
              cases this
          | some v =>
            obtain ⟨q1, q2, q3⟩ := amin0_first e
            dsimp only
            rw [if_neg (by decide)]
            simp only [mg]
            rw [rt_some, nx_r]
            refine Or.inr ⟨u, v, hu, q1, rfl, rfl, rfl, ?_⟩
            simp at q2
            refine amin_uniq (by omega) q2.2 (fun j hj hpj => ⟨by omega, fun hlt => ?_⟩)
            exfalso
            by_cases c : j < 64 * u
            · rw [amin_none.mp hA j c] at hpj; cases hpj
            · have := q3 (j - 64 * u) (by omega)
              rw [show 64 * u + (j - 64 * u) = j by omega, hpj] at this
              have h2 := hpj
              unfold pP at h2
              rw [show j / 64 = u by omega, show j % 64 = j - 64 * u by omega] at h2
              simp at h2
              rw [decide_eq_true h2.1.1.2] at this
              cases this
      · have hneg : nI L - nI (jl d k t) ≤ nI (enc 268435456 (BF d t u)) := by
          have h1 := pk_sneg (a := L) (b := jl d k t) (by omega) (by omega)
          rw [fa_lt, show (0 : Int32).toInt = 0 by decide] at h1
          rw [fa_le, nI_toInt (by omega)]
          omega
        rw [if_pos hneg]
        simp only [mg]
        rw [rt_some, nx_l]
        refine ⟨nI_1 u, hrow u hu (fun v hv => ?_) hA⟩
        unfold pP
        rw [decide_eq_false (p := enc 1000000 (BF d t ((64 * u + v) / 64)) + enc 1000000 (BF d t ((64 * u + v) % 64)) + jl d k t = L) (by omega)]
        simp
    · rw [decide_eq_false c1, if_pos rfl]
      simp only [mg]
      rw [rt_some, nx_l]
      refine ⟨nI_1 u, hrow u hu (fun v hv => ?_) hA⟩
      unfold pP
      rw [show (64 * u + v) / 64 = u by omega, show (64 * u + v) % 64 = v by omega, decide_eq_false (p := jn k u v = m) (fun z => c1 (jn_fits z))]
      simp
  · rintro s ⟨rfl, hA⟩
    unfold l_X7_pairOf_3
    rw [if_pos (show (64 : Int32) ≤ nI 64 by decide), rt_some, nx_r]
    exact Or.inl ⟨rfl, hA⟩
  · rintro ⟨f, u', v'⟩ hp
    dsimp only at hp ⊢
    rcases hp with ⟨e, h⟩ | ⟨u, v, hu, hv, e1, e2, e3, h⟩
    · rw [e, if_pos rfl, rt_some, h]
    · rw [e1, if_neg (by decide), rt_some, e2, e3, pack_N (by omega) hu hv, h]
      dsimp only
      congr 1
      omega
theorem m12_word (o : OkL d) (hx : CLx d w) (ht : t < 2 ^ d 0 0) (hs : SpOk d C (BF d t) t a w) (hm : m < 64) (hL : L ≤ 3000) : wh (l_X7_manner_12 a (nI m) (nI L) w) FUEL (0 : Int32) = some (match pW d t m L with | none => (0, 0) | some i => (1, nI i)) := by
  have p10 := pow10 o.1
  have o1 := o.1
  apply Rt.eq
  unfold pW
  refine rt_for (fun i s => s = nI i ∧ amin (fun i => t.testBit i && d 1 i == 0 && d 2 i == m && d 3 i == L) (fun _ => 0) i = none) 10 ?_ ?_ ⟨rfl, rfl⟩ (by decide)
  · rintro i s hi ⟨rfl, hA⟩
    unfold l_X7_manner_12
    rw [if_neg (show ¬ (10 : Int32) ≤ nI i from nI_ge (b := 10) hi (by decide)), hs.2.1.1, contains_N (by omega) (by omega), x3_isPlain o hx (by omega), x3_meaningOf o hx (by omega), x3_lengthOf o hx (by omega)]
    simp only [bI_0, Option.bind_some]
    have hd := o.2.2.1 i hi
    have hnot : (t.testBit i && d 1 i == 0 && d 2 i == m && d 3 i == L) = false → Nx (fun s => s = nI (i + 1) ∧ amin (fun i => t.testBit i && d 1 i == 0 && d 2 i == m && d 3 i == L) (fun _ => 0) (i + 1) = none) (fun y : Nat × Int32 => y = (match amin (fun i => t.testBit i && d 1 i == 0 && d 2 i == m && d 3 i == L) (fun _ => 0) 10 with | none => (0, 0) | some i => (1, nI i))) (.inl (nI i + (1 : Int32))) := fun z => by
      rw [nx_l, amin_n z]
      exact ⟨nI_1 i, hA⟩
    by_cases c1 : t.testBit i = true
    · have hin := tb_lt ht c1
      rw [if_neg (by rw [c1]; decide), if_pos hin, if_pos hin, decide_eq_true hin, Bool.true_and]
      by_cases c2 : d 1 i = 0
      · rw [if_neg (by simp [c2])]
        by_cases c3 : d 2 i = m
        · rw [if_pos (by rw [c3])]
          by_cases c4 : d 3 i = L
          · rw [if_pos (by rw [c4])]
            simp only [mg]
            rw [rt_some, nx_r]
            have hp : (fun i => t.testBit i && d 1 i == 0 && d 2 i == m && d 3 i == L) i = true := by simp [c1, c2, c3, c4]
            have e2 : amin (fun i => t.testBit i && d 1 i == 0 && d 2 i == m && d 3 i == L) (fun _ => 0) 10 = some i := by
              refine amin_uniq hi hp (fun j hj hpj => ⟨by omega, fun hlt => ?_⟩)
              rw [amin_none.mp hA j hlt] at hpj
              cases hpj
            rw [e2]
          · rw [if_neg (fun z => c4 ((nI_eq (by omega) (by omega)).mp z))]
            simp only [mg]
            rw [rt_some]
            exact hnot (by simp [c4])
        · rw [if_neg (fun z => c3 ((nI_eq (by omega) (by omega)).mp z))]
          simp only [mg]
          rw [rt_some]
          exact hnot (by simp [c3])
      · rw [if_pos (by simp [c2])]
        simp only [mg]
        rw [rt_some]
        exact hnot (by simp [c2])
    · rw [if_pos (bool_f c1)]
      simp only [mg]
      rw [rt_some]
      exact hnot (by simp [bool_f c1])
  · rintro s ⟨rfl, hA⟩
    unfold l_X7_manner_12
    rw [if_pos (show (10 : Int32) ≤ nI 10 by decide), rt_some, nx_r, hA]
theorem x7_manner (o : OkL d) (hx : CLx d w) (ht : t < 2 ^ d 0 0) (hs : SpOk d C (BF d t) t a w) (hm : m < 64) (e : BF d t m = some L) : f_X7_manner a (nI m) w = some (nI (4096 * (hwS d t m L).1 + 64 * (hwS d t m L).2.1 + (hwS d t m L).2.2)) := by
  have hL := BF_le o e
  have hxm := xor63_lt hm
  obtain ⟨-, ⟨-, s3, s4, s5⟩, hr, -, -⟩ := id hs
  have hLm : gI w (a + 1) m = nI L := by rw [show gI w (a + 1) m = nI (enc 268435456 (BF d t m)) from hr m hm, e, enc_s]
  have j1 := jl_le o (k := 1) (t := t)
  have j2 := jl_le o (k := 2) (t := t)
  have j3 := jl_le o (k := 3) (t := t)
  have hxN : (63 : Int32) ^^^ nI m = nI (63 ^^^ m) := by rw [show (63 : Int32) = nI 63 from rfl, fb_xorI]
  unfold f_X7_manner
  rw [m63 hm, if_pos (inb_nI hm (by decide)), ix_nI (by omega), hLm, m12_word o hx ht hs hm hL, Option.bind_some]
  cases hw : pW d t m L with
  | some i =>
    have hi := (amin0_first hw).1
    dsimp only
    rw [if_neg (by decide), show (0 : Int32) = nI 0 from rfl, pack_N (by omega) (by omega) (by omega), hw_w hw]
  | none =>
    dsimp only
    rw [if_pos rfl, s3, s4, s5, hxN, if_pos (inb_nI hxm (by decide)), ix_nI (by omega), show gI w (a + 1) (63 ^^^ m) = nI (enc 268435456 (BF d t (63 ^^^ m))) from hr _ hxm, nI_add]
    have b1 := encF_le o (t := t) (63 ^^^ m)
    have hNe : enc 1000000 (BF d t (63 ^^^ m)) + jl d 1 t = L ↔ enc 268435456 (BF d t (63 ^^^ m)) + jl d 1 t = L := by
      cases q : BF d t (63 ^^^ m) with
      | none => rw [enc_n, enc_n]; omega
      | some x => rw [enc_s, enc_s]
    have hrest : ¬ hN d t m L → Option.bind (if nI (jl d 2 t) ≤ 0 then some (-1 : Int32) else Option.bind (f_X7_pairOf a (2 : Int32) (nI m) (nI L - nI (jl d 2 t)) w) (fun p10 => some p10)) (fun p7 => if p7 = (-1 : Int32) then Option.bind (f_X7_pairOf a (3 : Int32) (nI m) (nI L - nI (jl d 3 t)) w) (fun p9 => some p9) else some p7) = some (nI (4096 * (hwS d t m L).1 + 64 * (hwS d t m L).2.1 + (hwS d t m L).2.2)) := fun hn => by
      have hand : (if nI (jl d 2 t) ≤ 0 then some (-1 : Int32) else Option.bind (f_X7_pairOf a (2 : Int32) (nI m) (nI L - nI (jl d 2 t)) w) (fun p10 => some p10)) = some (match pr2 d t 2 m L with | none => -1 | some r => nI (4096 * 2 + r)) := by
        by_cases q : jl d 2 t = 0
        · rw [q, if_pos (by decide)]
          have : pr2 d t 2 m L = none := amin_none.mpr (fun j _ => by unfold pP; rw [q]; rfl)
          rw [this]
        · rw [if_neg (nI_nle (by omega) (by omega)), show (2 : Int32) = nI 2 from rfl, x7_pairOf o ht hs hm (Or.inl rfl) (by omega) hL, Option.bind_some]
      rw [hand, Option.bind_some]
      cases ha : pr2 d t 2 m L with
      | some r =>
        have hr4 := (amin0_first ha).1
        dsimp only
        rw [if_neg (nm1 (by omega)), hw_a hw hn ha]
        dsimp only
        congr 2
        omega
      | none =>
        obtain ⟨r, ho⟩ := pr2_ex o hm e hw hn ha
        have hj3 : 0 < jl d 3 t := by
          obtain ⟨-, -, -, -, x, y, -, -, -, h5⟩ := pr2_spec o hL ho
          exact h5
        dsimp only
        rw [if_pos rfl, show (3 : Int32) = nI 3 from rfl, x7_pairOf o ht hs hm (Or.inr rfl) hj3 hL, Option.bind_some, hw_o hw hn ha ho, ho]
        dsimp only
        congr 2
        omega
    by_cases c1 : jl d 1 t = 0
    · rw [c1, if_pos (by decide)]
      simp only [mg]
      exact hrest (fun z => by have := z.1; omega)
    · rw [if_neg (nI_nle (by omega) (by omega))]
      by_cases c2 : enc 268435456 (BF d t (63 ^^^ m)) + jl d 1 t = L
      · rw [if_pos (by rw [c2])]
        simp only [mg]
        have hn : hN d t m L := ⟨by omega, hNe.mpr c2⟩
        rw [hw_n hw hn, show (1 : Int32) = nI 1 from rfl, show (0 : Int32) = nI 0 from rfl, pack_N (by decide) hxm (by decide)]
      · rw [if_neg (fun z => c2 ((nI_eq (by omega) (by omega)).mp z))]
        simp only [mg]
        exact hrest (fun z => c2 (hNe.mp z.2))
end How2
