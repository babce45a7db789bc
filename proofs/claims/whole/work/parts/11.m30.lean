/-! SAID HOW -/
/-- the WORD, of like ones the lowest, by which a MEANING is said for L -/
def pW (d : Dt) (t m L : Nat) : Option Nat := amin (fun i => t.testBit i && d 1 i == 0 && d 2 i == m && d 3 i == L) (fun _ => 0) 10
/-- two MEANINGS, in one number, that are joined -/
def jn (k a b : Nat) : Nat := if k = 2 then a &&& b else a ||| b
noncomputable def pP (d : Dt) (t k m L r : Nat) : Bool := decide (0 < jl d k t) && decide (r / 64 ≤ r % 64) && decide (jn k (r / 64) (r % 64) = m) && decide (enc 1000000 (BF d t (r / 64)) + enc 1000000 (BF d t (r % 64)) + jl d k t = L)
noncomputable def pr2 (d : Dt) (t k m L : Nat) : Option Nat := amin (pP d t k m L) (fun _ => 0) 4096
noncomputable def hN (d : Dt) (t m L : Nat) : Prop := 0 < jl d 1 t ∧ enc 1000000 (BF d t (63 ^^^ m)) + jl d 1 t = L
noncomputable def hwS (d : Dt) (t m L : Nat) : Nat × Nat × Nat := match pW d t m L with
  | some i => (0, i, 0)
  | none => @ite _ (hN d t m L) (Classical.propDecidable _) (1, 63 ^^^ m, 0) (match pr2 d t 2 m L with
    | some r => (2, r / 64, r % 64)
    | none => match pr2 d t 3 m L with
      | some r => (3, r / 64, r % 64)
      | none => (4, 0, 0))
section How
variable {d : Dt} {C : Ct} {t m L : Nat}
theorem amin0_first {p : Nat → Bool} {n b : Nat} (h : amin p (fun _ => 0) n = some b) : b < n ∧ p b = true ∧ ∀ j, j < b → p j = false := by
  obtain ⟨h1, h2, h3⟩ := amin_some h
  refine ⟨h1, h2, fun j hj => ?_⟩
  cases e : p j with
  | false => rfl
  | true => have := (h3 j (by omega) e).2 hj; omega
theorem hw_w {i : Nat} (h : pW d t m L = some i) : hwS d t m L = (0, i, 0) := by unfold hwS; rw [h]
theorem hw_n (h : pW d t m L = none) (hn : hN d t m L) : hwS d t m L = (1, 63 ^^^ m, 0) := by unfold hwS; rw [h]; exact if_pos hn
theorem hw_a {r : Nat} (h : pW d t m L = none) (hn : ¬ hN d t m L) (ha : pr2 d t 2 m L = some r) : hwS d t m L = (2, r / 64, r % 64) := by
  unfold hwS; rw [h]; dsimp only; rw [if_neg hn, ha]
theorem hw_o {r : Nat} (h : pW d t m L = none) (hn : ¬ hN d t m L) (ha : pr2 d t 2 m L = none) (ho : pr2 d t 3 m L = some r) : hwS d t m L = (3, r / 64, r % 64) := by
  unfold hwS; rw [h]; dsimp only; rw [if_neg hn, ha]; dsimp only; rw [ho]
/-- what can be said is said somehow -/
theorem pr2_ex (o : OkL d) (hm : m < 64) (e : BF d t m = some L) (h : pW d t m L = none) (hn : ¬ hN d t m L) (ha : pr2 d t 2 m L = none) : ∃ r, pr2 d t 3 m L = some r := by
  obtain ⟨hS, hmin⟩ := bf_some.mp e
  have sub : ∀ a x, Say (Gd d t) (jl d 1 t) (jl d 2 t) (jl d 3 t) a x → a < 64 ∧ ∃ x', BF d t a = some x' ∧ x' ≤ x := fun a x hs => by
    refine ⟨hs.lt (fun m c g => (Gd_ok o g).1), ?_⟩
    cases q : BF d t a with
    | none => exact absurd hs (bf_none.mp q x)
    | some x' => exact ⟨x', rfl, (bf_some.mp q).2 x hs⟩
  rcases hS.last with g | ⟨a, x, h0, hs, e1, e2⟩ | ⟨a, x, b, y, h0, hs, hs', e1, e2⟩ | ⟨a, x, b, y, h0, hs, hs', e1, e2⟩
  · obtain ⟨i, h1, h2, h3, h4, h5⟩ := g
    have := amin_none.mp h i h1
    simp [h2, h3, h4, h5] at this
  · exfalso
    obtain ⟨ha64, x', q1, q2⟩ := sub a x hs
    have h3 := hmin _ (e1 ▸ ((bf_some.mp q1).1.not h0))
    refine hn ⟨h0, ?_⟩
    rw [e1, xx63, q1, enc_s]
    omega
  · exfalso
    obtain ⟨ha64, x', q1, q2⟩ := sub a x hs
    obtain ⟨hb64, y', q3, q4⟩ := sub b y hs'
    have h3 := hmin _ (e1 ▸ ((bf_some.mp q1).1.and h0 (bf_some.mp q3).1))
    have key : ∀ u v, u < 64 → v < 64 → u ≤ v → u &&& v = m → enc 1000000 (BF d t u) + enc 1000000 (BF d t v) + jl d 2 t = L → False := fun u v hu hv huv hj hl => by
      have := amin_none.mp ha (64 * u + v) (by omega)
      unfold pP jn at this
      rw [show (64 * u + v) / 64 = u by omega, show (64 * u + v) % 64 = v by omega, decide_eq_true h0, decide_eq_true huv, if_pos rfl, decide_eq_true hj, decide_eq_true hl] at this
      cases this
    by_cases c : a ≤ b
    · exact key a b ha64 hb64 c e1.symm (by rw [q1, q3, enc_s, enc_s]; omega)
    · exact key b a hb64 ha64 (by omega) (by rw [Nat.and_comm]; exact e1.symm) (by rw [q1, q3, enc_s, enc_s]; omega)
  · obtain ⟨ha64, x', q1, q2⟩ := sub a x hs
    obtain ⟨hb64, y', q3, q4⟩ := sub b y hs'
    have h3 := hmin _ (e1 ▸ ((bf_some.mp q1).1.or h0 (bf_some.mp q3).1))
    cases q : pr2 d t 3 m L with
    | some r => exact ⟨r, rfl⟩
    | none =>
      exfalso
      have key : ∀ u v, u < 64 → v < 64 → u ≤ v → u ||| v = m → enc 1000000 (BF d t u) + enc 1000000 (BF d t v) + jl d 3 t = L → False := fun u v hu hv huv hj hl => by
        have := amin_none.mp q (64 * u + v) (by omega)
        unfold pP jn at this
        rw [show (64 * u + v) / 64 = u by omega, show (64 * u + v) % 64 = v by omega, decide_eq_true h0, decide_eq_true huv, if_neg (by decide), decide_eq_true hj, decide_eq_true hl] at this
        cases this
      by_cases c : a ≤ b
      · exact key a b ha64 hb64 c e1.symm (by rw [q1, q3, enc_s, enc_s]; omega)
      · exact key b a hb64 ha64 (by omega) (by rw [Nat.or_comm]; exact e1.symm) (by rw [q1, q3, enc_s, enc_s]; omega)
theorem pr2_spec {k r : Nat} (o : OkL d) (hL : L ≤ 3000) (h : pr2 d t k m L = some r) : r < 4096 ∧ r / 64 < 64 ∧ r % 64 < 64 ∧ jn k (r / 64) (r % 64) = m ∧ ∃ x y, BF d t (r / 64) = some x ∧ BF d t (r % 64) = some y ∧ x + y + jl d k t = L ∧ 0 < jl d k t := by
  obtain ⟨h1, h2, -⟩ := amin0_first h
  unfold pP at h2
  simp at h2
  obtain ⟨⟨⟨h3, h4⟩, h5⟩, h6⟩ := h2
  refine ⟨h1, by omega, by omega, h5, ?_⟩
  cases e1 : BF d t (r / 64) with
  | none => rw [e1, enc_n] at h6; omega
  | some x =>
    cases e2 : BF d t (r % 64) with
    | none => rw [e2, enc_n] at h6; omega
    | some y => rw [e1, e2, enc_s, enc_s] at h6; exact ⟨x, y, rfl, rfl, h6, h3⟩
/-- the parts of what is said -/
def Dep (d : Dt) (t m x : Nat) : Prop := ∃ L, BF d t m = some L ∧ (((hwS d t m L).1 = 1 ∧ x = (hwS d t m L).2.1) ∨ (2 ≤ (hwS d t m L).1 ∧ (x = (hwS d t m L).2.1 ∨ x = (hwS d t m L).2.2)))
theorem hwS_ok (o : OkL d) (hm : m < 64) (e : BF d t m = some L) : ((hwS d t m L).1 = 0 ∧ (hwS d t m L).2.1 < 10 ∧ t.testBit (hwS d t m L).2.1 = true ∧ (hwS d t m L).2.2 = 0) ∨ ((hwS d t m L).1 = 1 ∧ (hwS d t m L).2.1 < 64 ∧ (hwS d t m L).2.2 = 0 ∧ 0 < jl d 1 t ∧ ∃ x, BF d t (hwS d t m L).2.1 = some x) ∨ (((hwS d t m L).1 = 2 ∨ (hwS d t m L).1 = 3) ∧ (hwS d t m L).2.1 < 64 ∧ (hwS d t m L).2.2 < 64 ∧ 0 < jl d (hwS d t m L).1 t ∧ (∃ x, BF d t (hwS d t m L).2.1 = some x) ∧ ∃ x, BF d t (hwS d t m L).2.2 = some x) := by
  have hL := BF_le o e
  cases h : pW d t m L with
  | some i =>
    rw [hw_w h]
    obtain ⟨h1, h2, -⟩ := amin0_first h
    simp at h2
    exact Or.inl ⟨rfl, h1, h2.1.1.1, rfl⟩
  | none =>
    by_cases hn : hN d t m L
    · rw [hw_n h hn]
      refine Or.inr (Or.inl ⟨rfl, xor63_lt hm, rfl, hn.1, ?_⟩)
      cases q : BF d t (63 ^^^ m) with
      | none => have := hn.2; rw [q, enc_n] at this; omega
      | some x => exact ⟨x, rfl⟩
    · cases ha : pr2 d t 2 m L with
      | some r =>
        rw [hw_a h hn ha]
        obtain ⟨-, h1, h2, -, x, y, h3, h4, -, h5⟩ := pr2_spec o hL ha
        exact Or.inr (Or.inr ⟨Or.inl rfl, h1, h2, h5, ⟨x, h3⟩, ⟨y, h4⟩⟩)
      | none =>
        obtain ⟨r, ho⟩ := pr2_ex o hm e h hn ha
        rw [hw_o h hn ha ho]
        obtain ⟨-, h1, h2, -, x, y, h3, h4, -, h5⟩ := pr2_spec o hL ho
        exact Or.inr (Or.inr ⟨Or.inr rfl, h1, h2, h5, ⟨x, h3⟩, ⟨y, h4⟩⟩)
theorem Dep_ok (o : OkL d) (hm : m < 64) {x : Nat} (h : Dep d t m x) : x < 64 ∧ ∃ y, BF d t x = some y := by
  obtain ⟨L, e, h⟩ := h
  rcases hwS_ok o hm e with ⟨h1, -⟩ | ⟨h1, h2, -, -, h4⟩ | ⟨h1, h2, h3, -, h4, h5⟩
  · omega
  · rcases h with ⟨-, rfl⟩ | ⟨z, -⟩
    · exact ⟨h2, h4⟩
    · omega
  · rcases h with ⟨z, -⟩ | ⟨-, rfl | rfl⟩
    · omega
    · exact ⟨h2, h4⟩
    · exact ⟨h3, h5⟩
-- the class
theorem pack_N {k a b : Nat} (hk : k < 4) (ha : a < 64) (hb : b < 64) : f_X11_packManner (nI k) (nI a) (nI b) = nI (4096 * k + 64 * a + b) := by
  unfold f_X11_packManner
  rw [pk_shlN _ 12 (by decide) (by omega), pk_shlN _ 6 (by decide) (by omega), show k * 2 ^ 12 = 2 ^ 12 * k by omega, fa_or_sum k (k := 12) (by omega), show 2 ^ 12 * k + a * 2 ^ 6 = 2 ^ 6 * (64 * k + a) by omega, fa_or_sum _ (k := 6) hb]
  congr 1
  omega
theorem pack_k {k a b : Nat} (hk : k < 4) (ha : a < 64) (hb : b < 64) : f_X11_mannerKind (nI (4096 * k + 64 * a + b)) = nI k ∧ f_X11_mannerFirst (nI (4096 * k + 64 * a + b)) = nI a ∧ f_X11_mannerSecond (nI (4096 * k + 64 * a + b)) = nI b := by
  unfold f_X11_mannerKind f_X11_mannerFirst f_X11_mannerSecond
  refine ⟨?_, ?_, ?_⟩
  · rw [pk_shrN (by omega) _ 12 (by decide)]
    congr 1; omega
  · rw [pk_shrN (by omega) _ 6 (by decide), show (63 : Int32) = nI (2 ^ 6 - 1) from rfl, fa_mask]
    congr 1; omega
  · rw [show (63 : Int32) = nI (2 ^ 6 - 1) from rfl, fa_mask]
    congr 1; omega
theorem far_eq (o : OkL d) {u v j : Nat} (hL : L ≤ 3000) : enc 1000000 (BF d t u) + enc 1000000 (BF d t v) + j = L ↔ enc 268435456 (BF d t u) + enc 268435456 (BF d t v) + j = L := by
  cases e1 : BF d t u with
  | none => rw [enc_n, enc_n]; omega
  | some x =>
    cases e2 : BF d t v with
    | none => rw [enc_n, enc_n]; omega
    | some y => rw [enc_s, enc_s, enc_s, enc_s]
theorem encF_le (o : OkL d) (u : Nat) : enc 268435456 (BF d t u) ≤ 268435456 := enc_le (fun b e => by have := BF_le o e; omega)
theorem encF_pos (o : OkL d) (ht : t < 2 ^ d 0 0) (u : Nat) : 0 < enc 268435456 (BF d t u) := by
  cases e : BF d t u with
  | none => rw [enc_n]; omega
  | some b => rw [enc_s]; exact BF_pos o ht e
theorem jn_N {k a b : Nat} (hk : k = 2 ∨ k = 3) : (if nI k = (2 : Int32) then some (nI a &&& nI b) else some (nI a ||| nI b)) = some (nI (jn k a b)) := by
  unfold jn
  rcases hk with rfl | rfl
  · rw [if_pos (by rfl), if_pos rfl, fa_and]
  · rw [if_neg (by decide), if_neg (by decide), fa_or]
theorem jn_lt {k a b : Nat} (ha : a < 64) (hb : b < 64) : jn k a b < 64 := by
  unfold jn
  split
  · exact and_lt64 ha
  · exact or_lt64 ha hb
variable {a : Nat} {w : Mm}
theorem x7_pair66 (o : OkL d) (hs : SpOk d C (BF d t) t a w) (hm : m < 64) {k u : Nat} (hk : k = 2 ∨ k = 3) (hu : u < 64) (hjl : 0 < jl d k t) (hL : L ≤ 3000) (hLj : jl d k t ≤ L) : wh (l_X7_pairOf_66 a (nI k) (nI m) (nI (L - jl d k t)) (nI u) w) FUEL (nI u) = some (match amin (fun v => decide (u ≤ v) && pP d t k m L (64 * u + v)) (fun _ => 0) 64 with | none => (0, 0) | some v => (1, nI v)) := by
  have j9 := jl_le o (k := k) (t := t)
  have hP : ∀ v, v < 64 → pP d t k m L (64 * u + v) = (decide (u ≤ v) && decide (jn k u v = m) && decide (enc 268435456 (BF d t u) + enc 268435456 (BF d t v) + jl d k t = L)) := fun v hv => by
    unfold pP
    rw [show (64 * u + v) / 64 = u by omega, show (64 * u + v) % 64 = v by omega, decide_eq_true hjl, Bool.true_and]
    congr 1
    exact decide_eq_decide.mpr (far_eq o hL)
  apply Rt.eq
  refine rt_for (fun k' s => s = nI (u + k') ∧ amin (fun v => decide (u ≤ v) && pP d t k m L (64 * u + v)) (fun _ => 0) (u + k') = none) (64 - u) ?_ ?_ ⟨rfl, amin_none.mpr (fun j hj => by rw [decide_eq_false (by omega)]; rfl)⟩ (by omega)
  · rintro k' s hk' ⟨rfl, hA⟩
    have hv : u + k' < 64 := by omega
    unfold l_X7_pairOf_66
    rw [if_neg (show ¬ (64 : Int32) ≤ nI (u + k') from nI_ge (b := 64) hv (by decide)), jn_N hk, Option.bind_some, if_pos (inb_nI hu (by decide)), if_pos (inb_nI hv (by decide)), ix_nI (by omega), ix_nI (by omega), show gI w (a + 1) u = nI (enc 268435456 (BF d t u)) from hs.2.2.1 u hu, show gI w (a + 1) (u + k') = nI (enc 268435456 (BF d t (u + k'))) from hs.2.2.1 _ hv, nI_add]
    have b1 := encF_le o (t := t) u
    have b2 := encF_le o (t := t) (u + k')
    have hnot : pP d t k m L (64 * u + (u + k')) = false → Nx (fun s => s = nI (u + (k' + 1)) ∧ amin (fun v => decide (u ≤ v) && pP d t k m L (64 * u + v)) (fun _ => 0) (u + (k' + 1)) = none) (fun y : Nat × Int32 => y = (match amin (fun v => decide (u ≤ v) && pP d t k m L (64 * u + v)) (fun _ => 0) 64 with | none => (0, 0) | some v => (1, nI v))) (.inl (nI (u + k') + (1 : Int32))) := fun z => by
      rw [nx_l]
      refine ⟨nI_1 _, ?_⟩
      rw [show u + (k' + 1) = u + k' + 1 by omega, amin_n (by rw [z]; simp)]
      exact hA
    rw [hP _ hv, decide_eq_true (show u ≤ u + k' by omega), Bool.true_and] at hnot
    by_cases c1 : jn k u (u + k') = m
    · rw [if_pos (by rw [c1])]
      rw [decide_eq_true c1, Bool.true_and] at hnot
      by_cases c2 : enc 268435456 (BF d t u) + enc 268435456 (BF d t (u + k')) + jl d k t = L
      · rw [if_pos (by rw [show enc 268435456 (BF d t u) + enc 268435456 (BF d t (u + k')) = L - jl d k t by omega])]
        simp only [mg]
        rw [rt_some, nx_r]
        have hp : (fun v => decide (u ≤ v) && pP d t k m L (64 * u + v)) (u + k') = true := by
          dsimp only
          rw [hP _ hv, decide_eq_true (show u ≤ u + k' by omega), decide_eq_true c1, decide_eq_true c2]; rfl
        have e1 := amin_0 (p := fun v => decide (u ≤ v) && pP d t k m L (64 * u + v)) (v := fun _ => 0) hp hA
        have e2 : amin (fun v => decide (u ≤ v) && pP d t k m L (64 * u + v)) (fun _ => 0) 64 = some (u + k') := by
          refine amin_uniq hv hp (fun j hj hpj => ⟨by omega, fun hlt => ?_⟩)
          rw [amin_none.mp hA j hlt] at hpj
          cases hpj
        rw [e2]
      · rw [if_neg (fun z => c2 (by have := (nI_eq (by omega) (by omega)).mp z; omega))]
        simp only [mg]
        rw [rt_some]
        exact hnot (decide_eq_false c2)
    · rw [if_neg (fun z => c1 ((nI_eq (by have := jn_lt (k := k) hu hv; omega) (by omega)).mp z))]
      simp only [mg]
      rw [rt_some]
      refine hnot ?_
      rw [decide_eq_false c1]; rfl
  · rintro s ⟨rfl, hA⟩
    rw [show u + (64 - u) = 64 by omega] at hA ⊢
    unfold l_X7_pairOf_66
    rw [if_pos (show (64 : Int32) ≤ nI 64 by decide), rt_some, nx_r, hA]
end How
