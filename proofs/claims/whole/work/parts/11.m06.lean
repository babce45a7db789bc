/-! frames: only ints and longs of the cells in P are changed -/
def fr (P : Nat → Prop) (w w' : Mm) : Prop := w'.2.2 = w.2.2 ∧ ∀ c, ¬ P c → (∀ k, gI w' c k = gI w c k) ∧ ∀ k, gL w' c k = gL w c k
section Fr
variable {P Q : Nat → Prop} {w w' w'' : Mm}
theorem fr.rf : fr P w w := ⟨rfl, fun _ _ => ⟨fun _ => rfl, fun _ => rfl⟩⟩
theorem fr.tr (h : fr P w w') (h' : fr P w' w'') : fr P w w'' := ⟨h'.1.trans h.1, fun c hc => ⟨fun k => ((h'.2 c hc).1 k).trans ((h.2 c hc).1 k), fun k => ((h'.2 c hc).2 k).trans ((h.2 c hc).2 k)⟩⟩
theorem fr.sub (h : fr P w w') (hs : ∀ c, P c → Q c) : fr Q w w' := ⟨h.1, fun c hc => h.2 c (fun q => hc (hs c q))⟩
theorem fr.sI {c k : Nat} {v : Int32} (h : P c) : fr P w (sI w c k v) := ⟨rfl, fun c' hc => ⟨fun j => if_neg (fun e : c' = c ∧ j = k => hc (e.1 ▸ h)), fun _ => rfl⟩⟩
theorem fr.sL {c k : Nat} {v : Int64} (h : P c) : fr P w (sL w c k v) := ⟨rfl, fun c' hc => ⟨fun _ => rfl, fun j => if_neg (fun e : c' = c ∧ j = k => hc (e.1 ▸ h))⟩⟩
theorem fr.lay (h : fr P w w') (hl : Lay w) : Lay w' := by
  unfold Lay at hl ⊢
  rw [h.1]
  exact hl
theorem fr.K (h : fr P w w') (c : Nat) : gK w' c = gK w c := by
  unfold gK
  rw [h.1]
theorem fr.R (h : fr P w w') (c k : Nat) : gR w' c k = gR w c k := by
  unfold gR
  rw [h.1]
theorem fr.sp (h : fr P w w') (a : Nat) : isSp w' a = isSp w a := by
  unfold isSp
  simp only [h.K, h.R]
theorem fr.I (h : fr P w w') {c : Nat} (hc : ¬ P c) (k : Nat) : gI w' c k = gI w c k := (h.2 c hc).1 k
theorem fr.L (h : fr P w w') {c : Nat} (hc : ¬ P c) (k : Nat) : gL w' c k = gL w c k := (h.2 c hc).2 k
end Fr
/-- the ints of a cell, as numbers -/
def Row (w : Mm) (c : Nat) (r : Nat → Nat) : Prop := ∀ m, m < 64 → gI w c m = nI (r m)
def ofr (r : Nat → Nat) (m v : Nat) : Nat → Nat := fun k => if k = m ∧ v < r m then v else r k
theorem ofr_le (r : Nat → Nat) (m v k : Nat) : ofr r m v k ≤ r k := by
  unfold ofr
  split
  · rename_i h; rw [h.1]; omega
  · exact Nat.le_refl _
theorem ofr_at (r : Nat → Nat) (m v : Nat) : ofr r m v m ≤ v := by
  unfold ofr
  split
  · exact Nat.le_refl _
  · rename_i h
    have : ¬ v < r m := fun q => h ⟨rfl, q⟩
    omega
theorem ofr_or (r : Nat → Nat) (m v k : Nat) : ofr r m v k = r k ∨ (k = m ∧ ofr r m v k = v ∧ v < r m) := by
  unfold ofr
  by_cases h : k = m ∧ v < r m
  · rw [if_pos h]; exact Or.inr ⟨h.1, rfl, h.2⟩
  · rw [if_neg h]; exact Or.inl rfl
theorem m63 {m : Nat} (hm : m < 64) : nI m &&& (63 : Int32) = nI m := by
  rw [show (63 : Int32) = nI (2 ^ 6 - 1) from rfl, fa_mask, Nat.mod_eq_of_lt hm]
theorem x7_offer {w : Mm} {a m v : Nat} {r : Nat → Nat} (hr : Row w (a + 1) r) (hm : m < 64) (hv : v < 2 ^ 31) (hb : r m < 2 ^ 31) : Rt (f_X7_offer a (nI m) (nI v) w) (fun w' => fr (fun c => c = a + 1) w w' ∧ Row w' (a + 1) (ofr r m v)) := by
  unfold f_X7_offer
  rw [m63 hm, if_pos (inb_nI hm (by decide)), ix_nI (by omega), hr m hm]
  by_cases q : r m ≤ v
  · rw [if_pos (nI_le q (by omega)), rt_some]
    refine ⟨fr.rf, fun k hk => ?_⟩
    rw [hr k hk, ofr, if_neg (by omega)]
  · rw [if_neg (nI_ge (by omega) (by omega)), rt_some]
    refine ⟨fr.sI rfl, fun k hk => ?_⟩
    rw [gI_sI]
    by_cases e : k = m
    · subst e
      rw [if_pos ⟨rfl, rfl⟩, ofr, if_pos (by omega)]
    · rw [if_neg (by omega), hr k hk, ofr, if_neg (by omega)]
/-! the shortest open one is settled -/

def DJ (G : Nat → Nat → Prop) (no an ro : Nat) (S : Nat → Bool) (r : Nat → Nat) : Prop :=
  (∀ m, m < 64 → r m ≤ 268435456) ∧ (∀ m, m < 64 → r m < 268435456 → Say G no an ro m (r m)) ∧ (∀ m c, G m c → r m ≤ c) ∧ (∀ s u, s < 64 → u < 64 → S s = true → S u = false → r s ≤ r u) ∧ (∀ s, s < 64 → S s = true → r s < 268435456) ∧ (∀ a, a < 64 → S a = true → 0 < no → r (63 ^^^ a) ≤ r a + no) ∧ ∀ a b, a < 64 → b < 64 → S a = true → S b = true → (0 < an → r (a &&& b) ≤ r a + r b + an) ∧ (0 < ro → r (a ||| b) ≤ r a + r b + ro)
def DA (G : Nat → Nat → Prop) (no an ro : Nat) (S : Nat → Bool) (r0 r : Nat → Nat) (x : Nat) : Prop :=
  (∀ m, m < 64 → r m ≤ r0 m) ∧ (∀ m, m < 64 → S m = true ∨ m = x → r m = r0 m) ∧ (∀ m, m < 64 → S m = false → r0 x ≤ r m) ∧ ∀ m, m < 64 → r m < 268435456 → Say G no an ro m (r m)
def DK (no an ro : Nat) (S : Nat → Bool) (r0 r : Nat → Nat) (x k : Nat) : Prop :=
  (0 < no → r (63 ^^^ x) ≤ r0 x + no) ∧ ∀ m, m < k → S m = true → (0 < an → r (x &&& m) ≤ r0 x + r0 m + an) ∧ (0 < ro → r (x ||| m) ≤ r0 x + r0 m + ro)
section Dij
variable {G : Nat → Nat → Prop} {no an ro : Nat} {S : Nat → Bool} {r0 r : Nat → Nat} {x : Nat}
theorem DA.ofr (h0 : DJ G no an ro S r0) (hx : x < 64) (hxs : S x = false) (h : DA G no an ro S r0 r x) {m v : Nat} (hm : m < 64) (hv : 268435456 ≤ v ∨ Say G no an ro m v ∧ r0 x < v) : DA G no an ro S r0 (ofr r m v) x := by
  obtain ⟨h1, h2, h3, h4⟩ := h
  refine ⟨fun k hk => Nat.le_trans (ofr_le ..) (h1 k hk), fun k hk hs => ?_, fun k hk hs => ?_, fun k hk hf => ?_⟩
  · rcases ofr_or r m v k with e | ⟨rfl, e, q⟩
    · rw [e]; exact h2 k hk hs
    · exfalso
      have a1 := h2 k hk hs
      rcases hv with hv | ⟨-, hv⟩
      · have := h0.1 k hk; omega
      · rcases hs with hs | rfl
        · have := h0.2.2.2.1 k x hk hx hs hxs; omega
        · omega
  · rcases ofr_or r m v k with e | ⟨rfl, e, q⟩
    · rw [e]; exact h3 k hk hs
    · rcases hv with hv | ⟨-, hv⟩
      · have := h0.1 k hk; have := h1 k hk; omega
      · omega
  · rcases ofr_or r m v k with e | ⟨rfl, e, q⟩
    · rw [e] at hf ⊢; exact h4 k hk hf
    · rw [e] at hf ⊢
      rcases hv with hv | ⟨hv, -⟩
      · omega
      · exact hv
theorem DK.ofr {k : Nat} (h : DK no an ro S r0 r x k) (m v : Nat) : DK no an ro S r0 (ofr r m v) x k :=
  ⟨fun h0 => Nat.le_trans (ofr_le ..) (h.1 h0), fun j hj hs => ⟨fun h0 => Nat.le_trans (ofr_le ..) ((h.2 j hj hs).1 h0), fun h0 => Nat.le_trans (ofr_le ..) ((h.2 j hj hs).2 h0)⟩⟩
theorem DJ.next (hG : ∀ m c, G m c → m < 64) (h0 : DJ G no an ro S r0) (hx : x < 64) (hxs : S x = false) (hxf : r0 x < 268435456) (h : DA G no an ro S r0 r x) (hk : DK no an ro S r0 r x 64) {S' : Nat → Bool} (hS : ∀ m, m < 64 → S' m = (S m || decide (x = m))) : DJ G no an ro S' r := by
  obtain ⟨h1, h2, h3, h4⟩ := h
  obtain ⟨g1, g2, g3, g4, g5, g6, g7⟩ := h0
  have hin : ∀ m, m < 64 → S' m = true → S m = true ∨ m = x := fun m hm e => by
    rw [hS m hm] at e
    rcases Bool.or_eq_true .. ▸ e with q | q
    · exact Or.inl q
    · exact Or.inr (of_decide_eq_true q).symm
  have hout : ∀ m, m < 64 → S' m = false → S m = false := fun m hm e => by
    rw [hS m hm] at e
    simp at e
    exact e.1
  refine ⟨fun m hm => Nat.le_trans (h1 m hm) (g1 m hm), h4, fun m c g => ?_, fun s u hs hu e e' => ?_, fun s hs e => ?_, fun a ha e hn => ?_, fun a b ha hb e e' => ?_⟩
  · exact Nat.le_trans (h1 m (hG m c g)) (g3 m c g)
  · rw [h2 s hs (hin s hs e)]
    have := h3 u hu (hout u hu e')
    rcases hin s hs e with q | rfl
    · have := g4 s x hs hx q hxs; omega
    · exact this
  · rw [h2 s hs (hin s hs e)]
    rcases hin s hs e with q | rfl
    · exact g5 s hs q
    · exact hxf
  · rw [h2 a ha (hin a ha e)]
    rcases hin a ha e with q | rfl
    · exact Nat.le_trans (h1 _ (xor63_lt ha)) (g6 a ha q hn)
    · exact hk.1 hn
  · have ea := h2 a ha (hin a ha e)
    have eb := h2 b hb (hin b hb e')
    rw [ea, eb]
    rcases hin a ha e with q | rfl
    · rcases hin b hb e' with q' | rfl
      · exact ⟨fun z => Nat.le_trans (h1 _ (and_lt64 ha)) ((g7 a b ha hb q q').1 z), fun z => Nat.le_trans (h1 _ (or_lt64 ha hb)) ((g7 a b ha hb q q').2 z)⟩
      · have := hk.2 a ha q
        rw [Nat.and_comm, Nat.or_comm]
        exact ⟨fun z => by have := this.1 z; omega, fun z => by have := this.2 z; omega⟩
    · rcases hin b hb e' with q' | rfl
      · exact hk.2 b hb q'
      · rw [Nat.and_self, Nat.or_self]
        have := h1 b hb
        exact ⟨fun z => by omega, fun z => by omega⟩
end Dij
