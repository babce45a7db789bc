/-! texts: the sign at a place, faults -/
def sg (d : Dt) (n p : Nat) : Option Nat := if p < n then some (d 10 p) else none
/-- a fault as it is answered -/
def flt (c p : Nat) : Int32 := (-1000 : Int32) * nI c - nI p
theorem flt_neg : ∀ c, c < 6 → 0 < c → ∀ p, p < 301 → flt c p < 0 := by decide +kernel
def Tx (d : Dt) (n p : Nat) (F : Int32) (w : Mm) : Prop := CTp d w ∧ gI w 12 2 = nI n ∧ gI w 12 3 = nI p ∧ gI w 12 4 = F
def Mx (d : Dt) (n p : Nat) (F : Int32) (w : Mm) : Prop := (∀ k, k < n → gI w 48 k = (nI (d 10 k)).toInt8.toInt32) ∧ gI w 47 29 = nI n ∧ gI w 47 28 = nI p ∧ gI w 47 30 = F
section Txt
variable {d : Dt} {n p : Nat} {F : Int32} {w : Mm}
theorem sg_lt (oT : OkT d) {b : Nat} (h : sg d n p = some b) : b < 256 ∧ p < n := by
  unfold sg at h
  split at h
  · cases h
    exact ⟨oT.2.1 p, ‹_›⟩
  · cases h
theorem k_sign (oT : OkT d) (hn : n ≤ d 0 5) (hp : p ≤ 1000) (h : Tx d n p 0 w) : f_X8_sign w = some (oI (sg d n p)) := by
  obtain ⟨⟨h1, h2⟩, h3, h4, h5⟩ := h
  have o5 := oT.1
  unfold f_X8_sign sg
  rw [h1, h3, h4, h5, if_pos rfl, if_neg (nI_pos (by omega))]
  by_cases q : p < n
  · rw [if_neg (nI_ge q (by omega)), if_neg (nI_ge (by omega) (by omega)), if_neg (show ¬ (300 : Int32) ≤ nI p from nI_ge (b := 300) (by omega) (by decide)), if_pos q]
    show Option.bind (some (1 : Int32)) _ = _
    rw [Option.bind_some, if_neg (by decide), if_pos (inb_nI (by omega) (by decide)), ix_nI (by omega), h2 p (by omega)]
    rfl
  · rw [if_pos (nI_le (by omega) (by omega)), if_neg q]
    rfl
theorem k_signF (h : Tx d n p F w) (hF : ¬ F = 0) : f_X8_sign w = some (-1) := by
  unfold f_X8_sign
  rw [h.2.2.2, if_neg hF]
  rfl
theorem k_fail (h : Tx d n p 0 w) (c : Nat) : f_X8_fail (nI c) w = some (sI w 12 4 (flt c p)) ∧ Tx d n p (flt c p) (sI w 12 4 (flt c p)) := by
  refine ⟨?_, h.1.of rfl rfl rfl (fun _ => rfl), h.2.1, h.2.2.1, rfl⟩
  unfold f_X8_fail
  rw [h.2.2.2, if_pos rfl, h.2.2.1]
  rfl
theorem k_failF (h : Tx d n p F w) (hF : ¬ F = 0) (x : Int32) : f_X8_fail x w = some w := by
  unfold f_X8_fail
  rw [h.2.2.2, if_neg hF]
theorem k_stp (h : Tx d n p F w) : Tx d n (p + 1) F (sI w 12 3 (gI w 12 3 + 1)) := ⟨h.1.of rfl rfl rfl (fun _ => rfl), h.2.1, by rw [h.2.2.1, nI_1]; rfl, h.2.2.2⟩
theorem k_pass (oT : OkT d) (hn : n ≤ d 0 5) (hp : p ≤ 1000) (h : Tx d n p 0 w) {b : Nat} (hb : b < 256) : (sg d n p = some b → f_X8_pass (nI b) w = some (sI w 12 3 (gI w 12 3 + 1))) ∧ (sg d n p ≠ some b → f_X8_pass (nI b) w = some (sI w 12 4 (flt 1 p))) := by
  constructor
  · intro e
    unfold f_X8_pass
    rw [k_sign oT hn hp h, Option.bind_some, e, show oI (some b) = nI b from rfl, if_pos rfl]
  · intro e
    unfold f_X8_pass
    rw [k_sign oT hn hp h, Option.bind_some, if_neg (fun z => ?_), show (1 : Int32) = nI 1 from rfl, (k_fail h 1).1, Option.bind_some]
    cases q : sg d n p with
    | none => rw [q] at z; exact nm1 (a := b) (by omega) z.symm
    | some c =>
      rw [q] at z
      have hc := (sg_lt oT q).1
      exact e (by rw [q, (nI_eq (by omega) (by omega)).mp z])
theorem k_passF (h : Tx d n p F w) (hF : ¬ F = 0) {b : Nat} (hb : b < 256) : f_X8_pass (nI b) w = some w := by
  unfold f_X8_pass
  rw [k_signF h hF, Option.bind_some, if_neg (fun z => nm1 (a := b) (by omega) z.symm), k_failF h hF, Option.bind_some]
/-- the reference's sign: 0 behind the last one -/
def sg0 (o : Option Nat) : Nat := match o with
  | none => 0
  | some b => b
theorem m_here (oT : OkT d) (hn : n ≤ 300) (hp : p ≤ 1000) (h : Mx d n p F w) : f_X12_here w = some (nI (sg0 (sg d n p))) := by
  obtain ⟨h1, h2, h3, h4⟩ := h
  unfold f_X12_here sg
  rw [h2, h3]
  by_cases q : p < n
  · rw [if_neg (nI_ge q (by omega)), if_pos (inb_nI (by omega) (by decide)), ix_nI (by omega), h1 p q, sb_255 _ (oT.2.1 p), if_pos q]
    have := oT.2.1 p
    rw [show (255 : Int32) = nI (2 ^ 8 - 1) by rfl, fa_mask, Nat.mod_eq_of_lt (by omega)]
    rfl
  · rw [if_pos (nI_le (by omega) (by omega)), if_neg q]
    rfl
theorem m_wrongs (h : Mx d n p 0 w) (c : Nat) : f_X12_wrongs (nI c) (nI p) w = some (sI w 47 30 (flt c p)) := by
  unfold f_X12_wrongs
  rw [h.2.2.2, if_pos (by decide), Option.bind_some]
  rfl
theorem wh_mono {σ ε : Type} {b : σ → Option (σ ⊕ ε)} : ∀ {n m : Nat} {s : σ} {x : ε}, wh b n s = some x → n ≤ m → wh b m s = some x
  | 0, _, _, _, h, _ => by cases h
  | n + 1, 0, _, _, _, hm => absurd hm (by omega)
  | n + 1, m + 1, s, x, h, hm => by
    rw [wh] at h ⊢
    cases e : b s with
    | none => rw [e] at h; cases h
    | some r =>
      rw [e] at h
      cases r with
      | inl s' => exact wh_mono (n := n) h (by omega)
      | inr y => exact h
end Txt
