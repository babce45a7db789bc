/-! the reference's LAW, whole -/
def scr (c k : Nat) : Prop := (c = 47 ∧ (k = 1 ∨ 28 ≤ k)) ∨ c = 48 ∨ (63 ≤ c ∧ c ≤ 70) ∨ (76 ≤ c ∧ c < 87)
def tpQ (d d' : Dt) : Prop := (∀ i, 1 ≤ i → i ≤ 9 → d' i = d i) ∧ ∀ j, j ≠ 5 → d' 0 j = d 0 j
section Mlw
variable {d d' : Dt} {C : Ct} {n : Nat} {w w' : Mm}
theorem tpQ.B (h : tpQ d d') (t : Nat) : BF d' t = BF d t ∧ ∀ i, jl d' i t = jl d i t := BF_of (h.1 1 (by omega) (by omega)) (h.1 2 (by omega) (by omega)) (h.1 3 (by omega) (by omega)) t
theorem tpQ.M (h : tpQ d d') (k : MI d C w) (f : fx scr w w') : MI d' C w' := by
  refine ⟨f.lay k.1, ?_, ?_, ?_, ?_, ?_⟩
  · unfold MLx
    rw [h.1 1 (by omega) (by omega), h.1 2 (by omega) (by omega), h.1 3 (by omega) (by omega), h.1 4 (by omega) (by omega), h.2 0 (by omega), h.2 1 (by omega), h.2 2 (by omega), f.I (by unfold scr; omega), f.I (by unfold scr; omega), f.I (by unfold scr; omega)]
    refine ⟨k.2.1.1, k.2.1.2.1, k.2.1.2.2.1, fun j hj => ?_⟩
    rw [f.I (by unfold scr; omega), f.I (by unfold scr; omega), f.I (by unfold scr; omega), f.I (by unfold scr; omega)]
    exact k.2.1.2.2.2 j hj
  · unfold MDm
    rw [h.1 5 (by omega) (by omega), h.1 6 (by omega) (by omega), h.1 7 (by omega) (by omega), h.1 8 (by omega) (by omega), h.1 9 (by omega) (by omega), h.2 3 (by omega), h.2 4 (by omega), f.I (by unfold scr; omega), f.I (by unfold scr; omega)]
    refine ⟨k.2.2.1.1, k.2.2.1.2.1, fun s hs => ?_, fun j hj => ?_⟩
    · rw [f.I (by unfold scr; omega)]; exact k.2.2.1.2.2.1 s hs
    · rw [f.I (by unfold scr; omega), f.I (by unfold scr; omega), f.I (by unfold scr; omega), f.I (by unfold scr; omega)]; exact k.2.2.1.2.2.2 j hj
  · unfold MNr
    rw [h.2 6 (by omega), f.I (by unfold scr; omega)]
    exact ⟨k.2.2.2.1.1, fun w2 hw => k.2.2.2.1.2 w2 (fun c j hc => by rw [hw c j hc, f.I (by unfold scr; omega)])⟩
  · have z := k.2.2.2.2.1.fx f (fun k => by unfold scr; omega) (fun k => by unfold scr; omega)
    intro t ht
    rw [h.2 0 (by omega)] at ht
    rcases z t ht with y | y
    · exact Or.inl y
    · exact Or.inr (fun m hm => by rw [(h.B t).1]; exact y m hm)
  · have z := k.2.2.2.2.2.fx f (fun k => by unfold scr; omega) (fun k => by unfold scr; omega) (fun k => by unfold scr; omega)
    intro t ht
    rw [h.2 0 (by omega)] at ht
    have x := tk_o3 (C := C) (h.1 1 (by omega) (by omega)) (h.1 2 (by omega) (by omega)) (h.1 3 (by omega) (by omega)) ⟨h.2 3 (by omega), h.2 4 (by omega), h.1 6 (by omega) (by omega), h.1 7 (by omega) (by omega), h.1 8 (by omega) (by omega), h.1 9 (by omega) (by omega)⟩ t
    rcases z t ht with y | y
    · exact Or.inl y
    · exact Or.inr ⟨fun s hs => by rw [x.1]; exact y.1 s hs, by rw [x.2]; exact y.2⟩
theorem wip_q : tpQ d (wip d) := ⟨fun i h1 h2 => wip_o.1 i (by omega) (by omega), wip_o.2⟩
theorem lwd_q {i m : Nat} {c q : Nat → Nat} : tpQ d (lwd (wip d) i m c q) := ⟨fun i h1 h2 => by rw [lwd_o (by omega)]; exact wip_q.1 i h1 h2, fun j hj => by rw [lwd_o (by omega)]; exact wip_q.2 j hj⟩
/-- what LAW writes -/
def wrZ (c k : Nat) : Prop := wrN c k ∨ (c = 47 ∧ (k = 1 ∨ k = 29))
theorem wrZ_s {c k : Nat} (h : wrZ c k) : scr c k := by
  unfold wrZ wrN at h
  unfold scr
  omega
theorem wrN_z {c k : Nat} (h : wrN c k) : wrZ c k := Or.inl h
/-- the text is bad -/
theorem MT.lwbad (h : MT d C w) (f : fx wrZ w w') (h1 : gI w' 47 1 = 0) : MT (wip d) C w' ∧ zF w w' := by
  refine ⟨⟨wip_q.M h.1 (f.sub (fun c k z => wrZ_s z)), ⟨by rw [h1, wip_5]; rfl, fun k hk => by rw [wip_5] at hk; omega⟩, ?_⟩, f.sub (fun c k z => by have := wrZ_s z; unfold scr at this; unfold inM; omega)⟩
  exact h.2.2.of (wip_o.1 11 (by omega) (by omega)) (wip_o.1 12 (by omega) (by omega)) (wip_o.1 13 (by omega) (by omega)) (wip_o.1 14 (by omega) (by omega)) (fun c k h1 h2 => f.I (by unfold wrZ wrN; omega))
theorem m_lawloop {x1 : Int32} (o : OkL d) (oT : OkT d) (hn : n ≤ 60) (hs : LSt d n w) (h : LD 0 [] [] (fun _ => 0) (fun _ => 0) w) : Rt (wh (l_X12_law_87 x1) FUEL ((1 : Int32), w)) (LQ2 d n (lawR d n) w) := by
  obtain ⟨k, hk⟩ := go_law (d := d) hn
  have hF : FUEL = (FUEL - 1) + 1 := rfl
  have g := (m_go (w0 := w) (x1 := x1) (R := lawR d n) o oT hn k).1 0 [] [] (fun _ => 0) (fun _ => 0) w FUEL (FUEL - 1) hk (Nat.zero_le _) hs h fx.rf rfl (by decide) (by decide) (by unfold FUEL; omega) (by unfold FUEL; omega)
  rw [hF]
  exact lw_step hs.1 h.2.1 g
end Mlw
