/-! the reference's turns while it reads a LAW's text -/
noncomputable def rR (p1 : Mm) : Option Mm := onL p1 (Option.bind (f_X12_isGood p1) (fun p3 => if p3 = 0 then (some p1) else (Option.bind (f_X12_here p1) (fun p5 => Option.bind (if (f_X12_lies ((p5 - (97 : Int32)).toInt64) (0 : Int64) (9 : Int64)) = 0 then (Option.bind (f_X12_wrongs (1 : Int32) (gI p1 47 28) p1) (fun p24 => some p24)) else (mg (if (gI p1 47 2) ≤ (p5 - (97 : Int32)) then (some (.inl ())) else (if inb (p5 - (97 : Int32)) 10 = true then (if (gI p1 49 (ix (p5 - (97 : Int32)))) = 0 then (some (.inr p1)) else (some (.inl ()))) else none)) (fun p19 => Option.bind (f_X12_wrongs (2 : Int32) (gI p1 47 28) p1) (fun p20 => some p20)))) (fun p7 => onL p7 (Option.bind (f_X12_isGood p7) (fun p9 => if p9 = 0 then (some p7) else (if inb (p5 - (97 : Int32)) 10 = true then (if inb (gI p7 47 62) 64 = true then (Option.bind (f_X12_endsD (sI (sI (sI (sI p7 85 (ix (gI p7 47 62)) (gI p7 50 (ix (p5 - (97 : Int32))))) 47 62 ((gI p7 47 62) + (1 : Int32))) 83 (ix (p5 - (97 : Int32))) ((gI p7 83 (ix (p5 - (97 : Int32)))) + (1 : Int32))) 47 28 ((gI p7 47 28) + (1 : Int32)))) (fun p17 => some p17)) else none) else none))))))))
noncomputable def rF (p1 : Mm) : Option (Int32 × Mm) := onL p1 (Option.bind (f_X12_isGood p1) (fun p3 => if p3 = 0 then (some ((0 : Int32), p1)) else (if (gI p1 47 28) = (gI p1 47 29) then (some ((0 : Int32), p1)) else (Option.bind (f_X12_here p1) (fun p6 => mg (if p6 = (43 : Int32) then (some (.inl ())) else (if (f_X12_startsD p6) = 0 then (Option.bind (f_X12_wrongs (1 : Int32) (gI p1 47 28) p1) (fun p20 => some (.inr ((0 : Int32), p20)))) else (some (.inl ())))) (fun p8 => Option.bind (if p6 = (43 : Int32) then (some (1 : Int32)) else (some (0 : Int32))) (fun p10 => Option.bind (f_X12_joinsValues p10 p1) (fun p11 => onL p11 (Option.bind (if p6 = (43 : Int32) then (some (43 : Int32)) else (some (42 : Int32))) (fun p14 => if inb (gI p11 47 34) 200 = true then (Option.bind (if p6 = (43 : Int32) then (some (1 : Int32)) else (some (0 : Int32))) (fun p18 => some ((1 : Int32), sI (sI (sI p11 68 (ix (gI p11 47 34)) p14) 47 34 ((gI p11 47 34) + (1 : Int32))) 47 28 ((gI p11 47 28) + p18)))) else none))))))))))
noncomputable def rM (p5 : Mm) : Option ((Int32 × Mm) ⊕ Mm) := onL p5 (Option.bind (f_X12_isGood p5) (fun p7 => Option.bind (mg (if p7 = 0 then (some (.inl p5)) else (Option.bind (f_X12_followsD p5) (fun p11 => if p11.1 = 0 then (some (.inl p11.2)) else (some (.inr ((1 : Int32), p11.2)))))) (fun p10 => some ((0 : Int32), p10))) (fun p9 => some (.inl (p9.1, p9.2)))))
theorem ly_let : ∀ b, b < 256 → f_X12_lies ((nI b - 97).toInt64) 0 9 = if 97 ≤ b ∧ b ≤ 106 then 1 else 0 := by decide +kernel
theorem ly_sub : ∀ b, b < 256 → 97 ≤ b → nI b - 97 = nI (b - 97) := by decide +kernel
theorem m_stD : ∀ b, b < 256 → f_X12_startsD (nI b) = if stS (some b) = true then 1 else 0 := by decide +kernel
section Ltn
variable {d : Dt} {n p : Nat} {S V : List Nat} {c j : Nat → Nat} {w w' : Mm} {x1 : Int32} {b : Nat} {Q : Mm → Prop}
theorem ig_1 (h : gI w 47 30 = 0) : f_X12_isGood w = some 1 := by unfold f_X12_isGood; rw [if_pos h]
theorem ig_0 (h : ¬ gI w 47 30 = 0) : f_X12_isGood w = some 0 := by unfold f_X12_isGood; rw [if_neg h]
theorem rm_bad (hL : Lay w) (h : ¬ gI w 47 30 = 0) (hb : 1 ≤ b) (hQ : Q w) : Rt (rM w) (Nx (fun s => Rt (wh (l_X12_law_87 x1) b s) Q) Q) := by
  unfold rM
  rw [rt_onL, ig_0 h, Option.bind_some, if_pos rfl]
  refine ⟨hL, ?_⟩
  show Rt (some (Sum.inl ((0 : Int32), w))) _
  rw [rt_some, nx_l]
  cases b with
  | zero => omega
  | succ b =>
    refine rt_step ?_
    unfold l_X12_law_87
    dsimp only
    rw [if_pos rfl, rt_some, nx_r]
    exact hQ
theorem rm_good (hL : Lay w) (h : gI w 47 30 = 0) (hb : 1 ≤ b) (hQ : Rt (wh l_X12_followsD_2 FUEL ((1 : Int32), w)) (fun p1 => Rt (rF p1) (fun p11 => (p11.1 = 0 → Q p11.2) ∧ (¬ p11.1 = 0 → Rt (wh (l_X12_law_87 x1) b ((1 : Int32), p11.2)) Q)))) : Rt (rM w) (Nx (fun s => Rt (wh (l_X12_law_87 x1) b s) Q) Q) := by
  have e : f_X12_followsD w = Option.bind (wh l_X12_followsD_2 FUEL ((1 : Int32), w)) rF := rfl
  rw [← rt_bind, ← e] at hQ
  obtain ⟨p11, e1, q1, q2⟩ := hQ
  unfold rM
  rw [rt_onL, ig_1 h, Option.bind_some, if_neg (by decide), e1, Option.bind_some]
  refine ⟨hL, ?_⟩
  by_cases z : p11.1 = 0
  · rw [if_pos z]
    show Rt (some (Sum.inl ((0 : Int32), p11.2))) _
    rw [rt_some, nx_l]
    cases b with
    | zero => omega
    | succ b =>
      refine rt_step ?_
      unfold l_X12_law_87
      dsimp only
      rw [if_pos rfl, rt_some, nx_r]
      exact q1 z
  · rw [if_neg z]
    show Rt (some (Sum.inl ((1 : Int32), p11.2))) _
    rw [rt_some, nx_l]
    exact q2 z
theorem rr_bad (hL : Lay w) (h : ¬ gI w 47 30 = 0) : Rt (rR w) (fun w' => w' = w) := by
  unfold rR
  rw [rt_onL, ig_0 h, Option.bind_some, if_pos rfl, rt_some]
  exact ⟨hL, rfl⟩
theorem flt_ne {c p : Nat} (h1 : c < 6) (h2 : 0 < c) (h3 : p < 301) : ¬ flt c p = 0 := fun z => by
  have := flt_neg c h1 h2 p h3
  rw [z] at this
  exact absurd this (by decide)
theorem sg0_lt (oT : OkT d) : sg0 (sg d n p) < 256 := by
  cases e : sg d n p with
  | none => decide
  | some b => exact (sg_lt oT e).1
/-- no letter here, or none that may be said -/
theorem rr_flt {e : Int32} (o : OkL d) (oT : OkT d) (hn : n ≤ 60) (hp : p ≤ n) (hs : LSt d n w) (h : LD p S V c j w) (q : ∃ r, 0 < r ∧ r < 6 ∧ r = (if 97 ≤ sg0 (sg d n p) ∧ sg0 (sg d n p) ≤ 106 then 2 else 1) ∧ ¬ (97 ≤ sg0 (sg d n p) ∧ sg0 (sg d n p) ≤ 106 ∧ sg0 (sg d n p) - 97 < d 0 0 ∧ d 1 (sg0 (sg d n p) - 97) = 0) ∧ flt r p = e) : Rt (rR w) (fun w' => fx wrN w w' ∧ gI w' 47 30 = e) := by
  obtain ⟨r, r0, r6, hr, hq, he⟩ := q
  have hx := hs.mx h
  have hb := sg0_lt (d := d) (n := n) (p := p) oT
  have o10 := o.1
  have hne := flt_ne r6 r0 (p := p) (by omega)
  have f1 : fx wrN w (sI w 47 30 (flt r p)) := fx.sI (by unfold wrN; omega)
  unfold rR
  rw [rt_onL, ig_1 h.2.1, Option.bind_some, if_neg (by decide), m_here oT (by omega) (by omega) hx, Option.bind_some, ly_let _ hb, h.1]
  refine ⟨hs.1, ?_⟩
  have fin : Rt (onL (sI w 47 30 (flt r p)) (Option.bind (f_X12_isGood (sI w 47 30 (flt r p))) (fun p9 => if p9 = 0 then (some (sI w 47 30 (flt r p))) else (if inb (nI (sg0 (sg d n p)) - (97 : Int32)) 10 = true then (if inb (gI (sI w 47 30 (flt r p)) 47 62) 64 = true then (Option.bind (f_X12_endsD (sI (sI (sI (sI (sI w 47 30 (flt r p)) 85 (ix (gI (sI w 47 30 (flt r p)) 47 62)) (gI (sI w 47 30 (flt r p)) 50 (ix (nI (sg0 (sg d n p)) - (97 : Int32))))) 47 62 ((gI (sI w 47 30 (flt r p)) 47 62) + (1 : Int32))) 83 (ix (nI (sg0 (sg d n p)) - (97 : Int32))) ((gI (sI w 47 30 (flt r p)) 83 (ix (nI (sg0 (sg d n p)) - (97 : Int32)))) + (1 : Int32))) 47 28 ((gI (sI w 47 30 (flt r p)) 47 28) + (1 : Int32)))) (fun p17 => some p17)) else none) else none)))) (fun w' => fx wrN w w' ∧ gI w' 47 30 = e) := by
    rw [rt_onL, ig_0 (show ¬ gI (sI w 47 30 (flt r p)) 47 30 = 0 from hne), Option.bind_some, if_pos rfl, rt_some]
    exact ⟨f1.lay hs.1, f1, he⟩
  by_cases z : 97 ≤ sg0 (sg d n p) ∧ sg0 (sg d n p) ≤ 106
  · rw [if_pos z] at hr
    rw [if_pos z, if_neg (by decide), ly_sub _ hb z.1, hs.2.2.2.1]
    have ew : f_X12_wrongs 2 (nI p) w = some (sI w 47 30 (flt r p)) := by rw [hr]; exact m_wrongs hx 2
    have em : mg (if nI (d 0 0) ≤ nI (sg0 (sg d n p) - 97) then (some (.inl ()) : Option (Unit ⊕ Mm)) else (if inb (nI (sg0 (sg d n p) - 97)) 10 = true then (if (gI w 49 (ix (nI (sg0 (sg d n p) - 97)))) = 0 then (some (.inr w)) else (some (.inl ()))) else none)) (fun p19 => Option.bind (f_X12_wrongs (2 : Int32) (nI p) w) (fun p20 => some p20)) = some (sI w 47 30 (flt r p)) := by
      rw [ew]
      by_cases z2 : sg0 (sg d n p) - 97 < d 0 0
      · have z3 : ¬ d 1 (sg0 (sg d n p) - 97) = 0 := fun z3 => hq ⟨z.1, z.2, z2, z3⟩
        have o3 := (o.2.2.1 (sg0 (sg d n p) - 97) (by omega)).1
        rw [if_neg (nI_ge z2 (by omega)), if_pos (inb_nI (by omega) (by decide)), ix_nI (by omega), (hs.2.2.2.2.2.2 _ (by omega)).1, if_neg (nI_ne0 (by omega) (by omega))]
        rfl
      · rw [if_pos (nI_le (by omega) (by omega))]
        rfl
    rw [em, Option.bind_some, ← ly_sub _ hb z.1]
    exact fin
  · rw [if_neg z] at hr
    have ew : f_X12_wrongs 1 (nI p) w = some (sI w 47 30 (flt r p)) := by rw [hr]; exact m_wrongs hx 1
    rw [if_neg z, if_pos rfl, ew, Option.bind_some, Option.bind_some]
    exact fin
theorem rr_ok (o : OkL d) (oT : OkT d) (hn : n ≤ 60) (hs : LSt d n w) (h : LD p S V c j w) (e : sg d n p = some b) (z : 97 ≤ b ∧ b ≤ 106) (z2 : b - 97 < d 0 0 ∧ d 1 (b - 97) = 0) (hV : V.length = bin S) (hS : S.length ≤ 190) (hV2 : V.length ≤ 60) : Rt (rR w) (fun w' => fx wrN w w' ∧ LD (p + 1) (enf S (d 2 (b - 97) :: V) j).1 (enf S (d 2 (b - 97) :: V) j).2.1 (plus c (one1 (b - 97))) (enf S (d 2 (b - 97) :: V) j).2.2 w') := by
  have hx := hs.mx h
  have hb := sg_lt oT e
  have o10 := o.1
  obtain ⟨o3, o4, -⟩ := o.2.2.1 (b - 97) (by omega)
  obtain ⟨l1, l2, -⟩ := hs.2.2.2.2.2.2 (b - 97) (by omega)
  obtain ⟨h1, h2, h3, h4, h5, h6, h7, h8, h9⟩ := h
  unfold rR
  rw [rt_onL, ig_1 h2, Option.bind_some, if_neg (by decide), m_here oT (by omega) (by omega) hx, Option.bind_some, e]
  refine ⟨hs.1, ?_⟩
  show Rt (Option.bind (if f_X12_lies ((nI b - (97 : Int32)).toInt64) 0 9 = 0 then _ else _) _) _
  rw [ly_let _ hb.1, if_pos z, if_neg (by decide)]
  show Rt (Option.bind (mg (if gI w 47 2 ≤ nI b - (97 : Int32) then _ else (if inb (nI b - (97 : Int32)) 10 = true then (if (gI w 49 (ix (nI b - (97 : Int32)))) = 0 then _ else _) else _)) _) _) _
  rw [ly_sub _ hb.1 z.1, hs.2.2.2.1, if_neg (nI_ge z2.1 (by omega)), if_pos (inb_nI (by omega) (by decide)), ix_nI (by omega), l1, z2.2, if_pos (show nI 0 = 0 from rfl)]
  show Rt (onL w _) _
  rw [rt_onL, ig_1 h2, Option.bind_some, if_neg (by decide)]
  refine ⟨hs.1, ?_⟩
  show Rt (if inb (nI b - (97 : Int32)) 10 = true then (if inb (gI w 47 62) 64 = true then (Option.bind (f_X12_endsD (sI (sI (sI (sI w 85 (ix (gI w 47 62)) (gI w 50 (ix (nI b - (97 : Int32))))) 47 62 ((gI w 47 62) + (1 : Int32))) 83 (ix (nI b - (97 : Int32))) ((gI w 83 (ix (nI b - (97 : Int32)))) + (1 : Int32))) 47 28 ((gI w 47 28) + (1 : Int32)))) (fun p17 => some p17)) else none) else none) _
  rw [ly_sub _ hb.1 z.1, if_pos (inb_nI (by omega) (by decide)), h6, if_pos (inb_nI (by omega) (by decide)), ix_nI (by omega), ix_nI (by omega), l2, h1, nI_1, nI_1, h8 _ (by omega), nI_1, rt_bind]
  have f1 : fx wrN w (sI (sI (sI (sI w 85 V.length (nI (d 2 (b - 97)))) 47 62 (nI (V.length + 1))) 83 (b - 97) (nI (c (b - 97) + 1))) 47 28 (nI (p + 1))) := (((fx.sI (by unfold wrN; omega)).tr (fx.sI (by unfold wrN; omega))).tr (fx.sI (by unfold wrN; omega))).tr (fx.sI (by unfold wrN; omega))
  unfold f_X12_endsD
  rw [rt_bind]
  refine (m_en (p := p + 1) (c := plus c (one1 (b - 97))) d n S (d 2 (b - 97) :: V) j _ FUEL (by unfold FUEL; omega) (by simp only [List.length_cons]; omega) (by omega) (by simp only [List.length_cons]; omega) (hs.fx f1) ⟨rfl, h2, h3, h4, h5.of (fun k hk => rfl), rfl, ⟨?_, by omega, h7.of (fun k hk => ?_)⟩, fun k hk => ?_, h9⟩).mono ?_
  · show gI (sI w 85 V.length (nI (d 2 (b - 97)))) 85 V.length = nI (d 2 (b - 97))
    rw [gI_sI, if_pos ⟨rfl, rfl⟩]
  · show gI (sI w 85 V.length (nI (d 2 (b - 97)))) 85 k = gI w 85 k
    rw [gI_sI, if_neg (by omega)]
  · show gI (sI w 83 (b - 97) (nI (c (b - 97) + 1))) 83 k = _
    rw [gI_sI]
    unfold plus one1
    by_cases e : k = b - 97
    · rw [if_pos ⟨rfl, e⟩, if_pos e, e]
    · rw [if_neg (fun z => e z.2), if_neg e]
      exact h8 k hk
  · rintro w' ⟨f2, g⟩
    rw [rt_some, rt_some]
    exact ⟨f1.tr f2, g⟩
theorem rl_bad (hL : Lay w) (h : ¬ gI w 47 30 = 0) : l_X12_readsD_0 w = some (.inr w) := by
  apply Rt.eq
  unfold l_X12_readsD_0
  rw [rt_onL, ig_0 h, Option.bind_some, if_pos rfl, rt_some]
  exact ⟨hL, rfl⟩
theorem rl_exit (oT : OkT d) (hn : n ≤ 60) (hp : p ≤ n) (hs : LSt d n w) (h : LD p S V c j w) (e : ¬ (sg0 (sg d n p) = 45 ∨ sg0 (sg d n p) = 40)) : l_X12_readsD_0 w = some (.inr w) := by
  have hx := hs.mx h
  have hb := sg0_lt (d := d) (n := n) (p := p) oT
  apply Rt.eq
  unfold l_X12_readsD_0
  rw [rt_onL, ig_1 h.2.1, Option.bind_some, if_neg (by decide), m_here oT (by omega) (by omega) hx, Option.bind_some, if_neg (fun z => e (Or.inl ((nI_eq (by omega) (by decide)).mp (z.trans (show (45 : Int32) = nI 45 from rfl))))), Option.bind_some, if_neg (fun z => e (Or.inr ((nI_eq (by omega) (by decide)).mp (z.trans (show (40 : Int32) = nI 40 from rfl)))))]
  exact ⟨hs.1, ⟨_, rfl, rfl⟩⟩
theorem rl_open (oT : OkT d) (hn : n ≤ 60) (hs : LSt d n w) (h : LD p S V c j w) (e : sg d n p = some b) (hb : b = 45 ∨ b = 40) (hS : S.length ≤ 190) : Rt (l_X12_readsD_0 w) (Nx (fun w' => fx wrN w w' ∧ (opn S = 6 → gI w' 47 30 = flt 5 p) ∧ (¬ opn S = 6 → LD (p + 1) (b :: S) V c j w')) (fun _ => False)) := by
  have hx := hs.mx h
  have hp := (sg_lt oT e).2
  have hop : opn S ≤ S.length := by
    clear h hx hs
    induction S with
    | nil => exact Nat.le_refl _
    | cons s t ih =>
      have := ih (by simp only [List.length_cons] at hS; omega)
      rw [opn, List.length_cons]
      split <;> omega
  have he : ∀ F w1, Mx d n p F w1 → f_X12_here w1 = some (nI b) := fun F w1 h1 => by
    rw [m_here oT (by omega) (by omega) h1, e]
    rfl
  unfold l_X12_readsD_0
  rw [rt_onL, ig_1 h.2.1, Option.bind_some, if_neg (by decide), he 0 w hx, Option.bind_some]
  refine ⟨hs.1, ?_⟩
  have ec : (if nI b = (45 : Int32) then (some (.inl ()) : Option (Unit ⊕ (Mm ⊕ Mm))) else (Option.bind (some (nI b)) (fun p8 => if p8 = (40 : Int32) then (some (.inl ())) else (some (.inr (.inr w)))))) = some (.inl ()) := by
    rcases hb with rfl | rfl
    · rw [if_pos (show nI 45 = 45 from rfl)]
    · rw [if_neg (by decide), Option.bind_some, if_pos (show nI 40 = 40 from rfl)]
  rw [ec, rt_mg, rt_some]
  dsimp only
  obtain ⟨h1, h2, h3, h4, h5, h6, h7, h8, h9⟩ := h
  unfold f_X12_opens f_X12_puts
  rw [h3]
  by_cases q : opn S = 6
  · rw [q, if_pos (show nI 6 = 6 from rfl), h1, show (5 : Int32) = nI 5 from rfl, m_wrongs hx 5, Option.bind_some, Option.bind_some, rt_bind, rt_onL]
    have f1 : fx wrN w (sI w 47 30 (flt 5 p)) := fx.sI (by unfold wrN; omega)
    refine ⟨f1.lay hs.1, ?_⟩
    rw [he (flt 5 p) (sI (sI w 47 30 (flt 5 p)) 47 33 (gI (sI w 47 30 (flt 5 p)) 47 33 + 1)) ⟨hx.1, hx.2.1, hx.2.2.1, rfl⟩, Option.bind_some, show gI (sI (sI w 47 30 (flt 5 p)) 47 33 (gI (sI w 47 30 (flt 5 p)) 47 33 + 1)) 47 34 = gI w 47 34 from rfl, h4, if_pos (inb_nI (by omega) (by decide)), Option.bind_some, rt_some, rt_some, nx_l]
    exact ⟨(((f1.tr (fx.sI (by unfold wrN; omega))).tr (fx.sI (by unfold wrN; omega))).tr (fx.sI (by unfold wrN; omega))).tr (fx.sI (by unfold wrN; omega)), fun _ => rfl, fun z => absurd rfl z⟩
  · rw [if_neg (fun z => q ((nI_eq (by omega) (by decide)).mp (z.trans (show (6 : Int32) = nI 6 from rfl)))), Option.bind_some, rt_bind, rt_onL]
    refine ⟨hs.1, ?_⟩
    rw [he 0 (sI w 47 33 (gI w 47 33 + 1)) ⟨hx.1, hx.2.1, hx.2.2.1, hx.2.2.2⟩, Option.bind_some, show gI (sI w 47 33 (gI w 47 33 + 1)) 47 34 = gI w 47 34 from rfl, h4, if_pos (inb_nI (by omega) (by decide)), Option.bind_some, rt_some, rt_some, nx_l, ix_nI (by omega), h3, nI_1, nI_1, show gI (sI w 47 33 (nI (opn S + 1))) 47 28 = gI w 47 28 from rfl, h1, nI_1]
    refine ⟨(((fx.sI (by unfold wrN; omega)).tr (fx.sI (by unfold wrN; omega))).tr (fx.sI (by unfold wrN; omega))).tr (fx.sI (by unfold wrN; omega)), fun z => absurd z q, fun _ => ⟨rfl, h2, ?_, rfl, ⟨?_, by omega, h5.of (fun k hk => ?_)⟩, h6, h7.of (fun k hk => rfl), h8, h9⟩⟩
    · rw [opn, if_pos hb]; rfl
    · show gI (sI w 68 S.length (nI b)) 68 S.length = nI b
      rw [gI_sI, if_pos ⟨rfl, rfl⟩]
    · show gI (sI w 68 S.length (nI b)) 68 k = gI w 68 k
      rw [gI_sI, if_neg (by omega)]
end Ltn
