/-! the reference's memory while it reads a LAW's text -/
def StA (w : Mm) (c : Nat) : List Nat → Prop
  | [] => True
  | x :: t => gI w c t.length = nI x ∧ x < 256 ∧ StA w c t
/-- joins that wait -/
def bin : List Nat → Nat
  | [] => 0
  | s :: S => bin S + if s = 42 ∨ s = 43 then 1 else 0
/-- what is written -/
def wrN (c k : Nat) : Prop := (c = 47 ∧ (k = 28 ∨ k = 30 ∨ k = 33 ∨ k = 34 ∨ k = 62)) ∨ c = 68 ∨ c = 83 ∨ c = 84 ∨ c = 85
def LSt (d : Dt) (n : Nat) (w : Mm) : Prop := Lay w ∧ (∀ k, k < n → gI w 48 k = (nI (d 10 k)).toInt8.toInt32) ∧ gI w 47 29 = nI n ∧ MLx d w
def LD (p : Nat) (S V : List Nat) (c j : Nat → Nat) (w : Mm) : Prop := gI w 47 28 = nI p ∧ gI w 47 30 = 0 ∧ gI w 47 33 = nI (opn S) ∧ gI w 47 34 = nI S.length ∧ StA w 68 S ∧ gI w 47 62 = nI V.length ∧ StA w 85 V ∧ (∀ k, k < 10 → gI w 83 k = nI (c k)) ∧ ∀ k, k < 4 → gI w 84 k = nI (j k)
section Lmm
variable {d : Dt} {n p : Nat} {S V : List Nat} {c j : Nat → Nat} {w w' : Mm}
theorem StA.of {c : Nat} : ∀ {S : List Nat}, StA w c S → (∀ k, k < S.length → gI w' c k = gI w c k) → StA w' c S
  | [], _, _ => trivial
  | x :: t, h, e => ⟨by rw [e _ (Nat.lt_succ_self _)]; exact h.1, h.2.1, StA.of h.2.2 (fun k hk => e k (Nat.lt_succ_of_lt hk))⟩
theorem StA.up {c k : Nat} {v : Int32} (h : StA w c S) (hk : S.length ≤ k) : StA (sI w c k v) c S := h.of (fun i hi => by rw [gI_sI, if_neg (by omega)])
theorem LSt.fx (h : LSt d n w) (f : fx wrN w w') : LSt d n w' := by
  obtain ⟨hL, h1, h2, x1, x2, x3, x4⟩ := h
  refine ⟨f.lay hL, fun k hk => (f.I (by unfold wrN; omega)).trans (h1 k hk), (f.I (by unfold wrN; omega)).trans h2, (f.I (by unfold wrN; omega)).trans x1, (f.I (by unfold wrN; omega)).trans x2, (f.I (by unfold wrN; omega)).trans x3, fun k hk => ?_⟩
  obtain ⟨a1, a2, a3, a4⟩ := x4 k hk
  exact ⟨(f.I (by unfold wrN; omega)).trans a1, (f.I (by unfold wrN; omega)).trans a2, (f.I (by unfold wrN; omega)).trans a3, (f.I (by unfold wrN; omega)).trans a4⟩
theorem LSt.mx (h : LSt d n w) (h2 : LD p S V c j w) : Mx d n p 0 w := ⟨h.2.1, h.2.2.1, h2.1, h2.2.1⟩
theorem m_top (h : LD p S V c j w) (hS : S.length ≤ 200) : f_X12_top w = some (nI (S.headD 0)) := by
  obtain ⟨-, -, -, h34, h68, -⟩ := h
  unfold f_X12_top
  cases S with
  | nil => rw [h34, if_pos (show nI ([] : List Nat).length ≤ 0 by decide)]; rfl
  | cons s t =>
    rw [List.length_cons] at h34 hS
    rw [h34, if_neg (nI_nle (by omega) (by omega)), nI_pred, if_pos (inb_nI (by omega) (by decide)), ix_nI (by omega), h68.1]
    rfl
theorem hd_lt (h : LD p S V c j w) : S.headD 0 < 256 := by
  cases S with
  | nil => decide
  | cons s t => exact h.2.2.2.2.1.2.1
theorem jvf_c {x : Bool} {s b a : Nat} {S V' : List Nat} {j : Nat → Nat} (h : s = 42 ∨ (x = true ∧ s = 43)) : jvf x (s :: S) (b :: a :: V') j = jvf x S ((if s = 42 then a &&& b else a ||| b) :: V') (plus j (one1 (if s = 42 then 2 else 3))) := by
  rw [jvf, if_pos h]
theorem enf_c {s a : Nat} {S V' : List Nat} {j : Nat → Nat} (h : s = 45) : enf (s :: S) (a :: V') j = enf S ((63 ^^^ a) :: V') (plus j (one1 1)) := by
  rw [enf, if_pos h]
theorem jvf_ok (x : Bool) : ∀ (S V : List Nat) (j : Nat → Nat), V.length = bin S + 1 → (jvf x S V j).2.1.length = bin (jvf x S V j).1 + 1 ∧ (jvf x S V j).1.length ≤ S.length ∧ (jvf x S V j).2.1.length ≤ V.length
  | [], V, j, h => ⟨h, Nat.le_refl _, Nat.le_refl _⟩
  | s :: S, V, j, h => by
    by_cases hc : s = 42 ∨ (x = true ∧ s = 43)
    · rw [bin, if_pos (by rcases hc with z | z <;> simp [z])] at h
      match V, h with
      | b :: a :: V', h =>
        have ih := jvf_ok x S ((if s = 42 then a &&& b else a ||| b) :: V') (plus j (one1 (if s = 42 then 2 else 3))) (by simp only [List.length_cons] at h ⊢; omega)
        rw [jvf_c hc]
        refine ⟨ih.1, ?_, ?_⟩
        · exact Nat.le_trans ih.2.1 (Nat.le_succ _)
        · exact Nat.le_trans ih.2.2 (by simp only [List.length_cons]; omega)
    · rw [jvf_n (S := s :: S) (fun z => hc (Or.inl z)) (fun z1 z => hc (Or.inr ⟨z1, z⟩))]
      exact ⟨h, Nat.le_refl _, Nat.le_refl _⟩
theorem enf_ok : ∀ (S V : List Nat) (j : Nat → Nat), V.length = bin S + 1 → (enf S V j).2.1.length = bin (enf S V j).1 + 1 ∧ (enf S V j).1.length ≤ S.length ∧ (enf S V j).2.1.length ≤ V.length
  | [], V, j, h => ⟨h, Nat.le_refl _, Nat.le_refl _⟩
  | s :: S, V, j, h => by
    by_cases hc : s = 45
    · rw [bin, if_neg (by omega)] at h
      match V, h with
      | a :: V', h =>
        have ih := enf_ok S ((63 ^^^ a) :: V') (plus j (one1 1)) (by simp only [List.length_cons] at h ⊢; omega)
        rw [enf_c hc]
        refine ⟨ih.1, ?_, ?_⟩
        · exact Nat.le_trans ih.2.1 (Nat.le_succ _)
        · exact Nat.le_trans ih.2.2 (by simp only [List.length_cons]; omega)
    · rw [enf_n (S := s :: S) hc]
      exact ⟨h, Nat.le_refl _, Nat.le_refl _⟩
theorem m_jv (x : Bool) (d : Dt) (n : Nat) : ∀ (S V : List Nat) (j : Nat → Nat) (w : Mm) (N : Nat), S.length < N → V.length = bin S + 1 → S.length ≤ 200 → V.length ≤ 64 → LSt d n w → LD p S V c j w → Rt (wh (l_X12_joinsValues_0 (if x = true then 1 else 0)) N w) (fun w' => fx wrN w w' ∧ LD p (jvf x S V j).1 (jvf x S V j).2.1 c (jvf x S V j).2.2 w')
  | S, V, j, w, 0, hN, _, _, _, _, _ => absurd hN (Nat.not_lt_zero _)
  | S, V, j, w, N + 1, hN, hV, hS, hV2, hs, h => by
    have ht := m_top h hS
    have hl := hd_lt h
    refine rt_step ?_
    rw [l_X12_joinsValues_0, rt_onL, ht, Option.bind_some]
    refine ⟨hs.1, ?_⟩
    by_cases q : S.headD 0 = 42 ∨ (x = true ∧ S.headD 0 = 43)
    · have ec : (if nI (S.headD 0) = (42 : Int32) then (some (.inl ()) : Option (Unit ⊕ (Mm ⊕ Mm))) else (if (if x = true then (1 : Int32) else 0) = 0 then (some (.inr (.inr w))) else (Option.bind (some (nI (S.headD 0))) (fun p23 => if p23 = (43 : Int32) then (some (.inl ())) else (some (.inr (.inr w))))))) = some (.inl ()) := by
        rcases q with z | ⟨z1, z2⟩
        · rw [z, if_pos (show nI 42 = 42 from rfl)]
        · rw [z1, z2, if_neg (by decide), if_pos rfl, if_neg (by decide), Option.bind_some, if_pos (show nI 43 = 43 from rfl)]
      rw [ec]
      cases S with
      | nil => exact absurd q (by simp)
      | cons s t =>
        simp only [List.headD_cons] at q hl
        have hq : s = 42 ∨ s = 43 := by rcases q with z | z <;> simp [z]
        rw [bin, if_pos hq] at hV
        match V, hV, hV2, h with
        | b :: a :: V', hV, hV2, h =>
          simp only [List.length_cons] at hV hV2 hS hN
          obtain ⟨h1, h2, h3, h4, h5, h6, h7, h8, h9⟩ := h
          simp only [List.length_cons] at h4 h6
          rw [opn, if_neg (by omega), Nat.add_zero] at h3
          have v1 : gI w 85 (V'.length + 1) = nI b := h7.1
          have v0 : gI w 85 V'.length = nI a := h7.2.2.1
          rw [rt_mg, rt_some]
          dsimp only
          rw [h6, nI_pred, inb_nI (i := V'.length + 1) (by omega) (by decide), if_pos rfl, nI_pred, inb_nI (i := V'.length) (by omega) (by decide), ix_nI (n := V'.length + 1) (by omega), ix_nI (n := V'.length) (by omega), v1, v0, show f_X12_top (sI w 47 62 (nI (V'.length + 1))) = f_X12_top w from rfl, ht, Option.bind_some, h4, nI_pred]
          have fin : ∀ (r t1 : Nat), t1 < 4 → r < 256 → Rt (wh (l_X12_joinsValues_0 (if x = true then 1 else 0)) N (sI (sI (sI (sI w 47 62 (nI (V'.length + 1))) 85 V'.length (nI r)) 84 t1 (gI w 84 t1 + 1)) 47 34 (nI t.length))) (fun w' => fx wrN w w' ∧ LD p (jvf x t (r :: V') (plus j (one1 t1))).1 (jvf x t (r :: V') (plus j (one1 t1))).2.1 c (jvf x t (r :: V') (plus j (one1 t1))).2.2 w') := fun r t1 ht1 hr => by
            have f1 : fx wrN w (sI (sI (sI (sI w 47 62 (nI (V'.length + 1))) 85 V'.length (nI r)) 84 t1 (gI w 84 t1 + 1)) 47 34 (nI t.length)) := (((fx.sI (by unfold wrN; omega)).tr (fx.sI (by unfold wrN; omega))).tr (fx.sI (by unfold wrN; omega))).tr (fx.sI (by unfold wrN; omega))
            refine (m_jv x d n t (r :: V') (plus j (one1 t1)) _ N (by omega) (by simp only [List.length_cons]; omega) (by omega) (by simp only [List.length_cons]; omega) (hs.fx f1) ⟨h1, h2, h3, rfl, h5.2.2.of (fun k hk => rfl), rfl, ⟨?_, hr, h7.2.2.2.2.of (fun k hk => ?_)⟩, h8, fun k hk => ?_⟩).mono ?_
            · show gI (sI w 85 V'.length (nI r)) 85 V'.length = nI r
              rw [gI_sI, if_pos ⟨rfl, rfl⟩]
            · show gI (sI w 85 V'.length (nI r)) 85 k = gI w 85 k
              rw [gI_sI, if_neg (by omega)]
            · show gI (sI w 84 t1 (gI w 84 t1 + 1)) 84 k = _
              rw [gI_sI]
              unfold plus one1
              by_cases e : k = t1
              · rw [if_pos ⟨rfl, e⟩, if_pos e, ← e, h9 k hk, nI_1]
              · rw [if_neg (fun z => e z.2), if_neg e]
                exact h9 k hk
            · rintro w' ⟨f2, g⟩
              exact ⟨f1.tr f2, g⟩
          have hab : a &&& b < 256 ∧ a ||| b < 256 := ⟨Nat.lt_of_le_of_lt Nat.and_le_left h7.2.2.2.1, Nat.or_lt_two_pow (n := 8) h7.2.2.2.1 h7.2.1⟩
          by_cases q2 : s = 42
          · have e : jvf x (s :: t) (b :: a :: V') j = jvf x t ((a &&& b) :: V') (plus j (one1 2)) := by rw [jvf_c (Or.inl q2), if_pos q2, if_pos q2]
            simp only [List.headD_cons] at ht ⊢
            rw [q2, if_pos (show nI 42 = 42 from rfl), if_pos trivial, Option.bind_some, if_pos trivial, fa_and, show f_X12_top (sI (sI w 47 62 (nI (V'.length + 1))) 85 V'.length (nI (a &&& b))) = f_X12_top w from rfl, ht, Option.bind_some, q2, if_pos (show nI 42 = 42 from rfl), Option.bind_some, if_pos (by decide), rt_some, nx_l, ← q2, e]
            exact fin (a &&& b) 2 (by decide) hab.1
          · have q3 : s = 43 := hq.resolve_left q2
            have e : jvf x (s :: t) (b :: a :: V') j = jvf x t ((a ||| b) :: V') (plus j (one1 3)) := by rw [jvf_c q, if_neg q2, if_neg q2]
            simp only [List.headD_cons] at ht ⊢
            rw [q3, if_neg (show ¬ nI 43 = 42 by decide), if_pos trivial, Option.bind_some, if_pos trivial, fa_or, show f_X12_top (sI (sI w 47 62 (nI (V'.length + 1))) 85 V'.length (nI (a ||| b))) = f_X12_top w from rfl, ht, Option.bind_some, q3, if_neg (show ¬ nI 43 = 42 by decide), Option.bind_some, if_pos (by decide), rt_some, nx_l, ← q3, e]
            exact fin (a ||| b) 3 (by decide) hab.2
    · have ec : (if nI (S.headD 0) = (42 : Int32) then (some (.inl ()) : Option (Unit ⊕ (Mm ⊕ Mm))) else (if (if x = true then (1 : Int32) else 0) = 0 then (some (.inr (.inr w))) else (Option.bind (some (nI (S.headD 0))) (fun p23 => if p23 = (43 : Int32) then (some (.inl ())) else (some (.inr (.inr w))))))) = some (.inr (.inr w)) := by
        rw [if_neg (fun z => q (Or.inl ((nI_eq (by omega) (by decide)).mp (z.trans (show (42 : Int32) = nI 42 from rfl)))))]
        by_cases z1 : x = true
        · rw [if_pos z1, if_neg (by decide), Option.bind_some, if_neg (fun z => q (Or.inr ⟨z1, (nI_eq (by omega) (by decide)).mp (z.trans (show (43 : Int32) = nI 43 from rfl))⟩))]
        · rw [if_neg z1, if_pos rfl]
      rw [ec, rt_mg, rt_some]
      dsimp only
      rw [nx_r, jvf_n (fun z => q (Or.inl z)) (fun z1 z => q (Or.inr ⟨z1, z⟩))]
      exact ⟨fx.rf, h⟩
theorem m_en (d : Dt) (n : Nat) : ∀ (S V : List Nat) (j : Nat → Nat) (w : Mm) (N : Nat), S.length < N → V.length = bin S + 1 → S.length ≤ 200 → V.length ≤ 64 → LSt d n w → LD p S V c j w → Rt (wh l_X12_endsD_0 N w) (fun w' => fx wrN w w' ∧ LD p (enf S V j).1 (enf S V j).2.1 c (enf S V j).2.2 w')
  | S, V, j, w, 0, hN, _, _, _, _, _ => absurd hN (Nat.not_lt_zero _)
  | S, V, j, w, N + 1, hN, hV, hS, hV2, hs, h => by
    have ht := m_top h hS
    have hl := hd_lt h
    refine rt_step ?_
    rw [l_X12_endsD_0, rt_onL, ht, Option.bind_some]
    refine ⟨hs.1, ?_⟩
    by_cases q : S.headD 0 = 45
    · rw [q, if_pos (show nI 45 = 45 from rfl)]
      cases S with
      | nil => exact absurd q (by simp)
      | cons s t =>
        simp only [List.headD_cons] at q
        rw [bin, if_neg (by omega)] at hV
        match V, hV, hV2, h with
        | a :: V', hV, hV2, h =>
          simp only [List.length_cons] at hV hV2 hS hN
          obtain ⟨h1, h2, h3, h4, h5, h6, h7, h8, h9⟩ := h
          simp only [List.length_cons] at h4 h6
          rw [opn, if_pos (Or.inl q)] at h3
          have e : enf (s :: t) (a :: V') j = enf t ((63 ^^^ a) :: V') (plus j (one1 1)) := enf_c q
          rw [h6, nI_pred, if_pos (inb_nI (by omega) (by decide)), ix_nI (by omega), h7.1, show (63 : Int32) = nI 63 from rfl, fb_xorI, h4, h3, nI_pred, nI_pred, show ix (1 : Int32) = 1 from rfl, rt_some, nx_l, e]
          have f1 : fx wrN w (sI (sI (sI (sI w 85 V'.length (nI (63 ^^^ a))) 84 1 (gI w 84 1 + 1)) 47 34 (nI t.length)) 47 33 (nI (opn t))) := (((fx.sI (by unfold wrN; omega)).tr (fx.sI (by unfold wrN; omega))).tr (fx.sI (by unfold wrN; omega))).tr (fx.sI (by unfold wrN; omega))
          refine (m_en d n t ((63 ^^^ a) :: V') (plus j (one1 1)) _ N (by omega) (by simp only [List.length_cons]; omega) (by omega) (by simp only [List.length_cons]; omega) (hs.fx f1) ⟨h1, h2, rfl, rfl, h5.2.2.of (fun k hk => rfl), h6, ⟨?_, Nat.xor_lt_two_pow (n := 8) (by decide) h7.2.1, h7.2.2.of (fun k hk => ?_)⟩, h8, fun k hk => ?_⟩).mono ?_
          · show gI (sI w 85 V'.length (nI (63 ^^^ a))) 85 V'.length = nI (63 ^^^ a)
            rw [gI_sI, if_pos ⟨rfl, rfl⟩]
          · show gI (sI w 85 V'.length (nI (63 ^^^ a))) 85 k = gI w 85 k
            rw [gI_sI, if_neg (by omega)]
          · show gI (sI w 84 1 (gI w 84 1 + 1)) 84 k = _
            rw [gI_sI]
            unfold plus one1
            by_cases e : k = 1
            · rw [if_pos ⟨rfl, e⟩, if_pos e, e, h9 1 (by decide), nI_1]
            · rw [if_neg (fun z => e z.2), if_neg e]
              exact h9 k hk
          · rintro w' ⟨f2, g⟩
            exact ⟨f1.tr f2, g⟩
    · rw [if_neg (fun z => q ((nI_eq (by omega) (by decide)).mp (z.trans (show (45 : Int32) = nI 45 from rfl)))), rt_some, nx_r, enf_n q]
      exact ⟨fx.rf, h⟩
end Lmm
