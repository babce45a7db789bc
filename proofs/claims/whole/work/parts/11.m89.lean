/-! the reference's memory while it reads NEAR's text -/
def wrW (c k : Nat) : Prop := (c = 47 ∧ (k = 28 ∨ k = 30 ∨ k = 32 ∨ k = 33 ∨ k = 34)) ∨ c = 66 ∨ c = 67 ∨ c = 68
def NSt (d : Dt) (n : Nat) (w : Mm) : Prop := Lay w ∧ (∀ k, k < n → gI w 48 k = (nI (d 10 k)).toInt8.toInt32) ∧ gI w 47 29 = nI n
def ND (p : Nat) (S : List Nat) (M : Cd) (w : Mm) : Prop := gI w 47 28 = nI p ∧ gI w 47 30 = 0 ∧ gI w 47 33 = nI (opm S) ∧ gI w 47 34 = nI S.length ∧ StA w 68 S ∧ gI w 47 32 = nI M.length ∧ CdM 66 w M
section Nmm
variable {d : Dt} {n p : Nat} {S : List Nat} {M : Cd} {w w' : Mm}
theorem NSt.mv {P : Nat → Nat → Prop} (h : NSt d n w) (f : fx P w w') (hP : ∀ c k, P c k → c = 48 ∨ (c = 47 ∧ k = 29) → False) : NSt d n w' := ⟨f.lay h.1, fun k hk => (f.I (fun z => hP _ _ z (Or.inl rfl))).trans (h.2.1 k hk), (f.I (fun z => hP _ _ z (Or.inr ⟨rfl, rfl⟩))).trans h.2.2⟩
theorem NSt.wW (h : NSt d n w) (f : fx wrW w w') : NSt d n w' := h.mv f (fun c k z y => by unfold wrW at z; omega)
theorem NSt.x (h : NSt d n w) {F : Int32} (h1 : gI w 47 28 = nI p) (h2 : gI w 47 30 = F) : Mx d n p F w := ⟨h.2.1, h.2.2, h1, h2⟩
theorem n_here (oT : OkT d) (hn : n ≤ 160) (hp : p ≤ 300) (h : NSt d n w) (h1 : gI w 47 28 = nI p) : f_X12_here w = some (nI (hh d n p)) := m_here oT (by omega) (by omega) (h.x h1 rfl)
theorem n_wrongs (h1 : gI w 47 28 = nI p) (h2 : gI w 47 30 = 0) (c : Nat) : f_X12_wrongs (nI c) (nI p) w = some (sI w 47 30 (flt c p)) := by
  unfold f_X12_wrongs
  rw [h2, if_pos (by decide), Option.bind_some]
  rfl
theorem n_top (h34 : gI w 47 34 = nI S.length) (h68 : StA w 68 S) (hS : S.length ≤ 200) : f_X12_top w = some (nI (S.headD 0)) := by
  unfold f_X12_top
  cases S with
  | nil => rw [h34, if_pos (show nI ([] : List Nat).length ≤ 0 by decide)]; rfl
  | cons s t =>
    rw [List.length_cons] at h34 hS
    rw [h34, if_neg (nI_nle (by omega) (by omega)), nI_pred, if_pos (inb_nI (by omega) (by decide)), ix_nI (by omega), h68.1]
    rfl
theorem sta_hd {c : Nat} (h : StA w c S) : S.headD 0 < 256 := by
  cases S with
  | nil => decide
  | cons s t => exact h.2.1
theorem fl_app {M : Cd} {x : Nat × Nat} {a : Nat} : Fl (M ++ [x]) a = if a < M.length then Fl M a else if a = M.length then x else (0, 0) := by
  unfold Fl
  rw [List.getD_eq_getElem?_getD, List.getD_eq_getElem?_getD]
  by_cases h : a < M.length
  · rw [if_pos h, List.getElem?_append_left h]
  · rw [if_neg h, List.getElem?_append_right (by omega)]
    by_cases h2 : a = M.length
    · rw [if_pos h2, h2, Nat.sub_self]
      rfl
    · rw [if_neg h2, List.getElem?_eq_none (by rw [List.length_cons, List.length_nil]; omega)]
      rfl
theorem cdm_add {c x y : Nat} {L : Nat} (h : CdM c w M) (e1 : ∀ k, k ≠ L → gI w' c k = gI w c k) (e2 : ∀ k, k ≠ L → gI w' (c + 1) k = gI w (c + 1) k) (hL : L = M.length) (h1 : gI w' c L = nI x) (h2 : gI w' (c + 1) L = nI y) : CdM c w' (M ++ [(x, y)]) := by
  intro a ha
  rw [List.length_append, List.length_cons, List.length_nil] at ha
  rw [fl_app]
  by_cases z : a < M.length
  · rw [if_pos z, e1 a (by omega), e2 a (by omega)]
    exact h a z
  · have : a = L := by omega
    rw [if_neg z, if_pos (by omega), this]
    exact ⟨h1, h2⟩
/-- a step more -/
theorem n_emit (hL : Lay w) (h : ND p S M w) (hM : M.length < 160) (x y : Nat) : Rt (f_X12_emit (nI x) (nI y) w) (fun w' => fx wrW w w' ∧ ND p S (M ++ [(x, y)]) w' ∧ gI w' 47 36 = gI w 47 36) := by
  obtain ⟨h1, h2, h3, h4, h5, h6, h7⟩ := h
  unfold f_X12_emit
  rw [ig_1 h2, Option.bind_some, if_neg (by decide), h6, if_pos (inb_nI hM (by decide)), ix_nI (by omega), rt_some, nI_1]
  refine ⟨((fx.sI (by unfold wrW; omega)).tr (fx.sI (by unfold wrW; omega))).tr (fx.sI (by unfold wrW; omega)), ⟨h1, h2, h3, h4, h5.of (fun k hk => rfl), ?_, ?_⟩, rfl⟩
  · rw [List.length_append, List.length_cons, List.length_nil]
    rfl
  · refine cdm_add (w := w) (L := M.length) h7 (fun k hk => ?_) (fun k hk => ?_) rfl ?_ ?_
    · show gI (sI w 66 M.length (nI x)) 66 k = _
      rw [gI_sI, if_neg (fun z => hk z.2)]
    · show gI (sI (sI w 66 M.length (nI x)) 67 M.length (nI y)) 67 k = gI w 67 k
      rw [gI_sI, if_neg (fun z => hk z.2)]
      rfl
    · show gI (sI w 66 M.length (nI x)) 66 M.length = _
      rw [gI_sI, if_pos ⟨rfl, rfl⟩]
    · show gI (sI (sI w 66 M.length (nI x)) 67 M.length (nI y)) 67 M.length = _
      rw [gI_sI, if_pos ⟨rfl, rfl⟩]
theorem popf_len {q : Nat → Bool} {em : Nat → Nat} : ∀ (S : List Nat) (M : Cd), (popf q em S M).2.length + (popf q em S M).1.length = M.length + S.length ∧ (popf q em S M).1.length ≤ S.length
  | [], M => ⟨rfl, Nat.le_refl _⟩
  | s :: S, M => by
    rw [popf]
    split
    · have ih := popf_len (q := q) (em := em) S (M ++ [(em s, 0)])
      rw [List.length_append, List.length_cons, List.length_nil] at ih
      rw [List.length_cons]
      omega
    · exact ⟨rfl, Nat.le_refl _⟩
theorem is_times : ∀ s, s < 256 → f_X12_isTimes (nI s) = if opA 0 s = 0 then 0 else 1 := by decide +kernel
theorem is_plus : ∀ s, s < 256 → f_X12_isPlus (nI s) = if opA 1 s = 0 then 0 else 1 := by decide +kernel
theorem is_sign : ∀ s, s < 256 → f_X12_isSign (nI s) = if cps s = 0 then 0 else 1 := by decide +kernel
theorem is_value : ∀ s, s < 256 → f_X12_isValue (nI s) = if ltr s = 8 then 0 else 1 := by decide +kernel
theorem is_digit : ∀ s, s < 256 → f_X12_lies (nI s).toInt64 48 57 = if 48 ≤ s ∧ s ≤ 57 then 1 else 0 := by decide +kernel
theorem opm_n {s : Nat} (h : qsm true s = true ∨ qj true s = true) : ¬ (s = 40 ∨ s = 91 ∨ s = 33) := by
  rintro (rfl | rfl | rfl) <;> exact absurd h (by decide)
/-- one that waits is written down -/
theorem n_pop1 {s : Nat} (hL : Lay w) (h : ND p (s :: S) M w) (hM : M.length < 160) (hs : s < 256) (hne : ¬ (s = 40 ∨ s = 91 ∨ s = 33)) {N : Nat} {b : Mm → Option (Mm ⊕ Mm)} {Q : Mm → Prop} (hQ : ∀ w', fx wrW w w' → gI w' 47 36 = gI w 47 36 → ND p S (M ++ [(s, 0)]) w' → Rt (wh b N w') Q) : Rt (Option.bind (f_X12_emit (nI s) (0 : Int32) w) (fun p6 => onL p6 (some (.inl (sI p6 47 34 ((gI p6 47 34) - (1 : Int32)))) : Option (Mm ⊕ Mm)))) (Nx (fun s' => Rt (wh b N s') Q) Q) := by
  rw [rt_bind]
  refine (n_emit hL h hM s 0).mono ?_
  rintro w1 ⟨f1, ⟨h1, h2, h3, h4, h5, h6, h7⟩, g36⟩
  rw [rt_onL, rt_some, nx_l, h4, List.length_cons, nI_pred]
  refine ⟨f1.lay hL, hQ _ (f1.tr (fx.sI (by unfold wrW; omega))) g36 ⟨h1, h2, ?_, rfl, h5.2.2.of (fun k hk => rfl), h6, fun a ha => h7 a ha⟩⟩
  show gI w1 47 33 = _
  rw [h3, opm, if_neg hne, Nat.add_zero]
theorem sums_c {x : Bool} {t : Nat} {w : Mm} (hl : t < 256) : (if (if opA 0 t = 0 then (0 : Int32) else 1) = 0 then (if (if x = true then (1 : Int32) else 0) = 0 then (some (.inr (.inr w))) else (Option.bind (some (nI t)) (fun p9 => if (f_X12_isPlus p9) = 0 then (some (.inr (.inr w))) else (some (.inl ()))))) else (some (.inl ()) : Option (Unit ⊕ (Mm ⊕ Mm)))) = if qsm x t = true then some (.inl ()) else some (.inr (.inr w)) := by
  rw [Option.bind_some, is_plus _ hl]
  unfold qsm
  by_cases z : opA 0 t = 0
  · rw [if_pos z, if_pos rfl]
    by_cases y : x = true
    · rw [if_pos y, if_neg (by decide)]
      by_cases u : opA 1 t = 0
      · rw [if_pos u, if_pos rfl]; simp [z, u]
      · rw [if_neg u, if_neg (by decide)]; simp [y, u]
    · rw [if_neg y, if_pos rfl]; simp [z, y]
  · rw [if_neg z, if_neg (by decide)]; simp [z]
theorem joins_c {x : Bool} {t : Nat} {w : Mm} (hl : t < 256) : (if nI t = (38 : Int32) then (some (.inl ()) : Option (Unit ⊕ (Mm ⊕ Mm))) else (if (if x = true then (1 : Int32) else 0) = 0 then (some (.inr (.inr w))) else (Option.bind (some (nI t)) (fun p9 => if p9 = (124 : Int32) then (some (.inl ())) else (some (.inr (.inr w))))))) = if qj x t = true then some (.inl ()) else some (.inr (.inr w)) := by
  have e38 : nI t = 38 ↔ t = 38 := nI_eq (b := 38) (by omega) (by decide)
  have e124 : nI t = 124 ↔ t = 124 := nI_eq (b := 124) (by omega) (by decide)
  rw [Option.bind_some]
  unfold qj
  by_cases z : t = 38
  · rw [if_pos (e38.mpr z)]; simp [z]
  · rw [if_neg (fun y => z (e38.mp y))]
    by_cases y : x = true
    · rw [if_pos y, if_neg (by decide)]
      by_cases u : t = 124
      · rw [if_pos (e124.mpr u)]; simp [y, u]
      · rw [if_neg (fun v => u (e124.mp v))]; simp [z, u]
    · rw [if_neg y, if_pos rfl]; simp [z, y]
theorem n_sums (x : Bool) : ∀ (S : List Nat) (M : Cd) (w : Mm) (N : Nat), S.length < N → M.length + S.length ≤ 160 → Lay w → ND p S M w → Rt (wh (l_X12_sums_0 (if x = true then 1 else 0)) N w) (fun w' => fx wrW w w' ∧ gI w' 47 36 = gI w 47 36 ∧ ND p (smf x S M).1 (smf x S M).2 w')
  | S, M, w, 0, hN, _, _, _ => absurd hN (Nat.not_lt_zero _)
  | S, M, w, N + 1, hN, hM, hL, h => by
    have ht := n_top h.2.2.2.1 h.2.2.2.2.1 (by omega)
    have hl := sta_hd h.2.2.2.2.1
    refine rt_step ?_
    rw [l_X12_sums_0, rt_onL, ht, Option.bind_some, is_times _ hl]
    refine ⟨hL, ?_⟩
    have ec := sums_c (x := x) (w := w) hl
    rw [ec]
    by_cases q : qsm x (S.headD 0) = true
    · rw [if_pos q, rt_mg, rt_some]
      dsimp only
      cases S with
      | nil => rw [show ([] : List Nat).headD 0 = 0 from rfl, qsm_0] at q; cases q
      | cons s t =>
        rw [List.headD_cons] at q hl
        rw [List.headD_cons, Option.bind_some]
        rw [List.length_cons] at hN hM
        have q1 : qsm true s = true := by
          unfold qsm at q ⊢
          cases x with
          | true => exact q
          | false => rw [Bool.false_and, Bool.or_false] at q; rw [q]; rfl
        refine n_pop1 hL h (by omega) hl (opm_n (Or.inl q1)) ?_
        intro w' f1 g36 h'
        refine (n_sums x t (M ++ [(s, 0)]) w' N (by omega) (by rw [List.length_append, List.length_cons, List.length_nil]; omega) (f1.lay hL) h').mono ?_
        rintro w2 ⟨f2, g2, h2⟩
        rw [show smf x (s :: t) M = smf x t (M ++ [(s, 0)]) from popf_c q]
        exact ⟨f1.tr f2, g2.trans g36, h2⟩
    · rw [if_neg q, rt_mg, rt_some]
      dsimp only
      rw [nx_r, show smf x S M = (S, M) from popf_n (Bool.eq_false_iff.mpr q)]
      exact ⟨fx.rf, rfl, h⟩
theorem qj_0 : ∀ x, qj x 0 = false := by decide
theorem n_joins (x : Bool) : ∀ (S : List Nat) (M : Cd) (w : Mm) (N : Nat), S.length < N → M.length + S.length ≤ 160 → Lay w → ND p S M w → Rt (wh (l_X12_joins_0 (if x = true then 1 else 0)) N w) (fun w' => fx wrW w w' ∧ ND p (jnf x S M).1 (jnf x S M).2 w')
  | S, M, w, 0, hN, _, _, _ => absurd hN (Nat.not_lt_zero _)
  | S, M, w, N + 1, hN, hM, hL, h => by
    have ht := n_top h.2.2.2.1 h.2.2.2.2.1 (by omega)
    have hl := sta_hd h.2.2.2.2.1
    refine rt_step ?_
    rw [l_X12_joins_0, rt_onL, ht, Option.bind_some]
    refine ⟨hL, ?_⟩
    have ec := joins_c (x := x) (w := w) hl
    rw [ec]
    by_cases q : qj x (S.headD 0) = true
    · rw [if_pos q, rt_mg, rt_some]
      dsimp only
      cases S with
      | nil => rw [show ([] : List Nat).headD 0 = 0 from rfl, qj_0] at q; cases q
      | cons s t =>
        rw [List.headD_cons] at q hl
        rw [List.headD_cons, Option.bind_some]
        rw [List.length_cons] at hN hM
        have q1 : qj true s = true := by
          unfold qj at q ⊢
          cases x with
          | true => exact q
          | false => rw [Bool.false_and, Bool.or_false] at q; rw [q]; rfl
        refine n_pop1 hL h (by omega) hl (opm_n (Or.inr q1)) ?_
        intro w' f1 g36 h'
        refine (n_joins x t (M ++ [(s, 0)]) w' N (by omega) (by rw [List.length_append, List.length_cons, List.length_nil]; omega) (f1.lay hL) h').mono ?_
        rintro w2 ⟨f2, h2⟩
        rw [show jnf x (s :: t) M = jnf x t (M ++ [(s, 0)]) from popf_c q]
        exact ⟨f1.tr f2, h2⟩
    · rw [if_neg q, rt_mg, rt_some]
      dsimp only
      rw [nx_r, show jnf x S M = (S, M) from popf_n (Bool.eq_false_iff.mpr q)]
      exact ⟨fx.rf, h⟩
theorem n_ends : ∀ (S : List Nat) (M : Cd) (w : Mm) (N : Nat), S.length < N → M.length + S.length ≤ 160 → Lay w → ND p S M w → Rt (wh l_X12_ends_0 N w) (fun w' => fx wrW w w' ∧ ND p (nef S M).1 (nef S M).2 w')
  | S, M, w, 0, hN, _, _, _ => absurd hN (Nat.not_lt_zero _)
  | S, M, w, N + 1, hN, hM, hL, h => by
    have ht := n_top h.2.2.2.1 h.2.2.2.2.1 (by omega)
    have hl := sta_hd h.2.2.2.2.1
    refine rt_step ?_
    rw [l_X12_ends_0, rt_onL, ht, Option.bind_some]
    refine ⟨hL, ?_⟩
    have e33 : nI (S.headD 0) = 33 ↔ S.headD 0 = 33 := nI_eq (b := 33) (by omega) (by decide)
    by_cases q : S.headD 0 = 33
    · rw [if_pos (e33.mpr q)]
      cases S with
      | nil => exact absurd q (by decide)
      | cons s t =>
        rw [List.headD_cons] at q
        rw [List.length_cons] at hN hM
        rw [rt_bind]
        refine (n_emit hL h (by omega) 2 0).mono ?_
        rintro w1 ⟨f1, ⟨h1, h2, h3, h4, h5, h6, h7⟩, -⟩
        rw [opm, if_pos (Or.inr (Or.inr q))] at h3
        rw [rt_onL, rt_some, nx_l, h4, h3, List.length_cons, nI_pred, nI_pred]
        refine ⟨f1.lay hL, ?_⟩
        have f2 : fx wrW w1 (sI (sI w1 47 34 (nI t.length)) 47 33 (nI (opm t))) := (fx.sI (by unfold wrW; omega)).tr (fx.sI (by unfold wrW; omega))
        refine (n_ends t (M ++ [(2, 0)]) _ N (by omega) (by rw [List.length_append, List.length_cons, List.length_nil]; omega) (f2.lay (f1.lay hL)) ⟨h1, h2, rfl, rfl, h5.2.2.of (fun k hk => rfl), h6, fun a ha => h7 a ha⟩).mono ?_
        rintro w2 ⟨f3, h8⟩
        rw [show nef (s :: t) M = nef t (M ++ [(2, 0)]) from popf_c (by unfold qn; exact decide_eq_true q)]
        exact ⟨(f1.tr f2).tr f3, h8⟩
    · rw [if_neg (fun z => q (e33.mp z)), rt_some, nx_r, show nef S M = (S, M) from popf_n (by unfold qn; exact decide_eq_false q)]
      exact ⟨fx.rf, h⟩
/-- a sign is laid on the stack -/
theorem n_puts {b : Nat} (hb : b < 256) (hne : ¬ (b = 40 ∨ b = 91 ∨ b = 33)) (h : ND p S M w) (hS : S.length < 200) : Rt (f_X12_puts (nI b) w) (fun w' => fx wrW w w' ∧ ND (p + 1) (b :: S) M w' ∧ gI w' 47 36 = gI w 47 36) := by
  obtain ⟨h1, h2, h3, h4, h5, h6, h7⟩ := h
  unfold f_X12_puts
  rw [h4, if_pos (inb_nI hS (by decide)), ix_nI (by omega), rt_some, nI_1, h1, nI_1]
  refine ⟨((fx.sI (by unfold wrW; omega)).tr (fx.sI (by unfold wrW; omega))).tr (fx.sI (by unfold wrW; omega)), ⟨rfl, h2, ?_, by rw [List.length_cons]; rfl, ⟨?_, hb, h5.of (fun k hk => ?_)⟩, h6, fun a ha => h7 a ha⟩, rfl⟩
  · rw [opm, if_neg hne, Nat.add_zero]; exact h3
  · show gI (sI w 68 S.length (nI b)) 68 S.length = _
    rw [gI_sI, if_pos ⟨rfl, rfl⟩]
  · show gI (sI w 68 S.length (nI b)) 68 k = _
    rw [gI_sI, if_neg (by omega)]
/-- a bracket or a NOT opens -/
theorem n_opens (oT : OkT d) (hn : n ≤ 160) (hp : p ≤ n) (hs : NSt d n w) (h : ND p S M w) (hb : hh d n p = 40 ∨ hh d n p = 91 ∨ hh d n p = 33) (hS : S.length < 200) : Rt (f_X12_opens w) (fun w' => fx wrW w w' ∧ (opm S = 6 → gI w' 47 30 = flt 5 p) ∧ (¬ opm S = 6 → ND (p + 1) (hh d n p :: S) M w')) := by
  have hop : opm S ≤ S.length := by
    clear h
    induction S with
    | nil => exact Nat.le_refl _
    | cons s t ih =>
      have := ih (by rw [List.length_cons] at hS; omega)
      rw [opm, List.length_cons]
      split <;> omega
  obtain ⟨h1, h2, h3, h4, h5, h6, h7⟩ := h
  unfold f_X12_opens f_X12_puts
  rw [h3]
  by_cases q : opm S = 6
  · have f1 : fx wrW w (sI w 47 30 (flt 5 p)) := fx.sI (by unfold wrW; omega)
    have f2 : fx wrW w (sI (sI w 47 30 (flt 5 p)) 47 33 (gI (sI w 47 30 (flt 5 p)) 47 33 + 1)) := f1.tr (fx.sI (by unfold wrW; omega))
    rw [q, if_pos (show nI 6 = 6 from rfl), h1, show f_X12_wrongs (5 : Int32) (nI p) w = some (sI w 47 30 (flt 5 p)) from n_wrongs h1 h2 5, Option.bind_some, Option.bind_some, rt_onL]
    refine ⟨f1.lay hs.1, ?_⟩
    rw [n_here oT hn (by omega) (hs.wW f2) (show gI (sI (sI w 47 30 (flt 5 p)) 47 33 (gI (sI w 47 30 (flt 5 p)) 47 33 + 1)) 47 28 = nI p from h1), Option.bind_some, show gI (sI (sI w 47 30 (flt 5 p)) 47 33 (gI (sI w 47 30 (flt 5 p)) 47 33 + 1)) 47 34 = gI w 47 34 from rfl, h4, if_pos (inb_nI hS (by decide)), Option.bind_some, rt_some]
    exact ⟨((f2.tr (fx.sI (by unfold wrW; omega))).tr (fx.sI (by unfold wrW; omega))).tr (fx.sI (by unfold wrW; omega)), fun _ => rfl, fun z => absurd rfl z⟩
  · have f2 : fx wrW w (sI w 47 33 (gI w 47 33 + 1)) := fx.sI (by unfold wrW; omega)
    rw [if_neg (fun z => q ((nI_eq (by omega) (by decide)).mp (z.trans (show (6 : Int32) = nI 6 from rfl)))), Option.bind_some, rt_onL]
    refine ⟨hs.1, ?_⟩
    rw [n_here oT hn (by omega) (hs.wW f2) (show gI (sI w 47 33 (gI w 47 33 + 1)) 47 28 = nI p from h1), Option.bind_some, show gI (sI w 47 33 (gI w 47 33 + 1)) 47 34 = gI w 47 34 from rfl, h4, if_pos (inb_nI hS (by decide)), Option.bind_some, rt_some, ix_nI (by omega), h3, nI_1, nI_1, show gI (sI w 47 33 (nI (opm S + 1))) 47 28 = gI w 47 28 from rfl, h1, nI_1]
    refine ⟨(((fx.sI (by unfold wrW; omega)).tr (fx.sI (by unfold wrW; omega))).tr (fx.sI (by unfold wrW; omega))).tr (fx.sI (by unfold wrW; omega)), fun z => absurd z q, fun _ => ⟨rfl, h2, ?_, by rw [List.length_cons]; rfl, ⟨?_, hh_256 oT, h5.of (fun k hk => ?_)⟩, h6, fun a ha => h7 a ha⟩⟩
    · rw [opm, if_pos hb]; rfl
    · show gI (sI w 68 S.length (nI (hh d n p))) 68 S.length = _
      rw [gI_sI, if_pos ⟨rfl, rfl⟩]
    · show gI (sI w 68 S.length (nI (hh d n p))) 68 k = gI w 68 k
      rw [gI_sI, if_neg (by omega)]
end Nmm
