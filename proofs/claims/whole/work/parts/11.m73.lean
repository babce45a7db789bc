/-! what NEAR's codes come to -/
def chr (c : Nat) : Nat := if c = 2 then 43 else if c = 3 then 45 else if c = 4 then 42 else if c = 5 then 47 else if c = 6 then 37 else if c = 7 then 60 else if c = 8 then 62 else 61
/-- the class's code, run -/
def kst (F : Nat → Nat × Nat) (L : Nat → Int32) (to : Nat) (rec : Nat → List Int32 → Option Int32) (a : Nat) (st : List Int32) : Option Int32 := if a < to then (if (F a).1 = 0 then (if st.length < 24 then rec (a + 1) (nI (F a).2 :: st) else none) else if (F a).1 = 1 then (if st.length < 24 then rec (a + 1) (L (F a).2 :: st) else none) else (match st with
    | [] => none
    | v :: t => if (F a).1 = 10 then rec (a + 1) ((1 - v) :: t) else if (F a).1 = 11 then (if v = 0 then rec (a + 1) t else rec (F a).2 (v :: t)) else if (F a).1 = 12 then (if v = 0 then rec (F a).2 (v :: t) else rec (a + 1) t) else (match t with
      | [] => none
      | x :: t' => match ap (chr (F a).1) x v with
        | none => some 0
        | some z => rec (a + 1) (z :: t')))) else some (st.getLastD 0)
def kr (F : Nat → Nat × Nat) (L : Nat → Int32) (to : Nat) : Nat → Nat → List Int32 → Option Int32
  | 0, _, _ => none
  | f + 1, a, st => kst F L to (kr F L to f) a st
def AtC (F : Nat → Nat × Nat) : Nat → Cd → Prop
  | _, [] => True
  | s, x :: t => F s = x ∧ AtC F (s + 1) t
def Cpt (F : Nat → Nat × Nat) (s len need : Nat) (g : Mn) : Prop := ∀ L to st, s + len ≤ to → st.length + need ≤ 24 → (g L = none → ∀ f, len < f → kr F L to f s st = some 0) ∧ ∀ v, g L = some v → ∀ f, len < f → ∃ f', f - len ≤ f' ∧ kr F L to f s st = kr F L to f' (s + len) (v :: st)
def dz (b : Nat) (u v : Option Int32) : Option Int32 := if b = 38 then u.bind (fun x => if x = 1 then v else some x) else if b = 124 then u.bind (fun x => if x = 0 then v else some x) else u.bind fun x => v.bind fun y => ap b x y
/-- the reference's code, worked -/
def mst (L : Nat → Int32) (rec : List (Option Int32) → Option (List (Option Int32))) (x : Nat × Nat) (st : List (Option Int32)) : Option (List (Option Int32)) := if x.1 = 0 then rec (some (nI x.2) :: st) else if x.1 = 1 then rec (some (L (ltr x.2)) :: st) else (match st with
    | [] => none
    | v :: t => if x.1 = 2 then rec (v.map (fun x => 1 - x) :: t) else (match t with
      | [] => none
      | u :: t' => rec (dz x.1 u v :: t')))
def me (L : Nat → Int32) : Cd → List (Option Int32) → Option (List (Option Int32))
  | [], st => some st
  | x :: M, st => mst L (me L M) x st
def NS (s need : Nat) (K M : Cd) (g : Mn) : Prop := (∀ F, AtC F s K → Cpt F s K.length need g) ∧ ∀ L st, me L M st = some (g L :: st)
def B01 (g : Mn) : Prop := ∀ L v, g L = some v → v = 0 ∨ v = 1
section Nsm
variable {F : Nat → Nat × Nat} {L : Nat → Int32} {to f a : Nat} {st : List Int32}
theorem kr_num (ha : a < to) (h : (F a).1 = 0) (hs : st.length < 24) : kr F L to (f + 1) a st = kr F L to f (a + 1) (nI (F a).2 :: st) := by
  rw [kr]
  unfold kst
  rw [if_pos ha, if_pos h, if_pos hs]
theorem kr_let (ha : a < to) (h : (F a).1 = 1) (hs : st.length < 24) : kr F L to (f + 1) a st = kr F L to f (a + 1) (L (F a).2 :: st) := by
  rw [kr]
  unfold kst
  rw [if_pos ha, if_neg (by omega), if_pos h, if_pos hs]
theorem kr_not {v : Int32} (ha : a < to) (h : (F a).1 = 10) : kr F L to (f + 1) a (v :: st) = kr F L to f (a + 1) ((1 - v) :: st) := by
  rw [kr]
  unfold kst
  rw [if_pos ha, if_neg (by omega), if_neg (by omega)]
  dsimp only
  rw [if_pos h]
theorem kr_11 {v : Int32} (ha : a < to) (h : (F a).1 = 11) : kr F L to (f + 1) a (v :: st) = if v = 0 then kr F L to f (a + 1) st else kr F L to f (F a).2 (v :: st) := by
  rw [kr]
  unfold kst
  rw [if_pos ha, if_neg (by omega), if_neg (by omega)]
  dsimp only
  rw [if_neg (by omega), if_pos h]
theorem kr_12 {v : Int32} (ha : a < to) (h : (F a).1 = 12) : kr F L to (f + 1) a (v :: st) = if v = 0 then kr F L to f (F a).2 (v :: st) else kr F L to f (a + 1) st := by
  rw [kr]
  unfold kst
  rw [if_pos ha, if_neg (by omega), if_neg (by omega)]
  dsimp only
  rw [if_neg (by omega), if_neg (by omega), if_pos h]
theorem kr_op {x v : Int32} (ha : a < to) (h : 2 ≤ (F a).1 ∧ (F a).1 ≤ 9) : kr F L to (f + 1) a (v :: x :: st) = match ap (chr (F a).1) x v with
    | none => some 0
    | some z => kr F L to f (a + 1) (z :: st) := by
  rw [kr]
  unfold kst
  rw [if_pos ha, if_neg (by omega), if_neg (by omega)]
  dsimp only
  rw [if_neg (by omega), if_neg (by omega), if_neg (by omega)]
theorem at_app {K K' : Cd} : ∀ {s : Nat}, AtC F s (K ++ K') → AtC F s K ∧ AtC F (s + K.length) K' := by
  induction K with
  | nil => exact fun h => ⟨trivial, h⟩
  | cons x t ih =>
    intro s h
    have := ih h.2
    exact ⟨⟨h.1, this.1⟩, by rw [List.length_cons, show s + (t.length + 1) = s + 1 + t.length by omega]; exact this.2⟩
theorem me_app {M' : Cd} : ∀ (M : Cd) (st : List (Option Int32)), me L (M ++ M') st = (me L M st).bind (me L M')
  | [], st => rfl
  | x :: M, st => by
    rw [List.cons_append, me, me]
    unfold mst
    split
    · exact me_app M _
    · split
      · exact me_app M _
      · split
        · rfl
        · split
          · exact me_app M _
          · split
            · rfl
            · exact me_app M _
theorem me_op {b : Nat} {u v : Option Int32} {st : List (Option Int32)} (hb : 2 < b) : me L [(b, 0)] (v :: u :: st) = some (dz b u v :: st) := by
  rw [me]
  unfold mst
  rw [if_neg (show ¬ b = 0 by omega), if_neg (show ¬ b = 1 by omega)]
  dsimp only
  rw [if_neg (show ¬ b = 2 by omega)]
  rfl
/-- two values joined -/
theorem ns_op {s need b c : Nat} {K M K' M' : Cd} {g g' : Mn} (hc : 2 ≤ c ∧ c ≤ 9) (hcb : chr c = b) (hb : 2 < b ∧ b ≠ 38 ∧ b ≠ 124) (h : NS s (need + 1) K M g) (h' : NS (s + K.length) need K' M' g') : NS s (need + 1) (K ++ K' ++ [(c, 0)]) (M ++ M' ++ [(b, 0)]) (bd2 b g g') := by
  constructor
  · intro F hF L to st hto hst
    obtain ⟨hF1, hF2⟩ := at_app hF
    obtain ⟨hF3, hF4⟩ := at_app hF1
    simp only [List.length_append, List.length_cons, List.length_nil] at hto hF2
    have k1 := h.1 F hF3 L to st (by omega) hst
    have hlen : (K ++ K' ++ [(c, 0)]).length = K.length + K'.length + 1 := by simp only [List.length_append, List.length_cons, List.length_nil]
    rw [hlen]
    have hFc : (F (s + K.length + K'.length)).1 = c := by rw [show s + K.length + K'.length = s + (K.length + K'.length) by omega, hF2.1]
    unfold bd2
    cases e1 : g L with
    | none => exact ⟨fun _ f hf => k1.1 e1 f (by omega), fun v hv => (by cases hv)⟩
    | some x =>
      have k2 := h'.1 F hF4 L to (x :: st) (by omega) (by simp only [List.length_cons]; omega)
      cases e2 : g' L with
      | none =>
        refine ⟨fun _ f hf => ?_, fun v hv => (by cases hv)⟩
        obtain ⟨f1, l1, q1⟩ := k1.2 x e1 f (by omega)
        rw [q1]
        exact k2.1 e2 f1 (by omega)
      | some y =>
        have go : ∀ f, K.length + K'.length + 1 < f → ∃ f', f - (K.length + K'.length + 1) ≤ f' ∧ kr F L to f s st = match ap b x y with
            | none => some 0
            | some z => kr F L to f' (s + (K.length + K'.length + 1)) (z :: st) := fun f hf => by
          obtain ⟨f1, l1, q1⟩ := k1.2 x e1 f (by omega)
          obtain ⟨f2, l2, q2⟩ := k2.2 y e2 f1 (by omega)
          obtain ⟨f3, rfl⟩ : ∃ f3, f2 = f3 + 1 := ⟨f2 - 1, by omega⟩
          refine ⟨f3, by omega, ?_⟩
          rw [q1, q2, kr_op (by omega) (by rw [hFc]; exact hc), hFc, hcb, show s + (K.length + K'.length + 1) = s + K.length + K'.length + 1 by omega]
        show (ap b x y = none → _) ∧ ∀ v, ap b x y = some v → _
        refine ⟨fun hn f hf => ?_, fun v hv f hf => ?_⟩
        · obtain ⟨f', _, q⟩ := go f hf
          rw [hn] at q
          exact q
        · obtain ⟨f', l, q⟩ := go f hf
          rw [hv] at q
          exact ⟨f', l, q⟩
  · intro L st
    rw [me_app, me_app, h.2, Option.bind_some, h'.2, Option.bind_some, me_op hb.1]
    unfold dz bd2
    rw [if_neg hb.2.1, if_neg hb.2.2]
/-- two conditions joined -/
theorem ns_jn {s need jb jc : Nat} {K M K' M' : Cd} {g g' : Mn} (hj : (jb = 124 ∧ jc = 11) ∨ (jb = 38 ∧ jc = 12)) (hB : B01 g) (hB' : B01 g') (h : NS s need K M g) (h' : NS (s + K.length + 1) need K' M' g') : NS s need (K ++ (jc, s + K.length + 1 + K'.length) :: K') (M ++ M' ++ [(jb, 0)]) (lzy jb g g') ∧ B01 (lzy jb g g') := by
  refine ⟨⟨?_, ?_⟩, ?_⟩
  · intro F hF L to st hto hst
    obtain ⟨hF1, hF2, hF3⟩ := at_app hF
    have hlen : (K ++ (jc, s + K.length + 1 + K'.length) :: K').length = K.length + K'.length + 1 := by simp only [List.length_append, List.length_cons]; omega
    rw [hlen] at hto ⊢
    have k1 := h.1 F hF1 L to st (by omega) hst
    have k2 := h'.1 F hF3 L to st (by omega) hst
    unfold lzy
    cases e1 : g L with
    | none => exact ⟨fun _ f hf => k1.1 e1 f (by omega), fun v hv => (by cases hv)⟩
    | some x =>
      have hx := hB L x e1
      have go : ∀ f, K.length + K'.length + 1 < f → ∃ f1, f - (K.length + 1) ≤ f1 ∧ kr F L to f s st = if (if jb = 124 then x = 0 else x = 1) then kr F L to f1 (s + K.length + 1) st else kr F L to f1 (s + K.length + 1 + K'.length) (x :: st) := fun f hf => by
        obtain ⟨f1, l1, q1⟩ := k1.2 x e1 f (by omega)
        obtain ⟨f2, rfl⟩ : ∃ f2, f1 = f2 + 1 := ⟨f1 - 1, by omega⟩
        refine ⟨f2, by omega, ?_⟩
        rcases hj with ⟨j1, j2⟩ | ⟨j1, j2⟩
        · rw [q1, kr_11 (by omega) (by rw [hF2]; exact j2), hF2, j1]
          rfl
        · rw [q1, kr_12 (by omega) (by rw [hF2]; exact j2), hF2, j1]
          rcases hx with rfl | rfl
          · rfl
          · rfl
      by_cases q : (if jb = 124 then x = 0 else x = 1)
      · have el : (some x).bind (fun x => if jb = 124 then (if x = 0 then g' L else some x) else (if x = 1 then g' L else some x)) = g' L := by
          show (if jb = 124 then (if x = 0 then g' L else some x) else (if x = 1 then g' L else some x)) = g' L
          split at q
          · rw [if_pos ‹_›, if_pos q]
          · rw [if_neg ‹_›, if_pos q]
        rw [el]
        refine ⟨fun hn f hf => ?_, fun v hv f hf => ?_⟩
        · obtain ⟨f1, l1, q1⟩ := go f hf
          rw [q1, if_pos q]
          exact k2.1 hn f1 (by omega)
        · obtain ⟨f1, l1, q1⟩ := go f hf
          obtain ⟨f2, l2, q2⟩ := k2.2 v hv f1 (by omega)
          refine ⟨f2, by omega, ?_⟩
          rw [q1, if_pos q, q2, show s + K.length + 1 + K'.length = s + (K.length + K'.length + 1) by omega]
      · have el : (some x).bind (fun x => if jb = 124 then (if x = 0 then g' L else some x) else (if x = 1 then g' L else some x)) = some x := by
          show (if jb = 124 then (if x = 0 then g' L else some x) else (if x = 1 then g' L else some x)) = some x
          split at q
          · rw [if_pos ‹_›, if_neg q]
          · rw [if_neg ‹_›, if_neg q]
        rw [el]
        refine ⟨fun hn => (by cases hn), fun v hv f hf => ?_⟩
        cases hv
        obtain ⟨f1, l1, q1⟩ := go f hf
        refine ⟨f1, by omega, ?_⟩
        rw [q1, if_neg q, show s + K.length + 1 + K'.length = s + (K.length + K'.length + 1) by omega]
  · intro L st
    rw [me_app, me_app, h.2, Option.bind_some, h'.2, Option.bind_some, me_op (by omega)]
    unfold dz lzy
    rcases hj with ⟨j1, j2⟩ | ⟨j1, j2⟩
    · rw [j1, if_neg (by decide), if_pos rfl]
      simp only [if_true]
    · rw [j1, if_pos rfl]
      simp only [show ¬ (38 : Nat) = 124 by decide, if_false]
  · intro L v hv
    unfold lzy at hv
    cases e1 : g L with
    | none => rw [e1] at hv; cases hv
    | some x =>
      rw [e1] at hv
      have hx := hB L x e1
      replace hv : (if jb = 124 then (if x = 0 then g' L else some x) else (if x = 1 then g' L else some x)) = some v := hv
      split at hv
      · split at hv
        · exact hB' L v hv
        · cases hv; exact hx
      · split at hv
        · exact hB' L v hv
        · cases hv; exact hx
theorem ns_not {s need : Nat} {K M : Cd} {g : Mn} (hB : B01 g) (h : NS s need K M g) : NS s need (K ++ [(10, 0)]) (M ++ [(2, 0)]) (fun L => (g L).map (fun x => 1 - x)) ∧ B01 (fun L => (g L).map (fun x => 1 - x)) := by
  refine ⟨⟨?_, ?_⟩, ?_⟩
  · intro F hF L to st hto hst
    obtain ⟨hF1, hF2, -⟩ := at_app hF
    have hlen : (K ++ [(10, 0)]).length = K.length + 1 := by simp only [List.length_append, List.length_cons, List.length_nil]
    rw [hlen] at hto ⊢
    have k1 := h.1 F hF1 L to st (by omega) hst
    dsimp only
    cases e1 : g L with
    | none => exact ⟨fun _ f hf => k1.1 e1 f (by omega), fun v hv => (by cases hv)⟩
    | some x =>
      refine ⟨fun hn => (by cases hn), fun v hv f hf => ?_⟩
      cases hv
      obtain ⟨f1, l1, q1⟩ := k1.2 x e1 f (by omega)
      obtain ⟨f2, rfl⟩ : ∃ f2, f1 = f2 + 1 := ⟨f1 - 1, by omega⟩
      exact ⟨f2, by omega, by rw [q1, kr_not (by omega) (by rw [hF2])]; rfl⟩
  · intro L st
    rw [me_app, h.2, Option.bind_some]
    rfl
  · intro L v hv
    dsimp only at hv
    cases e1 : g L with
    | none => rw [e1] at hv; cases hv
    | some x =>
      rw [e1] at hv
      cases hv
      rcases hB L x e1 with rfl | rfl
      · right; rfl
      · left; rfl
end Nsm
