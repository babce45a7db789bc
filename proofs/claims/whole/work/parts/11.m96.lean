/-! the reference works NEAR's code -/
def RsA (w : Mm) : List (Option Int32) → Prop
  | [] => True
  | none :: t => gI w 70 t.length = 1 ∧ RsA w t
  | some v :: t => gI w 70 t.length = 0 ∧ gI w 69 t.length = v ∧ RsA w t
def AtW (w : Mm) : Nat → Cd → Prop
  | _, [] => True
  | i, x :: t => gI w 61 i = nI x.1 ∧ gI w 62 i = nI x.2 ∧ AtW w (i + 1) t
def scW (c : Nat) : Prop := c = 69 ∨ c = 70
section Nwk
variable {w w' w0 : Mm} {m c b : Nat}
theorem RsA.of : ∀ {st : List (Option Int32)}, RsA w st → (∀ k, k < st.length → gI w' 69 k = gI w 69 k ∧ gI w' 70 k = gI w 70 k) → RsA w' st
  | [], _, _ => trivial
  | none :: t, h, e => ⟨(e _ (Nat.lt_succ_self _)).2.trans h.1, RsA.of h.2 (fun k hk => e k (Nat.lt_succ_of_lt hk))⟩
  | some v :: t, h, e => ⟨(e _ (Nat.lt_succ_self _)).2.trans h.1, (e _ (Nat.lt_succ_self _)).1.trans h.2.1, RsA.of h.2.2 (fun k hk => e k (Nat.lt_succ_of_lt hk))⟩
theorem RsA.tl {x : Option Int32} {t : List (Option Int32)} (h : RsA w (x :: t)) : RsA w t := by
  cases x with
  | none => exact h.2
  | some v => exact h.2.2
theorem RsA.cons {x : Option Int32} {t : List (Option Int32)} (h0 : x = none → gI w 70 t.length = 1) (h1 : ∀ v, x = some v → gI w 70 t.length = 0 ∧ gI w 69 t.length = v) (h : RsA w t) : RsA w (x :: t) := by
  cases x with
  | none => exact ⟨h0 rfl, h⟩
  | some v => exact ⟨(h1 v rfl).1, (h1 v rfl).2, h⟩
theorem RsA.hd {x : Option Int32} {t : List (Option Int32)} (h : RsA w (x :: t)) : (x = none → gI w 70 t.length = 1) ∧ ∀ v, x = some v → gI w 70 t.length = 0 ∧ gI w 69 t.length = v := by
  cases x with
  | none => exact ⟨fun _ => h.1, fun v hv => (by cases hv)⟩
  | some v => exact ⟨fun hv => (by cases hv), fun u hu => by cases hu; exact ⟨h.1, h.2.1⟩⟩
theorem AtW.of : ∀ {M : Cd} {i : Nat}, AtW w i M → (∀ k, gI w' 61 k = gI w 61 k ∧ gI w' 62 k = gI w 62 k) → AtW w' i M
  | [], _, _, _ => trivial
  | x :: t, i, h, e => ⟨(e i).1.trans h.1, (e i).2.trans h.2.1, AtW.of h.2.2 e⟩
theorem worked_ap (b : Nat) (hb : b < 256) (x y : Int32) : f_X12_worked (nI b) x y = (ap b x y).getD 0 := by
  have e : ∀ l : Nat, l < 256 → (nI b = nI l ↔ b = l) := fun l hl => nI_eq (by omega) (by omega)
  have ee : ∀ l : Nat, l < 256 → (nI b = nI l) = (b = l) := fun l hl => propext (e l hl)
  unfold f_X12_worked ap
  rw [show ((37 : Int32) = nI 37) from rfl, show ((42 : Int32) = nI 42) from rfl, show ((43 : Int32) = nI 43) from rfl, show ((45 : Int32) = nI 45) from rfl, show ((47 : Int32) = nI 47) from rfl, show ((60 : Int32) = nI 60) from rfl, show ((62 : Int32) = nI 62) from rfl]
  simp only [ee 37 (by decide), ee 42 (by decide), ee 43 (by decide), ee 45 (by decide), ee 47 (by decide), ee 60 (by decide), ee 62 (by decide)]
  by_cases h43 : b = 43
  · subst h43; simp
  by_cases h45 : b = 45
  · subst h45; simp
  by_cases h42 : b = 42
  · subst h42; simp
  by_cases h47 : b = 47
  · subst h47
    by_cases z : y = 0 <;> simp [z]
  by_cases h37 : b = 37
  · subst h37
    by_cases z : y = 0 <;> simp [z]
  by_cases h60 : b = 60
  · subst h60; simp
  by_cases h62 : b = 62
  · subst h62; simp
  simp [h43, h45, h42, h47, h37, h60, h62]
theorem ap_none {b : Nat} {x y : Int32} : ap b x y = none ↔ (b = 47 ∨ b = 37) ∧ y = 0 := by
  unfold ap
  by_cases h43 : b = 43
  · subst h43; simp
  by_cases h45 : b = 45
  · subst h45; simp
  by_cases h42 : b = 42
  · subst h42; simp
  by_cases h47 : b = 47
  · subst h47
    by_cases z : y = 0 <;> simp [z]
  by_cases h37 : b = 37
  · subst h37
    by_cases z : y = 0 <;> simp [z]
  rw [if_neg h43, if_neg h45, if_neg h42, if_neg h47, if_neg h37]
  by_cases h60 : b = 60
  · subst h60; simp
  by_cases h62 : b = 62
  · subst h62; simp
  rw [if_neg h60, if_neg h62]
  simp [h47, h37]
/-- two that wait are joined -/
theorem n_does {b : Nat} {u v : Option Int32} {t : List (Option Int32)} (hb : b < 256) (ht : t.length + 1 < 200) (h : RsA w (v :: u :: t)) : Rt (f_X12_does (nI b) (nI t.length) w) (fun w' => fx (fun c _ => scW c) w w' ∧ RsA w' (dz b u v :: t)) := by
  have e38 : nI b = 38 ↔ b = 38 := nI_eq (b := 38) (by omega) (by decide)
  have e124 : nI b = 124 ↔ b = 124 := nI_eq (b := 124) (by omega) (by decide)
  have e47 : nI b = 47 ↔ b = 47 := nI_eq (b := 47) (by omega) (by decide)
  have e37 : nI b = 37 ↔ b = 37 := nI_eq (b := 37) (by omega) (by decide)
  obtain ⟨v0, v1⟩ := h.hd
  obtain ⟨u0, u1⟩ := h.tl.hd
  rw [List.length_cons] at v0 v1
  have rt := h.tl.tl
  have st : ∀ (x y : Int32), RsA (sI (sI w 69 t.length x) 70 t.length y) t := fun x y => rt.of (fun k hk => ⟨by show gI (sI w 69 t.length x) 69 k = _; rw [gI_sI, if_neg (by omega)], by rw [gI_sI, if_neg (by omega)]; rfl⟩)
  have st2 : ∀ (x y : Int32), RsA (sI (sI w 70 t.length x) 69 t.length y) t := fun x y => rt.of (fun k hk => ⟨by rw [gI_sI, if_neg (by omega)]; rfl, by show gI (sI w 70 t.length x) 70 k = _; rw [gI_sI, if_neg (by omega)]⟩)
  unfold f_X12_does
  by_cases q : b = 38 ∨ b = 124
  · have ec : ∀ (X : Option (Unit ⊕ Mm)), (if nI b = (38 : Int32) then (some (.inl ())) else (if nI b = (124 : Int32) then (some (.inl ())) else X)) = some (.inl ()) := fun X => by
      by_cases z : b = 38
      · rw [if_pos (e38.mpr z)]
      · rw [if_neg (fun y => z (e38.mp y)), if_pos (e124.mpr (q.resolve_left z))]
    have ex : (if nI b = (38 : Int32) then (some (1 : Int32)) else (some (0 : Int32))) = some (if b = 38 then 1 else 0) := by
      by_cases z : b = 38
      · rw [if_pos (e38.mpr z), if_pos z]
      · rw [if_neg (fun y => z (e38.mp y)), if_neg z]
    have ed : dz b u v = u.bind (fun x => if x = (if b = 38 then 1 else 0) then v else some x) := by
      unfold dz
      rcases q with z | z
      · rw [if_pos z]; simp only [z, if_true]
      · rw [z, if_neg (by decide), if_pos rfl]; rfl
    rw [ec, rt_mg, rt_some]
    dsimp only
    rw [if_pos (inb_nI (by omega) (by decide)), ix_nI (by omega), ex, ed]
    cases u with
    | none =>
      rw [u0 rfl, if_neg (by decide), rt_some]
      exact ⟨fx.rf, ⟨u0 rfl, rt⟩⟩
    | some x =>
      obtain ⟨x0, x1⟩ := u1 x rfl
      rw [x0, if_pos rfl, Option.bind_some, x1]
      show Rt _ (fun w' => fx (fun c _ => scW c) w w' ∧ RsA w' ((if x = (if b = 38 then 1 else 0) then v else some x) :: t))
      by_cases z : x = (if b = 38 then 1 else 0)
      · rw [if_pos z, nI_1, if_pos (inb_nI (by omega) (by decide)), ix_nI (by omega), rt_some, if_pos z]
        refine ⟨(fx.sI (Or.inl rfl)).tr (fx.sI (Or.inr rfl)), RsA.cons (fun hv => ?_) (fun y hy => ?_) (st _ _)⟩
        · rw [gI_sI, if_pos ⟨rfl, rfl⟩, v0 hv, nar_1]
        · obtain ⟨y0, y1⟩ := v1 y hy
          refine ⟨?_, ?_⟩
          · rw [gI_sI, if_pos ⟨rfl, rfl⟩, y0, nar_0]
          · show gI (sI w 69 t.length (gI w 69 (t.length + 1))) 69 t.length = y
            rw [gI_sI, if_pos ⟨rfl, rfl⟩, y1]
      · rw [if_neg z, rt_some, if_neg z]
        exact ⟨fx.rf, ⟨x0, x1, rt⟩⟩
  · have ed : dz b u v = u.bind fun x => v.bind fun y => ap b x y := by
      unfold dz
      rw [if_neg (fun z => q (Or.inl z)), if_neg (fun z => q (Or.inr z))]
    rw [if_neg (fun z => q (Or.inl (e38.mp z))), if_neg (fun z => q (Or.inr (e124.mp z))), if_pos (inb_nI (by omega) (by decide)), nI_1, if_pos (inb_nI (by omega) (by decide)), ix_nI (by omega), ix_nI (by omega), inb_nI (i := t.length + 1) (by omega) (by decide), ed]
    have fin : ∀ (p19 : Int32), (p19 = 0 ∨ p19 = 1) → (∀ z, (u.bind fun x => v.bind fun y => ap b x y) = some z → p19 = 0 ∧ f_X12_worked (nI b) (gI w 69 t.length) (gI w 69 (t.length + 1)) = z) → ((u.bind fun x => v.bind fun y => ap b x y) = none → p19 = 1) → fx (fun c _ => scW c) w (sI (sI w 70 t.length (vp_nar .boolean p19)) 69 t.length (f_X12_worked (nI b) (gI w 69 t.length) (gI w 69 (t.length + 1)))) ∧ RsA (sI (sI w 70 t.length (vp_nar .boolean p19)) 69 t.length (f_X12_worked (nI b) (gI w 69 t.length) (gI w 69 (t.length + 1)))) ((u.bind fun x => v.bind fun y => ap b x y) :: t) := fun p19 _ hz hn => by
      refine ⟨(fx.sI (Or.inr rfl)).tr (fx.sI (Or.inl rfl)), RsA.cons (fun hv => ?_) (fun y hy => ⟨?_, ?_⟩) (st2 _ _)⟩
      · show gI (sI w 70 t.length (vp_nar .boolean p19)) 70 t.length = 1
        rw [gI_sI, if_pos ⟨rfl, rfl⟩, hn hv, nar_1]
      · show gI (sI w 70 t.length (vp_nar .boolean p19)) 70 t.length = 0
        rw [gI_sI, if_pos ⟨rfl, rfl⟩, (hz y hy).1, nar_0]
      · rw [gI_sI, if_pos ⟨rfl, rfl⟩, (hz y hy).2]
    rw [rt_mg, rt_bind, rt_mg]
    cases u with
    | none =>
      rw [u0 rfl, if_neg (by decide), rt_some]
      dsimp only
      rw [rt_some, if_pos rfl, rt_some]
      exact fin 1 (Or.inr rfl) (fun z hz => (by cases hz)) (fun _ => rfl)
    | some x =>
      obtain ⟨x0, x1⟩ := u1 x rfl
      rw [x0, if_pos rfl]
      cases v with
      | none =>
        rw [v0 rfl, if_neg (by decide), rt_some]
        dsimp only
        rw [rt_some, if_pos rfl, rt_some]
        exact fin 1 (Or.inr rfl) (fun z hz => (by cases hz)) (fun _ => rfl)
      | some y =>
        obtain ⟨y0, y1⟩ := v1 y rfl
        rw [y0, if_pos rfl]
        have hw : f_X12_worked (nI b) (gI w 69 t.length) (gI w 69 (t.length + 1)) = (ap b x y).getD 0 := by rw [x1, y1]; exact worked_ap b hb x y
        by_cases z : b = 47 ∨ b = 37
        · have ec : ∀ (X : Option (Unit ⊕ (Unit ⊕ (Unit ⊕ Int32)))), (if nI b = (47 : Int32) then (some (.inl ())) else (if nI b = (37 : Int32) then (some (.inl ())) else X)) = some (.inl ()) := fun X => by
            by_cases zz : b = 47
            · rw [if_pos (e47.mpr zz)]
            · rw [if_neg (fun y => zz (e47.mp y)), if_pos (e37.mpr (z.resolve_left zz))]
          rw [ec, rt_mg, rt_mg, rt_some]
          dsimp only
          by_cases zy : y = 0
          · rw [if_pos (y1.trans zy), rt_some]
            dsimp only
            rw [rt_some, if_pos rfl, rt_some]
            have an : ap b x y = none := ap_none.mpr ⟨z, zy⟩
            exact fin 1 (Or.inr rfl) (fun r hr => (by rw [show ((some x).bind fun x => (some y).bind fun y => ap b x y) = ap b x y from rfl, an] at hr; cases hr)) (fun _ => rfl)
          · rw [if_neg (fun v => zy (y1.symm.trans v)), rt_some]
            dsimp only
            rw [rt_some]
            dsimp only
            rw [if_pos rfl, rt_some]
            refine fin 0 (Or.inl rfl) (fun r hr => ⟨rfl, ?_⟩) (fun hr => absurd (ap_none.mp hr).2 zy)
            rw [hw, show ap b x y = some r from hr]
            rfl
        · have ec : (if nI b = (47 : Int32) then (some (.inl ()) : Option (Unit ⊕ (Unit ⊕ (Unit ⊕ Int32)))) else (if nI b = (37 : Int32) then (some (.inl ())) else (some (.inr (.inl ()))))) = some (.inr (.inl ())) := by
            rw [if_neg (fun y => z (Or.inl (e47.mp y))), if_neg (fun y => z (Or.inr (e37.mp y)))]
          rw [ec, rt_mg, rt_mg, rt_some]
          dsimp only
          rw [rt_some]
          dsimp only
          rw [if_pos rfl, rt_some]
          refine fin 0 (Or.inl rfl) (fun r hr => ⟨rfl, ?_⟩) (fun hr => absurd (ap_none.mp hr).1 z)
          rw [hw, show ap b x y = some r from hr]
          rfl
end Nwk
