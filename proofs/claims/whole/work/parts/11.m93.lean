/-! the reference reads NEAR's conditions as the machine does -/
section Ncx
variable {d : Dt} {n : Nat} {w w0 : Mm} {Q : Mm → Prop} {R : Cr}
theorem cl_1 {b : Nat} (hL : Lay w) (h : gI w 47 30 = 0) (h35 : gI w 47 35 = 0) (hQ : Rt (wh l_X12_pieceOfC_0 FUEL w) (fun p1 => Rt (rP p1) (fun p6 => Rt (rB 1 p6) (Nx (fun s => Rt (wh l_X12_condition_37 b s) Q) Q)))) : Rt (wh l_X12_condition_37 (b + 1) ((1 : Int32), w)) Q := by
  have e : f_X12_pieceOfC w = Option.bind (wh l_X12_pieceOfC_0 FUEL w) rP := rfl
  rw [← rt_bind, ← e] at hQ
  refine rt_step ?_
  rw [l_X12_condition_37]
  dsimp only
  rw [rt_onL, ig_1 h, Option.bind_some, if_neg (by decide), if_pos h35, if_neg (by decide), rt_bind, rt_bind]
  refine ⟨hL, hQ.mono ?_⟩
  intro p6 h6
  rw [rt_some]
  exact h6
theorem cl_0 {b : Nat} (hL : Lay w) (h : gI w 47 30 = 0) (h35 : gI w 47 35 = 0) (hQ : Rt (rB 0 w) (Nx (fun s => Rt (wh l_X12_condition_37 b s) Q) Q)) : Rt (wh l_X12_condition_37 (b + 1) ((0 : Int32), w)) Q := by
  refine rt_step ?_
  rw [l_X12_condition_37]
  dsimp only
  rw [rt_onL, ig_1 h, Option.bind_some, if_neg (by decide), if_pos h35, if_pos rfl, Option.bind_some]
  exact ⟨hL, hQ⟩
theorem cl_x {b : Nat} {m : Int32} (hL : Lay w) (hb : 1 ≤ b) (h : ¬ gI w 47 30 = 0 ∨ ¬ gI w 47 35 = 0) (hQ : Q w) : Rt (wh l_X12_condition_37 b (m, w)) Q := by
  obtain ⟨b, rfl⟩ : ∃ b', b = b' + 1 := ⟨b - 1, by omega⟩
  refine rt_step ?_
  rw [l_X12_condition_37]
  dsimp only
  rw [rt_onL]
  refine ⟨hL, ?_⟩
  by_cases z : gI w 47 30 = 0
  · rw [ig_1 z, Option.bind_some, if_neg (by decide), if_neg (h.resolve_left (fun y => y z)), rt_some, nx_r]
    exact hQ
  · rw [ig_0 z, Option.bind_some, if_pos rfl, rt_some, nx_r]
    exact hQ
theorem rB_bad {b : Nat} {m : Int32} (hL : Lay w) (h : ¬ gI w 47 30 = 0) (hb : 1 ≤ b) (hQ : Q w) : Rt (rB m w) (Nx (fun s => Rt (wh l_X12_condition_37 b s) Q) Q) := by
  unfold rB
  rw [rt_onL, ig_0 h, Option.bind_some, if_pos rfl, rt_some, nx_l]
  exact ⟨hL, cl_x hL hb (Or.inl h) hQ⟩
theorem rP_bad (hL : Lay w) (h : ¬ gI w 47 30 = 0) : Rt (rP w) (fun w' => w' = w) := by
  unfold rP
  rw [rt_onL, ig_0 h, Option.bind_some, if_pos rfl, Option.bind_some, rt_onL, ig_0 h, Option.bind_some, if_pos rfl, rt_some]
  exact ⟨hL, hL, rfl⟩
theorem n_cm (oT : OkT d) (hn : n ≤ 160) : ∀ k, (∀ (p : Nat) (S : List Nat) (M : Cd) (w : Mm) (a b : Nat), cm d n k true p S M = some R → p ≤ n → NSt d n w → ND p S M w → gI w 47 35 = 0 → fx wrU w0 w → M.length + S.length ≤ p → opm S ≤ 6 → wfS true S → n + 2 ≤ a + p → n + 2 ≤ b + p → Rt (wh l_X12_pieceOfC_0 a w) (fun p1 => Rt (rP p1) (fun p6 => Rt (rB 1 p6) (Nx (fun s => Rt (wh l_X12_condition_37 b s) (UQ n R w0)) (UQ n R w0))))) ∧ (∀ (p : Nat) (S : List Nat) (M : Cd) (w : Mm) (b : Nat) (m : Int32), cm d n k false p S M = some R → p ≤ n → NSt d n w → ND p S M w → gI w 47 35 = 0 → fx wrU w0 w → M.length + S.length ≤ p → opm S ≤ 6 → wfS false S → n + 2 ≤ b + p → Rt (rB m w) (Nx (fun s => Rt (wh l_X12_condition_37 b s) (UQ n R w0)) (UQ n R w0)))
  | 0 => ⟨fun p S M w a b h => (by cases h), fun p S M w b m h => (by cases h)⟩
  | k + 1 => by
    have ih := n_cm oT hn k
    constructor
    · intro p S M w a b hm hp hs h h35 f0 hM ho hw ha hb
      have hb2 := hh_256 (n := n) (p := p) oT
      have e33 : nI (hh d n p) = 33 ↔ hh d n p = 33 := nI_eq (b := 33) (by omega) (by decide)
      have e40 : nI (hh d n p) = 40 ↔ hh d n p = 40 := nI_eq (b := 40) (by omega) (by decide)
      obtain ⟨a, rfl⟩ : ∃ a', a = a' + 1 := ⟨a - 1, by omega⟩
      rw [cm] at hm
      refine rt_step ?_
      rw [l_X12_pieceOfC_0, rt_onL, ig_1 h.2.1, Option.bind_some, if_neg (by decide), n_here oT hn (by omega) hs h.1, Option.bind_some, Option.bind_some]
      refine ⟨hs.1, ?_⟩
      by_cases q : hh d n p = 33 ∨ hh d n p = 40
      · have hpn : p < n := hh_lt (d := d) rfl (by omega)
        have ec : (if nI (hh d n p) = (33 : Int32) then (some (.inl ()) : Option (Unit ⊕ (Mm ⊕ Mm))) else (if nI (hh d n p) = (40 : Int32) then (some (.inl ())) else (some (.inr (.inr w))))) = some (.inl ()) := by
          by_cases z : hh d n p = 33
          · rw [if_pos (e33.mpr z)]
          · rw [if_neg (fun y => z (e33.mp y)), if_pos (e40.mpr (q.resolve_left z))]
        rw [ec, rt_mg, rt_some]
        dsimp only
        rw [rt_bind]
        refine (n_opens oT hn hp hs h (by omega) (by omega)).mono ?_
        rintro w1 ⟨f1, g1, g2⟩
        rw [rt_some, nx_l]
        have fU := f0.tr (f1.sub (fun c k z => wrV_U (wrW_V z)))
        unfold cmT at hm
        rw [if_pos q] at hm
        by_cases q2 : opm S = 6
        · rw [if_pos q2] at hm
          cases hm
          have hbad : ¬ gI w1 47 30 = 0 := by rw [g1 q2]; exact flt_ne (by decide) (by decide) (by omega)
          obtain ⟨a, rfl⟩ : ∃ a', a = a' + 1 := ⟨a - 1, by omega⟩
          refine rt_step ?_
          rw [l_X12_pieceOfC_0, rt_onL, ig_0 hbad, Option.bind_some, if_pos rfl, rt_some, nx_r]
          refine ⟨f1.lay hs.1, (rP_bad (f1.lay hs.1) hbad).mono ?_⟩
          rintro w2 rfl
          exact rB_bad (f1.lay hs.1) hbad (by omega) ⟨fU, Or.inl ⟨_, rfl, flt_neg 5 (by decide) (by decide) p (by omega), g1 q2⟩⟩
        · rw [if_neg q2] at hm
          refine ih.1 (p + 1) _ M w1 a b hm hpn (hs.wW f1) (g2 q2) ((f1.I (by unfold wrW; omega)).trans h35) fU (by rw [List.length_cons]; omega) ?_ ?_ (by omega) (by omega)
          · rw [opm]
            split <;> omega
          · rcases q with z | z
            · rw [z]; exact Or.inr (Or.inr ⟨rfl, rfl, hw⟩)
            · rw [z]; exact Or.inr (Or.inl ⟨rfl, Or.inr hw⟩)
      · have ec : (if nI (hh d n p) = (33 : Int32) then (some (.inl ()) : Option (Unit ⊕ (Mm ⊕ Mm))) else (if nI (hh d n p) = (40 : Int32) then (some (.inl ())) else (some (.inr (.inr w))))) = some (.inr (.inr w)) := by
          rw [if_neg (fun y => q (Or.inl (e33.mp y))), if_neg (fun y => q (Or.inr (e40.mp y)))]
        rw [ec, rt_mg, rt_some]
        dsimp only
        rw [nx_r]
        refine (rP_ok oT hn hp hs h hM ho hw q).mono ?_
        rintro w1 ⟨f1, ⟨e, e1, e2, e3⟩ | ⟨p', S', M', a1, a2, h2, hM2, hw2, ho2, e3⟩⟩
        · rw [e3] at hm
          cases hm
          have hbad : ¬ gI w1 47 30 = 0 := by rw [e2]; exact fun z => by rw [z] at e1; exact absurd e1 (by decide)
          exact rB_bad (f1.lay hs.1) hbad (by omega) ⟨f0.tr (f1.sub (fun c k z => wrV_U z)), Or.inl ⟨e, rfl, e1, e2⟩⟩
        · rw [e3] at hm
          exact ih.2 p' S' M' w1 b 1 hm a2 (hs.wV f1) h2 ((f1.I (by unfold wrV wrW; omega)).trans h35) (f0.tr (f1.sub (fun c k z => wrV_U z))) hM2 ho2 hw2 (by omega)
    · intro p S M w b m hm hp hs h h35 f0 hM ho hw hb
      rw [cm] at hm
      unfold rB
      rw [rt_onL, ig_1 h.2.1, Option.bind_some, if_neg (by decide), rt_bind]
      refine ⟨hs.1, (n_behind oT hn hp hs h h35 hM ho hw).mono ?_⟩
      rintro ⟨r1, w1⟩ ⟨f1, hr⟩
      dsimp only at f1 hr ⊢
      rw [rt_some, nx_l]
      have fA := f0.tr f1
      have hsA := hs.wU f1
      rcases hr with ⟨S', M', hpn, rfl, g35, h2, hM2, hw2, ho2, e3⟩ | ⟨S', M', hpn, rfl, g35, h2, hM2, hw2, ho2, e3⟩ | ⟨e, rfl, e1, e2, e3⟩ | ⟨M', hpn, rfl, g30, g35, h2, e3⟩
      · rw [e3] at hm
        obtain ⟨b, rfl⟩ : ∃ b', b = b' + 1 := ⟨b - 1, by omega⟩
        exact cl_1 hsA.1 h2.2.1 g35 (ih.1 (p + 1) S' M' w1 FUEL b hm hpn hsA h2 g35 fA hM2 ho2 hw2 (by unfold FUEL; omega) (by omega))
      · rw [e3] at hm
        obtain ⟨b, rfl⟩ : ∃ b', b = b' + 1 := ⟨b - 1, by omega⟩
        exact cl_0 hsA.1 h2.2.1 g35 (ih.2 (p + 1) S' M' w1 b 0 hm hpn hsA h2 g35 fA hM2 ho2 hw2 (by omega))
      · rw [e3] at hm
        cases hm
        exact cl_x hsA.1 (by omega) (Or.inl (by rw [e2]; exact fun z => by rw [z] at e1; exact absurd e1 (by decide))) ⟨fA, Or.inl ⟨e, rfl, e1, e2⟩⟩
      · rw [e3] at hm
        cases hm
        exact cl_x hsA.1 (by omega) (Or.inr (by rw [g35]; decide)) ⟨fA, Or.inr ⟨p + 1, M', rfl, hpn, h2⟩⟩
def cnR (d : Dt) (n s p : Nat) (M : Cd) : Cr := if hh d n p = 40 then (match ncS d n 100 2 1 s (p + 1) with
    | .inl e => .inl e
    | .inr (p', _, M', _) => if hh d n p' = 41 then .inr (p' + 1, M ++ M') else .inl (flt 1 p')) else .inl (flt 1 p)
theorem n_cond (oT : OkT d) (hn : n ≤ 160) {p : Nat} {M : Cd} (hp : p ≤ n) (hs : NSt d n w) (h : ND p [] M w) (hM : M.length ≤ p) (s : Nat) : Rt (f_X12_condition w) (UQ n (cnR d n s p M) w) := by
  have hb := hh_256 (n := n) (p := p) oT
  have e40 : nI (hh d n p) = 40 ↔ hh d n p = 40 := nI_eq (b := 40) (by omega) (by decide)
  have f1 : fx wrU w (sI w 47 35 0) := fx.sI (Or.inr ⟨rfl, rfl⟩)
  have hs1 := hs.wU f1
  have h1 : ND p [] M (sI w 47 35 0) := ⟨h.1, h.2.1, h.2.2.1, h.2.2.2.1, trivial, h.2.2.2.2.2.1, fun a ha => h.2.2.2.2.2.2 a ha⟩
  unfold f_X12_condition
  rw [n_here oT hn (by omega) hs1 h1.1, Option.bind_some]
  unfold cnR
  by_cases q : hh d n p = 40
  · have hpn : p < n := hh_lt q (by decide)
    rw [if_pos (e40.mpr q), Option.bind_some, rt_onL, ig_1 h1.2.1, Option.bind_some, if_neg (by decide), rt_bind, if_pos q]
    refine ⟨hs1.1, ?_⟩
    refine (n_opens oT hn hp hs1 h1 (Or.inl q) (by decide)).mono ?_
    rintro w1 ⟨f2, -, g2⟩
    have h2 := g2 (by decide)
    rw [q] at h2
    obtain ⟨k, hk⟩ := gc_cond (d := d) (s := s) (M := M) hn hpn
    have hF : FUEL = (FUEL - 1) + 1 := rfl
    have hs2 := hs1.wW f2
    have g35 : gI w1 47 35 = 0 := f2.I (by unfold wrW; omega)
    have fA : fx wrU w w1 := f1.tr (f2.sub (fun c k z => wrV_U (wrW_V z)))
    have g := (n_cm (w0 := w) oT hn k).1 (p + 1) [40] M w1 FUEL (FUEL - 1) hk hpn hs2 h2 g35 fA (by show M.length + 1 ≤ p + 1; omega) (by decide) (Or.inr (Or.inl ⟨rfl, Or.inl rfl⟩)) (by unfold FUEL; omega) (by unfold FUEL; omega)
    rw [rt_bind, hF]
    refine (cl_1 hs2.1 h2.2.1 g35 g).mono ?_
    intro w3 h3
    rw [rt_some]
    exact h3
  · rw [if_neg (fun z => q (e40.mp z)), h.1, show f_X12_wrongs (1 : Int32) (nI p) (sI w 47 35 0) = some (sI (sI w 47 35 0) 47 30 (flt 1 p)) from n_wrongs h1.1 h1.2.1 1, Option.bind_some, Option.bind_some, rt_onL, ig_0 (show ¬ gI (sI (sI w 47 35 0) 47 30 (flt 1 p)) 47 30 = 0 from flt_ne (by decide) (by decide) (by omega)), Option.bind_some, if_pos rfl, rt_some, if_neg q]
    have fA : fx wrU w (sI (sI w 47 35 0) 47 30 (flt 1 p)) := f1.tr (fx.sI (by unfold wrU wrV wrW; omega))
    exact ⟨fA.lay hs.1, fA, Or.inl ⟨_, rfl, flt_neg 1 (by decide) (by decide) p (by omega), rfl⟩⟩
end Ncx
