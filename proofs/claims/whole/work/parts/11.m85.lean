/-! what a law of NEAR costs, and the class's way to it -/
noncomputable def Lf (m c b : Nat) : Nat → Int32 := fun i => if i = 0 then nI (pc m) else if i = 1 then nI (pc c) else if i = 2 then nI (pc (m &&& c)) else if i = 3 then nI (pc (c &&& (m ^^^ 4294967295))) else if i = 4 then nI (pc (m &&& (c ^^^ 4294967295))) else if i = 5 then nI m else if i = 6 then nI c else nI b
def pri (v : Int32) : Option Nat := if v < 0 then none else if 1000 < v then none else some v.toNatClampNeg
def cstL (L : Nat → Int32) : List Cl → Option Nat
  | [] => none
  | x :: t => if (x.2.2.2.2 L).getD 0 = 0 then cstL L t else pri ((x.2.2.2.1 L).getD 0)
noncomputable def cstO (cl : List Cl) : Ct := fun m c b => cstL (Lf m c b) cl
def ClG (e : Nat) (w : Mm) (cl : List Cl) : Prop := ∀ i x, cl[i]? = some x → gI w e i = nI x.1 ∧ gI w (e + 1) i = nI x.2.1 ∧ gI w (e + 2) i = nI x.2.2.1
section Nce
variable {w w' : Mm} {K M : Cd} {L : Nat → Int32}
theorem pri_ok (v : Int32) : (pri v = none → (v < 0 ∨ 1000 < v)) ∧ ∀ x, pri v = some x → ¬ v < 0 ∧ ¬ 1000 < v ∧ v = nI x ∧ x ≤ 1000 := by
  unfold pri
  by_cases h1 : v < 0
  · rw [if_pos h1]
    exact ⟨fun _ => Or.inl h1, fun x h => (by cases h)⟩
  · rw [if_neg h1]
    by_cases h2 : 1000 < v
    · rw [if_pos h2]
      exact ⟨fun _ => Or.inr h2, fun x h => (by cases h)⟩
    · rw [if_neg h2]
      refine ⟨fun h => (by cases h), fun x h => ?_⟩
      cases h
      obtain ⟨j, hj, e⟩ := nI_of h1
      have ej : v.toNatClampNeg = j := by rw [e]; exact nI_clamp hj
      rw [ej]
      refine ⟨h1, h2, e, ?_⟩
      by_cases z : j ≤ 1000
      · exact z
      · exact absurd (by rw [e]; exact nI_lt (a := 1000) (by omega) hj) h2
theorem cst_le : ∀ {cl : List Cl} {x : Nat}, cstL L cl = some x → x ≤ 1000
  | [], _, h => by cases h
  | y :: t, x, h => by
    rw [cstL] at h
    split at h
    · exact cst_le h
    · exact ((pri_ok _).2 x h).2.2.2
theorem kr_all {s len need : Nat} {g : Mn} (h : Cpt (Fl K) s len need g) (hn : need ≤ 24) (hl : len < 160) : kr (Fl K) L (s + len) 160 s [] = some ((g L).getD 0) := by
  have k := h L (s + len) [] (Nat.le_refl _) (by rw [List.length_nil]; omega)
  cases e : g L with
  | none => exact k.1 e 160 hl
  | some v =>
    obtain ⟨f', l, q⟩ := k.2 v e 160 hl
    obtain ⟨f1, rfl⟩ : ∃ f1, f' = f1 + 1 := ⟨f' - 1, by omega⟩
    rw [q, kr]
    unfold kst
    rw [if_neg (Nat.lt_irrefl _)]
    rfl
theorem k_run {s len need : Nat} {g : Mn} (h : Cpt (Fl K) s len need g) (hn : need ≤ 24) (hl : len < 160) (hs : s + len ≤ K.length) (hK : K.length ≤ 160) (hO : ∀ x, x ∈ K → KO x) (hL : Lay w) (hC : CdM 17 w K) (hl8 : ∀ i, i < 8 → gI w 22 i = L i) : Rt (f_X4_run 16 (nI s) (nI (s + len)) w) (fun p => p.1 = (g L).getD 0 ∧ fx scR w p.2) := by
  have f0 : fx scR w (sI w 16 8 0) := fx.sI (Or.inr ⟨rfl, rfl⟩)
  unfold f_X4_run
  rw [rt_bind]
  refine (k_runL (L := L) (r := (g L).getD 0) (w0 := w) hs hK hO 160 0 s FUEL [] (sI w 16 8 0) rfl (by decide) (by omega) (by decide) (f0.lay hL) (fun a ha => hC a ha) hl8 rfl trivial f0 (kr_all h hn hl)).mono ?_
  rintro ⟨b, top, w1⟩ ⟨f1, hq⟩
  dsimp only at f1 hq ⊢
  rcases hq with ⟨rfl, st, hS, hst, e1, e2⟩ | ⟨rfl, e2⟩
  · rw [if_pos rfl, e1]
    cases st with
    | nil =>
      rw [if_pos (show nI ([] : List Int32).length ≤ 0 by decide), rt_some]
      exact ⟨e2.symm, f1⟩
    | cons x t =>
      rw [List.length_cons, if_neg (nI_nle (by omega) (by rw [List.length_cons] at hst; omega)), rt_onL, rt_some]
      exact ⟨f1.lay hL, (hS.bot (by rw [List.length_cons]; omega)).trans e2.symm, f1⟩
  · rw [if_neg (by decide), rt_some]
    exact ⟨e2.symm, f1⟩
theorem k_exL {w0 : Mm} {cl : List Cl} (hK : K.length ≤ 160) (hO : ∀ x, x ∈ K → KO x) (hcl : cl.length ≤ 12) (hok : ∀ x, x ∈ cl → ClOk K M x) : ∀ (suf : List Cl) (i N : Nat) (w : Mm), i + suf.length = cl.length → (∀ j, suf[j]? = cl[i + j]?) → suf.length < N → Lay w → CdM 17 w K → ClG 19 w cl → gI w 16 9 = nI cl.length → (∀ i, i < 8 → gI w 22 i = L i) → fx scR w0 w → Rt (wh (l_X4_extraFor_86 16) N (nI i, w)) (fun p => fx scR w0 p.2.2 ∧ ((p.1 = 0 ∧ cstL L suf = none) ∨ (p.1 = 1 ∧ ∃ j x, cl[j]? = some x ∧ p.2.1 = nI j ∧ cstL L suf = pri ((x.2.2.2.1 L).getD 0))))
  | _, i, 0, w, _, _, hN, _, _, _, _, _, _ => absurd hN (Nat.not_lt_zero _)
  | [], i, N + 1, w, hi, hs, hN, hL, hC, hG, h9, hl, f0 => by
    refine rt_step ?_
    rw [l_X4_extraFor_86]
    dsimp only
    rw [rt_onL, h9, if_pos (nI_le (by rw [List.length_nil] at hi; omega) (by omega)), rt_some, nx_r]
    exact ⟨hL, f0, Or.inl ⟨rfl, rfl⟩⟩
  | x :: t, i, N + 1, w, hi, hs, hN, hL, hC, hG, h9, hl, f0 => by
    have hx : cl[i]? = some x := by
      have := hs 0
      rw [Nat.add_zero] at this
      exact this.symm
    have hmem : x ∈ cl := List.mem_of_getElem? hx
    obtain ⟨K1, K2, M1, M2, c1, c2, c3, c4, c5, c6, c7, c8, c9, c10, c11, c12⟩ := hok x hmem
    obtain ⟨g1, g2, g3⟩ := hG i x hx
    rw [List.length_cons] at hi hN
    refine rt_step ?_
    rw [l_X4_extraFor_86]
    dsimp only
    rw [rt_onL, h9, if_neg (nI_ge (by omega) (by omega)), if_neg (show ¬ (12 : Int32) ≤ nI i from nI_ge (b := 12) (by omega) (by decide)), if_pos (inb_nI (by omega) (by decide)), ix_nI (by omega), show gI w (16 + 4) i = nI x.2.1 from g2, show gI w (16 + 5) i = nI x.2.2.1 from g3, c2, rt_bind]
    refine ⟨hL, ?_⟩
    refine (k_run (L := L) (c8.1 (Fl K) (c5 (Fl K) (fl_at K)).2) (by decide) (by omega) (by omega) hK hO hL hC hl).mono ?_
    rintro ⟨v, w1⟩ ⟨e1, f1⟩
    dsimp only at e1 f1 ⊢
    by_cases q : (x.2.2.2.2 L).getD 0 = 0
    · rw [e1, if_pos q, rt_some, nx_l, nI_1, cstL, if_pos q]
      exact k_exL hK hO hcl hok t (i + 1) N w1 (by omega) (fun j => by have := hs (j + 1); rw [show i + 1 + j = i + (j + 1) by omega, ← this]; rfl) (by omega) (f1.lay hL) (fun a ha => ⟨(f1.I (by unfold scR; omega)).trans (hC a ha).1, (f1.I (by unfold scR; omega)).trans (hC a ha).2⟩) (fun j y hy => ⟨(f1.I (by unfold scR; omega)).trans (hG j y hy).1, (f1.I (by unfold scR; omega)).trans (hG j y hy).2.1, (f1.I (by unfold scR; omega)).trans (hG j y hy).2.2⟩) ((f1.I (by unfold scR; omega)).trans h9) (fun j hj => (f1.I (by unfold scR; omega)).trans (hl j hj)) (f0.tr f1)
    · rw [e1, if_neg q, rt_some, nx_r, cstL, if_neg q]
      exact ⟨f0.tr f1, Or.inr ⟨rfl, i, x, hx, rfl, rfl⟩⟩
theorem nb_and {m c : Nat} : nI c &&& (nI m ^^^ (-1 : Int32)) = nI (c &&& (m ^^^ 4294967295)) := by
  rw [show (-1 : Int32) = nI 4294967295 from by decide, fb_xorI, fa_and]
theorem k_extra {cl : List Cl} (hK : K.length ≤ 160) (hO : ∀ x, x ∈ K → KO x) (hcl : cl.length ≤ 12) (hok : ∀ x, x ∈ cl → ClOk K M x) (hL : Lay w) (hC : CdM 17 w K) (hG : ClG 19 w cl) (h9 : gI w 16 9 = nI cl.length) {m c b : Nat} (hm : m < 64) (hc : c < 64) : Rt (f_X4_extraFor 16 (nI m) (nI c) (nI b) w) (fun p => p.1 = oI (cstO cl m c b) ∧ fx scN w p.2) := by
  have l1 : m &&& c < 1024 := Nat.lt_of_le_of_lt Nat.and_le_left (by omega)
  have l2 : c &&& (m ^^^ 4294967295) < 1024 := Nat.lt_of_le_of_lt Nat.and_le_left (by omega)
  have l3 : m &&& (c ^^^ 4294967295) < 1024 := Nat.lt_of_le_of_lt Nat.and_le_left (by omega)
  unfold f_X4_extraFor
  rw [nb_and, nb_and, fa_and, bitCount_N m (by omega), bitCount_N c (by omega), bitCount_N _ l1, bitCount_N _ l2, bitCount_N _ l3, show ix (0 : Int32) = 0 from rfl, show ix (1 : Int32) = 1 from rfl, show ix (2 : Int32) = 2 from rfl, show ix (3 : Int32) = 3 from rfl, show ix (4 : Int32) = 4 from rfl, show ix (5 : Int32) = 5 from rfl, show ix (6 : Int32) = 6 from rfl, show ix (7 : Int32) = 7 from rfl]
  have s22 : ∀ (w : Mm) (k : Nat) (v : Int32), fx (fun c _ => c = 22) w (sI w (16 + 6) k v) := fun w k v => fx.sI (c := 16 + 6) (k := k) rfl
  have f1 : fx (fun c _ => c = 22) w (sI (sI (sI (sI (sI (sI (sI (sI w (16 + 6) 0 (nI (pc m))) (16 + 6) 1 (nI (pc c))) (16 + 6) 2 (nI (pc (m &&& c)))) (16 + 6) 3 (nI (pc (c &&& (m ^^^ 4294967295))))) (16 + 6) 4 (nI (pc (m &&& (c ^^^ 4294967295))))) (16 + 6) 5 (nI m)) (16 + 6) 6 (nI c)) (16 + 6) 7 (nI b)) := (((((((s22 w _ _).tr (s22 _ _ _)).tr (s22 _ _ _)).tr (s22 _ _ _)).tr (s22 _ _ _)).tr (s22 _ _ _)).tr (s22 _ _ _)).tr (s22 _ _ _)
  have hl : ∀ i, i < 8 → gI (sI (sI (sI (sI (sI (sI (sI (sI w (16 + 6) 0 (nI (pc m))) (16 + 6) 1 (nI (pc c))) (16 + 6) 2 (nI (pc (m &&& c)))) (16 + 6) 3 (nI (pc (c &&& (m ^^^ 4294967295))))) (16 + 6) 4 (nI (pc (m &&& (c ^^^ 4294967295))))) (16 + 6) 5 (nI m)) (16 + 6) 6 (nI c)) (16 + 6) 7 (nI b)) 22 i = Lf m c b i := fun i hi => by
    rcases (by omega : i = 0 ∨ i = 1 ∨ i = 2 ∨ i = 3 ∨ i = 4 ∨ i = 5 ∨ i = 6 ∨ i = 7) with rfl | rfl | rfl | rfl | rfl | rfl | rfl | rfl <;> rfl
  generalize sI (sI (sI (sI (sI (sI (sI (sI w (16 + 6) 0 (nI (pc m))) (16 + 6) 1 (nI (pc c))) (16 + 6) 2 (nI (pc (m &&& c)))) (16 + 6) 3 (nI (pc (c &&& (m ^^^ 4294967295))))) (16 + 6) 4 (nI (pc (m &&& (c ^^^ 4294967295))))) (16 + 6) 5 (nI m)) (16 + 6) 6 (nI c)) (16 + 6) 7 (nI b) = w1 at *
  have hC1 : CdM 17 w1 K := fun a ha => ⟨(f1.I (by omega)).trans (hC a ha).1, (f1.I (by omega)).trans (hC a ha).2⟩
  have hG1 : ClG 19 w1 cl := fun j y hy => ⟨(f1.I (by omega)).trans (hG j y hy).1, (f1.I (by omega)).trans (hG j y hy).2.1, (f1.I (by omega)).trans (hG j y hy).2.2⟩
  rw [rt_bind]
  refine (k_exL (L := Lf m c b) (w0 := w1) hK hO hcl hok cl 0 FUEL w1 (Nat.zero_add _) (fun j => by rw [Nat.zero_add]) (by unfold FUEL; omega) (f1.lay hL) hC1 hG1 ((f1.I (by omega)).trans h9) hl fx.rf).mono ?_
  rintro ⟨fl, i, w2⟩ ⟨f2, hq⟩
  dsimp only at f2 hq ⊢
  have fN : fx scN w w2 := (f1.sub (fun c k z => Or.inl z)).tr (f2.sub (fun c k z => by unfold scR at z; show c = 22 ∨ c = 23 ∨ (c = 16 ∧ k = 8); omega))
  rcases hq with ⟨rfl, e⟩ | ⟨rfl, j, x, hx, rfl, e⟩
  · rw [if_pos rfl, rt_some]
    exact ⟨by show _ = oI (cstL (Lf m c b) cl); rw [e]; rfl, fN⟩
  · have hj : j < cl.length := (List.getElem?_eq_some_iff.mp hx).1
    obtain ⟨K1, K2, M1, M2, c1, c2, c3, c4, c5, c6, c7, c8, c9, c10, c11, c12⟩ := hok x (List.mem_of_getElem? hx)
    obtain ⟨g1, g2, g3⟩ := hG j x hx
    have hG2 : gI w2 19 j = nI x.1 ∧ gI w2 20 j = nI x.2.1 := ⟨(fN.I (by unfold scN; omega)).trans g1, (fN.I (by unfold scN; omega)).trans g2⟩
    rw [if_neg (by decide), rt_onL, if_pos (inb_nI (by omega) (by decide)), ix_nI (by omega), show gI w2 (16 + 3) j = nI x.1 from hG2.1, show gI w2 (16 + 4) j = nI x.2.1 from hG2.2, c1, rt_bind]
    refine ⟨fN.lay hL, ?_⟩
    refine (k_run (L := Lf m c b) (c7.1 (Fl K) (c5 (Fl K) (fl_at K)).1) (by decide) (by omega) (by omega) hK hO (fN.lay hL) (fun a ha => ⟨(fN.I (by unfold scN; omega)).trans (hC a ha).1, (fN.I (by unfold scN; omega)).trans (hC a ha).2⟩) (fun i hi => (f2.I (by unfold scR; omega)).trans (hl i hi))).mono ?_
    rintro ⟨v, w3⟩ ⟨e1, f3⟩
    dsimp only at e1 f3 ⊢
    have fN3 : fx scN w w3 := fN.tr (f3.sub (fun c k z => by unfold scR at z; show c = 22 ∨ c = 23 ∨ (c = 16 ∧ k = 8); omega))
    have ec : cstO cl m c b = pri v := by rw [e1]; exact e
    have pv := pri_ok v
    rw [ec]
    cases ep : pri v with
    | none =>
      rcases pv.1 ep with z | z
      · rw [if_pos z, rt_some]
        exact ⟨rfl, fN3⟩
      · by_cases y : v < 0
        · rw [if_pos y, rt_some]; exact ⟨rfl, fN3⟩
        · rw [if_neg y, if_pos z, rt_some]; exact ⟨rfl, fN3⟩
    | some u =>
      obtain ⟨z1, z2, z3, z4⟩ := pv.2 u ep
      rw [if_neg z1, if_neg z2, rt_some]
      exact ⟨z3, fN3⟩
end Nce
