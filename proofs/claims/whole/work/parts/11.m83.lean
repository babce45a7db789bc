/-! NEAR's codes are in bounds, and each clause of a text that is read means something -/
def KO (x : Nat × Nat) : Prop := x.1 ≤ 12 ∧ x.2 < 100000 ∧ (x.1 = 1 → x.2 < 8)
def MO (x : Nat × Nat) : Prop := x.1 < 256 ∧ x.2 < 100000 ∧ (x.1 = 1 → x.2 < 256 ∧ ltr x.2 < 8)
def AO (K M : Cd) : Prop := (∀ x, x ∈ K → KO x) ∧ ∀ x, x ∈ M → MO x
section Nok
variable {d : Dt} {n : Nat}
theorem AO.app {K M K' M' : Cd} (h : AO K M) (h' : AO K' M') : AO (K ++ K') (M ++ M') := ⟨fun x hx => (List.mem_append.mp hx).elim (h.1 x) (h'.1 x), fun x hx => (List.mem_append.mp hx).elim (h.2 x) (h'.2 x)⟩
theorem ao_1 {x y : Nat × Nat} (hx : KO x) (hy : MO y) : AO [x] [y] := ⟨fun z hz => by rw [List.mem_singleton.mp hz]; exact hx, fun z hz => by rw [List.mem_singleton.mp hz]; exact hy⟩
theorem ok_A (oT : OkT d) {j s : Nat} {S : Nat → Nat → Nr} (hS : ∀ s p p' K M g, S s p = .inr (p', K, M, g) → s ≤ p → p ≤ n → AO K M) (hN : ∀ s p, p ≤ n → NPr n p (S s p)) : ∀ (k p : Nat) (K M : Cd) (g : Mn), AO K M → s + K.length ≤ p → p ≤ n → ∀ p' K' M' g', nrA d n (opA j) S s k p K M g = .inr (p', K', M', g') → AO K' M'
  | 0, p, K, M, g, h, _, _ => fun p' K' M' g' e => (by cases e; exact h)
  | k + 1, p, K, M, g, h, h1, h2 => fun p' K' M' g' e => by
    rw [nrA] at e
    by_cases z : opA j (hh d n p) = 0
    · rw [if_pos z] at e
      cases e
      exact h
    · rw [if_neg z] at e
      have hpn : p < n := hh_lt (d := d) rfl (fun q => z (by rw [q]; exact opA_ne))
      have q := opA_ok z
      have hb := hh_256 (n := n) (p := p) oT
      cases e2 : S (s + K.length) (p + 1) with
      | inl e' => rw [e2] at e; cases e
      | inr r =>
        obtain ⟨p2, K2, M2, g2⟩ := r
        rw [e2] at e
        obtain ⟨a1, a2, a3, a4, a5⟩ := (hN _ _ hpn).2 _ _ _ _ e2
        refine ok_A oT hS hN k p2 _ _ _ ((h.app (hS _ _ _ _ _ _ e2 (by omega) hpn)).app (ao_1 ⟨by show opA j _ ≤ 12; omega, by show 0 < 100000; decide, fun y => ?_⟩ ⟨hb, by show 0 < 100000; decide, fun y => ?_⟩)) (by simp only [List.length_append, List.length_cons, List.length_nil]; omega) a2 p' K' M' g' e
        · exact absurd (show opA j (hh d n p) = 1 from y) (by omega)
        · exact absurd (show hh d n p = 1 from y) (by omega)
theorem ok_C (hn : n ≤ 160) {jb jc s : Nat} {S : Nat → Nat → Nr} (hj : (jb = 124 ∧ jc = 11) ∨ (jb = 38 ∧ jc = 12)) (hS : ∀ s p p' K M g, S s p = .inr (p', K, M, g) → s ≤ p → p ≤ n → AO K M) (hN : ∀ s p, p ≤ n → NPr n p (S s p)) : ∀ (k p : Nat) (K M : Cd) (g : Mn), AO K M → s + K.length ≤ p → p ≤ n → ∀ p' K' M' g', nrC d n jb jc S s k p K M g = .inr (p', K', M', g') → AO K' M'
  | 0, p, K, M, g, h, _, _ => fun p' K' M' g' e => (by cases e; exact h)
  | k + 1, p, K, M, g, h, h1, h2 => fun p' K' M' g' e => by
    rw [nrC] at e
    by_cases z : hh d n p = jb
    · rw [if_pos z] at e
      have hpn : p < n := hh_lt z (by omega)
      cases e2 : S (s + K.length + 1) (p + 1) with
      | inl e' => rw [e2] at e; cases e
      | inr r =>
        obtain ⟨p2, K2, M2, g2⟩ := r
        rw [e2] at e
        obtain ⟨a1, a2, a3, a4, a5⟩ := (hN _ _ hpn).2 _ _ _ _ e2
        have h2' := hS _ _ _ _ _ _ e2 (by omega) hpn
        refine ok_C hn hj hS hN k p2 _ _ _ ⟨fun x hx => ?_, fun x hx => ?_⟩ (by simp only [List.length_append, List.length_cons, List.length_nil]; omega) a2 p' K' M' g' e
        · rcases List.mem_append.mp hx with y | y
          · exact h.1 x y
          · rcases List.mem_cons.mp y with y | y
            · rw [y]
              exact ⟨by show jc ≤ 12; omega, by show s + K.length + 1 + K2.length < 100000; omega, fun w => absurd (show jc = 1 from w) (by omega)⟩
            · exact h2'.1 x y
        · rcases List.mem_append.mp hx with y | y
          · rcases List.mem_append.mp y with y | y
            · exact h.2 x y
            · exact h2'.2 x y
          · rw [List.mem_singleton.mp y]
            exact ⟨by show jb < 256; omega, by show 0 < 100000; decide, fun w => absurd (show jb = 1 from w) (by omega)⟩
    · rw [if_neg z] at e
      cases e
      exact h
theorem ok_aS (oT : OkT d) (hn : n ≤ 160) : ∀ (f j o s p p' : Nat) (K M : Cd) (g : Mn), naS d n f j o s p = .inr (p', K, M, g) → s ≤ p → p ≤ n → AO K M
  | 0, _, _, _, _, _, _, _, _, e, _, _ => by cases e
  | f + 1, 0, o, s, p, p', K, M, g, e, hs, hp => by
    rw [naS] at e
    unfold naF at e
    split at e
    · split at e
      · rename_i h1 h2
        have hpn := hh_lt h1 (by decide)
        cases e2 : naS d n f 2 (o + 1) s (p + 1) with
        | inl e' => rw [e2] at e; cases e
        | inr r =>
          obtain ⟨p2, K2, M2, g2⟩ := r
          rw [e2] at e
          dsimp only at e
          split at e
          · cases e
            exact ok_aS oT hn f 2 (o + 1) s (p + 1) _ _ _ _ e2 (by omega) hpn
          · cases e
      · cases e
    · split at e
      · rename_i h1 h2
        have hm := nm_gt h2
        split at e
        · cases e
        · cases e
          exact ao_1 ⟨by show 0 ≤ 12; decide, hm.2.2.2, fun y => absurd (show 0 = 1 from y) (by decide)⟩ ⟨by show 0 < 256; decide, hm.2.2.2, fun y => absurd (show 0 = 1 from y) (by decide)⟩
      · split at e
        · cases e
        · rename_i h3
          cases e
          have hb := hh_256 (n := n) (p := p) oT
          have hl := ltr_le _ hb
          exact ao_1 ⟨by show 1 ≤ 12; decide, by show ltr _ < 100000; omega, fun _ => by show ltr _ < 8; omega⟩ ⟨by show 1 < 256; decide, by show hh d n p < 100000; omega, fun _ => ⟨hb, by show ltr (hh d n p) < 8; omega⟩⟩
  | f + 1, j + 1, o, s, p, p', K, M, g, e, hs, hp => by
    rw [naS] at e
    cases e2 : naS d n f j o s p with
    | inl e' => rw [e2] at e; cases e
    | inr r =>
      obtain ⟨p2, K2, M2, g2⟩ := r
      rw [e2] at e
      obtain ⟨a1, a2, a3, a4, a5⟩ := (np_aS (d := d) (n := n) (by omega) f j o s p hp).2 _ _ _ _ e2
      exact ok_A oT (fun s p p' K M g e h1 h2 => ok_aS oT hn f j o s p p' K M g e h1 h2) (fun s p h => np_aS (by omega) f j o s p h) 160 p2 K2 M2 g2 (ok_aS oT hn f j o s p _ _ _ _ e2 hs hp) (by omega) a2 p' K M g e
theorem ok_cS (oT : OkT d) (hn : n ≤ 160) : ∀ (f j o s p p' : Nat) (K M : Cd) (g : Mn), ncS d n f j o s p = .inr (p', K, M, g) → s ≤ p → p ≤ n → AO K M
  | 0, _, _, _, _, _, _, _, _, e, _, _ => by cases e
  | f + 1, 0, o, s, p, p', K, M, g, e, hs, hp => by
    rw [ncS] at e
    unfold ncF at e
    split at e
    · split at e
      · rename_i h1 h2
        have hpn := hh_lt h1 (by decide)
        cases e2 : ncS d n f 0 (o + 1) s (p + 1) with
        | inl e' => rw [e2] at e; cases e
        | inr r =>
          obtain ⟨p2, K2, M2, g2⟩ := r
          rw [e2] at e
          dsimp only at e
          cases e
          exact (ok_cS oT hn f 0 (o + 1) s (p + 1) _ _ _ _ e2 (by omega) hpn).app (ao_1 (by unfold KO; decide) ⟨by show 2 < 256; decide, by show 0 < 100000; decide, fun y => absurd (show 2 = 1 from y) (by decide)⟩)
      · cases e
    · split at e
      · split at e
        · rename_i h0 h1 h2
          have hpn := hh_lt h1 (by decide)
          cases e2 : ncS d n f 2 (o + 1) s (p + 1) with
          | inl e' => rw [e2] at e; cases e
          | inr r =>
            obtain ⟨p2, K2, M2, g2⟩ := r
            rw [e2] at e
            dsimp only at e
            split at e
            · cases e
              exact ok_cS oT hn f 2 (o + 1) s (p + 1) _ _ _ _ e2 (by omega) hpn
            · cases e
        · cases e
      · cases e2 : naS d n 100 2 o s p with
        | inl e' => rw [e2] at e; cases e
        | inr r =>
          obtain ⟨p2, K2, M2, g2⟩ := r
          rw [e2] at e
          dsimp only at e
          split at e
          · cases e
          · rename_i h3
            have q := cps_ok h3
            have hpn : p2 < n := hh_lt (d := d) rfl (fun q => h3 (by rw [q]; decide))
            obtain ⟨a1, a2, a3, a4, a5⟩ := (np_aS (d := d) (n := n) (by omega) 100 2 o s p hp).2 _ _ _ _ e2
            cases e3 : naS d n 100 2 o (s + K2.length) (p2 + 1) with
            | inl e' => rw [e3] at e; cases e
            | inr r3 =>
              obtain ⟨p3, K3, M3, g3⟩ := r3
              rw [e3] at e
              dsimp only at e
              cases e
              exact ((ok_aS oT hn 100 2 o s p _ _ _ _ e2 hs hp).app (ok_aS oT hn 100 2 o _ _ _ _ _ _ e3 (by omega) hpn)).app (ao_1 ⟨by show cps _ ≤ 12; omega, by show 0 < 100000; decide, fun y => absurd (show cps (hh d n p2) = 1 from y) (by omega)⟩ ⟨hh_256 oT, by show 0 < 100000; decide, fun y => absurd (show hh d n p2 = 1 from y) (by omega)⟩)
  | f + 1, j + 1, o, s, p, p', K, M, g, e, hs, hp => by
    rw [ncS] at e
    cases e2 : ncS d n f j o s p with
    | inl e' => rw [e2] at e; cases e
    | inr r =>
      obtain ⟨p2, K2, M2, g2⟩ := r
      rw [e2] at e
      obtain ⟨a1, a2, a3, a4, a5⟩ := (np_cS (d := d) (n := n) (by omega) f j o s p hp).2 _ _ _ _ e2
      exact ok_C hn (by by_cases z : j = 0 <;> simp [z]) (fun s p p' K M g e h1 h2 => ok_cS oT hn f j o s p p' K M g e h1 h2) (fun s p h => np_cS (by omega) f j o s p h) 160 p2 K2 M2 g2 (ok_cS oT hn f j o s p _ _ _ _ e2 hs hp) (by omega) a2 p' K M g e
/-- a clause and the codes -/
def ClOk (K M : Cd) (x : Cl) : Prop := ∃ K1 K2 M1 M2, x.2.1 = x.1 + K1.length ∧ x.2.2.1 = x.2.1 + K2.length ∧ M1.length = K1.length ∧ M2.length = K2.length ∧ (∀ F, AtC F 0 K → AtC F x.1 K1 ∧ AtC F x.2.1 K2) ∧ (∀ F, AtC F 0 M → AtC F x.1 M1 ∧ AtC F x.2.1 M2) ∧ NS x.1 15 K1 M1 x.2.2.2.1 ∧ NS x.2.1 14 K2 M2 x.2.2.2.2 ∧ B01 x.2.2.2.2 ∧ x.2.2.1 ≤ K.length ∧ 0 < K1.length ∧ 0 < K2.length
theorem ClOk.up {K M K' M' : Cd} {x : Cl} (h : ClOk K M x) : ClOk (K ++ K') (M ++ M') x := by
  obtain ⟨K1, K2, M1, M2, h1, h2, h3, h4, h5, h6, h7, h8, h9, h10, h11⟩ := h
  exact ⟨K1, K2, M1, M2, h1, h2, h3, h4, fun F hF => h5 F (at_app hF).1, fun F hF => h6 F (at_app hF).1, h7, h8, h9, by rw [List.length_append]; omega, h11⟩
theorem ok_cl (oT : OkT d) (hn : n ≤ 160) {p p' : Nat} {K M K' M' : Cd} {x : Cl} (hK : K.length ≤ p) (hM : M.length = K.length) (hp : p ≤ n) (e : ncl d n K.length p = .inr (p', K', M', x)) : AO K' M' ∧ ClOk (K ++ K') (M ++ M') x := by
  unfold ncl at e
  split at e
  · rename_i h1
    have hpn := hh_lt h1 (by decide)
    cases e2 : naS d n 100 2 0 K.length (p + 1) with
    | inl e' => rw [e2] at e; cases e
    | inr r =>
      obtain ⟨p1, K1, M1, g1⟩ := r
      rw [e2] at e
      dsimp only at e
      obtain ⟨a1, a2, a3, a4, a5⟩ := (np_aS (d := d) (n := n) (by omega) 100 2 0 K.length (p + 1) hpn).2 _ _ _ _ e2
      split at e
      · rename_i h2
        have hpn1 := hh_lt h2 (by decide)
        cases e3 : ncS d n 100 2 1 (K.length + K1.length) (p1 + 1) with
        | inl e' => rw [e3] at e; cases e
        | inr r =>
          obtain ⟨p2, K2, M2, g2⟩ := r
          rw [e3] at e
          dsimp only at e
          obtain ⟨b1, b2, b3, b4, b5⟩ := (np_cS (d := d) (n := n) (by omega) 100 2 1 _ (p1 + 1) hpn1).2 _ _ _ _ e3
          split at e
          · cases e
            have c := ns_cS (d := d) (n := n) 100 2 1 _ _ _ _ _ _ (by decide) e3
            refine ⟨(ok_aS oT hn 100 2 0 _ _ _ _ _ _ e2 (by omega) hpn).app (ok_cS oT hn 100 2 1 _ _ _ _ _ _ e3 (by omega) hpn1), K1, K2, M1, M2, rfl, rfl, a4, b4, fun F hF => ?_, fun F hF => ?_, (ns_aS (d := d) (n := n) 100 2 0 _ _ _ _ _ _ (by decide) e2).up (by decide), c.1.up (by decide), c.2, ?_, a5, b5⟩
            · have z := at_app (at_app hF).2
              rw [Nat.zero_add] at z
              exact z
            · have z := at_app (at_app hF).2
              rw [Nat.zero_add, a4, hM] at z
              exact z
            · show K.length + K1.length + K2.length ≤ _
              rw [List.length_append, List.length_append]
              omega
          · cases e
      · cases e
  · cases e
theorem ok_T (oT : OkT d) (hn : n ≤ 160) : ∀ (k i p : Nat) (K M : Cd) (cl : List Cl), p ≤ n → K.length ≤ p → M.length = K.length → AO K M → (∀ x, x ∈ cl → ClOk K M x) → ∀ K' M' cl', nrT d n k i p K M cl = .inr (K', M', cl') → AO K' M' ∧ ∀ x, x ∈ cl' → ClOk K' M' x
  | 0, i, p, K, M, cl, _, _, _, _, _ => fun _ _ _ h => (by cases h)
  | k + 1, i, p, K, M, cl, hp, hK, hM, hA, hC => fun K' M' cl' h => by
    rw [nrT] at h
    split at h
    · cases h
    · cases e : ncl d n K.length p with
      | inl e' => rw [e] at h; cases h
      | inr r =>
        obtain ⟨p', K2, M2, x⟩ := r
        rw [e] at h
        dsimp only at h
        obtain ⟨a1, a2, a3, a4⟩ := (np_cl (d := d) (n := n) (s := K.length) (by omega) hp).2 p' K2 M2 x e
        have q := ok_cl oT hn hK hM hp e
        have hC2 : ∀ y, y ∈ cl ++ [x] → ClOk (K ++ K2) (M ++ M2) y := fun y hy => by
          rcases List.mem_append.mp hy with z | z
          · exact (hC y z).up
          · rw [List.mem_singleton.mp z]
            exact q.2
        split at h
        · cases h
          exact ⟨hA.app q.1, hC2⟩
        · split at h
          · exact ok_T oT hn k (i + 1) (p' + 1) _ _ _ (by omega) (by rw [List.length_append]; omega) (by rw [List.length_append, List.length_append]; omega) (hA.app q.1) hC2 K' M' cl' h
          · cases h
theorem ok_near (oT : OkT d) (hn : n ≤ 160) {K M : Cd} {cl : List Cl} (h : nearR d n = .inr (K, M, cl)) : AO K M ∧ ∀ x, x ∈ cl → ClOk K M x := ok_T oT hn 13 0 0 [] [] [] (Nat.zero_le _) (Nat.zero_le _) rfl ⟨fun x hx => (by cases hx), fun x hx => (by cases hx)⟩ (fun x hx => (by cases hx)) K M cl h
end Nok
