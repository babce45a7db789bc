/-! loops, joins, guards of the functions -/
def FUEL : Nat := 1000000000000
def wh {σ ε : Type} (b : σ → Option (σ ⊕ ε)) : Nat → σ → Option ε
  | 0, _ => none
  | n + 1, s => match b s with
    | none => none
    | some (.inl s') => wh b n s'
    | some (.inr x) => some x
theorem wh_V {σ ε : Type} {b : σ → Option (σ ⊕ ε)} {P : σ → Prop} {E : ε → Prop} (hb : ∀ s e, b s = some e → (∀ s', e = .inl s' → P s') → (∀ x, e = .inr x → E x) → P s) : ∀ (n : Nat) (s : σ) (x : ε), wh b n s = some x → E x → P s
  | 0, s, x, h, _ => by cases h
  | n + 1, s, x, h, hE => by
    unfold wh at h
    split at h
    · cases h
    · rename_i s' e
      exact hb s _ e (fun s2 h2 => by cases h2; exact wh_V hb n s' x h hE) (fun x2 h2 => by cases h2)
    · rename_i x' e
      cases h
      exact hb s _ e (fun s2 h2 => by cases h2) (fun x2 h2 => by cases h2; exact hE)
def mg {τ ρ : Type} (x : Option (τ ⊕ ρ)) (k : τ → Option ρ) : Option ρ := match x with
  | none => none
  | some (.inl p) => k p
  | some (.inr r) => some r
theorem mgn {τ ρ : Type} {x : Option (τ ⊕ ρ)} {k : τ → Option ρ} {z : ρ} (h : mg x k = some z) : ∃ s, x = some s ∧ (∀ p, s = .inl p → k p = some z) ∧ ∀ r, s = .inr r → some r = some z := by
  unfold mg at h
  split at h
  · cases h
  · exact ⟨_, rfl, fun p e => by cases e; exact h, fun r e => by cases e⟩
  · exact ⟨_, rfl, fun p e => (by cases e), fun r e => by cases e; exact h⟩
theorem bn {α β : Type} {x : Option α} {k : α → Option β} {z : β} (h : Option.bind x k = some z) : ∃ a, x = some a ∧ k a = some z := Option.bind_eq_some_iff.mp h
theorem gd {α : Type} {c : Prop} [Decidable c] {T : Option α} {x : α} (h : (if c then T else none) = some x) : c ∧ T = some x := by
  split at h
  · rename_i hc; exact ⟨hc, h⟩
  · cases h
/-- by null or not -/
def onq {β : Type} (x : Option Nat) (a : β) (k : Nat → β) : β := match x with
  | none => a
  | some c => k c
theorem onq_n {β : Type} {x : Option Nat} {a : β} {k : Nat → β} {z : β} (hx : x = none) (h : onq x a k = z) : a = z := by subst hx; exact h
theorem onq_s {β : Type} {x : Option Nat} {a : β} {k : Nat → β} {z : β} {c : Nat} (hx : x = some c) (h : onq x a k = z) : k c = z := by subst hx; exact h
def isB (x : Int32) : Bool := decide (x = 0 ∨ x = 1)
theorem isB_n {x : Int32} (h : isB x = true) : narrow .boolean (.int x) = .int x := by
  rcases of_decide_eq_true h with rfl | rfl <;> rfl
theorem isB_f {x : Int32} (h : isB x = true) : fits .boolean (.int x) = true := by
  rcases of_decide_eq_true h with rfl | rfl <;> rfl
section Rules5
variable {g : Gx} {y : MethodName} {cc : ByteArray} {nL : Nat} {d : Nat} {V : Vt} {pc : Nat} {L : List (Option Value)} {st : List Value} {w : Mm}

theorem i_lc_eq (S : MachB g y cc nL d V) {x y1 : Int64} {off : Int} {tgt : Nat} (hd : decode cc pc = .ok (.lcmp, 1)) (hd2 : decode cc (pc + 1) = .ok (.ifCond .eq off, 3)) (ht : ((pc + 1 : Nat) : Int) + off = (tgt : Int)) (kt : x = y1 → V tgt L st w) (kf : ¬ x = y1 → V (pc + 4) L st w) : V pc L (.long y1 :: .long x :: st) w := i_lcmp S hd (i_if_eq S hd2 ht (fun q => kt ((lg_cmp_eq x y1).mp q)) (fun q => kf (fun e => q ((lg_cmp_eq x y1).mpr e))))
theorem i_lc_ne (S : MachB g y cc nL d V) {x y1 : Int64} {off : Int} {tgt : Nat} (hd : decode cc pc = .ok (.lcmp, 1)) (hd2 : decode cc (pc + 1) = .ok (.ifCond .ne off, 3)) (ht : ((pc + 1 : Nat) : Int) + off = (tgt : Int)) (kt : ¬ x = y1 → V tgt L st w) (kf : x = y1 → V (pc + 4) L st w) : V pc L (.long y1 :: .long x :: st) w := i_lcmp S hd (i_if_ne S hd2 ht (fun q => kt (fun e => q ((lg_cmp_eq x y1).mpr e))) (fun q => kf ((lg_cmp_eq x y1).mp q)))
theorem i_lc_lt (S : MachB g y cc nL d V) {x y1 : Int64} {off : Int} {tgt : Nat} (hd : decode cc pc = .ok (.lcmp, 1)) (hd2 : decode cc (pc + 1) = .ok (.ifCond .lt off, 3)) (ht : ((pc + 1 : Nat) : Int) + off = (tgt : Int)) (kt : x < y1 → V tgt L st w) (kf : ¬ x < y1 → V (pc + 4) L st w) : V pc L (.long y1 :: .long x :: st) w := i_lcmp S hd (i_if_lt S hd2 ht (fun q => kt ((lg_cmp_lt x y1).mp q)) (fun q => kf (fun e => q ((lg_cmp_lt x y1).mpr e))))
theorem i_lc_ge (S : MachB g y cc nL d V) {x y1 : Int64} {off : Int} {tgt : Nat} (hd : decode cc pc = .ok (.lcmp, 1)) (hd2 : decode cc (pc + 1) = .ok (.ifCond .ge off, 3)) (ht : ((pc + 1 : Nat) : Int) + off = (tgt : Int)) (kt : y1 ≤ x → V tgt L st w) (kf : ¬ y1 ≤ x → V (pc + 4) L st w) : V pc L (.long y1 :: .long x :: st) w := i_lcmp S hd (i_if_ge S hd2 ht (fun q => kt ((lg_cmp_ge x y1).mp q)) (fun q => kf (fun e => q ((lg_cmp_ge x y1).mpr e))))
theorem i_lc_gt (S : MachB g y cc nL d V) {x y1 : Int64} {off : Int} {tgt : Nat} (hd : decode cc pc = .ok (.lcmp, 1)) (hd2 : decode cc (pc + 1) = .ok (.ifCond .gt off, 3)) (ht : ((pc + 1 : Nat) : Int) + off = (tgt : Int)) (kt : y1 < x → V tgt L st w) (kf : ¬ y1 < x → V (pc + 4) L st w) : V pc L (.long y1 :: .long x :: st) w := i_lcmp S hd (i_if_gt S hd2 ht (fun q => kt ((lg_cmp_gt x y1).mp q)) (fun q => kf (fun e => q ((lg_cmp_gt x y1).mpr e))))
theorem i_lc_le (S : MachB g y cc nL d V) {x y1 : Int64} {off : Int} {tgt : Nat} (hd : decode cc pc = .ok (.lcmp, 1)) (hd2 : decode cc (pc + 1) = .ok (.ifCond .le off, 3)) (ht : ((pc + 1 : Nat) : Int) + off = (tgt : Int)) (kt : x ≤ y1 → V tgt L st w) (kf : ¬ x ≤ y1 → V (pc + 4) L st w) : V pc L (.long y1 :: .long x :: st) w := i_lcmp S hd (i_if_le S hd2 ht (fun q => kt ((lg_cmp_le x y1).mp q)) (fun q => kf (fun e => q ((lg_cmp_le x y1).mpr e))))
theorem tsne {x k : Int32} {z : Int} (h : ¬ x = k) (hk : k.toInt = z) : x.toInt ≠ z := fun q => h (Int32.toInt_inj.mp (by rw [hk]; exact q))
theorem i_tswD (S : MachB g y cc nL d V) {dflt lo hi : Int} {offs : Array Int} {len : Nat} {x : Int32} {tgt : Nat} (hd : decode cc pc = .ok (.tableswitch dflt lo hi offs, len)) (hs : hi = lo + offs.size - 1) (hne : ∀ j : Nat, j < offs.size → offs[j]? = some dflt ∨ x.toInt ≠ lo + j) (ht : (pc : Int) + dflt = (tgt : Int)) (k : V tgt L st w) : V pc L (.int x :: st) w := by
  by_cases h1 : x.toInt < lo
  · exact i_tswOut S hd (Or.inl h1) ht k
  · by_cases h2 : hi < x.toInt
    · exact i_tswOut S hd (Or.inr h2) ht k
    · refine i_tswIn S hd h1 h2 ?_ ht k
      rcases hne (x.toInt - lo).toNat (by omega) with h | h
      · exact h
      · exact absurd (by omega) h
theorem i_copyI (S : MachB g y cc nL d V) {c0 c1 n0 n1 idx : Nat} {sp dp n : Int32} (hl0 : Cond.methodLink y.cls idx arraycopyName ∈ wtbl) (hk0 : gK w c0 = some (20, n0)) (hk1 : gK w c1 = some (20, n1)) (h1 : ¬ sp < 0) (h2 : ¬ dp < 0) (h3 : ¬ n < 0) (h4 : sp.toNatClampNeg + n.toNatClampNeg ≤ n0) (h5 : dp.toNatClampNeg + n.toNatClampNeg ≤ n1) (h8 : (st.map fun v => v.category).sum ≤ 8) (hd : decode cc pc = .ok (.invokestatic idx, 3)) (kk : V (pc + 3) L st (cpI w c0 c1 sp.toNatClampNeg dp.toNatClampNeg n.toNatClampNeg)) : V pc L (.int n :: .int dp :: rf g c1 :: .int sp :: rf g c0 :: st) w := by
  obtain ⟨p, e, R, s, m, args, below, meth, cd, w0, Q, rfl, hx, hb, hml, hown, hkn, hsz, hnm, hc1, hc2, hfr, hlo, hrc, hrs⟩ := S
  intro H locs ls hH hS hl hm
  have hw5 : nativeFrameWords "java/lang/System" "arraycopy" 5 ≤ 20 := by decide
  refine va_copyi hx hb (by rw [hml]; exact hl.1.symm) hown (hkn.use hl0) (hkn.use im_copy_native) (hkn.use im_copy_static) (hkn.use in_System) hkn.1 hH.1 (wl_D g w) hS c0 c1 0 0 (f := fun j => gI w c0 j) (g := fun j => gI w c1 j) (ty := .int) (by rw [wl_get hk0, ce_int (by decide)]) (by rw [wl_get hk1, ce_int (by decide)]) rfl rfl rfl h1 h2 h3 h4 h5 (fun i hi => rfl) (by omega) (by omega) hd (fun H1 locs1 hP1 hD1 hS1 => ?_)
  have he : (wl g w).set c1 (g.2.1 + c1, .inl (g.2.2.2 20, n1, .inl (va_cpy (fun j => gI w c0 j) (fun j => gI w c1 j) sp.toNatClampNeg dp.toNatClampNeg n.toNatClampNeg))) = wl g (cpI w c0 c1 sp.toNatClampNeg dp.toNatClampNeg n.toNatClampNeg) := wl_set rfl hk1 (by rw [ce_int (by decide)]; congr 4; funext j; simp [gI, cpI]) (fun c2 t2 n2 h => by unfold ce fvs fv gI gL gR cpI; simp only [h, if_false])
  rw [he] at hP1
  exact kk H1 locs1 ls (HRx.ge hP1 (gK_pos hk1)) hS1 hl hm
end Rules5
theorem bp_m2 : (Int8.ofInt (-2)).toInt32 = -2 := by decide
theorem bp_6 : (Int8.ofInt (6)).toInt32 = 6 := by decide
theorem bp_7 : (Int8.ofInt (7)).toInt32 = 7 := by decide
theorem bp_8 : (Int8.ofInt (8)).toInt32 = 8 := by decide
theorem bp_9 : (Int8.ofInt (9)).toInt32 = 9 := by decide
theorem bp_10 : (Int8.ofInt (10)).toInt32 = 10 := by decide
theorem bp_11 : (Int8.ofInt (11)).toInt32 = 11 := by decide
theorem bp_12 : (Int8.ofInt (12)).toInt32 = 12 := by decide
theorem bp_16 : (Int8.ofInt (16)).toInt32 = 16 := by decide
theorem bp_19 : (Int8.ofInt (19)).toInt32 = 19 := by decide
theorem bp_20 : (Int8.ofInt (20)).toInt32 = 20 := by decide
theorem bp_23 : (Int8.ofInt (23)).toInt32 = 23 := by decide
theorem bp_24 : (Int8.ofInt (24)).toInt32 = 24 := by decide
theorem bp_31 : (Int8.ofInt (31)).toInt32 = 31 := by decide
theorem bp_33 : (Int8.ofInt (33)).toInt32 = 33 := by decide
theorem bp_37 : (Int8.ofInt (37)).toInt32 = 37 := by decide
theorem bp_38 : (Int8.ofInt (38)).toInt32 = 38 := by decide
theorem bp_40 : (Int8.ofInt (40)).toInt32 = 40 := by decide
theorem bp_41 : (Int8.ofInt (41)).toInt32 = 41 := by decide
theorem bp_42 : (Int8.ofInt (42)).toInt32 = 42 := by decide
theorem bp_43 : (Int8.ofInt (43)).toInt32 = 43 := by decide
theorem bp_45 : (Int8.ofInt (45)).toInt32 = 45 := by decide
theorem bp_47 : (Int8.ofInt (47)).toInt32 = 47 := by decide
theorem bp_48 : (Int8.ofInt (48)).toInt32 = 48 := by decide
theorem bp_57 : (Int8.ofInt (57)).toInt32 = 57 := by decide
theorem bp_59 : (Int8.ofInt (59)).toInt32 = 59 := by decide
theorem bp_60 : (Int8.ofInt (60)).toInt32 = 60 := by decide
theorem bp_61 : (Int8.ofInt (61)).toInt32 = 61 := by decide
theorem bp_62 : (Int8.ofInt (62)).toInt32 = 62 := by decide
theorem bp_63 : (Int8.ofInt (63)).toInt32 = 63 := by decide
theorem bp_64 : (Int8.ofInt (64)).toInt32 = 64 := by decide
theorem bp_91 : (Int8.ofInt (91)).toInt32 = 91 := by decide
theorem bp_93 : (Int8.ofInt (93)).toInt32 = 93 := by decide
theorem bp_97 : (Int8.ofInt (97)).toInt32 = 97 := by decide
theorem bp_98 : (Int8.ofInt (98)).toInt32 = 98 := by decide
theorem bp_99 : (Int8.ofInt (99)).toInt32 = 99 := by decide
theorem bp_100 : (Int8.ofInt (100)).toInt32 = 100 := by decide
theorem bp_106 : (Int8.ofInt (106)).toInt32 = 106 := by decide
theorem bp_107 : (Int8.ofInt (107)).toInt32 = 107 := by decide
theorem bp_108 : (Int8.ofInt (108)).toInt32 = 108 := by decide
theorem bp_115 : (Int8.ofInt (115)).toInt32 = 115 := by decide
theorem bp_119 : (Int8.ofInt (119)).toInt32 = 119 := by decide
theorem bp_120 : (Int8.ofInt (120)).toInt32 = 120 := by decide
theorem bp_121 : (Int8.ofInt (121)).toInt32 = 121 := by decide
theorem bp_124 : (Int8.ofInt (124)).toInt32 = 124 := by decide
theorem ic_m8 : Int32.ofInt (-8) = -8 := by decide
theorem ic_m1 : Int32.ofInt (-1) = -1 := by decide
theorem ic_0 : Int32.ofInt (0) = 0 := by decide
theorem ic_1 : Int32.ofInt (1) = 1 := by decide
theorem ic_2 : Int32.ofInt (2) = 2 := by decide
theorem ic_3 : Int32.ofInt (3) = 3 := by decide
theorem ic_4 : Int32.ofInt (4) = 4 := by decide
theorem ic_5 : Int32.ofInt (5) = 5 := by decide
theorem ic_6 : Int32.ofInt (6) = 6 := by decide
theorem lc_0 : Int64.ofNat ((0 : Fin 2) : Nat) = 0 := by decide
theorem lc_1 : Int64.ofNat ((1 : Fin 2) : Nat) = 1 := by decide
theorem sp_m1000 : (Int16.ofInt (-1000)).toInt32 = -1000 := by decide
theorem sp_160 : (Int16.ofInt (160)).toInt32 = 160 := by decide
theorem sp_200 : (Int16.ofInt (200)).toInt32 = 200 := by decide
theorem sp_255 : (Int16.ofInt (255)).toInt32 = 255 := by decide
theorem sp_280 : (Int16.ofInt (280)).toInt32 = 280 := by decide
theorem sp_300 : (Int16.ofInt (300)).toInt32 = 300 := by decide
theorem sp_1000 : (Int16.ofInt (1000)).toInt32 = 1000 := by decide
theorem sp_1023 : (Int16.ofInt (1023)).toInt32 = 1023 := by decide
theorem sp_1024 : (Int16.ofInt (1024)).toInt32 = 1024 := by decide
theorem sp_2000 : (Int16.ofInt (2000)).toInt32 = 2000 := by decide
theorem sp_4096 : (Int16.ofInt (4096)).toInt32 = 4096 := by decide
theorem sp_5000 : (Int16.ofInt (5000)).toInt32 = 5000 := by decide
