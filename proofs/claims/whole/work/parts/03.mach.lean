/-! memory: ints, longs, references by (cell, place); kinds of the cells: (tag, how many slots). Tags 0..12: an object of that class of vwCl; 20 int[], 21 long[], 22 boolean[], 23 byte[], 24 Speech[], 25 Rule[] -/
abbrev Mm : Type := (Nat → Nat → Int32) × (Nat → Nat → Int64) × (Nat → Nat → Option Nat) × List (Nat × Nat)
def gI (w : Mm) (c k : Nat) : Int32 := w.1 c k
def gL (w : Mm) (c k : Nat) : Int64 := w.2.1 c k
def gR (w : Mm) (c k : Nat) : Option Nat := w.2.2.1 c k
def gK (w : Mm) (c : Nat) : Option (Nat × Nat) := w.2.2.2[c]?
def mlen (w : Mm) : Nat := w.2.2.2.length
def mslots (w : Mm) : Nat := (w.2.2.2.map (fun q => q.2)).sum
def up2 {α : Type} (f : Nat → Nat → α) (c k : Nat) (v : α) : Nat → Nat → α := fun a b => if a = c ∧ b = k then v else f a b
def row0 {α : Type} (f : Nat → Nat → α) (c : Nat) (v : α) : Nat → Nat → α := fun a b => if a = c then v else f a b
def sI (w : Mm) (c k : Nat) (v : Int32) : Mm := (up2 w.1 c k v, w.2)
def sL (w : Mm) (c k : Nat) (v : Int64) : Mm := (w.1, up2 w.2.1 c k v, w.2.2)
def sR (w : Mm) (c k : Nat) (v : Option Nat) : Mm := (w.1, w.2.1, up2 w.2.2.1 c k v, w.2.2.2)
def al (w : Mm) (t n : Nat) : Mm := (row0 w.1 (mlen w) 0, row0 w.2.1 (mlen w) 0, row0 w.2.2.1 (mlen w) none, w.2.2.2 ++ [(t, n)])
/-- a stretch of one cell's ints into another's -/
def cpI (w : Mm) (c0 c1 sp dp n : Nat) : Mm := (fun a b => if a = c1 then va_cpy (w.1 c0) (w.1 c1) sp dp n b else w.1 a b, w.2)
theorem up2_s {α : Type} (f : Nat → Nat → α) (c k : Nat) (v : α) : up2 f c k v c k = v := by simp [up2]
theorem up2_c {α : Type} (f : Nat → Nat → α) {c c' : Nat} (k k' : Nat) (v : α) (h : c' ≠ c) : up2 f c k v c' k' = f c' k' := by simp [up2, h]
theorem up2_k {α : Type} (f : Nat → Nat → α) {c c' : Nat} {k k' : Nat} (v : α) (h : k' ≠ k) : up2 f c k v c' k' = f c' k' := by simp [up2, h]
abbrev Gx : Type := Launch × Nat × va_G × (Nat → ClassId)
def vr (g : Gx) (r : Option Nat) : Value := va_rf (r.map (fun c => g.2.1 + c))
def rf (g : Gx) (c : Nat) : Value := .ref (g.2.1 + c)
theorem vr_some (g : Gx) (c : Nat) : vr g (some c) = rf g c := rfl
theorem vr_none (g : Gx) : vr g none = .null := rfl
def ftag : FieldType → Nat
  | .long => 1
  | .object _ => 2
  | .array _ => 2
  | _ => 0
def fv (g : Gx) (w : Mm) (c k : Nat) (ty : FieldType) : Value := match ftag ty with
  | 0 => .int (gI w c k)
  | 1 => .long (gL w c k)
  | _ => vr g (gR w c k)
def vTy : Nat → Nat → FieldType := fun t => match t with
  | 0 => tyX0
  | 1 => tyX1
  | 2 => tyX2
  | 3 => tyX3
  | 4 => tyX4
  | 5 => tyX5
  | 6 => tyX6
  | 7 => tyX7
  | 8 => tyX8
  | 9 => tyX9
  | 10 => tyX10
  | 11 => tyX11
  | _ => tyX12
def fvs (g : Gx) (w : Mm) (c t n : Nat) : List Value := (List.range n).map (fun k => fv g w c k (vTy t k))
def ce (g : Gx) (w : Mm) (c t n : Nat) : va_E :=
  if t < 20 then .inr (t, fvs g w c t n)
  else if t = 21 then .inl (g.2.2.2 t, n, .inr (.inl (fun j => gL w c j)))
  else if t < 24 then .inl (g.2.2.2 t, n, .inl (fun j => gI w c j))
  else .inl (g.2.2.2 t, n, .inr (.inr (.inr (.inr (fun j => (gR w c j).map (fun c => g.2.1 + c))))))
def wl (g : Gx) (w : Mm) : va_W := w.2.2.2.mapIdx (fun c q => (g.2.1 + c, ce g w c q.1 q.2))
theorem wl_at (g : Gx) (w : Mm) (c : Nat) : (wl g w)[c]? = (gK w c).map (fun q => (g.2.1 + c, ce g w c q.1 q.2)) := by simp [wl, gK]
theorem wl_get {g : Gx} {w : Mm} {c t n : Nat} (h : gK w c = some (t, n)) : (wl g w)[c]? = some (g.2.1 + c, ce g w c t n) := by rw [wl_at, h]; rfl
theorem wl_inv {g : Gx} {w : Mm} {i : Nat} {p : Nat × va_E} (h : (wl g w)[i]? = some p) : p.1 = g.2.1 + i := by
  rw [wl_at] at h
  cases hk : gK w i with
  | none => rw [hk] at h; cases h
  | some q => rw [hk] at h; cases h; rfl
theorem wl_D (g : Gx) (w : Mm) : va_D (fun q => g.2.1 ≤ q) (wl g w) := by
  refine ⟨fun i j p q hi hj h => ?_, fun k q hk => ?_⟩
  · rw [wl_inv hi, wl_inv hj] at h
    omega
  · rw [wl_inv hk]
    exact Nat.le_add_right _ _
/-- two memories whose cells are alike but for one -/
theorem wl_set {g : Gx} {w w' : Mm} {c t n : Nat} {e : va_E} (hK : w'.2.2.2 = w.2.2.2) (hk : gK w c = some (t, n)) (he : ce g w' c t n = e) (ho : ∀ c' t' n', c' ≠ c → ce g w' c' t' n' = ce g w c' t' n') : (wl g w).set c (g.2.1 + c, e) = wl g w' := by
  apply List.ext_getElem?
  intro j
  have hlen : (wl g w).length = w.2.2.2.length := by simp [wl]
  have hlt : c < w.2.2.2.length := (List.getElem?_eq_some_iff.mp hk).1
  by_cases hj : j = c
  · subst hj
    rw [List.getElem?_set_self (by rw [hlen]; exact hlt), wl_get (w := w') (t := t) (n := n) (by unfold gK; rw [hK]; exact hk), he]
  · rw [List.getElem?_set_ne (Ne.symm hj), wl_at, wl_at]
    unfold gK
    rw [hK]
    cases w.2.2.2[j]? with
    | none => rfl
    | some q => exact congrArg some (congrArg (Prod.mk _) (ho j q.1 q.2 hj).symm)
theorem fvs_at {g : Gx} {w : Mm} {c t n k : Nat} (hk : k < n) : (fvs g w c t n)[k]? = some (fv g w c k (vTy t k)) := by simp [fvs, hk]
theorem fvs_len {g : Gx} {w : Mm} {c t n : Nat} : (fvs g w c t n).length = n := by simp [fvs]
theorem fvs_set {g : Gx} {w w' : Mm} {c t n k : Nat} {v : Value} (hk : k < n) (hv : fv g w' c k (vTy t k) = v) (ho : ∀ j, j ≠ k → fv g w' c j (vTy t j) = fv g w c j (vTy t j)) : fvs g w' c t n = (fvs g w c t n).set k v := by
  apply List.ext_getElem?
  intro j
  by_cases hj : j = k
  · subst hj
    rw [List.getElem?_set_self (by rw [fvs_len]; exact hk), fvs_at hk, hv]
  · rw [List.getElem?_set_ne (Ne.symm hj)]
    by_cases hn : j < n
    · rw [fvs_at hn, fvs_at hn, ho j hj]
    · rw [List.getElem?_eq_none (by rw [fvs_len]; omega), List.getElem?_eq_none (by rw [fvs_len]; omega)]
theorem ce_other_I {g : Gx} {w : Mm} {c k : Nat} {v : Int32} (c' t' n' : Nat) (h : c' ≠ c) : ce g (sI w c k v) c' t' n' = ce g w c' t' n' := by
  unfold ce fvs fv gI gL gR sI
  simp only [up2_c w.1 k _ v h]
theorem ce_other_L {g : Gx} {w : Mm} {c k : Nat} {v : Int64} (c' t' n' : Nat) (h : c' ≠ c) : ce g (sL w c k v) c' t' n' = ce g w c' t' n' := by
  unfold ce fvs fv gI gL gR sL
  simp only [up2_c w.2.1 k _ v h]
theorem ce_other_R {g : Gx} {w : Mm} {c k : Nat} {v : Option Nat} (c' t' n' : Nat) (h : c' ≠ c) : ce g (sR w c k v) c' t' n' = ce g w c' t' n' := by
  unfold ce fvs fv gI gL gR sR
  simp only [up2_c w.2.2.1 k _ v h]
def tysOf (g : Gx) : List (ClassId × FieldType) := [(g.2.2.2 20, .int), (g.2.2.2 21, .long), (g.2.2.2 22, .boolean), (g.2.2.2 23, .byte), (g.2.2.2 24, .object "WordYear$Speech"), (g.2.2.2 25, .object "WordYear$Rule")]
def okWord : Cond → Bool
  | .methodLinkNest _ _ _ _ => true
  | .arrayOver (.object _) => true
  | .arrayClass _ => true
  | w => goodWord w && w.onTables
def wtbl : List Cond := lw_tbl.filter okWord
def Kn (g : Gx) (U : State) : Prop := va_K g.2.2.1 vwCl (tysOf g) U ∧ ∀ w ∈ wtbl, w.before #[] U = true
theorem okWord_moved {s U : State} (hW : s.WarmedH U.vm) (w : Cond) (ho : okWord w = true) (h : w.before #[] s = true) : w.before #[] U = true := by
  unfold okWord at ho
  split at ho
  · exact va_Nw.warmM hW h
  · exact va_AO.moved hW.alike h
  · exact word_at hW (Or.inr ⟨_, rfl⟩) h
  · exact word_at hW (good_of_word ((Bool.and_eq_true _ _).mp ho).1) h
theorem okWord_same {s U : State} (hvm : s.vm = U.vm) {A : Array Value} (w : Cond) (ho : okWord w = true) (h : w.before #[] s = true) : w.before A U = true := by
  unfold okWord at ho
  split at ho
  · exact va_tabs rfl hvm h
  · exact va_AO.moved (hvm ▸ Vm.Alike.refl _) h
  · exact word_at (hvm ▸ State.WarmedH.refl s) (Or.inr ⟨_, rfl⟩) h
  · exact va_tabs ((Bool.and_eq_true _ _).mp ho).2 hvm h
theorem tbl_okw {w : Cond} (h : w ∈ wtbl) : okWord w = true := (List.mem_filter.mp h).2
theorem Kn.moved {g : Gx} {s U : State} (hW : s.WarmedH U.vm) (h : Kn g s) : Kn g U := ⟨h.1.moved hW.alike, fun w hw => okWord_moved hW w (tbl_okw hw) (h.2 w hw)⟩
theorem Kn.use {g : Gx} {s : State} (h : Kn g s) {w : Cond} (hw : w ∈ wtbl) {args : Array Value} : w.before args s = true := okWord_same rfl w (tbl_okw hw) (h.2 w hw)
theorem Kn.vm {g : Gx} {s U : State} (hvm : s.vm = U.vm) (h : Kn g s) : Kn g U := ⟨h.1.moved (hvm ▸ Vm.Alike.refl _), fun w hw => okWord_same hvm w (tbl_okw hw) (h.2 w hw)⟩
def CAP : Nat := 600000
def SCAP : Nat := 7302250
def mono (w0 w : Mm) : Prop := mlen w0 ≤ mlen w ∧ mslots w0 ≤ mslots w ∧ mlen w ≤ CAP ∧ mslots w ≤ SCAP
def rmOf (d : Nat) (w : Mm) : Room := { frames := d, cells := CAP - mlen w, slots := SCAP - mslots w, locals := 40 * d }
def HRx (g : Gx) (w : Mm) (H : Heap) : Prop := va_P g.2.2.1 vwCl (wl g w) H ∧ g.2.1 + mlen w ≤ H.size
def Pcc (g : Gx) (av : List Value) (w : Mm) : Array Value → State → Prop := fun a U => a = av.toArray ∧ HRx g w U.heap ∧ U.heap.size = g.2.1 + mlen w ∧ Kn g U ∧ mlen w ≤ CAP ∧ mslots w ≤ SCAP
def Qcc (g : Gx) (w : Mm) (rv : Option Value) (w' : Mm) : Array Value → State → Outcome → State → Prop := fun _ st o t => o = .returned rv ∧ HRx g w' t.heap ∧ mono w w' ∧ ∀ q, q < g.2.1 → t.heap[q]? = st.heap[q]?
/-- the method y (its code cc, maxL, ret), at depth d, called with av in the memory w, returns rv and leaves w' -/
def Call (g : Gx) (d : Nat) (y : MethodName) (cc : ByteArray) (maxL : Nat) (ret : Option FieldType) (av : List Value) (w : Mm) (rv : Option Value) (w' : Mm) : Prop :=
  Met g.1 y [Cond.code y cc maxL ret] (rmOf d w) (Pcc g av w) (Qcc g w rv w') (mlen w' - mlen w) (mslots w' - mslots w) (fun q => g.2.1 ≤ q)
def pr : Nat → List (Option Value) → List (Nat × Value)
  | _, [] => []
  | i, none :: l => pr (i + 1) l
  | i, some v :: l => (i, v) :: pr (i + 1) l
theorem mem_pr : ∀ (L : List (Option Value)) (i j : Nat) (v : Value), (j, v) ∈ pr i L ↔ i ≤ j ∧ L[j - i]? = some (some v)
  | [], i, j, v => by simp [pr]
  | none :: L, i, j, v => by
    rw [pr, mem_pr L (i + 1) j v]
    by_cases h : j = i
    · subst h; simp; intro hh; omega
    · constructor
      · rintro ⟨h1, h2⟩
        refine ⟨by omega, ?_⟩
        rw [show j - i = (j - (i + 1)) + 1 by omega, List.getElem?_cons_succ]; exact h2
      · rintro ⟨h1, h2⟩
        refine ⟨by omega, ?_⟩
        rw [show j - i = (j - (i + 1)) + 1 by omega, List.getElem?_cons_succ] at h2; exact h2
  | some u :: L, i, j, v => by
    rw [pr, List.mem_cons, mem_pr L (i + 1) j v]
    by_cases h : j = i
    · subst h
      simp only [Nat.sub_self, List.getElem?_cons_zero, Prod.mk.injEq, true_and, Option.some.injEq, Nat.le_refl]
      constructor
      · rintro (h | ⟨h, -⟩)
        · exact h.symm
        · omega
      · intro h; exact Or.inl h.symm
    · constructor
      · rintro (h1 | ⟨h1, h2⟩)
        · exact absurd (congrArg Prod.fst h1) h
        · refine ⟨by omega, ?_⟩
          rw [show j - i = (j - (i + 1)) + 1 by omega, List.getElem?_cons_succ]; exact h2
      · rintro ⟨h1, h2⟩
        refine Or.inr ⟨by omega, ?_⟩
        rw [show j - i = (j - (i + 1)) + 1 by omega, List.getElem?_cons_succ] at h2; exact h2
theorem mem_pr0 {L : List (Option Value)} {j : Nat} {v : Value} : (j, v) ∈ pr 0 L ↔ L[j]? = some (some v) := by rw [mem_pr]; simp
theorem lv_mono {ls : Array Slot} {nL : Nat} {l l' : List (Nat × Value)} (h : lv_has ls nL l) (hs : ∀ j v, (j, v) ∈ l' → (j, v) ∈ l) : lv_has ls nL l' := ⟨h.1, h.2.1, fun q hq => h.2.2 q (hs q.1 q.2 hq)⟩
theorem lv_of {ls : Array Slot} {nL : Nat} {L : List (Option Value)} (h : lv_has ls nL (pr 0 L)) {i : Nat} {v : Value} (hi : L[i]? = some (some v)) : ls[i]? = some (.val v) := h.2.2 (i, v) (mem_pr0.mpr hi)
/-- a store kills a long that begins one place ahead -/
def kl (L : List (Option Value)) (i : Nat) : List (Option Value) := match i with
  | 0 => L
  | j + 1 => match L[j]? with
    | some (some (.long _)) => L.set j none
    | some (some (.double _)) => L.set j none
    | _ => L
def st1 (L : List (Option Value)) (i : Nat) (v : Value) : List (Option Value) := (kl L i).set i (some v)
def st2 (L : List (Option Value)) (i : Nat) (v : Value) : List (Option Value) := ((kl L i).set (i + 1) none).set i (some v)
theorem kl_at {L : List (Option Value)} {i j : Nat} {v : Value} (h : (kl L i)[j]? = some (some v)) : L[j]? = some (some v) ∧ ¬ (j + 1 = i ∧ v.category = 2) := by
  cases i with
  | zero => exact ⟨h, fun q => by omega⟩
  | succ i =>
    simp only [kl] at h
    have key : ∀ (L' : List (Option Value)), L' = L.set i none → L'[j]? = some (some v) → L[j]? = some (some v) ∧ ¬ (j + 1 = i + 1 ∧ v.category = 2) := by
      intro L' hL' h
      subst hL'
      by_cases hj : j = i
      · subst hj
        rw [List.getElem?_set] at h
        simp at h
      · rw [List.getElem?_set_ne (Ne.symm hj)] at h
        exact ⟨h, fun q => hj (by omega)⟩
    split at h
    · exact key _ rfl h
    · exact key _ rfl h
    · rename_i h1 h2
      refine ⟨h, fun q => ?_⟩
      have hj : j = i := by omega
      subst hj
      cases v with
      | long x => exact h1 x h
      | double x => exact h2 x h
      | _ => simp [Value.category] at q
theorem st1_sub {L : List (Option Value)} {i : Nat} {v : Value} (j : Nat) (u : Value) (h : (j, u) ∈ pr 0 (st1 L i v)) : (j, u) ∈ (i, v) :: (pr 0 L).filter (fun q => !(q.1 == i) && !(q.1 + 1 == i && q.2.category == 2)) := by
  rw [mem_pr0, st1] at h
  by_cases hj : j = i
  · subst hj
    rw [List.getElem?_set] at h
    simp only [if_true] at h
    split at h
    · cases h; exact List.mem_cons_self
    · cases h
  · rw [List.getElem?_set_ne (Ne.symm hj)] at h
    obtain ⟨h1, h2⟩ := kl_at h
    refine List.mem_cons_of_mem _ (List.mem_filter.mpr ⟨mem_pr0.mpr h1, ?_⟩)
    simp only [Bool.and_eq_true, Bool.not_eq_true', beq_eq_false_iff_ne, ne_eq, Bool.and_eq_false_iff, hj, not_false_eq_true, true_and]
    by_cases h3 : j + 1 = i
    · exact Or.inr (fun h4 => h2 ⟨h3, h4⟩)
    · exact Or.inl h3
theorem st2_sub {L : List (Option Value)} {i : Nat} {v : Value} (j : Nat) (u : Value) (h : (j, u) ∈ pr 0 (st2 L i v)) : (j, u) ∈ (i, v) :: (pr 0 L).filter (fun q => !(q.1 == i) && (!(q.1 == i + 1) && !(q.1 + 1 == i && q.2.category == 2))) := by
  rw [mem_pr0, st2] at h
  by_cases hj : j = i
  · subst hj
    rw [List.getElem?_set] at h
    simp only [if_true] at h
    split at h
    · cases h; exact List.mem_cons_self
    · cases h
  · rw [List.getElem?_set_ne (Ne.symm hj)] at h
    by_cases hj2 : j = i + 1
    · subst hj2
      rw [List.getElem?_set] at h
      simp only [if_true] at h
      split at h <;> simp at h
    · rw [List.getElem?_set_ne (Ne.symm hj2)] at h
      obtain ⟨h1, h2⟩ := kl_at h
      refine List.mem_cons_of_mem _ (List.mem_filter.mpr ⟨mem_pr0.mpr h1, ?_⟩)
      simp only [Bool.and_eq_true, Bool.not_eq_true', beq_eq_false_iff_ne, ne_eq, Bool.and_eq_false_iff, hj, hj2, not_false_eq_true, true_and]
      by_cases h3 : j + 1 = i
      · exact Or.inr (fun h4 => h2 ⟨h3, h4⟩)
      · exact Or.inl h3
/-- what is no longer of use -/
def mk : List Bool → List (Option Value) → List (Option Value)
  | b :: bs, o :: l => (if b = true then o else none) :: mk bs l
  | _, _ => []
theorem mk_sub : ∀ (bs : List Bool) (L : List (Option Value)) (i j : Nat) (v : Value), (j, v) ∈ pr i (mk bs L) → (j, v) ∈ pr i L
  | [], L, i, j, v, h => by simp [mk, pr] at h
  | b :: bs, [], i, j, v, h => by simp [mk, pr] at h
  | b :: bs, o :: l, i, j, v, h => by
    cases b with
    | false =>
      have h1 : (j, v) ∈ pr (i + 1) (mk bs l) := by simpa [mk, pr] using h
      have h2 := mk_sub bs l (i + 1) j v h1
      cases o with
      | none => simpa [pr] using h2
      | some u => simp [pr]; exact Or.inr h2
    | true =>
      cases o with
      | none =>
        have h1 : (j, v) ∈ pr (i + 1) (mk bs l) := by simpa [mk, pr] using h
        simpa [pr] using mk_sub bs l (i + 1) j v h1
      | some u =>
        have h1 : (j, v) = (i, u) ∨ (j, v) ∈ pr (i + 1) (mk bs l) := by simpa [mk, pr] using h
        rcases h1 with h1 | h1
        · rw [h1]; simp [pr]
        · simp only [pr, List.mem_cons]; exact Or.inr (mk_sub bs l (i + 1) j v h1)
def vq (g : Gx) (p : Program) (e : Env) (R : Room) (s : State) (m : MethodId) (args : Array Value) (below : List Frame) (meth : Method) (c : Code) (w0 : Mm) (nL : Nat) (Q : State → Prop) (pc : Nat) (L : List (Option Value)) (st : List Value) (w : Mm) : Prop :=
  ∀ (H : Heap) (locs : List Loc) (ls : Array Slot), HRx g w H → va_S (fun q => g.2.1 ≤ q) s.heap H locs → lv_has ls nL (pr 0 L) → mono w0 w →
    W p g.1 e R s m args below meth c H locs (mlen w - mlen w0) (mslots w - mslots w0) Q (F0 m pc ls st)
abbrev Vt : Type := Nat → List (Option Value) → List Value → Mm → Prop
/-- V is what a run of the method y, with room for calls of depth d, must come through -/
def MachB (g : Gx) (y : MethodName) (cc : ByteArray) (nL : Nat) (d : Nat) (V : Vt) : Prop :=
  ∃ (p : Program) (e : Env) (R : Room) (s : State) (m : MethodId) (args : Array Value) (below : List Frame) (meth : Method) (c : Code) (w0 : Mm) (Q : State → Prop),
    V = vq g p e R s m args below meth c w0 nL Q ∧
    p.tables.exec = Jvm.exec ∧ c.code = cc ∧ c.maxLocals = nL ∧ s.vm.findClass y.cls = some m.cls ∧ Kn g s ∧ s.heap.size = g.2.1 + mlen w0 ∧ meth.name = y.name ∧ mlen w0 ≤ CAP ∧ mslots w0 ≤ SCAP ∧
    d + 1 ≤ R.frames ∧ 40 * (d + 1) ≤ R.locals ∧ R.cells = CAP - mlen w0 ∧ R.slots = SCAP - mslots w0
/-- ... to end with rv, wv -/
def Mach (g : Gx) (y : MethodName) (cc : ByteArray) (nL : Nat) (ret : Option FieldType) (d : Nat) (rv : Option Value) (wv : Mm) (V : Vt) : Prop :=
  ∃ (p : Program) (e : Env) (s : State) (m : MethodId) (args : Array Value) (below : List Frame) (meth : Method) (c : Code) (w0 : Mm),
    V = vq g p e (rmOf (d + 1) w0) s m args below meth c w0 nL (MQ below (Qcc g w0 rv wv) args s (mlen wv - mlen w0) (mslots wv - mslots w0) (fun q => g.2.1 ≤ q)) ∧
    p.tables.exec = Jvm.exec ∧ c.code = cc ∧ meth.sig.returnType = ret ∧ meth.locks = false ∧ c.maxLocals = nL ∧ s.vm.findClass y.cls = some m.cls ∧ Kn g s ∧ s.heap.size = g.2.1 + mlen w0 ∧ meth.name = y.name ∧ mlen w0 ≤ CAP ∧ mslots w0 ≤ SCAP
theorem Mach.b {g : Gx} {y : MethodName} {cc : ByteArray} {nL : Nat} {ret : Option FieldType} {d : Nat} {rv : Option Value} {wv : Mm} {V : Vt} (S : Mach g y cc nL ret d rv wv V) : MachB g y cc nL d V := by
  obtain ⟨p, e, s, m, args, below, meth, c, w0, h0, hx, hb, hr, hlk, hml, hown, hkn, hsz, hnm, hc1, hc2⟩ := S
  exact ⟨p, e, rmOf (d + 1) w0, s, m, args, below, meth, c, w0, _, h0, hx, hb, hml, hown, hkn, hsz, hnm, hc1, hc2, Nat.le_refl _, Nat.le_refl _, rfl, rfl⟩
section Rules
variable {g : Gx} {y : MethodName} {cc : ByteArray} {nL : Nat} {d : Nat} {V : Vt} {pc : Nat} {L : List (Option Value)} {st : List Value} {w : Mm}

theorem i_mask (S : MachB g y cc nL d V) (bs : List Bool) {L1 : List (Option Value)} (hL : mk bs L = L1) (k : V pc L1 st w) : V pc L st w := by
  obtain ⟨p, e, R, s, m, args, below, meth, c, w0, Q, rfl, hx, hb, hml, hown, hkn, hsz, hnm, hc1, hc2, hfr, hlo, hrc, hrs⟩ := S
  intro H locs ls hH hS hl hm
  subst hL
  exact k H locs ls hH hS (lv_mono hl (fun j v h => mk_sub bs L 0 j v h)) hm
theorem i_iconst (S : MachB g y cc nL d V) {n : Int} {v : Int32} (hd : decode cc pc = .ok (.iconst n, 1)) (hv : Int32.ofInt n = v) (k : V (pc + 1) L (.int v :: st) w) : V pc L st w := by
  obtain ⟨p, e, R, s, m, args, below, meth, c, w0, Q, rfl, hx, hb, hml, hown, hkn, hsz, hnm, hc1, hc2, hfr, hlo, hrc, hrs⟩ := S
  intro H locs ls hH hS hl hm
  exact lv_iconst hx hb hd hv (k H locs ls hH hS hl hm)
theorem i_bipush (S : MachB g y cc nL d V) {n : Int} {v : Int32} (hd : decode cc pc = .ok (.bipush n, 2)) (hv : (Int8.ofInt n).toInt32 = v) (k : V (pc + 2) L (.int v :: st) w) : V pc L st w := by
  obtain ⟨p, e, R, s, m, args, below, meth, c, w0, Q, rfl, hx, hb, hml, hown, hkn, hsz, hnm, hc1, hc2, hfr, hlo, hrc, hrs⟩ := S
  intro H locs ls hH hS hl hm
  exact lv_bipush hx hb hd hv (k H locs ls hH hS hl hm)
theorem i_sipush (S : MachB g y cc nL d V) {n : Int} {v : Int32} (hd : decode cc pc = .ok (.sipush n, 3)) (hv : (Int16.ofInt n).toInt32 = v) (k : V (pc + 3) L (.int v :: st) w) : V pc L st w := by
  obtain ⟨p, e, R, s, m, args, below, meth, c, w0, Q, rfl, hx, hb, hml, hown, hkn, hsz, hnm, hc1, hc2, hfr, hlo, hrc, hrs⟩ := S
  intro H locs ls hH hS hl hm
  exact lv_sipush hx hb hd hv (k H locs ls hH hS hl hm)
theorem i_lconst (S : MachB g y cc nL d V) {n : Fin 2} {v : Int64} (hd : decode cc pc = .ok (.lconst n, 1)) (hv : Int64.ofNat (n : Nat) = v) (k : V (pc + 1) L (.long v :: st) w) : V pc L st w := by
  obtain ⟨p, e, R, s, m, args, below, meth, c, w0, Q, rfl, hx, hb, hml, hown, hkn, hsz, hnm, hc1, hc2, hfr, hlo, hrc, hrs⟩ := S
  intro H locs ls hH hS hl hm
  exact lv_lconst hx hb hd hv (k H locs ls hH hS hl hm)
theorem i_null (S : MachB g y cc nL d V) (hd : decode cc pc = .ok (.aconst_null, 1)) (k : V (pc + 1) L (.null :: st) w) : V pc L st w := by
  obtain ⟨p, e, R, s, m, args, below, meth, c, w0, Q, rfl, hx, hb, hml, hown, hkn, hsz, hnm, hc1, hc2, hfr, hlo, hrc, hrs⟩ := S
  intro H locs ls hH hS hl hm
  exact lv_null hx hb hd (k H locs ls hH hS hl hm)
theorem i_ldc (S : MachB g y cc nL d V) {i : Nat} {v : Int32} (hw : Jvm.Cond.constant y.cls i v ∈ wtbl) (hd : decode cc pc = .ok (.ldc i, 2)) (k : V (pc + 2) L (.int v :: st) w) : V pc L st w := by
  obtain ⟨p, e, R, s, m, args, below, meth, c, w0, Q, rfl, hx, hb, hml, hown, hkn, hsz, hnm, hc1, hc2, hfr, hlo, hrc, hrs⟩ := S
  intro H locs ls hH hS hl hm
  exact lv_ldc hx hb hown (hkn.use hw) hd (k H locs ls hH hS hl hm)
theorem i_ldcw (S : MachB g y cc nL d V) {i : Nat} {v : Int32} (hw : Jvm.Cond.constant y.cls i v ∈ wtbl) (hd : decode cc pc = .ok (.ldc_w i, 3)) (k : V (pc + 3) L (.int v :: st) w) : V pc L st w := by
  obtain ⟨p, e, R, s, m, args, below, meth, c, w0, Q, rfl, hx, hb, hml, hown, hkn, hsz, hnm, hc1, hc2, hfr, hlo, hrc, hrs⟩ := S
  intro H locs ls hH hS hl hm
  exact lv_ldcw hx hb hown (hkn.use hw) hd (k H locs ls hH hS hl hm)
theorem i_ldc2 (S : MachB g y cc nL d V) {i : Nat} {v : Int64} (hw : Jvm.Cond.constantLong y.cls i v ∈ wtbl) (hd : decode cc pc = .ok (.ldc2_w i, 3)) (k : V (pc + 3) L (.long v :: st) w) : V pc L st w := by
  obtain ⟨p, e, R, s, m, args, below, meth, c, w0, Q, rfl, hx, hb, hml, hown, hkn, hsz, hnm, hc1, hc2, hfr, hlo, hrc, hrs⟩ := S
  intro H locs ls hH hS hl hm
  exact lv_ldc2 hx hb hown (hkn.use hw) hd (k H locs ls hH hS hl hm)
theorem i_iload_n (S : MachB g y cc nL d V) {k : Fin 4} {x : Int32} (hd : decode cc pc = .ok (.iload_n k, 1)) (hi : L[(k : Nat)]? = some (some (.int x))) (k : V (pc + 1) L (.int x :: st) w) : V pc L st w := by
  obtain ⟨p, e, R, s, m, args, below, meth, c, w0, Q, rfl, hx, hb, hml, hown, hkn, hsz, hnm, hc1, hc2, hfr, hlo, hrc, hrs⟩ := S
  intro H locs ls hH hS hl hm
  exact lv_iload_n hx hb hd rfl (lv_of hl hi) (k H locs ls hH hS hl hm)
theorem i_iload (S : MachB g y cc nL d V) {i : Nat} {x : Int32} (hd : decode cc pc = .ok (.iload i, 2)) (hi : L[i]? = some (some (.int x))) (k : V (pc + 2) L (.int x :: st) w) : V pc L st w := by
  obtain ⟨p, e, R, s, m, args, below, meth, c, w0, Q, rfl, hx, hb, hml, hown, hkn, hsz, hnm, hc1, hc2, hfr, hlo, hrc, hrs⟩ := S
  intro H locs ls hH hS hl hm
  exact lv_iload hx hb hd (lv_of hl hi) (k H locs ls hH hS hl hm)
theorem i_istore_n (S : MachB g y cc nL d V) {i : Fin 4} {x : Int32} {L1 : List (Option Value)} (hd : decode cc pc = .ok (.istore_n i, 1)) (hn : (i : Nat) < nL) (hL : st1 L i (.int x) = L1) (k : V (pc + 1) L1 st w) : V pc L (.int x :: st) w := by
  obtain ⟨p, e, R, s, m, args, below, meth, c, w0, Q, rfl, hx, hb, hml, hown, hkn, hsz, hnm, hc1, hc2, hfr, hlo, hrc, hrs⟩ := S
  intro H locs ls hH hS hl hm
  subst hL
  exact lv_istore_n hx hb hd rfl hl hn rfl (fun ls1 h1 => k H locs ls1 hH hS (lv_mono h1 st1_sub) hm)
theorem i_istore (S : MachB g y cc nL d V) {i : Nat} {x : Int32} {L1 : List (Option Value)} (hd : decode cc pc = .ok (.istore i, 2)) (hn : (i : Nat) < nL) (hL : st1 L i (.int x) = L1) (k : V (pc + 2) L1 st w) : V pc L (.int x :: st) w := by
  obtain ⟨p, e, R, s, m, args, below, meth, c, w0, Q, rfl, hx, hb, hml, hown, hkn, hsz, hnm, hc1, hc2, hfr, hlo, hrc, hrs⟩ := S
  intro H locs ls hH hS hl hm
  subst hL
  exact lv_istore hx hb hd hl hn rfl (fun ls1 h1 => k H locs ls1 hH hS (lv_mono h1 st1_sub) hm)
theorem i_lload_n (S : MachB g y cc nL d V) {k : Fin 4} {x : Int64} (hd : decode cc pc = .ok (.lload_n k, 1)) (hi : L[(k : Nat)]? = some (some (.long x))) (k : V (pc + 1) L (.long x :: st) w) : V pc L st w := by
  obtain ⟨p, e, R, s, m, args, below, meth, c, w0, Q, rfl, hx, hb, hml, hown, hkn, hsz, hnm, hc1, hc2, hfr, hlo, hrc, hrs⟩ := S
  intro H locs ls hH hS hl hm
  exact lv_lload_n hx hb hd rfl (lv_of hl hi) (k H locs ls hH hS hl hm)
theorem i_lload (S : MachB g y cc nL d V) {i : Nat} {x : Int64} (hd : decode cc pc = .ok (.lload i, 2)) (hi : L[i]? = some (some (.long x))) (k : V (pc + 2) L (.long x :: st) w) : V pc L st w := by
  obtain ⟨p, e, R, s, m, args, below, meth, c, w0, Q, rfl, hx, hb, hml, hown, hkn, hsz, hnm, hc1, hc2, hfr, hlo, hrc, hrs⟩ := S
  intro H locs ls hH hS hl hm
  exact lv_lload hx hb hd (lv_of hl hi) (k H locs ls hH hS hl hm)
theorem i_lstore_n (S : MachB g y cc nL d V) {i : Fin 4} {x : Int64} {L1 : List (Option Value)} (hd : decode cc pc = .ok (.lstore_n i, 1)) (hn : (i : Nat) + 1 < nL) (hL : st2 L i (.long x) = L1) (k : V (pc + 1) L1 st w) : V pc L (.long x :: st) w := by
  obtain ⟨p, e, R, s, m, args, below, meth, c, w0, Q, rfl, hx, hb, hml, hown, hkn, hsz, hnm, hc1, hc2, hfr, hlo, hrc, hrs⟩ := S
  intro H locs ls hH hS hl hm
  subst hL
  exact lv_lstore_n hx hb hd rfl hl hn rfl (fun ls1 h1 => k H locs ls1 hH hS (lv_mono h1 st2_sub) hm)
theorem i_lstore (S : MachB g y cc nL d V) {i : Nat} {x : Int64} {L1 : List (Option Value)} (hd : decode cc pc = .ok (.lstore i, 2)) (hn : (i : Nat) + 1 < nL) (hL : st2 L i (.long x) = L1) (k : V (pc + 2) L1 st w) : V pc L (.long x :: st) w := by
  obtain ⟨p, e, R, s, m, args, below, meth, c, w0, Q, rfl, hx, hb, hml, hown, hkn, hsz, hnm, hc1, hc2, hfr, hlo, hrc, hrs⟩ := S
  intro H locs ls hH hS hl hm
  subst hL
  exact lv_lstore hx hb hd hl hn rfl (fun ls1 h1 => k H locs ls1 hH hS (lv_mono h1 st2_sub) hm)
theorem i_aload_n (S : MachB g y cc nL d V) {k : Fin 4} {x : Nat} (hd : decode cc pc = .ok (.aload_n k, 1)) (hi : L[(k : Nat)]? = some (some (.ref x))) (k : V (pc + 1) L (.ref x :: st) w) : V pc L st w := by
  obtain ⟨p, e, R, s, m, args, below, meth, c, w0, Q, rfl, hx, hb, hml, hown, hkn, hsz, hnm, hc1, hc2, hfr, hlo, hrc, hrs⟩ := S
  intro H locs ls hH hS hl hm
  exact lv_aload_n hx hb hd rfl (lv_of hl hi) (k H locs ls hH hS hl hm)
theorem i_aload (S : MachB g y cc nL d V) {i : Nat} {x : Nat} (hd : decode cc pc = .ok (.aload i, 2)) (hi : L[i]? = some (some (.ref x))) (k : V (pc + 2) L (.ref x :: st) w) : V pc L st w := by
  obtain ⟨p, e, R, s, m, args, below, meth, c, w0, Q, rfl, hx, hb, hml, hown, hkn, hsz, hnm, hc1, hc2, hfr, hlo, hrc, hrs⟩ := S
  intro H locs ls hH hS hl hm
  exact lv_aload hx hb hd (lv_of hl hi) (k H locs ls hH hS hl hm)
theorem i_astore_n (S : MachB g y cc nL d V) {i : Fin 4} {x : Nat} {L1 : List (Option Value)} (hd : decode cc pc = .ok (.astore_n i, 1)) (hn : (i : Nat) < nL) (hL : st1 L i (.ref x) = L1) (k : V (pc + 1) L1 st w) : V pc L (.ref x :: st) w := by
  obtain ⟨p, e, R, s, m, args, below, meth, c, w0, Q, rfl, hx, hb, hml, hown, hkn, hsz, hnm, hc1, hc2, hfr, hlo, hrc, hrs⟩ := S
  intro H locs ls hH hS hl hm
  subst hL
  exact lv_astore_n hx hb hd rfl hl hn rfl (fun ls1 h1 => k H locs ls1 hH hS (lv_mono h1 st1_sub) hm)
theorem i_astore (S : MachB g y cc nL d V) {i : Nat} {x : Nat} {L1 : List (Option Value)} (hd : decode cc pc = .ok (.astore i, 2)) (hn : (i : Nat) < nL) (hL : st1 L i (.ref x) = L1) (k : V (pc + 2) L1 st w) : V pc L (.ref x :: st) w := by
  obtain ⟨p, e, R, s, m, args, below, meth, c, w0, Q, rfl, hx, hb, hml, hown, hkn, hsz, hnm, hc1, hc2, hfr, hlo, hrc, hrs⟩ := S
  intro H locs ls hH hS hl hm
  subst hL
  exact lv_astore hx hb hd hl hn rfl (fun ls1 h1 => k H locs ls1 hH hS (lv_mono h1 st1_sub) hm)
theorem i_aload_nN (S : MachB g y cc nL d V) {k : Fin 4} (hd : decode cc pc = .ok (.aload_n k, 1)) (hi : L[(k : Nat)]? = some (some .null)) (k : V (pc + 1) L (.null :: st) w) : V pc L st w := by
  obtain ⟨p, e, R, s, m, args, below, meth, c, w0, Q, rfl, hx, hb, hml, hown, hkn, hsz, hnm, hc1, hc2, hfr, hlo, hrc, hrs⟩ := S
  intro H locs ls hH hS hl hm
  exact lv_aload_nN hx hb hd rfl (lv_of hl hi) (k H locs ls hH hS hl hm)
theorem i_aloadN (S : MachB g y cc nL d V) {i : Nat} (hd : decode cc pc = .ok (.aload i, 2)) (hi : L[i]? = some (some .null)) (k : V (pc + 2) L (.null :: st) w) : V pc L st w := by
  obtain ⟨p, e, R, s, m, args, below, meth, c, w0, Q, rfl, hx, hb, hml, hown, hkn, hsz, hnm, hc1, hc2, hfr, hlo, hrc, hrs⟩ := S
  intro H locs ls hH hS hl hm
  exact lv_aloadN hx hb hd (lv_of hl hi) (k H locs ls hH hS hl hm)
theorem i_astore_nN (S : MachB g y cc nL d V) {i : Fin 4} {L1 : List (Option Value)} (hd : decode cc pc = .ok (.astore_n i, 1)) (hn : (i : Nat) < nL) (hL : st1 L i .null = L1) (k : V (pc + 1) L1 st w) : V pc L (.null :: st) w := by
  obtain ⟨p, e, R, s, m, args, below, meth, c, w0, Q, rfl, hx, hb, hml, hown, hkn, hsz, hnm, hc1, hc2, hfr, hlo, hrc, hrs⟩ := S
  intro H locs ls hH hS hl hm
  subst hL
  exact lv_astore_nN hx hb hd rfl hl hn rfl (fun ls1 h1 => k H locs ls1 hH hS (lv_mono h1 st1_sub) hm)
theorem i_astoreN (S : MachB g y cc nL d V) {i : Nat} {L1 : List (Option Value)} (hd : decode cc pc = .ok (.astore i, 2)) (hn : (i : Nat) < nL) (hL : st1 L i .null = L1) (k : V (pc + 2) L1 st w) : V pc L (.null :: st) w := by
  obtain ⟨p, e, R, s, m, args, below, meth, c, w0, Q, rfl, hx, hb, hml, hown, hkn, hsz, hnm, hc1, hc2, hfr, hlo, hrc, hrs⟩ := S
  intro H locs ls hH hS hl hm
  subst hL
  exact lv_astoreN hx hb hd hl hn rfl (fun ls1 h1 => k H locs ls1 hH hS (lv_mono h1 st1_sub) hm)
theorem i_iinc (S : MachB g y cc nL d V) {i : Nat} {n : Int} {x v : Int32} {L1 : List (Option Value)} (hd : decode cc pc = .ok (.iinc i n, 3)) (hi : L[i]? = some (some (.int x))) (hv : Int32.ofInt n = v) (hn : i < nL) (hL : st1 L i (.int (x + v)) = L1) (k : V (pc + 3) L1 st w) : V pc L st w := by
  obtain ⟨p, e, R, s, m, args, below, meth, c, w0, Q, rfl, hx, hb, hml, hown, hkn, hsz, hnm, hc1, hc2, hfr, hlo, hrc, hrs⟩ := S
  intro H locs ls hH hS hl hm
  subst hL
  subst hv
  obtain ⟨q, hq⟩ := List.getElem?_of_mem (mem_pr0.mpr hi)
  exact lv_iinc hx hb hd hl hq rfl hn rfl (fun ls1 h1 => k H locs ls1 hH hS (lv_mono h1 st1_sub) hm)
theorem i_iadd (S : MachB g y cc nL d V) {x y : Int32} (hd : decode cc pc = .ok (.iadd, 1)) (k : V (pc + 1) L (.int (x + y) :: st) w) : V pc L (.int y :: .int x :: st) w := by
  obtain ⟨p, e, R, s, m, args, below, meth, c, w0, Q, rfl, hx, hb, hml, hown, hkn, hsz, hnm, hc1, hc2, hfr, hlo, hrc, hrs⟩ := S
  intro H locs ls hH hS hl hm
  exact lv_iadd hx hb hd (k H locs ls hH hS hl hm)
theorem i_isub (S : MachB g y cc nL d V) {x y : Int32} (hd : decode cc pc = .ok (.isub, 1)) (k : V (pc + 1) L (.int (x - y) :: st) w) : V pc L (.int y :: .int x :: st) w := by
  obtain ⟨p, e, R, s, m, args, below, meth, c, w0, Q, rfl, hx, hb, hml, hown, hkn, hsz, hnm, hc1, hc2, hfr, hlo, hrc, hrs⟩ := S
  intro H locs ls hH hS hl hm
  exact lv_isub hx hb hd (k H locs ls hH hS hl hm)
theorem i_imul (S : MachB g y cc nL d V) {x y : Int32} (hd : decode cc pc = .ok (.imul, 1)) (k : V (pc + 1) L (.int (x * y) :: st) w) : V pc L (.int y :: .int x :: st) w := by
  obtain ⟨p, e, R, s, m, args, below, meth, c, w0, Q, rfl, hx, hb, hml, hown, hkn, hsz, hnm, hc1, hc2, hfr, hlo, hrc, hrs⟩ := S
  intro H locs ls hH hS hl hm
  exact lv_imul hx hb hd (k H locs ls hH hS hl hm)
theorem i_iand (S : MachB g y cc nL d V) {x y : Int32} (hd : decode cc pc = .ok (.iand, 1)) (k : V (pc + 1) L (.int (x &&& y) :: st) w) : V pc L (.int y :: .int x :: st) w := by
  obtain ⟨p, e, R, s, m, args, below, meth, c, w0, Q, rfl, hx, hb, hml, hown, hkn, hsz, hnm, hc1, hc2, hfr, hlo, hrc, hrs⟩ := S
  intro H locs ls hH hS hl hm
  exact lv_iand hx hb hd (k H locs ls hH hS hl hm)
theorem i_ior (S : MachB g y cc nL d V) {x y : Int32} (hd : decode cc pc = .ok (.ior, 1)) (k : V (pc + 1) L (.int (x ||| y) :: st) w) : V pc L (.int y :: .int x :: st) w := by
  obtain ⟨p, e, R, s, m, args, below, meth, c, w0, Q, rfl, hx, hb, hml, hown, hkn, hsz, hnm, hc1, hc2, hfr, hlo, hrc, hrs⟩ := S
  intro H locs ls hH hS hl hm
  exact lv_ior hx hb hd (k H locs ls hH hS hl hm)
theorem i_ixor (S : MachB g y cc nL d V) {x y : Int32} (hd : decode cc pc = .ok (.ixor, 1)) (k : V (pc + 1) L (.int (x ^^^ y) :: st) w) : V pc L (.int y :: .int x :: st) w := by
  obtain ⟨p, e, R, s, m, args, below, meth, c, w0, Q, rfl, hx, hb, hml, hown, hkn, hsz, hnm, hc1, hc2, hfr, hlo, hrc, hrs⟩ := S
  intro H locs ls hH hS hl hm
  exact lv_ixor hx hb hd (k H locs ls hH hS hl hm)
theorem i_ishl (S : MachB g y cc nL d V) {x y : Int32} (hd : decode cc pc = .ok (.ishl, 1)) (k : V (pc + 1) L (.int (x <<< (y &&& 31)) :: st) w) : V pc L (.int y :: .int x :: st) w := by
  obtain ⟨p, e, R, s, m, args, below, meth, c, w0, Q, rfl, hx, hb, hml, hown, hkn, hsz, hnm, hc1, hc2, hfr, hlo, hrc, hrs⟩ := S
  intro H locs ls hH hS hl hm
  exact lv_ishl hx hb hd (k H locs ls hH hS hl hm)
theorem i_ishr (S : MachB g y cc nL d V) {x y : Int32} (hd : decode cc pc = .ok (.ishr, 1)) (k : V (pc + 1) L (.int (x >>> (y &&& 31)) :: st) w) : V pc L (.int y :: .int x :: st) w := by
  obtain ⟨p, e, R, s, m, args, below, meth, c, w0, Q, rfl, hx, hb, hml, hown, hkn, hsz, hnm, hc1, hc2, hfr, hlo, hrc, hrs⟩ := S
  intro H locs ls hH hS hl hm
  exact lv_ishr hx hb hd (k H locs ls hH hS hl hm)
theorem i_ladd (S : MachB g y cc nL d V) {x y : Int64} (hd : decode cc pc = .ok (.ladd, 1)) (k : V (pc + 1) L (.long (x + y) :: st) w) : V pc L (.long y :: .long x :: st) w := by
  obtain ⟨p, e, R, s, m, args, below, meth, c, w0, Q, rfl, hx, hb, hml, hown, hkn, hsz, hnm, hc1, hc2, hfr, hlo, hrc, hrs⟩ := S
  intro H locs ls hH hS hl hm
  exact lv_ladd hx hb hd (k H locs ls hH hS hl hm)
theorem i_lsub (S : MachB g y cc nL d V) {x y : Int64} (hd : decode cc pc = .ok (.lsub, 1)) (k : V (pc + 1) L (.long (x - y) :: st) w) : V pc L (.long y :: .long x :: st) w := by
  obtain ⟨p, e, R, s, m, args, below, meth, c, w0, Q, rfl, hx, hb, hml, hown, hkn, hsz, hnm, hc1, hc2, hfr, hlo, hrc, hrs⟩ := S
  intro H locs ls hH hS hl hm
  exact lv_lsub hx hb hd (k H locs ls hH hS hl hm)
theorem i_lmul (S : MachB g y cc nL d V) {x y : Int64} (hd : decode cc pc = .ok (.lmul, 1)) (k : V (pc + 1) L (.long (x * y) :: st) w) : V pc L (.long y :: .long x :: st) w := by
  obtain ⟨p, e, R, s, m, args, below, meth, c, w0, Q, rfl, hx, hb, hml, hown, hkn, hsz, hnm, hc1, hc2, hfr, hlo, hrc, hrs⟩ := S
  intro H locs ls hH hS hl hm
  exact lv_lmul hx hb hd (k H locs ls hH hS hl hm)
theorem i_land (S : MachB g y cc nL d V) {x y : Int64} (hd : decode cc pc = .ok (.land, 1)) (k : V (pc + 1) L (.long (x &&& y) :: st) w) : V pc L (.long y :: .long x :: st) w := by
  obtain ⟨p, e, R, s, m, args, below, meth, c, w0, Q, rfl, hx, hb, hml, hown, hkn, hsz, hnm, hc1, hc2, hfr, hlo, hrc, hrs⟩ := S
  intro H locs ls hH hS hl hm
  exact lv_land hx hb hd (k H locs ls hH hS hl hm)
theorem i_lor (S : MachB g y cc nL d V) {x y : Int64} (hd : decode cc pc = .ok (.lor, 1)) (k : V (pc + 1) L (.long (x ||| y) :: st) w) : V pc L (.long y :: .long x :: st) w := by
  obtain ⟨p, e, R, s, m, args, below, meth, c, w0, Q, rfl, hx, hb, hml, hown, hkn, hsz, hnm, hc1, hc2, hfr, hlo, hrc, hrs⟩ := S
  intro H locs ls hH hS hl hm
  exact lv_lor hx hb hd (k H locs ls hH hS hl hm)
theorem i_lxor (S : MachB g y cc nL d V) {x y : Int64} (hd : decode cc pc = .ok (.lxor, 1)) (k : V (pc + 1) L (.long (x ^^^ y) :: st) w) : V pc L (.long y :: .long x :: st) w := by
  obtain ⟨p, e, R, s, m, args, below, meth, c, w0, Q, rfl, hx, hb, hml, hown, hkn, hsz, hnm, hc1, hc2, hfr, hlo, hrc, hrs⟩ := S
  intro H locs ls hH hS hl hm
  exact lv_lxor hx hb hd (k H locs ls hH hS hl hm)
theorem i_idiv (S : MachB g y cc nL d V) {x y : Int32} (hd : decode cc pc = .ok (.idiv, 1)) (hne : ¬ y = 0) (k : V (pc + 1) L (.int (x / y) :: st) w) : V pc L (.int y :: .int x :: st) w := by
  obtain ⟨p, e, R, s, m, args, below, meth, c, w0, Q, rfl, hx, hb, hml, hown, hkn, hsz, hnm, hc1, hc2, hfr, hlo, hrc, hrs⟩ := S
  intro H locs ls hH hS hl hm
  exact lv_idiv hx hb hd hne (k H locs ls hH hS hl hm)
theorem i_irem (S : MachB g y cc nL d V) {x y : Int32} (hd : decode cc pc = .ok (.irem, 1)) (hne : ¬ y = 0) (k : V (pc + 1) L (.int (x - x / y * y) :: st) w) : V pc L (.int y :: .int x :: st) w := by
  obtain ⟨p, e, R, s, m, args, below, meth, c, w0, Q, rfl, hx, hb, hml, hown, hkn, hsz, hnm, hc1, hc2, hfr, hlo, hrc, hrs⟩ := S
  intro H locs ls hH hS hl hm
  exact lv_irem hx hb hd hne (k H locs ls hH hS hl hm)
theorem i_iushr (S : MachB g y cc nL d V) {x y : Int32} (hd : decode cc pc = .ok (.iushr, 1)) (k : V (pc + 1) L (.int ((x.toUInt32 >>> (y.toUInt32 &&& Int32.toUInt32 31)).toInt32) :: st) w) : V pc L (.int y :: .int x :: st) w := by
  obtain ⟨p, e, R, s, m, args, below, meth, c, w0, Q, rfl, hx, hb, hml, hown, hkn, hsz, hnm, hc1, hc2, hfr, hlo, hrc, hrs⟩ := S
  intro H locs ls hH hS hl hm
  exact lv_iushr hx hb hd rfl (k H locs ls hH hS hl hm)
theorem i_lshl (S : MachB g y cc nL d V) {x : Int64} {y1 : Int32} (hd : decode cc pc = .ok (.lshl, 1)) (k : V (pc + 1) L (.long (x <<< (y1.toInt64 &&& 63)) :: st) w) : V pc L (.int y1 :: .long x :: st) w := by
  obtain ⟨p, e, R, s, m, args, below, meth, c, w0, Q, rfl, hx, hb, hml, hown, hkn, hsz, hnm, hc1, hc2, hfr, hlo, hrc, hrs⟩ := S
  intro H locs ls hH hS hl hm
  exact lv_lshl hx hb hd rfl (k H locs ls hH hS hl hm)
theorem i_lshr (S : MachB g y cc nL d V) {x : Int64} {y1 : Int32} (hd : decode cc pc = .ok (.lshr, 1)) (k : V (pc + 1) L (.long (x >>> (y1.toInt64 &&& 63)) :: st) w) : V pc L (.int y1 :: .long x :: st) w := by
  obtain ⟨p, e, R, s, m, args, below, meth, c, w0, Q, rfl, hx, hb, hml, hown, hkn, hsz, hnm, hc1, hc2, hfr, hlo, hrc, hrs⟩ := S
  intro H locs ls hH hS hl hm
  exact lv_lshr hx hb hd rfl (k H locs ls hH hS hl hm)
theorem i_i2l (S : MachB g y cc nL d V) {x : Int32} (hd : decode cc pc = .ok (.i2l, 1)) (k : V (pc + 1) L (.long x.toInt64 :: st) w) : V pc L (.int x :: st) w := by
  obtain ⟨p, e, R, s, m, args, below, meth, c, w0, Q, rfl, hx, hb, hml, hown, hkn, hsz, hnm, hc1, hc2, hfr, hlo, hrc, hrs⟩ := S
  intro H locs ls hH hS hl hm
  exact lv_i2l hx hb hd rfl (k H locs ls hH hS hl hm)
theorem i_i2b (S : MachB g y cc nL d V) {x : Int32} (hd : decode cc pc = .ok (.i2b, 1)) (k : V (pc + 1) L (.int x.toInt8.toInt32 :: st) w) : V pc L (.int x :: st) w := by
  obtain ⟨p, e, R, s, m, args, below, meth, c, w0, Q, rfl, hx, hb, hml, hown, hkn, hsz, hnm, hc1, hc2, hfr, hlo, hrc, hrs⟩ := S
  intro H locs ls hH hS hl hm
  exact lv_i2b hx hb hd rfl (k H locs ls hH hS hl hm)
theorem i_dup (S : MachB g y cc nL d V) {a : Value} (hd : decode cc pc = .ok (.dup, 1)) (ha : a.category = 1) (k : V (pc + 1) L (a :: a :: st) w) : V pc L (a :: st) w := by
  obtain ⟨p, e, R, s, m, args, below, meth, c, w0, Q, rfl, hx, hb, hml, hown, hkn, hsz, hnm, hc1, hc2, hfr, hlo, hrc, hrs⟩ := S
  intro H locs ls hH hS hl hm
  exact lv_dup hx hb hd ha (k H locs ls hH hS hl hm)
theorem i_dup_x1 (S : MachB g y cc nL d V) {a b : Value} (hd : decode cc pc = .ok (.dup_x1, 1)) (ha : a.category = 1) (hb1 : b.category = 1) (k : V (pc + 1) L (a :: b :: a :: st) w) : V pc L (a :: b :: st) w := by
  obtain ⟨p, e, R, s, m, args, below, meth, c, w0, Q, rfl, hx, hb, hml, hown, hkn, hsz, hnm, hc1, hc2, hfr, hlo, hrc, hrs⟩ := S
  intro H locs ls hH hS hl hm
  exact lv_dup_x1 hx hb hd ha hb1 (k H locs ls hH hS hl hm)
theorem i_dup2 (S : MachB g y cc nL d V) {a b : Value} (hd : decode cc pc = .ok (.dup2, 1)) (ha : a.category = 1) (hb1 : b.category = 1) (k : V (pc + 1) L (a :: b :: a :: b :: st) w) : V pc L (a :: b :: st) w := by
  obtain ⟨p, e, R, s, m, args, below, meth, c, w0, Q, rfl, hx, hb, hml, hown, hkn, hsz, hnm, hc1, hc2, hfr, hlo, hrc, hrs⟩ := S
  intro H locs ls hH hS hl hm
  exact lv_dup2_11 hx hb hd ha hb1 (k H locs ls hH hS hl hm)
theorem i_pop (S : MachB g y cc nL d V) {a : Value} (hd : decode cc pc = .ok (.pop, 1)) (ha : a.category = 1) (k : V (pc + 1) L st w) : V pc L (a :: st) w := by
  obtain ⟨p, e, R, s, m, args, below, meth, c, w0, Q, rfl, hx, hb, hml, hown, hkn, hsz, hnm, hc1, hc2, hfr, hlo, hrc, hrs⟩ := S
  intro H locs ls hH hS hl hm
  exact lv_pop hx hb hd ha (k H locs ls hH hS hl hm)
theorem i_if_eq (S : MachB g y cc nL d V) {x : Int32} {off : Int} {tgt : Nat} (hd : decode cc pc = .ok (.ifCond .eq off, 3)) (ht : (pc : Int) + off = (tgt : Int)) (kt : x = 0 → V tgt L st w) (kf : ¬ x = 0 → V (pc + 3) L st w) : V pc L (.int x :: st) w := by
  obtain ⟨p, e, R, s, m, args, below, meth, c, w0, Q, rfl, hx, hb, hml, hown, hkn, hsz, hnm, hc1, hc2, hfr, hlo, hrc, hrs⟩ := S
  intro H locs ls hH hS hl hm
  exact lv_if_eq hx hb hd ht (fun q => kt q H locs ls hH hS hl hm) (fun q => kf q H locs ls hH hS hl hm)
theorem i_icmp_eq (S : MachB g y cc nL d V) {x y1 : Int32} {off : Int} {tgt : Nat} (hd : decode cc pc = .ok (.if_icmp .eq off, 3)) (ht : (pc : Int) + off = (tgt : Int)) (kt : x = y1 → V tgt L st w) (kf : ¬ x = y1 → V (pc + 3) L st w) : V pc L (.int y1 :: .int x :: st) w := by
  obtain ⟨p, e, R, s, m, args, below, meth, c, w0, Q, rfl, hx, hb, hml, hown, hkn, hsz, hnm, hc1, hc2, hfr, hlo, hrc, hrs⟩ := S
  intro H locs ls hH hS hl hm
  exact lv_icmp_eq hx hb hd ht (fun q => kt q H locs ls hH hS hl hm) (fun q => kf q H locs ls hH hS hl hm)
theorem i_if_ne (S : MachB g y cc nL d V) {x : Int32} {off : Int} {tgt : Nat} (hd : decode cc pc = .ok (.ifCond .ne off, 3)) (ht : (pc : Int) + off = (tgt : Int)) (kt : ¬ x = 0 → V tgt L st w) (kf : x = 0 → V (pc + 3) L st w) : V pc L (.int x :: st) w := by
  obtain ⟨p, e, R, s, m, args, below, meth, c, w0, Q, rfl, hx, hb, hml, hown, hkn, hsz, hnm, hc1, hc2, hfr, hlo, hrc, hrs⟩ := S
  intro H locs ls hH hS hl hm
  exact lv_if_ne hx hb hd ht (fun q => kt q H locs ls hH hS hl hm) (fun q => kf q H locs ls hH hS hl hm)
theorem i_icmp_ne (S : MachB g y cc nL d V) {x y1 : Int32} {off : Int} {tgt : Nat} (hd : decode cc pc = .ok (.if_icmp .ne off, 3)) (ht : (pc : Int) + off = (tgt : Int)) (kt : ¬ x = y1 → V tgt L st w) (kf : x = y1 → V (pc + 3) L st w) : V pc L (.int y1 :: .int x :: st) w := by
  obtain ⟨p, e, R, s, m, args, below, meth, c, w0, Q, rfl, hx, hb, hml, hown, hkn, hsz, hnm, hc1, hc2, hfr, hlo, hrc, hrs⟩ := S
  intro H locs ls hH hS hl hm
  exact lv_icmp_ne hx hb hd ht (fun q => kt q H locs ls hH hS hl hm) (fun q => kf q H locs ls hH hS hl hm)
theorem i_if_lt (S : MachB g y cc nL d V) {x : Int32} {off : Int} {tgt : Nat} (hd : decode cc pc = .ok (.ifCond .lt off, 3)) (ht : (pc : Int) + off = (tgt : Int)) (kt : x < 0 → V tgt L st w) (kf : ¬ x < 0 → V (pc + 3) L st w) : V pc L (.int x :: st) w := by
  obtain ⟨p, e, R, s, m, args, below, meth, c, w0, Q, rfl, hx, hb, hml, hown, hkn, hsz, hnm, hc1, hc2, hfr, hlo, hrc, hrs⟩ := S
  intro H locs ls hH hS hl hm
  exact lv_if_lt hx hb hd ht (fun q => kt q H locs ls hH hS hl hm) (fun q => kf q H locs ls hH hS hl hm)
theorem i_icmp_lt (S : MachB g y cc nL d V) {x y1 : Int32} {off : Int} {tgt : Nat} (hd : decode cc pc = .ok (.if_icmp .lt off, 3)) (ht : (pc : Int) + off = (tgt : Int)) (kt : x < y1 → V tgt L st w) (kf : ¬ x < y1 → V (pc + 3) L st w) : V pc L (.int y1 :: .int x :: st) w := by
  obtain ⟨p, e, R, s, m, args, below, meth, c, w0, Q, rfl, hx, hb, hml, hown, hkn, hsz, hnm, hc1, hc2, hfr, hlo, hrc, hrs⟩ := S
  intro H locs ls hH hS hl hm
  exact lv_icmp_lt hx hb hd ht (fun q => kt q H locs ls hH hS hl hm) (fun q => kf q H locs ls hH hS hl hm)
theorem i_if_ge (S : MachB g y cc nL d V) {x : Int32} {off : Int} {tgt : Nat} (hd : decode cc pc = .ok (.ifCond .ge off, 3)) (ht : (pc : Int) + off = (tgt : Int)) (kt : 0 ≤ x → V tgt L st w) (kf : ¬ 0 ≤ x → V (pc + 3) L st w) : V pc L (.int x :: st) w := by
  obtain ⟨p, e, R, s, m, args, below, meth, c, w0, Q, rfl, hx, hb, hml, hown, hkn, hsz, hnm, hc1, hc2, hfr, hlo, hrc, hrs⟩ := S
  intro H locs ls hH hS hl hm
  exact lv_if_ge hx hb hd ht (fun q => kt q H locs ls hH hS hl hm) (fun q => kf q H locs ls hH hS hl hm)
theorem i_icmp_ge (S : MachB g y cc nL d V) {x y1 : Int32} {off : Int} {tgt : Nat} (hd : decode cc pc = .ok (.if_icmp .ge off, 3)) (ht : (pc : Int) + off = (tgt : Int)) (kt : y1 ≤ x → V tgt L st w) (kf : ¬ y1 ≤ x → V (pc + 3) L st w) : V pc L (.int y1 :: .int x :: st) w := by
  obtain ⟨p, e, R, s, m, args, below, meth, c, w0, Q, rfl, hx, hb, hml, hown, hkn, hsz, hnm, hc1, hc2, hfr, hlo, hrc, hrs⟩ := S
  intro H locs ls hH hS hl hm
  exact lv_icmp_ge hx hb hd ht (fun q => kt q H locs ls hH hS hl hm) (fun q => kf q H locs ls hH hS hl hm)
theorem i_if_gt (S : MachB g y cc nL d V) {x : Int32} {off : Int} {tgt : Nat} (hd : decode cc pc = .ok (.ifCond .gt off, 3)) (ht : (pc : Int) + off = (tgt : Int)) (kt : 0 < x → V tgt L st w) (kf : ¬ 0 < x → V (pc + 3) L st w) : V pc L (.int x :: st) w := by
  obtain ⟨p, e, R, s, m, args, below, meth, c, w0, Q, rfl, hx, hb, hml, hown, hkn, hsz, hnm, hc1, hc2, hfr, hlo, hrc, hrs⟩ := S
  intro H locs ls hH hS hl hm
  exact lv_if_gt hx hb hd ht (fun q => kt q H locs ls hH hS hl hm) (fun q => kf q H locs ls hH hS hl hm)
theorem i_icmp_gt (S : MachB g y cc nL d V) {x y1 : Int32} {off : Int} {tgt : Nat} (hd : decode cc pc = .ok (.if_icmp .gt off, 3)) (ht : (pc : Int) + off = (tgt : Int)) (kt : y1 < x → V tgt L st w) (kf : ¬ y1 < x → V (pc + 3) L st w) : V pc L (.int y1 :: .int x :: st) w := by
  obtain ⟨p, e, R, s, m, args, below, meth, c, w0, Q, rfl, hx, hb, hml, hown, hkn, hsz, hnm, hc1, hc2, hfr, hlo, hrc, hrs⟩ := S
  intro H locs ls hH hS hl hm
  exact lv_icmp_gt hx hb hd ht (fun q => kt q H locs ls hH hS hl hm) (fun q => kf q H locs ls hH hS hl hm)
theorem i_if_le (S : MachB g y cc nL d V) {x : Int32} {off : Int} {tgt : Nat} (hd : decode cc pc = .ok (.ifCond .le off, 3)) (ht : (pc : Int) + off = (tgt : Int)) (kt : x ≤ 0 → V tgt L st w) (kf : ¬ x ≤ 0 → V (pc + 3) L st w) : V pc L (.int x :: st) w := by
  obtain ⟨p, e, R, s, m, args, below, meth, c, w0, Q, rfl, hx, hb, hml, hown, hkn, hsz, hnm, hc1, hc2, hfr, hlo, hrc, hrs⟩ := S
  intro H locs ls hH hS hl hm
  exact lv_if_le hx hb hd ht (fun q => kt q H locs ls hH hS hl hm) (fun q => kf q H locs ls hH hS hl hm)
theorem i_icmp_le (S : MachB g y cc nL d V) {x y1 : Int32} {off : Int} {tgt : Nat} (hd : decode cc pc = .ok (.if_icmp .le off, 3)) (ht : (pc : Int) + off = (tgt : Int)) (kt : x ≤ y1 → V tgt L st w) (kf : ¬ x ≤ y1 → V (pc + 3) L st w) : V pc L (.int y1 :: .int x :: st) w := by
  obtain ⟨p, e, R, s, m, args, below, meth, c, w0, Q, rfl, hx, hb, hml, hown, hkn, hsz, hnm, hc1, hc2, hfr, hlo, hrc, hrs⟩ := S
  intro H locs ls hH hS hl hm
  exact lv_icmp_le hx hb hd ht (fun q => kt q H locs ls hH hS hl hm) (fun q => kf q H locs ls hH hS hl hm)
theorem i_goto (S : MachB g y cc nL d V) {off : Int} {tgt : Nat} (hd : decode cc pc = .ok (.goto off, 3)) (ht : (pc : Int) + off = (tgt : Int)) (k : V tgt L st w) : V pc L st w := by
  obtain ⟨p, e, R, s, m, args, below, meth, c, w0, Q, rfl, hx, hb, hml, hown, hkn, hsz, hnm, hc1, hc2, hfr, hlo, hrc, hrs⟩ := S
  intro H locs ls hH hS hl hm
  exact lv_goto hx hb hd ht (k H locs ls hH hS hl hm)
theorem i_lcmp (S : MachB g y cc nL d V) {x y1 : Int64} (hd : decode cc pc = .ok (.lcmp, 1)) (k : V (pc + 1) L (.int (lg_cmp x y1) :: st) w) : V pc L (.long y1 :: .long x :: st) w := by
  obtain ⟨p, e, R, s, m, args, below, meth, c, w0, Q, rfl, hx, hb, hml, hown, hkn, hsz, hnm, hc1, hc2, hfr, hlo, hrc, hrs⟩ := S
  intro H locs ls hH hS hl hm
  exact W.lcmp hx hb hd (k H locs ls hH hS hl hm)
theorem i_ifnull (S : MachB g y cc nL d V) {a : Nat} {off : Int} (hd : decode cc pc = .ok (.ifnull off, 3)) (k : V (pc + 3) L st w) : V pc L (.ref a :: st) w := by
  obtain ⟨p, e, R, s, m, args, below, meth, c, w0, Q, rfl, hx, hb, hml, hown, hkn, hsz, hnm, hc1, hc2, hfr, hlo, hrc, hrs⟩ := S
  intro H locs ls hH hS hl hm
  exact lv_ifnull hx hb hd (k H locs ls hH hS hl hm)
theorem i_ifnullN (S : MachB g y cc nL d V) {off : Int} {tgt : Nat} (hd : decode cc pc = .ok (.ifnull off, 3)) (ht : (pc : Int) + off = (tgt : Int)) (k : V tgt L st w) : V pc L (.null :: st) w := by
  obtain ⟨p, e, R, s, m, args, below, meth, c, w0, Q, rfl, hx, hb, hml, hown, hkn, hsz, hnm, hc1, hc2, hfr, hlo, hrc, hrs⟩ := S
  intro H locs ls hH hS hl hm
  exact lv_ifnullN hx hb hd ht (k H locs ls hH hS hl hm)
theorem i_ifnonnull (S : MachB g y cc nL d V) {a : Nat} {off : Int} {tgt : Nat} (hd : decode cc pc = .ok (.ifnonnull off, 3)) (ht : (pc : Int) + off = (tgt : Int)) (k : V tgt L st w) : V pc L (.ref a :: st) w := by
  obtain ⟨p, e, R, s, m, args, below, meth, c, w0, Q, rfl, hx, hb, hml, hown, hkn, hsz, hnm, hc1, hc2, hfr, hlo, hrc, hrs⟩ := S
  intro H locs ls hH hS hl hm
  exact lv_ifnonnull hx hb hd ht (k H locs ls hH hS hl hm)
theorem i_ifnonnullN (S : MachB g y cc nL d V) {off : Int} (hd : decode cc pc = .ok (.ifnonnull off, 3)) (k : V (pc + 3) L st w) : V pc L (.null :: st) w := by
  obtain ⟨p, e, R, s, m, args, below, meth, c, w0, Q, rfl, hx, hb, hml, hown, hkn, hsz, hnm, hc1, hc2, hfr, hlo, hrc, hrs⟩ := S
  intro H locs ls hH hS hl hm
  exact lv_ifnonnullN hx hb hd (k H locs ls hH hS hl hm)
theorem i_tswIn (S : MachB g y cc nL d V) {dflt lo hi : Int} {offs : Array Int} {len : Nat} {x : Int32} {off : Int} {tgt : Nat} (hd : decode cc pc = .ok (.tableswitch dflt lo hi offs, len)) (h1 : ¬ x.toInt < lo) (h2 : ¬ hi < x.toInt) (ho : offs[(x.toInt - lo).toNat]? = some off) (ht : (pc : Int) + off = (tgt : Int)) (k : V tgt L st w) : V pc L (.int x :: st) w := by
  obtain ⟨p, e, R, s, m, args, below, meth, c, w0, Q, rfl, hx, hb, hml, hown, hkn, hsz, hnm, hc1, hc2, hfr, hlo, hrc, hrs⟩ := S
  intro H locs ls hH hS hl hm
  exact lv_tableIn hx hb hd h1 h2 ho ht (k H locs ls hH hS hl hm)
theorem i_tswOut (S : MachB g y cc nL d V) {dflt lo hi : Int} {offs : Array Int} {len : Nat} {x : Int32} {tgt : Nat} (hd : decode cc pc = .ok (.tableswitch dflt lo hi offs, len)) (h : x.toInt < lo ∨ hi < x.toInt) (ht : (pc : Int) + dflt = (tgt : Int)) (k : V tgt L st w) : V pc L (.int x :: st) w := by
  obtain ⟨p, e, R, s, m, args, below, meth, c, w0, Q, rfl, hx, hb, hml, hown, hkn, hsz, hnm, hc1, hc2, hfr, hlo, hrc, hrs⟩ := S
  intro H locs ls hH hS hl hm
  exact lv_tableOut hx hb hd h ht (k H locs ls hH hS hl hm)
theorem i_lsw (S : MachB g y cc nL d V) {dflt : Int} {ps : Array (Int × Int)} {len : Nat} {x : Int32} {off : Int} {tgt : Nat} (hd : decode cc pc = .ok (.lookupswitch dflt ps, len)) (hp : (ps.toList.zip (ps.toList.drop 1)).all (fun (a, next) => a.1 < next.1) = true) (ho : Op.lookupswitch.offset ps.toList dflt x.toInt = off) (ht : (pc : Int) + off = (tgt : Int)) (k : V tgt L st w) : V pc L (.int x :: st) w := by
  obtain ⟨p, e, R, s, m, args, below, meth, c, w0, Q, rfl, hx, hb, hml, hown, hkn, hsz, hnm, hc1, hc2, hfr, hlo, hrc, hrs⟩ := S
  intro H locs ls hH hS hl hm
  exact lv_lookup hx hb hd hp ho ht (k H locs ls hH hS hl hm)
end Rules
