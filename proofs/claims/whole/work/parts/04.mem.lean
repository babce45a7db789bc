def nF (t : Nat) : Nat := match t with
  | 0 => 5
  | 1 => 7
  | 2 => 3
  | 3 => 7
  | 4 => 10
  | 5 => 2
  | 6 => 9
  | 7 => 10
  | 8 => 5
  | 9 => 6
  | 10 => 2
  | 11 => 10
  | _ => 64
def okTy : FieldType → Bool
  | .int => true
  | .boolean => true
  | .long => true
  | .object _ => true
  | .array _ => true
  | _ => false
/-- a class of the tables: its fields' words, their types, their names apart -/
def CI (t : Nat) (C : String) (T : u_T) : Prop := vwCl[t]? = some (C, T, nF t) ∧ t < 20 ∧ (∀ w ∈ u_ws C T (nF t), w ∈ wtbl) ∧ (∀ k, k < nF t → parseFieldDescriptor (T k).2.2.1 = some (vTy t k)) ∧ (∀ a, a < nF t → ∀ b, b < nF t → a ≠ b → (T a).2.1 ≠ (T b).2.1) ∧ ∀ k, k < nF t → okTy (vTy t k) = true
def FL (own : String) (idx t k : Nat) (fin : Bool) : Prop := ∃ (C : String) (T : u_T), CI t C T ∧ k < nF t ∧ Cond.fieldLink own idx (T k).1 (T k).2.1 (T k).2.2.1 ∈ wtbl ∧ (T k).2.2.2 = fin ∧ (T k).1 = C
def CL (own : String) (idx t : Nat) : Prop := ∃ (C : String) (T : u_T), CI t C T ∧ Cond.classLink own idx C ∈ wtbl ∧ Cond.instantiable C (nF t) ∈ wtbl ∧ Cond.initialized C ∈ wtbl
def cap (w : Mm) (n : Nat) : Prop := mlen w + 1 ≤ CAP ∧ mslots w + n ≤ SCAP
def inb (i : Int32) (n : Nat) : Bool := decide (0 ≤ i.toInt ∧ i.toInt < n)
def ix (i : Int32) : Nat := i.toNatClampNeg
theorem inb_vp {i : Int32} {n : Nat} (h : inb i n = true) : vp_in i n := vp_in_iff.mpr (of_decide_eq_true h)
theorem ce_obj {g : Gx} {w : Mm} {c t n : Nat} (h : t < 20) : ce g w c t n = .inr (t, fvs g w c t n) := by simp [ce, h]
theorem ce_int {g : Gx} {w : Mm} {c t n : Nat} (h : t = 20 ∨ t = 22 ∨ t = 23) : ce g w c t n = .inl (g.2.2.2 t, n, .inl (fun j => gI w c j)) := by rcases h with rfl | rfl | rfl <;> rfl
theorem ce_long {g : Gx} {w : Mm} {c n : Nat} : ce g w c 21 n = .inl (g.2.2.2 21, n, .inr (.inl (fun j => gL w c j))) := rfl
theorem ce_ref {g : Gx} {w : Mm} {c t n : Nat} (h : t = 24 ∨ t = 25) : ce g w c t n = .inl (g.2.2.2 t, n, .inr (.inr (.inr (.inr (fun j => (gR w c j).map (fun c => g.2.1 + c)))))) := by rcases h with rfl | rfl <;> rfl
theorem gI_s (w : Mm) (c k : Nat) (x : Int32) : gI (sI w c k x) c k = x := by simp [gI, sI, up2]
theorem gL_s (w : Mm) (c k : Nat) (x : Int64) : gL (sL w c k x) c k = x := by simp [gL, sL, up2]
theorem gR_s (w : Mm) (c k : Nat) (x : Option Nat) : gR (sR w c k x) c k = x := by simp [gR, sR, up2]
theorem fv_I {g : Gx} {w : Mm} {c k : Nat} {ty : FieldType} (h : ftag ty = 0) : fv g w c k ty = .int (gI w c k) := by simp [fv, h]
theorem fv_L {g : Gx} {w : Mm} {c k : Nat} {ty : FieldType} (h : ftag ty = 1) : fv g w c k ty = .long (gL w c k) := by simp [fv, h]
theorem fv_R {g : Gx} {w : Mm} {c k : Nat} {ty : FieldType} (h : ftag ty = 2) : fv g w c k ty = vr g (gR w c k) := by simp [fv, h]
theorem fv_sI {g : Gx} {w : Mm} {c k j : Nat} {x : Int32} {ty : FieldType} (h : j ≠ k) : fv g (sI w c k x) c j ty = fv g w c j ty := by unfold fv gI gL gR sI; simp only [up2_k w.1 x h]
theorem fv_sL {g : Gx} {w : Mm} {c k j : Nat} {x : Int64} {ty : FieldType} (h : j ≠ k) : fv g (sL w c k x) c j ty = fv g w c j ty := by unfold fv gI gL gR sL; simp only [up2_k w.2.1 x h]
theorem fv_sR {g : Gx} {w : Mm} {c k j : Nat} {x : Option Nat} {ty : FieldType} (h : j ≠ k) : fv g (sR w c k x) c j ty = fv g w c j ty := by unfold fv gI gL gR sR; simp only [up2_k w.2.2.1 x h]
theorem HRx.size {g : Gx} {w w' : Mm} {H H1 : Heap} {A : Nat → Prop} {H0 : Heap} {locs : List Loc} (hP : va_P g.2.2.1 vwCl (wl g w') H1) (hS : va_S A H0 H1 locs) (h0 : H0.size = g.2.1) (hw : mlen w' = mlen w) : HRx g w' H1 := by
  refine ⟨hP, ?_⟩
  cases hn : mlen w' with
  | zero => have := hS.1; omega
  | succ n =>
    have hlt : n < w'.2.2.2.length := by unfold mlen at hn; omega
    have hk : gK w' n = some (w'.2.2.2[n]) := by unfold gK; rw [List.getElem?_eq_getElem hlt]
    have := (hP n _ (wl_get (g := g) (t := (w'.2.2.2[n]).1) (n := (w'.2.2.2[n]).2) hk)).lt
    simp only at this
    omega
theorem HRx.ge {g : Gx} {w' : Mm} {H1 : Heap} (hP : va_P g.2.2.1 vwCl (wl g w') H1) (hz : mlen w' ≠ 0) : HRx g w' H1 := by
  refine ⟨hP, ?_⟩
  cases hn : mlen w' with
  | zero => exact absurd hn hz
  | succ n =>
    have hlt : n < w'.2.2.2.length := by unfold mlen at hn; omega
    have hk : gK w' n = some (w'.2.2.2[n]) := by unfold gK; rw [List.getElem?_eq_getElem hlt]
    have := (hP n _ (wl_get (g := g) (t := (w'.2.2.2[n]).1) (n := (w'.2.2.2[n]).2) hk)).lt
    simp only at this
    omega
theorem gK_pos {w : Mm} {c : Nat} {q : Nat × Nat} (h : gK w c = some q) : mlen w ≠ 0 := by
  have := (List.getElem?_eq_some_iff.mp h).1
  unfold mlen
  omega
section Rules2
variable {g : Gx} {y : MethodName} {cc : ByteArray} {nL : Nat} {d : Nat} {V : Vt} {pc : Nat} {L : List (Option Value)} {st : List Value} {w : Mm}

theorem i_getI (S : MachB g y cc nL d V) {c t k idx : Nat} {fin : Bool} (fl : FL y.cls idx t k fin) (hk : gK w c = some (t, nF t)) (hty : ftag (vTy t k) = 0) (hd : decode cc pc = .ok (.getfield idx, 3)) (kk : V (pc + 3) L (.int (gI w c k) :: st) w) : V pc L (rf g c :: st) w := by
  obtain ⟨C, T, ⟨hcl, ht, hin, hty0, hnm2, -⟩, hkn1, hlink, hfin, hC⟩ := fl
  obtain ⟨p, e, R, s, m, args, below, meth, c0, w0, Q, rfl, hx, hb, hml, hown, hkn, hsz, hnm, hc1, hc2, hfr, hlo, hrc, hrs⟩ := S
  intro H locs ls hH hS hl hm
  refine va_get (Ts := wtbl) hx hb (fun x hx1 => hkn.use hx1) hin hown hkn.1 hH.1 c (fs := fvs g w c t (nF t)) (by rw [wl_get hk, ce_obj ht]) hcl k hkn1 (hkn.use hlink) (fun x hx1 => hx1) (v := .int (gI w c k)) (by rw [fvs_at hkn1, fv_I hty]) hd (kk H locs ls hH hS hl hm)
theorem i_getL (S : MachB g y cc nL d V) {c t k idx : Nat} {fin : Bool} (fl : FL y.cls idx t k fin) (hk : gK w c = some (t, nF t)) (hty : ftag (vTy t k) = 1) (hd : decode cc pc = .ok (.getfield idx, 3)) (kk : V (pc + 3) L (.long (gL w c k) :: st) w) : V pc L (rf g c :: st) w := by
  obtain ⟨C, T, ⟨hcl, ht, hin, hty0, hnm2, -⟩, hkn1, hlink, hfin, hC⟩ := fl
  obtain ⟨p, e, R, s, m, args, below, meth, c0, w0, Q, rfl, hx, hb, hml, hown, hkn, hsz, hnm, hc1, hc2, hfr, hlo, hrc, hrs⟩ := S
  intro H locs ls hH hS hl hm
  refine va_get (Ts := wtbl) hx hb (fun x hx1 => hkn.use hx1) hin hown hkn.1 hH.1 c (fs := fvs g w c t (nF t)) (by rw [wl_get hk, ce_obj ht]) hcl k hkn1 (hkn.use hlink) (fun x hx1 => hx1) (v := .long (gL w c k)) (by rw [fvs_at hkn1, fv_L hty]) hd (kk H locs ls hH hS hl hm)
theorem i_getRq (S : MachB g y cc nL d V) {c t k idx : Nat} {fin : Bool} (fl : FL y.cls idx t k fin) (hk : gK w c = some (t, nF t)) (hty : ftag (vTy t k) = 2) (hd : decode cc pc = .ok (.getfield idx, 3)) (kn : gR w c k = none → V (pc + 3) L (.null :: st) w) (ks : ∀ a, gR w c k = some a → V (pc + 3) L (rf g a :: st) w) : V pc L (rf g c :: st) w := by
  obtain ⟨C, T, ⟨hcl, ht, hin, hty0, hnm2, -⟩, hkn1, hlink, hfin, hC⟩ := fl
  obtain ⟨p, e, R, s, m, args, below, meth, c0, w0, Q, rfl, hx, hb, hml, hown, hkn, hsz, hnm, hc1, hc2, hfr, hlo, hrc, hrs⟩ := S
  intro H locs ls hH hS hl hm
  refine va_get (Ts := wtbl) hx hb (fun x hx1 => hkn.use hx1) hin hown hkn.1 hH.1 c (fs := fvs g w c t (nF t)) (by rw [wl_get hk, ce_obj ht]) hcl k hkn1 (hkn.use hlink) (fun x hx1 => hx1) (v := vr g (gR w c k)) (by rw [fvs_at hkn1, fv_R hty]) hd ?_
  cases hr : gR w c k with
  | none => exact kn hr H locs ls hH hS hl hm
  | some a => exact ks a hr H locs ls hH hS hl hm
theorem i_getR (S : MachB g y cc nL d V) {c t k idx a : Nat} {fin : Bool} (fl : FL y.cls idx t k fin) (hk : gK w c = some (t, nF t)) (hr : gR w c k = some a) (hty : ftag (vTy t k) = 2) (hd : decode cc pc = .ok (.getfield idx, 3)) (kk : V (pc + 3) L (rf g a :: st) w) : V pc L (rf g c :: st) w := i_getRq S fl hk hty hd (fun h => by rw [hr] at h; cases h) (fun b h => by rw [hr] at h; cases h; exact kk)
theorem i_putI (S : MachB g y cc nL d V) {c t k idx : Nat} {x : Int32} (fl : FL y.cls idx t k false) (hk : gK w c = some (t, nF t)) (hty : ftag (vTy t k) = 0) (hn : narrow (vTy t k) (.int x) = .int x) (hfit : fits (vTy t k) (.int x) = true) (hd : decode cc pc = .ok (.putfield idx, 3)) (kk : V (pc + 3) L st (sI w c k x)) : V pc L (.int x :: rf g c :: st) w := by
  obtain ⟨C, T, ⟨hcl, ht, hin, hty0, hnm2, hok⟩, hkn1, hlink, hfin, hC⟩ := fl
  obtain ⟨p, e, R, s, m, args, below, meth, c0, w0, Q, rfl, hx, hb, hml, hown, hkn, hsz, hnm, hc1, hc2, hfr, hlo, hrc, hrs⟩ := S
  intro H locs ls hH hS hl hm
  refine va_put (Ts := wtbl) hx hb (fun x hx1 => hkn.use hx1) hin (vTy t) hty0 hnm2 hown hkn.1 hH.1 (wl_D g w) hS c (fs := fvs g w c t (nF t)) (by rw [wl_get hk, ce_obj ht]) hcl k hkn1 (hkn.use hlink) (fun x hx1 => hx1) hfin (hty0 k hkn1) hn hfit (by rw [fvs_len]; exact hkn1) hd (fun H1 locs1 hP1 hD1 hS1 => ?_)
  have he : (wl g w).set c (g.2.1 + c, .inr (t, (fvs g w c t (nF t)).set k (.int x))) = wl g (sI w c k x) := wl_set rfl hk (by rw [ce_obj ht, fvs_set (v := .int x) hkn1 (by rw [fv_I hty, gI_s]) (fun j hj => fv_sI hj)]) (fun c1 t1 n1 h => ce_other_I c1 t1 n1 h)
  rw [he] at hP1
  exact kk H1 locs1 ls (HRx.ge hP1 (gK_pos hk)) hS1 hl hm
theorem i_putL (S : MachB g y cc nL d V) {c t k idx : Nat} {x : Int64} (fl : FL y.cls idx t k false) (hk : gK w c = some (t, nF t)) (hty : ftag (vTy t k) = 1) (hn : narrow (vTy t k) (.long x) = .long x) (hfit : fits (vTy t k) (.long x) = true) (hd : decode cc pc = .ok (.putfield idx, 3)) (kk : V (pc + 3) L st (sL w c k x)) : V pc L (.long x :: rf g c :: st) w := by
  obtain ⟨C, T, ⟨hcl, ht, hin, hty0, hnm2, hok⟩, hkn1, hlink, hfin, hC⟩ := fl
  obtain ⟨p, e, R, s, m, args, below, meth, c0, w0, Q, rfl, hx, hb, hml, hown, hkn, hsz, hnm, hc1, hc2, hfr, hlo, hrc, hrs⟩ := S
  intro H locs ls hH hS hl hm
  refine va_put (Ts := wtbl) hx hb (fun x hx1 => hkn.use hx1) hin (vTy t) hty0 hnm2 hown hkn.1 hH.1 (wl_D g w) hS c (fs := fvs g w c t (nF t)) (by rw [wl_get hk, ce_obj ht]) hcl k hkn1 (hkn.use hlink) (fun x hx1 => hx1) hfin (hty0 k hkn1) hn hfit (by rw [fvs_len]; exact hkn1) hd (fun H1 locs1 hP1 hD1 hS1 => ?_)
  have he : (wl g w).set c (g.2.1 + c, .inr (t, (fvs g w c t (nF t)).set k (.long x))) = wl g (sL w c k x) := wl_set rfl hk (by rw [ce_obj ht, fvs_set (v := .long x) hkn1 (by rw [fv_L hty, gL_s]) (fun j hj => fv_sL hj)]) (fun c1 t1 n1 h => ce_other_L c1 t1 n1 h)
  rw [he] at hP1
  exact kk H1 locs1 ls (HRx.ge hP1 (gK_pos hk)) hS1 hl hm
theorem i_putR (S : MachB g y cc nL d V) {c t k idx : Nat} {x : Option Nat} (fl : FL y.cls idx t k false) (hk : gK w c = some (t, nF t)) (hty : ftag (vTy t k) = 2) (hn : narrow (vTy t k) (vr g x) = vr g x) (hfit : fits (vTy t k) (vr g x) = true) (hd : decode cc pc = .ok (.putfield idx, 3)) (kk : V (pc + 3) L st (sR w c k x)) : V pc L (vr g x :: rf g c :: st) w := by
  obtain ⟨C, T, ⟨hcl, ht, hin, hty0, hnm2, hok⟩, hkn1, hlink, hfin, hC⟩ := fl
  obtain ⟨p, e, R, s, m, args, below, meth, c0, w0, Q, rfl, hx, hb, hml, hown, hkn, hsz, hnm, hc1, hc2, hfr, hlo, hrc, hrs⟩ := S
  intro H locs ls hH hS hl hm
  refine va_put (Ts := wtbl) hx hb (fun x hx1 => hkn.use hx1) hin (vTy t) hty0 hnm2 hown hkn.1 hH.1 (wl_D g w) hS c (fs := fvs g w c t (nF t)) (by rw [wl_get hk, ce_obj ht]) hcl k hkn1 (hkn.use hlink) (fun x hx1 => hx1) hfin (hty0 k hkn1) hn hfit (by rw [fvs_len]; exact hkn1) hd (fun H1 locs1 hP1 hD1 hS1 => ?_)
  have he : (wl g w).set c (g.2.1 + c, .inr (t, (fvs g w c t (nF t)).set k (vr g x))) = wl g (sR w c k x) := wl_set rfl hk (by rw [ce_obj ht, fvs_set (v := vr g x) hkn1 (by rw [fv_R hty, gR_s]) (fun j hj => fv_sR hj)]) (fun c1 t1 n1 h => ce_other_R c1 t1 n1 h)
  rw [he] at hP1
  exact kk H1 locs1 ls (HRx.ge hP1 (gK_pos hk)) hS1 hl hm
theorem i_putFI (S : MachB g y cc nL d V) {c t k idx : Nat} {x : Int32} (fl : FL y.cls idx t k true) (hk : gK w c = some (t, nF t)) (hty : ftag (vTy t k) = 0) (hy : y.name = "<init>") (hd0 : ∀ C T, CI t C T → (T k).1 = y.cls) (hn : narrow (vTy t k) (.int x) = .int x) (hfit : fits (vTy t k) (.int x) = true) (hd : decode cc pc = .ok (.putfield idx, 3)) (kk : V (pc + 3) L st (sI w c k x)) : V pc L (.int x :: rf g c :: st) w := by
  obtain ⟨C, T, ⟨hcl, ht, hin, hty0, hnm2, hok⟩, hkn1, hlink, hfin, hC⟩ := fl
  obtain ⟨p, e, R, s, m, args, below, meth, c0, w0, Q, rfl, hx, hb, hml, hown, hkn, hsz, hnm, hc1, hc2, hfr, hlo, hrc, hrs⟩ := S
  intro H locs ls hH hS hl hm
  refine va_putF (Ts := wtbl) hx hb (fun x hx1 => hkn.use hx1) hin (vTy t) hty0 hnm2 hown hkn.1 hH.1 (wl_D g w) hS c (fs := fvs g w c t (nF t)) (by rw [wl_get hk, ce_obj ht]) hcl k hkn1 (hkn.use hlink) (fun x hx1 => hx1) hfin (hnm.trans hy) (hd0 C T ⟨hcl, ht, hin, hty0, hnm2, hok⟩) (hty0 k hkn1) hn hfit (by rw [fvs_len]; exact hkn1) hd (fun H1 locs1 hP1 hD1 hS1 => ?_)
  have he : (wl g w).set c (g.2.1 + c, .inr (t, (fvs g w c t (nF t)).set k (.int x))) = wl g (sI w c k x) := wl_set rfl hk (by rw [ce_obj ht, fvs_set (v := .int x) hkn1 (by rw [fv_I hty, gI_s]) (fun j hj => fv_sI hj)]) (fun c1 t1 n1 h => ce_other_I c1 t1 n1 h)
  rw [he] at hP1
  exact kk H1 locs1 ls (HRx.ge hP1 (gK_pos hk)) hS1 hl hm
theorem i_putFL (S : MachB g y cc nL d V) {c t k idx : Nat} {x : Int64} (fl : FL y.cls idx t k true) (hk : gK w c = some (t, nF t)) (hty : ftag (vTy t k) = 1) (hy : y.name = "<init>") (hd0 : ∀ C T, CI t C T → (T k).1 = y.cls) (hn : narrow (vTy t k) (.long x) = .long x) (hfit : fits (vTy t k) (.long x) = true) (hd : decode cc pc = .ok (.putfield idx, 3)) (kk : V (pc + 3) L st (sL w c k x)) : V pc L (.long x :: rf g c :: st) w := by
  obtain ⟨C, T, ⟨hcl, ht, hin, hty0, hnm2, hok⟩, hkn1, hlink, hfin, hC⟩ := fl
  obtain ⟨p, e, R, s, m, args, below, meth, c0, w0, Q, rfl, hx, hb, hml, hown, hkn, hsz, hnm, hc1, hc2, hfr, hlo, hrc, hrs⟩ := S
  intro H locs ls hH hS hl hm
  refine va_putF (Ts := wtbl) hx hb (fun x hx1 => hkn.use hx1) hin (vTy t) hty0 hnm2 hown hkn.1 hH.1 (wl_D g w) hS c (fs := fvs g w c t (nF t)) (by rw [wl_get hk, ce_obj ht]) hcl k hkn1 (hkn.use hlink) (fun x hx1 => hx1) hfin (hnm.trans hy) (hd0 C T ⟨hcl, ht, hin, hty0, hnm2, hok⟩) (hty0 k hkn1) hn hfit (by rw [fvs_len]; exact hkn1) hd (fun H1 locs1 hP1 hD1 hS1 => ?_)
  have he : (wl g w).set c (g.2.1 + c, .inr (t, (fvs g w c t (nF t)).set k (.long x))) = wl g (sL w c k x) := wl_set rfl hk (by rw [ce_obj ht, fvs_set (v := .long x) hkn1 (by rw [fv_L hty, gL_s]) (fun j hj => fv_sL hj)]) (fun c1 t1 n1 h => ce_other_L c1 t1 n1 h)
  rw [he] at hP1
  exact kk H1 locs1 ls (HRx.ge hP1 (gK_pos hk)) hS1 hl hm
theorem i_putFR (S : MachB g y cc nL d V) {c t k idx : Nat} {x : Option Nat} (fl : FL y.cls idx t k true) (hk : gK w c = some (t, nF t)) (hty : ftag (vTy t k) = 2) (hy : y.name = "<init>") (hd0 : ∀ C T, CI t C T → (T k).1 = y.cls) (hn : narrow (vTy t k) (vr g x) = vr g x) (hfit : fits (vTy t k) (vr g x) = true) (hd : decode cc pc = .ok (.putfield idx, 3)) (kk : V (pc + 3) L st (sR w c k x)) : V pc L (vr g x :: rf g c :: st) w := by
  obtain ⟨C, T, ⟨hcl, ht, hin, hty0, hnm2, hok⟩, hkn1, hlink, hfin, hC⟩ := fl
  obtain ⟨p, e, R, s, m, args, below, meth, c0, w0, Q, rfl, hx, hb, hml, hown, hkn, hsz, hnm, hc1, hc2, hfr, hlo, hrc, hrs⟩ := S
  intro H locs ls hH hS hl hm
  refine va_putF (Ts := wtbl) hx hb (fun x hx1 => hkn.use hx1) hin (vTy t) hty0 hnm2 hown hkn.1 hH.1 (wl_D g w) hS c (fs := fvs g w c t (nF t)) (by rw [wl_get hk, ce_obj ht]) hcl k hkn1 (hkn.use hlink) (fun x hx1 => hx1) hfin (hnm.trans hy) (hd0 C T ⟨hcl, ht, hin, hty0, hnm2, hok⟩) (hty0 k hkn1) hn hfit (by rw [fvs_len]; exact hkn1) hd (fun H1 locs1 hP1 hD1 hS1 => ?_)
  have he : (wl g w).set c (g.2.1 + c, .inr (t, (fvs g w c t (nF t)).set k (vr g x))) = wl g (sR w c k x) := wl_set rfl hk (by rw [ce_obj ht, fvs_set (v := vr g x) hkn1 (by rw [fv_R hty, gR_s]) (fun j hj => fv_sR hj)]) (fun c1 t1 n1 h => ce_other_R c1 t1 n1 h)
  rw [he] at hP1
  exact kk H1 locs1 ls (HRx.ge hP1 (gK_pos hk)) hS1 hl hm
theorem i_iald (S : MachB g y cc nL d V) {c n : Nat} {i : Int32} (hk : gK w c = some (20, n)) (hin : inb i n = true) (hd : decode cc pc = .ok (.iaload, 1)) (kk : V (pc + 1) L (.int (gI w c (ix i)) :: st) w) : V pc L (.int i :: rf g c :: st) w := by
  obtain ⟨p, e, R, s, m, args, below, meth, c0, w0, Q, rfl, hx, hb, hml, hown, hkn, hsz, hnm, hc1, hc2, hfr, hlo, hrc, hrs⟩ := S
  intro H locs ls hH hS hl hm
  exact va_iald hx hb hkn.1 hH.1 c 0 (f := fun j => gI w c j) (by rw [wl_get hk, ce_int (by decide)]) rfl (inb_vp hin) hd (kk H locs ls hH hS hl hm)
theorem i_zald (S : MachB g y cc nL d V) {c n : Nat} {i : Int32} (hk : gK w c = some (22, n)) (hin : inb i n = true) (hd : decode cc pc = .ok (.baload, 1)) (kk : V (pc + 1) L (.int (gI w c (ix i)) :: st) w) : V pc L (.int i :: rf g c :: st) w := by
  obtain ⟨p, e, R, s, m, args, below, meth, c0, w0, Q, rfl, hx, hb, hml, hown, hkn, hsz, hnm, hc1, hc2, hfr, hlo, hrc, hrs⟩ := S
  intro H locs ls hH hS hl hm
  exact va_zald hx hb hkn.1 hH.1 c 2 (f := fun j => gI w c j) (by rw [wl_get hk, ce_int (by decide)]) rfl (inb_vp hin) hd (kk H locs ls hH hS hl hm)
theorem i_bald (S : MachB g y cc nL d V) {c n : Nat} {i : Int32} (hk : gK w c = some (23, n)) (hin : inb i n = true) (hd : decode cc pc = .ok (.baload, 1)) (kk : V (pc + 1) L (.int (gI w c (ix i)) :: st) w) : V pc L (.int i :: rf g c :: st) w := by
  obtain ⟨p, e, R, s, m, args, below, meth, c0, w0, Q, rfl, hx, hb, hml, hown, hkn, hsz, hnm, hc1, hc2, hfr, hlo, hrc, hrs⟩ := S
  intro H locs ls hH hS hl hm
  exact va_bald hx hb hkn.1 hH.1 c 3 (f := fun j => gI w c j) (by rw [wl_get hk, ce_int (by decide)]) rfl (inb_vp hin) hd (kk H locs ls hH hS hl hm)
theorem i_lald (S : MachB g y cc nL d V) {c n : Nat} {i : Int32} (hk : gK w c = some (21, n)) (hin : inb i n = true) (hd : decode cc pc = .ok (.laload, 1)) (kk : V (pc + 1) L (.long (gL w c (ix i)) :: st) w) : V pc L (.int i :: rf g c :: st) w := by
  obtain ⟨p, e, R, s, m, args, below, meth, c0, w0, Q, rfl, hx, hb, hml, hown, hkn, hsz, hnm, hc1, hc2, hfr, hlo, hrc, hrs⟩ := S
  intro H locs ls hH hS hl hm
  exact va_lald hx hb hkn.1 hH.1 c 1 (f := fun j => gL w c j) (by rw [wl_get hk, ce_long]) rfl (inb_vp hin) hd (kk H locs ls hH hS hl hm)
theorem i_iast (S : MachB g y cc nL d V) {c n : Nat} {i x : Int32} (hk : gK w c = some (20, n)) (hin : inb i n = true) (hd : decode cc pc = .ok (.iastore, 1)) (kk : V (pc + 1) L st (sI w c (ix i) (x))) : V pc L (.int x :: .int i :: rf g c :: st) w := by
  obtain ⟨p, e, R, s, m, args, below, meth, c0, w0, Q, rfl, hx, hb, hml, hown, hkn, hsz, hnm, hc1, hc2, hfr, hlo, hrc, hrs⟩ := S
  intro H locs ls hH hS hl hm
  refine va_iast hx hb hkn.1 hH.1 (wl_D g w) hS c 0 (f := fun j => gI w c j) (by rw [wl_get hk, ce_int (by decide)]) rfl (inb_vp hin) hd (fun H1 locs1 hP1 hD1 hS1 => ?_)
  have he : (wl g w).set c (g.2.1 + c, .inl (g.2.2.2 20, n, .inl (upd (fun j => gI w c j) i.toNatClampNeg (x)))) = wl g (sI w c (ix i) (x)) := wl_set rfl hk (by rw [ce_int (by decide)]; congr 4; funext j; simp [gI, sI, up2, upd, ix]) (fun c1 t1 n1 h => ce_other_I c1 t1 n1 h)
  rw [he] at hP1
  exact kk H1 locs1 ls (HRx.ge hP1 (gK_pos hk)) hS1 hl hm
theorem i_zast (S : MachB g y cc nL d V) {c n : Nat} {i x : Int32} (hk : gK w c = some (22, n)) (hin : inb i n = true) (hd : decode cc pc = .ok (.bastore, 1)) (kk : V (pc + 1) L st (sI w c (ix i) (vp_nar .boolean x))) : V pc L (.int x :: .int i :: rf g c :: st) w := by
  obtain ⟨p, e, R, s, m, args, below, meth, c0, w0, Q, rfl, hx, hb, hml, hown, hkn, hsz, hnm, hc1, hc2, hfr, hlo, hrc, hrs⟩ := S
  intro H locs ls hH hS hl hm
  refine va_zast hx hb hkn.1 hH.1 (wl_D g w) hS c 2 (f := fun j => gI w c j) (by rw [wl_get hk, ce_int (by decide)]) rfl (inb_vp hin) hd (fun H1 locs1 hP1 hD1 hS1 => ?_)
  have he : (wl g w).set c (g.2.1 + c, .inl (g.2.2.2 22, n, .inl (upd (fun j => gI w c j) i.toNatClampNeg (vp_nar .boolean x)))) = wl g (sI w c (ix i) (vp_nar .boolean x)) := wl_set rfl hk (by rw [ce_int (by decide)]; congr 4; funext j; simp [gI, sI, up2, upd, ix]) (fun c1 t1 n1 h => ce_other_I c1 t1 n1 h)
  rw [he] at hP1
  exact kk H1 locs1 ls (HRx.ge hP1 (gK_pos hk)) hS1 hl hm
theorem i_bast (S : MachB g y cc nL d V) {c n : Nat} {i x : Int32} (hk : gK w c = some (23, n)) (hin : inb i n = true) (hd : decode cc pc = .ok (.bastore, 1)) (kk : V (pc + 1) L st (sI w c (ix i) (vp_nar .byte x))) : V pc L (.int x :: .int i :: rf g c :: st) w := by
  obtain ⟨p, e, R, s, m, args, below, meth, c0, w0, Q, rfl, hx, hb, hml, hown, hkn, hsz, hnm, hc1, hc2, hfr, hlo, hrc, hrs⟩ := S
  intro H locs ls hH hS hl hm
  refine va_bast hx hb hkn.1 hH.1 (wl_D g w) hS c 3 (f := fun j => gI w c j) (by rw [wl_get hk, ce_int (by decide)]) rfl (inb_vp hin) hd (fun H1 locs1 hP1 hD1 hS1 => ?_)
  have he : (wl g w).set c (g.2.1 + c, .inl (g.2.2.2 23, n, .inl (upd (fun j => gI w c j) i.toNatClampNeg (vp_nar .byte x)))) = wl g (sI w c (ix i) (vp_nar .byte x)) := wl_set rfl hk (by rw [ce_int (by decide)]; congr 4; funext j; simp [gI, sI, up2, upd, ix]) (fun c1 t1 n1 h => ce_other_I c1 t1 n1 h)
  rw [he] at hP1
  exact kk H1 locs1 ls (HRx.ge hP1 (gK_pos hk)) hS1 hl hm
theorem i_last (S : MachB g y cc nL d V) {c n : Nat} {i : Int32} {x : Int64} (hk : gK w c = some (21, n)) (hin : inb i n = true) (hd : decode cc pc = .ok (.lastore, 1)) (kk : V (pc + 1) L st (sL w c (ix i) x)) : V pc L (.long x :: .int i :: rf g c :: st) w := by
  obtain ⟨p, e, R, s, m, args, below, meth, c0, w0, Q, rfl, hx, hb, hml, hown, hkn, hsz, hnm, hc1, hc2, hfr, hlo, hrc, hrs⟩ := S
  intro H locs ls hH hS hl hm
  refine va_last hx hb hkn.1 hH.1 (wl_D g w) hS c 1 (f := fun j => gL w c j) (by rw [wl_get hk, ce_long]) rfl (inb_vp hin) hd (fun H1 locs1 hP1 hD1 hS1 => ?_)
  have he : (wl g w).set c (g.2.1 + c, .inl (g.2.2.2 21, n, .inr (.inl (vp_updL (fun j => gL w c j) i.toNatClampNeg x)))) = wl g (sL w c (ix i) x) := wl_set rfl hk (by rw [ce_long]; congr 5; funext j; simp [gL, sL, up2, vp_updL, ix]) (fun c1 t1 n1 h => ce_other_L c1 t1 n1 h)
  rw [he] at hP1
  exact kk H1 locs1 ls (HRx.ge hP1 (gK_pos hk)) hS1 hl hm
theorem i_aald24 (S : MachB g y cc nL d V) {c n : Nat} {i : Int32} (hk : gK w c = some (24, n)) (hin : inb i n = true) (hd : decode cc pc = .ok (.aaload, 1)) (kn : gR w c (ix i) = none → V (pc + 1) L (.null :: st) w) (ks : ∀ a, gR w c (ix i) = some a → V (pc + 1) L (rf g a :: st) w) : V pc L (.int i :: rf g c :: st) w := by
  obtain ⟨p, e, R, s, m, args, below, meth, c0, w0, Q, rfl, hx, hb, hml, hown, hkn, hsz, hnm, hc1, hc2, hfr, hlo, hrc, hrs⟩ := S
  intro H locs ls hH hS hl hm
  refine va_aldq hx hb hkn.1 hH.1 c 4 (C := "WordYear$Speech") (f := fun j => (gR w c j).map (fun c => g.2.1 + c)) (by rw [wl_get hk, ce_ref (by decide)]) rfl (inb_vp hin) hd ?_
  show W _ _ _ _ _ _ _ _ _ _ _ _ _ _ _ (F0 m (pc + 1) ls (vr g (gR w c (ix i)) :: st))
  cases hr : gR w c (ix i) with
  | none => exact kn hr H locs ls hH hS hl hm
  | some a => exact ks a hr H locs ls hH hS hl hm
theorem i_aast24 (S : MachB g y cc nL d V) {c n a : Nat} {i : Int32} (hk : gK w c = some (24, n)) (ha : gK w a = some (7, nF 7)) (hin : inb i n = true) (hd : decode cc pc = .ok (.aastore, 1)) (kk : V (pc + 1) L st (sR w c (ix i) (some a))) : V pc L (rf g a :: .int i :: rf g c :: st) w := by
  obtain ⟨p, e, R, s, m, args, below, meth, c0, w0, Q, rfl, hx, hb, hml, hown, hkn, hsz, hnm, hc1, hc2, hfr, hlo, hrc, hrs⟩ := S
  intro H locs ls hH hS hl hm
  refine va_astq hx hb hkn.1 hH.1 (wl_D g w) hS c 4 a 7 (r := (RX7, TX7, nF 7)) (f := fun j => (gR w c j).map (fun c => g.2.1 + c)) (by rw [wl_get hk, ce_ref (by decide)]) rfl (by rw [wl_get ha, ce_obj (by decide)]) rfl (inb_vp hin) hd (fun H1 locs1 hP1 hD1 hS1 => ?_)
  have he : (wl g w).set c (g.2.1 + c, .inl (g.2.2.2 24, n, .inr (.inr (.inr (.inr (va_up (fun j => (gR w c j).map (fun c => g.2.1 + c)) i.toNatClampNeg (some (g.2.1 + a)))))))) = wl g (sR w c (ix i) (some a)) := wl_set rfl hk (by rw [ce_ref (by decide)]; congr 8; funext j; by_cases hj : j = i.toNatClampNeg <;> simp [gR, sR, up2, va_up, ix, hj]) (fun c1 t1 n1 h => ce_other_R c1 t1 n1 h)
  rw [he] at hP1
  exact kk H1 locs1 ls (HRx.ge hP1 (gK_pos hk)) hS1 hl hm
theorem i_aald25 (S : MachB g y cc nL d V) {c n : Nat} {i : Int32} (hk : gK w c = some (25, n)) (hin : inb i n = true) (hd : decode cc pc = .ok (.aaload, 1)) (kn : gR w c (ix i) = none → V (pc + 1) L (.null :: st) w) (ks : ∀ a, gR w c (ix i) = some a → V (pc + 1) L (rf g a :: st) w) : V pc L (.int i :: rf g c :: st) w := by
  obtain ⟨p, e, R, s, m, args, below, meth, c0, w0, Q, rfl, hx, hb, hml, hown, hkn, hsz, hnm, hc1, hc2, hfr, hlo, hrc, hrs⟩ := S
  intro H locs ls hH hS hl hm
  refine va_aldq hx hb hkn.1 hH.1 c 5 (C := "WordYear$Rule") (f := fun j => (gR w c j).map (fun c => g.2.1 + c)) (by rw [wl_get hk, ce_ref (by decide)]) rfl (inb_vp hin) hd ?_
  show W _ _ _ _ _ _ _ _ _ _ _ _ _ _ _ (F0 m (pc + 1) ls (vr g (gR w c (ix i)) :: st))
  cases hr : gR w c (ix i) with
  | none => exact kn hr H locs ls hH hS hl hm
  | some a => exact ks a hr H locs ls hH hS hl hm
theorem i_aast25 (S : MachB g y cc nL d V) {c n a : Nat} {i : Int32} (hk : gK w c = some (25, n)) (ha : gK w a = some (6, nF 6)) (hin : inb i n = true) (hd : decode cc pc = .ok (.aastore, 1)) (kk : V (pc + 1) L st (sR w c (ix i) (some a))) : V pc L (rf g a :: .int i :: rf g c :: st) w := by
  obtain ⟨p, e, R, s, m, args, below, meth, c0, w0, Q, rfl, hx, hb, hml, hown, hkn, hsz, hnm, hc1, hc2, hfr, hlo, hrc, hrs⟩ := S
  intro H locs ls hH hS hl hm
  refine va_astq hx hb hkn.1 hH.1 (wl_D g w) hS c 5 a 6 (r := (RX6, TX6, nF 6)) (f := fun j => (gR w c j).map (fun c => g.2.1 + c)) (by rw [wl_get hk, ce_ref (by decide)]) rfl (by rw [wl_get ha, ce_obj (by decide)]) rfl (inb_vp hin) hd (fun H1 locs1 hP1 hD1 hS1 => ?_)
  have he : (wl g w).set c (g.2.1 + c, .inl (g.2.2.2 25, n, .inr (.inr (.inr (.inr (va_up (fun j => (gR w c j).map (fun c => g.2.1 + c)) i.toNatClampNeg (some (g.2.1 + a)))))))) = wl g (sR w c (ix i) (some a)) := wl_set rfl hk (by rw [ce_ref (by decide)]; congr 8; funext j; by_cases hj : j = i.toNatClampNeg <;> simp [gR, sR, up2, va_up, ix, hj]) (fun c1 t1 n1 h => ce_other_R c1 t1 n1 h)
  rw [he] at hP1
  exact kk H1 locs1 ls (HRx.ge hP1 (gK_pos hk)) hS1 hl hm
end Rules2
