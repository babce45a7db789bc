theorem gK_al {w : Mm} {c t n : Nat} {q : Nat × Nat} (h : gK w c = some q) : gK (al w t n) c = some q := by
  have hlt : c < w.2.2.2.length := (List.getElem?_eq_some_iff.mp h).1
  unfold gK al
  rw [List.getElem?_append_left hlt]
  exact h
theorem gK_alS (w : Mm) (t n : Nat) : gK (al w t n) (mlen w) = some (t, n) := by simp [gK, al, mlen]
theorem mlen_al (w : Mm) (t n : Nat) : mlen (al w t n) = mlen w + 1 := by simp [mlen, al]
theorem mslots_al (w : Mm) (t n : Nat) : mslots (al w t n) = mslots w + n := by simp [mslots, al]
theorem ce_al {g : Gx} {w : Mm} {c t n : Nat} (t' n' : Nat) (h : c ≠ mlen w) : ce g (al w t n) c t' n' = ce g w c t' n' := by
  unfold ce fvs fv gI gL gR al row0
  simp only [h, if_false]
theorem wl_al (g : Gx) (w : Mm) (t n : Nat) : wl g (al w t n) = wl g w ++ [(g.2.1 + mlen w, ce g (al w t n) (mlen w) t n)] := by
  apply List.ext_getElem?
  intro j
  have hlen : (wl g w).length = mlen w := by simp [wl, mlen]
  by_cases hj : j < mlen w
  · rw [List.getElem?_append_left (by rw [hlen]; exact hj), wl_at, wl_at]
    have hk : gK w j = some w.2.2.2[j] := List.getElem?_eq_getElem hj
    rw [hk, gK_al hk]
    exact congrArg some (congrArg (Prod.mk _) (ce_al _ _ (Nat.ne_of_lt hj)))
  · rw [List.getElem?_append_right (by rw [hlen]; omega), hlen]
    by_cases hj2 : j = mlen w
    · subst hj2
      rw [wl_get (gK_alS w t n), Nat.sub_self]
      rfl
    · rw [List.getElem?_eq_none (by simp [wl, al]; unfold mlen at hj hj2; omega), List.getElem?_eq_none (by simp; omega)]
theorem mono_al {w0 w : Mm} {t n : Nat} (hm : mono w0 w) (hc : cap w n) : mono w0 (al w t n) := by
  obtain ⟨h1, h2, h3, h4⟩ := hm
  obtain ⟨h5, h6⟩ := hc
  refine ⟨?_, ?_, ?_, ?_⟩
  · rw [mlen_al]; omega
  · rw [mslots_al]; omega
  · rw [mlen_al]; omega
  · rw [mslots_al]; omega
theorem fv_born {g : Gx} {w : Mm} {t n k : Nat} {ty : FieldType} (h : okTy ty = true) : defaultValue ty = fv g (al w t n) (mlen w) k ty := by
  cases ty <;> first | (simp [okTy] at h; done) | simp [fv, ftag, gI, gL, gR, al, row0, defaultValue, vr, va_rf]
theorem HR_al {g : Gx} {w : Mm} {t n : Nat} {H H1 : Heap} (hH : HRx g w H) (hz : H.size = g.2.1 + mlen w) (z1 : H1.size = H.size + 1) (o1 : ∀ q : Nat, q < H.size → H1[q]? = H[q]?) (hn : va_at g.2.2.1 vwCl (g.2.1 + mlen w, ce g (al w t n) (mlen w) t n) H1) : HRx g (al w t n) H1 := by
  refine ⟨?_, by rw [mlen_al, z1, hz]; omega⟩
  rw [wl_al]
  refine (hH.1.kept (fun k x hx => o1 x.1 ((hH.1 k x hx).lt))).app (fun k x hx => ?_)
  have hk0 : k < 1 := (List.getElem?_eq_some_iff.mp hx).1
  rw [show k = 0 by omega] at hx
  cases hx
  exact hn
theorem S_al {g : Gx} {H0 H H1 : Heap} {locs : List Loc} (hS : va_S (fun q => g.2.1 ≤ q) H0 H locs) (z1 : H1.size = H.size + 1) (o1 : ∀ q : Nat, q < H.size → H1[q]? = H[q]?) : va_S (fun q => g.2.1 ≤ q) H0 H1 locs :=
  ⟨by have := hS.1; omega, fun q h1 h2 => (o1 q (Nat.lt_of_lt_of_le h1 hS.1)).trans (hS.2.1 q h1 h2), hS.2.2⟩
section Rules3
variable {g : Gx} {y : MethodName} {cc : ByteArray} {nL : Nat} {d : Nat} {V : Vt} {pc : Nat} {L : List (Option Value)} {st : List Value} {w : Mm}
theorem hsize {p : Program} {l : Launch} {e : Env} {R : Room} {s : State} {m : MethodId} {args : Array Value} {below : List Frame} {meth : Method} {c : Code} {T : State} {locs : List Loc} {k0 n0 : Nat} {w0 : Mm} (X : Stand p l e R s m args below meth c T locs (mlen w - mlen w0) n0) (hsz : s.heap.size = g.2.1 + mlen w0) (hm : mono w0 w) (hH : HRx g w T.heap) : T.heap.size = g.2.1 + mlen w := by
  have h1 := X.heapSize
  have h2 := hH.2
  have h3 := hm.1
  omega

theorem i_new (S : MachB g y cc nL d V) {idx t : Nat} (cl : CL y.cls idx t) (hcap : cap w (nF t)) (hd : decode cc pc = .ok (.new idx, 3)) (kk : V (pc + 3) L (rf g (mlen w) :: st) (al w t (nF t))) : V pc L st w := by
  obtain ⟨C, T, ⟨hcl, ht, hin, hty0, hnm2, hok⟩, hclink, hinst, hini⟩ := cl
  obtain ⟨p, e, R, s, m, args, below, meth, c0, w0, Q, rfl, hx, hb, hml, hown, hkn, hsz, hnm, hc1, hc2, hfr, hlo, hrc, hrs⟩ := S
  intro H locs ls hH hS hl hm
  intro T1 hT X
  have hz : H.size = g.2.1 + mlen w := by rw [← hT]; exact hsize (k0 := 0) X hsz hm (by rw [hT]; exact hH)
  have hKn := hkn.1.1 t _ hcl
  have key : W p g.1 e R s m args below meth c0 H locs (mlen w - mlen w0) (mslots w - mslots w0) Q (F0 m pc ls st) := by
    refine W.newcK hx hb hown (hkn.use hclink) (hkn.use hinst) (hkn.use hini) rfl hd (by rw [hrc]; have := hm.1; have := hcap.1; omega) (by rw [hrs]; have := hm.2.1; have := hcap.2; omega) hKn.2.1 rfl fun H1 kC hkC e1 z1 o1 => ?_
    have a1 : mlen w - mlen w0 + 1 = mlen (al w t (nF t)) - mlen w0 := by rw [mlen_al]; have := hm.1; omega
    have a2 : mslots w - mslots w0 + (nF t) = mslots (al w t (nF t)) - mslots w0 := by rw [mslots_al]; have := hm.2.1; omega
    rw [a1, a2]
    have e2 : H1[g.2.1 + mlen w]? = some (blank (g.2.2.1.1 t) kC) := by rw [← hz]; exact e1
    have := kk H1 locs ls (HR_al hH hz z1 o1 (by rw [ce_obj ht]; exact ⟨_, hcl, (u_born (vTy t) (fun x hx1 => hkn.use (args := args) hx1) hin hKn hkC e2 hty0).to (V' := vp_V (fvs g (al w t (nF t)) (mlen w) t (nF t))) (fun k hk => by rw [fv_born (g := g) (w := w) (t := t) (n := nF t) (k := k) (hok k hk)]; simp [vp_V, fvs, hk])⟩)) (S_al hS z1 o1) hl (mono_al hm hcap)
    rw [show rf g (mlen w) = Value.ref H.size by rw [hz]; rfl] at this
    exact this
  exact key T1 hT X
theorem i_newaI (S : MachB g y cc nL d V) {n : Int32} {N : Nat} (hw : Cond.arrayClass .int ∈ wtbl) (hN : n.toNatClampNeg = N) (hn : ¬ n < 0) (hbytes : N * componentBytes .int ≤ 536870912) (hcap : cap w N) (hd : decode cc pc = .ok (.newarray .int, 2)) (kk : V (pc + 2) L (rf g (mlen w) :: st) (al w 20 N)) : V pc L (.int n :: st) w := by
  obtain ⟨p, e, R, s, m, args, below, meth, c0, w0, Q, rfl, hx, hb, hml, hown, hkn, hsz, hnm, hc1, hc2, hfr, hlo, hrc, hrs⟩ := S
  intro H locs ls hH hS hl hm
  intro T1 hT X
  have hz : H.size = g.2.1 + mlen w := by rw [← hT]; exact hsize (k0 := 0) X hsz hm (by rw [hT]; exact hH)
  have key : W p g.1 e R s m args below meth c0 H locs (mlen w - mlen w0) (mslots w - mslots w0) Q (F0 m pc ls (.int n :: st)) := by
    refine va_newaK hx hb (atype := .int) (hkn.use hw) rfl hd rfl hn hN hbytes (by rw [hrc]; have := hm.1; have := hcap.1; omega) (by rw [hrs]; have := hm.2.1; have := hcap.2; omega) rfl fun H1 cA e1 z1 o1 hAr hNm => ?_
    have hcA : cA = g.2.2.2 20 := by
      have h2 : s.vm.findClass ("[" ++ FieldType.toString .int) = some (g.2.2.2 20) := (hkn.1.2 0 _ rfl).2
      exact Option.some.inj (Eq.trans (Eq.symm hNm) h2)
    subst hcA
    have a1 : mlen w - mlen w0 + 1 = mlen (al w 20 N) - mlen w0 := by rw [mlen_al]; have := hm.1; omega
    have a2 : mslots w - mslots w0 + N = mslots (al w 20 N) - mslots w0 := by rw [mslots_al]; have := hm.2.1; omega
    rw [a1, a2]
    have e2 : H1[g.2.1 + mlen w]? = some (arrV (g.2.2.2 20) N (fun _ => defaultValue (newarray.typeOf .int))) := by rw [← hz]; exact e1
    have := kk H1 locs ls (HR_al hH hz z1 o1 (by
      show H1[g.2.1 + mlen w]? = _
      rw [e2]
      simp only [ce, vp_cell, gI, gL, al, row0, if_true]
      rfl)) (S_al hS z1 o1) hl (mono_al hm hcap)
    rw [show rf g (mlen w) = Value.ref H.size by rw [hz]; rfl] at this
    exact this
  exact key T1 hT X
theorem i_newaL (S : MachB g y cc nL d V) {n : Int32} {N : Nat} (hw : Cond.arrayClass .long ∈ wtbl) (hN : n.toNatClampNeg = N) (hn : ¬ n < 0) (hbytes : N * componentBytes .long ≤ 536870912) (hcap : cap w N) (hd : decode cc pc = .ok (.newarray .long, 2)) (kk : V (pc + 2) L (rf g (mlen w) :: st) (al w 21 N)) : V pc L (.int n :: st) w := by
  obtain ⟨p, e, R, s, m, args, below, meth, c0, w0, Q, rfl, hx, hb, hml, hown, hkn, hsz, hnm, hc1, hc2, hfr, hlo, hrc, hrs⟩ := S
  intro H locs ls hH hS hl hm
  intro T1 hT X
  have hz : H.size = g.2.1 + mlen w := by rw [← hT]; exact hsize (k0 := 0) X hsz hm (by rw [hT]; exact hH)
  have key : W p g.1 e R s m args below meth c0 H locs (mlen w - mlen w0) (mslots w - mslots w0) Q (F0 m pc ls (.int n :: st)) := by
    refine va_newaK hx hb (atype := .long) (hkn.use hw) rfl hd rfl hn hN hbytes (by rw [hrc]; have := hm.1; have := hcap.1; omega) (by rw [hrs]; have := hm.2.1; have := hcap.2; omega) rfl fun H1 cA e1 z1 o1 hAr hNm => ?_
    have hcA : cA = g.2.2.2 21 := by
      have h2 : s.vm.findClass ("[" ++ FieldType.toString .long) = some (g.2.2.2 21) := (hkn.1.2 1 _ rfl).2
      exact Option.some.inj (Eq.trans (Eq.symm hNm) h2)
    subst hcA
    have a1 : mlen w - mlen w0 + 1 = mlen (al w 21 N) - mlen w0 := by rw [mlen_al]; have := hm.1; omega
    have a2 : mslots w - mslots w0 + N = mslots (al w 21 N) - mslots w0 := by rw [mslots_al]; have := hm.2.1; omega
    rw [a1, a2]
    have e2 : H1[g.2.1 + mlen w]? = some (arrV (g.2.2.2 21) N (fun _ => defaultValue (newarray.typeOf .long))) := by rw [← hz]; exact e1
    have := kk H1 locs ls (HR_al hH hz z1 o1 (by
      show H1[g.2.1 + mlen w]? = _
      rw [e2]
      simp only [ce, vp_cell, gI, gL, al, row0, if_true]
      rfl)) (S_al hS z1 o1) hl (mono_al hm hcap)
    rw [show rf g (mlen w) = Value.ref H.size by rw [hz]; rfl] at this
    exact this
  exact key T1 hT X
theorem i_newaZ (S : MachB g y cc nL d V) {n : Int32} {N : Nat} (hw : Cond.arrayClass .boolean ∈ wtbl) (hN : n.toNatClampNeg = N) (hn : ¬ n < 0) (hbytes : N * componentBytes .boolean ≤ 536870912) (hcap : cap w N) (hd : decode cc pc = .ok (.newarray .boolean, 2)) (kk : V (pc + 2) L (rf g (mlen w) :: st) (al w 22 N)) : V pc L (.int n :: st) w := by
  obtain ⟨p, e, R, s, m, args, below, meth, c0, w0, Q, rfl, hx, hb, hml, hown, hkn, hsz, hnm, hc1, hc2, hfr, hlo, hrc, hrs⟩ := S
  intro H locs ls hH hS hl hm
  intro T1 hT X
  have hz : H.size = g.2.1 + mlen w := by rw [← hT]; exact hsize (k0 := 0) X hsz hm (by rw [hT]; exact hH)
  have key : W p g.1 e R s m args below meth c0 H locs (mlen w - mlen w0) (mslots w - mslots w0) Q (F0 m pc ls (.int n :: st)) := by
    refine va_newaK hx hb (atype := .boolean) (hkn.use hw) rfl hd rfl hn hN hbytes (by rw [hrc]; have := hm.1; have := hcap.1; omega) (by rw [hrs]; have := hm.2.1; have := hcap.2; omega) rfl fun H1 cA e1 z1 o1 hAr hNm => ?_
    have hcA : cA = g.2.2.2 22 := by
      have h2 : s.vm.findClass ("[" ++ FieldType.toString .boolean) = some (g.2.2.2 22) := (hkn.1.2 2 _ rfl).2
      exact Option.some.inj (Eq.trans (Eq.symm hNm) h2)
    subst hcA
    have a1 : mlen w - mlen w0 + 1 = mlen (al w 22 N) - mlen w0 := by rw [mlen_al]; have := hm.1; omega
    have a2 : mslots w - mslots w0 + N = mslots (al w 22 N) - mslots w0 := by rw [mslots_al]; have := hm.2.1; omega
    rw [a1, a2]
    have e2 : H1[g.2.1 + mlen w]? = some (arrV (g.2.2.2 22) N (fun _ => defaultValue (newarray.typeOf .boolean))) := by rw [← hz]; exact e1
    have := kk H1 locs ls (HR_al hH hz z1 o1 (by
      show H1[g.2.1 + mlen w]? = _
      rw [e2]
      simp only [ce, vp_cell, gI, gL, al, row0, if_true]
      rfl)) (S_al hS z1 o1) hl (mono_al hm hcap)
    rw [show rf g (mlen w) = Value.ref H.size by rw [hz]; rfl] at this
    exact this
  exact key T1 hT X
theorem i_newaB (S : MachB g y cc nL d V) {n : Int32} {N : Nat} (hw : Cond.arrayClass .byte ∈ wtbl) (hN : n.toNatClampNeg = N) (hn : ¬ n < 0) (hbytes : N * componentBytes .byte ≤ 536870912) (hcap : cap w N) (hd : decode cc pc = .ok (.newarray .byte, 2)) (kk : V (pc + 2) L (rf g (mlen w) :: st) (al w 23 N)) : V pc L (.int n :: st) w := by
  obtain ⟨p, e, R, s, m, args, below, meth, c0, w0, Q, rfl, hx, hb, hml, hown, hkn, hsz, hnm, hc1, hc2, hfr, hlo, hrc, hrs⟩ := S
  intro H locs ls hH hS hl hm
  intro T1 hT X
  have hz : H.size = g.2.1 + mlen w := by rw [← hT]; exact hsize (k0 := 0) X hsz hm (by rw [hT]; exact hH)
  have key : W p g.1 e R s m args below meth c0 H locs (mlen w - mlen w0) (mslots w - mslots w0) Q (F0 m pc ls (.int n :: st)) := by
    refine va_newaK hx hb (atype := .byte) (hkn.use hw) rfl hd rfl hn hN hbytes (by rw [hrc]; have := hm.1; have := hcap.1; omega) (by rw [hrs]; have := hm.2.1; have := hcap.2; omega) rfl fun H1 cA e1 z1 o1 hAr hNm => ?_
    have hcA : cA = g.2.2.2 23 := by
      have h2 : s.vm.findClass ("[" ++ FieldType.toString .byte) = some (g.2.2.2 23) := (hkn.1.2 3 _ rfl).2
      exact Option.some.inj (Eq.trans (Eq.symm hNm) h2)
    subst hcA
    have a1 : mlen w - mlen w0 + 1 = mlen (al w 23 N) - mlen w0 := by rw [mlen_al]; have := hm.1; omega
    have a2 : mslots w - mslots w0 + N = mslots (al w 23 N) - mslots w0 := by rw [mslots_al]; have := hm.2.1; omega
    rw [a1, a2]
    have e2 : H1[g.2.1 + mlen w]? = some (arrV (g.2.2.2 23) N (fun _ => defaultValue (newarray.typeOf .byte))) := by rw [← hz]; exact e1
    have := kk H1 locs ls (HR_al hH hz z1 o1 (by
      show H1[g.2.1 + mlen w]? = _
      rw [e2]
      simp only [ce, vp_cell, gI, gL, al, row0, if_true]
      rfl)) (S_al hS z1 o1) hl (mono_al hm hcap)
    rw [show rf g (mlen w) = Value.ref H.size by rw [hz]; rfl] at this
    exact this
  exact key T1 hT X
theorem i_anew24 (S : MachB g y cc nL d V) {n : Int32} {N idx : Nat} (hw : Cond.classLink y.cls idx "WordYear$Speech" ∈ wtbl) (hw2 : Cond.arrayOver (.object "WordYear$Speech") ∈ wtbl) (hN : n.toNatClampNeg = N) (hn : ¬ n < 0) (hbytes : N * 4 ≤ 536870912) (hcap : cap w N) (hd : decode cc pc = .ok (.anewarray idx, 3)) (kk : V (pc + 3) L (rf g (mlen w) :: st) (al w 24 N)) : V pc L (.int n :: st) w := by
  obtain ⟨p, e, R, s, m, args, below, meth, c0, w0, Q, rfl, hx, hb, hml, hown, hkn, hsz, hnm, hc1, hc2, hfr, hlo, hrc, hrs⟩ := S
  intro H locs ls hH hS hl hm
  intro T1 hT X
  subst hN
  have hz : H.size = g.2.1 + mlen w := by rw [← hT]; exact hsize (k0 := 0) X hsz hm (by rw [hT]; exact hH)
  have key : W p g.1 e R s m args below meth c0 H locs (mlen w - mlen w0) (mslots w - mslots w0) Q (F0 m pc ls (.int n :: st)) := by
    refine W.anew hx hb hown (hkn.use hw) (hkn.use hw2) rfl hd rfl hn hbytes (by rw [hrc]; have := hm.1; have := hcap.1; omega) (by rw [hrs]; have := hm.2.1; have := hcap.2; omega) fun cA kA comp f1 f2 f3 f4 => ?_
    have hcA : cA = g.2.2.2 24 := by
      obtain ⟨kA', comp', q1, q2, q3, q4⟩ : va_RA s (g.2.2.2 24) (.object "WordYear$Speech") := (hkn.1.2 4 _ rfl).2
      exact Option.some.inj (Eq.trans (Eq.symm f1) q4)
    subst hcA
    generalize hH1 : H.push ({ cls := g.2.2.2 24, slots := Array.replicate n.toNatClampNeg .null, vm := .none } : Cell) = H1
    have z1 : H1.size = H.size + 1 := by rw [← hH1, Array.size_push]
    have e1 : H1[H.size]? = some (arrV (g.2.2.2 24) n.toNatClampNeg (fun _ => .null)) := by rw [← hH1, Array.getElem?_push_size, ← arrV_new]
    have o1 : ∀ q : Nat, q < H.size → H1[q]? = H[q]? := fun q hq => by rw [← hH1, Array.getElem?_push, if_neg (Nat.ne_of_lt hq)]
    have a1 : mlen w - mlen w0 + 1 = mlen (al w 24 n.toNatClampNeg) - mlen w0 := by rw [mlen_al]; have := hm.1; omega
    have a2 : mslots w - mslots w0 + n.toNatClampNeg = mslots (al w 24 n.toNatClampNeg) - mslots w0 := by rw [mslots_al]; have := hm.2.1; omega
    rw [a1, a2]
    have := kk H1 locs ls (HR_al hH hz z1 o1 (by
      show H1[g.2.1 + mlen w]? = _
      rw [← hz, e1]
      simp only [ce, vp_cell, gR, al, row0, if_true]
      rfl)) (S_al hS z1 o1) hl (mono_al hm hcap)
    rw [show rf g (mlen w) = Value.ref H.size by rw [hz]; rfl] at this
    exact this
  exact key T1 hT X
theorem i_anew25 (S : MachB g y cc nL d V) {n : Int32} {N idx : Nat} (hw : Cond.classLink y.cls idx "WordYear$Rule" ∈ wtbl) (hw2 : Cond.arrayOver (.object "WordYear$Rule") ∈ wtbl) (hN : n.toNatClampNeg = N) (hn : ¬ n < 0) (hbytes : N * 4 ≤ 536870912) (hcap : cap w N) (hd : decode cc pc = .ok (.anewarray idx, 3)) (kk : V (pc + 3) L (rf g (mlen w) :: st) (al w 25 N)) : V pc L (.int n :: st) w := by
  obtain ⟨p, e, R, s, m, args, below, meth, c0, w0, Q, rfl, hx, hb, hml, hown, hkn, hsz, hnm, hc1, hc2, hfr, hlo, hrc, hrs⟩ := S
  intro H locs ls hH hS hl hm
  intro T1 hT X
  subst hN
  have hz : H.size = g.2.1 + mlen w := by rw [← hT]; exact hsize (k0 := 0) X hsz hm (by rw [hT]; exact hH)
  have key : W p g.1 e R s m args below meth c0 H locs (mlen w - mlen w0) (mslots w - mslots w0) Q (F0 m pc ls (.int n :: st)) := by
    refine W.anew hx hb hown (hkn.use hw) (hkn.use hw2) rfl hd rfl hn hbytes (by rw [hrc]; have := hm.1; have := hcap.1; omega) (by rw [hrs]; have := hm.2.1; have := hcap.2; omega) fun cA kA comp f1 f2 f3 f4 => ?_
    have hcA : cA = g.2.2.2 25 := by
      obtain ⟨kA', comp', q1, q2, q3, q4⟩ : va_RA s (g.2.2.2 25) (.object "WordYear$Rule") := (hkn.1.2 5 _ rfl).2
      exact Option.some.inj (Eq.trans (Eq.symm f1) q4)
    subst hcA
    generalize hH1 : H.push ({ cls := g.2.2.2 25, slots := Array.replicate n.toNatClampNeg .null, vm := .none } : Cell) = H1
    have z1 : H1.size = H.size + 1 := by rw [← hH1, Array.size_push]
    have e1 : H1[H.size]? = some (arrV (g.2.2.2 25) n.toNatClampNeg (fun _ => .null)) := by rw [← hH1, Array.getElem?_push_size, ← arrV_new]
    have o1 : ∀ q : Nat, q < H.size → H1[q]? = H[q]? := fun q hq => by rw [← hH1, Array.getElem?_push, if_neg (Nat.ne_of_lt hq)]
    have a1 : mlen w - mlen w0 + 1 = mlen (al w 25 n.toNatClampNeg) - mlen w0 := by rw [mlen_al]; have := hm.1; omega
    have a2 : mslots w - mslots w0 + n.toNatClampNeg = mslots (al w 25 n.toNatClampNeg) - mslots w0 := by rw [mslots_al]; have := hm.2.1; omega
    rw [a1, a2]
    have := kk H1 locs ls (HR_al hH hz z1 o1 (by
      show H1[g.2.1 + mlen w]? = _
      rw [← hz, e1]
      simp only [ce, vp_cell, gR, al, row0, if_true]
      rfl)) (S_al hS z1 o1) hl (mono_al hm hcap)
    rw [show rf g (mlen w) = Value.ref H.size by rw [hz]; rfl] at this
    exact this
  exact key T1 hT X
theorem i_objInit (S : MachB g y cc nL d V) {idx c : Nat} (hw : Cond.methodLink y.cls idx Lib.objectInit ∈ wtbl) (hw2 : Cond.instanceMethod Lib.objectInit ∈ wtbl) (hw3 : Cond.code Lib.objectInit ⟨#[0xb1]⟩ 1 none ∈ wtbl) (hd : decode cc pc = .ok (.invokespecial idx, 3)) (h8 : (st.map fun v => v.category).sum ≤ 8) (kk : V (pc + 3) L st w) : V pc L (rf g c :: st) w := by
  obtain ⟨p, e, R, s, m, args, below, meth, c0, w0, Q, rfl, hx, hb, hml, hown, hkn, hsz, hnm, hc1, hc2, hfr, hlo, hrc, hrs⟩ := S
  intro H locs ls hH hS hl hm
  exact W.objInit hx hb hown (hkn.use hw) (hkn.use hw2) (hkn.use hw3) rfl (by rw [hml]; exact hl.1) rfl hd (by omega) (by show 2 * 0 + _ + 12 ≤ _; omega) (kk H locs ls hH hS hl hm)
theorem i_iret {ty : FieldType} {x : Int32} (S : Mach g y cc nL (some ty) d (some (.int x)) w V) (hn : narrow ty (.int x) = .int x) (hd : decode cc pc = .ok (.ireturn, 1)) : V pc L [.int x] w := by
  obtain ⟨p, e, s, m, args, below, meth, c0, w0, rfl, hx, hb, hr, hlk, hml, hown, hkn, hsz, hnm, hc1, hc2⟩ := S
  intro H locs ls hH hS hl hm
  exact W.zret hx hb hr hn (fun t ht hW => ⟨rfl, by rw [ht]; exact hH, hm, fun q hq => by rw [ht]; exact hS.2.1 q (by rw [hsz]; omega) (by omega)⟩) hS.2.2 hd hlk
theorem i_lret {x : Int64} (S : Mach g y cc nL (some .long) d (some (.long x)) w V) (hd : decode cc pc = .ok (.lreturn, 1)) : V pc L [.long x] w := by
  obtain ⟨p, e, s, m, args, below, meth, c0, w0, rfl, hx, hb, hr, hlk, hml, hown, hkn, hsz, hnm, hc1, hc2⟩ := S
  intro H locs ls hH hS hl hm
  exact W.lret hx hb hr (fun t ht hW => ⟨rfl, by rw [ht]; exact hH, hm, fun q hq => by rw [ht]; exact hS.2.1 q (by rw [hsz]; omega) (by omega)⟩) hS.2.2 hd hlk
theorem i_vret (S : Mach g y cc nL none d none w V) (hd : decode cc pc = .ok (.return_, 1)) : V pc L [] w := by
  obtain ⟨p, e, s, m, args, below, meth, c0, w0, rfl, hx, hb, hr, hlk, hml, hown, hkn, hsz, hnm, hc1, hc2⟩ := S
  intro H locs ls hH hS hl hm
  exact W.vret hx hb hr (fun t ht hW => ⟨rfl, by rw [ht]; exact hH, hm, fun q hq => by rw [ht]; exact hS.2.1 q (by rw [hsz]; omega) (by omega)⟩) hS.2.2 hd hlk
theorem i_aret {n : String} {c : Nat} (S : Mach g y cc nL (some (.object n)) d (some (rf g c)) w V) (hd : decode cc pc = .ok (.areturn, 1)) : V pc L [rf g c] w := by
  obtain ⟨p, e, s, m, args, below, meth, c0, w0, rfl, hx, hb, hr, hlk, hml, hown, hkn, hsz, hnm, hc1, hc2⟩ := S
  intro H locs ls hH hS hl hm
  exact W.aret hx hb hr (Or.inl ⟨n, rfl⟩) (Or.inr ⟨_, rfl⟩) (fun t ht hW => ⟨rfl, by rw [ht]; exact hH, hm, fun q hq => by rw [ht]; exact hS.2.1 q (by rw [hsz]; omega) (by omega)⟩) hS.2.2 hd hlk
end Rules3
theorem mono_rf {w : Mm} (h1 : mlen w ≤ CAP) (h2 : mslots w ≤ SCAP) : mono w w := ⟨Nat.le_refl _, Nat.le_refl _, h1, h2⟩
theorem call_of {g : Gx} {y : MethodName} {cc : ByteArray} {nL : Nat} {ret : Option FieldType} {d : Nat} {rv : Option Value} {wv w : Mm} {av : List Value} {L0 : List (Option Value)} (hy : plainName y.cls = true) (hL : pr 0 L0 = lv_args 0 av) (hlen : (lg_sl av).length ≤ nL) (body : ∀ V : Vt, Mach g y cc nL ret d rv wv V → V 0 L0 [] w) : Call g (d + 1) y cc nL ret av w rv wv := by
  refine Met.ofW (cc := cc) (maxL := nL) (ret := ret) hy rfl ?_
  intro p e s m args below meth c s₁ B hml hv
  obtain ⟨rfl, hH, hsz, hkn, hc1, hc2⟩ := hv
  have h := body _ ⟨p, e, s, m, av.toArray, below, meth, c, w, rfl, B.exec, B.bytes, B.returns, B.notSynchronized, hml, findClass_of_methodNamed B.named, hkn, hsz, (name_of_methodNamed B.named B.method).1, hc1, hc2⟩ s.heap [] _ hH va_S.rf (by rw [hL]; exact lv_entry av hlen) (mono_rf hc1 hc2)
  rw [Nat.sub_self, Nat.sub_self] at h
  rw [lg_entry_eq]
  exact h

theorem back2 {l : Launch} {R : Room} {p : Program} {e : Env} {below : List Frame} {s : State} {sargs : Array Value} {y : MethodName} {len W : Nat} {ws : List Cond} {rm : Room} {Pc : Array Value → State → Prop} {Qc : Array Value → State → Outcome → State → Prop} {mc ms : Nat} {free : Addr → Prop} {bytes : ByteArray} {maxL : Nat} {ret : Option FieldType}
    (hM : Met l y ws rm Pc Qc mc ms free) (hblind : FrameBlind Pc)
    (hframes : rm.frames + 1 ≤ R.frames) (hlocals : W + (maxL + 11) + rm.locals ≤ R.locals)
    (hws : ∀ w ∈ ws, ∀ a' U, s.WarmedH U.vm → w.before a' U = true) (hcode : Cond.code y bytes maxL ret ∈ ws) (hinit : ∀ a' U, s.WarmedH U.vm → (Cond.initialized y.cls).before a' U = true) :
    Back l R p e below s sargs y len W (PreOf R rm.cells rm.slots Pc) (PostOf Qc mc ms free) := by
  refine Back.of_free (S := headSpec ws rm) (P := Pc) (K := fun _ _ _ _ _ => True) (Q := fun a st o t => Qc a st o t ∧ ∃ L, FrameEnd st o t L mc ms ∧ ∀ q ∈ L, free q.base) (bytes := bytes) (maxL := maxL) (ret := ret)
    (E := fun a st o t L k n => k = mc ∧ n = ms ∧ ∀ q ∈ L, free q.base) hM hframes hlocals ?_ ?_ (fun _ _ _ _ _ _ _ _ _ => trivial) ?_ ?_
  · intro m meth c A a X hp
    exact ⟨atoms_intro fun w hw => hws w hw _ _ X.warmed, hws _ hcode _ _ X.warmed, hinit _ _ X.warmed, hp.1, hp.2.1⟩
  · intro m meth c A a g mk X hp
    exact hblind _ _ _ _ hp.2.2
  · intro a st o t ⟨hq, L, hF, hL⟩
    exact ⟨L, mc, ms, hF, rfl, rfl, hL⟩
  · intro m meth c A a g mk v t L k n X hp hq hF ⟨e1, e2, hL⟩
    subst e1; subst e2
    exact ⟨g, mk, t, L, rfl, rfl, hq.1, rfl, hL, rfl, rfl⟩
/-- the words of a method that is called -/
def MW (y2 : MethodName) (cc2 : ByteArray) (nL2 : Nat) (ret2 : Option FieldType) (np : Nat) : Prop := Cond.initialized y2.cls ∈ wtbl ∧ Cond.code y2 cc2 nL2 ret2 ∈ wtbl ∧ (y2.cls ≠ "java/lang/invoke/MethodHandle" ∧ y2.cls ≠ "java/lang/invoke/VarHandle") ∧ (parseMethodDescriptor y2.desc).map (fun d => d.parameters.length) = some np ∧ nL2 ≤ 21
theorem Pcc_blind (g : Gx) (av : List Value) (w : Mm) : FrameBlind (Pcc g av w) := fun a U g' mk h => ⟨h.1, h.2.1, h.2.2.1, Kn.vm (s := U) (U := U.calling g' mk a) rfl h.2.2.2.1, h.2.2.2.2⟩
theorem back_call {g : Gx} {R : Room} {p : Program} {e : Env} {below : List Frame} {s : State} {sargs : Array Value} {d : Nat} {y2 : MethodName} {cc2 : ByteArray} {nL2 np : Nat} {ret2 : Option FieldType} {av : List Value} {w w' : Mm} {r : Option Value} (hC : Call g d y2 cc2 nL2 ret2 av w r w') (mw : MW y2 cc2 nL2 ret2 np) (hkn : Kn g s) (hfr : d + 1 ≤ R.frames) (hlo : 40 * (d + 1) ≤ R.locals) :
    Back g.1 R p e below s sargs y2 3 8 (PreOf R (CAP - mlen w) (SCAP - mslots w) (Pcc g av w)) (PostOf (Qcc g w r w') (mlen w' - mlen w) (mslots w' - mslots w) (fun q => g.2.1 ≤ q)) := by
  obtain ⟨h1, h2, h3, h4, h5⟩ := mw
  refine back2 (bytes := cc2) (maxL := nL2) (ret := ret2) hC (Pcc_blind g av w) hfr (by show 8 + (nL2 + 11) + 40 * d ≤ _; omega) (fun x hx a' U hW => ?_) List.mem_cons_self (fun a' U hW => (Kn.moved hW hkn).use h1)
  rw [List.mem_singleton.mp hx]
  exact (Kn.moved hW hkn).use h2
theorem pre_call {g : Gx} {R : Room} {s : State} {d : Nat} {av : List Value} {w w0 : Mm} {T : State} {locs : List Loc} {vm₁ : Vm} (hrc : R.cells = CAP - mlen w0) (hrs : R.slots = SCAP - mslots w0) (hm : mono w0 w) (hkn : Kn g s) (hW : s.WarmedH vm₁) (hH : HRx g w T.heap) (hz : T.heap.size = g.2.1 + mlen w) :
    PreOf R (CAP - mlen w) (SCAP - mslots w) (Pcc g av w) ⟨T.setVm vm₁, locs, mlen w - mlen w0, mslots w - mslots w0⟩ av.toArray := by
  obtain ⟨h1, h2, h3, h4⟩ := hm
  refine ⟨?_, ?_, rfl, hH, hz, Kn.moved (U := T.setVm vm₁) hW hkn, h3, h4⟩
  · show mlen w - mlen w0 + (CAP - mlen w) ≤ _; omega
  · show mslots w - mslots w0 + (SCAP - mslots w) ≤ _; omega
theorem fin_call {g : Gx} {p : Program} {e : Env} {R : Room} {s : State} {m : MethodId} {args : Array Value} {below : List Frame} {meth : Method} {c : Code} {w0 w w' : Mm} {nL : Nat} {Q : State → Prop} {pc : Nat} {L : List (Option Value)} {st st1 : List Value} {ls : Array Slot} {H : Heap} {locs Lx : List Loc} {T U' t st' : State} {r v : Option Value} {a : Array Value} {l2 : List Loc} {c2 s2 : Nat}
    (hS : va_S (fun q => g.2.1 ≤ q) s.heap H locs) (hl : lv_has ls nL (pr 0 L)) (hm : mono w0 w) (hsz : s.heap.size = g.2.1 + mlen w0) (hq : Qcc g w r w' a st' (.returned v) t) (hst' : st'.heap = H) (e1 : U'.heap = t.heap) (hLx : ∀ q ∈ Lx, g.2.1 ≤ q.base) (h1 : l2 = locs ++ Lx) (h2 : c2 = mlen w - mlen w0 + (mlen w' - mlen w)) (h3 : s2 = mslots w - mslots w0 + (mslots w' - mslots w))
    (X' : Stand p g.1 e R s m args below meth c U' l2 c2 s2) (hst1 : r.toList ++ st = st1) (k : vq g p e R s m args below meth c w0 nL Q (pc + 3) L st1 w')
    (stp : ∀ target, Steps p.tables e below (U'.setTop { (F0 m pc ls st) with pc := pc + 3, stack := v.toList ++ st }) target → Steps p.tables e below T target) : ∃ t, Steps p.tables e below T t ∧ Q t := by
  obtain ⟨hv, hHR, hmm, hlow⟩ := hq
  have hv : v = r := Outcome.returned.inj hv
  subst hv
  subst h1
  obtain ⟨a1, a2, a3, a4⟩ := hm
  obtain ⟨b1, b2, b3, b4⟩ := hmm
  have hc : c2 = mlen w' - mlen w0 := by omega
  have hs2 : s2 = mslots w' - mslots w0 := by omega
  subst hc
  subst hs2
  have hH' : HRx g w' U'.heap := by rw [e1]; exact hHR
  obtain ⟨t2, q1, q2⟩ := k U'.heap (locs ++ Lx) ls hH' ⟨by have := hH'.2; omega, fun q h1 h2 => by rw [e1, hlow q (by omega), hst']; exact hS.2.1 q h1 h2, fun q hq => by
    rcases List.mem_append.mp hq with h | h
    · exact hS.2.2 q h
    · exact hLx q h⟩ hl ⟨by omega, by omega, b3, b4⟩ U' rfl X'
  rw [← hst1] at q1
  exact ⟨t2, stp t2 q1, q2⟩
section Rules4
variable {g : Gx} {y : MethodName} {cc : ByteArray} {nL : Nat} {d : Nat} {V : Vt} {pc : Nat} {L : List (Option Value)} {st : List Value} {w : Mm}
variable {idx nL2 np t : Nat} {y2 : MethodName} {cc2 : ByteArray} {ret2 : Option FieldType} {C : String} {T : u_T} {c : Nat} {As st0 st1 : List Value} {r : Option Value} {w' : Mm} {host : String}

theorem i_callV (S : MachB g y cc nL d V) (hC : Call g d y2 cc2 nL2 ret2 (rf g c :: As) w r w') (mw : MW y2 cc2 nL2 ret2 np) (hl0 : Cond.methodLink y.cls idx y2 ∈ wtbl) (hi0 : Cond.instanceMethod y2 ∈ wtbl) (hs0 : Cond.selects C y2 y2 ∈ wtbl) (hcl : vwCl[t]? = some (C, T, nF t)) (ht : t < 20) (hk : gK w c = some (t, nF t)) (hd : decode cc pc = .ok (.invokevirtual idx, 3)) (hn : As.length = np) (hst : st0 = As.reverse ++ rf g c :: st) (h8 : (st.map fun v => v.category).sum ≤ 8) (hst1 : r.toList ++ st = st1) (kk : V (pc + 3) L st1 w') : V pc L st0 w := by
  obtain ⟨p, e, R, s, m, args, below, meth, c0, w0, Q, rfl, hx, hb, hml, hown, hkn, hsz, hnm, hc1, hc2, hfr, hlo, hrc, hrs⟩ := S
  intro H locs ls hH hS hl hm
  intro T1 hT X
  have hz : T1.heap.size = g.2.1 + mlen w := hsize (k0 := 0) X hsz hm (by rw [hT]; exact hH)
  have hK := back_call (R := R) (p := p) (e := e) (below := below) (sargs := args) hC mw hkn hfr hlo
  have hlen : ∀ sig, parseMethodDescriptor y2.desc = some sig → As.length = sig.parameters.length := fun sig h => by
    have h2 := mw.2.2.2.1
    rw [h] at h2
    exact hn.trans (Option.some.inj h2).symm
  obtain ⟨v, vm₁, ⟨U', l2, c2, s2⟩, hW₁, X', ⟨g', mk, t2, Lx, e1, e2, hq, h1, hL, h2, h3⟩, stp⟩ := callV X hx (C := C) (bytes := cc2) (maxL := nL2) (ret := ret2) hown (hkn.use hl0) (hkn.use hi0) (hkn.use hs0) (hkn.use mw.2.1) mw.2.2.1 hK (b := g.2.1 + c) (by rw [hT]; exact (va_recv hkn.1 hH.1 hcl (q0 := c) (by rw [wl_get hk, ce_obj ht])).choose_spec.1) (va_recv hkn.1 hH.1 hcl (q0 := c) (by rw [wl_get hk, ce_obj ht])).choose_spec.2.1 (va_recv hkn.1 hH.1 hcl (q0 := c) (by rw [wl_get hk, ce_obj ht])).choose_spec.2.2 (g := F0 m pc ls st0) rfl (by rw [hml]; exact hl.1) (argsL := As) (rest := st) hlen hst (by show 2 * 0 + _ ≤ 8; omega) (by rw [hb]; exact hd)
    (fun vm₁ hW₁ => pre_call (d := d) hrc hrs hm hkn hW₁ (by rw [hT]; exact hH) hz)
  dsimp only [Pt.U, Pt.locs, Pt.cells, Pt.slots] at X' e1 e2 h1 h2 h3 stp
  exact fin_call hS hl hm hsz hq hT e1 hL h1 h2 h3 X' hst1 kk stp
theorem i_callS (S : MachB g y cc nL d V) (hC : Call g d y2 cc2 nL2 ret2 (As) w r w') (mw : MW y2 cc2 nL2 ret2 np) (hl0 : Cond.methodLink y.cls idx y2 ∈ wtbl) (hi0 : Cond.static y2 ∈ wtbl) (hd : decode cc pc = .ok (.invokestatic idx, 3)) (hn : As.length = np) (hst : st0 = As.reverse ++ st) (h8 : (st.map fun v => v.category).sum ≤ 8) (hst1 : r.toList ++ st = st1) (kk : V (pc + 3) L st1 w') : V pc L st0 w := by
  obtain ⟨p, e, R, s, m, args, below, meth, c0, w0, Q, rfl, hx, hb, hml, hown, hkn, hsz, hnm, hc1, hc2, hfr, hlo, hrc, hrs⟩ := S
  intro H locs ls hH hS hl hm
  intro T1 hT X
  have hz : T1.heap.size = g.2.1 + mlen w := hsize (k0 := 0) X hsz hm (by rw [hT]; exact hH)
  have hK := back_call (R := R) (p := p) (e := e) (below := below) (sargs := args) hC mw hkn hfr hlo
  have hlen : ∀ sig, parseMethodDescriptor y2.desc = some sig → As.length = sig.parameters.length := fun sig h => by
    have h2 := mw.2.2.2.1
    rw [h] at h2
    exact hn.trans (Option.some.inj h2).symm
  obtain ⟨v, vm₁, ⟨U', l2, c2, s2⟩, hW₁, X', ⟨g', mk, t2, Lx, e1, e2, hq, h1, hL, h2, h3⟩, stp⟩ := callS X hx (bytes := cc2) (maxL := nL2) (ret := ret2) hown (hkn.use hl0) (hkn.use hi0) (hkn.use mw.1) (hkn.use mw.2.1) mw.2.2.1 hK (g := F0 m pc ls st0) rfl (by rw [hml]; exact hl.1) (argsL := As) (rest := st) hlen hst (by show 2 * 0 + _ ≤ 8; omega) (by rw [hb]; exact hd)
    (fun vm₁ hW₁ => pre_call (d := d) hrc hrs hm hkn hW₁ (by rw [hT]; exact hH) hz)
  dsimp only [Pt.U, Pt.locs, Pt.cells, Pt.slots] at X' e1 e2 h1 h2 h3 stp
  exact fin_call hS hl hm hsz hq hT e1 hL h1 h2 h3 X' hst1 kk stp
theorem i_callSN (S : MachB g y cc nL d V) (hC : Call g d y2 cc2 nL2 ret2 (As) w r w') (mw : MW y2 cc2 nL2 ret2 np) (hl0 : Cond.methodLinkNest y.cls idx y2 host ∈ wtbl) (hi0 : Cond.static y2 ∈ wtbl) (hd : decode cc pc = .ok (.invokestatic idx, 3)) (hn : As.length = np) (hst : st0 = As.reverse ++ st) (h8 : (st.map fun v => v.category).sum ≤ 8) (hst1 : r.toList ++ st = st1) (kk : V (pc + 3) L st1 w') : V pc L st0 w := by
  obtain ⟨p, e, R, s, m, args, below, meth, c0, w0, Q, rfl, hx, hb, hml, hown, hkn, hsz, hnm, hc1, hc2, hfr, hlo, hrc, hrs⟩ := S
  intro H locs ls hH hS hl hm
  intro T1 hT X
  have hz : T1.heap.size = g.2.1 + mlen w := hsize (k0 := 0) X hsz hm (by rw [hT]; exact hH)
  have hK := back_call (R := R) (p := p) (e := e) (below := below) (sargs := args) hC mw hkn hfr hlo
  have hlen : ∀ sig, parseMethodDescriptor y2.desc = some sig → As.length = sig.parameters.length := fun sig h => by
    have h2 := mw.2.2.2.1
    rw [h] at h2
    exact hn.trans (Option.some.inj h2).symm
  obtain ⟨v, vm₁, ⟨U', l2, c2, s2⟩, hW₁, X', ⟨g', mk, t2, Lx, e1, e2, hq, h1, hL, h2, h3⟩, stp⟩ := va_callSN X hx (bytes := cc2) (maxL := nL2) (ret := ret2) hown (hkn.use hl0) (hkn.use hi0) (hkn.use mw.1) (hkn.use mw.2.1) mw.2.2.1 hK (g := F0 m pc ls st0) rfl (by rw [hml]; exact hl.1) (argsL := As) (rest := st) hlen hst (by show 2 * 0 + _ ≤ 8; omega) (by rw [hb]; exact hd)
    (fun vm₁ hW₁ => pre_call (d := d) hrc hrs hm hkn hW₁ (by rw [hT]; exact hH) hz)
  dsimp only [Pt.U, Pt.locs, Pt.cells, Pt.slots] at X' e1 e2 h1 h2 h3 stp
  exact fin_call hS hl hm hsz hq hT e1 hL h1 h2 h3 X' hst1 kk stp
theorem i_callI (S : MachB g y cc nL d V) (hC : Call g d y2 cc2 nL2 ret2 (rf g c :: As) w r w') (mw : MW y2 cc2 nL2 ret2 np) (hr2 : ret2 = none) (hy2 : y2.name = "<init>") (hl0 : Cond.methodLink y.cls idx y2 ∈ wtbl) (hi0 : Cond.instanceMethod y2 ∈ wtbl) (hd : decode cc pc = .ok (.invokespecial idx, 3)) (hn : As.length = np) (hst : st0 = As.reverse ++ rf g c :: st) (h8 : (st.map fun v => v.category).sum ≤ 8) (hst1 : r.toList ++ st = st1) (kk : V (pc + 3) L st1 w') : V pc L st0 w := by
  obtain ⟨p, e, R, s, m, args, below, meth, c0, w0, Q, rfl, hx, hb, hml, hown, hkn, hsz, hnm, hc1, hc2, hfr, hlo, hrc, hrs⟩ := S
  intro H locs ls hH hS hl hm
  intro T1 hT X
  have hz : T1.heap.size = g.2.1 + mlen w := hsize (k0 := 0) X hsz hm (by rw [hT]; exact hH)
  have hK := back_call (R := R) (p := p) (e := e) (below := below) (sargs := args) hC mw hkn hfr hlo
  have hlen : ∀ sig, parseMethodDescriptor y2.desc = some sig → As.length = sig.parameters.length := fun sig h => by
    have h2 := mw.2.2.2.1
    rw [h] at h2
    exact hn.trans (Option.some.inj h2).symm
  obtain ⟨v, vm₁, ⟨U', l2, c2, s2⟩, hW₁, X', ⟨g', mk, t2, Lx, e1, e2, hq, h1, hL, h2, h3⟩, stp⟩ := callI X hx (bytes := cc2) (maxL := nL2) hown hy2 (hkn.use hl0) (hkn.use hi0) (by rw [← hr2]; exact hkn.use mw.2.1) mw.2.2.1 hK (a := g.2.1 + c) (g := F0 m pc ls st0) rfl (by rw [hml]; exact hl.1) (argsL := As) (rest := st) hlen hst (by show 2 * 0 + _ ≤ 8; omega) (by rw [hb]; exact hd)
    (fun vm₁ hW₁ => pre_call (d := d) hrc hrs hm hkn hW₁ (by rw [hT]; exact hH) hz)
  dsimp only [Pt.U, Pt.locs, Pt.cells, Pt.slots] at X' e1 e2 h1 h2 h3 stp
  exact fin_call hS hl hm hsz hq hT e1 hL h1 h2 h3 X' hst1 kk stp
theorem i_callIN (S : MachB g y cc nL d V) (hC : Call g d y2 cc2 nL2 ret2 (rf g c :: As) w r w') (mw : MW y2 cc2 nL2 ret2 np) (hr2 : ret2 = none) (hy2 : y2.name = "<init>") (hl0 : Cond.methodLinkNest y.cls idx y2 host ∈ wtbl) (hi0 : Cond.instanceMethod y2 ∈ wtbl) (hd : decode cc pc = .ok (.invokespecial idx, 3)) (hn : As.length = np) (hst : st0 = As.reverse ++ rf g c :: st) (h8 : (st.map fun v => v.category).sum ≤ 8) (hst1 : r.toList ++ st = st1) (kk : V (pc + 3) L st1 w') : V pc L st0 w := by
  obtain ⟨p, e, R, s, m, args, below, meth, c0, w0, Q, rfl, hx, hb, hml, hown, hkn, hsz, hnm, hc1, hc2, hfr, hlo, hrc, hrs⟩ := S
  intro H locs ls hH hS hl hm
  intro T1 hT X
  have hz : T1.heap.size = g.2.1 + mlen w := hsize (k0 := 0) X hsz hm (by rw [hT]; exact hH)
  have hK := back_call (R := R) (p := p) (e := e) (below := below) (sargs := args) hC mw hkn hfr hlo
  have hlen : ∀ sig, parseMethodDescriptor y2.desc = some sig → As.length = sig.parameters.length := fun sig h => by
    have h2 := mw.2.2.2.1
    rw [h] at h2
    exact hn.trans (Option.some.inj h2).symm
  obtain ⟨v, vm₁, ⟨U', l2, c2, s2⟩, hW₁, X', ⟨g', mk, t2, Lx, e1, e2, hq, h1, hL, h2, h3⟩, stp⟩ := va_callIN X hx (bytes := cc2) (maxL := nL2) hown hy2 (hkn.use hl0) (hkn.use hi0) (by rw [← hr2]; exact hkn.use mw.2.1) mw.2.2.1 hK (a := g.2.1 + c) (g := F0 m pc ls st0) rfl (by rw [hml]; exact hl.1) (argsL := As) (rest := st) hlen hst (by show 2 * 0 + _ ≤ 8; omega) (by rw [hb]; exact hd)
    (fun vm₁ hW₁ => pre_call (d := d) hrc hrs hm hkn hW₁ (by rw [hT]; exact hH) hz)
  dsimp only [Pt.U, Pt.locs, Pt.cells, Pt.slots] at X' e1 e2 h1 h2 h3 stp
  exact fin_call hS hl hm hsz hq hT e1 hL h1 h2 h3 X' hst1 kk stp
end Rules4
