section Rules6
variable {g : Gx} {y : MethodName} {cc : ByteArray} {nL : Nat} {d : Nat} {V : Vt} {pc : Nat} {L : List (Option Value)} {st : List Value} {w : Mm}
theorem i_getIv (S : MachB g y cc nL d V) {c t k idx : Nat} {fin : Bool} {v : Int32} (fl : FL y.cls idx t k fin) (hk : gK w c = some (t, nF t)) (hty : ftag (vTy t k) = 0) (hv : gI w c k = v) (hd : decode cc pc = .ok (.getfield idx, 3)) (kk : V (pc + 3) L (.int v :: st) w) : V pc L (rf g c :: st) w := i_getI S fl hk hty hd (by rw [hv]; exact kk)
theorem i_getLv (S : MachB g y cc nL d V) {c t k idx : Nat} {fin : Bool} {v : Int64} (fl : FL y.cls idx t k fin) (hk : gK w c = some (t, nF t)) (hty : ftag (vTy t k) = 1) (hv : gL w c k = v) (hd : decode cc pc = .ok (.getfield idx, 3)) (kk : V (pc + 3) L (.long v :: st) w) : V pc L (rf g c :: st) w := i_getL S fl hk hty hd (by rw [hv]; exact kk)
theorem i_ialdv (S : MachB g y cc nL d V) {c n : Nat} {i : Int32} {v : Int32} (hk : gK w c = some (20, n)) (hin : inb i n = true) (hv : gI w c (ix i) = v) (hd : decode cc pc = .ok (.iaload, 1)) (kk : V (pc + 1) L (.int v :: st) w) : V pc L (.int i :: rf g c :: st) w := i_iald S hk hin hd (by rw [hv]; exact kk)
theorem i_zaldv (S : MachB g y cc nL d V) {c n : Nat} {i : Int32} {v : Int32} (hk : gK w c = some (22, n)) (hin : inb i n = true) (hv : gI w c (ix i) = v) (hd : decode cc pc = .ok (.baload, 1)) (kk : V (pc + 1) L (.int v :: st) w) : V pc L (.int i :: rf g c :: st) w := i_zald S hk hin hd (by rw [hv]; exact kk)
theorem i_baldv (S : MachB g y cc nL d V) {c n : Nat} {i : Int32} {v : Int32} (hk : gK w c = some (23, n)) (hin : inb i n = true) (hv : gI w c (ix i) = v) (hd : decode cc pc = .ok (.baload, 1)) (kk : V (pc + 1) L (.int v :: st) w) : V pc L (.int i :: rf g c :: st) w := i_bald S hk hin hd (by rw [hv]; exact kk)
theorem i_laldv (S : MachB g y cc nL d V) {c n : Nat} {i : Int32} {v : Int64} (hk : gK w c = some (21, n)) (hin : inb i n = true) (hv : gL w c (ix i) = v) (hd : decode cc pc = .ok (.laload, 1)) (kk : V (pc + 1) L (.long v :: st) w) : V pc L (.int i :: rf g c :: st) w := i_lald S hk hin hd (by rw [hv]; exact kk)
/-- a new cell: its number, the memory with it; none if there is no room -/
def alq (w : Mm) (t n : Nat) : Option (Nat × Mm) := if mlen w + 1 ≤ CAP ∧ mslots w + n ≤ SCAP then some (mlen w, al w t n) else none
theorem alqn {w : Mm} {t n : Nat} {p : Nat × Mm} (h : alq w t n = some p) : cap w n ∧ p.1 = mlen w ∧ p.2 = al w t n := by
  unfold alq at h
  split at h
  · rename_i hc
    cases h
    exact ⟨hc, rfl, rfl⟩
  · cases h
theorem alq_K {w : Mm} {t n : Nat} {p : Nat × Mm} (h : alq w t n = some p) : gK p.2 p.1 = some (t, n) := by
  obtain ⟨-, h1, h2⟩ := alqn h
  rw [h1, h2]
  exact gK_alS w t n
theorem alq_old {w : Mm} {t n c : Nat} {p : Nat × Mm} {q : Nat × Nat} (h : alq w t n = some p) (hk : gK w c = some q) : gK p.2 c = some q := by
  obtain ⟨-, -, h2⟩ := alqn h
  rw [h2]
  exact gK_al hk
theorem i_newq (S : MachB g y cc nL d V) {idx t : Nat} {p : Nat × Mm} (cl : CL y.cls idx t) (h : alq w t (nF t) = some p) (hd : decode cc pc = .ok (.new idx, 3)) (kk : V (pc + 3) L (rf g p.1 :: st) p.2) : V pc L st w := by
  obtain ⟨hc, h1, h2⟩ := alqn h
  rw [h1, h2] at kk
  exact i_new S cl hc hd kk
theorem i_newaqI (S : MachB g y cc nL d V) {n : Int32} {N : Nat} {p : Nat × Mm} (hw : Cond.arrayClass .int ∈ wtbl) (hN : n.toNatClampNeg = N) (hn : ¬ n < 0) (hbytes : N * componentBytes .int ≤ 536870912) (h : alq w 20 N = some p) (hd : decode cc pc = .ok (.newarray .int, 2)) (kk : V (pc + 2) L (rf g p.1 :: st) p.2) : V pc L (.int n :: st) w := by
  obtain ⟨hc, h1, h2⟩ := alqn h
  rw [h1, h2] at kk
  exact i_newaI S hw hN hn hbytes hc hd kk
theorem i_newaqL (S : MachB g y cc nL d V) {n : Int32} {N : Nat} {p : Nat × Mm} (hw : Cond.arrayClass .long ∈ wtbl) (hN : n.toNatClampNeg = N) (hn : ¬ n < 0) (hbytes : N * componentBytes .long ≤ 536870912) (h : alq w 21 N = some p) (hd : decode cc pc = .ok (.newarray .long, 2)) (kk : V (pc + 2) L (rf g p.1 :: st) p.2) : V pc L (.int n :: st) w := by
  obtain ⟨hc, h1, h2⟩ := alqn h
  rw [h1, h2] at kk
  exact i_newaL S hw hN hn hbytes hc hd kk
theorem i_newaqZ (S : MachB g y cc nL d V) {n : Int32} {N : Nat} {p : Nat × Mm} (hw : Cond.arrayClass .boolean ∈ wtbl) (hN : n.toNatClampNeg = N) (hn : ¬ n < 0) (hbytes : N * componentBytes .boolean ≤ 536870912) (h : alq w 22 N = some p) (hd : decode cc pc = .ok (.newarray .boolean, 2)) (kk : V (pc + 2) L (rf g p.1 :: st) p.2) : V pc L (.int n :: st) w := by
  obtain ⟨hc, h1, h2⟩ := alqn h
  rw [h1, h2] at kk
  exact i_newaZ S hw hN hn hbytes hc hd kk
theorem i_newaqB (S : MachB g y cc nL d V) {n : Int32} {N : Nat} {p : Nat × Mm} (hw : Cond.arrayClass .byte ∈ wtbl) (hN : n.toNatClampNeg = N) (hn : ¬ n < 0) (hbytes : N * componentBytes .byte ≤ 536870912) (h : alq w 23 N = some p) (hd : decode cc pc = .ok (.newarray .byte, 2)) (kk : V (pc + 2) L (rf g p.1 :: st) p.2) : V pc L (.int n :: st) w := by
  obtain ⟨hc, h1, h2⟩ := alqn h
  rw [h1, h2] at kk
  exact i_newaB S hw hN hn hbytes hc hd kk
theorem i_anewq24 (S : MachB g y cc nL d V) {n : Int32} {N idx : Nat} {p : Nat × Mm} (hw : Cond.classLink y.cls idx "WordYear$Speech" ∈ wtbl) (hw2 : Cond.arrayOver (.object "WordYear$Speech") ∈ wtbl) (hN : n.toNatClampNeg = N) (hn : ¬ n < 0) (hbytes : N * 4 ≤ 536870912) (h : alq w 24 N = some p) (hd : decode cc pc = .ok (.anewarray idx, 3)) (kk : V (pc + 3) L (rf g p.1 :: st) p.2) : V pc L (.int n :: st) w := by
  obtain ⟨hc, h1, h2⟩ := alqn h
  rw [h1, h2] at kk
  exact i_anew24 S hw hw2 hN hn hbytes hc hd kk
theorem i_anewq25 (S : MachB g y cc nL d V) {n : Int32} {N idx : Nat} {p : Nat × Mm} (hw : Cond.classLink y.cls idx "WordYear$Rule" ∈ wtbl) (hw2 : Cond.arrayOver (.object "WordYear$Rule") ∈ wtbl) (hN : n.toNatClampNeg = N) (hn : ¬ n < 0) (hbytes : N * 4 ≤ 536870912) (h : alq w 25 N = some p) (hd : decode cc pc = .ok (.anewarray idx, 3)) (kk : V (pc + 3) L (rf g p.1 :: st) p.2) : V pc L (.int n :: st) w := by
  obtain ⟨hc, h1, h2⟩ := alqn h
  rw [h1, h2] at kk
  exact i_anew25 S hw hw2 hN hn hbytes hc hd kk
theorem mn_c : Cond.code Lib.Math.min.name Lib.Math.min.code 2 (some .int) ∈ wtbl := tb_in (i := 640) (by decide +kernel) rfl
theorem mn_s : Cond.static Lib.Math.min.name ∈ wtbl := tb_in (i := 639) (by decide +kernel) rfl
theorem mn_i : Cond.initialized "java/lang/Math" ∈ wtbl := tb_in (i := 16) (by decide +kernel) rfl
def mn (x y : Int32) : Int32 := if y < x then y else x
theorem i_min (S : MachB g y cc nL d V) {idx : Nat} {x y1 : Int32} (hl0 : Cond.methodLink y.cls idx Lib.Math.min.name ∈ wtbl) (hd : decode cc pc = .ok (.invokestatic idx, 3)) (h8 : (st.map fun v => v.category).sum ≤ 8) (kk : V (pc + 3) L (.int (mn x y1) :: st) w) : V pc L (.int y1 :: .int x :: st) w := by
  obtain ⟨p, e, R, s, m, args, below, meth, cd, w0, Q, rfl, hx, hb, hml, hown, hkn, hsz, hnm, hc1, hc2, hfr, hlo, hrc, hrs⟩ := S
  intro H locs ls hH hS hl hm
  obtain ⟨a1, a2, a3, a4⟩ := hm
  exact va_mmin hx hb (by rw [hml]; exact hl.1.symm) hown (hkn.use hl0) (hkn.use mn_s) (hkn.use mn_i) (hkn.use mn_c) (by omega) (by omega) (by rw [hrc]; omega) (by rw [hrs]; omega) hd (kk H locs ls hH hS hl ⟨a1, a2, a3, a4⟩)
end Rules6
theorem Call.lift {g : Gx} {d d2 : Nat} {y : MethodName} {cc : ByteArray} {maxL : Nat} {ret : Option FieldType} {av : List Value} {w w2 : Mm} {rv : Option Value} (e : d = d2) (h : Call g d y cc maxL ret av w rv w2) : Call g d2 y cc maxL ret av w rv w2 := e ▸ h
theorem ci_d0 {C : String} {T : u_T} (h : CI 0 C T) (k : Nat) (hk : k < nF 0) : (T k).1 = RX0 := by
  have h1 : some (RX0, TX0, nF 0) = some (C, T, nF 0) := h.1
  cases h1
  revert k
  decide +kernel
theorem ci_d1 {C : String} {T : u_T} (h : CI 1 C T) (k : Nat) (hk : k < nF 1) : (T k).1 = RX1 := by
  have h1 : some (RX1, TX1, nF 1) = some (C, T, nF 1) := h.1
  cases h1
  revert k
  decide +kernel
theorem ci_d2 {C : String} {T : u_T} (h : CI 2 C T) (k : Nat) (hk : k < nF 2) : (T k).1 = RX2 := by
  have h1 : some (RX2, TX2, nF 2) = some (C, T, nF 2) := h.1
  cases h1
  revert k
  decide +kernel
theorem ci_d3 {C : String} {T : u_T} (h : CI 3 C T) (k : Nat) (hk : k < nF 3) : (T k).1 = RX3 := by
  have h1 : some (RX3, TX3, nF 3) = some (C, T, nF 3) := h.1
  cases h1
  revert k
  decide +kernel
theorem ci_d4 {C : String} {T : u_T} (h : CI 4 C T) (k : Nat) (hk : k < nF 4) : (T k).1 = RX4 := by
  have h1 : some (RX4, TX4, nF 4) = some (C, T, nF 4) := h.1
  cases h1
  revert k
  decide +kernel
theorem ci_d5 {C : String} {T : u_T} (h : CI 5 C T) (k : Nat) (hk : k < nF 5) : (T k).1 = RX5 := by
  have h1 : some (RX5, TX5, nF 5) = some (C, T, nF 5) := h.1
  cases h1
  revert k
  decide +kernel
theorem ci_d6 {C : String} {T : u_T} (h : CI 6 C T) (k : Nat) (hk : k < nF 6) : (T k).1 = RX6 := by
  have h1 : some (RX6, TX6, nF 6) = some (C, T, nF 6) := h.1
  cases h1
  revert k
  decide +kernel
theorem ci_d7 {C : String} {T : u_T} (h : CI 7 C T) (k : Nat) (hk : k < nF 7) : (T k).1 = RX7 := by
  have h1 : some (RX7, TX7, nF 7) = some (C, T, nF 7) := h.1
  cases h1
  revert k
  decide +kernel
theorem ci_d8 {C : String} {T : u_T} (h : CI 8 C T) (k : Nat) (hk : k < nF 8) : (T k).1 = RX8 := by
  have h1 : some (RX8, TX8, nF 8) = some (C, T, nF 8) := h.1
  cases h1
  revert k
  decide +kernel
theorem ci_d9 {C : String} {T : u_T} (h : CI 9 C T) (k : Nat) (hk : k < nF 9) : (T k).1 = RX9 := by
  have h1 : some (RX9, TX9, nF 9) = some (C, T, nF 9) := h.1
  cases h1
  revert k
  decide +kernel
theorem ci_d10 {C : String} {T : u_T} (h : CI 10 C T) (k : Nat) (hk : k < nF 10) : (T k).1 = RX10 := by
  have h1 : some (RX10, TX10, nF 10) = some (C, T, nF 10) := h.1
  cases h1
  revert k
  decide +kernel
theorem ci_d11 {C : String} {T : u_T} (h : CI 11 C T) (k : Nat) (hk : k < nF 11) : (T k).1 = RX11 := by
  have h1 : some (RX11, TX11, nF 11) = some (C, T, nF 11) := h.1
  cases h1
  revert k
  decide +kernel
theorem ci_d12 {C : String} {T : u_T} (h : CI 12 C T) (k : Nat) (hk : k < nF 12) : (T k).1 = RX12 := by
  have h1 : some (RX12, TX12, nF 12) = some (C, T, nF 12) := h.1
  cases h1
  revert k
  decide +kernel
def KLs : List (Nat × Nat) := [(11, 10), (3, 7), (20, 10), (20, 10), (20, 10), (20, 10), (1, 7), (20, 4), (20, 24), (20, 24), (20, 24), (20, 24), (8, 5), (20, 300), (9, 6), (24, 1024), (4, 10), (20, 160), (20, 160), (20, 12), (20, 12), (20, 12), (20, 8), (20, 24), (7, 10), (20, 64), (5, 2), (4, 10), (20, 160), (20, 160), (20, 12), (20, 12), (20, 12), (20, 8), (20, 24), (25, 4), (6, 9), (6, 9), (6, 9), (6, 9), (6, 9), (0, 5), (21, 10), (20, 40), (10, 2), (2, 3), (20, 10), (12, 64), (23, 300), (20, 10), (20, 10), (20, 10), (20, 10), (20, 4), (20, 24), (20, 24), (20, 24), (20, 24), (20, 12), (20, 12), (20, 12), (20, 160), (20, 160), (20, 12), (20, 12), (20, 12), (20, 160), (20, 160), (20, 200), (20, 200), (22, 200), (22, 1024), (20, 65536), (22, 1024), (21, 4096), (20, 1024), (21, 1024), (22, 64), (20, 64), (22, 4), (20, 4), (20, 40), (20, 16), (20, 10), (20, 4), (20, 64), (20, 64)]
def RLs : List (Nat × Nat × Nat) := [(0, 0, 1), (0, 1, 6), (0, 2, 12), (0, 3, 14), (0, 4, 26), (0, 5, 35), (0, 6, 40), (0, 7, 41), (0, 8, 44), (0, 9, 45), (1, 0, 2), (1, 1, 3), (1, 2, 4), (1, 3, 5), (6, 0, 7), (6, 1, 8), (6, 2, 9), (6, 3, 10), (6, 4, 11), (12, 0, 13), (14, 0, 1), (14, 1, 6), (14, 2, 15), (14, 3, 24), (14, 4, 16), (16, 0, 17), (16, 1, 18), (16, 2, 19), (16, 3, 20), (16, 4, 21), (16, 5, 22), (16, 6, 23), (24, 0, 1), (24, 1, 25), (26, 0, 12), (26, 1, 27), (27, 0, 28), (27, 1, 29), (27, 2, 30), (27, 3, 31), (27, 4, 32), (27, 5, 33), (27, 6, 34), (35, 0, 36), (35, 1, 37), (35, 2, 38), (35, 3, 39), (36, 0, 12), (36, 1, 1), (37, 0, 12), (37, 1, 1), (38, 0, 12), (38, 1, 1), (39, 0, 12), (39, 1, 1), (40, 0, 12), (40, 1, 1), (41, 0, 1), (41, 1, 6), (41, 2, 14), (41, 3, 42), (41, 4, 43), (44, 0, 1), (44, 1, 14), (45, 0, 1), (45, 1, 14), (45, 2, 46), (47, 0, 48), (47, 8, 49), (47, 9, 50), (47, 10, 51), (47, 11, 52), (47, 12, 53), (47, 13, 54), (47, 14, 55), (47, 15, 56), (47, 16, 57), (47, 18, 58), (47, 19, 59), (47, 20, 60), (47, 21, 61), (47, 22, 62), (47, 23, 63), (47, 24, 64), (47, 25, 65), (47, 26, 66), (47, 27, 67), (47, 37, 68), (47, 41, 69), (47, 42, 70), (47, 43, 71), (47, 44, 72), (47, 49, 73), (47, 50, 74), (47, 51, 75), (47, 52, 76), (47, 53, 77), (47, 54, 78), (47, 55, 79), (47, 56, 80), (47, 57, 81), (47, 58, 82), (47, 59, 83), (47, 60, 84), (47, 61, 85), (47, 63, 86)]
/-- the cells that the two constructors make, as they lie from then on -/
def LayG (q : (Nat → Nat → Option Nat) × List (Nat × Nat)) : Prop := (∀ c, c < 87 → q.2[c]? = KLs[c]?) ∧ ∀ x ∈ RLs, q.1 x.1 x.2.1 = some x.2.2
def Lay (w : Mm) : Prop := LayG w.2.2
theorem Lay.k {w : Mm} (h : Lay w) (c : Nat) (hc : c < 87) : gK w c = KLs[c]? := h.1 c hc
theorem Lay.r {w : Mm} (h : Lay w) {c k a : Nat} (hx : (c, k, a) ∈ RLs) : gR w c k = some a := h.2 (c, k, a) hx
theorem Lay.len {w : Mm} (h : Lay w) : 87 ≤ mlen w := by
  have h1 := h.k 86 (by decide)
  have h2 : gK w 86 = some (20, 64) := h1
  have := (List.getElem?_eq_some_iff.mp h2).1
  unfold mlen
  omega
theorem lay_al {w : Mm} {t n : Nat} (h : Lay w) : Lay (al w t n) := by
  have hl := h.len
  unfold mlen at hl
  refine ⟨fun c hc => ?_, fun x hx => ?_⟩
  · show (w.2.2.2 ++ [(t, n)])[c]? = _
    rw [List.getElem?_append_left (by omega)]
    exact h.1 c hc
  · show (row0 w.2.2.1 (mlen w) none) x.1 x.2.1 = _
    have hb : x.1 < 87 := by
      revert x
      decide +kernel
    rw [row0, if_neg (by unfold mlen; omega)]
    exact h.2 x hx
theorem lay_alq {w : Mm} {t n : Nat} {p : Nat × Mm} (e : alq w t n = some p) (h : Lay w) : Lay p.2 := by
  obtain ⟨-, -, h2⟩ := alqn e
  rw [h2]
  exact lay_al h
noncomputable def onL {α : Type} (w : Mm) (T : Option α) : Option α := @ite _ (Lay w) (Classical.propDecidable _) T none
theorem onLn {α : Type} {w : Mm} {T : Option α} {x : α} (h : onL w T = some x) : Lay w ∧ T = some x := by
  unfold onL at h
  split at h
  · rename_i hc; exact ⟨hc, h⟩
  · cases h
theorem onL_pos {α : Type} {w : Mm} (T : Option α) (h : Lay w) : onL w T = T := by
  unfold onL
  exact if_pos h
theorem k0 {w : Mm} (h : Lay w) : gK w 0 = some (11, 10) := h.k 0 (by decide)
theorem k1 {w : Mm} (h : Lay w) : gK w 1 = some (3, 7) := h.k 1 (by decide)
theorem k2 {w : Mm} (h : Lay w) : gK w 2 = some (20, 10) := h.k 2 (by decide)
theorem k3 {w : Mm} (h : Lay w) : gK w 3 = some (20, 10) := h.k 3 (by decide)
theorem k4 {w : Mm} (h : Lay w) : gK w 4 = some (20, 10) := h.k 4 (by decide)
theorem k5 {w : Mm} (h : Lay w) : gK w 5 = some (20, 10) := h.k 5 (by decide)
theorem k6 {w : Mm} (h : Lay w) : gK w 6 = some (1, 7) := h.k 6 (by decide)
theorem k7 {w : Mm} (h : Lay w) : gK w 7 = some (20, 4) := h.k 7 (by decide)
theorem k8 {w : Mm} (h : Lay w) : gK w 8 = some (20, 24) := h.k 8 (by decide)
theorem k9 {w : Mm} (h : Lay w) : gK w 9 = some (20, 24) := h.k 9 (by decide)
theorem k10 {w : Mm} (h : Lay w) : gK w 10 = some (20, 24) := h.k 10 (by decide)
theorem k11 {w : Mm} (h : Lay w) : gK w 11 = some (20, 24) := h.k 11 (by decide)
theorem k12 {w : Mm} (h : Lay w) : gK w 12 = some (8, 5) := h.k 12 (by decide)
theorem k13 {w : Mm} (h : Lay w) : gK w 13 = some (20, 300) := h.k 13 (by decide)
theorem k14 {w : Mm} (h : Lay w) : gK w 14 = some (9, 6) := h.k 14 (by decide)
theorem k15 {w : Mm} (h : Lay w) : gK w 15 = some (24, 1024) := h.k 15 (by decide)
theorem k16 {w : Mm} (h : Lay w) : gK w 16 = some (4, 10) := h.k 16 (by decide)
theorem k17 {w : Mm} (h : Lay w) : gK w 17 = some (20, 160) := h.k 17 (by decide)
theorem k18 {w : Mm} (h : Lay w) : gK w 18 = some (20, 160) := h.k 18 (by decide)
theorem k19 {w : Mm} (h : Lay w) : gK w 19 = some (20, 12) := h.k 19 (by decide)
theorem k20 {w : Mm} (h : Lay w) : gK w 20 = some (20, 12) := h.k 20 (by decide)
theorem k21 {w : Mm} (h : Lay w) : gK w 21 = some (20, 12) := h.k 21 (by decide)
theorem k22 {w : Mm} (h : Lay w) : gK w 22 = some (20, 8) := h.k 22 (by decide)
theorem k23 {w : Mm} (h : Lay w) : gK w 23 = some (20, 24) := h.k 23 (by decide)
theorem k24 {w : Mm} (h : Lay w) : gK w 24 = some (7, 10) := h.k 24 (by decide)
theorem k25 {w : Mm} (h : Lay w) : gK w 25 = some (20, 64) := h.k 25 (by decide)
theorem k26 {w : Mm} (h : Lay w) : gK w 26 = some (5, 2) := h.k 26 (by decide)
theorem k27 {w : Mm} (h : Lay w) : gK w 27 = some (4, 10) := h.k 27 (by decide)
theorem k28 {w : Mm} (h : Lay w) : gK w 28 = some (20, 160) := h.k 28 (by decide)
theorem k29 {w : Mm} (h : Lay w) : gK w 29 = some (20, 160) := h.k 29 (by decide)
theorem k30 {w : Mm} (h : Lay w) : gK w 30 = some (20, 12) := h.k 30 (by decide)
theorem k31 {w : Mm} (h : Lay w) : gK w 31 = some (20, 12) := h.k 31 (by decide)
theorem k32 {w : Mm} (h : Lay w) : gK w 32 = some (20, 12) := h.k 32 (by decide)
theorem k33 {w : Mm} (h : Lay w) : gK w 33 = some (20, 8) := h.k 33 (by decide)
theorem k34 {w : Mm} (h : Lay w) : gK w 34 = some (20, 24) := h.k 34 (by decide)
theorem k35 {w : Mm} (h : Lay w) : gK w 35 = some (25, 4) := h.k 35 (by decide)
theorem k36 {w : Mm} (h : Lay w) : gK w 36 = some (6, 9) := h.k 36 (by decide)
theorem k37 {w : Mm} (h : Lay w) : gK w 37 = some (6, 9) := h.k 37 (by decide)
theorem k38 {w : Mm} (h : Lay w) : gK w 38 = some (6, 9) := h.k 38 (by decide)
theorem k39 {w : Mm} (h : Lay w) : gK w 39 = some (6, 9) := h.k 39 (by decide)
theorem k40 {w : Mm} (h : Lay w) : gK w 40 = some (6, 9) := h.k 40 (by decide)
theorem k41 {w : Mm} (h : Lay w) : gK w 41 = some (0, 5) := h.k 41 (by decide)
theorem k42 {w : Mm} (h : Lay w) : gK w 42 = some (21, 10) := h.k 42 (by decide)
theorem k43 {w : Mm} (h : Lay w) : gK w 43 = some (20, 40) := h.k 43 (by decide)
theorem k44 {w : Mm} (h : Lay w) : gK w 44 = some (10, 2) := h.k 44 (by decide)
theorem k45 {w : Mm} (h : Lay w) : gK w 45 = some (2, 3) := h.k 45 (by decide)
theorem k46 {w : Mm} (h : Lay w) : gK w 46 = some (20, 10) := h.k 46 (by decide)
theorem k47 {w : Mm} (h : Lay w) : gK w 47 = some (12, 64) := h.k 47 (by decide)
theorem k48 {w : Mm} (h : Lay w) : gK w 48 = some (23, 300) := h.k 48 (by decide)
theorem k49 {w : Mm} (h : Lay w) : gK w 49 = some (20, 10) := h.k 49 (by decide)
theorem k50 {w : Mm} (h : Lay w) : gK w 50 = some (20, 10) := h.k 50 (by decide)
theorem k51 {w : Mm} (h : Lay w) : gK w 51 = some (20, 10) := h.k 51 (by decide)
theorem k52 {w : Mm} (h : Lay w) : gK w 52 = some (20, 10) := h.k 52 (by decide)
theorem k53 {w : Mm} (h : Lay w) : gK w 53 = some (20, 4) := h.k 53 (by decide)
theorem k54 {w : Mm} (h : Lay w) : gK w 54 = some (20, 24) := h.k 54 (by decide)
theorem k55 {w : Mm} (h : Lay w) : gK w 55 = some (20, 24) := h.k 55 (by decide)
theorem k56 {w : Mm} (h : Lay w) : gK w 56 = some (20, 24) := h.k 56 (by decide)
theorem k57 {w : Mm} (h : Lay w) : gK w 57 = some (20, 24) := h.k 57 (by decide)
theorem k58 {w : Mm} (h : Lay w) : gK w 58 = some (20, 12) := h.k 58 (by decide)
theorem k59 {w : Mm} (h : Lay w) : gK w 59 = some (20, 12) := h.k 59 (by decide)
theorem k60 {w : Mm} (h : Lay w) : gK w 60 = some (20, 12) := h.k 60 (by decide)
theorem k61 {w : Mm} (h : Lay w) : gK w 61 = some (20, 160) := h.k 61 (by decide)
theorem k62 {w : Mm} (h : Lay w) : gK w 62 = some (20, 160) := h.k 62 (by decide)
theorem k63 {w : Mm} (h : Lay w) : gK w 63 = some (20, 12) := h.k 63 (by decide)
theorem k64 {w : Mm} (h : Lay w) : gK w 64 = some (20, 12) := h.k 64 (by decide)
theorem k65 {w : Mm} (h : Lay w) : gK w 65 = some (20, 12) := h.k 65 (by decide)
theorem k66 {w : Mm} (h : Lay w) : gK w 66 = some (20, 160) := h.k 66 (by decide)
theorem k67 {w : Mm} (h : Lay w) : gK w 67 = some (20, 160) := h.k 67 (by decide)
theorem k68 {w : Mm} (h : Lay w) : gK w 68 = some (20, 200) := h.k 68 (by decide)
theorem k69 {w : Mm} (h : Lay w) : gK w 69 = some (20, 200) := h.k 69 (by decide)
theorem k70 {w : Mm} (h : Lay w) : gK w 70 = some (22, 200) := h.k 70 (by decide)
theorem k71 {w : Mm} (h : Lay w) : gK w 71 = some (22, 1024) := h.k 71 (by decide)
theorem k72 {w : Mm} (h : Lay w) : gK w 72 = some (20, 65536) := h.k 72 (by decide)
theorem k73 {w : Mm} (h : Lay w) : gK w 73 = some (22, 1024) := h.k 73 (by decide)
theorem k74 {w : Mm} (h : Lay w) : gK w 74 = some (21, 4096) := h.k 74 (by decide)
theorem k75 {w : Mm} (h : Lay w) : gK w 75 = some (20, 1024) := h.k 75 (by decide)
theorem k76 {w : Mm} (h : Lay w) : gK w 76 = some (21, 1024) := h.k 76 (by decide)
theorem k77 {w : Mm} (h : Lay w) : gK w 77 = some (22, 64) := h.k 77 (by decide)
theorem k78 {w : Mm} (h : Lay w) : gK w 78 = some (20, 64) := h.k 78 (by decide)
theorem k79 {w : Mm} (h : Lay w) : gK w 79 = some (22, 4) := h.k 79 (by decide)
theorem k80 {w : Mm} (h : Lay w) : gK w 80 = some (20, 4) := h.k 80 (by decide)
theorem k81 {w : Mm} (h : Lay w) : gK w 81 = some (20, 40) := h.k 81 (by decide)
theorem k82 {w : Mm} (h : Lay w) : gK w 82 = some (20, 16) := h.k 82 (by decide)
theorem k83 {w : Mm} (h : Lay w) : gK w 83 = some (20, 10) := h.k 83 (by decide)
theorem k84 {w : Mm} (h : Lay w) : gK w 84 = some (20, 4) := h.k 84 (by decide)
theorem k85 {w : Mm} (h : Lay w) : gK w 85 = some (20, 64) := h.k 85 (by decide)
theorem k86 {w : Mm} (h : Lay w) : gK w 86 = some (20, 64) := h.k 86 (by decide)
theorem r0_0 {w : Mm} (h : Lay w) : gR w 0 0 = some 1 := h.r (List.mem_of_getElem? (i := 0) rfl)
theorem r0_1 {w : Mm} (h : Lay w) : gR w 0 1 = some 6 := h.r (List.mem_of_getElem? (i := 1) rfl)
theorem r0_2 {w : Mm} (h : Lay w) : gR w 0 2 = some 12 := h.r (List.mem_of_getElem? (i := 2) rfl)
theorem r0_3 {w : Mm} (h : Lay w) : gR w 0 3 = some 14 := h.r (List.mem_of_getElem? (i := 3) rfl)
theorem r0_4 {w : Mm} (h : Lay w) : gR w 0 4 = some 26 := h.r (List.mem_of_getElem? (i := 4) rfl)
theorem r0_5 {w : Mm} (h : Lay w) : gR w 0 5 = some 35 := h.r (List.mem_of_getElem? (i := 5) rfl)
theorem r0_6 {w : Mm} (h : Lay w) : gR w 0 6 = some 40 := h.r (List.mem_of_getElem? (i := 6) rfl)
theorem r0_7 {w : Mm} (h : Lay w) : gR w 0 7 = some 41 := h.r (List.mem_of_getElem? (i := 7) rfl)
theorem r0_8 {w : Mm} (h : Lay w) : gR w 0 8 = some 44 := h.r (List.mem_of_getElem? (i := 8) rfl)
theorem r0_9 {w : Mm} (h : Lay w) : gR w 0 9 = some 45 := h.r (List.mem_of_getElem? (i := 9) rfl)
theorem r1_0 {w : Mm} (h : Lay w) : gR w 1 0 = some 2 := h.r (List.mem_of_getElem? (i := 10) rfl)
theorem r1_1 {w : Mm} (h : Lay w) : gR w 1 1 = some 3 := h.r (List.mem_of_getElem? (i := 11) rfl)
theorem r1_2 {w : Mm} (h : Lay w) : gR w 1 2 = some 4 := h.r (List.mem_of_getElem? (i := 12) rfl)
theorem r1_3 {w : Mm} (h : Lay w) : gR w 1 3 = some 5 := h.r (List.mem_of_getElem? (i := 13) rfl)
theorem r6_0 {w : Mm} (h : Lay w) : gR w 6 0 = some 7 := h.r (List.mem_of_getElem? (i := 14) rfl)
theorem r6_1 {w : Mm} (h : Lay w) : gR w 6 1 = some 8 := h.r (List.mem_of_getElem? (i := 15) rfl)
theorem r6_2 {w : Mm} (h : Lay w) : gR w 6 2 = some 9 := h.r (List.mem_of_getElem? (i := 16) rfl)
theorem r6_3 {w : Mm} (h : Lay w) : gR w 6 3 = some 10 := h.r (List.mem_of_getElem? (i := 17) rfl)
theorem r6_4 {w : Mm} (h : Lay w) : gR w 6 4 = some 11 := h.r (List.mem_of_getElem? (i := 18) rfl)
theorem r12_0 {w : Mm} (h : Lay w) : gR w 12 0 = some 13 := h.r (List.mem_of_getElem? (i := 19) rfl)
theorem r14_0 {w : Mm} (h : Lay w) : gR w 14 0 = some 1 := h.r (List.mem_of_getElem? (i := 20) rfl)
theorem r14_1 {w : Mm} (h : Lay w) : gR w 14 1 = some 6 := h.r (List.mem_of_getElem? (i := 21) rfl)
theorem r14_2 {w : Mm} (h : Lay w) : gR w 14 2 = some 15 := h.r (List.mem_of_getElem? (i := 22) rfl)
theorem r14_3 {w : Mm} (h : Lay w) : gR w 14 3 = some 24 := h.r (List.mem_of_getElem? (i := 23) rfl)
theorem r14_4 {w : Mm} (h : Lay w) : gR w 14 4 = some 16 := h.r (List.mem_of_getElem? (i := 24) rfl)
theorem r16_0 {w : Mm} (h : Lay w) : gR w 16 0 = some 17 := h.r (List.mem_of_getElem? (i := 25) rfl)
theorem r16_1 {w : Mm} (h : Lay w) : gR w 16 1 = some 18 := h.r (List.mem_of_getElem? (i := 26) rfl)
theorem r16_2 {w : Mm} (h : Lay w) : gR w 16 2 = some 19 := h.r (List.mem_of_getElem? (i := 27) rfl)
theorem r16_3 {w : Mm} (h : Lay w) : gR w 16 3 = some 20 := h.r (List.mem_of_getElem? (i := 28) rfl)
theorem r16_4 {w : Mm} (h : Lay w) : gR w 16 4 = some 21 := h.r (List.mem_of_getElem? (i := 29) rfl)
theorem r16_5 {w : Mm} (h : Lay w) : gR w 16 5 = some 22 := h.r (List.mem_of_getElem? (i := 30) rfl)
theorem r16_6 {w : Mm} (h : Lay w) : gR w 16 6 = some 23 := h.r (List.mem_of_getElem? (i := 31) rfl)
theorem r24_0 {w : Mm} (h : Lay w) : gR w 24 0 = some 1 := h.r (List.mem_of_getElem? (i := 32) rfl)
theorem r24_1 {w : Mm} (h : Lay w) : gR w 24 1 = some 25 := h.r (List.mem_of_getElem? (i := 33) rfl)
theorem r26_0 {w : Mm} (h : Lay w) : gR w 26 0 = some 12 := h.r (List.mem_of_getElem? (i := 34) rfl)
theorem r26_1 {w : Mm} (h : Lay w) : gR w 26 1 = some 27 := h.r (List.mem_of_getElem? (i := 35) rfl)
theorem r27_0 {w : Mm} (h : Lay w) : gR w 27 0 = some 28 := h.r (List.mem_of_getElem? (i := 36) rfl)
theorem r27_1 {w : Mm} (h : Lay w) : gR w 27 1 = some 29 := h.r (List.mem_of_getElem? (i := 37) rfl)
theorem r27_2 {w : Mm} (h : Lay w) : gR w 27 2 = some 30 := h.r (List.mem_of_getElem? (i := 38) rfl)
theorem r27_3 {w : Mm} (h : Lay w) : gR w 27 3 = some 31 := h.r (List.mem_of_getElem? (i := 39) rfl)
theorem r27_4 {w : Mm} (h : Lay w) : gR w 27 4 = some 32 := h.r (List.mem_of_getElem? (i := 40) rfl)
theorem r27_5 {w : Mm} (h : Lay w) : gR w 27 5 = some 33 := h.r (List.mem_of_getElem? (i := 41) rfl)
theorem r27_6 {w : Mm} (h : Lay w) : gR w 27 6 = some 34 := h.r (List.mem_of_getElem? (i := 42) rfl)
theorem r35_0 {w : Mm} (h : Lay w) : gR w 35 0 = some 36 := h.r (List.mem_of_getElem? (i := 43) rfl)
theorem r35_1 {w : Mm} (h : Lay w) : gR w 35 1 = some 37 := h.r (List.mem_of_getElem? (i := 44) rfl)
theorem r35_2 {w : Mm} (h : Lay w) : gR w 35 2 = some 38 := h.r (List.mem_of_getElem? (i := 45) rfl)
theorem r35_3 {w : Mm} (h : Lay w) : gR w 35 3 = some 39 := h.r (List.mem_of_getElem? (i := 46) rfl)
theorem r36_0 {w : Mm} (h : Lay w) : gR w 36 0 = some 12 := h.r (List.mem_of_getElem? (i := 47) rfl)
theorem r36_1 {w : Mm} (h : Lay w) : gR w 36 1 = some 1 := h.r (List.mem_of_getElem? (i := 48) rfl)
theorem r37_0 {w : Mm} (h : Lay w) : gR w 37 0 = some 12 := h.r (List.mem_of_getElem? (i := 49) rfl)
theorem r37_1 {w : Mm} (h : Lay w) : gR w 37 1 = some 1 := h.r (List.mem_of_getElem? (i := 50) rfl)
theorem r38_0 {w : Mm} (h : Lay w) : gR w 38 0 = some 12 := h.r (List.mem_of_getElem? (i := 51) rfl)
theorem r38_1 {w : Mm} (h : Lay w) : gR w 38 1 = some 1 := h.r (List.mem_of_getElem? (i := 52) rfl)
theorem r39_0 {w : Mm} (h : Lay w) : gR w 39 0 = some 12 := h.r (List.mem_of_getElem? (i := 53) rfl)
theorem r39_1 {w : Mm} (h : Lay w) : gR w 39 1 = some 1 := h.r (List.mem_of_getElem? (i := 54) rfl)
theorem r40_0 {w : Mm} (h : Lay w) : gR w 40 0 = some 12 := h.r (List.mem_of_getElem? (i := 55) rfl)
theorem r40_1 {w : Mm} (h : Lay w) : gR w 40 1 = some 1 := h.r (List.mem_of_getElem? (i := 56) rfl)
theorem r41_0 {w : Mm} (h : Lay w) : gR w 41 0 = some 1 := h.r (List.mem_of_getElem? (i := 57) rfl)
theorem r41_1 {w : Mm} (h : Lay w) : gR w 41 1 = some 6 := h.r (List.mem_of_getElem? (i := 58) rfl)
theorem r41_2 {w : Mm} (h : Lay w) : gR w 41 2 = some 14 := h.r (List.mem_of_getElem? (i := 59) rfl)
theorem r41_3 {w : Mm} (h : Lay w) : gR w 41 3 = some 42 := h.r (List.mem_of_getElem? (i := 60) rfl)
theorem r41_4 {w : Mm} (h : Lay w) : gR w 41 4 = some 43 := h.r (List.mem_of_getElem? (i := 61) rfl)
theorem r44_0 {w : Mm} (h : Lay w) : gR w 44 0 = some 1 := h.r (List.mem_of_getElem? (i := 62) rfl)
theorem r44_1 {w : Mm} (h : Lay w) : gR w 44 1 = some 14 := h.r (List.mem_of_getElem? (i := 63) rfl)
theorem r45_0 {w : Mm} (h : Lay w) : gR w 45 0 = some 1 := h.r (List.mem_of_getElem? (i := 64) rfl)
theorem r45_1 {w : Mm} (h : Lay w) : gR w 45 1 = some 14 := h.r (List.mem_of_getElem? (i := 65) rfl)
theorem r45_2 {w : Mm} (h : Lay w) : gR w 45 2 = some 46 := h.r (List.mem_of_getElem? (i := 66) rfl)
theorem r47_0 {w : Mm} (h : Lay w) : gR w 47 0 = some 48 := h.r (List.mem_of_getElem? (i := 67) rfl)
theorem r47_8 {w : Mm} (h : Lay w) : gR w 47 8 = some 49 := h.r (List.mem_of_getElem? (i := 68) rfl)
theorem r47_9 {w : Mm} (h : Lay w) : gR w 47 9 = some 50 := h.r (List.mem_of_getElem? (i := 69) rfl)
theorem r47_10 {w : Mm} (h : Lay w) : gR w 47 10 = some 51 := h.r (List.mem_of_getElem? (i := 70) rfl)
theorem r47_11 {w : Mm} (h : Lay w) : gR w 47 11 = some 52 := h.r (List.mem_of_getElem? (i := 71) rfl)
theorem r47_12 {w : Mm} (h : Lay w) : gR w 47 12 = some 53 := h.r (List.mem_of_getElem? (i := 72) rfl)
theorem r47_13 {w : Mm} (h : Lay w) : gR w 47 13 = some 54 := h.r (List.mem_of_getElem? (i := 73) rfl)
theorem r47_14 {w : Mm} (h : Lay w) : gR w 47 14 = some 55 := h.r (List.mem_of_getElem? (i := 74) rfl)
theorem r47_15 {w : Mm} (h : Lay w) : gR w 47 15 = some 56 := h.r (List.mem_of_getElem? (i := 75) rfl)
theorem r47_16 {w : Mm} (h : Lay w) : gR w 47 16 = some 57 := h.r (List.mem_of_getElem? (i := 76) rfl)
theorem r47_18 {w : Mm} (h : Lay w) : gR w 47 18 = some 58 := h.r (List.mem_of_getElem? (i := 77) rfl)
theorem r47_19 {w : Mm} (h : Lay w) : gR w 47 19 = some 59 := h.r (List.mem_of_getElem? (i := 78) rfl)
theorem r47_20 {w : Mm} (h : Lay w) : gR w 47 20 = some 60 := h.r (List.mem_of_getElem? (i := 79) rfl)
theorem r47_21 {w : Mm} (h : Lay w) : gR w 47 21 = some 61 := h.r (List.mem_of_getElem? (i := 80) rfl)
theorem r47_22 {w : Mm} (h : Lay w) : gR w 47 22 = some 62 := h.r (List.mem_of_getElem? (i := 81) rfl)
theorem r47_23 {w : Mm} (h : Lay w) : gR w 47 23 = some 63 := h.r (List.mem_of_getElem? (i := 82) rfl)
theorem r47_24 {w : Mm} (h : Lay w) : gR w 47 24 = some 64 := h.r (List.mem_of_getElem? (i := 83) rfl)
theorem r47_25 {w : Mm} (h : Lay w) : gR w 47 25 = some 65 := h.r (List.mem_of_getElem? (i := 84) rfl)
theorem r47_26 {w : Mm} (h : Lay w) : gR w 47 26 = some 66 := h.r (List.mem_of_getElem? (i := 85) rfl)
theorem r47_27 {w : Mm} (h : Lay w) : gR w 47 27 = some 67 := h.r (List.mem_of_getElem? (i := 86) rfl)
theorem r47_37 {w : Mm} (h : Lay w) : gR w 47 37 = some 68 := h.r (List.mem_of_getElem? (i := 87) rfl)
theorem r47_41 {w : Mm} (h : Lay w) : gR w 47 41 = some 69 := h.r (List.mem_of_getElem? (i := 88) rfl)
theorem r47_42 {w : Mm} (h : Lay w) : gR w 47 42 = some 70 := h.r (List.mem_of_getElem? (i := 89) rfl)
theorem r47_43 {w : Mm} (h : Lay w) : gR w 47 43 = some 71 := h.r (List.mem_of_getElem? (i := 90) rfl)
theorem r47_44 {w : Mm} (h : Lay w) : gR w 47 44 = some 72 := h.r (List.mem_of_getElem? (i := 91) rfl)
theorem r47_49 {w : Mm} (h : Lay w) : gR w 47 49 = some 73 := h.r (List.mem_of_getElem? (i := 92) rfl)
theorem r47_50 {w : Mm} (h : Lay w) : gR w 47 50 = some 74 := h.r (List.mem_of_getElem? (i := 93) rfl)
theorem r47_51 {w : Mm} (h : Lay w) : gR w 47 51 = some 75 := h.r (List.mem_of_getElem? (i := 94) rfl)
theorem r47_52 {w : Mm} (h : Lay w) : gR w 47 52 = some 76 := h.r (List.mem_of_getElem? (i := 95) rfl)
theorem r47_53 {w : Mm} (h : Lay w) : gR w 47 53 = some 77 := h.r (List.mem_of_getElem? (i := 96) rfl)
theorem r47_54 {w : Mm} (h : Lay w) : gR w 47 54 = some 78 := h.r (List.mem_of_getElem? (i := 97) rfl)
theorem r47_55 {w : Mm} (h : Lay w) : gR w 47 55 = some 79 := h.r (List.mem_of_getElem? (i := 98) rfl)
theorem r47_56 {w : Mm} (h : Lay w) : gR w 47 56 = some 80 := h.r (List.mem_of_getElem? (i := 99) rfl)
theorem r47_57 {w : Mm} (h : Lay w) : gR w 47 57 = some 81 := h.r (List.mem_of_getElem? (i := 100) rfl)
theorem r47_58 {w : Mm} (h : Lay w) : gR w 47 58 = some 82 := h.r (List.mem_of_getElem? (i := 101) rfl)
theorem r47_59 {w : Mm} (h : Lay w) : gR w 47 59 = some 83 := h.r (List.mem_of_getElem? (i := 102) rfl)
theorem r47_60 {w : Mm} (h : Lay w) : gR w 47 60 = some 84 := h.r (List.mem_of_getElem? (i := 103) rfl)
theorem r47_61 {w : Mm} (h : Lay w) : gR w 47 61 = some 85 := h.r (List.mem_of_getElem? (i := 104) rfl)
theorem r47_63 {w : Mm} (h : Lay w) : gR w 47 63 = some 86 := h.r (List.mem_of_getElem? (i := 105) rfl)
def isNL (o : Nat) : Bool := o == 16 || o == 27
def isRl (o : Nat) : Bool := o == 36 || o == 37 || o == 38 || o == 39 || o == 40
theorem isNL_or {o : Nat} (h : isNL o = true) : o = 16 ∨ o = 27 := by simpa [isNL] using h
theorem isRl_or {o : Nat} (h : isRl o = true) : o = 36 ∨ o = 37 ∨ o = 38 ∨ o = 39 ∨ o = 40 := by simpa [isRl, or_assoc] using h
theorem nl_k0 {w : Mm} {o : Nat} (h : Lay w) (ho : isNL o = true) : gK w (o + 0) = some (4, 10) := by
  rcases isNL_or ho with rfl | rfl
  · exact k16 h
  · exact k27 h
theorem nl_k1 {w : Mm} {o : Nat} (h : Lay w) (ho : isNL o = true) : gK w (o + 1) = some (20, 160) := by
  rcases isNL_or ho with rfl | rfl
  · exact k17 h
  · exact k28 h
theorem nl_k2 {w : Mm} {o : Nat} (h : Lay w) (ho : isNL o = true) : gK w (o + 2) = some (20, 160) := by
  rcases isNL_or ho with rfl | rfl
  · exact k18 h
  · exact k29 h
theorem nl_k3 {w : Mm} {o : Nat} (h : Lay w) (ho : isNL o = true) : gK w (o + 3) = some (20, 12) := by
  rcases isNL_or ho with rfl | rfl
  · exact k19 h
  · exact k30 h
theorem nl_k4 {w : Mm} {o : Nat} (h : Lay w) (ho : isNL o = true) : gK w (o + 4) = some (20, 12) := by
  rcases isNL_or ho with rfl | rfl
  · exact k20 h
  · exact k31 h
theorem nl_k5 {w : Mm} {o : Nat} (h : Lay w) (ho : isNL o = true) : gK w (o + 5) = some (20, 12) := by
  rcases isNL_or ho with rfl | rfl
  · exact k21 h
  · exact k32 h
theorem nl_k6 {w : Mm} {o : Nat} (h : Lay w) (ho : isNL o = true) : gK w (o + 6) = some (20, 8) := by
  rcases isNL_or ho with rfl | rfl
  · exact k22 h
  · exact k33 h
theorem nl_k7 {w : Mm} {o : Nat} (h : Lay w) (ho : isNL o = true) : gK w (o + 7) = some (20, 24) := by
  rcases isNL_or ho with rfl | rfl
  · exact k23 h
  · exact k34 h
theorem nl_r0 {w : Mm} {o : Nat} (h : Lay w) (ho : isNL o = true) : gR w o 0 = some (o + 1) := by
  rcases isNL_or ho with rfl | rfl
  · exact r16_0 h
  · exact r27_0 h
theorem nl_r1 {w : Mm} {o : Nat} (h : Lay w) (ho : isNL o = true) : gR w o 1 = some (o + 2) := by
  rcases isNL_or ho with rfl | rfl
  · exact r16_1 h
  · exact r27_1 h
theorem nl_r2 {w : Mm} {o : Nat} (h : Lay w) (ho : isNL o = true) : gR w o 2 = some (o + 3) := by
  rcases isNL_or ho with rfl | rfl
  · exact r16_2 h
  · exact r27_2 h
theorem nl_r3 {w : Mm} {o : Nat} (h : Lay w) (ho : isNL o = true) : gR w o 3 = some (o + 4) := by
  rcases isNL_or ho with rfl | rfl
  · exact r16_3 h
  · exact r27_3 h
theorem nl_r4 {w : Mm} {o : Nat} (h : Lay w) (ho : isNL o = true) : gR w o 4 = some (o + 5) := by
  rcases isNL_or ho with rfl | rfl
  · exact r16_4 h
  · exact r27_4 h
theorem nl_r5 {w : Mm} {o : Nat} (h : Lay w) (ho : isNL o = true) : gR w o 5 = some (o + 6) := by
  rcases isNL_or ho with rfl | rfl
  · exact r16_5 h
  · exact r27_5 h
theorem nl_r6 {w : Mm} {o : Nat} (h : Lay w) (ho : isNL o = true) : gR w o 6 = some (o + 7) := by
  rcases isNL_or ho with rfl | rfl
  · exact r16_6 h
  · exact r27_6 h
theorem rl_k {w : Mm} {o : Nat} (h : Lay w) (ho : isRl o = true) : gK w o = some (6, 9) := by
  rcases isRl_or ho with rfl | rfl | rfl | rfl | rfl
  · exact k36 h
  · exact k37 h
  · exact k38 h
  · exact k39 h
  · exact k40 h
theorem rl_r0 {w : Mm} {o : Nat} (h : Lay w) (ho : isRl o = true) : gR w o 0 = some 12 := by
  rcases isRl_or ho with rfl | rfl | rfl | rfl | rfl
  · exact r36_0 h
  · exact r37_0 h
  · exact r38_0 h
  · exact r39_0 h
  · exact r40_0 h
theorem rl_r1 {w : Mm} {o : Nat} (h : Lay w) (ho : isRl o = true) : gR w o 1 = some 1 := by
  rcases isRl_or ho with rfl | rfl | rfl | rfl | rfl
  · exact r36_1 h
  · exact r37_1 h
  · exact r38_1 h
  · exact r39_1 h
  · exact r40_1 h
def isSp (w : Mm) (o : Nat) : Bool := decide (gK w o = some (7, 10) ∧ gR w o 0 = some 1 ∧ gR w o 1 = some (o + 1) ∧ gK w (o + 1) = some (20, 64))
theorem isSp_n {w : Mm} {o : Nat} (h : isSp w o = true) : gK w o = some (7, 10) ∧ gR w o 0 = some 1 ∧ gR w o 1 = some (o + 1) ∧ gK w (o + 1) = some (20, 64) := of_decide_eq_true h
theorem sp_k0 {w : Mm} {o : Nat} (h : isSp w o = true) : gK w o = some (7, 10) := (isSp_n h).1
theorem sp_k1 {w : Mm} {o : Nat} (h : isSp w o = true) : gK w (o + 1) = some (20, 64) := (isSp_n h).2.2.2
theorem sp_r0 {w : Mm} {o : Nat} (h : isSp w o = true) : gR w o 0 = some 1 := (isSp_n h).2.1
theorem sp_r1 {w : Mm} {o : Nat} (h : isSp w o = true) : gR w o 1 = some (o + 1) := (isSp_n h).2.2.1
theorem sp_24 {w : Mm} (h : Lay w) : isSp w 24 = true := decide_eq_true ⟨k24 h, r24_0 h, r24_1 h, k25 h⟩
