/-! the two constructors -/
/-- nothing made yet -/
def wE : Mm := (fun _ _ => 0, fun _ _ => 0, fun _ _ => none, [])
/-- what the checker looks at behind them -/
noncomputable def iw (w0 : Mm) : Option Mm := Option.bind (alq w0 11 10) (fun p1 => Option.bind (f_X11_init p1.1 p1.2) (fun p2 => if p1.1 = 0 then (Option.bind (alq p2 12 64) (fun p4 => Option.bind (f_X12_init p4.1 p4.2) (fun p5 => if p4.1 = 47 then some p5 else none))) else none))
def allN (p : Nat → Bool) : Nat → Bool
  | 0 => true
  | n + 1 => p n && allN p n
theorem allN_of {p : Nat → Bool} : ∀ {n : Nat}, allN p n = true → ∀ k, k < n → p k = true
  | 0, _, k, hk => absurd hk (Nat.not_lt_zero k)
  | n + 1, h, k, hk => by
    rw [allN, Bool.and_eq_true] at h
    by_cases e : k = n
    · rw [e]; exact h.1
    · exact allN_of h.2 k (by omega)
def z0 (w : Mm) (c n : Nat) : Bool := allN (fun k => decide (gI w c k = 0)) n
def chk (w : Mm) : Bool := decide (w.2.2.2 = KLs) && RLs.all (fun x => decide (gR w x.1 x.2.1 = some x.2.2)) && allN (fun k => decide (gR w 15 k = none)) 1024 && decide (gR w 24 6 = none) && decide (gI w 24 8 = 0) && decide (gI w 6 6 = 1000) && decide (gI w 47 5 = 1000)
def chk2 (w : Mm) : Bool := decide (gI w 1 4 = 0) && decide (gI w 1 5 = 0) && decide (gI w 1 6 = 0) && z0 w 2 10 && z0 w 3 10 && z0 w 4 10 && z0 w 5 10 && decide (gI w 6 5 = 0) && z0 w 7 4 && z0 w 8 24 && z0 w 9 24 && z0 w 10 24 && z0 w 11 24 && decide (gI w 12 1 = 0) && decide (gI w 14 5 = 0) && decide (gI w 16 9 = 0) && z0 w 36 9 && z0 w 37 9 && z0 w 38 9 && z0 w 39 9
def chk3 (w : Mm) : Bool := decide (gI w 47 1 = 0) && decide (gI w 47 2 = 0) && decide (gI w 47 3 = 0) && decide (gI w 47 4 = 0) && decide (gI w 47 6 = 0) && decide (gI w 47 17 = 0) && z0 w 49 10 && z0 w 50 10 && z0 w 51 10 && z0 w 52 10 && z0 w 53 4 && z0 w 54 24 && z0 w 55 24 && z0 w 56 24 && z0 w 57 24 && z0 w 79 4 && z0 w 80 4 && z0 w 81 40 && z0 w 82 16 && decide (gI w 71 0 = 0) && decide (gI w 73 0 = 0)
set_option maxRecDepth 1000000 in
theorem iw_chk : (match iw wE with | some w => chk w | none => false) = true := by decide +kernel
