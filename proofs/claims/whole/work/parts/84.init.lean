/-! What the two constructors leave -/
def t00 : Nat → Nat := fun k => if k = 2 then 2 else if k = 6 then 1 else if k = 7 then 2 else if k = 8 then 3 else 0
def allN (p : Nat → Bool) : Nat → Bool
  | 0 => true
  | n + 1 => p n && allN p n
theorem allN_get {p : Nat → Bool} : ∀ n, allN p n = true → ∀ k, k < n → p k = true := by
  intro n
  induction n with
  | zero => intro _ k hk; exact absurd hk (Nat.not_lt_zero _)
  | succ n ih =>
    intro h k hk
    rw [allN, Bool.and_eq_true] at h
    rcases Nat.lt_or_ge k n with q | q
    · exact ih h.2 k q
    · rw [show k = n by omega]; exact h.1
def iniF (N : Nat → Nat → Int32) : Bool :=
  decide (N 2 4 = nI 0 ∧ N 2 5 = nI 0 ∧ N 2 6 = nI 0 ∧ N 2 7 = nI 2 ∧ N 2 8 = nI 1 ∧ N 2 9 = nI 1)
  && allN (fun x => decide (N 4 x = nI (mem t00 x))) 5 && allN (fun i => decide (N 5 i = nI (t00 (5 + i)))) 4 && allN (fun i => decide (N 6 i = -1)) 10
  && allN (fun k => k == 4 || decide (N 37 k = nI (t00 k))) 81 && decide (N 37 4 = nI 1) && allN (fun i => decide (N 37 (81 + i) = -1)) 10
  && decide (N 17 5 = nI 0 - nI 1 ∧ N 17 6 = nI 0 ∧ N 17 7 = nI 0) && allN (fun i => decide (N 20 i = nI 0)) 4
  && allN (fun i => decide (N 34 i = N 40 i)) 7 && decide (N 1 9 = nI 0 ∧ N 36 4 = nI 0 ∧ N 24 1 = nI 0 ∧ N 36 14 = nI 0)
  && allN (fun i => decide (N 31 i = N 53 i)) 160 && allN (fun s => decide (N 32 s = nI 0 ∧ N 51 s = nI 0 ∧ N 33 s = nI 0 ∧ N 52 s = nI 0)) 4
def iniA : vSh := .inr (5, nFs.getD 5 [])
def iniB : vSh := .inr (6, nFs.getD 6 [])
def iniC : Bool := match exec 3000 58 0 [.ref 1] [] ([.inr (99, []), iniA], fun _ _ => 0) with
  | some (none, w) => decide (w.1.length = 36) && (match exec 3000 121 0 [.ref 36, .null] [] (w.1 ++ [iniB], vzero w.2 w.1.length) with
    | some (none, w2) => decide (w2.1 = .inr (99, []) :: SHt) && iniF w2.2
    | _ => false)
  | _ => false
theorem ini_true : iniC = true := by decide +kernel
