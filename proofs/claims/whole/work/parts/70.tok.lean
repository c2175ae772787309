/-! Texts: the tokens of a tape of n bytes b -/
def srt (x : Nat) : Nat := if 97 ≤ x ∧ x ≤ 122 then 1 else if 48 ≤ x ∧ x ≤ 57 then 2 else if x = 59 then 3 else 4
def skF (b : Nat → Nat) : Nat → Nat → Nat
  | 0, p => p
  | k + 1, p => if b p = 32 then skF b k (p + 1) else p
def skp (n : Nat) (b : Nat → Nat) (p : Nat) : Nat := skF b (n - p) p
def enF (b : Nat → Nat) (c : Nat) : Nat → Nat → Nat
  | 0, p => p
  | k + 1, p => if srt (b p) = c then enF b c k (p + 1) else p
/-- where the token that begins at p ends -/
def ten (n : Nat) (b : Nat → Nat) (p : Nat) : Nat := if srt (b p) = 1 ∨ srt (b p) = 2 then enF b (srt (b p)) (n - (p + 1)) (p + 1) else p + 1
def toE (n : Nat) (b : Nat → Nat) (p : Nat) : Nat := if p < n then ten n b p else p
def nxp (n : Nat) (b : Nat → Nat) (p : Nat) : Nat := if p < n then skp n b (ten n b p) else p
def soN (n : Nat) (b : Nat → Nat) (p : Nat) : Nat := if p < n then srt (b p) else 0
def nuV (b : Nat → Nat) (p : Nat) : Nat → Nat
  | 0 => 0
  | k + 1 => if nuV b p k * 10 + b (p + k) - 48 < 1000 then nuV b p k * 10 + b (p + k) - 48 else 1000
def nrV (b : Nat → Nat) (p : Nat) : Nat → Nat
  | 0 => 0
  | k + 1 => if 999 < nrV b p k then nrV b p k else 10 * nrV b p k + b (p + k) - 48
def woV (b : Nat → Nat) (p : Nat) : Nat → Nat
  | 0 => 0
  | k + 1 => if 36028797018963967 < woV b p k then woV b p k else 32 * woV b p k + (b (p + k) - 96)
def woN (v : Nat) : Nat := if v = 525908 then 0 else if v = 525618 then 1 else if v = 412820935 then 2 else if v = 24395141 then 3 else if v = 284871065 then 4 else if v = 6619904164 then 5 else if v = 7754916 then 6 else if v = 486 then 7 else if v = 24627848 then 8 else if v = 5381299 then 9 else if v = 8562259 then 10 else if v = 12009203 then 11 else 12
def nuN (n : Nat) (b : Nat → Nat) (p : Nat) : Nat := if p < n then (if srt (b p) = 1 then woN (woV b p (ten n b p - p)) else if srt (b p) = 2 then nuV b p (ten n b p - p) else 0) else 0
def tk (n : Nat) (b : Nat → Nat) : Nat → Nat
  | 0 => skp n b 0
  | k + 1 => nxp n b (tk n b k)
section TKN
variable {n : Nat} {b : Nat → Nat}
theorem srt_1 {x : Nat} : srt x = 1 ↔ 97 ≤ x ∧ x ≤ 122 := by
  unfold srt
  by_cases h : 97 ≤ x ∧ x ≤ 122
  · rw [if_pos h]; exact ⟨fun _ => h, fun _ => rfl⟩
  · rw [if_neg h]
    constructor
    · intro z
      split at z
      · omega
      · split at z <;> omega
    · intro z; exact absurd z h
theorem srt_2 {x : Nat} : srt x = 2 ↔ 48 ≤ x ∧ x ≤ 57 := by
  unfold srt
  by_cases h : 97 ≤ x ∧ x ≤ 122
  · rw [if_pos h]; omega
  · rw [if_neg h]
    by_cases h2 : 48 ≤ x ∧ x ≤ 57
    · rw [if_pos h2]; exact ⟨fun _ => h2, fun _ => rfl⟩
    · rw [if_neg h2]
      constructor
      · intro z
        split at z <;> omega
      · intro z; exact absurd z h2
theorem srt_3 {x : Nat} : srt x = 3 ↔ x = 59 := by
  unfold srt
  by_cases h : 97 ≤ x ∧ x ≤ 122
  · rw [if_pos h]; omega
  · rw [if_neg h]
    by_cases h2 : 48 ≤ x ∧ x ≤ 57
    · rw [if_pos h2]; omega
    · rw [if_neg h2]
      by_cases h3 : x = 59
      · rw [if_pos h3]; exact ⟨fun _ => h3, fun _ => rfl⟩
      · rw [if_neg h3]; omega
theorem srt_le (x : Nat) : 1 ≤ srt x ∧ srt x ≤ 4 := by
  unfold srt
  split
  · omega
  · split
    · omega
    · split <;> omega
theorem skp_s {p : Nat} (h : p < n) (h2 : b p = 32) : skp n b p = skp n b (p + 1) := by
  unfold skp
  rw [show n - p = n - (p + 1) + 1 by omega, skF, if_pos h2]
theorem skp_o {p : Nat} (h : ¬ (p < n ∧ b p = 32)) : skp n b p = p := by
  unfold skp
  by_cases q : p < n
  · rw [show n - p = n - (p + 1) + 1 by omega, skF, if_neg (fun z => h ⟨q, z⟩)]
  · rw [show n - p = 0 by omega, skF]
theorem skF_b : ∀ (k p : Nat), p + k = n → p ≤ skF b k p ∧ skF b k p ≤ n ∧ (skF b k p < n → b (skF b k p) ≠ 32) := by
  intro k
  induction k with
  | zero => intro p h; rw [skF]; exact ⟨Nat.le_refl _, by omega, fun z => by omega⟩
  | succ k ih =>
    intro p h
    rw [skF]
    by_cases q : b p = 32
    · rw [if_pos q]
      have := ih (p + 1) (by omega)
      exact ⟨by omega, this.2.1, this.2.2⟩
    · rw [if_neg q]; exact ⟨Nat.le_refl _, by omega, fun _ => q⟩
theorem skp_b {p : Nat} (h : p ≤ n) : p ≤ skp n b p ∧ skp n b p ≤ n ∧ (skp n b p < n → b (skp n b p) ≠ 32) := skF_b (n - p) p (by omega)
theorem enF_b {c : Nat} : ∀ (k p : Nat), p + k = n → p ≤ enF b c k p ∧ enF b c k p ≤ n ∧ (∀ j, p ≤ j → j < enF b c k p → srt (b j) = c) ∧ (enF b c k p < n → srt (b (enF b c k p)) ≠ c) := by
  intro k
  induction k with
  | zero => intro p h; rw [enF]; exact ⟨Nat.le_refl _, by omega, fun j h1 h2 => absurd h2 (by omega), fun z => by omega⟩
  | succ k ih =>
    intro p h
    rw [enF]
    by_cases q : srt (b p) = c
    · rw [if_pos q]
      have := ih (p + 1) (by omega)
      refine ⟨by omega, this.2.1, fun j h1 h2 => ?_, this.2.2.2⟩
      by_cases e : j = p
      · rw [e]; exact q
      · exact this.2.2.1 j (by omega) h2
    · rw [if_neg q]; exact ⟨Nat.le_refl _, by omega, fun j h1 h2 => absurd h2 (by omega), fun _ => q⟩
theorem ten_b {p : Nat} (h : p < n) : p < ten n b p ∧ ten n b p ≤ n ∧ (srt (b p) = 1 ∨ srt (b p) = 2 → ∀ j, p ≤ j → j < ten n b p → srt (b j) = srt (b p)) := by
  unfold ten
  by_cases q : srt (b p) = 1 ∨ srt (b p) = 2
  · rw [if_pos q]
    have := enF_b (n := n) (b := b) (c := srt (b p)) (n - (p + 1)) (p + 1) (by omega)
    refine ⟨by omega, this.2.1, fun _ j h1 h2 => ?_⟩
    by_cases e : j = p
    · rw [e]
    · exact this.2.2.1 j (by omega) h2
  · rw [if_neg q]; exact ⟨by omega, by omega, fun z => absurd z q⟩
theorem toE_b {p : Nat} (h : p ≤ n) : p ≤ toE n b p ∧ toE n b p ≤ n := by
  unfold toE
  by_cases q : p < n
  · rw [if_pos q]; have := ten_b (b := b) q; omega
  · rw [if_neg q]; omega
theorem nxp_eq {p : Nat} (h : p ≤ n) : nxp n b p = skp n b (toE n b p) := by
  unfold nxp toE
  by_cases q : p < n
  · rw [if_pos q, if_pos q]
  · rw [if_neg q, if_neg q, skp_o (fun z => q z.1)]
theorem nxp_b {p : Nat} (h : p ≤ n) : p ≤ nxp n b p ∧ nxp n b p ≤ n ∧ (p < n → p < nxp n b p) := by
  unfold nxp
  by_cases q : p < n
  · rw [if_pos q]
    have := ten_b (b := b) q
    have := skp_b (n := n) (b := b) (p := ten n b p) (by omega)
    omega
  · rw [if_neg q]; omega
theorem tk_le : ∀ k, tk n b k ≤ n := by
  intro k
  induction k with
  | zero => exact (skp_b (Nat.zero_le _)).2.1
  | succ k ih => exact (nxp_b ih).2.1
theorem tk_ge : ∀ k, (∀ j, j < k → tk n b j < n) → k ≤ tk n b k := by
  intro k
  induction k with
  | zero => intro _; exact Nat.zero_le _
  | succ k ih =>
    intro h
    have h1 := ih (fun j hj => h j (by omega))
    have h2 := (nxp_b (b := b) (tk_le k)).2.2 (h k (by omega))
    show k + 1 ≤ nxp n b (tk n b k)
    omega
theorem nuV_le (b : Nat → Nat) (p : Nat) : ∀ k, nuV b p k ≤ 1000 := by
  intro k
  cases k with
  | zero => exact Nat.zero_le _
  | succ k => rw [nuV]; split <;> omega
theorem nrV_le {p : Nat} : ∀ k, (∀ j, j < k → 48 ≤ b (p + j) ∧ b (p + j) ≤ 57) → nrV b p k ≤ 9999 := by
  intro k
  induction k with
  | zero => intro _; exact Nat.zero_le _
  | succ k ih =>
    intro h
    have := ih (fun j hj => h j (by omega))
    have := h k (by omega)
    rw [nrV]
    split <;> omega
theorem nu_nr {p : Nat} : ∀ k, (∀ j, j < k → 48 ≤ b (p + j) ∧ b (p + j) ≤ 57) → nuV b p k = if nrV b p k < 1000 then nrV b p k else 1000 := by
  intro k
  induction k with
  | zero => intro _; rfl
  | succ k ih =>
    intro h
    have e := ih (fun j hj => h j (by omega))
    have hk := h k (by omega)
    rw [nuV, nrV, e]
    by_cases q : nrV b p k < 1000
    · rw [if_pos q, if_neg (show ¬ 999 < nrV b p k by omega)]
      by_cases q2 : nrV b p k * 10 + b (p + k) - 48 < 1000
      · rw [if_pos q2, if_pos (by omega)]; omega
      · rw [if_neg q2, if_neg (by omega)]
    · rw [if_neg q, if_pos (show 999 < nrV b p k by omega), if_neg q, if_neg (by omega)]
theorem woV_le {p : Nat} : ∀ k, (∀ j, j < k → b (p + j) ≤ 255) → woV b p k < 2 ^ 61 := by
  intro k
  induction k with
  | zero => intro _; exact Nat.two_pow_pos _
  | succ k ih =>
    intro h
    have := ih (fun j hj => h j (by omega))
    have := h k (by omega)
    rw [woV]
    split <;> omega
theorem wo_pos {p : Nat} : ∀ k, 0 < k → (∀ j, j < k → 97 ≤ b (p + j)) → 0 < woV b p k := by
  intro k
  cases k with
  | zero => intro h; exact absurd h (Nat.lt_irrefl _)
  | succ k =>
    intro _ h
    have := h k (by omega)
    rw [woV]
    split <;> omega
theorem wo_inj {b' : Nat → Nat} {p p' : Nat} : ∀ k k', (∀ j, j < k → 97 ≤ b (p + j) ∧ b (p + j) ≤ 122) → (∀ j, j < k' → 97 ≤ b' (p' + j) ∧ b' (p' + j) ≤ 122) → woV b p k = woV b' p' k' → woV b p k ≤ 36028797018963967 → k = k' ∧ ∀ j, j < k → b (p + j) = b' (p' + j) := by
  intro k
  induction k with
  | zero =>
    intro k' h h' e _
    rcases Nat.eq_zero_or_pos k' with q | q
    · exact ⟨q.symm, fun j hj => absurd hj (Nat.not_lt_zero _)⟩
    · have := wo_pos k' q (fun j hj => (h' j hj).1)
      have : woV b p 0 = 0 := rfl
      omega
  | succ k ih =>
    intro k' h h' e hc
    cases k' with
    | zero =>
      have := wo_pos (k + 1) (by omega) (fun j hj => (h j hj).1)
      have : woV b' p' 0 = 0 := rfl
      omega
    | succ k' =>
      have hk := h k (by omega)
      have hk' := h' k' (by omega)
      rw [woV, woV] at e
      rw [woV] at hc
      by_cases q : 36028797018963967 < woV b p k
      · rw [if_pos q] at hc; omega
      · rw [if_neg q] at e hc
        by_cases q' : 36028797018963967 < woV b' p' k'
        · rw [if_pos q'] at e; omega
        · rw [if_neg q'] at e
          obtain ⟨i1, i2⟩ := ih k' (fun j hj => h j (by omega)) (fun j hj => h' j (by omega)) (by omega) (by omega)
          refine ⟨by omega, fun j hj => ?_⟩
          by_cases y : j = k
          · subst y; subst i1; omega
          · exact i2 j (by omega)
theorem wo_cg {b' : Nat → Nat} {p p' : Nat} : ∀ k, (∀ j, j < k → b (p + j) = b' (p' + j)) → woV b p k = woV b' p' k := by
  intro k
  induction k with
  | zero => intro _; rfl
  | succ k ih => intro h; rw [woV, woV, ih (fun j hj => h j (by omega)), h k (by omega)]
/-! the words -/
end TKN
def wlen (i : Nat) : Nat := sLens.getD i 0
def wbyt (i j : Nat) : Nat := ((sByts.getD i []).getD j 0).toBitVec.toNat
def wcod (i : Nat) : Nat := woV (wbyt i) 0 (wlen i)
theorem wbyt_let : ∀ i, i < 12 → ∀ j, j < wlen i → 97 ≤ wbyt i (0 + j) ∧ wbyt i (0 + j) ≤ 122 := by decide +kernel
theorem wcod_all : (wcod 0 = 525908 ∧ wcod 1 = 525618 ∧ wcod 2 = 412820935 ∧ wcod 3 = 24395141 ∧ wcod 4 = 284871065 ∧ wcod 5 = 6619904164) ∧ (wcod 6 = 7754916 ∧ wcod 7 = 486 ∧ wcod 8 = 24627848 ∧ wcod 9 = 5381299 ∧ wcod 10 = 8562259 ∧ wcod 11 = 12009203) := by decide +kernel
theorem wcod_cap : ∀ i, i < 12 → wcod i ≤ 36028797018963967 := by decide +kernel
theorem wlen_le : ∀ i, i < 12 → wlen i ≤ 7 := by decide +kernel
theorem wcod_iff {b : Nat → Nat} {p k i : Nat} (hi : i < 12) (h : ∀ j, j < k → 97 ≤ b (p + j) ∧ b (p + j) ≤ 122) : woV b p k = wcod i ↔ k = wlen i ∧ ∀ j, j < wlen i → b (p + j) = wbyt i j := by
  constructor
  · intro e
    obtain ⟨e1, e2⟩ := wo_inj (b' := wbyt i) (p' := 0) k (wlen i) h (wbyt_let i hi) e (by rw [e]; exact wcod_cap i hi)
    refine ⟨e1, fun j hj => ?_⟩
    rw [e2 j (by omega), Nat.zero_add]
  · rintro ⟨e1, e2⟩
    subst e1
    exact wo_cg _ (fun j hj => by rw [e2 j hj, Nat.zero_add])
