/-! Bits -/
theorem nI_and (a b : Nat) : nI a &&& nI b = nI (a &&& b) := by
  apply Int32.toBitVec_inj.mp
  show BitVec.ofNat 32 a &&& BitVec.ofNat 32 b = BitVec.ofNat 32 (a &&& b)
  exact BitVec.ofNat_and.symm
theorem nI_or (a b : Nat) : nI a ||| nI b = nI (a ||| b) := by
  apply Int32.toBitVec_inj.mp
  show BitVec.ofNat 32 a ||| BitVec.ofNat 32 b = BitVec.ofNat 32 (a ||| b)
  exact BitVec.ofNat_or.symm
theorem nI_xor (a b : Nat) : nI a ^^^ nI b = nI (a ^^^ b) := by
  apply Int32.toBitVec_inj.mp
  show BitVec.ofNat 32 a ^^^ BitVec.ofNat 32 b = BitVec.ofNat 32 (a ^^^ b)
  exact BitVec.ofNat_xor.symm
/-- the bits of a that b has not -/
def dif (a b : Nat) : Nat := a ^^^ (a &&& b)
theorem bv_dif (x y : BitVec 32) : x &&& (y ^^^ BitVec.allOnes 32) = x ^^^ (x &&& y) := by
  ext i hi
  simp only [BitVec.getElem_and, BitVec.getElem_xor, BitVec.getElem_allOnes]
  cases x[i] <;> cases y[i] <;> rfl
theorem nI_dif (a b : Nat) : nI a &&& (nI b ^^^ (-1)) = nI (dif a b) := by
  unfold dif
  rw [← nI_xor, ← nI_and]
  apply Int32.toBitVec_inj.mp
  exact bv_dif (nI a).toBitVec (nI b).toBitVec
theorem sh_ok : ∀ n, n < 32 → ((nI n &&& 31).toBitVec.smod 32).toNat = n := by decide +kernel
theorem ush_ok : ∀ n, n < 32 → (((nI n).toUInt32 &&& Int32.toUInt32 31).toBitVec % 32).toNat = n := by decide +kernel
theorem nI_shl1 {k : Nat} (h : k < 31) : nI 1 <<< (nI k &&& 31) = nI (2 ^ k) := by
  have e : 2 ^ k ≤ 2 ^ 30 := Nat.pow_le_pow_right (by decide) (by omega)
  rw [pk_shlN (n := 1) (nI k &&& 31) k (sh_ok k (by omega)) (by omega), Nat.one_mul]
theorem nI_shr {s k : Nat} (hs : s < 2 ^ 31) (h : k < 32) : nI s >>> (nI k &&& 31) = nI (s / 2 ^ k) := pk_shrN hs _ k (sh_ok k h)
theorem bit_iff (s p : Nat) : (s / 2 ^ p &&& 1 = 1) = (s.testBit p = true) := by
  rw [Nat.and_one_is_mod, Nat.testBit_eq_decide_div_mod_eq]
  simp
theorem nI_bit {s p : Nat} (hs : s < 2 ^ 31) (hp : p < 32) : (nI s >>> (nI p &&& 31) &&& nI 1 = nI 1) = (s.testBit p = true) := by
  rw [nI_shr hs hp, nI_and, nI_eq' ?_ (by decide), bit_iff]
  exact Nat.lt_of_le_of_lt Nat.and_le_right (by decide)
theorem dif_test (a b i : Nat) : (dif a b).testBit i = (a.testBit i && !b.testBit i) := by
  unfold dif
  rw [Nat.testBit_xor, Nat.testBit_and]
  cases a.testBit i <;> cases b.testBit i <;> rfl
theorem dif_le (a b : Nat) : dif a b ≤ a := by
  apply Nat.le_of_testBit
  intro i
  rw [dif_test]
  cases a.testBit i <;> cases b.testBit i <;> simp
def lowb (s : Nat) : Nat := s &&& (512 - s)
theorem low_neg : ∀ s, s < 512 → nI s &&& -nI s = nI (lowb s) := by decide +kernel
theorem low_sub : ∀ s, s < 512 → nI s &&& (nI 0 - nI s) = nI (lowb s) := by decide +kernel
def nxt (a b : Nat) : Nat := (a + 2 ^ 32 - b) &&& b
theorem nI_nxt {a b : Nat} (hb : b < 2 ^ 31) : nI a - nI b &&& nI b = nI (nxt a b) := by
  unfold nxt
  rw [← nI_and]
  congr 1
  apply Int32.toBitVec_inj.mp
  show BitVec.ofNat 32 a - BitVec.ofNat 32 b = BitVec.ofNat 32 (a + 2 ^ 32 - b)
  apply BitVec.eq_of_toNat_eq
  simp only [BitVec.toNat_sub, BitVec.toNat_ofNat]
  omega
/-- how many bits -/
def pop (s : Nat) : Nat := (s.testBit 0).toNat + (s.testBit 1).toNat + (s.testBit 2).toNat + (s.testBit 3).toNat + (s.testBit 4).toNat + (s.testBit 5).toNat + (s.testBit 6).toNat + (s.testBit 7).toNat + (s.testBit 8).toNat
theorem pop_le (s : Nat) : pop s ≤ 9 := by
  unfold pop
  have h : ∀ b : Bool, b.toNat ≤ 1 := fun b => by cases b <;> decide
  have := h (s.testBit 0); have := h (s.testBit 1); have := h (s.testBit 2); have := h (s.testBit 3); have := h (s.testBit 4); have := h (s.testBit 5); have := h (s.testBit 6); have := h (s.testBit 7); have := h (s.testBit 8)
  omega
theorem pop_clr : ∀ r, r < 512 → r ≠ 0 → (r &&& (r - 1)) < r ∧ pop r = 1 + pop (r &&& (r - 1)) := by decide +kernel
theorem pop_0 : pop 0 = 0 := by decide
theorem mg_R {c : Prop} {d : Decidable c} {m pc : Nat} {ls st : List Value} {w : vW} {a b : Int32} : (@ite _ c d (R m pc ls (.int a :: st) w) (R m pc ls (.int b :: st) w)) = R m pc ls (.int (if c then a else b) :: st) w := by
  by_cases h : c
  · rw [if_pos h, if_pos h]
  · rw [if_neg h, if_neg h]
theorem mg_s {c : Prop} {d : Decidable c} {w : vW} {a b : Int32} : (@ite _ c d (some (some (Value.int a), w)) (some (some (Value.int b), w))) = some (some (Value.int (if c then a else b)), w) := by
  by_cases h : c
  · rw [if_pos h, if_pos h]
  · rw [if_neg h, if_neg h]
theorem mg_n {c : Prop} {d : Decidable c} {a b : Nat} : (@ite _ c d (nI a) (nI b)) = nI (if c then a else b) := by
  by_cases h : c
  · rw [if_pos h, if_pos h]
  · rw [if_neg h, if_neg h]
def btn (c : Bool) : Nat := if c = true then 1 else 0
theorem btn_lt (c : Bool) : btn c < 2 := by cases c <;> decide
/-- has -/
theorem s_has {s p : Nat} {w : vW} (hs : s < 2 ^ 31) (hp : p < 32) : R 131 0 [.int (nI s), .int (nI p)] [] w = some (some (.int (if s.testBit p = true then nI 1 else nI 0)), w) := by
  simp only [r131_0, r131_1, r131_2, r131_3, r131_4, r131_5, r131_6, r131_9, r131_10, r131_13, r131_14_0, r131_14_1, nI_bit hs hp, mg_s]
/-- ones -/
theorem s_ones_l : ∀ (r : Nat), r < 512 → ∀ (n : Nat) (v : Value) (w : vW), R 132 4 [v, .int (nI n), .int (nI r)] [] w = some (some (.int (nI (n + pop r))), w) := by
  intro r
  induction r using Nat.strongRecOn with
  | _ r ih =>
    intro hr n v w
    by_cases h : r = 0
    · subst h
      rw [r132_4, r132_5, if_pos nI_0]
      simp only [r132_0, r132_1, r132_2, r132_3, r132_5, r132_8, r132_11, r132_12, r132_13, r132_14, r132_15, r132_16, r132_17, r132_20, r132_21, pop_0, Nat.add_zero]
    · obtain ⟨h1, h2⟩ := pop_clr r hr h
      rw [r132_4, r132_5, if_neg (by rw [nI_eq0 (by omega)]; exact h)]
      simp only [r132_0, r132_1, r132_2, r132_3, r132_5, r132_8, r132_11, r132_12, r132_13, r132_14, r132_15, r132_16, r132_17, r132_20, r132_21, nI_add]
      rw [pk_sub (by omega), nI_and, ih _ h1 (by omega), h2]
      simp only [Nat.add_assoc]
theorem s_ones {s : Nat} {w : vW} (hs : s < 512) : R 132 0 [.int (nI s), .null, .null] [] w = some (some (.int (nI (pop s))), w) := by
  simp only [r132_0, r132_1, r132_2, r132_3, r132_5, r132_8, r132_11, r132_12, r132_13, r132_14, r132_15, r132_16, r132_17, r132_20, r132_21]
  rw [s_ones_l s hs]
  simp only [Nat.zero_add]
