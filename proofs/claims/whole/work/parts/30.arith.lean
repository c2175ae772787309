/-! Numbers: the ints of the program as natural numbers -/
abbrev rng (x : Int32) (n : Nat) : Prop := 0 ≤ x.toInt ∧ x.toInt < (n : Int)
theorem rng_nI {k n : Nat} (hk : k < 2 ^ 31) : rng (nI k) n ↔ k < n := by
  unfold rng
  rw [nI_toInt hk]
  omega
theorem rng_of {x : Int32} {n : Nat} (hn : n < 2 ^ 31) (h : rng x n) : ∃ k, k < n ∧ x = nI k := by
  obtain ⟨h1, h2⟩ := h
  refine ⟨x.toInt.toNat, by omega, ?_⟩
  apply Int32.toInt_inj.mp
  rw [nI_toInt (by omega)]
  omega
theorem nI_lt' {a b : Nat} (ha : a < 2 ^ 31) (hb : b < 2 ^ 31) : (nI a < nI b) = (a < b) := propext (nI_ltI ha hb)
theorem nI_le'' {a b : Nat} (ha : a < 2 ^ 31) (hb : b < 2 ^ 31) : (nI a ≤ nI b) = (a ≤ b) := propext (nI_leI ha hb)
theorem nI_eq' {a b : Nat} (ha : a < 2 ^ 31) (hb : b < 2 ^ 31) : (nI a = nI b) = (a = b) := propext (nI_eq ha hb)
theorem nI_lt0 {a : Nat} (ha : a < 2 ^ 31) : (nI a < 0) = False := eq_false (nI_pos ha)
theorem nI_0le {a : Nat} (ha : a < 2 ^ 31) : (0 ≤ nI a) = True := eq_true (nI_pos' ha)
theorem nI_eq0 {a : Nat} (ha : a < 2 ^ 31) : (nI a = 0) = (a = 0) := by rw [← nI_0]; exact nI_eq' ha (by decide)
theorem b2_eq0 {c : Prop} {d : Decidable c} : ((@ite _ c d (nI 1) (nI 0)) = 0) = ¬ c := by
  by_cases h : c
  · rw [if_pos h]; exact propext ⟨fun z => absurd z (by decide +kernel), fun z => absurd h z⟩
  · rw [if_neg h]; exact propext ⟨fun _ => h, fun _ => by decide +kernel⟩
theorem rng_lt {x : Int32} {n : Nat} (hn : n < 2 ^ 31) : (0 ≤ x ∧ x < nI n) = rng x n := by
  unfold rng
  rw [Int32.le_iff_toInt_le, Int32.lt_iff_toInt_lt, nI_toInt hn, Int32.toInt_zero]
theorem ite_not2 {α : Sort _} {c : Prop} {d : Decidable c} {e : Decidable (¬ c)} {a b : α} : @ite _ (¬ c) e a b = @ite _ c d b a := by
  by_cases h : c
  · rw [if_pos h, if_neg (fun z => z h)]
  · rw [if_neg h, if_pos h]
/-- in(v, low, high) -/
theorem s_in {v lo hi : Int64} {w : vW} : R 123 0 [.long v, .null, .long lo, .null, .long hi, .null] [] w = some (some (.int (if lo ≤ v ∧ v ≤ hi then nI 1 else nI 0)), w) := by
  by_cases h1 : lo ≤ v
  · by_cases h2 : v ≤ hi
    · have h3 : ¬ lg_cmp v lo < 0 := by rw [lg_cmp_lt]; exact Int64.not_lt.mpr h1
      have h4 : ¬ 0 < lg_cmp v hi := by rw [lg_cmp_gt]; exact Int64.not_lt.mpr h2
      simp only [r123_0, r123_1, r123_2, r123_3, r123_6, r123_7, r123_9, r123_10, r123_13, r123_14, r123_17, r123_18_0, r123_18_1, if_neg h3, if_neg h4, if_pos (And.intro h1 h2)]
    · have h3 : ¬ lg_cmp v lo < 0 := by rw [lg_cmp_lt]; exact Int64.not_lt.mpr h1
      have h4 : 0 < lg_cmp v hi := by rw [lg_cmp_gt]; exact Int64.not_le.mp h2
      simp only [r123_0, r123_1, r123_2, r123_3, r123_6, r123_7, r123_9, r123_10, r123_13, r123_14, r123_17, r123_18_0, r123_18_1, if_neg h3, if_pos h4, if_neg (fun z : lo ≤ v ∧ v ≤ hi => h2 z.2)]
  · have h3 : lg_cmp v lo < 0 := by rw [lg_cmp_lt]; exact Int64.not_le.mp h1
    simp only [r123_0, r123_1, r123_2, r123_3, r123_6, r123_7, r123_9, r123_10, r123_13, r123_14, r123_17, r123_18_0, r123_18_1, if_pos h3, if_neg (fun z : lo ≤ v ∧ v ≤ hi => h1 z.1)]
theorem in_rng {x : Int32} {n : Nat} (hn : n < 2 ^ 31) {hi : Int64} (h : hi = lN n - 1) : (0 ≤ x.toInt64 ∧ x.toInt64 ≤ hi) = rng x n := by
  subst h
  unfold rng
  rw [Int64.le_iff_toInt_le, Int64.le_iff_toInt_le, Int32.toInt_toInt64, Int64.toInt_sub, lN_toInt hn]
  simp only [Int64.toInt_zero, Int64.toInt_one]
  have e : ((n : Int) - 1).bmod (2 ^ 64) = (n : Int) - 1 := by
    apply Int.bmod_eq_of_le <;> omega
  rw [e]
  apply propext
  omega
theorem vtl_some {v : Value} {st : List Value} : vtl (some v) st = v :: st := rfl
theorem vtl_none {st : List Value} : vtl none st = st := rfl
theorem s_at {p w : Nat} {v : vW} : R 136 0 [.int (nI p), .int (nI w)] [] v = some (some (.int (nI (9 + 8 * p + w))), v) := by
  simp only [r136_0, r136_2, r136_4, r136_5, r136_6, r136_7, r136_8, r136_9, nI_add, pk_mul]
theorem s_its {p w L : Nat} {M : Nat → Nat → Int32} (h : 9 + 8 * p + w < 91) : R 137 0 [.ref 36, .int (nI p), .int (nI w)] [] (SH L, M) = some (some (.int (M 37 (9 + 8 * p + w))), (SH L, M)) := by
  simp (disch := omega) only [r137_0, r137_1, r137_4, r137_5, r137_6, r137_9, r137_10, s_at, Option.bind_some, vtl_some]
