/-! What a part brings, values: the reference's methods, by numbers. t: the numbers of the row s -/
abbrev kd (t : Nat → Nat) (p : Nat) : Nat := t (9 + 8 * p + 0)
abbrev th (t : Nat → Nat) (p : Nat) : Nat := t (9 + 8 * p + 1)
abbrev wo (t : Nat → Nat) (p h : Nat) : Nat := t (9 + 8 * p + (4 + h))
def memN (t : Nat → Nat) (x : Nat) : Nat → Nat
  | 0 => 0
  | n + 1 => memN t x n ||| (if th t n = x then 2 ^ n else 0)
def mem (t : Nat → Nat) (x : Nat) : Nat := memN t x (t 1)
def fei (t : Nat → Nat) (p h : Nat) : Nat := if (t 3).testBit h = true then 0 else wo t p h
def prd (t : Nat → Nat) (p h s a : Nat) : Nat := if dif (s &&& a) (2 ^ p) = 0 then wo t p h else 2 * wo t p h
def bring (t : Nat → Nat) (p h s a : Nat) : Nat := match kd t p with
  | 1 => prd t p h s a
  | 2 => wo t p h - t 0
  | 3 => if dif a s = 0 then prd t p h s a else 0
  | 4 => if pop s ≤ 3 then wo t p h - t 0 else (wo t p h - t 0) / 2
  | 5 => fei t p h
  | 6 => if dif (s &&& a) (2 ^ p) = 0 then fei t p h else fei t p h + 5
  | _ => wo t p h
def valN (t : Nat → Nat) (h s : Nat) : Nat → Nat
  | 0 => 0
  | n + 1 => valN t h s n + (if s.testBit n = true then bring t n h s (mem t (th t n)) else 0)
def val (t : Nat → Nat) (h s : Nat) : Nat := valN t h s (t 1)
/-- the bounds of the numbers -/
def wfT (t : Nat → Nat) : Prop := t 0 ≤ 99 ∧ t 1 ≤ 9 ∧ 1 ≤ t 2 ∧ t 2 ≤ 4 ∧ t 3 < 16 ∧ (∀ p, p < 9 → kd t p < 7 ∧ th t p < 5 ∧ t (9 + 8 * p + 2) ≤ 9 ∧ t (9 + 8 * p + 3) ≤ 9 ∧ ∀ h, h < 4 → wo t p h ≤ 99) ∧ (∀ i, i < 4 → t (5 + i) < 4)
def wfO (t : Nat → Nat) : Prop := (∀ i, i < t 2 → t (5 + i) < t 2) ∧ (∀ i j, i < t 2 → j < t 2 → t (5 + i) = t (5 + j) → i = j)
def rS (M : Nat → Nat → Int32) (t : Nat → Nat) : Prop := ∀ k, k < 81 → k ≠ 4 → M 37 k = nI (t k)
theorem memN_lt (t : Nat → Nat) (x n : Nat) : memN t x n < 2 ^ n := by
  induction n with
  | zero => exact Nat.one_pos
  | succ n ih =>
    rw [memN]
    refine Nat.or_lt_two_pow (Nat.lt_of_lt_of_le ih (Nat.pow_le_pow_right (by decide) (by omega))) ?_
    by_cases h : th t n = x
    · rw [if_pos h]; exact Nat.pow_lt_pow_right (by decide) (by omega)
    · rw [if_neg h]; exact Nat.two_pow_pos _
theorem memN_bit (t : Nat → Nat) (x n i : Nat) : (memN t x n).testBit i = true ↔ i < n ∧ th t i = x := by
  induction n with
  | zero => simp [memN]
  | succ n ih =>
    rw [memN, Nat.testBit_or, Bool.or_eq_true, ih]
    by_cases h : th t n = x
    · rw [if_pos h, Nat.testBit_two_pow]
      constructor
      · rintro (⟨h1, h2⟩ | h1)
        · exact ⟨by omega, h2⟩
        · have : n = i := by simpa using h1
          subst this
          exact ⟨by omega, h⟩
      · rintro ⟨h1, h2⟩
        by_cases e : n = i
        · exact Or.inr (by simpa using e)
        · exact Or.inl ⟨by omega, h2⟩
    · rw [if_neg h, Nat.zero_testBit]
      constructor
      · rintro (⟨h1, h2⟩ | h1)
        · exact ⟨by omega, h2⟩
        · cases h1
      · rintro ⟨h1, h2⟩
        by_cases e : i = n
        · subst e; exact absurd h2 h
        · exact Or.inl ⟨by omega, h2⟩
theorem mem_lt {t : Nat → Nat} (x : Nat) (h : t 1 ≤ 9) : mem t x < 512 := Nat.lt_of_lt_of_le (memN_lt t x (t 1)) (Nat.pow_le_pow_right (by decide) h)
theorem bring_le {t : Nat → Nat} (hw : wfT t) {p h : Nat} (hp : p < 9) (hh : h < 4) (s a : Nat) : bring t p h s a ≤ 198 := by
  have h1 := (hw.2.2.2.2.2.1 p hp).2.2.2.2 h hh
  have h2 : fei t p h ≤ 99 := by
    unfold fei
    split <;> omega
  have h3 : prd t p h s a ≤ 198 := by
    unfold prd
    split <;> omega
  unfold bring
  split
  · exact h3
  · omega
  · split <;> omega
  · split <;> omega
  · omega
  · split <;> omega
  · omega
theorem valN_le {t : Nat → Nat} (hw : wfT t) {h : Nat} (hh : h < 4) (s n : Nat) (hn : n ≤ 9) : valN t h s n ≤ 198 * n := by
  induction n with
  | zero => exact Nat.le_refl _
  | succ n ih =>
    rw [valN]
    have h1 := ih (by omega)
    have h2 := bring_le hw (p := n) (by omega) hh s (mem t (th t n))
    split <;> omega
theorem val_le {t : Nat → Nat} (hw : wfT t) {h : Nat} (hh : h < 4) (s : Nat) : val t h s ≤ 1782 := by
  have := valN_le hw hh s (t 1) hw.2.1
  have := hw.2.1
  unfold val
  omega
theorem s_partsOf_l {L : Nat} {M : Nat → Nat → Int32} {t : Nat → Nat} (hs : rS M t) (hw : wfT t) (x : Nat) (hx : x < 5) : ∀ (k n : Nat), n + k = t 1 → R 143 4 [.ref 36, .int (nI x), .int (nI (memN t x n)), .int (nI n)] [] (SH L, M) = some (some (.int (nI (mem t x))), (SH L, M)) := by
  have hP := hw.2.1
  intro k
  induction k with
  | zero =>
    intro n hn
    rw [r143_4]
    simp (disch := omega) only [r143_0, r143_1, r143_2, r143_3, r143_5, r143_6, r143_9, r143_10, r143_11, r143_14, r143_15, r143_16, r143_17, r143_18, r143_21, r143_22, r143_25, r143_26, r143_27, r143_28, r143_31, r143_32, r143_33, r143_34, r143_37, r143_40, r143_41, hs 1, nI_le'', show t 1 ≤ n from by omega, if_true]
    rw [mem, show n = t 1 by omega]
  | succ k ih =>
    intro n hn
    have hth : t (9 + 8 * n + 1) < 5 := (hw.2.2.2.2.2.1 n (by omega)).2.1
    rw [r143_4]
    simp (disch := omega) only [r143_0, r143_1, r143_2, r143_3, r143_5, r143_6, r143_9, r143_10, r143_11, r143_14, r143_15, r143_16, r143_17, r143_18, r143_21, r143_22, r143_25, r143_26, r143_27, r143_28, r143_31, r143_33, r143_34, r143_37, r143_40, r143_41, hs 1, nI_le'', show ¬ t 1 ≤ n from by omega, if_false, s_its, Option.bind_some, vtl_some, hs (9 + 8 * n + 1), nI_eq', nI_shl1, mg_R]
    simp only [r143_32, r143_33, r143_34, r143_37, mg_n, nI_or, nI_add]
    exact ih (n + 1) (by omega)
theorem s_partsOf {L : Nat} {M : Nat → Nat → Int32} {t : Nat → Nat} (hs : rS M t) (hw : wfT t) {x : Nat} (hx : x < 5) : R 143 0 [.ref 36, .int (nI x), .null, .null] [] (SH L, M) = some (some (.int (nI (mem t x))), (SH L, M)) := by
  simp only [r143_0, r143_1, r143_2, r143_3, r143_5, r143_6, r143_9, r143_10, r143_11, r143_14, r143_15, r143_16, r143_17, r143_18, r143_21, r143_22, r143_25, r143_26, r143_27, r143_28, r143_31, r143_32, r143_33, r143_34, r143_37, r143_40, r143_41]
  exact s_partsOf_l hs hw x hx (t 1) 0 (by omega)
theorem toInt_lit (k : Nat) (hk : k < 2 ^ 31) : (nI k).toInt = (k : Int) := nI_toInt hk
theorem c2_eq0 {c : Prop} {d : Decidable c} : ((@ite _ c d (nI 0) (nI 1)) = 0) = c := by
  by_cases h : c
  · rw [if_pos h]; exact propext ⟨fun _ => h, fun _ => by decide +kernel⟩
  · rw [if_neg h]; exact propext ⟨fun z => absurd z (by decide +kernel), fun z => absurd z h⟩
theorem nz2' : ¬ nI 2 = 0 := by decide +kernel
theorem c3_eq0 {c : Prop} {d : Decidable c} : (nI (@ite _ c d 0 1) = 0) = c := by rw [← mg_n]; exact c2_eq0
theorem b3_eq0 {c : Prop} {d : Decidable c} : (nI (@ite _ c d 1 0) = 0) = ¬ c := by rw [← mg_n]; exact b2_eq0
theorem div2 {a : Nat} (h : a < 2 ^ 31) : nI a / nI 2 = nI (a / 2) := pk_div h (by decide) (by decide)
theorem s_bringsBy {L : Nat} {M : Nat → Nat → Int32} {t : Nat → Nat} (hs : rS M t) (hw : wfT t) {p h s a : Nat} (hp : p < 9) (hh : h < 4) (hss : s < 512) (ha : a < 512) : R 151 0 [.ref 36, .int (nI p), .int (nI h), .int (nI s), .int (nI a), .null, .null, .null, .null] [] (SH L, M) = some (some (.int (nI (bring t p h s a))), (SH L, M)) := by
  have hk : t (9 + 8 * p + 0) < 7 := (hw.2.2.2.2.2.1 p hp).1
  have hwo : t (9 + 8 * p + (4 + h)) ≤ 99 := (hw.2.2.2.2.2.1 p hp).2.2.2.2 h hh
  have hy := hw.1
  have hkn := hw.2.2.2.2.1
  have d1 : dif (s &&& a) (2 ^ p) < 2 ^ 31 := Nat.lt_of_le_of_lt (Nat.le_trans (dif_le _ _) Nat.and_le_left) (by omega)
  have d2 : dif a s < 2 ^ 31 := Nat.lt_of_le_of_lt (dif_le _ _) (by omega)
  have hpop := pop_le s
  simp (disch := omega) only [r151_0, r151_1, r151_2, r151_3, r151_4, r151_5, r151_8, r151_10, r151_11, r151_13, r151_14, r151_15, r151_16, r151_17, r151_18, r151_19, r151_20, r151_23, r151_24, r151_27, nI_add, s_its, Option.bind_some, vtl_some, hs (9 + 8 * p + (4 + h)), nI_and, nI_shl1, nI_dif, nI_eq0, mg_R]
  simp (disch := omega) only [r151_28, r151_30, r151_31, r151_34, r151_35, r151_36, r151_37, r151_40, r151_43, r151_44, r151_47, hs 3, s_has, Option.bind_some, vtl_some, b2_eq0, ite_not2, mg_R]
  simp (disch := omega) only [r151_49, r151_51, r151_53, r151_54, r151_57, r151_58, r151_59, r151_62, r151_63, r151_66, r151_68, r151_69, r151_72, r151_73, r151_74, hs 0, nI_le'', mg_R]
  have e1 : (if t 0 ≤ t (9 + 8 * p + (4 + h)) then nI (t (9 + 8 * p + (4 + h))) - nI (t 0) else nI 0) = nI (wo t p h - t 0) := by
    by_cases q : t 0 ≤ t (9 + 8 * p + (4 + h))
    · rw [if_pos q, pk_sub q]
    · rw [if_neg q, show t (9 + 8 * p + (4 + h)) - t 0 = 0 from Nat.sub_eq_zero_of_le (by omega)]
  rw [e1]
  have e2 : (if (t 3).testBit h = true then nI 0 else nI (t (9 + 8 * p + (4 + h)))) = nI (fei t p h) := mg_n
  rw [e2]
  simp (disch := omega) only [r151_75, r151_77, r151_78, r151_79, r151_80, s_its, Option.bind_some, vtl_some, hs (9 + 8 * p + 0)]
  have e3 : (if dif (s &&& a) (2 ^ p) = 0 then nI (t (9 + 8 * p + (4 + h))) else nI (2 * t (9 + 8 * p + (4 + h)))) = nI (prd t p h s a) := mg_n
  have hf : fei t p h < 2 ^ 31 := by
    unfold fei
    split
    · decide
    · show t (9 + 8 * p + (4 + h)) < 2 ^ 31
      omega
  have hlt : wo t p h - t 0 < 2 ^ 31 := by
    show t (9 + 8 * p + (4 + h)) - t 0 < 2 ^ 31
    omega
  unfold bring
  show _ = some (some (Value.int (nI (match t (9 + 8 * p + 0) with | 1 => prd t p h s a | 2 => wo t p h - t 0 | 3 => if dif a s = 0 then prd t p h s a else 0 | 4 => if pop s ≤ 3 then wo t p h - t 0 else (wo t p h - t 0) / 2 | 5 => fei t p h | 6 => if dif (s &&& a) (2 ^ p) = 0 then fei t p h else fei t p h + 5 | _ => wo t p h))), (SH L, M))
  have hc : t (9 + 8 * p + 0) = 0 ∨ t (9 + 8 * p + 0) = 1 ∨ t (9 + 8 * p + 0) = 2 ∨ t (9 + 8 * p + 0) = 3 ∨ t (9 + 8 * p + 0) = 4 ∨ t (9 + 8 * p + 0) = 5 ∨ t (9 + 8 * p + 0) = 6 := by omega
  rcases hc with e | e | e | e | e | e | e <;> rw [e] <;> simp only
  · rw [r151_83_d (by decide +kernel)]
    simp only [r151_202, r151_204]
  · simp only [r151_83_1, r151_83_2, r151_83_3, r151_83_4, r151_83_5, r151_83_6, r151_83_d, r151_120, r151_122, r151_125, r151_126, r151_128, r151_129, r151_132, c2_eq0, pk_mul, mg_R, e3]
    simp only [r151_134]
  · simp only [r151_83_1, r151_83_2, r151_83_3, r151_83_4, r151_83_5, r151_83_6, r151_83_d, r151_120, r151_122, r151_125, r151_126, r151_128, r151_129, r151_132, r151_135, r151_137]
  · simp (disch := omega) only [r151_83_1, r151_83_2, r151_83_3, r151_83_4, r151_83_5, r151_83_6, r151_83_d, r151_138, r151_140, r151_141, r151_142, r151_143, r151_144, r151_147, r151_148, r151_151, r151_153, r151_156, r151_157, r151_159, r151_160, r151_163, nI_dif, nI_eq0, c2_eq0, pk_mul, mg_R, e3]
    simp only [r151_165, mg_n]
  · simp (disch := omega) only [r151_83_1, r151_83_2, r151_83_3, r151_83_4, r151_83_5, r151_83_6, r151_83_d, r151_166, r151_167, r151_170, r151_171, r151_174, r151_176, r151_178, r151_181, r151_177 nz2', s_ones, Option.bind_some, vtl_some, nI_le'', div2, mg_R, mg_n]
    simp only [r151_183]
  · simp only [r151_83_1, r151_83_2, r151_83_3, r151_83_4, r151_83_5, r151_83_6, r151_83_d, r151_184, r151_186]
  · simp (disch := omega) only [r151_83_1, r151_83_2, r151_83_3, r151_83_4, r151_83_5, r151_83_6, r151_83_d, r151_187, r151_189, r151_192, r151_194, r151_195, r151_196, r151_199, c2_eq0, c3_eq0, nI_add, mg_R, mg_n]
    simp only [r151_201]
theorem s_bringsTo {L : Nat} {M : Nat → Nat → Int32} {t : Nat → Nat} (hs : rS M t) (hw : wfT t) {p h s : Nat} (hp : p < 9) (hh : h < 4) (hss : s < 512) : R 150 0 [.ref 36, .int (nI p), .int (nI h), .int (nI s)] [] (SH L, M) = some (some (.int (nI (bring t p h s (mem t (th t p))))), (SH L, M)) := by
  have hth : t (9 + 8 * p + 1) < 5 := (hw.2.2.2.2.2.1 p hp).2.1
  have hm := mem_lt (th t p) hw.2.1
  simp (disch := omega) only [r150_0, r150_1, r150_2, r150_3, r150_4, r150_5, r150_6, r150_7, r150_8, r150_11, r150_14, r150_17, s_its, Option.bind_some, vtl_some, hs (9 + 8 * p + 1), s_partsOf hs hw hth, s_bringsBy hs hw hp hh hss hm]
theorem s_valueOf_l {L : Nat} {M : Nat → Nat → Int32} {t : Nat → Nat} (hs : rS M t) (hw : wfT t) {h s : Nat} (hh : h < 4) (hss : s < 512) : ∀ (k n : Nat), n + k = t 1 → R 152 5 [.ref 36, .int (nI h), .int (nI s), .int (nI (valN t h s n)), .int (nI n)] [] (SH L, M) = some (some (.int (nI (val t h s))), (SH L, M)) := by
  have hP := hw.2.1
  intro k
  induction k with
  | zero =>
    intro n hn
    rw [r152_5]
    simp (disch := omega) only [r152_0, r152_1, r152_2, r152_3, r152_7, r152_8, r152_11, r152_12, r152_13, r152_16, r152_17, r152_18, r152_20, r152_23, r152_26, r152_27, r152_29, r152_30, r152_31, r152_34, r152_37, r152_38, r152_39, r152_40, r152_43, r152_46, r152_47, hs 1, nI_le'', show t 1 ≤ n from by omega, if_true]
    rw [val, show n = t 1 by omega]
  | succ k ih =>
    intro n hn
    rw [r152_5]
    simp (disch := omega) only [r152_0, r152_1, r152_2, r152_3, r152_7, r152_8, r152_11, r152_12, r152_13, r152_16, r152_17, r152_18, r152_20, r152_23, r152_26, r152_27, r152_29, r152_30, r152_31, r152_34, r152_37, r152_39, r152_40, r152_43, r152_46, r152_47, hs 1, nI_le'', show ¬ t 1 ≤ n from by omega, if_false, s_has, s_bringsTo hs hw (show n < 9 by omega) hh hss, Option.bind_some, vtl_some, b2_eq0, ite_not2, mg_R]
    simp only [r152_38, r152_39, r152_40, r152_43, mg_n, nI_add]
    exact ih (n + 1) (by omega)
theorem s_valueOf {L : Nat} {M : Nat → Nat → Int32} {t : Nat → Nat} (hs : rS M t) (hw : wfT t) {h s : Nat} (hh : h < 4) (hss : s < 512) : R 152 0 [.ref 36, .int (nI h), .int (nI s), .null, .null] [] (SH L, M) = some (some (.int (nI (val t h s))), (SH L, M)) := by
  simp only [r152_0, r152_1, r152_2, r152_3, r152_7, r152_8, r152_11, r152_12, r152_13, r152_16, r152_17, r152_18, r152_20, r152_23, r152_26, r152_27, r152_29, r152_30, r152_31, r152_34, r152_37, r152_38, r152_39, r152_40, r152_43, r152_46, r152_47]
  exact s_valueOf_l hs hw hh hss (t 1) 0 (by omega)
/-- the heir to whom a set is dearest -/
def deaN (t : Nat → Nat) (s : Nat) : Nat → Nat
  | 0 => 0
  | n + 1 => if val t (deaN t s n) s < val t (n + 1) s then n + 1 else deaN t s n
def dea (t : Nat → Nat) (s : Nat) : Nat := deaN t s (t 2 - 1)
theorem deaN_le (t : Nat → Nat) (s n : Nat) : deaN t s n ≤ n := by
  induction n with
  | zero => exact Nat.le_refl _
  | succ n ih =>
    rw [deaN]
    split <;> omega
theorem s_dearestOf_l {L : Nat} {M : Nat → Nat → Int32} {t : Nat → Nat} (hs : rS M t) (hw : wfT t) {s : Nat} (hss : s < 512) : ∀ (k n : Nat), n + 1 + k = t 2 → R 155 4 [.ref 36, .int (nI s), .int (nI (deaN t s n)), .int (nI (n + 1))] [] (SH L, M) = some (some (.int (nI (dea t s))), (SH L, M)) := by
  have hH := hw.2.2.2.1
  intro k
  induction k with
  | zero =>
    intro n hn
    rw [r155_4]
    simp (disch := omega) only [r155_0, r155_1, r155_2, r155_3, r155_5, r155_6, r155_9, r155_10, r155_11, r155_14, r155_15, r155_16, r155_17, r155_20, r155_21, r155_22, r155_23, r155_26, r155_29, r155_30, r155_33, r155_34, r155_35, r155_38, r155_41, r155_42, hs 2, nI_le'', show t 2 ≤ n + 1 from by omega, if_true]
    rw [dea, show n = t 2 - 1 by omega]
  | succ k ih =>
    intro n hn
    have h1 := deaN_le t s n
    have v1 := val_le hw (h := n + 1) (by omega) s
    have v2 := val_le hw (h := deaN t s n) (by omega) s
    rw [r155_4]
    simp (disch := omega) only [r155_0, r155_1, r155_2, r155_3, r155_5, r155_6, r155_9, r155_10, r155_11, r155_14, r155_15, r155_16, r155_17, r155_20, r155_21, r155_22, r155_23, r155_26, r155_29, r155_30, r155_33, r155_35, r155_38, r155_41, r155_42, hs 2, nI_le'', show ¬ t 2 ≤ n + 1 from by omega, if_false, s_valueOf hs hw (show n + 1 < 4 by omega) hss, s_valueOf hs hw (show deaN t s n < 4 by omega) hss, Option.bind_some, vtl_some, mg_R]
    simp only [r155_34, r155_35, r155_38, mg_n, nI_add]
    have e : (if val t (n + 1) s ≤ val t (deaN t s n) s then deaN t s n else n + 1) = deaN t s (n + 1) := by
      rw [deaN]
      by_cases q : val t (n + 1) s ≤ val t (deaN t s n) s
      · rw [if_pos q, if_neg (by omega)]
      · rw [if_neg q, if_pos (by omega)]
    rw [e]
    exact ih (n + 1) (by omega)
theorem s_dearestOf {L : Nat} {M : Nat → Nat → Int32} {t : Nat → Nat} (hs : rS M t) (hw : wfT t) {s : Nat} (hss : s < 512) : R 155 0 [.ref 36, .int (nI s), .null, .null] [] (SH L, M) = some (some (.int (nI (dea t s))), (SH L, M)) := by
  have := hw.2.2.1
  simp only [r155_0, r155_1, r155_2, r155_3, r155_5, r155_6, r155_9, r155_10, r155_11, r155_14, r155_15, r155_16, r155_17, r155_20, r155_21, r155_22, r155_23, r155_26, r155_29, r155_30, r155_33, r155_34, r155_35, r155_38, r155_41, r155_42]
  exact s_dearestOf_l hs hw hss (t 2 - 1) 0 (by omega)
