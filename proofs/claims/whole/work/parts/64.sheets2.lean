/-! copy, load, judge -/
def okr (b e f : Int32) (n1 n2 : Nat) : Prop := 0 ≤ b.toInt ∧ 0 ≤ f.toInt ∧ b.toInt + f.toInt ≤ (n1 : Int) ∧ 0 ≤ e.toInt ∧ e.toInt + f.toInt ≤ (n2 : Int)
theorem sub_toI {n : Nat} {b : Int32} (hn : n ≤ 40) (hb : 0 ≤ b.toInt) : (nI n - b).toInt = (n : Int) - b.toInt := by
  have h1 := Int32.toInt_lt b
  rw [Int32.toInt_sub, nI_toInt (by omega)]
  apply Int.bmod_eq_of_le <;> omega
theorem lt0I {b : Int32} : (b < 0) = (b.toInt < 0) := by
  rw [Int32.lt_iff_toInt_lt, Int32.toInt_zero]
theorem rg_ite {α : Type} {b e f : Int32} {n1 n2 : Nat} {d : Decidable (okr b e f n1 n2)} (h1 : n1 ≤ 40) (h2 : n2 ≤ 40) {A B : α} : (if b < 0 then A else if e < 0 then A else if f < 0 then A else if nI n1 - b < f then A else if f ≤ nI n2 - e then B else A) = @ite _ (okr b e f n1 n2) d B A := by
  by_cases q1 : b < 0
  · rw [if_pos q1, if_neg]
    rw [lt0I] at q1
    exact fun z => absurd z.1 (by omega)
  rw [if_neg q1]
  by_cases q2 : e < 0
  · rw [if_pos q2, if_neg]
    rw [lt0I] at q2
    exact fun z => absurd z.2.2.2.1 (by omega)
  rw [if_neg q2]
  by_cases q3 : f < 0
  · rw [if_pos q3, if_neg]
    rw [lt0I] at q3
    exact fun z => absurd z.2.1 (by omega)
  rw [if_neg q3]
  rw [lt0I] at q1 q2 q3
  by_cases q4 : nI n1 - b < f
  · rw [if_pos q4, if_neg]
    rw [Int32.lt_iff_toInt_lt, sub_toI h1 (by omega)] at q4
    exact fun z => absurd z.2.2.1 (by omega)
  rw [if_neg q4]
  rw [Int32.lt_iff_toInt_lt, sub_toI h1 (by omega)] at q4
  by_cases q5 : f ≤ nI n2 - e
  · rw [if_pos q5, if_pos]
    rw [Int32.le_iff_toInt_le, sub_toI h2 (by omega)] at q5
    exact ⟨by omega, by omega, by omega, by omega, by omega⟩
  · rw [if_neg q5, if_neg]
    rw [Int32.le_iff_toInt_le, sub_toI h2 (by omega)] at q5
    exact fun z => absurd z.2.2.2.2 (by omega)
def hrg (b f : Int32) (n : Nat) : Prop := 0 ≤ b.toInt ∧ 0 ≤ f.toInt ∧ b.toInt + f.toInt ≤ (n : Int)
theorem hrg_cmp {b f : Int32} {n : Nat} (hn : n ≤ 40) (hb : 0 ≤ b.toInt) (hf : 0 ≤ f.toInt) : (0 < lg_cmp (b.toInt64 + f.toInt64) (nI n).toInt64) = ¬ (b.toInt + f.toInt ≤ (n : Int)) := by
  have h1 := Int32.toInt_lt b
  have h2 := Int32.toInt_lt f
  apply propext
  rw [lg_cmp_gt, Int64.lt_iff_toInt_lt, Int64.toInt_add, Int32.toInt_toInt64, Int32.toInt_toInt64, Int32.toInt_toInt64, nI_toInt (by omega)]
  have e : (b.toInt + f.toInt).bmod (2 ^ 64) = b.toInt + f.toInt := by
    apply Int.bmod_eq_of_le <;> omega
  rw [e]
  omega
/-- a row that comes over another one -/
def cpM (M : Nat → Nat → Int32) (a lo : Nat) (g : Nat → Int32) (k : Nat) : Nat → Nat → Int32 := fun b i => if b = a ∧ lo ≤ i ∧ i < lo + k then g (i - lo) else M b i
theorem cpM_0 {M : Nat → Nat → Int32} {a lo : Nat} {g : Nat → Int32} : cpM M a lo g 0 = M := by
  funext b i
  unfold cpM
  rw [if_neg (by omega)]
theorem cpM_s {M : Nat → Nat → Int32} {a lo k : Nat} {g : Nat → Int32} : upd2 (cpM M a lo g k) a (lo + k) (g k) = cpM M a lo g (k + 1) := by
  funext b i
  show (if b = a then (if i = lo + k then g k else (if b = a ∧ lo ≤ i ∧ i < lo + k then g (i - lo) else M b i)) else (if b = a ∧ lo ≤ i ∧ i < lo + k then g (i - lo) else M b i)) = (if b = a ∧ lo ≤ i ∧ i < lo + (k + 1) then g (i - lo) else M b i)
  by_cases q : b = a
  · rw [if_pos q]
    by_cases q2 : i = lo + k
    · rw [if_pos q2, if_pos (by omega), show i - lo = k by omega]
    · rw [if_neg q2]
      by_cases q3 : lo ≤ i ∧ i < lo + k
      · rw [if_pos ⟨q, q3⟩, if_pos (by omega)]
      · rw [if_neg (fun z => q3 z.2), if_neg (by omega)]
  · rw [if_neg q, if_neg (fun z => q z.1), if_neg (fun z => q z.1)]
theorem cpM_in {M : Nat → Nat → Int32} {a lo k i : Nat} {g : Nat → Int32} (h : lo ≤ i ∧ i < lo + k) : cpM M a lo g k a i = g (i - lo) := if_pos ⟨rfl, h⟩
theorem cpM_out {M : Nat → Nat → Int32} {a lo k b i : Nat} {g : Nat → Int32} (h : b ≠ a ∨ i < lo ∨ lo + k ≤ i) : cpM M a lo g k b i = M b i := if_neg (by omega)
section SH2
variable {L : Nat} {M : Nat → Nat → Int32} {t : Nat → Nat} {z : Int32} {sp : Nat → Int32} {c : Nat}
theorem k_hasRange {s n : Nat} {b f : Int32} {d : Decidable (hrg b f n)} (hs : s < 4) (hn : n ≤ 40) (e : M 33 s = nI n) : R 38 0 [.ref 30, .int (nI s), .int b, .int f] [] (SH L, M) = some (some (.int (@ite _ (hrg b f n) d (nI 1) (nI 0))), (SH L, M)) := by
  simp (disch := omega) only [r38_0, r38_1, r38_4, r38_5, r38_8, r38_9, r38_10, r38_11, r38_12, r38_13, r38_14, r38_17, r38_18, r38_19, r38_20, r38_21, r38_24, r38_25, r38_28, e]
  by_cases q1 : b < 0
  · have q1' := q1
    rw [lt0I] at q1'
    rw [if_pos q1, if_neg (fun z => absurd z.1 (by omega))]
    simp only [r38_29_0, r38_29_1]
  · have q1' := q1
    rw [lt0I] at q1'
    rw [if_neg q1]
    by_cases q2 : f < 0
    · have q2' := q2
      rw [lt0I] at q2'
      rw [if_pos q2, if_neg (fun z => absurd z.2.1 (by omega))]
      simp only [r38_29_0, r38_29_1]
    · have q2' := q2
      rw [lt0I] at q2'
      rw [if_neg q2]
      by_cases q3 : b.toInt + f.toInt ≤ (n : Int)
      · rw [if_neg (by rw [hrg_cmp hn (by omega) (by omega)]; exact fun z => z q3), if_pos ⟨by omega, by omega, q3⟩]
        simp only [r38_29_0, r38_29_1]
      · rw [if_pos (by rw [hrg_cmp hn (by omega) (by omega)]; exact q3), if_neg (fun z => q3 z.2.2)]
        simp only [r38_29_0, r38_29_1]
theorem q_cp_1 {v2 v4 : Value} {x m : Nat} {s tt : Nat} (hs : s < 4) (hx : x + m ≤ 40) : ∀ (k j : Nat), j + k = m → R 220 121 [.ref 36, .int (nI s), .int (nI x), v2, v4, .int (nI m), .int (nI j)] [] (SH L, cpM M 54 0 (fun i => M 53 (40 * s + x + i)) j) = R 220 155 [.ref 36, .int (nI s), .int (nI x), v2, v4, .int (nI m), .int (nI m)] [] (SH L, cpM M 54 0 (fun i => M 53 (40 * s + x + i)) m) := by
  intro k
  induction k with
  | zero =>
    intro j hj
    rw [r220_121]
    simp (disch := omega) only [r220_123, r220_125, nI_le'', show m ≤ j from by omega, if_true]
    rw [show j = m by omega]
  | succ k ih =>
    intro j hj
    have e1 : cpM M 54 0 (fun i => M 53 (40 * s + x + i)) j 53 (40 * s + x + j) = M 53 (40 * s + x + j) := cpM_out (Or.inl (by omega))
    have e2 : upd2 (cpM M 54 0 (fun i => M 53 (40 * s + x + i)) j) 54 j (M 53 (40 * s + x + j)) = cpM M 54 0 (fun i => M 53 (40 * s + x + i)) (j + 1) := by
      have := cpM_s (M := M) (a := 54) (lo := 0) (k := j) (g := fun i => M 53 (40 * s + x + i))
      rw [Nat.zero_add] at this
      exact this
    rw [r220_121]
    simp (disch := omega) only [r220_123, r220_125, r220_128, r220_129, r220_132, r220_134, r220_135, r220_138, r220_140, r220_141, r220_142, r220_143, r220_144, r220_146, r220_147, r220_148, r220_149, r220_152, nI_le'', show ¬ m ≤ j from by omega, if_false, pk_mul, nI_add, e1, e2]
    exact ih (j + 1) (by omega)
theorem q_cp_2 {v1 v2 : Value} {y m : Nat} {tt : Nat} {g : Nat → Int32} (ht : tt < 4) (hy : y + m ≤ 40) (hg : ∀ i, i < m → M 54 i = g i) : ∀ (k j : Nat), j + k = m → R 220 158 [.ref 36, v1, v2, .int (nI tt), .int (nI y), .int (nI m), .int (nI j)] [] (SH L, cpM M 53 (40 * tt + y) g j) = some (some (.int (nI m)), (SH L, cpM M 53 (40 * tt + y) g m)) := by
  intro k
  induction k with
  | zero =>
    intro j hj
    rw [r220_158]
    simp (disch := omega) only [r220_160, r220_162, r220_193, r220_195, nI_le'', show m ≤ j from by omega, if_true]
    rw [show j = m by omega]
  | succ k ih =>
    intro j hj
    have e1 : cpM M 53 (40 * tt + y) g j 54 j = g j := by rw [cpM_out (Or.inl (by omega))]; exact hg j (by omega)
    rw [r220_158]
    simp (disch := omega) only [r220_160, r220_162, r220_165, r220_166, r220_169, r220_171, r220_172, r220_173, r220_175, r220_176, r220_178, r220_179, r220_180, r220_183, r220_185, r220_186, r220_187, r220_190, nI_le'', show ¬ m ≤ j from by omega, if_false, pk_mul, nI_add, e1, cpM_s]
    exact ih (j + 1) (by omega)
theorem c_copy (h : IV M t z sp c) (a b d e f : Int32) : OK L M c (fun M => R 100 0 [.ref 1, .int a, .int b, .int d, .int e, .int f] [] (SH L, M)) (fun M => R 220 0 [.ref 36, .int a, .int b, .int d, .int e, .int f, .null] [] (SH L, M)) := by
  by_cases h1 : rng a 4
  · by_cases h2 : rng d 4
    · obtain ⟨s, hs, rfl⟩ := rng_of (by omega) h1
      obtain ⟨u, hu, rfl⟩ := rng_of (by omega) h2
      obtain ⟨⟨w1, hw1, a1, a2⟩, ⟨n1, hn1, a3, a4⟩⟩ := h.sh.2 s hs
      obtain ⟨⟨w2, hw2, b1, b2⟩, ⟨n2, hn2, b3, b4⟩⟩ := h.sh.2 u hu
      have fs : ∀ M1 : Nat → Nat → Int32, (∀ b, b ≠ 34 → M1 b = M b) → M1 51 s = nI w1 ∧ M1 51 u = nI w2 ∧ M1 52 s = nI n1 ∧ M1 52 u = nI n2 := fun M1 fr => ⟨by rw [fr 51 (by omega)]; exact a2, by rw [fr 51 (by omega)]; exact b2, by rw [fr 52 (by omega)]; exact a4, by rw [fr 52 (by omega)]; exact b4⟩
      have gq : ∀ {α : Type} {A B : α}, (if w1 = 0 then A else if w2 = 0 then A else B) = if w1 = 0 ∨ w2 = 0 then A else B := fun {α A B} => by
        by_cases q1 : w1 = 0
        · rw [if_pos q1, if_pos (Or.inl q1)]
        · rw [if_neg q1]
          by_cases q2 : w2 = 0
          · rw [if_pos q2, if_pos (Or.inr q2)]
          · rw [if_neg q2, if_neg (fun z => z.elim q1 q2)]
      by_cases h3 : w1 = 0 ∨ w2 = 0
      · refine okFc h (x := -1000006) (k := 5) (by simp (disch := omega) only [r100_0, r100_1, r100_2, r100_5, r100_8, r100_9, r100_10, r100_13, r100_16, r100_17, r100_19, r100_22, r100_23, r100_24, r100_27, r100_30, r100_31, r100_32, r100_35, r100_36, r100_39, r100_42, r100_43, r100_44, r100_47, r100_48, r100_50, r100_53, r100_54, r100_55, r100_58, r100_61, r100_62, r100_63, r100_64, r100_67, r100_70, r100_71, r100_72, r100_75, r100_76, r100_78, r100_81, r100_82, r100_83, r100_86, r100_87, r100_88, r100_90, r100_93, r100_96, r100_97, r100_100, r100_101, r100_103, r100_105, r100_108, r100_111, r100_112, r100_114, r100_117, r100_118, r100_119, r100_122, r100_123, r100_124, r100_125, r100_127, r100_129, r100_132, r100_134, Option.bind_some, vtl_some, vtl_none, s_within, s_isSet5 h.e h.w, h.e.p, h.e.h, h.od5, h.me4, b2_eq0, ite_not2, nz1, nz0, n1z, n0z, if_true, if_false, fd0, fd1, fd2, fd3, fd4, fd5, fd6, if_pos h1, if_pos h2, a1, b1, nI_eq0, gq, if_pos h3]) (fun M1 fr hs => ?_)
        obtain ⟨y1, y2, y3, y4⟩ := fs M1 fr
        simp (disch := omega) only [r220_0, r220_1, r220_4, r220_7, r220_8, r220_11, r220_14, r220_15, r220_17, r220_20, r220_21, r220_22, r220_25, r220_26, r220_27, r220_30, r220_31, r220_34, r220_35, r220_36, r220_39, r220_40, r220_43, r220_46, Option.bind_some, vtl_some, vtl_none, s_isPart hs h.w, s_isHeir hs h.w, s_isSet6 hs h.w, s_isAny, s_isThing, s_isOne, b2_eq0, ite_not2, nz1, nz0, n1z, n0z, if_true, if_false, gd0, gd1, gd2, gd3, gd4, gd5, gd6, hs 1, hs 2, if_pos h1, if_pos h2, y1, y2, nI_eq0, gq, if_pos h3]
      · by_cases h4 : w1 = w2
        · have dr : Decidable (okr b e f n1 n2) := Classical.propDecidable _
          have d1 : Decidable (hrg b f n1) := Classical.propDecidable _
          have d2 : Decidable (hrg e f n2) := Classical.propDecidable _
          have r1 := k_hasRange (L := L) (M := M) (b := b) (f := f) (d := d1) hs hn1 a3
          have r2 := k_hasRange (L := L) (M := M) (b := e) (f := f) (d := d2) hu hn2 b3
          by_cases h5 : okr b e f n1 n2
          · have g1 : hrg b f n1 := ⟨h5.1, h5.2.1, h5.2.2.1⟩
            have g2 : hrg e f n2 := ⟨h5.2.2.2.1, h5.2.1, h5.2.2.2.2⟩
            obtain ⟨o1, o2, o3, o4, o5⟩ := id h5
            obtain ⟨x, hx, rfl⟩ := rng_of (show 41 < 2 ^ 31 by decide) (x := b) (n := 41) ⟨o1, by omega⟩
            obtain ⟨y, hy, rfl⟩ := rng_of (show 41 < 2 ^ 31 by decide) (x := e) (n := 41) ⟨o4, by omega⟩
            obtain ⟨m, hm, rfl⟩ := rng_of (show 41 < 2 ^ 31 by decide) (x := f) (n := 41) ⟨o2, by omega⟩
            rw [nI_toInt (by omega), nI_toInt (by omega)] at o3 o5
            rw [if_pos g1] at r1
            rw [if_pos g2] at r2
            have mv : R 39 0 [.ref 30, .int (nI s), .int (nI x), .int (nI u), .int (nI y), .int (nI m)] [] (SH L, M) = some (none, (SH L, cp2 M 31 (s * 40 + x) 31 (u * 40 + y) m)) := by
              simp (disch := omega) only [r39_0, r39_1, r39_4, r39_5, r39_7, r39_8, r39_9, r39_10, r39_11, r39_14, r39_15, r39_17, r39_18, r39_20, r39_21, r39_23, r39_26, pk_mul, nI_add]
            have m31 : ∀ i, cp2 M 31 (s * 40 + x) 31 (u * 40 + y) m 31 i = if u * 40 + y ≤ i ∧ i < u * 40 + y + m then M 31 (s * 40 + x + (i - (u * 40 + y))) else M 31 i := fun i => by
              show (if 31 = 31 then va_cpy (M 31) (M 31) (s * 40 + x) (u * 40 + y) m i else M 31 i) = _
              rw [if_pos rfl]
              by_cases q : u * 40 + y ≤ i ∧ i < u * 40 + y + m
              · rw [if_pos q, pk_cpy_in q.1 q.2]
              · rw [if_neg q, pk_cpy_out (by omega)]
            have mo : ∀ b, b ≠ 31 → cp2 M 31 (s * 40 + x) 31 (u * 40 + y) m b = M b := fun b hb => by
              funext i
              exact if_neg hb
            have c1 := q_cp_1 (L := L) (M := cp2 M 31 (s * 40 + x) 31 (u * 40 + y) m) (v2 := .int (nI u)) (v4 := .int (nI y)) (x := x) (m := m) (s := s) (tt := u) hs (by omega) m 0 (Nat.zero_add _)
            rw [cpM_0] at c1
            have c2 := q_cp_2 (L := L) (M := cpM (cp2 M 31 (s * 40 + x) 31 (u * 40 + y) m) 54 0 (fun i => cp2 M 31 (s * 40 + x) 31 (u * 40 + y) m 53 (40 * s + x + i)) m) (v1 := .int (nI s)) (v2 := .int (nI x)) (y := y) (m := m) (tt := u) (g := fun i => cp2 M 31 (s * 40 + x) 31 (u * 40 + y) m 53 (40 * s + x + i)) hu (by omega) (fun i hi => by rw [cpM_in (by omega), Nat.sub_zero]) m 0 (Nat.zero_add _)
            rw [cpM_0] at c2
            have q0 : R 220 0 [.ref 36, .int (nI s), .int (nI x), .int (nI u), .int (nI y), .int (nI m), .null] [] (SH L, cp2 M 31 (s * 40 + x) 31 (u * 40 + y) m) = R 220 121 [.ref 36, .int (nI s), .int (nI x), .int (nI u), .int (nI y), .int (nI m), .int (nI 0)] [] (SH L, cp2 M 31 (s * 40 + x) 31 (u * 40 + y) m) := by
              have z2 : cp2 M 31 (s * 40 + x) 31 (u * 40 + y) m 51 s = nI w1 := by rw [mo 51 (by omega)]; exact a2
              have z3 : cp2 M 31 (s * 40 + x) 31 (u * 40 + y) m 51 u = nI w2 := by rw [mo 51 (by omega)]; exact b2
              have z4 : cp2 M 31 (s * 40 + x) 31 (u * 40 + y) m 52 s = nI n1 := by rw [mo 52 (by omega)]; exact a4
              have z5 : cp2 M 31 (s * 40 + x) 31 (u * 40 + y) m 52 u = nI n2 := by rw [mo 52 (by omega)]; exact b4
              simp (disch := omega) only [r220_0, r220_1, r220_4, r220_7, r220_8, r220_11, r220_14, r220_15, r220_17, r220_20, r220_21, r220_22, r220_25, r220_26, r220_27, r220_30, r220_31, r220_34, r220_35, r220_36, r220_39, r220_40, r220_43, r220_46, r220_47, r220_48, r220_51, r220_52, r220_53, r220_54, r220_57, r220_58, r220_59, r220_62, r220_63, r220_66, r220_69, r220_70, r220_71, r220_74, r220_76, r220_79, r220_81, r220_84, r220_86, r220_87, r220_90, r220_91, r220_92, r220_93, r220_94, r220_97, r220_99, r220_100, r220_103, r220_104, r220_105, r220_107, r220_108, r220_111, r220_112, r220_114, r220_117, r220_118, r220_119, s_isOne, if_pos h1, if_pos h2, nz1, n1z, if_false, Option.bind_some, vtl_some, z2, z3, z4, z5, nI_eq0, gq, if_neg h3, nI_eq', if_pos h4, rg_ite (d := dr) hn1 hn2, if_pos h5]
            have i6 : ∀ i, i < 160 → M 53 i = M 31 i := fun i hi => h.nu hi
            refine okG (r := nI m) (M1 := cp2 M 31 (s * 40 + x) 31 (u * 40 + y) m) (by simp (disch := omega) only [r100_0, r100_1, r100_2, r100_5, r100_8, r100_9, r100_10, r100_13, r100_16, r100_17, r100_19, r100_22, r100_23, r100_24, r100_27, r100_30, r100_31, r100_32, r100_35, r100_36, r100_39, r100_42, r100_43, r100_44, r100_47, r100_48, r100_50, r100_53, r100_54, r100_55, r100_58, r100_61, r100_62, r100_63, r100_64, r100_67, r100_70, r100_71, r100_72, r100_75, r100_76, r100_78, r100_81, r100_82, r100_83, r100_86, r100_87, r100_88, r100_90, r100_93, r100_96, r100_97, r100_100, r100_101, r100_103, r100_105, r100_108, r100_111, r100_112, r100_114, r100_117, r100_118, r100_119, r100_122, r100_123, r100_124, r100_125, r100_127, r100_129, r100_132, r100_134, Option.bind_some, vtl_some, vtl_none, s_within, s_isSet5 h.e h.w, h.e.p, h.e.h, h.od5, h.me4, b2_eq0, ite_not2, nz1, nz0, n1z, n0z, if_true, if_false, fd0, fd1, fd2, fd3, fd4, fd5, fd6, if_pos h1, if_pos h2, a1, b1, nI_eq0, gq, if_neg h3, nI_eq', if_pos h4, r1, r2, mv]) (by rw [q0, c1]; simp only [r220_155, r220_156]; exact c2) (IV_ts h (fun b hb => ?_) ?_ (RT_eq h.tp ?_ ?_ ?_ ?_) ⟨fun i hi => ?_, fun q hq => ?_⟩) (Nat.le_add_right _ _)
            · funext j; rw [cpM_out (Or.inl (by omega)), cpM_out (Or.inl (by omega)), mo b (by omega)]
            · rw [cpM_out (Or.inl (by omega)), cpM_out (Or.inl (by omega)), mo _ (by omega)]
            · rw [cpM_out (Or.inl (by omega)), cpM_out (Or.inl (by omega)), mo _ (by omega)]
            · rw [cpM_out (Or.inl (by omega)), cpM_out (Or.inl (by omega)), mo _ (by omega)]
            · funext j; rw [cpM_out (Or.inl (by omega)), cpM_out (Or.inl (by omega)), mo _ (by omega)]
            · funext j; rw [cpM_out (Or.inl (by omega)), cpM_out (Or.inl (by omega)), mo _ (by omega)]
            · rw [cpM_out (Or.inl (by omega)), cpM_out (Or.inl (by omega)), m31]
              by_cases q : u * 40 + y ≤ i ∧ i < u * 40 + y + m
              · rw [if_pos q, cpM_in (by omega), mo 53 (by omega), i6 _ (by omega)]
                congr 1
                omega
              · rw [if_neg q, cpM_out (by omega), cpM_out (Or.inl (by omega)), mo 53 (by omega), i6 i hi]
            · have e32 : ∀ b, b = 32 ∨ b = 33 ∨ b = 51 ∨ b = 52 → ∀ j, cpM (cpM (cp2 M 31 (s * 40 + x) 31 (u * 40 + y) m) 54 0 (fun i => cp2 M 31 (s * 40 + x) 31 (u * 40 + y) m 53 (40 * s + x + i)) m) 53 (40 * u + y) (fun i => cp2 M 31 (s * 40 + x) 31 (u * 40 + y) m 53 (40 * s + x + i)) m b j = M b j := fun b hb j => by rw [cpM_out (Or.inl (by omega)), cpM_out (Or.inl (by omega)), mo _ (by omega)]
              rw [e32 32 (by omega), e32 33 (by omega), e32 51 (by omega), e32 52 (by omega)]
              exact h.sh.2 q hq
          · have og : ¬ (hrg b f n1 ∧ hrg e f n2) := fun z => h5 ⟨z.1.1, z.1.2.1, z.1.2.2, z.2.1, z.2.2.2⟩
            have cc : R 100 0 [.ref 1, .int (nI s), .int b, .int (nI u), .int e, .int f] [] (SH L, M) = some (some (.int (-1000001)), (SH L, upd2 M 34 0 (M 34 0 + nI 1))) := by
              by_cases q1 : hrg b f n1
              · rw [if_pos q1] at r1
                rw [if_neg (fun z => og ⟨q1, z⟩)] at r2
                simp (disch := omega) only [r100_0, r100_1, r100_2, r100_5, r100_8, r100_9, r100_10, r100_13, r100_16, r100_17, r100_19, r100_22, r100_23, r100_24, r100_27, r100_30, r100_31, r100_32, r100_35, r100_36, r100_39, r100_42, r100_43, r100_44, r100_47, r100_48, r100_50, r100_53, r100_54, r100_55, r100_58, r100_61, r100_62, r100_63, r100_64, r100_67, r100_70, r100_71, r100_72, r100_75, r100_76, r100_78, r100_81, r100_82, r100_83, r100_86, r100_87, r100_88, r100_90, r100_93, r100_96, r100_97, r100_100, r100_101, r100_103, r100_105, r100_108, r100_111, r100_112, r100_114, r100_117, r100_118, r100_119, r100_122, r100_123, r100_124, r100_125, r100_127, r100_129, r100_132, r100_134, Option.bind_some, vtl_some, vtl_none, s_within, s_isSet5 h.e h.w, h.e.p, h.e.h, h.od5, h.me4, b2_eq0, ite_not2, nz1, nz0, n1z, n0z, if_true, if_false, fd0, fd1, fd2, fd3, fd4, fd5, fd6, if_pos h1, if_pos h2, a1, b1, nI_eq0, gq, if_neg h3, nI_eq', if_pos h4, r1, r2]
              · rw [if_neg q1] at r1
                simp (disch := omega) only [r100_0, r100_1, r100_2, r100_5, r100_8, r100_9, r100_10, r100_13, r100_16, r100_17, r100_19, r100_22, r100_23, r100_24, r100_27, r100_30, r100_31, r100_32, r100_35, r100_36, r100_39, r100_42, r100_43, r100_44, r100_47, r100_48, r100_50, r100_53, r100_54, r100_55, r100_58, r100_61, r100_62, r100_63, r100_64, r100_67, r100_70, r100_71, r100_72, r100_75, r100_76, r100_78, r100_81, r100_82, r100_83, r100_86, r100_87, r100_88, r100_90, r100_93, r100_96, r100_97, r100_100, r100_101, r100_103, r100_105, r100_108, r100_111, r100_112, r100_114, r100_117, r100_118, r100_119, r100_122, r100_123, r100_124, r100_125, r100_127, r100_129, r100_132, r100_134, Option.bind_some, vtl_some, vtl_none, s_within, s_isSet5 h.e h.w, h.e.p, h.e.h, h.od5, h.me4, b2_eq0, ite_not2, nz1, nz0, n1z, n0z, if_true, if_false, fd0, fd1, fd2, fd3, fd4, fd5, fd6, if_pos h1, if_pos h2, a1, b1, nI_eq0, gq, if_neg h3, nI_eq', if_pos h4, r1]
            refine okFc h (x := -1000001) (k := 0) cc (fun M1 fr hs => ?_)
            obtain ⟨y1, y2, y3, y4⟩ := fs M1 fr
            simp (disch := omega) only [r220_0, r220_1, r220_4, r220_7, r220_8, r220_11, r220_14, r220_15, r220_17, r220_20, r220_21, r220_22, r220_25, r220_26, r220_27, r220_30, r220_31, r220_34, r220_35, r220_36, r220_39, r220_40, r220_43, r220_46, r220_47, r220_48, r220_51, r220_52, r220_53, r220_54, r220_57, r220_58, r220_59, r220_62, r220_63, r220_66, r220_69, r220_70, r220_71, r220_74, r220_76, r220_79, r220_81, r220_84, r220_86, r220_87, r220_90, r220_91, r220_92, r220_93, r220_94, r220_97, r220_99, r220_100, r220_103, r220_104, r220_105, r220_107, r220_108, r220_111, r220_112, r220_114, r220_117, Option.bind_some, vtl_some, vtl_none, s_isPart hs h.w, s_isHeir hs h.w, s_isSet6 hs h.w, s_isAny, s_isThing, s_isOne, b2_eq0, ite_not2, nz1, nz0, n1z, n0z, if_true, if_false, gd0, gd1, gd2, gd3, gd4, gd5, gd6, hs 1, hs 2, if_pos h1, if_pos h2, y1, y2, y3, y4, nI_eq0, gq, if_neg h3, nI_eq', if_pos h4, rg_ite (d := dr) hn1 hn2, if_neg h5]
        · refine okFc h (x := -1000003) (k := 2) (by simp (disch := omega) only [r100_0, r100_1, r100_2, r100_5, r100_8, r100_9, r100_10, r100_13, r100_16, r100_17, r100_19, r100_22, r100_23, r100_24, r100_27, r100_30, r100_31, r100_32, r100_35, r100_36, r100_39, r100_42, r100_43, r100_44, r100_47, r100_48, r100_50, r100_53, r100_54, r100_55, r100_58, r100_61, r100_62, r100_63, r100_64, r100_67, r100_70, r100_71, r100_72, r100_75, r100_76, r100_78, r100_81, r100_82, r100_83, r100_86, r100_87, r100_88, r100_90, r100_93, r100_96, r100_97, r100_100, r100_101, r100_103, r100_105, r100_108, r100_111, r100_112, r100_114, r100_117, r100_118, r100_119, r100_122, r100_123, r100_124, r100_125, r100_127, r100_129, r100_132, r100_134, Option.bind_some, vtl_some, vtl_none, s_within, s_isSet5 h.e h.w, h.e.p, h.e.h, h.od5, h.me4, b2_eq0, ite_not2, nz1, nz0, n1z, n0z, if_true, if_false, fd0, fd1, fd2, fd3, fd4, fd5, fd6, if_pos h1, if_pos h2, a1, b1, nI_eq0, gq, if_neg h3, nI_eq', if_neg h4]) (fun M1 fr hs => ?_)
          obtain ⟨y1, y2, y3, y4⟩ := fs M1 fr
          simp (disch := omega) only [r220_0, r220_1, r220_4, r220_7, r220_8, r220_11, r220_14, r220_15, r220_17, r220_20, r220_21, r220_22, r220_25, r220_26, r220_27, r220_30, r220_31, r220_34, r220_35, r220_36, r220_39, r220_40, r220_43, r220_46, r220_47, r220_48, r220_51, r220_52, r220_53, r220_54, r220_57, r220_58, r220_59, r220_62, r220_63, r220_66, r220_69, r220_70, r220_71, r220_74, r220_76, r220_79, r220_81, r220_84, r220_86, r220_87, r220_90, r220_91, r220_92, r220_93, r220_94, r220_97, r220_99, r220_100, r220_103, r220_104, r220_105, r220_107, r220_108, r220_111, r220_112, r220_114, r220_117, Option.bind_some, vtl_some, vtl_none, s_isPart hs h.w, s_isHeir hs h.w, s_isSet6 hs h.w, s_isAny, s_isThing, s_isOne, b2_eq0, ite_not2, nz1, nz0, n1z, n0z, if_true, if_false, gd0, gd1, gd2, gd3, gd4, gd5, gd6, hs 1, hs 2, if_pos h1, if_pos h2, y1, y2, nI_eq0, gq, if_neg h3, nI_eq', if_neg h4]
    · exact okF0 h (x := (-1000001)) (k := 0) (by simp (disch := omega) only [r100_0, r100_1, r100_2, r100_5, r100_8, r100_9, r100_10, r100_13, r100_16, r100_17, r100_19, r100_22, r100_23, r100_24, r100_27, r100_30, r100_31, r100_32, r100_35, r100_36, r100_39, r100_42, r100_43, r100_44, r100_47, r100_48, r100_50, r100_53, r100_54, r100_55, r100_58, r100_61, r100_62, r100_63, r100_64, r100_67, r100_70, r100_71, r100_72, r100_75, r100_76, r100_78, r100_81, r100_82, r100_83, r100_86, r100_87, r100_88, r100_90, r100_93, r100_96, r100_97, r100_100, r100_101, r100_103, r100_105, r100_108, r100_111, r100_112, r100_114, r100_117, r100_118, r100_119, r100_122, r100_123, r100_124, r100_125, r100_127, r100_129, r100_132, r100_134, Option.bind_some, vtl_some, vtl_none, s_within, s_isSet5 h.e h.w, h.e.p, h.e.h, h.od5, h.me4, b2_eq0, ite_not2, nz1, nz0, n1z, n0z, if_true, if_false, fd0, fd1, fd2, fd3, fd4, fd5, fd6, if_pos h1, if_neg h2]) (fun M1 hs => by simp (disch := omega) only [r220_0, r220_1, r220_4, r220_7, r220_8, r220_11, r220_14, r220_15, r220_17, r220_20, r220_21, r220_22, r220_25, r220_26, r220_27, r220_30, r220_31, r220_34, r220_35, r220_36, r220_39, r220_40, r220_43, r220_46, r220_47, r220_48, r220_51, r220_52, r220_53, r220_54, r220_57, r220_58, r220_59, r220_62, r220_63, r220_66, r220_69, r220_70, r220_71, r220_74, r220_76, r220_79, r220_81, r220_84, r220_86, r220_87, r220_90, r220_91, r220_92, r220_93, r220_94, r220_97, r220_99, r220_100, r220_103, r220_104, r220_105, r220_107, r220_108, r220_111, r220_112, r220_114, r220_117, r220_118, r220_119, r220_121, r220_123, r220_125, r220_128, r220_129, r220_132, r220_134, r220_135, r220_138, r220_140, r220_141, r220_142, r220_143, r220_144, r220_146, r220_147, r220_148, r220_149, r220_152, r220_155, r220_156, r220_158, r220_160, r220_162, r220_165, r220_166, r220_169, r220_171, r220_172, r220_173, r220_175, r220_176, r220_178, r220_179, r220_180, r220_183, r220_185, r220_186, r220_187, r220_190, r220_193, r220_195, Option.bind_some, vtl_some, vtl_none, s_isPart hs h.w, s_isHeir hs h.w, s_isSet6 hs h.w, s_isAny, s_isThing, s_isOne, b2_eq0, ite_not2, nz1, nz0, n1z, n0z, if_true, if_false, gd0, gd1, gd2, gd3, gd4, gd5, gd6, hs 1, hs 2, if_pos h1, if_neg h2])
  · exact okF0 h (x := (-1000001)) (k := 0) (by simp (disch := omega) only [r100_0, r100_1, r100_2, r100_5, r100_8, r100_9, r100_10, r100_13, r100_16, r100_17, r100_19, r100_22, r100_23, r100_24, r100_27, r100_30, r100_31, r100_32, r100_35, r100_36, r100_39, r100_42, r100_43, r100_44, r100_47, r100_48, r100_50, r100_53, r100_54, r100_55, r100_58, r100_61, r100_62, r100_63, r100_64, r100_67, r100_70, r100_71, r100_72, r100_75, r100_76, r100_78, r100_81, r100_82, r100_83, r100_86, r100_87, r100_88, r100_90, r100_93, r100_96, r100_97, r100_100, r100_101, r100_103, r100_105, r100_108, r100_111, r100_112, r100_114, r100_117, r100_118, r100_119, r100_122, r100_123, r100_124, r100_125, r100_127, r100_129, r100_132, r100_134, Option.bind_some, vtl_some, vtl_none, s_within, s_isSet5 h.e h.w, h.e.p, h.e.h, h.od5, h.me4, b2_eq0, ite_not2, nz1, nz0, n1z, n0z, if_true, if_false, fd0, fd1, fd2, fd3, fd4, fd5, fd6, if_neg h1]) (fun M1 hs => by simp (disch := omega) only [r220_0, r220_1, r220_4, r220_7, r220_8, r220_11, r220_14, r220_15, r220_17, r220_20, r220_21, r220_22, r220_25, r220_26, r220_27, r220_30, r220_31, r220_34, r220_35, r220_36, r220_39, r220_40, r220_43, r220_46, r220_47, r220_48, r220_51, r220_52, r220_53, r220_54, r220_57, r220_58, r220_59, r220_62, r220_63, r220_66, r220_69, r220_70, r220_71, r220_74, r220_76, r220_79, r220_81, r220_84, r220_86, r220_87, r220_90, r220_91, r220_92, r220_93, r220_94, r220_97, r220_99, r220_100, r220_103, r220_104, r220_105, r220_107, r220_108, r220_111, r220_112, r220_114, r220_117, r220_118, r220_119, r220_121, r220_123, r220_125, r220_128, r220_129, r220_132, r220_134, r220_135, r220_138, r220_140, r220_141, r220_142, r220_143, r220_144, r220_146, r220_147, r220_148, r220_149, r220_152, r220_155, r220_156, r220_158, r220_160, r220_162, r220_165, r220_166, r220_169, r220_171, r220_172, r220_173, r220_175, r220_176, r220_178, r220_179, r220_180, r220_183, r220_185, r220_186, r220_187, r220_190, r220_193, r220_195, Option.bind_some, vtl_some, vtl_none, s_isPart hs h.w, s_isHeir hs h.w, s_isSet6 hs h.w, s_isAny, s_isThing, s_isOne, b2_eq0, ite_not2, nz1, nz0, n1z, n0z, if_true, if_false, gd0, gd1, gd2, gd3, gd4, gd5, gd6, hs 1, hs 2, if_neg h1])
end SH2
