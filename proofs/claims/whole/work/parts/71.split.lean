/-! The class splits a text -/
section SPL
variable {L : Nat} {M : Nat → Nat → Int32} {n : Nat} {b : Nat → Nat}
def BT (M : Nat → Nat → Int32) (a n : Nat) (b : Nat → Nat) : Prop := n ≤ 120 ∧ ∀ i, i < n → b i < 256 ∧ M a i = nI (b i)
theorem s_sortOf {x : Nat} {w : vW} (hx : x < 256) : R 54 0 [.int (nI x)] [] w = some (some (.int (nI (srt x))), w) := by
  unfold srt
  simp (disch := omega) only [r54_0, r54_1, r54_3, r54_6, r54_7, r54_9, r54_12, r54_13, r54_14, r54_15, r54_17, r54_20, r54_21, r54_23, r54_26, r54_27, r54_28, r54_29, r54_31, r54_34, r54_35, r54_38, r54_39, nI_lt', nI_eq']
  have big : ∀ {α : Type} {A B C : α}, (if x < 48 then (if x = 59 then A else B) else if 57 < x then (if x = 59 then A else B) else C) = if 48 ≤ x ∧ x ≤ 57 then C else if x = 59 then A else B := fun {α A B C} => by
    by_cases q1 : x < 48
    · rw [if_pos q1, if_neg (show ¬ (48 ≤ x ∧ x ≤ 57) by omega)]
    · rw [if_neg q1]
      by_cases q2 : 57 < x
      · rw [if_pos q2, if_neg (show ¬ (48 ≤ x ∧ x ≤ 57) by omega)]
      · rw [if_neg q2, if_pos (show 48 ≤ x ∧ x ≤ 57 by omega)]
  simp only [big]
  by_cases h1 : x < 97
  · rw [if_pos h1, if_neg (show ¬ (97 ≤ x ∧ x ≤ 122) by omega), mg_s, mg_n, mg_s, mg_n]
  · rw [if_neg h1]
    by_cases h2 : 122 < x
    · rw [if_pos h2, if_neg (show ¬ (97 ≤ x ∧ x ≤ 122) by omega), mg_s, mg_n, mg_s, mg_n]
    · rw [if_neg h2, if_pos (show 97 ≤ x ∧ x ≤ 122 by omega)]
theorem r57_4_g {l0 l1 l2 l3 l4 : Value} {i : Nat} {s0 : Int32} {w : vW} (hi : i < 12) : R 57 4 [l0, l1, l2, l3, l4] (.ref (1000 + i) :: .int s0 :: []) w = R 57 7 [l0, l1, l2, l3, l4] (.int (nI (wlen i)) :: .int s0 :: []) w := R_sl (i := i) (t := 0) (show decode (mB 57) 4 = .ok (.invokevirtual 143, 3) by decide +kernel) ⟨by decide +kernel, by decide +kernel, by decide +kernel, hi, rfl⟩ (Nat.le_of_ble_eq_true rfl)
theorem r57_18_g {l0 l1 l2 l3 l4 : Value} {i : Nat} {s0 : Int32} {w : vW} (hi : i < 12) : R 57 18 [l0, l1, l2, l3, l4] (.ref (1000 + i) :: .int s0 :: []) w = R 57 21 [l0, l1, l2, l3, l4] (.int (nI (wlen i)) :: .int s0 :: []) w := R_sl (i := i) (t := 0) (show decode (mB 57) 18 = .ok (.invokevirtual 143, 3) by decide +kernel) ⟨by decide +kernel, by decide +kernel, by decide +kernel, hi, rfl⟩ (Nat.le_of_ble_eq_true rfl)
theorem r57_36_g {l0 l1 l2 l3 l4 : Value} {i j : Nat} {s0 : Int32} {w : vW} (hi : i < 12) (hj : j < wlen i) : R 57 36 [l0, l1, l2, l3, l4] (.int (nI j) :: .ref (1000 + i) :: .int s0 :: []) w = R 57 39 [l0, l1, l2, l3, l4] (.int (nI (wbyt i j)) :: .int s0 :: []) w := R_sc (i := i) (j := j) (t := 0) (show decode (mB 57) 36 = .ok (.invokevirtual 148, 3) by decide +kernel) ⟨by decide +kernel, by decide +kernel, by decide +kernel, hi, hj, by have := wlen_le i hi; omega, toNat_nI _⟩ (Nat.le_of_ble_eq_true rfl)
theorem s_says_l (hB : BT M 25 n b) {i p : Nat} (hi : i < 12) (hp : p + wlen i ≤ n) {v3 : Value} : ∀ (k j : Nat), j + k = wlen i → (∀ x, x < j → b (p + x) = wbyt i x) → ∃ r, R 57 15 [.ref 24, .ref (1000 + i), .int (nI p), v3, .int (nI j)] [] (SH L, M) = some (some (.int (nI r)), (SH L, M)) ∧ ((r = 1 ∧ ∀ x, x < wlen i → b (p + x) = wbyt i x) ∨ (r = 0 ∧ ¬ ∀ x, x < wlen i → b (p + x) = wbyt i x)) := by
  have hl := wlen_le i hi
  obtain ⟨hn, hb⟩ := hB
  intro k
  induction k with
  | zero =>
    intro j hj h
    refine ⟨1, ?_, Or.inl ⟨rfl, fun x hx => h x (by omega)⟩⟩
    simp (disch := omega) only [r57_15, r57_17, r57_18_g hi, r57_21, nI_le'', show wlen i ≤ j from by omega, if_true, r57_50, r57_51_1]
  | succ k ih =>
    intro j hj h
    have hjl : j < wlen i := by omega
    obtain ⟨b1, b2⟩ := hb (p + j) (by omega)
    have bl := (wbyt_let i hi j hjl).2
    rw [Nat.zero_add] at bl
    simp (disch := omega) only [r57_15, r57_17, r57_18_g hi, r57_21, nI_le'', show ¬ wlen i ≤ j from by omega, if_false, r57_24, r57_25, r57_28, r57_29, r57_31, r57_32, r57_33, r57_34, nI_add, b2, r57_36_g hi hjl, r57_39, nI_eq']
    by_cases q : b (p + j) = wbyt i j
    · rw [if_pos q]
      obtain ⟨r, e, f⟩ := ih (j + 1) (by omega) (fun x hx => by
        by_cases y : x = j
        · rw [y]; exact q
        · exact h x (by omega))
      refine ⟨r, ?_, f⟩
      simp only [r57_44, r57_47, nI_add]
      exact e
    · rw [if_neg q]
      refine ⟨0, ?_, Or.inr ⟨rfl, fun z => q (z j hjl)⟩⟩
      simp only [r57_42, r57_43_0, r57_43_1]
theorem s_says (hB : BT M 25 n b) {i p e : Nat} (hi : i < 12) (hp : p ≤ e) (he : e ≤ n) (hL : ∀ j, p ≤ j → j < e → srt (b j) = 1) : R 57 0 [.ref 24, .ref (1000 + i), .int (nI p), .int (nI e), .null] [] (SH L, M) = some (some (.int (if woV b p (e - p) = wcod i then nI 1 else nI 0)), (SH L, M)) := by
  have hl := wlen_le i hi
  have hn := hB.1
  have hL' : ∀ j, j < e - p → 97 ≤ b (p + j) ∧ b (p + j) ≤ 122 := fun j hj => srt_1.mp (hL (p + j) (by omega) (by omega))
  have iff := wcod_iff (i := i) hi hL'
  simp (disch := omega) only [r57_0, r57_1, r57_2, r57_3, r57_4_g hi, r57_7, pk_sub hp, nI_eq']
  by_cases q : e - p = wlen i
  · rw [if_pos q]
    obtain ⟨r, e1, f⟩ := s_says_l (L := L) hB (v3 := .int (nI e)) hi (p := p) (by omega) (wlen i) 0 (Nat.zero_add _) (fun x hx => absurd hx (Nat.not_lt_zero _))
    simp only [r57_12, r57_13]
    rw [e1]
    rcases f with ⟨rfl, f⟩ | ⟨rfl, f⟩
    · rw [if_pos (iff.mpr ⟨q, f⟩)]
    · rw [if_neg (fun z => f (iff.mp z).2)]
  · rw [if_neg q, if_neg (fun z => q (iff.mp z).1)]
    simp only [r57_10, r57_11_0, r57_11_1]
theorem s_wordNumber (hB : BT M 25 n b) {p e : Nat} (hp : p ≤ e) (he : e ≤ n) (hL : ∀ j, p ≤ j → j < e → srt (b j) = 1) : R 56 0 [.ref 24, .int (nI p), .int (nI e)] [] (SH L, M) = some (some (.int (nI (woN (woV b p (e - p))))), (SH L, M)) := by
  obtain ⟨⟨w0, w1, w2, w3, w4, w5⟩, ⟨w6, w7, w8, w9, w10, w11⟩⟩ := wcod_all
  have s0 := s_says (L := L) hB (i := 0) (by omega) hp he hL
  have s1 := s_says (L := L) hB (i := 1) (by omega) hp he hL
  have s2 := s_says (L := L) hB (i := 2) (by omega) hp he hL
  have s3 := s_says (L := L) hB (i := 3) (by omega) hp he hL
  have s4 := s_says (L := L) hB (i := 4) (by omega) hp he hL
  have s5 := s_says (L := L) hB (i := 5) (by omega) hp he hL
  have s6 := s_says (L := L) hB (i := 6) (by omega) hp he hL
  have s7 := s_says (L := L) hB (i := 7) (by omega) hp he hL
  have s8 := s_says (L := L) hB (i := 8) (by omega) hp he hL
  have s9 := s_says (L := L) hB (i := 9) (by omega) hp he hL
  have s10 := s_says (L := L) hB (i := 10) (by omega) hp he hL
  have s11 := s_says (L := L) hB (i := 11) (by omega) hp he hL
  rw [w0] at s0; rw [w1] at s1; rw [w2] at s2; rw [w3] at s3; rw [w4] at s4; rw [w5] at s5; rw [w6] at s6; rw [w7] at s7; rw [w8] at s8; rw [w9] at s9; rw [w10] at s10; rw [w11] at s11
  simp only [Nat.reduceAdd, Nat.add_zero] at s0 s1 s2 s3 s4 s5 s6 s7 s8 s9 s10 s11
  unfold woN
  generalize woV b p (e - p) = V at *
  by_cases c0 : V = 525908
  · simp only [r56_0, r56_1, r56_3, r56_4, r56_5, r56_8, r56_11, r56_12, r56_13, r56_14, r56_16, r56_17, r56_18, r56_21, r56_24, r56_25, r56_26, r56_27, r56_29, r56_30, r56_31, r56_34, r56_37, r56_38, r56_39, r56_40, r56_42, r56_43, r56_44, r56_47, r56_50, r56_51, r56_52, r56_53, r56_55, r56_56, r56_57, r56_60, r56_63, r56_64, r56_65, r56_66, r56_68, r56_69, r56_70, r56_73, r56_76, r56_77, r56_78, r56_79, r56_81, r56_82, r56_83, r56_86, r56_89, r56_91, r56_92, r56_93, r56_95, r56_96, r56_97, r56_100, r56_103, r56_105, r56_106, r56_107, r56_109, r56_110, r56_111, r56_114, r56_117, r56_119, r56_120, r56_121, r56_123, r56_124, r56_125, r56_128, r56_131, r56_133, r56_134, r56_135, r56_137, r56_138, r56_139, r56_142, r56_145, r56_147, r56_148, r56_149, r56_151, r56_152, r56_153, r56_156, r56_159, r56_161, r56_164, r56_166, s0, if_pos c0, nz1, if_false, Option.bind_some, vtl_some]
  rw [if_neg c0] at s0 ⊢
  by_cases c1 : V = 525618
  · simp only [r56_0, r56_1, r56_3, r56_4, r56_5, r56_8, r56_11, r56_12, r56_13, r56_14, r56_16, r56_17, r56_18, r56_21, r56_24, r56_25, r56_26, r56_27, r56_29, r56_30, r56_31, r56_34, r56_37, r56_38, r56_39, r56_40, r56_42, r56_43, r56_44, r56_47, r56_50, r56_51, r56_52, r56_53, r56_55, r56_56, r56_57, r56_60, r56_63, r56_64, r56_65, r56_66, r56_68, r56_69, r56_70, r56_73, r56_76, r56_77, r56_78, r56_79, r56_81, r56_82, r56_83, r56_86, r56_89, r56_91, r56_92, r56_93, r56_95, r56_96, r56_97, r56_100, r56_103, r56_105, r56_106, r56_107, r56_109, r56_110, r56_111, r56_114, r56_117, r56_119, r56_120, r56_121, r56_123, r56_124, r56_125, r56_128, r56_131, r56_133, r56_134, r56_135, r56_137, r56_138, r56_139, r56_142, r56_145, r56_147, r56_148, r56_149, r56_151, r56_152, r56_153, r56_156, r56_159, r56_161, r56_164, r56_166, s0, s1, if_pos c1, nz0, nz1, if_true, if_false, Option.bind_some, vtl_some]
  rw [if_neg c1] at s1 ⊢
  by_cases c2 : V = 412820935
  · simp only [r56_0, r56_1, r56_3, r56_4, r56_5, r56_8, r56_11, r56_12, r56_13, r56_14, r56_16, r56_17, r56_18, r56_21, r56_24, r56_25, r56_26, r56_27, r56_29, r56_30, r56_31, r56_34, r56_37, r56_38, r56_39, r56_40, r56_42, r56_43, r56_44, r56_47, r56_50, r56_51, r56_52, r56_53, r56_55, r56_56, r56_57, r56_60, r56_63, r56_64, r56_65, r56_66, r56_68, r56_69, r56_70, r56_73, r56_76, r56_77, r56_78, r56_79, r56_81, r56_82, r56_83, r56_86, r56_89, r56_91, r56_92, r56_93, r56_95, r56_96, r56_97, r56_100, r56_103, r56_105, r56_106, r56_107, r56_109, r56_110, r56_111, r56_114, r56_117, r56_119, r56_120, r56_121, r56_123, r56_124, r56_125, r56_128, r56_131, r56_133, r56_134, r56_135, r56_137, r56_138, r56_139, r56_142, r56_145, r56_147, r56_148, r56_149, r56_151, r56_152, r56_153, r56_156, r56_159, r56_161, r56_164, r56_166, s0, s1, s2, if_pos c2, nz0, nz1, if_true, if_false, Option.bind_some, vtl_some]
  rw [if_neg c2] at s2 ⊢
  by_cases c3 : V = 24395141
  · simp only [r56_0, r56_1, r56_3, r56_4, r56_5, r56_8, r56_11, r56_12, r56_13, r56_14, r56_16, r56_17, r56_18, r56_21, r56_24, r56_25, r56_26, r56_27, r56_29, r56_30, r56_31, r56_34, r56_37, r56_38, r56_39, r56_40, r56_42, r56_43, r56_44, r56_47, r56_50, r56_51, r56_52, r56_53, r56_55, r56_56, r56_57, r56_60, r56_63, r56_64, r56_65, r56_66, r56_68, r56_69, r56_70, r56_73, r56_76, r56_77, r56_78, r56_79, r56_81, r56_82, r56_83, r56_86, r56_89, r56_91, r56_92, r56_93, r56_95, r56_96, r56_97, r56_100, r56_103, r56_105, r56_106, r56_107, r56_109, r56_110, r56_111, r56_114, r56_117, r56_119, r56_120, r56_121, r56_123, r56_124, r56_125, r56_128, r56_131, r56_133, r56_134, r56_135, r56_137, r56_138, r56_139, r56_142, r56_145, r56_147, r56_148, r56_149, r56_151, r56_152, r56_153, r56_156, r56_159, r56_161, r56_164, r56_166, s0, s1, s2, s3, if_pos c3, nz0, nz1, if_true, if_false, Option.bind_some, vtl_some]
  rw [if_neg c3] at s3 ⊢
  by_cases c4 : V = 284871065
  · simp only [r56_0, r56_1, r56_3, r56_4, r56_5, r56_8, r56_11, r56_12, r56_13, r56_14, r56_16, r56_17, r56_18, r56_21, r56_24, r56_25, r56_26, r56_27, r56_29, r56_30, r56_31, r56_34, r56_37, r56_38, r56_39, r56_40, r56_42, r56_43, r56_44, r56_47, r56_50, r56_51, r56_52, r56_53, r56_55, r56_56, r56_57, r56_60, r56_63, r56_64, r56_65, r56_66, r56_68, r56_69, r56_70, r56_73, r56_76, r56_77, r56_78, r56_79, r56_81, r56_82, r56_83, r56_86, r56_89, r56_91, r56_92, r56_93, r56_95, r56_96, r56_97, r56_100, r56_103, r56_105, r56_106, r56_107, r56_109, r56_110, r56_111, r56_114, r56_117, r56_119, r56_120, r56_121, r56_123, r56_124, r56_125, r56_128, r56_131, r56_133, r56_134, r56_135, r56_137, r56_138, r56_139, r56_142, r56_145, r56_147, r56_148, r56_149, r56_151, r56_152, r56_153, r56_156, r56_159, r56_161, r56_164, r56_166, s0, s1, s2, s3, s4, if_pos c4, nz0, nz1, if_true, if_false, Option.bind_some, vtl_some]
  rw [if_neg c4] at s4 ⊢
  by_cases c5 : V = 6619904164
  · simp only [r56_0, r56_1, r56_3, r56_4, r56_5, r56_8, r56_11, r56_12, r56_13, r56_14, r56_16, r56_17, r56_18, r56_21, r56_24, r56_25, r56_26, r56_27, r56_29, r56_30, r56_31, r56_34, r56_37, r56_38, r56_39, r56_40, r56_42, r56_43, r56_44, r56_47, r56_50, r56_51, r56_52, r56_53, r56_55, r56_56, r56_57, r56_60, r56_63, r56_64, r56_65, r56_66, r56_68, r56_69, r56_70, r56_73, r56_76, r56_77, r56_78, r56_79, r56_81, r56_82, r56_83, r56_86, r56_89, r56_91, r56_92, r56_93, r56_95, r56_96, r56_97, r56_100, r56_103, r56_105, r56_106, r56_107, r56_109, r56_110, r56_111, r56_114, r56_117, r56_119, r56_120, r56_121, r56_123, r56_124, r56_125, r56_128, r56_131, r56_133, r56_134, r56_135, r56_137, r56_138, r56_139, r56_142, r56_145, r56_147, r56_148, r56_149, r56_151, r56_152, r56_153, r56_156, r56_159, r56_161, r56_164, r56_166, s0, s1, s2, s3, s4, s5, if_pos c5, nz0, nz1, if_true, if_false, Option.bind_some, vtl_some]
  rw [if_neg c5] at s5 ⊢
  by_cases c6 : V = 7754916
  · simp only [r56_0, r56_1, r56_3, r56_4, r56_5, r56_8, r56_11, r56_12, r56_13, r56_14, r56_16, r56_17, r56_18, r56_21, r56_24, r56_25, r56_26, r56_27, r56_29, r56_30, r56_31, r56_34, r56_37, r56_38, r56_39, r56_40, r56_42, r56_43, r56_44, r56_47, r56_50, r56_51, r56_52, r56_53, r56_55, r56_56, r56_57, r56_60, r56_63, r56_64, r56_65, r56_66, r56_68, r56_69, r56_70, r56_73, r56_76, r56_77, r56_78, r56_79, r56_81, r56_82, r56_83, r56_86, r56_89, r56_91, r56_92, r56_93, r56_95, r56_96, r56_97, r56_100, r56_103, r56_105, r56_106, r56_107, r56_109, r56_110, r56_111, r56_114, r56_117, r56_119, r56_120, r56_121, r56_123, r56_124, r56_125, r56_128, r56_131, r56_133, r56_134, r56_135, r56_137, r56_138, r56_139, r56_142, r56_145, r56_147, r56_148, r56_149, r56_151, r56_152, r56_153, r56_156, r56_159, r56_161, r56_164, r56_166, s0, s1, s2, s3, s4, s5, s6, if_pos c6, nz0, nz1, if_true, if_false, Option.bind_some, vtl_some]
  rw [if_neg c6] at s6 ⊢
  by_cases c7 : V = 486
  · simp only [r56_0, r56_1, r56_3, r56_4, r56_5, r56_8, r56_11, r56_12, r56_13, r56_14, r56_16, r56_17, r56_18, r56_21, r56_24, r56_25, r56_26, r56_27, r56_29, r56_30, r56_31, r56_34, r56_37, r56_38, r56_39, r56_40, r56_42, r56_43, r56_44, r56_47, r56_50, r56_51, r56_52, r56_53, r56_55, r56_56, r56_57, r56_60, r56_63, r56_64, r56_65, r56_66, r56_68, r56_69, r56_70, r56_73, r56_76, r56_77, r56_78, r56_79, r56_81, r56_82, r56_83, r56_86, r56_89, r56_91, r56_92, r56_93, r56_95, r56_96, r56_97, r56_100, r56_103, r56_105, r56_106, r56_107, r56_109, r56_110, r56_111, r56_114, r56_117, r56_119, r56_120, r56_121, r56_123, r56_124, r56_125, r56_128, r56_131, r56_133, r56_134, r56_135, r56_137, r56_138, r56_139, r56_142, r56_145, r56_147, r56_148, r56_149, r56_151, r56_152, r56_153, r56_156, r56_159, r56_161, r56_164, r56_166, s0, s1, s2, s3, s4, s5, s6, s7, if_pos c7, nz0, nz1, if_true, if_false, Option.bind_some, vtl_some]
  rw [if_neg c7] at s7 ⊢
  by_cases c8 : V = 24627848
  · simp only [r56_0, r56_1, r56_3, r56_4, r56_5, r56_8, r56_11, r56_12, r56_13, r56_14, r56_16, r56_17, r56_18, r56_21, r56_24, r56_25, r56_26, r56_27, r56_29, r56_30, r56_31, r56_34, r56_37, r56_38, r56_39, r56_40, r56_42, r56_43, r56_44, r56_47, r56_50, r56_51, r56_52, r56_53, r56_55, r56_56, r56_57, r56_60, r56_63, r56_64, r56_65, r56_66, r56_68, r56_69, r56_70, r56_73, r56_76, r56_77, r56_78, r56_79, r56_81, r56_82, r56_83, r56_86, r56_89, r56_91, r56_92, r56_93, r56_95, r56_96, r56_97, r56_100, r56_103, r56_105, r56_106, r56_107, r56_109, r56_110, r56_111, r56_114, r56_117, r56_119, r56_120, r56_121, r56_123, r56_124, r56_125, r56_128, r56_131, r56_133, r56_134, r56_135, r56_137, r56_138, r56_139, r56_142, r56_145, r56_147, r56_148, r56_149, r56_151, r56_152, r56_153, r56_156, r56_159, r56_161, r56_164, r56_166, s0, s1, s2, s3, s4, s5, s6, s7, s8, if_pos c8, nz0, nz1, if_true, if_false, Option.bind_some, vtl_some]
  rw [if_neg c8] at s8 ⊢
  by_cases c9 : V = 5381299
  · simp only [r56_0, r56_1, r56_3, r56_4, r56_5, r56_8, r56_11, r56_12, r56_13, r56_14, r56_16, r56_17, r56_18, r56_21, r56_24, r56_25, r56_26, r56_27, r56_29, r56_30, r56_31, r56_34, r56_37, r56_38, r56_39, r56_40, r56_42, r56_43, r56_44, r56_47, r56_50, r56_51, r56_52, r56_53, r56_55, r56_56, r56_57, r56_60, r56_63, r56_64, r56_65, r56_66, r56_68, r56_69, r56_70, r56_73, r56_76, r56_77, r56_78, r56_79, r56_81, r56_82, r56_83, r56_86, r56_89, r56_91, r56_92, r56_93, r56_95, r56_96, r56_97, r56_100, r56_103, r56_105, r56_106, r56_107, r56_109, r56_110, r56_111, r56_114, r56_117, r56_119, r56_120, r56_121, r56_123, r56_124, r56_125, r56_128, r56_131, r56_133, r56_134, r56_135, r56_137, r56_138, r56_139, r56_142, r56_145, r56_147, r56_148, r56_149, r56_151, r56_152, r56_153, r56_156, r56_159, r56_161, r56_164, r56_166, s0, s1, s2, s3, s4, s5, s6, s7, s8, s9, if_pos c9, nz0, nz1, if_true, if_false, Option.bind_some, vtl_some]
  rw [if_neg c9] at s9 ⊢
  by_cases c10 : V = 8562259
  · simp only [r56_0, r56_1, r56_3, r56_4, r56_5, r56_8, r56_11, r56_12, r56_13, r56_14, r56_16, r56_17, r56_18, r56_21, r56_24, r56_25, r56_26, r56_27, r56_29, r56_30, r56_31, r56_34, r56_37, r56_38, r56_39, r56_40, r56_42, r56_43, r56_44, r56_47, r56_50, r56_51, r56_52, r56_53, r56_55, r56_56, r56_57, r56_60, r56_63, r56_64, r56_65, r56_66, r56_68, r56_69, r56_70, r56_73, r56_76, r56_77, r56_78, r56_79, r56_81, r56_82, r56_83, r56_86, r56_89, r56_91, r56_92, r56_93, r56_95, r56_96, r56_97, r56_100, r56_103, r56_105, r56_106, r56_107, r56_109, r56_110, r56_111, r56_114, r56_117, r56_119, r56_120, r56_121, r56_123, r56_124, r56_125, r56_128, r56_131, r56_133, r56_134, r56_135, r56_137, r56_138, r56_139, r56_142, r56_145, r56_147, r56_148, r56_149, r56_151, r56_152, r56_153, r56_156, r56_159, r56_161, r56_164, r56_166, s0, s1, s2, s3, s4, s5, s6, s7, s8, s9, s10, if_pos c10, nz0, nz1, if_true, if_false, Option.bind_some, vtl_some]
  rw [if_neg c10] at s10 ⊢
  by_cases c11 : V = 12009203
  · simp only [r56_0, r56_1, r56_3, r56_4, r56_5, r56_8, r56_11, r56_12, r56_13, r56_14, r56_16, r56_17, r56_18, r56_21, r56_24, r56_25, r56_26, r56_27, r56_29, r56_30, r56_31, r56_34, r56_37, r56_38, r56_39, r56_40, r56_42, r56_43, r56_44, r56_47, r56_50, r56_51, r56_52, r56_53, r56_55, r56_56, r56_57, r56_60, r56_63, r56_64, r56_65, r56_66, r56_68, r56_69, r56_70, r56_73, r56_76, r56_77, r56_78, r56_79, r56_81, r56_82, r56_83, r56_86, r56_89, r56_91, r56_92, r56_93, r56_95, r56_96, r56_97, r56_100, r56_103, r56_105, r56_106, r56_107, r56_109, r56_110, r56_111, r56_114, r56_117, r56_119, r56_120, r56_121, r56_123, r56_124, r56_125, r56_128, r56_131, r56_133, r56_134, r56_135, r56_137, r56_138, r56_139, r56_142, r56_145, r56_147, r56_148, r56_149, r56_151, r56_152, r56_153, r56_156, r56_159, r56_161, r56_164, r56_166, s0, s1, s2, s3, s4, s5, s6, s7, s8, s9, s10, s11, if_pos c11, nz0, nz1, if_true, if_false, Option.bind_some, vtl_some]
  · rw [if_neg c11] at s11 ⊢
    simp only [r56_0, r56_1, r56_3, r56_4, r56_5, r56_8, r56_11, r56_12, r56_13, r56_14, r56_16, r56_17, r56_18, r56_21, r56_24, r56_25, r56_26, r56_27, r56_29, r56_30, r56_31, r56_34, r56_37, r56_38, r56_39, r56_40, r56_42, r56_43, r56_44, r56_47, r56_50, r56_51, r56_52, r56_53, r56_55, r56_56, r56_57, r56_60, r56_63, r56_64, r56_65, r56_66, r56_68, r56_69, r56_70, r56_73, r56_76, r56_77, r56_78, r56_79, r56_81, r56_82, r56_83, r56_86, r56_89, r56_91, r56_92, r56_93, r56_95, r56_96, r56_97, r56_100, r56_103, r56_105, r56_106, r56_107, r56_109, r56_110, r56_111, r56_114, r56_117, r56_119, r56_120, r56_121, r56_123, r56_124, r56_125, r56_128, r56_131, r56_133, r56_134, r56_135, r56_137, r56_138, r56_139, r56_142, r56_145, r56_147, r56_148, r56_149, r56_151, r56_152, r56_153, r56_156, r56_159, r56_161, r56_164, r56_166, s0, s1, s2, s3, s4, s5, s6, s7, s8, s9, s10, s11, nz0, nz1, if_true, if_false, Option.bind_some, vtl_some]
theorem s_numberIn_l (hB : BT M 25 n b) {p e : Nat} (he : e ≤ n) (hL : ∀ j, p ≤ j → j < e → srt (b j) = 2) : ∀ (k j : Nat), p + j + k = e → R 55 5 [.ref 24, .int (nI p), .int (nI e), .int (nI (nuV b p j)), .int (nI (p + j))] [] (SH L, M) = some (some (.int (nI (nuV b p (e - p)))), (SH L, M)) := by
  obtain ⟨hn, hb⟩ := hB
  intro k
  induction k with
  | zero =>
    intro j hj
    rw [r55_5]
    simp (disch := omega) only [r55_7, r55_8, r55_39, r55_40, nI_le'', show e ≤ p + j from by omega, if_true]
    rw [show e - p = j by omega]
  | succ k ih =>
    intro j hj
    obtain ⟨b1, b2⟩ := hb (p + j) (by omega)
    have d1 := srt_2.mp (hL (p + j) (by omega) (by omega))
    have vl := nuV_le b p j
    have iH := ih (j + 1) (by omega)
    rw [nuV, ← Nat.add_assoc] at iH
    rw [r55_5]
    simp (disch := omega) only [r55_7, r55_8, r55_11, r55_14, r55_15, r55_17, r55_18, r55_19, r55_22, r55_24, r55_25, r55_26, r55_28, r55_29, nI_le'', show ¬ e ≤ p + j from by omega, if_false, b2, pk_mul, nI_add, pk_sub (show 48 ≤ nuV b p j * 10 + b (p + j) by omega), nI_lt', mg_n]
    simp only [r55_32, r55_33, r55_36, nI_add]
    exact iH
theorem s_numberIn (hB : BT M 25 n b) {p e : Nat} (hp : p ≤ e) (he : e ≤ n) (hL : ∀ j, p ≤ j → j < e → srt (b j) = 2) : R 55 0 [.ref 24, .int (nI p), .int (nI e), .null, .null] [] (SH L, M) = some (some (.int (nI (nuV b p (e - p)))), (SH L, M)) := by
  have := s_numberIn_l (L := L) hB he hL (e - p) 0 (by omega)
  simp only [r55_0, r55_1, r55_2, r55_3]
  exact this
theorem s_off_l (hB : BT M 25 n b) (hn : M 24 1 = nI n) {p c : Nat} (hc : c < 10) {v1 v2 v4 : Value} : ∀ (k e : Nat), e + k = n → R 53 28 [.ref 24, v1, v2, .int (nI c), v4, .int (nI e)] [] (SH L, M) = R 53 57 [.ref 24, v1, v2, .int (nI c), v4, .int (nI (enF b c k e))] [] (SH L, M) := by
  obtain ⟨h120, hb⟩ := hB
  intro k
  induction k with
  | zero =>
    intro e he
    rw [r53_28]
    simp (disch := omega) only [r53_30, r53_31, r53_34, hn, nI_le'', show n ≤ e from by omega, if_true, enF]
  | succ k ih =>
    intro e he
    obtain ⟨b1, b2⟩ := hb e (by omega)
    have sl := srt_le (b e)
    rw [r53_28]
    simp (disch := omega) only [r53_30, r53_31, r53_34, r53_37, r53_38, r53_41, r53_43, r53_44, r53_47, r53_48, hn, nI_le'', show ¬ n ≤ e from by omega, if_false, b2, s_sortOf b1, Option.bind_some, vtl_some, nI_eq', enF]
    by_cases q : srt (b e) = c
    · rw [if_pos q, if_pos q]
      simp only [r53_51, r53_54, nI_add]
      exact ih (e + 1) (by omega)
    · rw [if_neg q, if_neg q]
theorem s_splitOff (hB : BT M 25 n b) (hn : M 24 1 = nI n) {k p : Nat} (hk : k < 121) (hp : p < n) : R 53 0 [.ref 24, .int (nI k), .int (nI p), .null, .null, .null] [] (SH L, M) = some (some (.int (nI (ten n b p))), (SH L, upd2 (upd2 M 27 k (nI (soN n b p))) 28 k (nI (nuN n b p)))) := by
  obtain ⟨h120, hb⟩ := id hB
  obtain ⟨b1, b2⟩ := hb p hp
  have sl := srt_le (b p)
  obtain ⟨t1, t2, t3⟩ := ten_b (b := b) hp
  have e0 : R 53 0 [.ref 24, .int (nI k), .int (nI p), .null, .null, .null] [] (SH L, M) = if srt (b p) = 1 then R 53 28 [.ref 24, .int (nI k), .int (nI p), .int (nI (srt (b p))), .int (nI 0), .int (nI (p + 1))] [] (SH L, M) else if srt (b p) = 2 then R 53 28 [.ref 24, .int (nI k), .int (nI p), .int (nI (srt (b p))), .int (nI 0), .int (nI (p + 1))] [] (SH L, M) else R 53 81 [.ref 24, .int (nI k), .int (nI p), .int (nI (srt (b p))), .int (nI 0), .int (nI (p + 1))] [] (SH L, M) := by
    simp (disch := omega) only [r53_0, r53_1, r53_4, r53_5, r53_6, r53_9, r53_10, r53_11, r53_13, r53_14, r53_15, r53_16, r53_18, r53_19, r53_20, r53_23, r53_24, r53_25, b2, s_sortOf b1, Option.bind_some, vtl_some, nI_eq', nI_add]
  have fin : ∀ v e, R 53 81 [.ref 24, .int (nI k), .int (nI p), .int (nI (srt (b p))), .int (nI v), .int (nI e)] [] (SH L, M) = some (some (.int (nI e)), (SH L, upd2 (upd2 M 27 k (nI (srt (b p)))) 28 k (nI v))) := fun v e => by
    simp (disch := omega) only [r53_81, r53_82, r53_85, r53_86, r53_87, r53_88, r53_89, r53_92, r53_93, r53_95, r53_96, r53_98]
  have so : soN n b p = srt (b p) := if_pos hp
  rw [e0, so]
  have ol := s_off_l (L := L) hB hn (p := p) (c := srt (b p)) (by omega) (v1 := .int (nI k)) (v2 := .int (nI p)) (v4 := .int (nI 0)) (n - (p + 1)) (p + 1) (by omega)
  by_cases q1 : srt (b p) = 1
  · have te : ten n b p = enF b (srt (b p)) (n - (p + 1)) (p + 1) := by unfold ten; rw [if_pos (Or.inl q1)]
    rw [if_pos q1, ol, ← te]
    have nu : nuN n b p = woN (woV b p (ten n b p - p)) := by unfold nuN; rw [if_pos hp, if_pos q1]
    have wn := s_wordNumber (L := L) hB (p := p) (e := ten n b p) (by omega) t2 (fun j h1 h2 => by rw [t3 (Or.inl q1) j h1 h2, q1])
    rw [nu]
    simp (disch := omega) only [r53_57, r53_58, r53_59, r53_62, r53_63, r53_64, r53_66, r53_69, nI_eq', if_pos q1, wn, Option.bind_some, vtl_some]
    simp only [r53_79]
    exact fin _ _
  · rw [if_neg q1]
    by_cases q2 : srt (b p) = 2
    · have te : ten n b p = enF b (srt (b p)) (n - (p + 1)) (p + 1) := by unfold ten; rw [if_pos (Or.inr q2)]
      rw [if_pos q2, ol, ← te]
      have nu : nuN n b p = nuV b p (ten n b p - p) := by unfold nuN; rw [if_pos hp, if_neg q1, if_pos q2]
      have wn := s_numberIn (L := L) hB (p := p) (e := ten n b p) (by omega) t2 (fun j h1 h2 => by rw [t3 (Or.inr q2) j h1 h2, q2])
      rw [nu]
      simp (disch := omega) only [r53_57, r53_58, r53_59, r53_72, r53_73, r53_74, r53_76, nI_eq', if_neg q1, wn, Option.bind_some, vtl_some]
      simp only [r53_79]
      exact fin _ _
    · have te : ten n b p = p + 1 := by unfold ten; rw [if_neg (fun z => z.elim q1 q2)]
      have nu : nuN n b p = 0 := by unfold nuN; rw [if_pos hp, if_neg q1, if_neg q2]
      rw [if_neg q2, te, nu]
      exact fin _ _
/-- the tokens, told -/
def TK (M : Nat → Nat → Int32) (n : Nat) (b : Nat → Nat) (m : Nat) : Prop := m ≤ n ∧ tk n b m = n ∧ (∀ k, k < m → tk n b k < n) ∧ ∀ k, k ≤ m → M 26 k = nI (tk n b k) ∧ M 27 k = nI (soN n b (tk n b k)) ∧ M 28 k = nI (nuN n b (tk n b k))
theorem s_split_e {M0 : Nat → Nat → Int32} (hB0 : BT M0 25 n b) (hn0 : M0 24 1 = nI n) {m p e : Nat} {M : Nat → Nat → Int32} (hp : p = n) (he : e ≤ n) (fr : ∀ k, (k < 26 ∨ 28 < k) → M k = M0 k) (sk : skp n b p = tk n b m) (mp : m ≤ p) (tl : ∀ k, k < m → tk n b k < n) (tb : ∀ k, k < m → M 26 k = nI (tk n b k) ∧ M 27 k = nI (soN n b (tk n b k)) ∧ M 28 k = nI (nuN n b (tk n b k))) : ∃ M' m', R 52 6 [.ref 24, .int (nI m), .int (nI e), .int (nI p)] [] (SH L, M) = some (none, (SH L, M')) ∧ (∀ k, (k < 26 ∨ 28 < k) → M' k = M0 k) ∧ TK M' n b m' := by
  have h120 := hB0.1
  have hn : M 24 1 = nI n := by rw [fr 24 (by omega)]; exact hn0
  have e1 : tk n b m = n := by rw [← sk, skp_o (fun z => by omega)]; omega
  have c1 : upd2 M 26 m (nI n) 24 1 = nI n := by rw [upd2_ne (Or.inl (by omega))]; exact hn
  refine ⟨upd2 (upd2 (upd2 M 26 m (nI n)) 27 m (nI 0)) 28 m (nI 0), m, ?_, fun k hk => ?_, by omega, e1, tl, fun k hk => ?_⟩
  · rw [r52_6]
    simp (disch := omega) only [r52_7, r52_8, r52_11, r52_53, r52_54, r52_57, r52_58, r52_59, r52_62, r52_63, r52_64, r52_67, r52_68, r52_69, r52_70, r52_71, r52_74, r52_75, r52_76, r52_77, hn, nI_le'', show n ≤ p from by omega, if_true, c1]
  · funext j
    rw [upd2_ne (Or.inl (by omega)), upd2_ne (Or.inl (by omega)), upd2_ne (Or.inl (by omega)), fr k hk]
  · by_cases q : k = m
    · subst q
      rw [e1]
      have s0 : soN n b n = 0 := if_neg (Nat.lt_irrefl _)
      have n0 : nuN n b n = 0 := if_neg (Nat.lt_irrefl _)
      rw [s0, n0]
      simp (disch := omega) only [upd2_ne, upd2_eq, and_self]
    · simp (disch := omega) only [upd2_ne]
      exact tb k (by omega)
theorem s_split_l {M0 : Nat → Nat → Int32} (hB0 : BT M0 25 n b) (hn0 : M0 24 1 = nI n) : ∀ (f m e p q : Nat) (M : Nat → Nat → Int32), p + f = n → e ≤ n → ((e ≤ p ∧ q = p) ∨ (p < e ∧ q = e)) → (∀ k, (k < 26 ∨ 28 < k) → M k = M0 k) → skp n b q = tk n b m → m ≤ p → (∀ k, k < m → tk n b k < n) → (∀ k, k < m → M 26 k = nI (tk n b k) ∧ M 27 k = nI (soN n b (tk n b k)) ∧ M 28 k = nI (nuN n b (tk n b k))) → ∃ M' m', R 52 6 [.ref 24, .int (nI m), .int (nI e), .int (nI p)] [] (SH L, M) = some (none, (SH L, M')) ∧ (∀ k, (k < 26 ∨ 28 < k) → M' k = M0 k) ∧ TK M' n b m' := by
  have h120 := hB0.1
  intro f
  induction f with
  | zero =>
    intro m e p q M hf he hq fr sk mp tl tb
    have : q = p := by omega
    subst this
    exact s_split_e hB0 hn0 (by omega) he fr sk mp tl tb
  | succ f ih =>
    intro m e p q M hf he hq fr sk mp tl tb
    have hn : M 24 1 = nI n := by rw [fr 24 (by omega)]; exact hn0
    obtain ⟨b1, b2⟩ := hB0.2 p (by omega)
    have b2' : M 25 p = nI (b p) := by rw [fr 25 (by omega)]; exact b2
    rw [r52_6]
    by_cases hpe : p < e
    · obtain ⟨M', m', e', g⟩ := ih m e (p + 1) q M (by omega) he (by omega) fr sk (by omega) tl tb
      refine ⟨M', m', ?_, g⟩
      simp (disch := omega) only [r52_7, r52_8, r52_11, r52_14, r52_15, r52_16, hn, nI_le'', nI_lt', hpe, show ¬ n ≤ p from by omega, if_true, if_false]
      simp only [r52_47, r52_50, nI_add]
      exact e'
    · have qp : q = p := by omega
      subst qp
      simp (disch := omega) only [r52_7, r52_8, r52_11, r52_14, r52_15, r52_16, r52_19, r52_20, r52_23, r52_24, r52_25, r52_27, hn, nI_le'', nI_lt', hpe, show ¬ n ≤ q from by omega, if_false, b2', nI_eq']
      by_cases hb : b q = 32
      · rw [if_pos hb]
        obtain ⟨M', m', e', g⟩ := ih m e (q + 1) (q + 1) M (by omega) he (by omega) fr (by rw [← skp_s (by omega) hb]; exact sk) (by omega) tl tb
        refine ⟨M', m', ?_, g⟩
        simp only [r52_47, r52_50, nI_add]
        exact e'
      · rw [if_neg hb]
        have pk : tk n b m = q := by rw [← sk, skp_o (fun z => hb z.2)]
        have hB1 : BT (upd2 M 26 m (nI q)) 25 n b := ⟨h120, fun i hi => ⟨(hB0.2 i hi).1, by rw [upd2_ne (Or.inl (by omega)), fr 25 (by omega)]; exact (hB0.2 i hi).2⟩⟩
        have hn1 : upd2 M 26 m (nI q) 24 1 = nI n := by rw [upd2_ne (Or.inl (by omega))]; exact hn
        have so := s_splitOff (L := L) hB1 hn1 (k := m) (p := q) (by omega) (by omega)
        obtain ⟨t1, t2, -⟩ := ten_b (b := b) (show q < n by omega)
        obtain ⟨M', m', e', g⟩ := ih (m + 1) (ten n b q) (q + 1) (ten n b q) (upd2 (upd2 (upd2 M 26 m (nI q)) 27 m (nI (soN n b q))) 28 m (nI (nuN n b q))) (by omega) t2 (by omega) (fun k hk => by
          funext j
          rw [upd2_ne (Or.inl (by omega)), upd2_ne (Or.inl (by omega)), upd2_ne (Or.inl (by omega)), fr k hk]) (by
          show skp n b (ten n b q) = nxp n b (tk n b m)
          rw [pk]
          unfold nxp
          rw [if_pos (by omega)]) (by omega) (fun k hk => by
          by_cases y : k = m
          · subst y; omega
          · exact tl k (by omega)) (fun k hk => by
          by_cases y : k = m
          · subst y
            rw [pk]
            simp (disch := omega) only [upd2_ne, upd2_eq, and_self]
          · simp (disch := omega) only [upd2_ne]
            exact tb k (by omega))
        refine ⟨M', m', ?_, g⟩
        simp (disch := omega) only [r52_30, r52_31, r52_34, r52_35, r52_36, r52_37, r52_38, r52_39, r52_40, r52_43, r52_44, r52_47, r52_50, so, nI_add, Option.bind_some, vtl_some]
        exact e'
theorem s_split (hB : BT M 25 n b) (hn : M 24 1 = nI n) : ∃ M' m, R 52 0 [.ref 24, .null, .null, .null] [] (SH L, M) = some (none, (SH L, M')) ∧ (∀ k, (k < 26 ∨ 28 < k) → M' k = M k) ∧ TK M' n b m := by
  obtain ⟨M', m, e, g⟩ := s_split_l (L := L) hB hn n 0 0 0 0 M (by omega) (Nat.zero_le _) (by omega) (fun _ _ => rfl) rfl (Nat.le_refl _) (fun k h => absurd h (Nat.not_lt_zero _)) (fun k h => absurd h (Nat.not_lt_zero _))
  refine ⟨M', m, ?_, g⟩
  simp only [r52_0, r52_1, r52_2, r52_3, r52_4, r52_5]
  exact e
end SPL
