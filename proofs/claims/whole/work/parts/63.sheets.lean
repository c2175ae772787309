/-! sheet, write, copy, load, judge -/
/-- zeros in a row -/
def zr (M : Nat → Nat → Int32) (b lo hi : Nat) : Nat → Nat → Int32 := fun k i => if k = b ∧ lo ≤ i ∧ i < hi then nI 0 else M k i
theorem zr_s {M : Nat → Nat → Int32} {b lo hi : Nat} (h : lo < hi) : zr (upd2 M b lo (nI 0)) b (lo + 1) hi = zr M b lo hi := by
  funext k i
  unfold zr upd2
  by_cases q : k = b
  · by_cases q2 : i = lo
    · rw [if_neg (by omega), if_pos q, if_pos q2, if_pos (by omega)]
    · rw [if_pos q, if_neg q2]
      by_cases q3 : lo ≤ i ∧ i < hi
      · rw [if_pos (by omega), if_pos (by omega)]
      · rw [if_neg (by omega), if_neg (by omega)]
  · rw [if_neg (by omega), if_neg q, if_neg (by omega)]
theorem zr_0 {M : Nat → Nat → Int32} {b lo : Nat} : zr M b lo lo = M := by
  funext k i
  unfold zr
  rw [if_neg (by omega)]
theorem zr_in {M : Nat → Nat → Int32} {b lo hi i : Nat} (h : lo ≤ i ∧ i < hi) : zr M b lo hi b i = nI 0 := if_pos ⟨rfl, h⟩
theorem zr_out {M : Nat → Nat → Int32} {b lo hi k i : Nat} (h : k ≠ b ∨ i < lo ∨ hi ≤ i) : zr M b lo hi k i = M k i := if_neg (by omega)
section SHT_
variable {L : Nat} {M : Nat → Nat → Int32} {t : Nat → Nat} {z : Int32} {sp : Nat → Int32} {c : Nat}
theorem k_lay_l {s : Nat} (hs : s < 4) {v2 v3 : Value} : ∀ (k j : Nat) (M : Nat → Nat → Int32), j + k = 40 → R 35 25 [.ref 30, .int (nI s), v2, v3, .int (nI j)] [] (SH L, M) = some (none, (SH L, zr M 31 (s * 40 + j) (s * 40 + 40))) := by
  intro k
  induction k with
  | zero =>
    intro j M hj
    simp (disch := omega) only [r35_25, r35_27, r35_29, r35_51, nI_le'', show 40 ≤ j from by omega, if_true]
    rw [show j = 40 by omega, zr_0]
  | succ k ih =>
    intro j M hj
    rw [r35_25]
    simp (disch := omega) only [r35_27, r35_29, r35_32, r35_33, r35_36, r35_37, r35_39, r35_40, r35_42, r35_43, r35_44, r35_45, r35_48, nI_le'', show ¬ 40 ≤ j from by omega, if_false, pk_mul, nI_add]
    rw [ih (j + 1) _ (by omega), ← zr_s (show s * 40 + j < s * 40 + 40 by omega)]
    rfl
theorem q_lay_l {s : Nat} (hs : s < 4) {v2 v3 : Value} : ∀ (k j : Nat) (M : Nat → Nat → Int32), j + k = 40 → R 216 86 [.ref 36, .int (nI s), v2, v3, .int (nI j)] [] (SH L, M) = R 216 112 [.ref 36, .int (nI s), v2, v3, .int (nI 40)] [] (SH L, zr M 53 (40 * s + j) (40 * s + 40)) := by
  intro k
  induction k with
  | zero =>
    intro j M hj
    rw [r216_86]
    simp (disch := omega) only [r216_88, r216_90, nI_le'', show 40 ≤ j from by omega, if_true]
    rw [show j = 40 by omega, zr_0]
  | succ k ih =>
    intro j M hj
    rw [r216_86]
    simp (disch := omega) only [r216_88, r216_90, r216_93, r216_94, r216_97, r216_99, r216_100, r216_101, r216_103, r216_104, r216_105, r216_106, r216_109, nI_le'', show ¬ 40 ≤ j from by omega, if_false, pk_mul, nI_add]
    rw [ih (j + 1) _ (by omega), ← zr_s (show 40 * s + j < 40 * s + 40 by omega)]
    rfl
def okb (b : Int32) : Prop := b = nI 0 ∨ b = nI 8 ∨ b = nI 16 ∨ b = nI 32
theorem okb_ite {α : Type} {b : Int32} {d : Decidable (okb b)} {A B : α} : (if b = 0 then B else if b = nI 8 then B else if b = nI 16 then B else if b = nI 32 then B else A) = @ite _ (okb b) d B A := by
  by_cases q0 : b = 0
  · rw [if_pos q0, if_pos (show okb b from Or.inl (by rw [q0, nI_0]))]
  rw [if_neg q0]
  by_cases q1 : b = nI 8
  · rw [if_pos q1, if_pos (show okb b from Or.inr (Or.inl q1))]
  rw [if_neg q1]
  by_cases q2 : b = nI 16
  · rw [if_pos q2, if_pos (show okb b from Or.inr (Or.inr (Or.inl q2)))]
  rw [if_neg q2]
  by_cases q3 : b = nI 32
  · rw [if_pos q3, if_pos (show okb b from Or.inr (Or.inr (Or.inr q3)))]
  rw [if_neg q3, if_neg (fun z => by
    rcases z with z | z | z | z
    · exact q0 (by rw [z, nI_0])
    · exact q1 z
    · exact q2 z
    · exact q3 z)]
theorem c_sheet (h : IV M t z sp c) (a b d : Int32) : OK L M c (fun M => R 98 0 [.ref 1, .int a, .int b, .int d] [] (SH L, M)) (fun M => R 216 0 [.ref 36, .int a, .int b, .int d, .null] [] (SH L, M)) := by
  have dk : Decidable (okb b) := Classical.propDecidable _
  by_cases h1 : rng a 4
  · by_cases h2 : okb b
    · by_cases h3 : d < 0
      · have h3' : ¬ (0 : Int32) ≤ d := Int32.not_le.mpr h3
        exact okF0 h (x := (-1000007)) (k := 6) (by simp (disch := omega) only [r98_0, r98_1, r98_2, r98_5, r98_8, r98_9, r98_12, r98_13, r98_15, r98_18, r98_19, r98_21, r98_24, r98_25, r98_27, r98_30, r98_31, r98_33, r98_36, r98_37, r98_38, r98_41, r98_42, r98_44, r98_47, r98_48, r98_49, r98_51, r98_54, r98_55, r98_57, r98_60, r98_61, r98_62, r98_65, r98_66, r98_67, r98_68, r98_71, r98_72, r98_75, r98_78, r98_79, r98_80, Option.bind_some, vtl_some, vtl_none, s_within, s_isSet5 h.e h.w, h.e.p, h.e.h, h.od5, h.me4, b2_eq0, ite_not2, nz1, nz0, n1z, n0z, if_true, if_false, fd0, fd1, fd2, fd3, fd4, fd5, fd6, if_pos h1, okb_ite (d := dk), if_pos h2, if_neg h3']) (fun M1 hs => by simp (disch := omega) only [r216_0, r216_1, r216_4, r216_7, r216_8, r216_11, r216_12, r216_14, r216_17, r216_18, r216_20, r216_23, r216_24, r216_26, r216_29, r216_30, r216_32, r216_35, r216_36, r216_37, r216_40, r216_41, r216_44, r216_47, r216_48, r216_49, r216_51, r216_54, r216_55, r216_57, r216_60, r216_61, r216_62, r216_65, r216_66, r216_67, r216_68, r216_69, r216_72, r216_73, r216_74, r216_77, r216_78, r216_81, r216_82, r216_83, r216_84, r216_86, r216_88, r216_90, r216_93, r216_94, r216_97, r216_99, r216_100, r216_101, r216_103, r216_104, r216_105, r216_106, r216_109, r216_112, r216_113, r216_116, r216_117, r216_118, Option.bind_some, vtl_some, vtl_none, s_isPart hs h.w, s_isHeir hs h.w, s_isSet6 hs h.w, s_isAny, s_isThing, s_isOne, b2_eq0, ite_not2, nz1, nz0, n1z, n0z, if_true, if_false, gd0, gd1, gd2, gd3, gd4, gd5, gd6, hs 1, hs 2, if_pos h1, okb_ite (d := dk), if_pos h2, if_neg h3'])
      · have h3' : (0 : Int32) ≤ d := Int32.not_lt.mp h3
        by_cases h4 : d ≤ nI 40
        · obtain ⟨s, hs, rfl⟩ := rng_of (by omega) h1
          obtain ⟨n, hn, rfl⟩ := rng_of (by omega) (le_rng (by decide) h3 h4)
          have hb : ∃ w, (w = 0 ∨ w = 8 ∨ w = 16 ∨ w = 32) ∧ b = nI w := by
            rcases h2 with e | e | e | e
            · exact ⟨0, Or.inl rfl, e⟩
            · exact ⟨8, Or.inr (Or.inl rfl), e⟩
            · exact ⟨16, Or.inr (Or.inr (Or.inl rfl)), e⟩
            · exact ⟨32, Or.inr (Or.inr (Or.inr rfl)), e⟩
          obtain ⟨w, hw, rfl⟩ := hb
          have hl := k_lay_l (L := L) hs (v2 := .int (nI w)) (v3 := .int (nI n)) 40 0 (upd2 (upd2 M 32 s (nI w)) 33 s (nI (if w = 0 then 0 else n))) (Nat.zero_add _)
          have lay : R 35 0 [.ref 30, .int (nI s), .int (nI w), .int (nI n), .null] [] (SH L, M) = some (none, (SH L, zr (upd2 (upd2 M 32 s (nI w)) 33 s (nI (if w = 0 then 0 else n))) 31 (s * 40) (s * 40 + 40))) := by
            simp (disch := omega) only [r35_0, r35_1, r35_4, r35_5, r35_6, r35_7, r35_8, r35_11, r35_12, r35_13, r35_16, r35_17, r35_20, nI_eq0, mg_R, mg_n]
            simp (disch := omega) only [r35_21, r35_22, r35_23]
            exact hl
          have o33 : zr (upd2 (upd2 M 32 s (nI w)) 33 s (nI (if w = 0 then 0 else n))) 31 (s * 40) (s * 40 + 40) 33 s = nI (if w = 0 then 0 else n) := by rw [zr_out (Or.inl (by omega)), upd2_eq]
          refine okG (r := nI (if w = 0 then 0 else n)) (M1 := zr (upd2 (upd2 M 32 s (nI w)) 33 s (nI (if w = 0 then 0 else n))) 31 (s * 40) (s * 40 + 40)) (M2 := zr (upd2 (upd2 (zr (upd2 (upd2 M 32 s (nI w)) 33 s (nI (if w = 0 then 0 else n))) 31 (s * 40) (s * 40 + 40)) 51 s (nI w)) 52 s (nI (if w = 0 then 0 else n))) 53 (40 * s) (40 * s + 40)) ?_ ?_ (IV_ts h (fun b hb => ?_) ?_ (RT_eq h.tp ?_ ?_ ?_ ?_) ⟨fun i hi => ?_, fun q hq => ⟨?_, ?_⟩⟩) (Nat.le_add_right _ _)
          · simp (disch := omega) only [r98_0, r98_1, r98_2, r98_5, r98_8, r98_9, r98_12, r98_13, r98_15, r98_18, r98_19, r98_21, r98_24, r98_25, r98_27, r98_30, r98_31, r98_33, r98_36, r98_37, r98_38, r98_41, r98_42, r98_44, r98_47, r98_48, r98_49, r98_51, r98_54, r98_55, r98_57, r98_60, r98_61, r98_62, r98_65, r98_66, r98_67, r98_68, r98_71, r98_72, r98_75, r98_78, r98_79, r98_80, Option.bind_some, vtl_some, vtl_none, s_within, s_isSet5 h.e h.w, h.e.p, h.e.h, h.od5, h.me4, b2_eq0, ite_not2, nz1, nz0, n1z, n0z, if_true, if_false, fd0, fd1, fd2, fd3, fd4, fd5, fd6, if_pos h1, okb_ite (d := dk), if_pos h2, if_pos h3', if_pos h4, lay, o33]
          · have hl2 := q_lay_l (L := L) hs (v2 := .int (nI w)) (v3 := .int (nI n)) 40 0 (upd2 (upd2 (zr (upd2 (upd2 M 32 s (nI w)) 33 s (nI (if w = 0 then 0 else n))) 31 (s * 40) (s * 40 + 40)) 51 s (nI w)) 52 s (nI (if w = 0 then 0 else n))) (Nat.zero_add _)
            have q1 : R 216 61 [.ref 36, .int (nI s), .int (nI w), .int (nI n), .null] [] (SH L, zr (upd2 (upd2 M 32 s (nI w)) 33 s (nI (if w = 0 then 0 else n))) 31 (s * 40) (s * 40 + 40)) = R 216 86 [.ref 36, .int (nI s), .int (nI w), .int (nI n), .int (nI 0)] [] (SH L, upd2 (upd2 (zr (upd2 (upd2 M 32 s (nI w)) 33 s (nI (if w = 0 then 0 else n))) 31 (s * 40) (s * 40 + 40)) 51 s (nI w)) 52 s (nI (if w = 0 then 0 else n))) := by
              simp (disch := omega) only [r216_61, r216_62, r216_65, r216_66, r216_67, r216_68, r216_69, r216_72, r216_73, r216_74, r216_77, r216_78, r216_81, nI_eq0, mg_R, mg_n]
              simp (disch := omega) only [r216_82, r216_83, r216_84]
            have q0 : ∀ N : Nat → Nat → Int32, R 216 0 [.ref 36, .int (nI s), .int (nI w), .int (nI n), .null] [] (SH L, N) = R 216 61 [.ref 36, .int (nI s), .int (nI w), .int (nI n), .null] [] (SH L, N) := fun N => by
              simp (disch := omega) only [r216_0, r216_1, r216_4, r216_7, r216_8, r216_11, r216_12, r216_14, r216_17, r216_18, r216_20, r216_23, r216_24, r216_26, r216_29, r216_30, r216_32, r216_35, r216_36, r216_37, r216_40, r216_41, r216_44, r216_47, r216_48, r216_49, r216_51, r216_54, r216_55, r216_57, s_isOne, if_pos h1, okb_ite (d := dk), if_pos h2, if_pos h3', if_pos h4, nz1, if_false, Option.bind_some, vtl_some]
            rw [q0, q1, hl2]
            simp (disch := omega) only [r216_112, r216_113, r216_116, r216_117, r216_118]
            rw [zr_out (Or.inl (by omega)), upd2_eq]
            rfl
          · funext j; rw [zr_out (Or.inl (by omega)), upd2_ne (Or.inl (by omega)), upd2_ne (Or.inl (by omega)), zr_out (Or.inl (by omega)), upd2_ne (Or.inl (by omega)), upd2_ne (Or.inl (by omega))]
          · rw [zr_out (Or.inl (by omega)), upd2_ne (Or.inl (by omega)), upd2_ne (Or.inl (by omega)), zr_out (Or.inl (by omega)), upd2_ne (Or.inl (by omega)), upd2_ne (Or.inl (by omega))]
          · rw [zr_out (Or.inl (by omega)), upd2_ne (Or.inl (by omega)), upd2_ne (Or.inl (by omega)), zr_out (Or.inl (by omega)), upd2_ne (Or.inl (by omega)), upd2_ne (Or.inl (by omega))]
          · rw [zr_out (Or.inl (by omega)), upd2_ne (Or.inl (by omega)), upd2_ne (Or.inl (by omega)), zr_out (Or.inl (by omega)), upd2_ne (Or.inl (by omega)), upd2_ne (Or.inl (by omega))]
          · funext j; rw [zr_out (Or.inl (by omega)), upd2_ne (Or.inl (by omega)), upd2_ne (Or.inl (by omega)), zr_out (Or.inl (by omega)), upd2_ne (Or.inl (by omega)), upd2_ne (Or.inl (by omega))]
          · funext j; rw [zr_out (Or.inl (by omega)), upd2_ne (Or.inl (by omega)), upd2_ne (Or.inl (by omega)), zr_out (Or.inl (by omega)), upd2_ne (Or.inl (by omega)), upd2_ne (Or.inl (by omega))]
          · have r0 := h.sh.1 i hi
            rw [zr_out (Or.inl (by omega)), upd2_ne (Or.inl (by omega)), upd2_ne (Or.inl (by omega))]
            by_cases q : s * 40 ≤ i ∧ i < s * 40 + 40
            · rw [zr_in q, zr_in (by omega)]
            · rw [zr_out (by omega), zr_out (by omega)]
              simp (disch := omega) only [upd2_ne]
              rw [zr_out (Or.inl (by omega))]
              simp (disch := omega) only [upd2_ne]
              exact r0
          · obtain ⟨⟨w0, r1, r2, r3⟩, -⟩ := h.sh.2 q hq
            simp (disch := omega) only [zr_out, upd2_ne]
            by_cases e : q = s
            · subst e; exact ⟨w, hw, upd2_eq, upd2_eq⟩
            · refine ⟨w0, r1, ?_, ?_⟩
              · rw [upd2_ne (Or.inr e)]; exact r2
              · rw [upd2_ne (Or.inr e)]; simp (disch := omega) only [zr_out, upd2_ne]; exact r3
          · obtain ⟨-, ⟨n0, r1, r2, r3⟩⟩ := h.sh.2 q hq
            simp (disch := omega) only [zr_out, upd2_ne]
            by_cases e : q = s
            · subst e; exact ⟨if w = 0 then 0 else n, by split <;> omega, upd2_eq, upd2_eq⟩
            · refine ⟨n0, r1, ?_, ?_⟩
              · rw [upd2_ne (Or.inr e)]; simp (disch := omega) only [upd2_ne]; exact r2
              · rw [upd2_ne (Or.inr e)]; simp (disch := omega) only [zr_out, upd2_ne]; exact r3
        · exact okF0 h (x := (-1000001)) (k := 0) (by simp (disch := omega) only [r98_0, r98_1, r98_2, r98_5, r98_8, r98_9, r98_12, r98_13, r98_15, r98_18, r98_19, r98_21, r98_24, r98_25, r98_27, r98_30, r98_31, r98_33, r98_36, r98_37, r98_38, r98_41, r98_42, r98_44, r98_47, r98_48, r98_49, r98_51, r98_54, r98_55, r98_57, r98_60, r98_61, r98_62, r98_65, r98_66, r98_67, r98_68, r98_71, r98_72, r98_75, r98_78, r98_79, r98_80, Option.bind_some, vtl_some, vtl_none, s_within, s_isSet5 h.e h.w, h.e.p, h.e.h, h.od5, h.me4, b2_eq0, ite_not2, nz1, nz0, n1z, n0z, if_true, if_false, fd0, fd1, fd2, fd3, fd4, fd5, fd6, if_pos h1, okb_ite (d := dk), if_pos h2, if_pos h3', if_neg h4]) (fun M1 hs => by simp (disch := omega) only [r216_0, r216_1, r216_4, r216_7, r216_8, r216_11, r216_12, r216_14, r216_17, r216_18, r216_20, r216_23, r216_24, r216_26, r216_29, r216_30, r216_32, r216_35, r216_36, r216_37, r216_40, r216_41, r216_44, r216_47, r216_48, r216_49, r216_51, r216_54, r216_55, r216_57, r216_60, r216_61, r216_62, r216_65, r216_66, r216_67, r216_68, r216_69, r216_72, r216_73, r216_74, r216_77, r216_78, r216_81, r216_82, r216_83, r216_84, r216_86, r216_88, r216_90, r216_93, r216_94, r216_97, r216_99, r216_100, r216_101, r216_103, r216_104, r216_105, r216_106, r216_109, r216_112, r216_113, r216_116, r216_117, r216_118, Option.bind_some, vtl_some, vtl_none, s_isPart hs h.w, s_isHeir hs h.w, s_isSet6 hs h.w, s_isAny, s_isThing, s_isOne, b2_eq0, ite_not2, nz1, nz0, n1z, n0z, if_true, if_false, gd0, gd1, gd2, gd3, gd4, gd5, gd6, hs 1, hs 2, if_pos h1, okb_ite (d := dk), if_pos h2, if_pos h3', if_neg h4])
    · exact okF0 h (x := (-1000001)) (k := 0) (by simp (disch := omega) only [r98_0, r98_1, r98_2, r98_5, r98_8, r98_9, r98_12, r98_13, r98_15, r98_18, r98_19, r98_21, r98_24, r98_25, r98_27, r98_30, r98_31, r98_33, r98_36, r98_37, r98_38, r98_41, r98_42, r98_44, r98_47, r98_48, r98_49, r98_51, r98_54, r98_55, r98_57, r98_60, r98_61, r98_62, r98_65, r98_66, r98_67, r98_68, r98_71, r98_72, r98_75, r98_78, r98_79, r98_80, Option.bind_some, vtl_some, vtl_none, s_within, s_isSet5 h.e h.w, h.e.p, h.e.h, h.od5, h.me4, b2_eq0, ite_not2, nz1, nz0, n1z, n0z, if_true, if_false, fd0, fd1, fd2, fd3, fd4, fd5, fd6, if_pos h1, okb_ite (d := dk), if_neg h2]) (fun M1 hs => by simp (disch := omega) only [r216_0, r216_1, r216_4, r216_7, r216_8, r216_11, r216_12, r216_14, r216_17, r216_18, r216_20, r216_23, r216_24, r216_26, r216_29, r216_30, r216_32, r216_35, r216_36, r216_37, r216_40, r216_41, r216_44, r216_47, r216_48, r216_49, r216_51, r216_54, r216_55, r216_57, r216_60, r216_61, r216_62, r216_65, r216_66, r216_67, r216_68, r216_69, r216_72, r216_73, r216_74, r216_77, r216_78, r216_81, r216_82, r216_83, r216_84, r216_86, r216_88, r216_90, r216_93, r216_94, r216_97, r216_99, r216_100, r216_101, r216_103, r216_104, r216_105, r216_106, r216_109, r216_112, r216_113, r216_116, r216_117, r216_118, Option.bind_some, vtl_some, vtl_none, s_isPart hs h.w, s_isHeir hs h.w, s_isSet6 hs h.w, s_isAny, s_isThing, s_isOne, b2_eq0, ite_not2, nz1, nz0, n1z, n0z, if_true, if_false, gd0, gd1, gd2, gd3, gd4, gd5, gd6, hs 1, hs 2, if_pos h1, okb_ite (d := dk), if_neg h2])
  · exact okF0 h (x := (-1000001)) (k := 0) (by simp (disch := omega) only [r98_0, r98_1, r98_2, r98_5, r98_8, r98_9, r98_12, r98_13, r98_15, r98_18, r98_19, r98_21, r98_24, r98_25, r98_27, r98_30, r98_31, r98_33, r98_36, r98_37, r98_38, r98_41, r98_42, r98_44, r98_47, r98_48, r98_49, r98_51, r98_54, r98_55, r98_57, r98_60, r98_61, r98_62, r98_65, r98_66, r98_67, r98_68, r98_71, r98_72, r98_75, r98_78, r98_79, r98_80, Option.bind_some, vtl_some, vtl_none, s_within, s_isSet5 h.e h.w, h.e.p, h.e.h, h.od5, h.me4, b2_eq0, ite_not2, nz1, nz0, n1z, n0z, if_true, if_false, fd0, fd1, fd2, fd3, fd4, fd5, fd6, if_neg h1]) (fun M1 hs => by simp (disch := omega) only [r216_0, r216_1, r216_4, r216_7, r216_8, r216_11, r216_12, r216_14, r216_17, r216_18, r216_20, r216_23, r216_24, r216_26, r216_29, r216_30, r216_32, r216_35, r216_36, r216_37, r216_40, r216_41, r216_44, r216_47, r216_48, r216_49, r216_51, r216_54, r216_55, r216_57, r216_60, r216_61, r216_62, r216_65, r216_66, r216_67, r216_68, r216_69, r216_72, r216_73, r216_74, r216_77, r216_78, r216_81, r216_82, r216_83, r216_84, r216_86, r216_88, r216_90, r216_93, r216_94, r216_97, r216_99, r216_100, r216_101, r216_103, r216_104, r216_105, r216_106, r216_109, r216_112, r216_113, r216_116, r216_117, r216_118, Option.bind_some, vtl_some, vtl_none, s_isPart hs h.w, s_isHeir hs h.w, s_isSet6 hs h.w, s_isAny, s_isThing, s_isOne, b2_eq0, ite_not2, nz1, nz0, n1z, n0z, if_true, if_false, gd0, gd1, gd2, gd3, gd4, gd5, gd6, hs 1, hs 2, if_neg h1])
/-- a sheet's row of numbers, bits, sizes -/
theorem IV.nu (h : IV M t z sp c) {i : Nat} (hi : i < 160) : M 53 i = M 31 i := (h.sh.1 i hi).symm
theorem q_wrong0 {a : Int32} (h1 : ¬ rng a 4) : R 218 0 [.ref 36, .int a] [] (SH L, M) = some (some (.int (-1000001)), (SH L, M)) := by
  simp only [r218_0, r218_1, r218_4, r218_7, r218_9, r218_12, r218_13, r218_16, r218_17, r218_18, r218_21, r218_24, r218_27, r218_28, s_isOne, if_neg h1, nz0, if_true, Option.bind_some, vtl_some]
theorem q_wrong1 {s w : Nat} (hs : s < 4) (hw : w < 100) (e : M 51 s = nI w) : R 218 0 [.ref 36, .int (nI s)] [] (SH L, M) = some (some (.int (if w = 0 then (-1000006) else nI 0)), (SH L, M)) := by
  have h1 : rng (nI s) 4 := (rng_nI (by omega)).mpr hs
  simp (disch := omega) only [r218_0, r218_1, r218_4, r218_7, r218_9, r218_12, r218_13, r218_16, r218_17, r218_18, r218_21, r218_24, r218_27, r218_28, s_isOne, if_pos h1, nz1, n1z, if_false, Option.bind_some, vtl_some, e, nI_eq0, mg_R]
  by_cases q : w = 0
  · rw [if_pos q, if_pos q]
  · rw [if_neg q, if_neg q]
theorem nzM : ((-1000006 : Int32) = 0) = False := by decide +kernel
theorem q_narrowed {w : Nat} {v : Int32} {W : vW} (hw : w < 100) : R 217 0 [.int (nI w), .int v] [] W = some (some (.int (nrw w v)), W) := by
  unfold nrw
  simp (disch := omega) only [r217_0, r217_1, r217_3, r217_6, r217_7, r217_8, r217_11, r217_12, r217_14, r217_17, r217_18, r217_19, r217_22, nI_eq']
  by_cases q1 : w = 8
  · rw [if_pos q1, if_pos q1]; simp only [r217_23]
  · rw [if_neg q1, if_neg q1]
    by_cases q2 : w = 16
    · rw [if_pos q2, if_pos q2]; simp only [r217_23]
    · rw [if_neg q2, if_neg q2]; simp only [r217_23]
theorem k_put {s i w : Nat} {v : Int32} (hs : s < 4) (hi : i < 40) (hw : w < 100) (e : M 32 s = nI w) : R 37 0 [.ref 30, .int (nI s), .int (nI i), .int v] [] (SH L, M) = some (none, (SH L, upd2 M 31 (s * 40 + i) (nrw w v))) := by
  unfold nrw
  simp (disch := omega) only [r37_0, r37_1, r37_4, r37_5, r37_7, r37_8, r37_9, r37_10, r37_11, r37_14, r37_15, r37_16, r37_18, r37_21, r37_22, r37_23, r37_26, r37_27, r37_30, r37_31, r37_32, r37_34, r37_37, r37_38, r37_39, r37_42, pk_mul, nI_add, e, nI_eq']
  by_cases q1 : w = 8
  · rw [if_pos q1, if_pos q1]; simp (disch := omega) only [r37_43, r37_44]
  · rw [if_neg q1, if_neg q1]
    by_cases q2 : w = 16
    · rw [if_pos q2, if_pos q2]; simp (disch := omega) only [r37_43, r37_44]
    · rw [if_neg q2, if_neg q2]; simp (disch := omega) only [r37_43, r37_44]
theorem c_write (h : IV M t z sp c) (a b d : Int32) : OK L M c (fun M => R 99 0 [.ref 1, .int a, .int b, .int d] [] (SH L, M)) (fun M => R 219 0 [.ref 36, .int a, .int b, .int d, .null] [] (SH L, M)) := by
  by_cases h1 : rng a 4
  · obtain ⟨s, hs, rfl⟩ := rng_of (by omega) h1
    obtain ⟨⟨w, hw, e1, e2⟩, ⟨n, hn, e3, e4⟩⟩ := h.sh.2 s hs
    have w100 : w < 100 := by omega
    by_cases h2 : w = 0
    · refine okFc h (x := -1000006) (k := 5) (by simp (disch := omega) only [r99_0, r99_1, r99_2, r99_5, r99_8, r99_9, r99_11, r99_14, r99_15, r99_16, r99_19, r99_22, r99_23, r99_24, r99_27, r99_28, r99_30, r99_33, r99_34, r99_35, r99_36, r99_39, r99_42, r99_43, r99_44, r99_47, r99_50, r99_51, r99_53, r99_56, r99_57, r99_58, r99_61, r99_62, r99_63, r99_64, r99_67, r99_68, Option.bind_some, vtl_some, vtl_none, s_within, s_isSet5 h.e h.w, h.e.p, h.e.h, h.od5, h.me4, b2_eq0, ite_not2, nz1, nz0, n1z, n0z, if_true, if_false, fd0, fd1, fd2, fd3, fd4, fd5, fd6, if_pos h1, e1, nI_eq0, if_pos h2]) (fun M1 fr hs1 => ?_)
      have wr := q_wrong1 (L := L) (M := M1) hs w100 (by rw [fr 51 (by omega)]; exact e2)
      rw [if_pos h2] at wr
      have hs := hs1
      simp (disch := omega) only [r219_0, r219_1, r219_2, r219_5, r219_7, r219_9, r219_12, r219_13, r219_15, r219_18, r219_19, r219_20, r219_21, r219_22, r219_23, r219_26, r219_27, r219_28, r219_29, r219_30, r219_31, r219_34, r219_37, r219_38, r219_40, r219_43, r219_44, r219_45, r219_48, r219_50, r219_51, r219_52, r219_53, r219_54, r219_55, r219_58, r219_59, r219_60, r219_61, r219_64, r219_65, r219_66, Option.bind_some, vtl_some, vtl_none, s_isPart hs h.w, s_isHeir hs h.w, s_isSet6 hs h.w, s_isAny, s_isThing, s_isOne, b2_eq0, ite_not2, nz1, nz0, n1z, n0z, if_true, if_false, gd0, gd1, gd2, gd3, gd4, gd5, gd6, hs 1, hs 2, wr, nzM]
    · have eb : M 33 s = nI n := e3
      by_cases h3 : rng b n
      · obtain ⟨i, hi, rfl⟩ := rng_of (by omega) h3
        have pu := k_put (L := L) (v := d) hs (show i < 40 by omega) w100 e1
        have a1 : upd2 M 31 (s * 40 + i) (nrw w d) 51 s = nI w := by rw [upd2_ne (Or.inl (by omega))]; exact e2
        have a2 : upd2 M 31 (s * 40 + i) (nrw w d) 52 s = nI n := by rw [upd2_ne (Or.inl (by omega))]; exact e4
        have wr := q_wrong1 (L := L) (M := upd2 M 31 (s * 40 + i) (nrw w d)) hs w100 a1
        rw [if_neg h2] at wr
        have ir : ∀ W : vW, R 123 0 [.long (nI i).toInt64, .null, .long 0, .null, .long (lN n - 1), .null] [] W = some (some (.int (nI 1)), W) := fun W => by
          rw [s_inr (show n < 2 ^ 31 by omega) rfl, if_pos h3]
        refine okG (r := nI 1) (M1 := upd2 M 31 (s * 40 + i) (nrw w d)) (M2 := upd2 (upd2 M 31 (s * 40 + i) (nrw w d)) 53 (40 * s + i) (nrw w d)) (by simp (disch := omega) only [r99_0, r99_1, r99_2, r99_5, r99_8, r99_9, r99_11, r99_14, r99_15, r99_16, r99_19, r99_22, r99_23, r99_24, r99_27, r99_28, r99_30, r99_33, r99_34, r99_35, r99_36, r99_39, r99_42, r99_43, r99_44, r99_47, r99_50, r99_51, r99_53, r99_56, r99_57, r99_58, r99_61, r99_62, r99_63, r99_64, r99_67, r99_68, Option.bind_some, vtl_some, vtl_none, s_within, s_isSet5 h.e h.w, h.e.p, h.e.h, h.od5, h.me4, b2_eq0, ite_not2, nz1, nz0, n1z, n0z, if_true, if_false, fd0, fd1, fd2, fd3, fd4, fd5, fd6, if_pos h1, e1, nI_eq0, if_neg h2, e3, s_within, if_pos h3, pu]) (by simp (disch := omega) only [r219_0, r219_1, r219_2, r219_5, r219_7, r219_9, r219_12, r219_13, r219_15, r219_18, r219_19, r219_20, r219_21, r219_22, r219_23, r219_26, r219_27, r219_28, r219_29, r219_30, r219_31, r219_34, r219_37, r219_38, r219_40, r219_43, r219_44, r219_45, r219_48, r219_50, r219_51, r219_52, r219_53, r219_54, r219_55, r219_58, r219_59, r219_60, r219_61, r219_64, r219_65, r219_66, wr, a1, a2, m1_64, ir, q_narrowed, pk_mul, nI_add, nz0, nz1, if_true, if_false, Option.bind_some, vtl_some]) (IV_ts h (fun b hb => by funext j; simp (disch := omega) only [upd2_ne]) (by simp (disch := omega) only [upd2_ne]) (RT_eq h.tp (by simp (disch := omega) only [upd2_ne]) (by simp (disch := omega) only [upd2_ne]) (by funext j; simp (disch := omega) only [upd2_ne]) (by funext j; simp (disch := omega) only [upd2_ne])) ⟨fun j hj => ?_, fun q hq => ?_⟩) (Nat.le_add_right _ _)
        · rw [upd2_ne (Or.inl (by omega))]
          by_cases q : j = s * 40 + i
          · rw [q, upd2_eq, show s * 40 + i = 40 * s + i by omega, upd2_eq]
          · rw [upd2_ne (Or.inr q), upd2_ne (Or.inr (by omega)), upd2_ne (Or.inl (by omega))]
            exact h.sh.1 j hj
        · simp (disch := omega) only [upd2_ne]
          exact h.sh.2 q hq
      · refine okFc h (x := -1000001) (k := 0) (by simp (disch := omega) only [r99_0, r99_1, r99_2, r99_5, r99_8, r99_9, r99_11, r99_14, r99_15, r99_16, r99_19, r99_22, r99_23, r99_24, r99_27, r99_28, r99_30, r99_33, r99_34, r99_35, r99_36, r99_39, r99_42, r99_43, r99_44, r99_47, r99_50, r99_51, r99_53, r99_56, r99_57, r99_58, r99_61, r99_62, r99_63, r99_64, r99_67, r99_68, Option.bind_some, vtl_some, vtl_none, s_within, s_isSet5 h.e h.w, h.e.p, h.e.h, h.od5, h.me4, b2_eq0, ite_not2, nz1, nz0, n1z, n0z, if_true, if_false, fd0, fd1, fd2, fd3, fd4, fd5, fd6, if_pos h1, e1, nI_eq0, if_neg h2, e3, s_within, if_neg h3]) (fun M1 fr hs1 => ?_)
        have wr := q_wrong1 (L := L) (M := M1) hs w100 (by rw [fr 51 (by omega)]; exact e2)
        rw [if_neg h2] at wr
        have e4' : M1 52 s = nI n := by rw [fr 52 (by omega)]; exact e4
        have ir : ∀ W : vW, R 123 0 [.long b.toInt64, .null, .long 0, .null, .long (lN n - 1), .null] [] W = some (some (.int (nI 0)), W) := fun W => by
          rw [s_inr (show n < 2 ^ 31 by omega) rfl, if_neg h3]
        have hs2 := hs1
        simp (disch := omega) only [r219_0, r219_1, r219_2, r219_5, r219_7, r219_9, r219_12, r219_13, r219_15, r219_18, r219_19, r219_20, r219_21, r219_22, r219_23, r219_26, r219_27, r219_28, r219_29, r219_30, r219_31, r219_34, r219_37, r219_38, r219_40, r219_43, r219_44, r219_45, r219_48, r219_50, r219_51, r219_52, r219_53, r219_54, r219_55, r219_58, r219_59, r219_60, r219_61, r219_64, r219_65, r219_66, wr, e4', m1_64, ir, gd0, nz0, nz1, if_true, if_false, Option.bind_some, vtl_some]
  · exact okF0 h (x := (-1000001)) (k := 0) (by simp (disch := omega) only [r99_0, r99_1, r99_2, r99_5, r99_8, r99_9, r99_11, r99_14, r99_15, r99_16, r99_19, r99_22, r99_23, r99_24, r99_27, r99_28, r99_30, r99_33, r99_34, r99_35, r99_36, r99_39, r99_42, r99_43, r99_44, r99_47, r99_50, r99_51, r99_53, r99_56, r99_57, r99_58, r99_61, r99_62, r99_63, r99_64, r99_67, r99_68, Option.bind_some, vtl_some, vtl_none, s_within, s_isSet5 h.e h.w, h.e.p, h.e.h, h.od5, h.me4, b2_eq0, ite_not2, nz1, nz0, n1z, n0z, if_true, if_false, fd0, fd1, fd2, fd3, fd4, fd5, fd6, if_neg h1]) (fun M1 hs => by simp (disch := omega) only [r219_0, r219_1, r219_2, r219_5, r219_7, r219_9, r219_12, r219_13, r219_15, r219_18, r219_19, r219_20, r219_21, r219_22, r219_23, r219_26, r219_27, r219_28, r219_29, r219_30, r219_31, r219_34, r219_37, r219_38, r219_40, r219_43, r219_44, r219_45, r219_48, r219_50, r219_51, r219_52, r219_53, r219_54, r219_55, r219_58, r219_59, r219_60, r219_61, r219_64, r219_65, r219_66, Option.bind_some, vtl_some, vtl_none, s_isPart hs h.w, s_isHeir hs h.w, s_isSet6 hs h.w, s_isAny, s_isThing, s_isOne, b2_eq0, ite_not2, nz1, nz0, n1z, n0z, if_true, if_false, gd0, gd1, gd2, gd3, gd4, gd5, gd6, hs 1, hs 2, if_neg h1, q_wrong0 h1, nzB])
end SHT_
