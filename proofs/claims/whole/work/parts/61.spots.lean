/-! hold, as -/
section AC3B
variable {L : Nat} {M : Nat → Nat → Int32} {t : Nat → Nat} {z : Int32} {sp : Nat → Int32} {c : Nat}
theorem hld {α : Type} {b : Int32} {n : Nat} (hn : n < 2 ^ 30) {A B : α} : (if b < -1 then A else if b < nI n then B else A) = if b = -1 ∨ rng b n then B else A := by
  have m1 : ((-1 : Int32)).toInt = -1 := by decide +kernel
  by_cases h1 : b < -1
  · rw [if_pos h1, if_neg]
    rw [Int32.lt_iff_toInt_lt, m1] at h1
    rintro (z | z)
    · rw [z, m1] at h1; omega
    · have := z.1; omega
  · rw [if_neg h1]
    rw [Int32.lt_iff_toInt_lt, m1] at h1
    by_cases h2 : b < nI n
    · rw [if_pos h2, if_pos]
      rw [Int32.lt_iff_toInt_lt, nI_toInt (by omega)] at h2
      by_cases h3 : b = -1
      · exact Or.inl h3
      · refine Or.inr ⟨?_, h2⟩
        have : b.toInt ≠ -1 := fun z => h3 (Int32.toInt_inj.mp (by rw [z, m1]))
        omega
    · rw [if_neg h2, if_neg]
      rw [Int32.lt_iff_toInt_lt, nI_toInt (by omega)] at h2
      rintro (z | z)
      · rw [z, m1] at h2; omega
      · have := z.2; omega
theorem c_hold (h : IV M t z sp c) (hcb : c < 49000000) (a b : Int32) : OK L M c (fun M => R 96 0 [.ref 1, .int a, .int b] [] (SH L, M)) (fun M => R 213 0 [.ref 36, .int a, .int b] [] (SH L, M)) := by
  have hP := h.w.2.1
  have i10 : ∀ w : vW, R 123 0 [.long a.toInt64, .null, .long 0, .null, .long 9, .null] [] w = some (some (.int (if rng a 10 then nI 1 else nI 0)), w) := fun w => s_inr (show 10 < 2 ^ 31 by decide) (show (9 : Int64) = lN 10 - 1 by decide +kernel)
  have ql : ∀ {α : Type} {A B : α}, (if b = -1 then B else if rng b (t 1) then B else A) = if b = -1 ∨ rng b (t 1) then B else A := fun {α A B} => by
    by_cases q1 : b = -1
    · rw [if_pos q1, if_pos (Or.inl q1)]
    · rw [if_neg q1]
      by_cases q2 : rng b (t 1)
      · rw [if_pos q2, if_pos (Or.inr q2)]
      · rw [if_neg q2, if_neg (fun z => z.elim q1 q2)]
  by_cases h1 : rng a 10
  · by_cases h2 : b = -1 ∨ rng b (t 1)
    · obtain ⟨x, hx, rfl⟩ := rng_of (by omega) h1
      refine okM h hcb (r := nI 1) (t' := t) (z' := z) (sp' := fun i => if i = x then b else sp i) (M1 := upd2 M 6 x b) (c' := c) (by simp (disch := omega) only [r96_0, r96_1, r96_3, r96_6, r96_9, r96_10, r96_11, r96_14, r96_15, r96_16, r96_19, r96_22, r96_25, r96_26, r96_28, r96_31, r96_32, r96_33, r96_36, r96_39, r96_40, r96_41, r96_42, r96_43, Option.bind_some, vtl_some, vtl_none, s_within, s_isSet5 h.e h.w, h.e.p, h.e.h, h.od5, h.me4, b2_eq0, ite_not2, nz1, nz0, n1z, n0z, if_true, if_false, fd0, fd1, fd2, fd3, fd4, fd5, fd6, if_pos h1, hld (show t 1 < 2 ^ 30 by omega), if_pos h2]) (fM_of (frc_up frc_rf (by omega) (by omega)) (a := 6) (b := 6) (by omega)) ⟨?_, ?_, ?_, ?_, ?_, fun q hq u hu => ?_, fun x hx => ?_, fun i hi => ?_, fun i hi => ?_⟩ (by rw [upd2_ne (Or.inl (by omega))]; exact h.cc) (by omega) (DI_frc h.d (frc_up frc_rf (by omega) (by omega)) (a := 6) (b := 6) (by omega)) h.w h.o (fun i hi => ?_) (fun hq => ?_)
      · simp (disch := omega) only [upd2_ne]; exact h.e.p
      · simp (disch := omega) only [upd2_ne]; exact h.e.k
      · simp (disch := omega) only [upd2_ne]; exact h.e.y
      · simp (disch := omega) only [upd2_ne]; exact h.e.h
      · simp (disch := omega) only [upd2_ne]; exact h.e.zz
      · simp (disch := omega) only [upd2_ne]; exact h.e.tr q hq u hu
      · simp (disch := omega) only [upd2_ne]; exact h.e.me x hx
      · simp (disch := omega) only [upd2_ne]; exact h.e.od i hi
      · show upd2 M 6 x b 6 i = if i = x then b else sp i
        by_cases q : i = x
        · rw [if_pos q, q, upd2_eq]
        · rw [if_neg q, upd2_ne (Or.inr q)]; exact h.e.so i hi
      · show (if i = x then b else sp i) = -1 ∨ _
        by_cases q : i = x
        · rw [if_pos q]
          rcases h2 with q2 | q2
          · exact Or.inl q2
          · obtain ⟨k, hk, e⟩ := rng_of (by omega) q2
            exact Or.inr ⟨k, hk, by show (if i = x then b else sp i) = _; rw [if_pos q]; exact e⟩
        · rw [if_neg q]
          rcases h.ws i hi with y | ⟨j, hj, y⟩
          · exact Or.inl y
          · exact Or.inr ⟨j, hj, by show (if i = x then b else sp i) = _; rw [if_neg q]; exact y⟩
      · have hs := hq.1
        refine ⟨upd2 (upd2 M 6 x b) 37 (81 + x) b, by simp (disch := omega) only [r213_0, r213_1, r213_2, r213_3, r213_6, r213_9, r213_12, r213_13, r213_14, r213_17, r213_18, r213_19, r213_22, r213_25, r213_26, r213_28, r213_31, r213_32, r213_33, r213_36, r213_38, r213_39, r213_40, r213_41, r213_42, r213_43, Option.bind_some, vtl_some, vtl_none, s_isPart hs h.w, s_isHeir hs h.w, s_isSet6 hs h.w, s_isAny, s_isThing, s_isOne, b2_eq0, ite_not2, nz1, nz0, n1z, n0z, if_true, if_false, gd0, gd1, gd2, gd3, gd4, gd5, gd6, hs 1, hs 2, if_pos h1, i10, um_R, ql, if_pos h2, nI_add], fN_of (frc_up frc_rf (by omega) (by omega)) (a := 37) (b := 37) (by omega), fun k hk k4 => ?_, ?_, fun i hi => ?_⟩
        · rw [upd2_ne (Or.inr (by omega))]; exact hq.1 k hk k4
        · rw [upd2_ne (Or.inr (by omega))]; exact hq.2.1
        · show _ = if i = x then b else sp i
          by_cases q : i = x
          · rw [if_pos q, q, upd2_eq]
          · rw [if_neg q, upd2_ne (Or.inr (by omega))]; exact hq.2.2 i hi
    · exact okF0 h (x := (-1000001)) (k := 0) (by simp (disch := omega) only [r96_0, r96_1, r96_3, r96_6, r96_9, r96_10, r96_11, r96_14, r96_15, r96_16, r96_19, r96_22, r96_25, r96_26, r96_28, r96_31, r96_32, r96_33, r96_36, r96_39, r96_40, r96_41, r96_42, r96_43, Option.bind_some, vtl_some, vtl_none, s_within, s_isSet5 h.e h.w, h.e.p, h.e.h, h.od5, h.me4, b2_eq0, ite_not2, nz1, nz0, n1z, n0z, if_true, if_false, fd0, fd1, fd2, fd3, fd4, fd5, fd6, if_pos h1, hld (show t 1 < 2 ^ 30 by omega), if_neg h2]) (fun M1 hs => by simp (disch := omega) only [r213_0, r213_1, r213_2, r213_3, r213_6, r213_9, r213_12, r213_13, r213_14, r213_17, r213_18, r213_19, r213_22, r213_25, r213_26, r213_28, r213_31, r213_32, r213_33, r213_36, r213_38, r213_39, r213_40, r213_41, r213_42, r213_43, Option.bind_some, vtl_some, vtl_none, s_isPart hs h.w, s_isHeir hs h.w, s_isSet6 hs h.w, s_isAny, s_isThing, s_isOne, b2_eq0, ite_not2, nz1, nz0, n1z, n0z, if_true, if_false, gd0, gd1, gd2, gd3, gd4, gd5, gd6, hs 1, hs 2, if_pos h1, i10, um_R, ql, if_neg h2])
  · exact okF0 h (x := (-1000001)) (k := 0) (by simp (disch := omega) only [r96_0, r96_1, r96_3, r96_6, r96_9, r96_10, r96_11, r96_14, r96_15, r96_16, r96_19, r96_22, r96_25, r96_26, r96_28, r96_31, r96_32, r96_33, r96_36, r96_39, r96_40, r96_41, r96_42, r96_43, Option.bind_some, vtl_some, vtl_none, s_within, s_isSet5 h.e h.w, h.e.p, h.e.h, h.od5, h.me4, b2_eq0, ite_not2, nz1, nz0, n1z, n0z, if_true, if_false, fd0, fd1, fd2, fd3, fd4, fd5, fd6, if_neg h1]) (fun M1 hs => by simp (disch := omega) only [r213_0, r213_1, r213_2, r213_3, r213_6, r213_9, r213_12, r213_13, r213_14, r213_17, r213_18, r213_19, r213_22, r213_25, r213_26, r213_28, r213_31, r213_32, r213_33, r213_36, r213_38, r213_39, r213_40, r213_41, r213_42, r213_43, Option.bind_some, vtl_some, vtl_none, s_isPart hs h.w, s_isHeir hs h.w, s_isSet6 hs h.w, s_isAny, s_isThing, s_isOne, b2_eq0, ite_not2, nz1, nz0, n1z, n0z, if_true, if_false, gd0, gd1, gd2, gd3, gd4, gd5, gd6, hs 1, hs 2, if_neg h1, i10])
def und (k u : Nat) : Bool := u == 0 || k == u || (u == 1 && k == 3) || (u == 2 && k == 4) || (u == 5 && k == 6)
theorem s_isUnder {k u : Nat} {w : vW} (hk : k < 7) (hu : u < 7) : R 18 0 [.int (nI k), .int (nI u), .null, .null] [] w = some (some (.int (if und k u = true then nI 1 else nI 0)), w) := by
  have z0 : ((-1 : Int32) < 0) = True := by decide +kernel
  have a0 : ∀ w : vW, R 17 0 [.int (nI 0)] [] w = some (some (.int (-1)), w) := fun w => by rw [r17_0, r17_1_d (by decide +kernel)]; simp only [r17_52, r17_53]
  have ck : k = 0 ∨ k = 1 ∨ k = 2 ∨ k = 3 ∨ k = 4 ∨ k = 5 ∨ k = 6 := by omega
  have cu : u = 0 ∨ u = 1 ∨ u = 2 ∨ u = 3 ∨ u = 4 ∨ u = 5 ∨ u = 6 := by omega
  rcases ck with rfl | rfl | rfl | rfl | rfl | rfl | rfl <;> rcases cu with rfl | rfl | rfl | rfl | rfl | rfl | rfl <;> simp (disch := omega) only [r18_0, r18_1, r18_2, r18_3, r18_4, r18_5, r18_7, r18_10, r18_11, r18_14, r18_15, r18_16, r18_19, r18_20_0, r18_20_1, r18_21, r18_22, r18_25, r18_26, r18_29, r18_32, r18_33_0, r18_33_1, a0, r17_0, r17_40, r17_41, r17_42, r17_43, r17_44, r17_45, r17_46, r17_47, r17_48, r17_49, r17_50, r17_51, r17_1_1, r17_1_2, r17_1_3, r17_1_4, r17_1_5, r17_1_6, nI_le'', nI_lt0, z0, nI_eq', nI_add, Nat.reduceAdd, Nat.reduceLeDiff, Nat.reduceEqDiff, if_true, if_false, Option.bind_some, vtl_some] <;> rfl
theorem c_as (h : IV M t z sp c) (a b : Int32) : OK L M c (fun M => R 97 0 [.ref 1, .int a, .int b, .null] [] (SH L, M)) (fun M => R 214 0 [.ref 36, .int a, .int b, .null, .null, .null] [] (SH L, M)) := by
  have hP := h.w.2.1
  have i10 : ∀ w : vW, R 123 0 [.long a.toInt64, .null, .long 0, .null, .long 9, .null] [] w = some (some (.int (if rng a 10 then nI 1 else nI 0)), w) := fun w => s_inr (show 10 < 2 ^ 31 by decide) (show (9 : Int64) = lN 10 - 1 by decide +kernel)
  have i7 : ∀ w : vW, R 123 0 [.long b.toInt64, .null, .long 0, .null, .long 6, .null] [] w = some (some (.int (if rng b 7 then nI 1 else nI 0)), w) := fun w => s_inr (show 7 < 2 ^ 31 by decide) (show (6 : Int64) = lN 7 - 1 by decide +kernel)
  by_cases h1 : rng a 10
  · by_cases h2 : rng b 7
    · obtain ⟨x, hx, rfl⟩ := rng_of (by omega) h1
      obtain ⟨u, hu, rfl⟩ := rng_of (by omega) h2
      have s6 := h.sp6 x hx
      rcases h.ws x hx with y | ⟨k, hk, y⟩
      · have rn : ¬ rng (-1 : Int32) (t 1) := fun q => absurd q.1 (by decide +kernel)
        refine okFc h (x := -1000006) (k := 5) (by simp (disch := omega) only [r97_0, r97_1, r97_3, r97_6, r97_9, r97_10, r97_12, r97_15, r97_18, r97_19, r97_21, r97_24, r97_25, r97_26, r97_29, r97_32, r97_33, r97_34, r97_35, r97_36, r97_37, r97_40, r97_43, r97_46, r97_49, r97_50, r97_52, r97_55, r97_56, r97_57, r97_60, r97_61, r97_62, r97_65, r97_66, r97_69, r97_72, r97_73, r97_75, r97_78, r97_79, r97_80, Option.bind_some, vtl_some, vtl_none, s_within, s_isSet5 h.e h.w, h.e.p, h.e.h, h.od5, h.me4, b2_eq0, ite_not2, nz1, nz0, n1z, n0z, if_true, if_false, fd0, fd1, fd2, fd3, fd4, fd5, fd6, if_pos h1, if_pos h2, s6, y, if_neg rn]) (fun M1 fr hs => ?_)
        have s37 : M1 37 (81 + x) = -1 := by rw [fr 37 (by omega), h.q.2.2 x hx, y]
        simp (disch := omega) only [r214_0, r214_1, r214_2, r214_3, r214_6, r214_9, r214_12, r214_13, r214_14, r214_15, r214_18, r214_21, r214_24, r214_25, r214_27, r214_30, r214_31, r214_32, r214_35, r214_37, r214_38, r214_39, r214_40, r214_41, r214_42, r214_45, r214_46, r214_49, r214_52, r214_53, r214_54, r214_55, r214_56, r214_59, r214_61, r214_62, r214_65, r214_67, r214_68, r214_71, r214_72, r214_73, r214_76, r214_78, r214_79, r214_82, r214_83, r214_84, r214_87, r214_89, r214_90, r214_93, r214_94, r214_95, r214_98, r214_100, r214_102, r214_105, r214_106, r214_109, r214_110, r214_112, r214_114, r214_117, r214_118, r214_121, r214_122, r214_125, r214_128, Option.bind_some, vtl_some, vtl_none, s_isPart hs h.w, s_isHeir hs h.w, s_isSet6 hs h.w, s_isAny, s_isThing, s_isOne, b2_eq0, ite_not2, nz1, nz0, n1z, n0z, if_true, if_false, gd0, gd1, gd2, gd3, gd4, gd5, gd6, hs 1, hs 2, if_pos h1, if_pos h2, i10, i7, nI_add, s37, show ¬ (0 : Int32) ≤ -1 from by decide +kernel]
      · have rn : rng (nI k) (t 1) := (rng_nI (by omega)).mpr hk
        have hkd : t (9 + 8 * k + 0) < 7 := (h.w.2.2.2.2.2.1 k (by omega)).1
        have tr0 : M 3 (k * 8 + 0) = nI (t (9 + 8 * k + 0)) := h.e.tr k hk 0 (by omega)
        have iu : ∀ w : vW, R 18 0 [.int (nI (t (9 + 8 * k + 0))), .int (nI u), .null, .null] [] w = some (some (.int (if und (t (9 + 8 * k + 0)) u = true then nI 1 else nI 0)), w) := fun w => s_isUnder hkd hu
        have C5 : (if und (t (9 + 8 * k + 0)) u = true then R 97 79 [.ref 1, .int (nI x), .int (nI u), .int (nI k)] [] (SH L, M) else R 97 72 [.ref 1, .int (nI x), .int (nI u), .int (nI k)] [] (SH L, M)) = R 97 0 [.ref 1, .int (nI x), .int (nI u), .null] [] (SH L, M) := by
          symm
          simp (disch := omega) only [r97_0, r97_1, r97_3, r97_6, r97_9, r97_10, r97_12, r97_15, r97_18, r97_19, r97_21, r97_24, r97_25, r97_26, r97_29, r97_32, r97_33, r97_34, r97_35, r97_36, r97_37, r97_40, r97_43, r97_46, r97_49, r97_50, r97_52, r97_55, r97_56, r97_57, r97_60, r97_61, r97_62, r97_65, r97_66, r97_69, Option.bind_some, vtl_some, vtl_none, s_within, s_isSet5 h.e h.w, h.e.p, h.e.h, h.od5, h.me4, b2_eq0, ite_not2, nz1, nz0, n1z, n0z, if_true, if_false, fd0, fd1, fd2, fd3, fd4, fd5, fd6, if_pos h1, if_pos h2, s6, y, if_pos rn, s_trait isE_2, tr0, iu]
        have Q6 : ∀ M1, (M1 37 = M 37) → rS M1 t → R 214 0 [.ref 36, .int (nI x), .int (nI u), .null, .null, .null] [] (SH L, M1) = if und (t (9 + 8 * k + 0)) u = true then R 214 117 [.ref 36, .int (nI x), .int (nI u), .int (nI k), .int (nI (t (9 + 8 * k + 0))), .int (nI 1)] [] (SH L, M1) else R 214 121 [.ref 36, .int (nI x), .int (nI u), .int (nI k), .int (nI (t (9 + 8 * k + 0))), .int (nI 0)] [] (SH L, M1) := fun M1 fr hs => by
          have s37 : M1 37 (81 + x) = nI k := by rw [fr, h.q.2.2 x hx, y]
          simp (disch := omega) only [r214_0, r214_1, r214_2, r214_3, r214_6, r214_9, r214_12, r214_13, r214_14, r214_15, r214_18, r214_21, r214_24, r214_25, r214_27, r214_30, r214_31, r214_32, r214_35, r214_37, r214_38, r214_39, r214_40, r214_41, r214_42, r214_45, r214_46, r214_49, r214_52, r214_53, r214_54, r214_55, r214_56, r214_59, Option.bind_some, vtl_some, vtl_none, s_isPart hs h.w, s_isHeir hs h.w, s_isSet6 hs h.w, s_isAny, s_isThing, s_isOne, b2_eq0, ite_not2, nz1, nz0, n1z, n0z, if_true, if_false, gd0, gd1, gd2, gd3, gd4, gd5, gd6, hs 1, hs 2, if_pos h1, if_pos h2, i10, i7, nI_add, s37, nI_0le, s_its, hs (9 + 8 * k + 0)]
          generalize t (9 + 8 * k + 0) = kk at hkd
          have ck : kk = 0 ∨ kk = 1 ∨ kk = 2 ∨ kk = 3 ∨ kk = 4 ∨ kk = 5 ∨ kk = 6 := by omega
          have cu : u = 0 ∨ u = 1 ∨ u = 2 ∨ u = 3 ∨ u = 4 ∨ u = 5 ∨ u = 6 := by omega
          rcases ck with rfl | rfl | rfl | rfl | rfl | rfl | rfl <;> rcases cu with rfl | rfl | rfl | rfl | rfl | rfl | rfl <;> simp (disch := omega) only [r214_61, r214_62, r214_65, r214_67, r214_68, r214_71, r214_72, r214_73, r214_76, r214_78, r214_79, r214_82, r214_83, r214_84, r214_87, r214_89, r214_90, r214_93, r214_94, r214_95, r214_98, r214_100, r214_102, r214_105, r214_106, r214_109, r214_110, r214_112, r214_114, nI_eq', nI_eq0, Nat.reduceEqDiff, if_true, if_false, nz0, nz1] <;> rfl
        by_cases h3 : und (t (9 + 8 * k + 0)) u = true
        · refine okVc h (r := nI k) (M1 := M) ?_ fC_rf h.d rfl (fun hs => ⟨M, ?_, fR_rf, rfl⟩)
          · rw [← C5, if_pos h3]; simp only [r97_79, r97_80]
          · rw [Q6 M rfl hs, if_pos h3]; simp only [r214_117, r214_118, r214_121, r214_122, r214_125, r214_128]
        · refine okFc h (x := -1000003) (k := 2) ?_ (fun M1 fr hs => ?_)
          · rw [← C5, if_neg h3]; simp only [r97_72, r97_73, r97_75, r97_78, fd2, Option.bind_some, vtl_some]
          · rw [Q6 M1 (fr 37 (by omega)) hs, if_neg h3]; simp only [r214_121, r214_122, r214_125, r214_128, gd2, Option.bind_some, vtl_some]
    · exact okF0 h (x := (-1000001)) (k := 0) (by simp (disch := omega) only [r97_0, r97_1, r97_3, r97_6, r97_9, r97_10, r97_12, r97_15, r97_18, r97_19, r97_21, r97_24, r97_25, r97_26, r97_29, r97_32, r97_33, r97_34, r97_35, r97_36, r97_37, r97_40, r97_43, r97_46, r97_49, r97_50, r97_52, r97_55, r97_56, r97_57, r97_60, r97_61, r97_62, r97_65, r97_66, r97_69, r97_72, r97_73, r97_75, r97_78, r97_79, r97_80, Option.bind_some, vtl_some, vtl_none, s_within, s_isSet5 h.e h.w, h.e.p, h.e.h, h.od5, h.me4, b2_eq0, ite_not2, nz1, nz0, n1z, n0z, if_true, if_false, fd0, fd1, fd2, fd3, fd4, fd5, fd6, if_pos h1, if_neg h2]) (fun M1 hs => by simp (disch := omega) only [r214_0, r214_1, r214_2, r214_3, r214_6, r214_9, r214_12, r214_13, r214_14, r214_15, r214_18, r214_21, r214_24, r214_25, r214_27, r214_30, r214_31, r214_32, r214_35, r214_37, r214_38, r214_39, r214_40, r214_41, r214_42, r214_45, r214_46, r214_49, r214_52, r214_53, r214_54, r214_55, r214_56, r214_59, r214_61, r214_62, r214_65, r214_67, r214_68, r214_71, r214_72, r214_73, r214_76, r214_78, r214_79, r214_82, r214_83, r214_84, r214_87, r214_89, r214_90, r214_93, r214_94, r214_95, r214_98, r214_100, r214_102, r214_105, r214_106, r214_109, r214_110, r214_112, r214_114, r214_117, r214_118, r214_121, r214_122, r214_125, r214_128, Option.bind_some, vtl_some, vtl_none, s_isPart hs h.w, s_isHeir hs h.w, s_isSet6 hs h.w, s_isAny, s_isThing, s_isOne, b2_eq0, ite_not2, nz1, nz0, n1z, n0z, if_true, if_false, gd0, gd1, gd2, gd3, gd4, gd5, gd6, hs 1, hs 2, if_pos h1, if_neg h2, i10, i7])
  · exact okF0 h (x := (-1000001)) (k := 0) (by simp (disch := omega) only [r97_0, r97_1, r97_3, r97_6, r97_9, r97_10, r97_12, r97_15, r97_18, r97_19, r97_21, r97_24, r97_25, r97_26, r97_29, r97_32, r97_33, r97_34, r97_35, r97_36, r97_37, r97_40, r97_43, r97_46, r97_49, r97_50, r97_52, r97_55, r97_56, r97_57, r97_60, r97_61, r97_62, r97_65, r97_66, r97_69, r97_72, r97_73, r97_75, r97_78, r97_79, r97_80, Option.bind_some, vtl_some, vtl_none, s_within, s_isSet5 h.e h.w, h.e.p, h.e.h, h.od5, h.me4, b2_eq0, ite_not2, nz1, nz0, n1z, n0z, if_true, if_false, fd0, fd1, fd2, fd3, fd4, fd5, fd6, if_neg h1]) (fun M1 hs => by simp (disch := omega) only [r214_0, r214_1, r214_2, r214_3, r214_6, r214_9, r214_12, r214_13, r214_14, r214_15, r214_18, r214_21, r214_24, r214_25, r214_27, r214_30, r214_31, r214_32, r214_35, r214_37, r214_38, r214_39, r214_40, r214_41, r214_42, r214_45, r214_46, r214_49, r214_52, r214_53, r214_54, r214_55, r214_56, r214_59, r214_61, r214_62, r214_65, r214_67, r214_68, r214_71, r214_72, r214_73, r214_76, r214_78, r214_79, r214_82, r214_83, r214_84, r214_87, r214_89, r214_90, r214_93, r214_94, r214_95, r214_98, r214_100, r214_102, r214_105, r214_106, r214_109, r214_110, r214_112, r214_114, r214_117, r214_118, r214_121, r214_122, r214_125, r214_128, Option.bind_some, vtl_some, vtl_none, s_isPart hs h.w, s_isHeir hs h.w, s_isSet6 hs h.w, s_isAny, s_isThing, s_isOne, b2_eq0, ite_not2, nz1, nz0, n1z, n0z, if_true, if_false, gd0, gd1, gd2, gd3, gd4, gd5, gd6, hs 1, hs 2, if_neg h1, i10])
end AC3B
