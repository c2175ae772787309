/-! gossip, hold, as -/
/-- one word of gossip -/
def gsT (t : Nat → Nat) (z : Int32) : Nat → Nat := ut t (9 + 8 * (dwN z % t 1) + (4 + dwN (zN z) % 4)) (dwN (zN (zN z)) % 100)
def gsG (f : (Nat → Nat) → Int32 → (Nat → Nat)) (g : Int32 → Int32) : Nat → (Nat → Nat) → Int32 → (Nat → Nat) × Int32
  | 0, t, z => (t, z)
  | k + 1, t, z => gsG f g k (f t z) (g z)
theorem gsG_0 {f : (Nat → Nat) → Int32 → (Nat → Nat)} {g : Int32 → Int32} {t : Nat → Nat} {z : Int32} : gsG f g 0 t z = (t, z) := rfl
theorem gsG_s {f : (Nat → Nat) → Int32 → (Nat → Nat)} {g : Int32 → Int32} {k : Nat} {t : Nat → Nat} {z : Int32} : gsG f g (k + 1) t z = gsG f g k (f t z) (g z) := rfl
def gsZ (z : Int32) : Int32 := zN (zN (zN z))
def gsR : Nat → (Nat → Nat) → Int32 → (Nat → Nat) × Int32 := gsG gsT gsZ
theorem gsR_0 {t : Nat → Nat} {z : Int32} : gsR 0 t z = (t, z) := gsG_0
theorem gsR_s {k : Nat} {t : Nat → Nat} {z : Int32} : gsR (k + 1) t z = gsR k (gsT t z) (gsZ z) := gsG_s
theorem gsT_lo {t : Nat → Nat} {z : Int32} {i : Nat} (h : i < 9) : gsT t z i = t i := ut_ne (by omega)
theorem gsT_wf {t : Nat → Nat} {z : Int32} (hw : wfT t) (h1 : 0 < t 1) : wfT (gsT t z) := by
  have hP := hw.2.1
  have m1 := Nat.mod_lt (dwN z) h1
  have m2 := Nat.mod_lt (dwN (zN z)) (show 0 < 4 by decide)
  have m3 := Nat.mod_lt (dwN (zN (zN z))) (show 0 < 100 by decide)
  refine ut_wf hw (by omega) (by omega) ?_
  have : bmo (4 + dwN (zN z) % 4) = 99 := by
    have : dwN (zN z) % 4 = 0 ∨ dwN (zN z) % 4 = 1 ∨ dwN (zN z) % 4 = 2 ∨ dwN (zN z) % 4 = 3 := by omega
    rcases this with e | e | e | e <;> rw [e] <;> rfl
  omega
theorem gsR_lo : ∀ (k : Nat) (t : Nat → Nat) (z : Int32) (i : Nat), i < 9 → (gsR k t z).1 i = t i := by
  intro k
  induction k with
  | zero => intro t z i _; rw [gsR_0]
  | succ k ih => intro t z i h; rw [gsR_s, ih _ _ _ h, gsT_lo h]
theorem gsR_wf : ∀ (k : Nat) (t : Nat → Nat) (z : Int32), wfT t → 0 < t 1 → wfT (gsR k t z).1 := by
  intro k
  induction k with
  | zero => intro t z h _; rw [gsR_0]; exact h
  | succ k ih => intro t z h h1; rw [gsR_s]; exact ih _ _ (gsT_wf h h1) (by rw [gsT_lo (by omega)]; exact h1)
theorem wfO_lo {t t' : Nat → Nat} (hO : wfO t) (hw : wfT t) (h : ∀ i, i < 9 → t' i = t i) : wfO t' := by
  have hH := hw.2.2.2.1
  have e2 := h 2 (by omega)
  refine ⟨fun i hi => ?_, fun i j hi hj q => ?_⟩
  · rw [e2] at hi ⊢
    rw [h _ (by omega)]
    exact hO.1 i hi
  · rw [e2] at hi hj
    rw [h _ (by omega), h _ (by omega)] at q
    exact hO.2 i j hi hj q
theorem nz4' : ¬ nI 4 = (0 : Int32) := by decide +kernel
theorem nz100 : ¬ nI 100 = (0 : Int32) := by decide +kernel
section GOS
variable {L : Nat} {sp : Nat → Int32}
theorem k_gos_l {N : Nat} (hN : N ≤ 12) : ∀ (k n : Nat) (t : Nat → Nat) (z : Int32) (M : Nat → Nat → Int32) (c : Nat) (v3 v4 : Value), n + k = N → rE M 2 t z sp → wfT t → 0 < t 1 → M 2 9 = nI c → ∃ M', R 91 37 [.ref 1, .int (nI N), .int (nI n), v3, v4] [] (SH L, M) = some (some (.int (nI (val (gsR k t z).1 0 (allT (gsR k t z).1)))), (SH L, M')) ∧ frc 2 6 M M' ∧ rE M' 2 (gsR k t z).1 (gsR k t z).2 sp ∧ M' 2 9 = nI (c + k) := by
  intro k
  induction k with
  | zero =>
    intro n t z M c v3 v4 hn hE hw h1 h9
    have hal := allT_lt hw
    rw [gsR_0]
    refine ⟨M, ?_, frc_rf, hE, h9⟩
    rw [r91_37]
    simp (disch := omega) only [r91_38, r91_39, r91_97, r91_98, r91_101, r91_102, r91_103, r91_106, r91_109, r91_112, Option.bind_some, vtl_some, vtl_none, hE.p, hE.h, b2_eq0, ite_not2, nz1, nz0, n1z, n0z, if_true, if_false, nI_le'', show N ≤ n from by omega, s_all isE_2 hE hw, s_vto isE_2 hE hw (show 0 < 4 by decide) hal.2]
  | succ k ih =>
    intro n t z M c v3 v4 hn hE hw h1 h9
    have hP := hw.2.1
    have m1 := Nat.mod_lt (dwN z) h1
    have m2 := Nat.mod_lt (dwN (zN z)) (show 0 < 4 by decide)
    have l1 := dwN_lt z
    have l2 := dwN_lt (zN z)
    have l3 := dwN_lt (zN (zN z))
    obtain ⟨M1, e1, f1, E1, n1⟩ := s_draw5 (L := L) isE_2 hE
    obtain ⟨M2, e2, f2, E2, n2⟩ := s_draw5 (L := L) isE_2 E1
    obtain ⟨M3, e3, f3, E3, n3⟩ := s_draw5 (L := L) isE_2 E2
    obtain ⟨M4, e4, f4, E4, n4⟩ := s_setTrait (L := L) isE_2 E3 hw (p := dwN z % t 1) (w := 4 + dwN (zN z) % 4) (v := dwN (zN (zN z)) % 100) m1 (by omega) (by omega)
    rw [n3, n2, n1, h9, nI_add] at n4
    obtain ⟨M5, e5, f5, E5, n5⟩ := ih (n + 1) (gsT t z) (gsZ z) M4 (c + 1) (.int (nI (dwN z % t 1))) (.int (nI (dwN (zN z) % 4))) (by omega) E4 (gsT_wf hw h1) (by rw [gsT_lo (by omega)]; exact h1) n4
    refine ⟨M5, ?_, frc_tr (frc_mo f1 (by omega) (by omega)) (frc_tr (frc_mo f2 (by omega) (by omega)) (frc_tr (frc_mo f3 (by omega) (by omega)) (frc_tr f4 f5))), by rw [gsR_s]; exact E5, by rw [n5]; congr 1; omega⟩
    rw [gsR_s]
    have hy : ¬ nI (t 1) = (0 : Int32) := by rw [nI_eq0 (by omega)]; omega
    rw [r91_37]
    simp (disch := omega) only [r91_38, r91_39, r91_42, r91_43, r91_46, r91_49, r91_50, r91_53, r91_57, r91_58, r91_59, r91_62, r91_65, r91_67, r91_69, r91_70, r91_73, r91_74, r91_75, r91_77, r91_78, r91_79, r91_82, r91_85, r91_88, r91_91, r91_56 hy, r91_66 nz4', r91_87 nz100, Option.bind_some, vtl_some, vtl_none, nI_le'', show ¬ N ≤ n from by omega, if_false, e1, e2, e3, E1.p, pk_rem, nI_add, e4]
    simp only [r91_94]
    exact e5
theorem q_gos_l {N : Nat} (hN : N ≤ 12) : ∀ (k n : Nat) (t : Nat → Nat) (z : Int32) (M : Nat → Nat → Int32) (v3 v4 : Value), n + k = N → rQ M 37 t z sp → wfT t → 0 < t 1 → ∃ M', R 194 37 [.ref 36, .int (nI N), .int (nI n), v3, v4] [] (SH L, M) = some (some (.int (nI (val (gsR k t z).1 0 (allT (gsR k t z).1)))), (SH L, M')) ∧ frc 37 37 M M' ∧ rQ M' 37 (gsR k t z).1 (gsR k t z).2 sp := by
  intro k
  induction k with
  | zero =>
    intro n t z M v3 v4 hn hq hw h1
    have hal := allT_lt hw
    have hs := hq.1
    rw [gsR_0]
    refine ⟨M, ?_, frc_rf, hq⟩
    rw [r194_37]
    simp (disch := omega) only [r194_38, r194_39, r194_88, r194_89, r194_90, r194_91, r194_94, r194_97, Option.bind_some, vtl_some, vtl_none, hs 1, hs 2, b2_eq0, ite_not2, nz1, nz0, n1z, n0z, if_true, if_false, nI_le'', show N ≤ n from by omega, s_everything hs hw, s_valueOf hs hw (show 0 < 4 by decide) hal.2]
  | succ k ih =>
    intro n t z M v3 v4 hn hq hw h1
    have hP := hw.2.1
    have m1 := Nat.mod_lt (dwN z) h1
    have m2 := Nat.mod_lt (dwN (zN z)) (show 0 < 4 by decide)
    have l1 := dwN_lt z
    have l2 := dwN_lt (zN z)
    have l3 := dwN_lt (zN (zN z))
    obtain ⟨M1, e1, f1, q1⟩ := q_draw (L := L) hq
    obtain ⟨M2, e2, f2, q2⟩ := q_draw (L := L) q1
    obtain ⟨M3, e3, f3, q3⟩ := q_draw (L := L) q2
    have q4 := rQ_up q3 (k := 9 + 8 * (dwN z % t 1) + (4 + dwN (zN z) % 4)) (v := dwN (zN (zN z)) % 100) (by omega) (by omega)
    obtain ⟨M5, e5, f5, q5⟩ := ih (n + 1) (gsT t z) (gsZ z) _ (.int (nI (dwN z % t 1))) (.int (nI (dwN (zN z) % 4))) (by omega) q4 (gsT_wf hw h1) (by rw [gsT_lo (by omega)]; exact h1)
    refine ⟨M5, ?_, frc_tr f1 (frc_tr f2 (frc_tr f3 (frc_tr (frc_up frc_rf (by omega) (by omega)) f5))), by rw [gsR_s]; exact q5⟩
    rw [gsR_s]
    have hy : ¬ nI (t 1) = (0 : Int32) := by rw [nI_eq0 (by omega)]; omega
    have o1 : M1 37 1 = nI (t 1) := q1.1 1 (by omega) (by omega)
    rw [r194_37]
    simp (disch := omega) only [r194_38, r194_39, r194_42, r194_43, r194_46, r194_47, r194_50, r194_51, r194_53, r194_54, r194_55, r194_58, r194_60, r194_62, r194_63, r194_66, r194_67, r194_68, r194_70, r194_71, r194_74, r194_75, r194_78, r194_81, r194_82, r194_52 hy, r194_59 nz4', r194_80 nz100, Option.bind_some, vtl_some, vtl_none, nI_le'', show ¬ N ≤ n from by omega, if_false, e1, e2, e3, o1, pk_rem, nI_add, s_at]
    simp only [r194_85]
    exact e5
end GOS
section AC3
variable {L : Nat} {M : Nat → Nat → Int32} {t : Nat → Nat} {z : Int32} {sp : Nat → Int32} {c : Nat}
theorem c_gossip (h : IV M t z sp c) (hcb : c < 49000000) (a : Int32) : OK L M c (fun M => R 91 0 [.ref 1, .int a, .null, .null, .null] [] (SH L, M)) (fun M => R 194 0 [.ref 36, .int a, .null, .null, .null] [] (SH L, M)) := by
  have hP := h.w.2.1
  have i4 : ∀ w : vW, R 123 0 [.long a.toInt64, .null, .long 1, .null, .long 12, .null] [] w = some (some (.int (if nI 1 ≤ a ∧ a ≤ nI 12 then nI 1 else nI 0)), w) := fun w => s_in32 (show (1 : Int64) = (nI 1).toInt64 from by decide +kernel) (show (12 : Int64) = (nI 12).toInt64 from by decide +kernel)
  by_cases h1 : nI 1 ≤ a ∧ a ≤ nI 12
  · obtain ⟨n, n1, n4, rfl⟩ := rng1 (by omega) h1.1 h1.2
    by_cases h2 : t 1 = 0
    · exact okF0 h (x := (-1000005)) (k := 4) (by simp (disch := omega) only [r91_0, r91_1, r91_2, r91_5, r91_6, r91_8, r91_11, r91_12, r91_14, r91_17, r91_18, r91_19, r91_22, r91_25, r91_28, r91_29, r91_31, r91_34, r91_35, r91_36, r91_37, r91_38, r91_39, r91_42, r91_43, r91_46, r91_49, r91_50, r91_53, r91_56, r91_57, r91_58, r91_59, r91_62, r91_65, r91_66, r91_67, r91_69, r91_70, r91_73, r91_74, r91_75, r91_77, r91_78, r91_79, r91_82, r91_85, r91_87, r91_88, r91_91, r91_94, r91_97, r91_98, r91_101, r91_102, r91_103, r91_106, r91_109, r91_112, Option.bind_some, vtl_some, vtl_none, s_within, s_isSet5 h.e h.w, h.e.p, h.e.h, h.od5, h.me4, b2_eq0, ite_not2, nz1, nz0, n1z, n0z, if_true, if_false, fd0, fd1, fd2, fd3, fd4, fd5, fd6, if_pos h1, if_pos h2, ite_rng1, nI_eq0]) (fun M1 hs => by simp (disch := omega) only [r194_0, r194_1, r194_2, r194_3, r194_6, r194_9, r194_12, r194_13, r194_15, r194_18, r194_19, r194_20, r194_23, r194_24, r194_25, r194_28, r194_29, r194_31, r194_34, r194_35, r194_36, r194_37, r194_38, r194_39, r194_42, r194_43, r194_46, r194_47, r194_50, r194_51, r194_52, r194_53, r194_54, r194_55, r194_58, r194_59, r194_60, r194_62, r194_63, r194_66, r194_67, r194_68, r194_70, r194_71, r194_74, r194_75, r194_78, r194_80, r194_81, r194_82, r194_85, r194_88, r194_89, r194_90, r194_91, r194_94, r194_97, Option.bind_some, vtl_some, vtl_none, s_isPart hs h.w, s_isHeir hs h.w, s_isSet6 hs h.w, s_isAny, s_isThing, s_isOne, b2_eq0, ite_not2, nz1, nz0, n1z, n0z, if_true, if_false, gd0, gd1, gd2, gd3, gd4, gd5, gd6, hs 1, hs 2, if_pos h1, if_pos h2, i4, nI_eq0])
    · obtain ⟨M1, e1, f1, E1, c1⟩ := k_gos_l (L := L) n4 n 0 t z M c .null .null (Nat.zero_add _) h.e h.w (by omega) h.cc
      have hw' := gsR_wf n t z h.w (by omega)
      have lo := gsR_lo n t z
      by_cases n0 : n = 0
      · omega
      refine okM h hcb (r := nI (val (gsR n t z).1 0 (allT (gsR n t z).1))) (c' := c + n) (by simp (disch := omega) only [r91_0, r91_1, r91_2, r91_5, r91_6, r91_8, r91_11, r91_12, r91_14, r91_17, r91_18, r91_19, r91_22, r91_25, r91_28, r91_29, r91_31, r91_34, r91_35, r91_36, Option.bind_some, vtl_some, vtl_none, s_within, s_isSet5 h.e h.w, h.e.p, h.e.h, h.od5, h.me4, b2_eq0, ite_not2, nz1, nz0, n1z, n0z, if_true, if_false, fd0, fd1, fd2, fd3, fd4, fd5, fd6, if_pos h1, if_neg h2, ite_rng1, nI_eq0, e1]) (fM_of f1 (by omega)) E1 c1 (by omega) (DI_bump h.d (fun b hb => f1 b (by omega)) (by omega)) hw' (wfO_lo h.o h.w lo) (wfSp_cg h.ws (lo 1 (by omega))) (fun hq => ?_)
      have hs := hq.1
      obtain ⟨M2, e2, f2, q2⟩ := q_gos_l (L := L) n4 n 0 t z M1 .null .null (Nat.zero_add _) hq h.w (by omega)
      exact ⟨M2, by simp (disch := omega) only [r194_0, r194_1, r194_2, r194_3, r194_6, r194_9, r194_12, r194_13, r194_15, r194_18, r194_19, r194_20, r194_23, r194_24, r194_25, r194_28, r194_29, r194_31, r194_34, r194_35, r194_36, Option.bind_some, vtl_some, vtl_none, s_isPart hs h.w, s_isHeir hs h.w, s_isSet6 hs h.w, s_isAny, s_isThing, s_isOne, b2_eq0, ite_not2, nz1, nz0, n1z, n0z, if_true, if_false, gd0, gd1, gd2, gd3, gd4, gd5, gd6, hs 1, hs 2, if_pos h1, if_neg h2, i4, nI_eq0, e2], fN_of f2 (by omega), q2⟩
  · exact okF0 h (x := (-1000001)) (k := 0) (by simp (disch := omega) only [r91_0, r91_1, r91_2, r91_5, r91_6, r91_8, r91_11, r91_12, r91_14, r91_17, r91_18, r91_19, r91_22, r91_25, r91_28, r91_29, r91_31, r91_34, r91_35, r91_36, r91_37, r91_38, r91_39, r91_42, r91_43, r91_46, r91_49, r91_50, r91_53, r91_56, r91_57, r91_58, r91_59, r91_62, r91_65, r91_66, r91_67, r91_69, r91_70, r91_73, r91_74, r91_75, r91_77, r91_78, r91_79, r91_82, r91_85, r91_87, r91_88, r91_91, r91_94, r91_97, r91_98, r91_101, r91_102, r91_103, r91_106, r91_109, r91_112, Option.bind_some, vtl_some, vtl_none, s_within, s_isSet5 h.e h.w, h.e.p, h.e.h, h.od5, h.me4, b2_eq0, ite_not2, nz1, nz0, n1z, n0z, if_true, if_false, fd0, fd1, fd2, fd3, fd4, fd5, fd6, if_neg h1, ite_rng1]) (fun M1 hs => by simp (disch := omega) only [r194_0, r194_1, r194_2, r194_3, r194_6, r194_9, r194_12, r194_13, r194_15, r194_18, r194_19, r194_20, r194_23, r194_24, r194_25, r194_28, r194_29, r194_31, r194_34, r194_35, r194_36, r194_37, r194_38, r194_39, r194_42, r194_43, r194_46, r194_47, r194_50, r194_51, r194_52, r194_53, r194_54, r194_55, r194_58, r194_59, r194_60, r194_62, r194_63, r194_66, r194_67, r194_68, r194_70, r194_71, r194_74, r194_75, r194_78, r194_80, r194_81, r194_82, r194_85, r194_88, r194_89, r194_90, r194_91, r194_94, r194_97, Option.bind_some, vtl_some, vtl_none, s_isPart hs h.w, s_isHeir hs h.w, s_isSet6 hs h.w, s_isAny, s_isThing, s_isOne, b2_eq0, ite_not2, nz1, nz0, n1z, n0z, if_true, if_false, gd0, gd1, gd2, gd3, gd4, gd5, gd6, hs 1, hs 2, if_neg h1, i4])
end AC3
