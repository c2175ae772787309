/-! Acts that change the estate -/
def fM (M M' : Nat → Nat → Int32) : Prop := ∀ b, (b < 2 ∨ (7 ≤ b ∧ b ≤ 16) ∨ b = 22 ∨ (24 ≤ b ∧ b ≤ 34) ∨ 36 ≤ b) → M' b = M b
def fN (M M' : Nat → Nat → Int32) : Prop := ∀ b, (b < 37 ∨ b = 38 ∨ b = 40 ∨ 48 < b) → M' b = M b
theorem fM_rf {M : Nat → Nat → Int32} : fM M M := fun _ _ => rfl
theorem fM_tr {M M1 M2 : Nat → Nat → Int32} (h1 : fM M M1) (h2 : fM M1 M2) : fM M M2 := fun b h => (h2 b h).trans (h1 b h)
theorem fM_of {M M' : Nat → Nat → Int32} {a b : Nat} (h : frc a b M M') (hd : (2 ≤ a ∧ b ≤ 6) ∨ (17 ≤ a ∧ b ≤ 21) ∨ (a = 23 ∧ b = 23) ∨ (a = 35 ∧ b = 35)) : fM M M' := fun k hk => h k (by omega)
theorem fN_rf {M : Nat → Nat → Int32} : fN M M := fun _ _ => rfl
theorem fN_tr {M M1 M2 : Nat → Nat → Int32} (h1 : fN M M1) (h2 : fN M1 M2) : fN M M2 := fun b h => (h2 b h).trans (h1 b h)
theorem fN_of {M M' : Nat → Nat → Int32} {a b : Nat} (h : frc a b M M') (hd : (a = 37 ∧ b = 37) ∨ (a = 39 ∧ b = 39) ∨ (41 ≤ a ∧ b ≤ 48)) : fN M M' := fun k hk => h k (by omega)
theorem DI_bump {M M' : Nat → Nat → Int32} {t t' : Nat → Nat} {c c' : Nat} (h : DI M t c) (hf : ∀ b, 17 ≤ b ∧ b ≤ 20 → M' b = M b) (hc : c < c') : DI M' t' c' := by
  obtain ⟨sn, cv, bt, r, h5, hsn, h6, hcv, h7, hbt, hr4, hr, -⟩ := h
  have e17 := hf 17 (by omega); have e20 := hf 20 (by omega)
  exact ⟨sn, cv, bt, r, by rw [e17]; exact h5, by omega, by rw [e17]; exact h6, hcv, by rw [e17]; exact h7, hbt, hr4, fun i hi => by rw [e20]; exact hr i hi, fun q => by omega⟩
section OKM
variable {L : Nat} {M : Nat → Nat → Int32} {t : Nat → Nat} {z : Int32} {sp : Nat → Int32} {c : Nat}
theorem okM (h : IV M t z sp c) (hcb : c < 49000000) {C Q : (Nat → Nat → Int32) → RES} {r : Int32} {M1 : Nat → Nat → Int32} {t' : Nat → Nat} {z' : Int32} {sp' : Nat → Int32} {c' : Nat} (hC : C M = some (some (.int r), (SH L, M1))) (f1 : fM M M1) (hE1 : rE M1 2 t' z' sp') (h9 : M1 2 9 = nI c') (hc : c' ≤ c + 12) (hD : DI M1 t' c') (hw' : wfT t') (hO' : wfO t') (hsp' : wfSp t' sp') (hQ : rQ M1 37 t z sp → ∃ M2, Q M1 = some (some (.int r), (SH L, M2)) ∧ fN M1 M2 ∧ rQ M2 37 t' z' sp') : OK L M c C Q := by
  obtain ⟨hw, hsp, hE, hq, ⟨hcc, hcb, -⟩, hF, hK, hT, hH⟩ := h
  obtain ⟨M2, e2, f2, q2⟩ := hQ (by unfold rQ; rw [f1 37 (by omega)]; exact hq)
  have g : ∀ b, (b < 2 ∨ (7 ≤ b ∧ b ≤ 16) ∨ b = 22 ∨ (24 ≤ b ∧ b ≤ 34) ∨ b = 36 ∨ b = 38 ∨ b = 40 ∨ 48 < b) → M2 b = M b := fun b hb => (f2 b (by omega)).trans (f1 b (by omega))
  have g1 : ∀ b, b < 37 → M2 b = M1 b := fun b hb => f2 b (by omega)
  refine ⟨r, M1, M2, hC, e2, t', z', sp', c', ⟨⟨hw', hO'⟩, hsp', rE_eq hE1 (fun k hk => g1 _ (by omega)), q2, ⟨by rw [g1 2 (by omega)]; exact h9, by omega, DI_frc hD (a := 37) (b := 48) (fun b hb => f2 b (by omega)) (by omega)⟩, fun i hi => by rw [g 34 (by omega), g 40 (by omega)]; exact hF i hi, RK_eq hK (g _ (by omega)) (by rw [g 36 (by omega)]) (fun b hb => g b (by omega)) (g _ (by omega)), RT_eq hT (by rw [g 24 (by omega)]) (by rw [g 36 (by omega)]) (g _ (by omega)) (g _ (by omega)), RH_eq hH (g _ (by omega)) (g _ (by omega)) (g _ (by omega)) (g _ (by omega)) (g _ (by omega)) (g _ (by omega))⟩, hc⟩
theorem IV.ws (h : IV M t z sp c) : wfSp t sp := h.2.1
theorem c_part (h : IV M t z sp c) (hcb : c < 49000000) (a b : Int32) : OK L M c (fun M => R 59 0 [.ref 1, .int a, .int b] [] (SH L, M)) (fun M => R 139 0 [.ref 36, .int a, .int b] [] (SH L, M)) := by
  have hP := h.w.2.1
  have i7 : ∀ w : vW, R 123 0 [.long a.toInt64, .null, .long 0, .null, .long 6, .null] [] w = some (some (.int (if rng a 7 then nI 1 else nI 0)), w) := fun w => s_inr (show 7 < 2 ^ 31 by decide) (show (6 : Int64) = lN 7 - 1 by decide +kernel)
  by_cases h1 : rng a 7
  · by_cases h2 : rng b 5
    · by_cases h3 : t 1 = 9
      · exact okF0 h (x := (-1000002)) (k := 1) (by simp (disch := omega) only [r59_0, r59_1, r59_3, r59_6, r59_9, r59_10, r59_11, r59_14, r59_17, r59_18, r59_20, r59_23, r59_24, r59_25, r59_28, r59_31, r59_33, r59_36, r59_37, r59_39, r59_42, r59_43, r59_44, r59_47, r59_48, r59_49, r59_52, Option.bind_some, vtl_some, vtl_none, s_within, s_isSet5 h.e h.w, h.e.p, h.e.h, h.od5, h.me4, b2_eq0, ite_not2, nz1, nz0, n1z, n0z, if_true, if_false, fd0, fd1, fd2, fd3, fd4, fd5, fd6, if_pos h1, if_pos h2, nI_lt', show ¬ t 1 < 9 from by omega]) (fun M1 hs => by simp (disch := omega) only [r139_0, r139_1, r139_2, r139_3, r139_6, r139_9, r139_12, r139_13, r139_16, r139_19, r139_20, r139_22, r139_25, r139_26, r139_27, r139_30, r139_31, r139_32, r139_34, r139_37, r139_38, r139_40, r139_43, r139_46, r139_47, r139_48, r139_49, r139_52, Option.bind_some, vtl_some, vtl_none, s_isPart hs h.w, s_isHeir hs h.w, s_isSet6 hs h.w, s_isAny, s_isThing, s_isOne, b2_eq0, ite_not2, nz1, nz0, n1z, n0z, if_true, if_false, gd0, gd1, gd2, gd3, gd4, gd5, gd6, hs 1, hs 2, if_pos h1, if_pos h2, i7, nI_eq', if_pos h3])
      · obtain ⟨k, hk, rfl⟩ := rng_of (by omega) h1
        obtain ⟨x, hx, rfl⟩ := rng_of (by omega) h2
        obtain ⟨M1, e1, f1, E1, n1⟩ := s_addPart (L := L) isE_2 h.e h.w (k := k) (show t 1 < 9 by omega) hx
        rw [h.cc, nI_add] at n1
        refine okM h hcb (r := nI (t 1)) (c' := c + 2) (by simp (disch := omega) only [r59_0, r59_1, r59_3, r59_6, r59_9, r59_10, r59_11, r59_14, r59_17, r59_18, r59_20, r59_23, r59_24, r59_25, r59_28, r59_31, r59_33, r59_36, r59_37, r59_39, r59_42, r59_43, r59_44, r59_47, r59_48, r59_49, r59_52, Option.bind_some, vtl_some, vtl_none, s_within, s_isSet5 h.e h.w, h.e.p, h.e.h, h.od5, h.me4, b2_eq0, ite_not2, nz1, nz0, n1z, n0z, if_true, if_false, fd0, fd1, fd2, fd3, fd4, fd5, fd6, if_pos h1, if_pos h2, nI_lt', show t 1 < 9 from by omega, e1]) (fM_of f1 (by omega)) E1 n1 (by omega) (DI_bump h.d (fun b hb => f1 b (by omega)) (by omega)) (addT_wf h.w (by omega) hk hx) (addT_O h.o h.w) (fun i hi => ?_) (fun hq => ?_)
        · rcases h.ws i hi with y | ⟨j, hj, y⟩
          · exact Or.inl y
          · exact Or.inr ⟨j, by rw [addT_1]; omega, y⟩
        · obtain ⟨M2, e2, f2, q2⟩ := q_newPart (L := L) hq (k := k) (x := x) (by omega)
          have hs := hq.1
          exact ⟨M2, by simp (disch := omega) only [r139_0, r139_1, r139_2, r139_3, r139_6, r139_9, r139_12, r139_13, r139_16, r139_19, r139_20, r139_22, r139_25, r139_26, r139_27, r139_30, r139_31, r139_32, r139_34, r139_37, r139_38, r139_40, r139_43, r139_46, r139_47, r139_48, r139_49, r139_52, Option.bind_some, vtl_some, vtl_none, s_isPart hs h.w, s_isHeir hs h.w, s_isSet6 hs h.w, s_isAny, s_isThing, s_isOne, b2_eq0, ite_not2, nz1, nz0, n1z, n0z, if_true, if_false, gd0, gd1, gd2, gd3, gd4, gd5, gd6, hs 1, hs 2, if_pos h1, if_pos h2, i7, nI_eq', if_neg h3, e2], fN_of f2 (by omega), q2⟩
    · exact okF0 h (x := (-1000001)) (k := 0) (by simp (disch := omega) only [r59_0, r59_1, r59_3, r59_6, r59_9, r59_10, r59_11, r59_14, r59_17, r59_18, r59_20, r59_23, r59_24, r59_25, r59_28, r59_31, r59_33, r59_36, r59_37, r59_39, r59_42, r59_43, r59_44, r59_47, r59_48, r59_49, r59_52, Option.bind_some, vtl_some, vtl_none, s_within, s_isSet5 h.e h.w, h.e.p, h.e.h, h.od5, h.me4, b2_eq0, ite_not2, nz1, nz0, n1z, n0z, if_true, if_false, fd0, fd1, fd2, fd3, fd4, fd5, fd6, if_pos h1, if_neg h2]) (fun M1 hs => by simp (disch := omega) only [r139_0, r139_1, r139_2, r139_3, r139_6, r139_9, r139_12, r139_13, r139_16, r139_19, r139_20, r139_22, r139_25, r139_26, r139_27, r139_30, r139_31, r139_32, r139_34, r139_37, r139_38, r139_40, r139_43, r139_46, r139_47, r139_48, r139_49, r139_52, Option.bind_some, vtl_some, vtl_none, s_isPart hs h.w, s_isHeir hs h.w, s_isSet6 hs h.w, s_isAny, s_isThing, s_isOne, b2_eq0, ite_not2, nz1, nz0, n1z, n0z, if_true, if_false, gd0, gd1, gd2, gd3, gd4, gd5, gd6, hs 1, hs 2, if_pos h1, if_neg h2, i7])
  · exact okF0 h (x := (-1000001)) (k := 0) (by simp (disch := omega) only [r59_0, r59_1, r59_3, r59_6, r59_9, r59_10, r59_11, r59_14, r59_17, r59_18, r59_20, r59_23, r59_24, r59_25, r59_28, r59_31, r59_33, r59_36, r59_37, r59_39, r59_42, r59_43, r59_44, r59_47, r59_48, r59_49, r59_52, Option.bind_some, vtl_some, vtl_none, s_within, s_isSet5 h.e h.w, h.e.p, h.e.h, h.od5, h.me4, b2_eq0, ite_not2, nz1, nz0, n1z, n0z, if_true, if_false, fd0, fd1, fd2, fd3, fd4, fd5, fd6, if_neg h1]) (fun M1 hs => by simp (disch := omega) only [r139_0, r139_1, r139_2, r139_3, r139_6, r139_9, r139_12, r139_13, r139_16, r139_19, r139_20, r139_22, r139_25, r139_26, r139_27, r139_30, r139_31, r139_32, r139_34, r139_37, r139_38, r139_40, r139_43, r139_46, r139_47, r139_48, r139_49, r139_52, Option.bind_some, vtl_some, vtl_none, s_isPart hs h.w, s_isHeir hs h.w, s_isSet6 hs h.w, s_isAny, s_isThing, s_isOne, b2_eq0, ite_not2, nz1, nz0, n1z, n0z, if_true, if_false, gd0, gd1, gd2, gd3, gd4, gd5, gd6, hs 1, hs 2, if_neg h1, i7])
/-- the most that a trait may be -/
def bmo : Nat → Nat
  | 0 => 6
  | 1 => 4
  | 2 => 9
  | 3 => 9
  | _ => 99
theorem s_mostOf {w : Nat} {W : vW} (hw : w < 8) : R 16 0 [.int (nI w)] [] W = some (some (.int (nI (bmo w))), W) := by
  have : w = 0 ∨ w = 1 ∨ w = 2 ∨ w = 3 ∨ 4 ≤ w := by omega
  rcases this with rfl | rfl | rfl | rfl | h
  · simp only [r16_0, r16_1_0, r16_1_1, r16_1_2, r16_1_3, r16_1_d, r16_32, r16_34, r16_35, r16_36, r16_37, r16_39, r16_40, r16_42, r16_43, r16_45]; rfl
  · simp only [r16_0, r16_1_0, r16_1_1, r16_1_2, r16_1_3, r16_1_d, r16_32, r16_34, r16_35, r16_36, r16_37, r16_39, r16_40, r16_42, r16_43, r16_45]; rfl
  · simp only [r16_0, r16_1_0, r16_1_1, r16_1_2, r16_1_3, r16_1_d, r16_32, r16_34, r16_35, r16_36, r16_37, r16_39, r16_40, r16_42, r16_43, r16_45]; rfl
  · simp only [r16_0, r16_1_0, r16_1_1, r16_1_2, r16_1_3, r16_1_d, r16_32, r16_34, r16_35, r16_36, r16_37, r16_39, r16_40, r16_42, r16_43, r16_45]; rfl
  · have e : bmo w = 99 := by
      have : w = 4 ∨ w = 5 ∨ w = 6 ∨ w = 7 := by omega
      rcases this with rfl | rfl | rfl | rfl <;> rfl
    rw [e, r16_0, r16_1_d (by rw [nI_toInt (by omega)]; omega)]
    simp only [r16_43, r16_45]
theorem ite_rng {α : Type} {x : Int32} {n : Nat} (hn : n < 2 ^ 30) {A B : α} : (if x < 0 then A else if x ≤ nI n then B else A) = if rng x (n + 1) then B else A := by
  by_cases h : rng x (n + 1)
  · rw [if_pos h]
    obtain ⟨k, hk, rfl⟩ := rng_of (by omega) h
    rw [if_neg (nI_pos (by omega)), if_pos (by rw [nI_le'' (by omega) (by omega)]; omega)]
  · rw [if_neg h]
    by_cases q : x < 0
    · rw [if_pos q]
    · rw [if_neg q, if_neg (fun z => h (le_rng hn q z))]
theorem s_isFigure {w : Nat} {v : Int32} {W : vW} (hw : w < 8) : R 141 0 [.int (nI w), .int v] [] W = some (some (.int (if rng v (bmo w + 1) then nI 1 else nI 0)), W) := by
  have : w = 0 ∨ w = 1 ∨ w = 2 ∨ w = 3 ∨ 4 ≤ w := by omega
  rcases this with rfl | rfl | rfl | rfl | h
  · simp only [r141_0, r141_1_0, r141_1_1, r141_1_2, r141_1_3, r141_1_d, r141_32, r141_33, r141_34, r141_35, r141_38, r141_41_0, r141_41_1, r141_42, r141_43, r141_46_0, r141_46_1, r141_47, r141_48, r141_49, r141_50, r141_53, r141_56_0, r141_56_1, r141_57, r141_58, r141_59, r141_62, r141_65, r141_68, r141_71, r141_72, r141_73, r141_74, r141_77, r141_80, r141_83, r141_84, r141_87, r141_88_0, r141_88_1, s_inr (show 7 < 2 ^ 31 by decide) (show (6 : Int64) = lN 7 - 1 by decide +kernel), Option.bind_some, vtl_some]
    simp only [um_R, r141_41_0, r141_41_1, mg_s]
    rfl
  · simp only [r141_0, r141_1_0, r141_1_1, r141_1_2, r141_1_3, r141_1_d, r141_32, r141_33, r141_34, r141_35, r141_38, r141_41_0, r141_41_1, r141_42, r141_43, r141_46_0, r141_46_1, r141_47, r141_48, r141_49, r141_50, r141_53, r141_56_0, r141_56_1, r141_57, r141_58, r141_59, r141_62, r141_65, r141_68, r141_71, r141_72, r141_73, r141_74, r141_77, r141_80, r141_83, r141_84, r141_87, r141_88_0, r141_88_1, s_isThing, Option.bind_some, vtl_some]
    simp only [um_R, r141_46_0, r141_46_1, mg_s]
    rfl
  · simp only [r141_0, r141_1_0, r141_1_1, r141_1_2, r141_1_3, r141_1_d, r141_32, r141_33, r141_34, r141_35, r141_38, r141_41_0, r141_41_1, r141_42, r141_43, r141_46_0, r141_46_1, r141_47, r141_48, r141_49, r141_50, r141_53, r141_56_0, r141_56_1, r141_57, r141_58, r141_59, r141_62, r141_65, r141_68, r141_71, r141_72, r141_73, r141_74, r141_77, r141_80, r141_83, r141_84, r141_87, r141_88_0, r141_88_1, s_inr (show 10 < 2 ^ 31 by decide) (show (9 : Int64) = lN 10 - 1 by decide +kernel), Option.bind_some, vtl_some]
    simp only [um_R, r141_56_0, r141_56_1, mg_s]
    rfl
  · simp only [r141_0, r141_1_0, r141_1_1, r141_1_2, r141_1_3, r141_1_d, r141_32, r141_33, r141_34, r141_35, r141_38, r141_41_0, r141_41_1, r141_42, r141_43, r141_46_0, r141_46_1, r141_47, r141_48, r141_49, r141_50, r141_53, r141_56_0, r141_56_1, r141_57, r141_58, r141_59, r141_62, r141_65, r141_68, r141_71, r141_72, r141_73, r141_74, r141_77, r141_80, r141_83, r141_84, r141_87, r141_88_0, r141_88_1, s_inr (show 10 < 2 ^ 31 by decide) (show (9 : Int64) = lN 10 - 1 by decide +kernel), Option.bind_some, vtl_some]
    simp only [um_R, r141_56_0, r141_56_1, mg_s]
    rfl
  · have e : bmo w = 99 := by
      have : w = 4 ∨ w = 5 ∨ w = 6 ∨ w = 7 := by omega
      rcases this with rfl | rfl | rfl | rfl <;> rfl
    have c4 : (nI 4 ≤ nI w ∧ nI w ≤ nI 7) = True := by
      rw [nI_le'' (by omega) (by omega), nI_le'' (by omega) (by omega)]
      exact eq_true ⟨h, by omega⟩
    rw [e, r141_0, r141_1_d (by rw [nI_toInt (by omega)]; omega)]
    simp only [r141_57, r141_58, r141_59, r141_62, r141_65, s_in32 (lo := nI 4) (hi := nI 7) (show (4 : Int64) = (nI 4).toInt64 from by decide +kernel) (show (7 : Int64) = (nI 7).toInt64 from by decide +kernel), c4, if_true, Option.bind_some, vtl_some]
    simp only [r141_68, r141_71, r141_72, r141_73, r141_74, r141_77, r141_80, r141_83, r141_84, r141_87, r141_88_0, r141_88_1, nz1, if_false, s_inr (show 100 < 2 ^ 31 by decide) (show (99 : Int64) = lN 100 - 1 by decide +kernel), Option.bind_some, vtl_some, b2_eq0, ite_not2, mg_s]
theorem s_isFig0 {w v : Int32} {W : vW} (h : ¬ rng w 8) : R 141 0 [.int w, .int v] [] W = some (some (.int (nI 0)), W) := by
  have hx : w.toInt < 0 ∨ 3 < w.toInt := by
    unfold rng at h
    omega
  have c4 : (nI 4 ≤ w ∧ w ≤ nI 7) = False := by
    rw [Int32.le_iff_toInt_le, Int32.le_iff_toInt_le, nI_toInt (by omega), nI_toInt (by omega)]
    unfold rng at h
    exact eq_false (fun z => h ⟨by omega, by omega⟩)
  rw [r141_0, r141_1_d hx]
  simp only [r141_57, r141_58, r141_59, r141_62, r141_65, s_in32 (lo := nI 4) (hi := nI 7) (show (4 : Int64) = (nI 4).toInt64 from by decide +kernel) (show (7 : Int64) = (nI 7).toInt64 from by decide +kernel), c4, if_false, Option.bind_some, vtl_some]
  simp only [r141_68, r141_71, r141_72, r141_73, r141_74, r141_77, r141_80, r141_83, r141_84, r141_87, r141_88_0, r141_88_1, nz0, if_true]
theorem ut_wf (hw : wfT t) {p w v : Nat} (hp : p < 9) (hw8 : w < 8) (hv : v ≤ bmo w) : wfT (ut t (9 + 8 * p + w) v) := by
  obtain ⟨a, b, c1, c2, d, f, g⟩ := hw
  refine ⟨by rw [ut_ne (by omega)]; exact a, by rw [ut_ne (by omega)]; exact b, by rw [ut_ne (by omega)]; exact c1, by rw [ut_ne (by omega)]; exact c2, by rw [ut_ne (by omega)]; exact d, fun q hq => ?_, fun i hi => by rw [ut_ne (by omega)]; exact g i hi⟩
  obtain ⟨f1, f2, f3, f4, f5⟩ := f q hq
  have key : ∀ u, u < 8 → t (9 + 8 * q + u) ≤ bmo u → ut t (9 + 8 * p + w) v (9 + 8 * q + u) ≤ bmo u := fun u hu hb => by
    by_cases e : 9 + 8 * q + u = 9 + 8 * p + w
    · have : u = w := by omega
      subst this
      rw [e, ut_eq]
      exact hv
    · rw [ut_ne e]; exact hb
  have b4 : ∀ h, h < 4 → bmo (4 + h) = 99 := fun h hh => by
    have : h = 0 ∨ h = 1 ∨ h = 2 ∨ h = 3 := by omega
    rcases this with rfl | rfl | rfl | rfl <;> rfl
  refine ⟨?_, ?_, key 2 (by omega) f3, key 3 (by omega) f4, fun h hh => ?_⟩
  · have := key 0 (by omega) (show t (9 + 8 * q + 0) ≤ 6 by have : t (9 + 8 * q + 0) < 7 := f1; omega)
    show ut t (9 + 8 * p + w) v (9 + 8 * q + 0) < 7
    have : ut t (9 + 8 * p + w) v (9 + 8 * q + 0) ≤ 6 := this
    omega
  · have := key 1 (by omega) (show t (9 + 8 * q + 1) ≤ 4 by have : t (9 + 8 * q + 1) < 5 := f2; omega)
    show ut t (9 + 8 * p + w) v (9 + 8 * q + 1) < 5
    have : ut t (9 + 8 * p + w) v (9 + 8 * q + 1) ≤ 4 := this
    omega
  · have := key (4 + h) (by omega) (by rw [b4 h hh]; exact f5 h hh)
    rw [b4 h hh] at this
    exact this
theorem ut_O (hO : wfO t) (hw : wfT t) {k v : Nat} (hk : k < 2 ∨ k = 3 ∨ k = 4 ∨ 9 ≤ k) : wfO (ut t k v) := by
  have hH := hw.2.2.2.1
  have e2 : ut t k v 2 = t 2 := ut_ne (by omega)
  have eo : ∀ i, i < 4 → ut t k v (5 + i) = t (5 + i) := fun i hi => ut_ne (by omega)
  refine ⟨fun i hi => ?_, fun i j hi hj h => ?_⟩
  · rw [e2] at hi ⊢
    rw [eo i (by omega)]
    exact hO.1 i hi
  · rw [e2] at hi hj
    rw [eo i (by omega), eo j (by omega)] at h
    exact hO.2 i j hi hj h
theorem wfSp_cg {t' : Nat → Nat} (h : wfSp t sp) (e : t' 1 = t 1) : wfSp t' sp := by
  unfold wfSp
  rw [e]
  exact h
theorem c_change (h : IV M t z sp c) (hcb : c < 49000000) (a b d : Int32) : OK L M c (fun M => R 61 0 [.ref 1, .int a, .int b, .int d, .null] [] (SH L, M)) (fun M => R 142 0 [.ref 36, .int a, .int b, .int d, .null] [] (SH L, M)) := by
  have hP := h.w.2.1
  by_cases h1 : rng a (t 1)
  · by_cases h2 : rng b 8
    · obtain ⟨p, hp, rfl⟩ := rng_of (by omega) h1
      obtain ⟨w, hw, rfl⟩ := rng_of (by omega) h2
      have hb : bmo w ≤ 99 := by unfold bmo; split <;> omega
      by_cases h3 : rng d (bmo w + 1)
      · obtain ⟨v, hv, rfl⟩ := rng_of (by omega) h3
        have hb1 : w = 1 → v < 5 := fun e => by subst e; exact hv
        obtain ⟨M1, e1, f1, E1, n1⟩ := s_setTrait (L := L) isE_2 h.e h.w (v := v) hp hw hb1
        rw [h.cc, nI_add] at n1
        refine okM h hcb (r := nI (t (9 + 8 * p + w))) (c' := c + 1) (by simp (disch := omega) only [r61_0, r61_1, r61_2, r61_5, r61_8, r61_11, r61_14, r61_15, r61_17, r61_20, r61_23, r61_24, r61_27, r61_28, r61_29, r61_32, r61_35, r61_36, r61_38, r61_41, r61_42, r61_43, r61_46, r61_47, r61_48, r61_51, r61_53, r61_54, r61_57, r61_58, r61_59, r61_60, r61_63, r61_65, Option.bind_some, vtl_some, vtl_none, s_within, s_isSet5 h.e h.w, h.e.p, h.e.h, h.od5, h.me4, b2_eq0, ite_not2, nz1, nz0, n1z, n0z, if_true, if_false, fd0, fd1, fd2, fd3, fd4, fd5, fd6, if_pos h1, if_pos h2, if_pos h3, s_mostOf hw, ite_rng (show bmo w < 2 ^ 30 by omega), s_trait isE_2, h.e.tr p hp w hw, e1]) (fM_of f1 (by omega)) E1 n1 (by omega) (DI_bump h.d (fun b hb => f1 b (by omega)) (by omega)) (ut_wf h.w (by omega) hw (by omega)) (ut_O h.o h.w (by omega)) (wfSp_cg h.ws (ut_ne (by omega))) (fun hq => ?_)
        have hs := hq.1
        exact ⟨_, by simp (disch := omega) only [r142_0, r142_1, r142_2, r142_5, r142_8, r142_9, r142_10, r142_13, r142_16, r142_17, r142_19, r142_22, r142_23, r142_24, r142_25, r142_26, r142_29, r142_31, r142_32, r142_35, r142_36, r142_37, r142_40, r142_41, r142_42, r142_44, Option.bind_some, vtl_some, vtl_none, s_isPart hs h.w, s_isHeir hs h.w, s_isSet6 hs h.w, s_isAny, s_isThing, s_isOne, b2_eq0, ite_not2, nz1, nz0, n1z, n0z, if_true, if_false, gd0, gd1, gd2, gd3, gd4, gd5, gd6, hs 1, hs 2, if_pos h1, if_pos h3, s_isFigure hw, s_its, hs (9 + 8 * p + w), s_at], fN_of (frc_up frc_rf (by omega) (by omega)) (a := 37) (b := 37) (by omega), rQ_up hq (by omega) (by omega)⟩
      · exact okF0 h (x := (-1000001)) (k := 0) (by simp (disch := omega) only [r61_0, r61_1, r61_2, r61_5, r61_8, r61_11, r61_14, r61_15, r61_17, r61_20, r61_23, r61_24, r61_27, r61_28, r61_29, r61_32, r61_35, r61_36, r61_38, r61_41, r61_42, r61_43, r61_46, r61_47, r61_48, r61_51, r61_53, r61_54, r61_57, r61_58, r61_59, r61_60, r61_63, r61_65, Option.bind_some, vtl_some, vtl_none, s_within, s_isSet5 h.e h.w, h.e.p, h.e.h, h.od5, h.me4, b2_eq0, ite_not2, nz1, nz0, n1z, n0z, if_true, if_false, fd0, fd1, fd2, fd3, fd4, fd5, fd6, if_pos h1, if_pos h2, if_neg h3, s_mostOf hw, ite_rng (show bmo w < 2 ^ 30 by omega)]) (fun M1 hs => by simp (disch := omega) only [r142_0, r142_1, r142_2, r142_5, r142_8, r142_9, r142_10, r142_13, r142_16, r142_17, r142_19, r142_22, r142_23, r142_24, r142_25, r142_26, r142_29, r142_31, r142_32, r142_35, r142_36, r142_37, r142_40, r142_41, r142_42, r142_44, Option.bind_some, vtl_some, vtl_none, s_isPart hs h.w, s_isHeir hs h.w, s_isSet6 hs h.w, s_isAny, s_isThing, s_isOne, b2_eq0, ite_not2, nz1, nz0, n1z, n0z, if_true, if_false, gd0, gd1, gd2, gd3, gd4, gd5, gd6, hs 1, hs 2, if_pos h1, if_pos h2, if_neg h3, s_isFigure hw])
    · exact okF0 h (x := (-1000001)) (k := 0) (by simp (disch := omega) only [r61_0, r61_1, r61_2, r61_5, r61_8, r61_11, r61_14, r61_15, r61_17, r61_20, r61_23, r61_24, r61_27, r61_28, r61_29, r61_32, r61_35, r61_36, r61_38, r61_41, r61_42, r61_43, r61_46, r61_47, r61_48, r61_51, r61_53, r61_54, r61_57, r61_58, r61_59, r61_60, r61_63, r61_65, Option.bind_some, vtl_some, vtl_none, s_within, s_isSet5 h.e h.w, h.e.p, h.e.h, h.od5, h.me4, b2_eq0, ite_not2, nz1, nz0, n1z, n0z, if_true, if_false, fd0, fd1, fd2, fd3, fd4, fd5, fd6, if_pos h1, if_neg h2]) (fun M1 hs => by simp (disch := omega) only [r142_0, r142_1, r142_2, r142_5, r142_8, r142_9, r142_10, r142_13, r142_16, r142_17, r142_19, r142_22, r142_23, r142_24, r142_25, r142_26, r142_29, r142_31, r142_32, r142_35, r142_36, r142_37, r142_40, r142_41, r142_42, r142_44, Option.bind_some, vtl_some, vtl_none, s_isPart hs h.w, s_isHeir hs h.w, s_isSet6 hs h.w, s_isAny, s_isThing, s_isOne, b2_eq0, ite_not2, nz1, nz0, n1z, n0z, if_true, if_false, gd0, gd1, gd2, gd3, gd4, gd5, gd6, hs 1, hs 2, if_pos h1, if_neg h2, s_isFig0 h2])
  · exact okF0 h (x := (-1000001)) (k := 0) (by simp (disch := omega) only [r61_0, r61_1, r61_2, r61_5, r61_8, r61_11, r61_14, r61_15, r61_17, r61_20, r61_23, r61_24, r61_27, r61_28, r61_29, r61_32, r61_35, r61_36, r61_38, r61_41, r61_42, r61_43, r61_46, r61_47, r61_48, r61_51, r61_53, r61_54, r61_57, r61_58, r61_59, r61_60, r61_63, r61_65, Option.bind_some, vtl_some, vtl_none, s_within, s_isSet5 h.e h.w, h.e.p, h.e.h, h.od5, h.me4, b2_eq0, ite_not2, nz1, nz0, n1z, n0z, if_true, if_false, fd0, fd1, fd2, fd3, fd4, fd5, fd6, if_neg h1]) (fun M1 hs => by simp (disch := omega) only [r142_0, r142_1, r142_2, r142_5, r142_8, r142_9, r142_10, r142_13, r142_16, r142_17, r142_19, r142_22, r142_23, r142_24, r142_25, r142_26, r142_29, r142_31, r142_32, r142_35, r142_36, r142_37, r142_40, r142_41, r142_42, r142_44, Option.bind_some, vtl_some, vtl_none, s_isPart hs h.w, s_isHeir hs h.w, s_isSet6 hs h.w, s_isAny, s_isThing, s_isOne, b2_eq0, ite_not2, nz1, nz0, n1z, n0z, if_true, if_false, gd0, gd1, gd2, gd3, gd4, gd5, gd6, hs 1, hs 2, if_neg h1])
theorem wfT_of (hw : wfT t) {t' : Nat → Nat} (h0 : t' 0 ≤ 99) (h1 : t' 1 = t 1) (h2 : 1 ≤ t' 2 ∧ t' 2 ≤ 4) (h3 : t' 3 < 16) (h9 : ∀ i, 9 ≤ i → t' i = t i) (ho : ∀ i, i < 4 → t' (5 + i) < 4) : wfT t' := by
  obtain ⟨a, b, c1, c2, d, f, g⟩ := hw
  refine ⟨h0, by rw [h1]; exact b, h2.1, h2.2, h3, fun p hp => ?_, ho⟩
  obtain ⟨f1, f2, f3, f4, f5⟩ := f p hp
  exact ⟨by show t' (9 + 8 * p + 0) < 7; rw [h9 _ (by omega)]; exact f1, by show t' (9 + 8 * p + 1) < 5; rw [h9 _ (by omega)]; exact f2, by rw [h9 _ (by omega)]; exact f3, by rw [h9 _ (by omega)]; exact f4, fun h hh => by show t' (9 + 8 * p + (4 + h)) ≤ 99; rw [h9 _ (by omega)]; exact f5 h hh⟩
theorem c_knows (h : IV M t z sp c) (hcb : c < 49000000) (a : Int32) (b : Bool) : OK L M c (fun M => R 63 0 [.ref 1, .int a, .int (nI (if b = true then 1 else 0)), .null] [] (SH L, M)) (fun M => R 145 0 [.ref 36, .int a, .int (nI (if b = true then 1 else 0)), .null] [] (SH L, M)) := by
  have hk := h.w.2.2.2.2.1
  by_cases h1 : rng a 4
  · obtain ⟨x, hx, rfl⟩ := rng_of (by omega) h1
    obtain ⟨M1, e1, f1, E1, n1⟩ := s_setKnows (L := L) isE_2 h.e hx (b := b)
    rw [h.cc, nI_add] at n1
    have hl : (if b = true then t 3 ||| 2 ^ x else dif (t 3) (2 ^ x)) < 16 := by
      split
      · exact Nat.or_lt_two_pow (n := 4) hk (Nat.pow_lt_pow_right (by decide) hx : 2 ^ x < 2 ^ 4)
      · exact Nat.lt_of_le_of_lt (dif_le _ _) hk
    have eb : nI (t 3) >>> (nI x &&& 31) &&& nI 1 = nI (if (t 3).testBit x = true then 1 else 0) := by
      rw [nI_shr (by omega) (by omega), nI_and, Nat.and_one_is_mod]
      congr 1
      have := bit_iff (t 3) x
      rw [Nat.and_one_is_mod] at this
      by_cases q : (t 3).testBit x = true
      · rw [if_pos q, this]; exact q
      · rw [if_neg q]
        have : ¬ t 3 / 2 ^ x % 2 = 1 := by rw [this]; exact q
        omega
    have hw' : wfT (ut t 3 (if b = true then t 3 ||| 2 ^ x else dif (t 3) (2 ^ x))) := by
      refine wfT_of h.w (by rw [ut_ne (by omega)]; exact h.w.1) (ut_ne (by omega)) (by rw [ut_ne (by omega)]; exact ⟨h.w.2.2.1, h.w.2.2.2.1⟩) (by rw [ut_eq]; exact hl) (fun i hi => ut_ne (by omega)) (fun i hi => by rw [ut_ne (by omega)]; exact h.w.2.2.2.2.2.2 i hi)
    refine okM h hcb (r := nI (if (t 3).testBit x = true then 1 else 0)) (c' := c + 1) (by simp (disch := omega) only [r63_0, r63_1, r63_2, r63_5, r63_8, r63_9, r63_11, r63_14, r63_15, r63_16, r63_19, r63_22, r63_23, r63_24, r63_25, r63_26, r63_27, r63_28, r63_31, r63_32, r63_33, r63_36, r63_37, Option.bind_some, vtl_some, vtl_none, s_within, s_isSet5 h.e h.w, h.e.p, h.e.h, h.od5, h.me4, b2_eq0, ite_not2, nz1, nz0, n1z, n0z, if_true, if_false, fd0, fd1, fd2, fd3, fd4, fd5, fd6, if_pos h1, h.e.k, eb, e1]) (fM_of f1 (by omega)) E1 n1 (by omega) (DI_bump h.d (fun b hb => f1 b (by omega)) (by omega)) hw' (ut_O h.o h.w (by omega)) (wfSp_cg h.ws (ut_ne (by omega))) (fun hq => ?_)
    have hs := hq.1
    refine ⟨_, ?_, fN_of (frc_up frc_rf (by omega) (by omega)) (a := 37) (b := 37) (by omega), rQ_up hq (k := 3) (v := if b = true then t 3 ||| 2 ^ x else dif (t 3) (2 ^ x)) (by omega) (by omega)⟩
    by_cases q : (t 3).testBit x = true
    · cases b with
      | true => simp (disch := omega) only [r145_0, r145_1, r145_4, r145_7, r145_8, r145_10, r145_13, r145_14, r145_15, r145_18, r145_19, r145_20, r145_21, r145_22, r145_25, r145_26, r145_27, r145_30, r145_31, r145_32, r145_33, r145_34, r145_35, r145_38, r145_39, r145_40, r145_41, r145_42, r145_43, r145_44, r145_45, r145_46, r145_47, r145_48, r145_51, r145_54, r145_55, r145_58, r145_59, Option.bind_some, vtl_some, vtl_none, s_isPart hs h.w, s_isHeir hs h.w, s_isSet6 hs h.w, s_isAny, s_isThing, s_isOne, b2_eq0, ite_not2, nz1, nz0, n1z, n0z, if_true, if_false, gd0, gd1, gd2, gd3, gd4, gd5, gd6, hs 1, hs 2, if_pos h1, if_pos q, hs 3, nI_shl1, nI_or, s_has]
      | false => simp (disch := omega) only [r145_0, r145_1, r145_4, r145_7, r145_8, r145_10, r145_13, r145_14, r145_15, r145_18, r145_19, r145_20, r145_21, r145_22, r145_25, r145_26, r145_27, r145_30, r145_31, r145_32, r145_33, r145_34, r145_35, r145_38, r145_39, r145_40, r145_41, r145_42, r145_43, r145_44, r145_45, r145_46, r145_47, r145_48, r145_51, r145_54, r145_55, r145_58, r145_59, Option.bind_some, vtl_some, vtl_none, s_isPart hs h.w, s_isHeir hs h.w, s_isSet6 hs h.w, s_isAny, s_isThing, s_isOne, b2_eq0, ite_not2, nz1, nz0, n1z, n0z, if_true, if_false, gd0, gd1, gd2, gd3, gd4, gd5, gd6, hs 1, hs 2, if_pos h1, if_pos q, Bool.false_eq_true, hs 3, nI_shl1, nI_dif, s_has]
    · cases b with
      | true => simp (disch := omega) only [r145_0, r145_1, r145_4, r145_7, r145_8, r145_10, r145_13, r145_14, r145_15, r145_18, r145_19, r145_20, r145_21, r145_22, r145_25, r145_26, r145_27, r145_30, r145_31, r145_32, r145_33, r145_34, r145_35, r145_38, r145_39, r145_40, r145_41, r145_42, r145_43, r145_44, r145_45, r145_46, r145_47, r145_48, r145_51, r145_54, r145_55, r145_58, r145_59, Option.bind_some, vtl_some, vtl_none, s_isPart hs h.w, s_isHeir hs h.w, s_isSet6 hs h.w, s_isAny, s_isThing, s_isOne, b2_eq0, ite_not2, nz1, nz0, n1z, n0z, if_true, if_false, gd0, gd1, gd2, gd3, gd4, gd5, gd6, hs 1, hs 2, if_pos h1, if_neg q, hs 3, nI_shl1, nI_or, s_has]
      | false => simp (disch := omega) only [r145_0, r145_1, r145_4, r145_7, r145_8, r145_10, r145_13, r145_14, r145_15, r145_18, r145_19, r145_20, r145_21, r145_22, r145_25, r145_26, r145_27, r145_30, r145_31, r145_32, r145_33, r145_34, r145_35, r145_38, r145_39, r145_40, r145_41, r145_42, r145_43, r145_44, r145_45, r145_46, r145_47, r145_48, r145_51, r145_54, r145_55, r145_58, r145_59, Option.bind_some, vtl_some, vtl_none, s_isPart hs h.w, s_isHeir hs h.w, s_isSet6 hs h.w, s_isAny, s_isThing, s_isOne, b2_eq0, ite_not2, nz1, nz0, n1z, n0z, if_true, if_false, gd0, gd1, gd2, gd3, gd4, gd5, gd6, hs 1, hs 2, if_pos h1, if_neg q, Bool.false_eq_true, hs 3, nI_shl1, nI_dif, s_has]
  · exact okF0 h (x := (-1000001)) (k := 0) (by simp (disch := omega) only [r63_0, r63_1, r63_2, r63_5, r63_8, r63_9, r63_11, r63_14, r63_15, r63_16, r63_19, r63_22, r63_23, r63_24, r63_25, r63_26, r63_27, r63_28, r63_31, r63_32, r63_33, r63_36, r63_37, Option.bind_some, vtl_some, vtl_none, s_within, s_isSet5 h.e h.w, h.e.p, h.e.h, h.od5, h.me4, b2_eq0, ite_not2, nz1, nz0, n1z, n0z, if_true, if_false, fd0, fd1, fd2, fd3, fd4, fd5, fd6, if_neg h1]) (fun M1 hs => by simp (disch := omega) only [r145_0, r145_1, r145_4, r145_7, r145_8, r145_10, r145_13, r145_14, r145_15, r145_18, r145_19, r145_20, r145_21, r145_22, r145_25, r145_26, r145_27, r145_30, r145_31, r145_32, r145_33, r145_34, r145_35, r145_38, r145_39, r145_40, r145_41, r145_42, r145_43, r145_44, r145_45, r145_46, r145_47, r145_48, r145_51, r145_54, r145_55, r145_58, r145_59, Option.bind_some, vtl_some, vtl_none, s_isPart hs h.w, s_isHeir hs h.w, s_isSet6 hs h.w, s_isAny, s_isThing, s_isOne, b2_eq0, ite_not2, nz1, nz0, n1z, n0z, if_true, if_false, gd0, gd1, gd2, gd3, gd4, gd5, gd6, hs 1, hs 2, if_neg h1])
end OKM
