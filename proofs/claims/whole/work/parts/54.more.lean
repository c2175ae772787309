/-! best, common, judge -/
theorem le_rng {b : Int32} {n : Nat} (hn : n < 2 ^ 30) (h1 : ¬ b < 0) (h2 : b ≤ nI n) : rng b (n + 1) := by
  rw [Int32.lt_iff_toInt_lt, Int32.toInt_zero] at h1
  rw [Int32.le_iff_toInt_le, nI_toInt (by omega)] at h2
  exact ⟨by omega, by omega⟩
section OKC
variable {L : Nat} {M : Nat → Nat → Int32} {t : Nat → Nat} {z : Int32} {sp : Nat → Int32} {c : Nat}
theorem okVc (h : IV M t z sp c) {C Q : (Nat → Nat → Int32) → RES} {r : Int32} {M1 : Nat → Nat → Int32} (hC : C M = some (some (.int r), (SH L, M1))) (f1 : fC M M1) (d : DI M1 t c) (s1 : M1 34 = M 34) (hQ : rS M1 t → ∃ M2, Q M1 = some (some (.int r), (SH L, M2)) ∧ fR M1 M2 ∧ M2 40 = M1 40) : OK L M c C Q := by
  obtain ⟨M2, e2, f2, s2⟩ := hQ (rS_fC h.s f1)
  refine ⟨r, M1, M2, hC, e2, t, z, sp, c, IV_q h f1 d f2 (fun i hi => ?_), by omega⟩
  rw [s2, f2 34 (by omega), f1 40 (by omega), s1]
  exact h.f i hi
theorem okFc (h : IV M t z sp c) {C Q : (Nat → Nat → Int32) → RES} {x : Int32} {k : Nat} (hC : C M = some (some (.int x), (SH L, upd2 M 34 k (M 34 k + nI 1)))) (hQ : ∀ M1, (∀ b, b ≠ 34 → M1 b = M b) → rS M1 t → Q M1 = some (some (.int x), (SH L, upd2 M1 40 k (M1 40 k + nI 1)))) : OK L M c C Q := by
  have fr : ∀ b, b ≠ 34 → upd2 M 34 k (M 34 k + nI 1) b = M b := fun b hb => by funext j; exact upd2_ne (Or.inl hb)
  have f1 : fC M (upd2 M 34 k (M 34 k + nI 1)) := fun b hb => fr b (by omega)
  have e2 := hQ _ fr (rS_fC h.s f1)
  refine ⟨x, _, _, hC, e2, t, z, sp, c, IV_q h f1 (DI_frc h.d (a := 34) (b := 34) (fun b hb => fr b (by omega)) (by omega)) (fR_of (frc_up frc_rf (by omega) (by omega)) (a := 40) (b := 40) (by omega)) (fun i hi => ?_), by omega⟩
  by_cases q : i = k
  · subst q
    rw [upd2_ne (Or.inl (by omega)), upd2_eq, upd2_eq, fr 40 (by omega), h.f i hi]
  · rw [upd2_ne (Or.inl (by omega)), upd2_ne (Or.inr q), upd2_ne (Or.inr q), fr 40 (by omega)]
    exact h.f i hi
theorem IV_s (h : IV M t z sp c) {M1 : Nat → Nat → Int32} (f1 : fC M M1) (d : DI M1 t c) (s1 : M1 34 = M 34) : IV M1 t z sp c := IV_q h f1 d fR_rf (fun i hi => by rw [s1, f1 40 (by omega)]; exact h.f i hi)
end OKC
/-- the best set of n parts -/
def bF (t : Nat → Nat) (h n : Nat) : Nat → Nat × Nat
  | 0 => (0, 0)
  | k + 1 => if pop k = n ∧ (bF t h n k).1 < val t h k + 1 then (val t h k + 1, k) else bF t h n k
theorem bF_le {t : Nat → Nat} (hw : wfT t) {h n : Nat} (hh : h < 4) : ∀ k, (bF t h n k).1 ≤ 1783 := by
  intro k
  induction k with
  | zero => exact Nat.zero_le _
  | succ k ih =>
    have := val_le hw hh k
    rw [bF]
    split
    · show val t h k + 1 ≤ 1783; omega
    · exact ih
theorem bF_0 {t : Nat → Nat} {h n : Nat} : ∀ k, (∀ j, j < k → pop j ≠ n) → bF t h n k = (0, 0) := by
  intro k
  induction k with
  | zero => intro _; rfl
  | succ k ih => intro hj; rw [bF, if_neg (fun z => hj k (by omega) z.1), ih (fun j h => hj j (by omega))]
theorem bF_pos {t : Nat → Nat} {h n : Nat} : ∀ k j, j < k → pop j = n → 0 < (bF t h n k).1 := by
  intro k
  induction k with
  | zero => intro j h; exact absurd h (Nat.not_lt_zero _)
  | succ k ih =>
    intro j hj hp
    rw [bF]
    by_cases q : pop k = n ∧ (bF t h n k).1 < val t h k + 1
    · rw [if_pos q]; show 0 < val t h k + 1; omega
    · rw [if_neg q]
      by_cases q2 : j = k
      · subst q2
        have := fun z => q ⟨hp, z⟩
        omega
      · exact ih j (by omega) hp
theorem pop_P : ∀ p : Fin 10, ∀ s : Fin 512, s.val < 2 ^ p.val → pop s.val ≤ p.val := by decide +kernel
theorem pop_all : ∀ n : Fin 10, pop (2 ^ n.val - 1) = n.val := by decide +kernel
section BEST
variable {L : Nat} {M : Nat → Nat → Int32} {t : Nat → Nat} {z : Int32} {sp : Nat → Int32} {c : Nat}
theorem k_best_l (h : IV M t z sp c) {x n : Nat} (hx : x < 4) (hn : n < 10) : ∀ (k s : Nat) (v6 : Value), s + k = 2 ^ t 1 → R 70 51 [.ref 1, .int (nI x), .int (nI n), .int (nI (bF t x n s).1 - nI 1), .int (nI (bF t x n s).2), .int (nI s), v6] [] (SH L, M) = some (some (.int (nI (bF t x n (2 ^ t 1)).2)), (SH L, M)) := by
  have hp5 := pow_P h.w
  have ha1 := allT_eq t
  intro k
  induction k with
  | zero =>
    intro s v6 hs
    rw [r70_51]
    simp (disch := omega) only [r70_53, r70_54, r70_57, r70_60, r70_103, r70_105, Option.bind_some, vtl_some, vtl_none, s_within, s_isSet5 h.e h.w, h.e.p, h.e.h, h.od5, h.me4, b2_eq0, ite_not2, nz1, nz0, n1z, n0z, if_true, if_false, fd0, fd1, fd2, fd3, fd4, fd5, fd6, s_all isE_2 h.e h.w, nI_lt', show allT t < s from by omega]
    rw [show s = 2 ^ t 1 by omega]
  | succ k ih =>
    intro s v6 hs
    have hss : s < 512 := by omega
    have p1 := pop_le s
    have v1 := val_le h.w hx s
    have b1 := bF_le h.w (n := n) hx s
    rw [r70_51]
    simp (disch := omega) only [r70_53, r70_54, r70_57, r70_60, r70_63, r70_65, r70_68, r70_69, Option.bind_some, vtl_some, vtl_none, s_within, s_isSet5 h.e h.w, h.e.p, h.e.h, h.od5, h.me4, b2_eq0, ite_not2, nz1, nz0, n1z, n0z, if_true, if_false, fd0, fd1, fd2, fd3, fd4, fd5, fd6, s_all isE_2 h.e h.w, nI_lt', show ¬ allT t < s from by omega, s_bitCount hss, nI_eq']
    have iH := fun v => ih (s + 1) v (by omega)
    rw [bF] at iH
    by_cases q : pop s = n
    · rw [if_pos q]
      simp (disch := omega) only [r70_72, r70_73, r70_76, r70_77, r70_79, r70_82, r70_84, r70_86, r70_87, Option.bind_some, vtl_some, vtl_none, s_within, s_isSet5 h.e h.w, h.e.p, h.e.h, h.od5, h.me4, b2_eq0, ite_not2, nz1, nz0, n1z, n0z, if_true, if_false, fd0, fd1, fd2, fd3, fd4, fd5, fd6, s_vto isE_2 h.e h.w hx hss, cmp_mo]
      by_cases q2 : val t x s + 1 ≤ (bF t x n s).1
      · rw [if_neg (by omega)] at iH
        rw [if_pos q2]
        simp (disch := omega) only [r70_97, r70_100, nI_add]
        exact iH _
      · rw [if_pos ⟨q, by omega⟩] at iH
        rw [if_neg q2]
        simp (disch := omega) only [r70_90, r70_92, r70_93, r70_95, r70_97, r70_100, nI_add]
        have := iH (.int (nI (val t x s)))
        simp only at this
        rw [pk_sub (show 1 ≤ val t x s + 1 by omega), Nat.add_sub_cancel] at this
        exact this
    · rw [if_neg q]
      rw [if_neg (fun z => q z.1)] at iH
      simp (disch := omega) only [r70_97, r70_100, nI_add]
      exact iH _
theorem m1_lt {m : Nat} (h : m < 2 ^ 30) : ((-1 : Int32) ≤ nI m - nI 1) = True := by
  apply eq_true
  rw [Int32.le_iff_toInt_le, pk_sub_toInt h (by decide), show ((-1 : Int32)).toInt = -1 from by decide +kernel]
  omega
theorem q_best_l (hs1 : rS M t) (hw : wfT t) {x n : Nat} (hx : x < 4) (hn : n < 10) : ∀ (k s : Nat) (v6 : Value), s + k = 2 ^ t 1 → ∃ v5' v6', R 157 34 [.ref 36, .int (nI x), .int (nI n), .int (if (bF t x n s).1 = 0 then -1 else nI (bF t x n s).2), .int (nI (bF t x n s).1 - nI 1), .int (nI s), v6] [] (SH L, M) = R 157 101 [.ref 36, .int (nI x), .int (nI n), .int (if (bF t x n (2 ^ t 1)).1 = 0 then -1 else nI (bF t x n (2 ^ t 1)).2), .int (nI (bF t x n (2 ^ t 1)).1 - nI 1), v5', v6'] [] (SH L, M) := by
  have hp5 := pow_P hw
  have ha1 := allT_eq t
  have hs := hs1
  intro k
  induction k with
  | zero =>
    intro s v6 hk
    refine ⟨.int (nI s), v6, ?_⟩
    rw [r157_34]
    simp (disch := omega) only [r157_36, r157_37, r157_40, Option.bind_some, vtl_some, vtl_none, hs 1, hs 2, b2_eq0, ite_not2, nz1, nz0, n1z, n0z, if_true, if_false, s_everything hs hw, nI_lt', show allT t < s from by omega]
    rw [show s = 2 ^ t 1 by omega]
  | succ k ih =>
    intro s v6 hk
    have hss : s < 512 := by omega
    have p1 := pop_le s
    have v1 := val_le hw hx s
    have b1 := bF_le hw (n := n) hx s
    rw [r157_34]
    simp (disch := omega) only [r157_36, r157_37, r157_40, r157_43, r157_45, r157_48, r157_49, Option.bind_some, vtl_some, vtl_none, hs 1, hs 2, b2_eq0, ite_not2, nz1, nz0, n1z, n0z, if_true, if_false, s_everything hs hw, nI_lt', show ¬ allT t < s from by omega, s_ones hss, nI_eq']
    have iH := fun v => ih (s + 1) v (by omega)
    by_cases q : pop s = n
    · rw [if_pos q]
      simp (disch := omega) only [r157_52, r157_53, r157_54, r157_56, r157_59, r157_62, r157_63, r157_65, r157_67, r157_69, r157_72, r157_74, r157_77, Option.bind_some, vtl_some, vtl_none, hs 1, hs 2, b2_eq0, ite_not2, nz1, nz0, n1z, n0z, if_true, if_false, s_valueOf hs hw hx hss, cmp_mo, mg_R]
      by_cases q2 : val t x s + 1 ≤ (bF t x n s).1
      · rw [show bF t x n (s + 1) = bF t x n s from by rw [bF, if_neg (by omega)]] at iH
        rw [if_pos q2]
        simp (disch := omega) only [r157_78, r157_79, r157_81, r157_83, r157_86, r157_88, r157_91, r157_93, r157_95, r157_98, Option.bind_some, vtl_some, vtl_none, hs 1, hs 2, b2_eq0, ite_not2, nz1, nz0, n1z, n0z, if_true, if_false, cmp_mo, if_pos q2, nI_add]
        exact iH _
      · rw [show bF t x n (s + 1) = (val t x s + 1, s) from by rw [bF, if_pos ⟨q, by omega⟩]] at iH
        rw [if_neg q2]
        simp (disch := omega) only [r157_78, r157_79, r157_81, r157_83, r157_86, r157_88, r157_91, r157_93, r157_95, r157_98, Option.bind_some, vtl_some, vtl_none, hs 1, hs 2, b2_eq0, ite_not2, nz1, nz0, n1z, n0z, if_true, if_false, cmp_mo, if_neg q2, nI_add]
        have := iH (.int (nI (val t x s)))
        simp only at this
        rw [pk_sub (show 1 ≤ val t x s + 1 by omega), Nat.add_sub_cancel, if_neg (show ¬ val t x s + 1 = 0 by omega)] at this
        exact this
    · rw [if_neg q]
      rw [show bF t x n (s + 1) = bF t x n s from by rw [bF, if_neg (fun z => q z.1)]] at iH
      simp (disch := omega) only [r157_62, r157_63, r157_65, r157_67, r157_69, r157_72, r157_74, r157_77, r157_78, r157_79, r157_81, r157_83, r157_86, r157_88, r157_91, r157_93, r157_95, r157_98, Option.bind_some, vtl_some, vtl_none, hs 1, hs 2, b2_eq0, ite_not2, nz1, nz0, n1z, n0z, if_true, if_false, m1_lt (show (bF t x n s).1 < 2 ^ 30 by omega), nI_add]
      exact iH _
theorem c_best (h : IV M t z sp c) (a b : Int32) : OK L M c (fun M => R 70 0 [.ref 1, .int a, .int b, .null, .null, .null, .null] [] (SH L, M)) (fun M => R 157 0 [.ref 36, .int a, .int b, .null, .null, .null, .null] [] (SH L, M)) := by
  have hP := h.w.2.1
  have hp5 := pow_P h.w
  by_cases h1 : rng a 4
  · by_cases h2 : rng b 10
    · obtain ⟨x, hx, rfl⟩ := rng_of (by omega) h1
      obtain ⟨n, hn, rfl⟩ := rng_of (by omega) h2
      have b1 := bF_le h.w (n := n) hx (2 ^ t 1)
      have cg : R 70 0 [.ref 1, .int (nI x), .int (nI n), .null, .null, .null, .null] [] (SH L, M) = R 70 25 [.ref 1, .int (nI x), .int (nI n), .null, .null, .null, .null] [] (SH L, M) := by
        simp (disch := omega) only [r70_0, r70_1, r70_2, r70_5, r70_8, r70_9, r70_12, r70_13, r70_15, Option.bind_some, vtl_some, vtl_none, s_within, s_isSet5 h.e h.w, h.e.p, h.e.h, h.od5, h.me4, b2_eq0, ite_not2, nz1, nz0, n1z, n0z, if_true, if_false, fd0, fd1, fd2, fd3, fd4, fd5, fd6, if_pos h1, nI_lt0, nI_le'', show n ≤ 9 from by omega]
      have lo := fun M1 (hs1 : rS M1 t) => q_best_l (L := L) hs1 h.w hx hn (2 ^ t 1) 0 .null (Nat.zero_add _)
      have rg : ∀ M1, rS M1 t → R 157 0 [.ref 36, .int (nI x), .int (nI n), .null, .null, .null, .null] [] (SH L, M1) = R 157 34 [.ref 36, .int (nI x), .int (nI n), .int (if (bF t x n 0).1 = 0 then -1 else nI (bF t x n 0).2), .int (nI (bF t x n 0).1 - nI 1), .int (nI 0), .null] [] (SH L, M1) := fun M1 hs => by
        simp (disch := omega) only [r157_0, r157_1, r157_4, r157_7, r157_8, r157_9, r157_10, r157_13, r157_16, r157_19, r157_20, r157_22, r157_25, r157_26, r157_27, r157_28, r157_29, r157_31, r157_32, Option.bind_some, vtl_some, vtl_none, s_isPart hs h.w, s_isHeir hs h.w, s_isSet6 hs h.w, s_isAny, s_isThing, s_isOne, b2_eq0, ite_not2, nz1, nz0, n1z, n0z, if_true, if_false, gd0, gd1, gd2, gd3, gd4, gd5, gd6, hs 1, hs 2, s_inr (show 10 < 2 ^ 31 by decide) (show (9 : Int64) = lN 10 - 1 by decide +kernel), if_pos h1, if_pos h2]
        rw [m1_lit]
        rfl
      by_cases h3 : n ≤ t 1
      · have bp := bF_pos (t := t) (h := x) (n := n) (2 ^ t 1) (2 ^ n - 1) (by have := Nat.pow_le_pow_right (show 0 < 2 by decide) h3; have := Nat.two_pow_pos n; omega) (pop_all ⟨n, hn⟩)
        have kl := k_best_l (L := L) h hx hn (2 ^ t 1) 0 .null (Nat.zero_add _)
        refine okV0 h (r := nI (bF t x n (2 ^ t 1)).2) ?_ (fun M1 hs => ?_)
        · rw [cg]
          simp (disch := omega) only [r70_25, r70_26, r70_27, r70_30, r70_33, r70_36, r70_37, r70_39, r70_42, r70_43, r70_44, r70_45, r70_46, r70_48, r70_49, Option.bind_some, vtl_some, vtl_none, s_within, s_isSet5 h.e h.w, h.e.p, h.e.h, h.od5, h.me4, b2_eq0, ite_not2, nz1, nz0, n1z, n0z, if_true, if_false, fd0, fd1, fd2, fd3, fd4, fd5, fd6, nI_le'', if_pos h3]
          rw [m1_lit]
          exact kl
        · obtain ⟨v5, v6, e⟩ := lo M1 hs
          rw [rg M1 hs, e, if_neg (by omega)]
          have : (bF t x n (2 ^ t 1)).2 < 2 ^ 31 := by
            have : ∀ k, (bF t x n k).2 ≤ k := by
              intro k
              induction k with
              | zero => exact Nat.le_refl _
              | succ k ih => rw [bF]; split; exact Nat.le_succ k; omega
            have := this (2 ^ t 1)
            omega
          simp (disch := omega) only [r157_101, r157_102, r157_105, r157_106, r157_108, r157_111, r157_114, r157_115, Option.bind_some, vtl_some, vtl_none, s_isPart hs h.w, s_isHeir hs h.w, s_isSet6 hs h.w, s_isAny, s_isThing, s_isOne, b2_eq0, ite_not2, nz1, nz0, n1z, n0z, if_true, if_false, gd0, gd1, gd2, gd3, gd4, gd5, gd6, hs 1, hs 2, nI_0le]
      · have b0 : bF t x n (2 ^ t 1) = (0, 0) := bF_0 _ (fun j hj => by
          have := pop_P ⟨t 1, by omega⟩ ⟨j, by omega⟩ hj
          simp only at this
          omega)
        refine okF0 h (x := -1000004) (k := 3) ?_ (fun M1 hs => ?_)
        · rw [cg]
          simp (disch := omega) only [r70_25, r70_26, r70_27, r70_30, r70_33, r70_36, r70_37, r70_39, r70_42, Option.bind_some, vtl_some, vtl_none, s_within, s_isSet5 h.e h.w, h.e.p, h.e.h, h.od5, h.me4, b2_eq0, ite_not2, nz1, nz0, n1z, n0z, if_true, if_false, fd0, fd1, fd2, fd3, fd4, fd5, fd6, nI_le'', if_neg h3]
        · obtain ⟨v5, v6, e⟩ := lo M1 hs
          rw [rg M1 hs, e, b0]
          simp (disch := omega) only [r157_101, r157_102, r157_105, r157_106, r157_108, r157_111, r157_114, r157_115, Option.bind_some, vtl_some, vtl_none, s_isPart hs h.w, s_isHeir hs h.w, s_isSet6 hs h.w, s_isAny, s_isThing, s_isOne, b2_eq0, ite_not2, nz1, nz0, n1z, n0z, if_true, if_false, gd0, gd1, gd2, gd3, gd4, gd5, gd6, hs 1, hs 2, show ¬ (0 : Int32) ≤ -1 from by decide +kernel]
    · have e2 : ∀ {α : Type} {A B : α}, (if b < 0 then A else if b ≤ nI 9 then B else A) = A := fun {α A B} => by
        by_cases q : b < 0
        · rw [if_pos q]
        · rw [if_neg q, if_neg (fun z => h2 (le_rng (by decide) q z))]
      exact okF0 h (x := (-1000001)) (k := 0) (by simp (disch := omega) only [r70_0, r70_1, r70_2, r70_5, r70_8, r70_9, r70_12, r70_13, r70_15, r70_18, r70_19, r70_21, r70_24, r70_25, r70_26, r70_27, r70_30, r70_33, r70_36, r70_37, r70_39, r70_42, r70_43, r70_44, r70_45, r70_46, r70_48, r70_49, r70_51, r70_53, r70_54, r70_57, r70_60, r70_63, r70_65, r70_68, r70_69, r70_72, r70_73, r70_76, r70_77, r70_79, r70_82, r70_84, r70_86, r70_87, r70_90, r70_92, r70_93, r70_95, r70_97, r70_100, r70_103, r70_105, Option.bind_some, vtl_some, vtl_none, s_within, s_isSet5 h.e h.w, h.e.p, h.e.h, h.od5, h.me4, b2_eq0, ite_not2, nz1, nz0, n1z, n0z, if_true, if_false, fd0, fd1, fd2, fd3, fd4, fd5, fd6, if_pos h1, if_neg h2, e2]) (fun M1 hs => by simp (disch := omega) only [r157_0, r157_1, r157_4, r157_7, r157_8, r157_9, r157_10, r157_13, r157_16, r157_19, r157_20, r157_22, r157_25, r157_26, r157_27, r157_28, r157_29, r157_31, r157_32, r157_34, r157_36, r157_37, r157_40, r157_43, r157_45, r157_48, r157_49, r157_52, r157_53, r157_54, r157_56, r157_59, r157_62, r157_63, r157_65, r157_67, r157_69, r157_72, r157_74, r157_77, r157_78, r157_79, r157_81, r157_83, r157_86, r157_88, r157_91, r157_93, r157_95, r157_98, r157_101, r157_102, r157_105, r157_106, r157_108, r157_111, r157_114, r157_115, Option.bind_some, vtl_some, vtl_none, s_isPart hs h.w, s_isHeir hs h.w, s_isSet6 hs h.w, s_isAny, s_isThing, s_isOne, b2_eq0, ite_not2, nz1, nz0, n1z, n0z, if_true, if_false, gd0, gd1, gd2, gd3, gd4, gd5, gd6, hs 1, hs 2, if_pos h1, if_neg h2, s_inr (show 10 < 2 ^ 31 by decide) (show (9 : Int64) = lN 10 - 1 by decide +kernel)])
  · exact okF0 h (x := (-1000001)) (k := 0) (by simp (disch := omega) only [r70_0, r70_1, r70_2, r70_5, r70_8, r70_9, r70_12, r70_13, r70_15, r70_18, r70_19, r70_21, r70_24, r70_25, r70_26, r70_27, r70_30, r70_33, r70_36, r70_37, r70_39, r70_42, r70_43, r70_44, r70_45, r70_46, r70_48, r70_49, r70_51, r70_53, r70_54, r70_57, r70_60, r70_63, r70_65, r70_68, r70_69, r70_72, r70_73, r70_76, r70_77, r70_79, r70_82, r70_84, r70_86, r70_87, r70_90, r70_92, r70_93, r70_95, r70_97, r70_100, r70_103, r70_105, Option.bind_some, vtl_some, vtl_none, s_within, s_isSet5 h.e h.w, h.e.p, h.e.h, h.od5, h.me4, b2_eq0, ite_not2, nz1, nz0, n1z, n0z, if_true, if_false, fd0, fd1, fd2, fd3, fd4, fd5, fd6, if_neg h1]) (fun M1 hs => by simp (disch := omega) only [r157_0, r157_1, r157_4, r157_7, r157_8, r157_9, r157_10, r157_13, r157_16, r157_19, r157_20, r157_22, r157_25, r157_26, r157_27, r157_28, r157_29, r157_31, r157_32, r157_34, r157_36, r157_37, r157_40, r157_43, r157_45, r157_48, r157_49, r157_52, r157_53, r157_54, r157_56, r157_59, r157_62, r157_63, r157_65, r157_67, r157_69, r157_72, r157_74, r157_77, r157_78, r157_79, r157_81, r157_83, r157_86, r157_88, r157_91, r157_93, r157_95, r157_98, r157_101, r157_102, r157_105, r157_106, r157_108, r157_111, r157_114, r157_115, Option.bind_some, vtl_some, vtl_none, s_isPart hs h.w, s_isHeir hs h.w, s_isSet6 hs h.w, s_isAny, s_isThing, s_isOne, b2_eq0, ite_not2, nz1, nz0, n1z, n0z, if_true, if_false, gd0, gd1, gd2, gd3, gd4, gd5, gd6, hs 1, hs 2, if_neg h1])
/-- the part without which least is lost -/
def lsI (t : Nat → Nat) (s : Nat) : Int32 := nI (val t (dea t s) s) - nI (suN t (sha t s) (t 2))
def coF (t : Nat → Nat) : Nat → Int32 × Nat
  | 0 => (lsI t (dif (allT t) (2 ^ 0)), 0)
  | n + 1 => if (coF t n).1 ≤ lsI t (dif (allT t) (2 ^ (n + 1))) then coF t n else (lsI t (dif (allT t) (2 ^ (n + 1))), n + 1)
theorem coF_le (t : Nat → Nat) : ∀ n, (coF t n).2 ≤ n := by
  intro n
  induction n with
  | zero => exact Nat.le_refl _
  | succ n ih => rw [coF]; split; omega; exact Nat.le_refl _
theorem k_com_l {M0 : Nat → Nat → Int32} (h0 : IV M0 t z sp c) : ∀ (k n : Nat) (M : Nat → Nat → Int32) (v4 : Value), n + 1 + k = t 1 → fC M0 M → DI M t c → M 34 = M0 34 → ∃ M', R 82 51 [.ref 1, .int (nI (coF t n).2), .int (coF t n).1, .int (nI (n + 1)), v4] [] (SH L, M) = some (some (.int (nI (coF t (t 1 - 1)).2)), (SH L, M')) ∧ fC M0 M' ∧ DI M' t c ∧ M' 34 = M0 34 := by
  have hP := h0.w.2.1
  have hal := allT_lt h0.w
  intro k
  induction k with
  | zero =>
    intro n M v4 hn f d q
    have h := IV_s h0 f d q
    refine ⟨M, ?_, f, d, q⟩
    rw [r82_51]
    simp (disch := omega) only [r82_52, r82_53, r82_56, r82_59, r82_102, r82_103, Option.bind_some, vtl_some, vtl_none, s_within, s_isSet5 h.e h.w, h.e.p, h.e.h, h.od5, h.me4, b2_eq0, ite_not2, nz1, nz0, n1z, n0z, if_true, if_false, fd0, fd1, fd2, fd3, fd4, fd5, fd6, nI_le'', show t 1 ≤ n + 1 from by omega]
    rw [show t 1 - 1 = n by omega]
  | succ k ih =>
    intro n M v4 hn f d q
    have h := IV_s h0 f d q
    have d1 : dif (allT t) (2 ^ (n + 1)) < 512 := Nat.lt_of_le_of_lt (dif_le _ _) hal.2
    obtain ⟨M1, e1, f1, d1', q1⟩ := k_lossOf (L := L) h d1
    rw [r82_51]
    simp (disch := omega) only [r82_52, r82_53, r82_56, r82_59, r82_62, r82_63, r82_64, r82_67, r82_70, r82_71, r82_72, r82_73, r82_74, r82_75, r82_76, r82_79, r82_81, r82_82, r82_85, r82_87, r82_88, Option.bind_some, vtl_some, vtl_none, s_within, s_isSet5 h.e h.w, h.e.p, h.e.h, h.od5, h.me4, b2_eq0, ite_not2, nz1, nz0, n1z, n0z, if_true, if_false, fd0, fd1, fd2, fd3, fd4, fd5, fd6, nI_le'', show ¬ t 1 ≤ n + 1 from by omega, s_all isE_2 h.e h.w, nI_shl1, nI_dif, e1, nI_eq0, show ¬ n + 1 = 0 from by omega]
    have iH := ih (n + 1) M1 (.int (lsI t (dif (allT t) (2 ^ (n + 1))))) (by omega) (fC_tr f f1) d1' (by rw [q1, q])
    rw [coF] at iH
    by_cases c2 : (coF t n).1 ≤ lsI t (dif (allT t) (2 ^ (n + 1)))
    · rw [if_pos c2] at iH
      rw [if_pos (show (coF t n).1 ≤ nI (val t (dea t (dif (allT t) (2 ^ (n + 1)))) (dif (allT t) (2 ^ (n + 1)))) - nI (suN t (sha t (dif (allT t) (2 ^ (n + 1)))) (t 2)) from c2)]
      simp (disch := omega) only [r82_96, r82_99, nI_add]
      exact iH
    · rw [if_neg c2] at iH
      rw [if_neg (show ¬ (coF t n).1 ≤ nI (val t (dea t (dif (allT t) (2 ^ (n + 1)))) (dif (allT t) (2 ^ (n + 1)))) - nI (suN t (sha t (dif (allT t) (2 ^ (n + 1)))) (t 2)) from c2)]
      simp (disch := omega) only [r82_91, r82_93, r82_94, r82_95, r82_96, r82_99, nI_add]
      exact iH
theorem q_loss (hw : wfT t) (hO : wfO t) (hs : rS M t) (hl : LA M t 0) {s : Nat} (hss : s < 2 ^ t 1) : ∃ M1 M2, R 162 0 [.ref 36, .int (nI s)] [] (SH L, M) = some (none, (SH L, M1)) ∧ R 164 0 [.ref 36, .int (nI s), .null, .null, .null] [] (SH L, M1) = some (none, (SH L, M2)) ∧ R 176 0 [.ref 36, .int (nI s), .null, .null] [] (SH L, M2) = some (some (.int (lsI t s)), (SH L, M2)) ∧ frc 42 47 M M2 ∧ M2 45 = M 45 ∧ LA M2 t 0 := by
  have h5 := pow_P hw
  have hH := hw.2.2.2.1
  obtain ⟨M1, e1, f1, l1, g1⟩ := s_findFirst (L := L) hw hs hl hss
  obtain ⟨M2, e2, f2, g2⟩ := s_shareOut (L := L) hw (rS_frc hs f1 (by omega)) l1 hss g1
  have hs2 : rS M2 t := rS_frc (rS_frc hs f1 (by omega)) f2 (by omega)
  have lo := q_lostNow (L := L) hs2 hw (sh := sha t s) (fun x hx => g2 x (by omega) (ord_all hw hO hx)) (sha_lt t (show s < 512 by omega)) (show s < 512 by omega)
  refine ⟨M1, M2, e1, e2, lo, frc_tr (frc_mo f1 (by omega) (by omega)) (frc_mo f2 (by omega) (by omega)), by rw [f2 45 (by omega), f1 45 (by omega)], fun p h1 h2 a ha => ?_, fun p h1 h2 h3 a ha => ?_⟩
  · rw [f2 41 (by omega)]; exact l1.1 p h1 h2 a ha
  · rw [f2 42 (by omega), f2 44 (by omega)]; exact l1.2 p h1 h2 h3 a ha
theorem all_cut {t : Nat → Nat} (hw : wfT t) (x : Nat) : dif (allT t) x < 2 ^ t 1 := Nat.lt_of_le_of_lt (dif_le _ _) (allT_lt hw).1
theorem q_com_l (hw : wfT t) (hO : wfO t) {M0 : Nat → Nat → Int32} (hs0 : rS M0 t) : ∀ (k n : Nat) (M : Nat → Nat → Int32) (v4 v5 : Value), n + 1 + k = t 1 → frS M0 M → LA M t 0 → ∃ M', R 182 14 [.ref 36, .int (nI (coF t n).2), .int (coF t n).1, .int (nI (n + 1)), v4, v5] [] (SH L, M) = some (some (.int (nI (coF t (t 1 - 1)).2)), (SH L, M')) ∧ frS M0 M' := by
  have hP := hw.2.1
  have hal := allT_lt hw
  intro k
  induction k with
  | zero =>
    intro n M v4 v5 hn f hl
    have hs := rS_fr hs0 f
    have cl := coF_le t n
    refine ⟨M, ?_, f⟩
    rw [r182_14]
    simp (disch := omega) only [r182_15, r182_16, r182_19, r182_20, r182_21, r182_77, r182_78, r182_81, r182_82, r182_84, r182_87, r182_90, r182_91, Option.bind_some, vtl_some, vtl_none, hs 1, hs 2, b2_eq0, ite_not2, nz1, nz0, n1z, n0z, if_true, if_false, nI_le'', show t 1 ≤ n + 1 from by omega, nI_0le]
    rw [show t 1 - 1 = n by omega]
  | succ k ih =>
    intro n M v4 v5 hn f hl
    have hs := rS_fr hs0 f
    have cl := coF_le t n
    obtain ⟨M1, M2, e1, e2, e3, f2, -, l2⟩ := q_loss (L := L) hw hO hs hl (all_cut hw (2 ^ (n + 1)))
    rw [r182_14]
    simp (disch := omega) only [r182_15, r182_16, r182_19, r182_20, r182_21, r182_24, r182_25, r182_28, r182_29, r182_30, r182_31, r182_32, r182_33, r182_34, r182_36, r182_37, r182_39, r182_42, r182_43, r182_45, r182_48, r182_49, r182_51, r182_54, r182_56, r182_57, r182_60, r182_62, r182_63, Option.bind_some, vtl_some, vtl_none, hs 1, hs 2, b2_eq0, ite_not2, nz1, nz0, n1z, n0z, if_true, if_false, nI_le'', show ¬ t 1 ≤ n + 1 from by omega, s_everything hs hw, nI_shl1, nI_dif, e1, e2, e3, nI_lt0]
    have iH := ih (n + 1) M2 (.int (nI (dif (allT t) (2 ^ (n + 1))))) (.int (lsI t (dif (allT t) (2 ^ (n + 1))))) (by omega) (frS_tr f (frc_mo f2 (c := 41) (d := 47) (by omega) (by omega))) l2
    rw [coF] at iH
    by_cases c2 : (coF t n).1 ≤ lsI t (dif (allT t) (2 ^ (n + 1)))
    · rw [if_pos c2] at iH ⊢
      simp (disch := omega) only [r182_71, r182_74, nI_add]
      exact iH
    · rw [if_neg c2] at iH ⊢
      simp (disch := omega) only [r182_66, r182_67, r182_68, r182_70, r182_71, r182_74, nI_add]
      exact iH
theorem c_common (h : IV M t z sp c) : OK L M c (fun M => R 82 0 [.ref 1, .null, .null, .null, .null] [] (SH L, M)) (fun M => R 182 0 [.ref 36, .null, .null, .null, .null, .null] [] (SH L, M)) := by
  have hP := h.w.2.1
  have hal := allT_lt h.w
  have hfw : ∀ M1, rS M1 t → ∃ M2, frS M1 M2 ∧ LA M2 t 0 ∧ R 182 0 [.ref 36, .null, .null, .null, .null, .null] [] (SH L, M1) = R 182 14 [.ref 36, .int (-1), .int (nI 0), .int (nI 0), .null, .null] [] (SH L, M2) := fun M1 hs => by
    obtain ⟨M2, e2, f2, -, w2⟩ := s_findWorths (L := L) h.w hs
    obtain ⟨M3, e3, f3, l3⟩ := s_findLater (L := L) h.w (rS_fr hs f2) (WO_of h.o w2)
    refine ⟨M3, frS_tr f2 (frc_mo f3 (c := 41) (d := 47) (by omega) (by omega)), l3, ?_⟩
    simp only [r182_0, r182_1, r182_4, r182_5, r182_8, r182_9, r182_10, r182_11, r182_12, r182_13, e2, e3, Option.bind_some, vtl_none]
  by_cases h1 : t 1 = 0
  · refine okF h (x := -1000004) (k := 3) (M1 := M) (by simp (disch := omega) only [r82_0, r82_1, r82_4, r82_7, r82_10, r82_11, r82_13, r82_16, r82_17, r82_18, r82_21, r82_22, r82_25, r82_28, r82_29, r82_32, r82_35, r82_36, r82_39, r82_42, r82_45, r82_46, r82_47, r82_48, r82_49, r82_50, r82_51, r82_52, r82_53, r82_56, r82_59, r82_62, r82_63, r82_64, r82_67, r82_70, r82_71, r82_72, r82_73, r82_74, r82_75, r82_76, r82_79, r82_81, r82_82, r82_85, r82_87, r82_88, r82_91, r82_93, r82_94, r82_95, r82_96, r82_99, r82_102, r82_103, Option.bind_some, vtl_some, vtl_none, s_within, s_isSet5 h.e h.w, h.e.p, h.e.h, h.od5, h.me4, b2_eq0, ite_not2, nz1, nz0, n1z, n0z, if_true, if_false, fd0, fd1, fd2, fd3, fd4, fd5, fd6, if_pos h1, nI_eq0]) fC_rf h.d rfl (fun M1 hs1 => ?_)
    obtain ⟨M2, f2, l2, e2⟩ := hfw M1 hs1
    have hs := rS_fr hs1 f2
    refine ⟨M2, ?_, fR_S f2, f2 40 (by omega)⟩
    rw [e2, r182_14]
    simp (disch := omega) only [r182_15, r182_16, r182_19, r182_20, r182_21, r182_77, r182_78, r182_81, r182_82, r182_84, r182_87, r182_90, r182_91, Option.bind_some, vtl_some, vtl_none, s_isPart hs h.w, s_isHeir hs h.w, s_isSet6 hs h.w, s_isAny, s_isThing, s_isOne, b2_eq0, ite_not2, nz1, nz0, n1z, n0z, if_true, if_false, gd0, gd1, gd2, gd3, gd4, gd5, gd6, hs 1, hs 2, nI_le'', show t 1 ≤ 0 from by omega, show ¬ (0 : Int32) ≤ -1 from by decide +kernel]
  · obtain ⟨M1, e1, f1, d1, q1, -⟩ := k_prep (L := L) h (show allT t < 512 by omega)
    have hI := IV_s h f1 d1 q1
    obtain ⟨M2, e2, f2, d2, q2⟩ := k_lossOf (L := L) hI (show dif (allT t) (2 ^ 0) < 512 from Nat.lt_of_le_of_lt (dif_le _ _) hal.2)
    obtain ⟨M3, e3, f3, d3, q3⟩ := k_com_l (L := L) h (t 1 - 1) 0 M2 (.int (lsI t (dif (allT t) (2 ^ 0)))) (by omega) (fC_tr f1 f2) d2 (by rw [q2, q1])
    refine okV h (r := nI (coF t (t 1 - 1)).2) (M1 := M3) ?_ f3 d3 q3 (fun M1 hs1 => ?_)
    · have c0 : R 82 0 [.ref 1, .null, .null, .null, .null] [] (SH L, M) = R 82 51 [.ref 1, .int (nI 0), .int (nI 0), .int (nI 0), .null] [] (SH L, M1) := by
        simp (disch := omega) only [r82_0, r82_1, r82_4, r82_7, r82_10, r82_11, r82_13, r82_16, r82_17, r82_18, r82_21, r82_22, r82_25, r82_28, r82_29, r82_32, r82_35, r82_36, r82_39, r82_42, r82_45, r82_46, r82_47, r82_48, r82_49, r82_50, Option.bind_some, vtl_some, vtl_none, s_within, s_isSet5 h.e h.w, h.e.p, h.e.h, h.od5, h.me4, b2_eq0, ite_not2, nz1, nz0, n1z, n0z, if_true, if_false, fd0, fd1, fd2, fd3, fd4, fd5, fd6, if_neg h1, nI_eq0, s_all isE_2 h.e h.w, e1]
      have c1 : R 82 51 [.ref 1, .int (nI 0), .int (nI 0), .int (nI 0), .null] [] (SH L, M1) = R 82 51 [.ref 1, .int (nI (coF t 0).2), .int (coF t 0).1, .int (nI (0 + 1)), .int (lsI t (dif (allT t) (2 ^ 0)))] [] (SH L, M2) := by
        rw [r82_51]
        have h := hI
        simp (disch := omega) only [r82_52, r82_53, r82_56, r82_59, r82_62, r82_63, r82_64, r82_67, r82_70, r82_71, r82_72, r82_73, r82_74, r82_75, r82_76, r82_79, r82_81, r82_82, r82_85, r82_87, r82_88, r82_91, r82_93, r82_94, r82_95, r82_96, r82_99, Option.bind_some, vtl_some, vtl_none, s_within, s_isSet5 h.e h.w, h.e.p, h.e.h, h.od5, h.me4, b2_eq0, ite_not2, nz1, nz0, n1z, n0z, if_true, if_false, fd0, fd1, fd2, fd3, fd4, fd5, fd6, nI_le'', show ¬ t 1 ≤ 0 from by omega, s_all isE_2 h.e h.w, nI_shl1, nI_dif, e2, nI_add]
        rfl
      rw [c0, c1]
      exact e3
    · obtain ⟨M2, f2, l2, e2⟩ := hfw M1 hs1
      have hs := rS_fr hs1 f2
      obtain ⟨M3, M4, g1, g2, g3, f4, -, l4⟩ := q_loss (L := L) h.w h.o hs l2 (all_cut h.w (2 ^ 0))
      obtain ⟨M5, e5, f5⟩ := q_com_l (L := L) h.w h.o hs1 (t 1 - 1) 0 M4 (.int (nI (dif (allT t) (2 ^ 0)))) (.int (lsI t (dif (allT t) (2 ^ 0)))) (by omega) (frS_tr f2 (frc_mo f4 (c := 41) (d := 47) (by omega) (by omega))) l4
      refine ⟨M5, ?_, fR_S f5, f5 40 (by omega)⟩
      have c1 : R 182 14 [.ref 36, .int (-1), .int (nI 0), .int (nI 0), .null, .null] [] (SH L, M2) = R 182 14 [.ref 36, .int (nI (coF t 0).2), .int (coF t 0).1, .int (nI (0 + 1)), .int (nI (dif (allT t) (2 ^ 0))), .int (lsI t (dif (allT t) (2 ^ 0)))] [] (SH L, M4) := by
        rw [r182_14]
        simp (disch := omega) only [r182_15, r182_16, r182_19, r182_20, r182_21, r182_24, r182_25, r182_28, r182_29, r182_30, r182_31, r182_32, r182_33, r182_34, r182_36, r182_37, r182_39, r182_42, r182_43, r182_45, r182_48, r182_49, r182_51, r182_54, r182_56, r182_57, r182_60, r182_62, r182_63, r182_66, r182_67, r182_68, r182_70, r182_71, r182_74, Option.bind_some, vtl_some, vtl_none, hs 1, hs 2, b2_eq0, ite_not2, nz1, nz0, n1z, n0z, if_true, if_false, nI_le'', show ¬ t 1 ≤ 0 from by omega, s_everything hs h.w, nI_shl1, nI_dif, g1, g2, g3, show (-1 : Int32) < 0 from by decide +kernel, nI_add]
        rfl
      rw [e2, c1]
      exact e5
end BEST
