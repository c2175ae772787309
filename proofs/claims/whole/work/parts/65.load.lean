/-! load, judge -/
/-- worths that come: so many at most, from a part on -/
def ldR (g : Nat → Int32) (x : Nat) : Nat → Nat → (Nat → Nat) → (Nat → Nat) × Nat
  | 0, i, t => (t, i)
  | k + 1, i, t => if (g i).toInt < 0 ∨ 99 < (g i).toInt then (t, i) else ldR g x k (i + 1) (ut t (9 + 8 * i + (4 + x)) (g i).toInt.toNat)
theorem ld_ite {α : Type} {v : Int32} {d : Decidable (v.toInt < 0 ∨ 99 < v.toInt)} {A B : α} : (if v < 0 then A else if v ≤ nI 99 then B else A) = @ite _ (v.toInt < 0 ∨ 99 < v.toInt) d A B := by
  by_cases q1 : v < 0
  · rw [if_pos q1, if_pos]
    rw [lt0I] at q1
    exact Or.inl q1
  · rw [if_neg q1]
    rw [lt0I] at q1
    by_cases q2 : v ≤ nI 99
    · rw [if_pos q2, if_neg]
      rw [Int32.le_iff_toInt_le, nI_toInt (by omega)] at q2
      omega
    · rw [if_neg q2, if_pos]
      rw [Int32.le_iff_toInt_le, nI_toInt (by omega)] at q2
      omega
theorem ldR_lo (g : Nat → Int32) (x : Nat) : ∀ (k i : Nat) (t : Nat → Nat) (j : Nat), j < 9 → (ldR g x k i t).1 j = t j := by
  intro k
  induction k with
  | zero => intro i t j _; rfl
  | succ k ih =>
    intro i t j hj
    rw [ldR]
    split
    · rfl
    · rw [ih _ _ _ hj, ut_ne (by omega)]
theorem ldR_le (g : Nat → Int32) (x : Nat) : ∀ (k i : Nat) (t : Nat → Nat), (ldR g x k i t).2 ≤ i + k := by
  intro k
  induction k with
  | zero => intro i t; exact Nat.le_refl _
  | succ k ih =>
    intro i t
    rw [ldR]
    split
    · show i ≤ i + (k + 1); omega
    · have := ih (i + 1) (ut t (9 + 8 * i + (4 + x)) (g i).toInt.toNat); omega
theorem ldR_wf (g : Nat → Int32) {x : Nat} (hx : x < 4) : ∀ (k i : Nat) (t : Nat → Nat), i + k ≤ 9 → wfT t → wfT (ldR g x k i t).1 := by
  intro k
  induction k with
  | zero => intro i t _ h; exact h
  | succ k ih =>
    intro i t hi h
    rw [ldR]
    split
    · exact h
    · rename_i q
      refine ih (i + 1) _ (by omega) (ut_wf h (by omega) (by omega) ?_)
      have : bmo (4 + x) = 99 := by
        have : x = 0 ∨ x = 1 ∨ x = 2 ∨ x = 3 := by omega
        rcases this with rfl | rfl | rfl | rfl <;> rfl
      omega
theorem int_nat {v : Int32} (h : 0 ≤ v.toInt) : v = nI v.toInt.toNat := by
  have := Int32.toInt_lt v
  apply Int32.toInt_inj.mp
  rw [nI_toInt (by omega)]
  omega
section LDJ
variable {L : Nat} {z : Int32} {sp : Nat → Int32}
theorem k_number {M : Nat → Nat → Int32} {s i : Nat} (hs : s < 4) (hi : i < 40) : R 36 0 [.ref 30, .int (nI s), .int (nI i)] [] (SH L, M) = some (some (.int (M 31 (s * 40 + i))), (SH L, M)) := by
  simp (disch := omega) only [r36_0, r36_1, r36_4, r36_5, r36_7, r36_8, r36_9, r36_10, r36_11, pk_mul, nI_add]
theorem k_load_l {x s m : Nat} {g : Nat → Int32} (hx : x < 4) (hs : s < 4) : ∀ (k i : Nat) (t : Nat → Nat) (M : Nat → Nat → Int32) (c : Nat) (v5 : Value), i + k = m → m ≤ 40 → m ≤ t 1 → rE M 2 t z sp → wfT t → M 2 9 = nI c → (∀ j, j < 40 → M 31 (s * 40 + j) = g j) → ∃ M' c', R 101 72 [.ref 1, .int (nI s), .int (nI x), .int (nI m), .int (nI i), v5] [] (SH L, M) = some (some (.int (nI (ldR g x k i t).2)), (SH L, M')) ∧ frc 2 6 M M' ∧ rE M' 2 (ldR g x k i t).1 z sp ∧ M' 2 9 = nI c' ∧ c ≤ c' ∧ c' ≤ c + k ∧ (c = c' → (ldR g x k i t).1 = t ∧ M' = M) := by
  intro k
  induction k with
  | zero =>
    intro i t M c v5 hi hm h1 hE hw h9 hg
    refine ⟨M, c, ?_, frc_rf, hE, h9, Nat.le_refl _, Nat.le_refl _, fun _ => ⟨rfl, rfl⟩⟩
    rw [r101_72]
    simp (disch := omega) only [r101_74, r101_75, r101_125, r101_126, nI_le'', show m ≤ i from by omega, if_true]
    rw [show m = i by omega]
    rfl
  | succ k ih =>
    intro i t M c v5 hi hm h1 hE hw h9 hg
    have hP := hw.2.1
    have dl : Decidable ((g i).toInt < 0 ∨ 99 < (g i).toInt) := Classical.propDecidable _
    rw [r101_72]
    simp (disch := omega) only [r101_74, r101_75, r101_78, r101_79, r101_82, r101_83, r101_85, r101_88, r101_90, r101_92, r101_95, r101_97, r101_99, nI_le'', show ¬ m ≤ i from by omega, if_false, k_number hs (show i < 40 by omega), hg i, Option.bind_some, vtl_some]
    rw [ldR]
    by_cases q : (g i).toInt < 0 ∨ 99 < (g i).toInt
    · rw [if_pos q]
      refine ⟨M, c, ?_, frc_rf, hE, h9, Nat.le_refl _, by omega, fun _ => ⟨rfl, rfl⟩⟩
      rw [ld_ite (d := dl), if_pos q]
      simp only [r101_102, r101_104]
    · rw [if_neg q]
      have e0 : g i = nI (g i).toInt.toNat := int_nat (by omega)
      obtain ⟨M1, e1, f1, E1, n1⟩ := s_setTrait (L := L) isE_2 hE hw (p := i) (w := 4 + x) (v := (g i).toInt.toNat) (by omega) (by omega) (by omega)
      rw [← e0] at e1
      rw [h9, nI_add] at n1
      have hw1 : wfT (ut t (9 + 8 * i + (4 + x)) (g i).toInt.toNat) := ldR_wf g hx 1 i t (by omega) hw |> fun z => by rw [ldR, if_neg q] at z; exact z
      obtain ⟨M2, c', e2, f2, E2, n2, c1, c2, -⟩ := ih (i + 1) _ M1 (c + 1) (.int (g i)) (by omega) hm (by rw [ut_ne (by omega)]; exact h1) E1 hw1 n1 (fun j hj => by rw [f1 31 (by omega)]; exact hg j hj)
      refine ⟨M2, c', ?_, frc_tr f1 f2, E2, n2, by omega, by omega, fun z => absurd z (by omega)⟩
      rw [ld_ite (d := dl), if_neg q]
      simp (disch := omega) only [r101_105, r101_106, r101_109, r101_111, r101_112, r101_113, r101_114, r101_116, nI_add, e1, Option.bind_some, vtl_none]
      simp only [r101_119, r101_122, nI_add]
      exact e2
theorem q_load_l {x s n m : Nat} {g : Nat → Int32} (hx : x < 4) (hs : s < 4) (hn : n ≤ 40) : ∀ (k i : Nat) (t : Nat → Nat) (M : Nat → Nat → Int32) (v3 : Value), i + k = m → m = (if t 1 < n then t 1 else n) → rQ M 37 t z sp → wfT t → M 52 s = nI n → (∀ j, j < 40 → M 53 (40 * s + j) = g j) → ∃ M', R 221 33 [.ref 36, .int (nI s), .int (nI x), v3, .int (nI i)] [] (SH L, M) = some (some (.int (nI (ldR g x k i t).2)), (SH L, M')) ∧ frc 37 37 M M' ∧ rQ M' 37 (ldR g x k i t).1 z sp := by
  intro k
  induction k with
  | zero =>
    intro i t M v3 hi hm hq hw h52 hg
    have hs1 := hq.1
    have hP := hw.2.1
    have hi40 : i ≤ 40 := by split at hm <;> omega
    refine ⟨M, ?_, frc_rf, hq⟩
    rw [r221_33]
    simp (disch := omega) only [r221_35, r221_36, r221_39, r221_40, r221_41, r221_44, r221_46, r221_47, r221_50, r221_51, r221_52, h52, hs1 1, nI_le'']
    by_cases q : n ≤ i
    · rw [if_pos q]; simp only [r221_109, r221_111]; rfl
    · rw [if_neg q, if_pos (by split at hm <;> omega)]; simp only [r221_109, r221_111]; rfl
  | succ k ih =>
    intro i t M v3 hi hm hq hw h52 hg
    have hs1 := hq.1
    have hP := hw.2.1
    have hin : i < n ∧ i < t 1 := by split at hm <;> omega
    have h31 : i < 40 := by omega
    rw [r221_33]
    rw [ldR]
    by_cases q : (g i).toInt < 0 ∨ 99 < (g i).toInt
    · rw [if_pos q]
      have rn : ¬ rng (g i) 100 := fun z => by have := z.1; have := z.2; omega
      have ir : ∀ W : vW, R 123 0 [.long (g i).toInt64, .null, .long 0, .null, .long 99, .null] [] W = some (some (.int (nI 0)), W) := fun W => by
        rw [s_inr (show 100 < 2 ^ 31 by decide) (show (99 : Int64) = lN 100 - 1 by decide +kernel), if_neg rn]
      refine ⟨M, ?_, frc_rf, hq⟩
      simp (disch := omega) only [r221_35, r221_36, r221_39, r221_40, r221_41, r221_44, r221_46, r221_47, r221_50, r221_51, r221_52, r221_55, r221_56, r221_59, r221_61, r221_62, r221_63, r221_65, r221_66, r221_67, r221_68, r221_69, r221_72, r221_75, h52, hs1 1, nI_le'', show ¬ n ≤ i from by omega, show ¬ t 1 ≤ i from by omega, if_false, pk_mul, nI_add, hg i h31, ir, nz0, if_true, Option.bind_some, vtl_some, r221_109, r221_111]
    · rw [if_neg q]
      have rn : rng (g i) 100 := ⟨by omega, by omega⟩
      have ir : ∀ W : vW, R 123 0 [.long (g i).toInt64, .null, .long 0, .null, .long 99, .null] [] W = some (some (.int (nI 1)), W) := fun W => by
        rw [s_inr (show 100 < 2 ^ 31 by decide) (show (99 : Int64) = lN 100 - 1 by decide +kernel), if_pos rn]
      have e0 : g i = nI (g i).toInt.toNat := int_nat (by omega)
      have q2 := rQ_up hq (k := 9 + 8 * i + (4 + x)) (v := (g i).toInt.toNat) (by omega) (by omega)
      rw [← e0] at q2
      have hw1 : wfT (ut t (9 + 8 * i + (4 + x)) (g i).toInt.toNat) := ldR_wf g hx 1 i t (by omega) hw |> fun z => by rw [ldR, if_neg q] at z; exact z
      obtain ⟨M2, e2, f2, q3⟩ := ih (i + 1) (ut t (9 + 8 * i + (4 + x)) (g i).toInt.toNat) (upd2 M 37 (9 + 8 * i + (4 + x)) (g i)) v3 (by omega) (by rw [ut_ne (by omega)]; exact hm) q2 hw1 (by rw [upd2_ne (Or.inl (by omega))]; exact h52) (fun j hj => by rw [upd2_ne (Or.inl (by omega))]; exact hg j hj)
      refine ⟨M2, ?_, frc_tr (frc_up frc_rf (Nat.le_refl _) (Nat.le_refl _)) f2, q3⟩
      simp (disch := omega) only [r221_35, r221_36, r221_39, r221_40, r221_41, r221_44, r221_46, r221_47, r221_50, r221_51, r221_52, r221_55, r221_56, r221_59, r221_61, r221_62, r221_63, r221_65, r221_66, r221_67, r221_68, r221_69, r221_72, r221_75, r221_78, r221_79, r221_82, r221_84, r221_85, r221_86, r221_87, r221_90, r221_91, r221_94, r221_96, r221_97, r221_98, r221_100, r221_101, r221_102, h52, hs1 1, nI_le'', show ¬ n ≤ i from by omega, show ¬ t 1 ≤ i from by omega, if_false, pk_mul, nI_add, hg i h31, ir, nz1, s_at, Option.bind_some, vtl_some]
      simp only [r221_103, r221_106, nI_add]
      exact e2
end LDJ
section LDK
variable {L : Nat} {M : Nat → Nat → Int32} {t : Nat → Nat} {z : Int32} {sp : Nat → Int32} {c : Nat}
theorem c_load (h : IV M t z sp c) (hcb : c < 49000000) (a b : Int32) : OK L M c (fun M => R 101 0 [.ref 1, .int a, .int b, .null, .null, .null] [] (SH L, M)) (fun M => R 221 0 [.ref 36, .int a, .int b, .null, .null] [] (SH L, M)) := by
  have hP := h.w.2.1
  by_cases h1 : rng a 4
  · obtain ⟨s, hs, rfl⟩ := rng_of (by omega) h1
    obtain ⟨⟨w, hw, e1, e2⟩, ⟨n, hn, e3, e4⟩⟩ := h.sh.2 s hs
    have w100 : w < 100 := by omega
    by_cases h2 : w = 0
    · refine okFc h (x := -1000006) (k := 5) (by simp (disch := omega) only [r101_0, r101_1, r101_2, r101_5, r101_8, r101_9, r101_11, r101_14, r101_15, r101_16, r101_19, r101_22, r101_23, r101_24, r101_27, r101_28, r101_30, r101_33, Option.bind_some, vtl_some, vtl_none, s_within, s_isSet5 h.e h.w, h.e.p, h.e.h, h.od5, h.me4, b2_eq0, ite_not2, nz1, nz0, n1z, n0z, if_true, if_false, fd0, fd1, fd2, fd3, fd4, fd5, fd6, if_pos h1, e1, nI_eq0, if_pos h2]) (fun M1 fr hs1 => ?_)
      have wr := q_wrong1 (L := L) (M := M1) hs w100 (by rw [fr 51 (by omega)]; exact e2)
      rw [if_pos h2] at wr
      have hs := hs1
      simp (disch := omega) only [r221_0, r221_1, r221_2, r221_5, r221_6, r221_7, r221_10, r221_11, r221_12, r221_15, Option.bind_some, vtl_some, vtl_none, s_isPart hs h.w, s_isHeir hs h.w, s_isSet6 hs h.w, s_isAny, s_isThing, s_isOne, b2_eq0, ite_not2, nz1, nz0, n1z, n0z, if_true, if_false, gd0, gd1, gd2, gd3, gd4, gd5, gd6, hs 1, hs 2, wr, nzM]
    · by_cases h3 : rng b 4
      · obtain ⟨x, hx, rfl⟩ := rng_of (by omega) h3
        have mi : (if nI (t 1) < nI n then nI (t 1) else nI n) = nI (if t 1 < n then t 1 else n) := by simp (disch := omega) only [nI_lt', mg_n]
        have hm9 : (if t 1 < n then t 1 else n) ≤ t 1 ∧ (if t 1 < n then t 1 else n) ≤ 40 := by split <;> omega
        obtain ⟨M1, c', g1, f1, E1, n1, c1, c2, cs⟩ := k_load_l (L := L) (g := fun j => M 31 (s * 40 + j)) hx hs (if t 1 < n then t 1 else n) 0 t M c .null (Nat.zero_add _) hm9.2 hm9.1 h.e h.w h.cc (fun _ _ => rfl)
        have C1 : R 101 0 [.ref 1, .int (nI s), .int (nI x), .null, .null, .null] [] (SH L, M) = R 101 72 [.ref 1, .int (nI s), .int (nI x), .int (nI (if t 1 < n then t 1 else n)), .int (nI 0), .null] [] (SH L, M) := by
          simp (disch := omega) only [r101_0, r101_1, r101_2, r101_5, r101_8, r101_9, r101_11, r101_14, r101_15, r101_16, r101_19, r101_22, r101_23, r101_24, r101_27, r101_28, r101_30, r101_33, r101_34, r101_35, r101_36, r101_39, r101_42, r101_43, r101_45, r101_48, r101_49, r101_50, r101_53, r101_56, r101_57, r101_58, r101_59, r101_62, r101_65, r101_68, r101_69, r101_70, Option.bind_some, vtl_some, vtl_none, s_within, s_isSet5 h.e h.w, h.e.p, h.e.h, h.od5, h.me4, b2_eq0, ite_not2, nz1, nz0, n1z, n0z, if_true, if_false, fd0, fd1, fd2, fd3, fd4, fd5, fd6, if_pos h1, if_pos h3, e1, nI_eq0, if_neg h2, e3, mi]
        have QM : ∀ M1 : Nat → Nat → Int32, (∀ b, 37 < b → M1 b = M b) → rQ M1 37 t z sp → ∃ M2, R 221 0 [.ref 36, .int (nI s), .int (nI x), .null, .null] [] (SH L, M1) = some (some (.int (nI (ldR (fun j => M 31 (s * 40 + j)) x (if t 1 < n then t 1 else n) 0 t).2)), (SH L, M2)) ∧ frc 37 37 M1 M2 ∧ rQ M2 37 (ldR (fun j => M 31 (s * 40 + j)) x (if t 1 < n then t 1 else n) 0 t).1 z sp := fun M1 fr hq => by
          have wr := q_wrong1 (L := L) (M := M1) hs w100 (by rw [fr 51 (by omega)]; exact e2)
          rw [if_neg h2] at wr
          obtain ⟨M2, e5, f5, q5⟩ := q_load_l (L := L) (g := fun j => M 31 (s * 40 + j)) hx hs hn (if t 1 < n then t 1 else n) 0 t M1 (.int (nI 0)) (Nat.zero_add _) rfl hq h.w (by rw [fr 52 (by omega)]; exact e4) (fun j hj => by rw [fr 53 (by omega), show 40 * s + j = s * 40 + j by omega]; exact h.nu (by omega))
          refine ⟨M2, ?_, f5, q5⟩
          have hs' := hq.1
          simp (disch := omega) only [r221_0, r221_1, r221_2, r221_5, r221_6, r221_7, r221_10, r221_11, r221_12, r221_15, r221_16, r221_17, r221_20, r221_23, r221_24, r221_26, r221_29, r221_30, r221_31, wr, s_isAny, if_pos h3, nz0, nz1, if_true, if_false, Option.bind_some, vtl_some]
          exact e5
        have lo := ldR_lo (fun j => M 31 (s * 40 + j)) x (if t 1 < n then t 1 else n) 0 t
        by_cases q : c = c'
        · obtain ⟨tt, tm⟩ := cs q
          rw [tm] at g1
          refine okM h hcb (r := nI (ldR (fun j => M 31 (s * 40 + j)) x (if t 1 < n then t 1 else n) 0 t).2) (M1 := M) (t' := t) (c' := c) (by rw [C1]; exact g1) fM_rf h.e h.cc (by omega) h.d h.w h.o h.ws (fun hq => ?_)
          obtain ⟨M2, e5, f5, q5⟩ := QM M (fun _ _ => rfl) hq
          rw [tt] at q5
          exact ⟨M2, e5, fN_of f5 (by omega), q5⟩
        · refine okM h hcb (r := nI (ldR (fun j => M 31 (s * 40 + j)) x (if t 1 < n then t 1 else n) 0 t).2) (M1 := M1) (c' := c') (by rw [C1]; exact g1) (fM_of f1 (by omega)) E1 n1 (by omega) (DI_bump h.d (fun b hb => f1 b (by omega)) (by omega)) (ldR_wf _ hx _ _ _ (by omega) h.w) (wfO_lo h.o h.w lo) (wfSp_cg h.ws (lo 1 (by omega))) (fun hq => ?_)
          obtain ⟨M2, e5, f5, q5⟩ := QM M1 (fun b hb => f1 b (by omega)) hq
          exact ⟨M2, e5, fN_of f5 (by omega), q5⟩
      · refine okFc h (x := -1000001) (k := 0) (by simp (disch := omega) only [r101_0, r101_1, r101_2, r101_5, r101_8, r101_9, r101_11, r101_14, r101_15, r101_16, r101_19, r101_22, r101_23, r101_24, r101_27, r101_28, r101_30, r101_33, r101_34, r101_35, r101_36, r101_39, r101_42, r101_43, r101_45, r101_48, Option.bind_some, vtl_some, vtl_none, s_within, s_isSet5 h.e h.w, h.e.p, h.e.h, h.od5, h.me4, b2_eq0, ite_not2, nz1, nz0, n1z, n0z, if_true, if_false, fd0, fd1, fd2, fd3, fd4, fd5, fd6, if_pos h1, if_neg h3, e1, nI_eq0, if_neg h2]) (fun M1 fr hs1 => ?_)
        have wr := q_wrong1 (L := L) (M := M1) hs w100 (by rw [fr 51 (by omega)]; exact e2)
        rw [if_neg h2] at wr
        have hs := hs1
        simp (disch := omega) only [r221_0, r221_1, r221_2, r221_5, r221_6, r221_7, r221_10, r221_11, r221_12, r221_15, r221_16, r221_17, r221_20, r221_23, r221_24, r221_26, r221_29, Option.bind_some, vtl_some, vtl_none, s_isPart hs h.w, s_isHeir hs h.w, s_isSet6 hs h.w, s_isAny, s_isThing, s_isOne, b2_eq0, ite_not2, nz1, nz0, n1z, n0z, if_true, if_false, gd0, gd1, gd2, gd3, gd4, gd5, gd6, hs 1, hs 2, if_neg h3, wr]
  · exact okF0 h (x := (-1000001)) (k := 0) (by simp (disch := omega) only [r101_0, r101_1, r101_2, r101_5, r101_8, r101_9, r101_11, r101_14, r101_15, r101_16, r101_19, r101_22, r101_23, r101_24, r101_27, r101_28, r101_30, r101_33, Option.bind_some, vtl_some, vtl_none, s_within, s_isSet5 h.e h.w, h.e.p, h.e.h, h.od5, h.me4, b2_eq0, ite_not2, nz1, nz0, n1z, n0z, if_true, if_false, fd0, fd1, fd2, fd3, fd4, fd5, fd6, if_neg h1]) (fun M1 hs => by simp (disch := omega) only [r221_0, r221_1, r221_2, r221_5, r221_6, r221_7, r221_10, r221_11, r221_12, r221_15, Option.bind_some, vtl_some, vtl_none, s_isPart hs h.w, s_isHeir hs h.w, s_isSet6 hs h.w, s_isAny, s_isThing, s_isOne, b2_eq0, ite_not2, nz1, nz0, n1z, n0z, if_true, if_false, gd0, gd1, gd2, gd3, gd4, gd5, gd6, hs 1, hs 2, if_neg h1, q_wrong0 h1, nzB])
/-- how many of a sheet's numbers tell who has the parts -/
def jdR (g : Nat → Int32) (sh : Nat → Nat) (H : Nat) : Nat → Nat → Nat
  | 0, i => i
  | k + 1, i => if g i = nI (owL sh i H) then jdR g sh H k (i + 1) else i
theorem jdR_le (g : Nat → Int32) (sh : Nat → Nat) (H : Nat) : ∀ k i, jdR g sh H k i ≤ i + k := by
  intro k
  induction k with
  | zero => intro i; exact Nat.le_refl _
  | succ k ih =>
    intro i
    rw [jdR]
    split
    · have := ih (i + 1); omega
    · omega
theorem k_jd_l {sh : Nat → Nat} {s m : Nat} {g : Nat → Int32} {v3 : Value} (hE : rE M 2 t z sp) (hw : wfT t) (hs : s < 4) (hg : ∀ x, x < 4 → M 21 x = nI (sh x)) (gs : ∀ x, sh x < 512) (h1 : ∀ p, ow1 sh p 0 (t 2)) (hm : m ≤ 40) (hmP : m ≤ t 1) (hn : ∀ j, j < 40 → M 31 (s * 40 + j) = g j) : ∀ (k i : Nat), i + k = m → R 102 72 [.ref 1, .int (nI s), .ref 21, v3, .int (nI m), .int (nI i)] [] (SH L, M) = R 102 105 [.ref 1, .int (nI s), .ref 21, v3, .int (nI m), .int (nI (jdR g sh (t 2) k i))] [] (SH L, M) := by
  have hP := hw.2.1
  intro k
  induction k with
  | zero =>
    intro i hi
    rw [r102_72]
    simp (disch := omega) only [r102_74, r102_76, nI_le'', show m ≤ i from by omega, if_true]
    rfl
  | succ k ih =>
    intro i hi
    rw [r102_72]
    simp (disch := omega) only [r102_74, r102_76, r102_79, r102_80, r102_83, r102_84, r102_86, r102_89, r102_90, r102_91, r102_93, r102_96, nI_le'', show ¬ m ≤ i from by omega, if_false, k_number hs (show i < 40 by omega), hn i, k_own hE hw hg gs (show i < 9 by omega) (h1 i), Option.bind_some, vtl_some]
    rw [jdR]
    by_cases q : g i = nI (owL sh i (t 2))
    · rw [if_pos q, if_pos q]
      simp only [r102_99, r102_102, nI_add]
      exact ih (i + 1) (by omega)
    · rw [if_neg q, if_neg q]
theorem q_jd_l {sh : Nat → Nat} {s n m : Nat} {g : Nat → Int32} {v2 : Value} (hs1 : rS M t) (hw : wfT t) (hs : s < 4) (hg : ∀ x, x < t 2 → M 47 x = nI (sh x)) (gs : ∀ x, sh x < 512) (hn40 : n ≤ 40) (hm : m = (if t 1 < n then t 1 else n)) (h52 : M 52 s = nI n) (hn : ∀ j, j < 40 → M 53 (40 * s + j) = g j) : ∀ (k i : Nat), i + k = m → R 222 26 [.ref 36, .int (nI s), v2, .int (nI i)] [] (SH L, M) = R 222 71 [.ref 36, .int (nI s), v2, .int (nI (jdR g sh (t 2) k i))] [] (SH L, M) := by
  have hP := hw.2.1
  intro k
  induction k with
  | zero =>
    intro i hi
    have hi40 : i ≤ 40 := by split at hm <;> omega
    rw [r222_26]
    simp (disch := omega) only [r222_27, r222_28, r222_31, r222_32, r222_33, r222_36, r222_37, r222_38, r222_41, r222_42, r222_43, h52, hs1 1, nI_le'']
    by_cases q : n ≤ i
    · rw [if_pos q]; rfl
    · rw [if_neg q, if_pos (by split at hm <;> omega)]; rfl
  | succ k ih =>
    intro i hi
    have hin : i < n ∧ i < t 1 := by split at hm <;> omega
    rw [r222_26]
    simp (disch := omega) only [r222_27, r222_28, r222_31, r222_32, r222_33, r222_36, r222_37, r222_38, r222_41, r222_42, r222_43, r222_46, r222_47, r222_50, r222_52, r222_53, r222_54, r222_55, r222_56, r222_57, r222_58, r222_59, r222_62, h52, hs1 1, nI_le'', show ¬ n ≤ i from by omega, show ¬ t 1 ≤ i from by omega, if_false, pk_mul, nI_add, hn i, q_own hs1 hw hg gs (show i < 9 by omega), Option.bind_some, vtl_some]
    rw [jdR]
    by_cases q : g i = nI (owL sh i (t 2))
    · rw [if_pos q, if_pos q]
      simp only [r222_65, r222_68, nI_add]
      exact ih (i + 1) (by omega)
    · rw [if_neg q, if_neg q]
theorem c_judge (h : IV M t z sp c) (a : Int32) : OK L M c (fun M => R 102 0 [.ref 1, .int a, .null, .null, .null, .null] [] (SH L, M)) (fun M => R 222 0 [.ref 36, .int a, .null, .null] [] (SH L, M)) := by
  have hP := h.w.2.1
  have hal := allT_lt h.w
  by_cases h1 : rng a 4
  · obtain ⟨s, hs, rfl⟩ := rng_of (by omega) h1
    obtain ⟨⟨w, hw, e1, e2⟩, ⟨n, hn, e3, e4⟩⟩ := h.sh.2 s hs
    have w100 : w < 100 := by omega
    by_cases h2 : w = 0
    · refine okFc h (x := -1000006) (k := 5) (by simp (disch := omega) only [r102_0, r102_1, r102_2, r102_5, r102_8, r102_9, r102_11, r102_14, r102_15, r102_16, r102_19, r102_22, r102_23, r102_24, r102_27, r102_28, r102_30, r102_33, Option.bind_some, vtl_some, vtl_none, s_within, s_isSet5 h.e h.w, h.e.p, h.e.h, h.od5, h.me4, b2_eq0, ite_not2, nz1, nz0, n1z, n0z, if_true, if_false, fd0, fd1, fd2, fd3, fd4, fd5, fd6, if_pos h1, e1, nI_eq0, if_pos h2]) (fun M1 fr hs1 => ?_)
      have wr := q_wrong1 (L := L) (M := M1) hs w100 (by rw [fr 51 (by omega)]; exact e2)
      rw [if_pos h2] at wr
      have hs := hs1
      simp (disch := omega) only [r222_0, r222_1, r222_2, r222_5, r222_6, r222_7, r222_10, r222_11, r222_12, r222_15, Option.bind_some, vtl_some, vtl_none, s_isPart hs h.w, s_isHeir hs h.w, s_isSet6 hs h.w, s_isAny, s_isThing, s_isOne, b2_eq0, ite_not2, nz1, nz0, n1z, n0z, if_true, if_false, gd0, gd1, gd2, gd3, gd4, gd5, gd6, hs 1, hs 2, wr, nzM]
    · obtain ⟨M1, g1, f1, d1, q1, sg1⟩ := k_sharesOf (L := L) h (show allT t < 512 by omega)
      have hE1 := rE_fC h.e (by omega) f1
      have gs := sha_lt t (show allT t < 512 by omega)
      have ow := sha_ow1 h.w h.o (show allT t < 512 by omega)
      have mi : (if nI (t 1) < nI n then nI (t 1) else nI n) = nI (if t 1 < n then t 1 else n) := by simp (disch := omega) only [nI_lt', mg_n]
      have hm9 : (if t 1 < n then t 1 else n) ≤ t 1 ∧ (if t 1 < n then t 1 else n) ≤ 40 := by split <;> omega
      have kj := k_jd_l (L := L) (g := fun j => M 31 (s * 40 + j)) (v3 := .int (nI n)) hE1 h.w hs sg1 gs ow hm9.2 hm9.1 (fun j _ => by rw [f1 31 (by omega)]) (if t 1 < n then t 1 else n) 0 (Nat.zero_add _)
      have jl := jdR_le (fun j => M 31 (s * 40 + j)) (sha t (allT t)) (t 2) (if t 1 < n then t 1 else n) 0
      generalize hJ : jdR (fun j => M 31 (s * 40 + j)) (sha t (allT t)) (t 2) (if t 1 < n then t 1 else n) 0 = J at kj jl
      have e3' : M1 33 s = nI n := by rw [f1 33 (by omega)]; exact e3
      have C1 : R 102 0 [.ref 1, .int (nI s), .null, .null, .null, .null] [] (SH L, M) = R 102 105 [.ref 1, .int (nI s), .ref 21, .int (nI n), .int (nI (if t 1 < n then t 1 else n)), .int (nI J)] [] (SH L, M1) := by
        rw [← kj]
        simp (disch := omega) only [r102_0, r102_1, r102_2, r102_5, r102_8, r102_9, r102_11, r102_14, r102_15, r102_16, r102_19, r102_22, r102_23, r102_24, r102_27, r102_28, r102_30, r102_33, r102_34, r102_35, r102_36, r102_39, r102_42, r102_45, r102_46, r102_47, r102_50, r102_53, r102_54, r102_55, r102_56, r102_57, r102_58, r102_61, r102_64, r102_67, r102_69, r102_70, Option.bind_some, vtl_some, vtl_none, s_within, s_isSet5 h.e h.w, h.e.p, h.e.h, h.od5, h.me4, b2_eq0, ite_not2, nz1, nz0, n1z, n0z, if_true, if_false, fd0, fd1, fd2, fd3, fd4, fd5, fd6, if_pos h1, e1, nI_eq0, if_neg h2, s_all isE_2 h.e h.w, g1, e3', hE1.p, mi]
      refine okVc h (r := nI (if J = t 1 ∧ J = n then 0 else 1 + J)) (M1 := M1) ?_ f1 d1 q1 (fun hs1 => ?_)
      · rw [C1]
        simp (disch := omega) only [r102_105, r102_107, r102_108, r102_111, r102_114, r102_117, r102_119, r102_120, r102_123, r102_124, r102_127, r102_128, r102_130, hE1.p, nI_eq', nI_add]
        by_cases p1 : J = t 1
        · rw [if_pos p1]
          by_cases p2 : J = n
          · rw [if_pos p2, if_pos (show J = t 1 ∧ J = n from ⟨p1, p2⟩)]; simp only [r102_131]
          · rw [if_neg p2, if_neg (show ¬ (J = t 1 ∧ J = n) from fun z => p2 z.2)]; simp only [r102_131]
        · rw [if_neg p1, if_neg (show ¬ (J = t 1 ∧ J = n) from fun z => p1 z.1)]; simp only [r102_131]
      · have wr := q_wrong1 (L := L) (M := M1) hs w100 (by rw [f1 51 (by omega)]; exact e2)
        rw [if_neg h2] at wr
        obtain ⟨M2, e5, f5, g5⟩ := s_divides (L := L) h.w h.o hs1 hal.1
        have hs2 := rS_fr hs1 f5
        have b52 : M2 52 s = nI n := by rw [f5 52 (by omega), f1 52 (by omega)]; exact e4
        have qj := q_jd_l (L := L) (g := fun j => M 31 (s * 40 + j)) (v2 := .int (nI 0)) hs2 h.w hs g5 gs hn rfl b52 (fun j hj => by rw [f5 53 (by omega), f1 53 (by omega), show 40 * s + j = s * 40 + j by omega]; exact h.nu (by omega)) (if t 1 < n then t 1 else n) 0 (Nat.zero_add _)
        rw [hJ] at qj
        refine ⟨M2, ?_, fR_S f5, f5 40 (by omega)⟩
        have hs' := hs1
        simp (disch := omega) only [r222_0, r222_1, r222_2, r222_5, r222_6, r222_7, r222_10, r222_11, r222_12, r222_15, r222_16, r222_17, r222_18, r222_21, r222_24, r222_25, wr, s_everything hs1 h.w, e5, nz0, if_true, Option.bind_some, vtl_some, vtl_none]
        rw [qj]
        simp (disch := omega) only [r222_71, r222_72, r222_73, r222_76, r222_77, r222_78, r222_81, r222_82, r222_83, r222_86, r222_87, r222_88, r222_91, r222_92, r222_95, r222_96, r222_97, hs2 1, b52, nI_eq', nI_add]
        by_cases p1 : J = t 1
        · rw [if_pos p1]
          by_cases p2 : J = n
          · rw [if_pos p2, if_pos (show J = t 1 ∧ J = n from ⟨p1, p2⟩)]; simp only [r222_98]
          · rw [if_neg p2, if_neg (show ¬ (J = t 1 ∧ J = n) from fun z => p2 z.2)]; simp only [r222_98]
        · rw [if_neg p1, if_neg (show ¬ (J = t 1 ∧ J = n) from fun z => p1 z.1)]; simp only [r222_98]
  · exact okF0 h (x := (-1000001)) (k := 0) (by simp (disch := omega) only [r102_0, r102_1, r102_2, r102_5, r102_8, r102_9, r102_11, r102_14, r102_15, r102_16, r102_19, r102_22, r102_23, r102_24, r102_27, r102_28, r102_30, r102_33, Option.bind_some, vtl_some, vtl_none, s_within, s_isSet5 h.e h.w, h.e.p, h.e.h, h.od5, h.me4, b2_eq0, ite_not2, nz1, nz0, n1z, n0z, if_true, if_false, fd0, fd1, fd2, fd3, fd4, fd5, fd6, if_neg h1]) (fun M1 hs => by simp (disch := omega) only [r222_0, r222_1, r222_2, r222_5, r222_6, r222_7, r222_10, r222_11, r222_12, r222_15, Option.bind_some, vtl_some, vtl_none, s_isPart hs h.w, s_isHeir hs h.w, s_isSet6 hs h.w, s_isAny, s_isThing, s_isOne, b2_eq0, ite_not2, nz1, nz0, n1z, n0z, if_true, if_false, gd0, gd1, gd2, gd3, gd4, gd5, gd6, hs 1, hs 2, if_neg h1, q_wrong0 h1, nzB])
end LDK
