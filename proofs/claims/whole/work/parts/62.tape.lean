/-! wipe, feed, sheet, write, count, status, tear -/
def nrw (b : Nat) (v : Int32) : Int32 := if b = 8 then v.toInt8.toInt32 else if b = 16 then v.toInt16.toInt32 else v
/-- a byte of a number -/
def fb (x : Int32) (k : Nat) : Nat := x.toBitVec.toNat / 2 ^ (8 * k) % 256
theorem fb_lt (x : Int32) (k : Nat) : fb x k < 256 := Nat.mod_lt _ (by decide)
theorem fbU {x : Int32} {k : Nat} (hk : k < 4) : (x.toUInt32 >>> ((nI (8 * k)).toUInt32 &&& Int32.toUInt32 31)).toInt32 &&& nI 255 = nI (fb x k) := by
  rw [pk_and _ 8 (by decide +kernel), pk_ushr _ _ (8 * k) (ush_ok (8 * k) (by omega))]
  rfl
theorem fbS {x : Int32} {k : Nat} (hk : k < 4) : x >>> (nI (8 * k) &&& 31) &&& nI 255 = nI (fb x k) := by
  rw [pk_and _ 8 (by decide +kernel)]
  congr 1
  have h := pk_shr x (nI (8 * k) &&& 31) (8 * k) (sh_ok (8 * k) (by omega))
  have e1 : (x >>> (nI (8 * k) &&& 31)).toInt = (x >>> (nI (8 * k) &&& 31)).toBitVec.toInt := rfl
  have e2 : x.toInt = x.toBitVec.toInt := rfl
  rw [e1, e2, BitVec.toInt_eq_toNat_cond, BitVec.toInt_eq_toNat_cond, Int.shiftRight_eq_div_pow] at h
  have b1 := x.toBitVec.isLt
  have b2 := (x >>> (nI (8 * k) &&& 31)).toBitVec.isLt
  unfold fb
  generalize (x >>> (nI (8 * k) &&& 31)).toBitVec.toNat = R at h b2 ⊢
  generalize x.toBitVec.toNat = X at h b1 ⊢
  have : k = 0 ∨ k = 1 ∨ k = 2 ∨ k = 3 := by omega
  rcases this with rfl | rfl | rfl | rfl <;> simp only [Nat.mul_zero, Nat.reduceMul, Nat.reducePow, Int.reducePow, Nat.mul_one] at h ⊢ <;> (repeat' split at h) <;> omega
section TPE
variable {L : Nat} {M : Nat → Nat → Int32} {t : Nat → Nat} {z : Int32} {sp : Nat → Int32} {c : Nat}
theorem okG {C Q : (Nat → Nat → Int32) → RES} {r : Int32} {M1 M2 : Nat → Nat → Int32} {t' : Nat → Nat} {z' : Int32} {sp' : Nat → Int32} {c' : Nat} (hC : C M = some (some (.int r), (SH L, M1))) (hQ : Q M1 = some (some (.int r), (SH L, M2))) (hI : IV M2 t' z' sp' c') (hc : c' ≤ c + 12) : OK L M c C Q := ⟨r, M1, M2, hC, hQ, t', z', sp', c', hI, hc⟩
theorem IV.k (h : IV M t z sp c) : RK M := h.2.2.2.2.2.2.1
theorem IV.tp (h : IV M t z sp c) : RT M := h.2.2.2.2.2.2.2.1
theorem IV.sh (h : IV M t z sp c) : RH M := h.2.2.2.2.2.2.2.2
theorem DI_4 {M' : Nat → Nat → Int32} (h : DI M t c) (e17 : M' 17 = M 17) (e18 : M' 18 = M 18) (e19 : M' 19 = M 19) (e20 : M' 20 = M 20) : DI M' t c := by
  obtain ⟨sn, cv, bt, r, h5, hsn, h6, hcv, h7, hbt, hr4, hr, ht⟩ := h
  exact ⟨sn, cv, bt, r, by rw [e17]; exact h5, hsn, by rw [e17]; exact h6, hcv, by rw [e17]; exact h7, hbt, hr4, fun i hi => by rw [e20]; exact hr i hi, fun q => ⟨fun h hh s hs => by rw [e18]; exact (ht q).1 h hh s hs, fun k hk => ⟨((ht q).2 k hk).1, fun s hs => by rw [e19]; exact ((ht q).2 k hk).2 s hs⟩⟩⟩
theorem IV_ts (h : IV M t z sp c) {M2 : Nat → Nat → Int32} (f : ∀ b, (b ≤ 11 ∨ (17 ≤ b ∧ b ≤ 20) ∨ b = 34 ∨ b = 37 ∨ b = 38 ∨ b = 40) → M2 b = M b) (e4 : M2 36 4 = M 36 4) (hT : RT M2) (hH : RH M2) : IV M2 t z sp c := by
  obtain ⟨hw, hsp, hE, hQ, ⟨hc, hcb, hd⟩, hF, hK, -, -⟩ := h
  refine ⟨hw, hsp, rE_eq hE (fun k hk => f _ (by omega)), ?_, ⟨by rw [f 2 (by omega)]; exact hc, hcb, DI_4 hd (f 17 (by omega)) (f 18 (by omega)) (f 19 (by omega)) (f 20 (by omega))⟩, fun i hi => by rw [f 34 (by omega), f 40 (by omega)]; exact hF i hi, RK_eq hK (f _ (by omega)) e4 (fun k hb => f k (by omega)) (f _ (by omega)), hT, hH⟩
  unfold rQ
  rw [f 37 (by omega)]
  exact hQ
theorem c_wipe (h : IV M t z sp c) : OK L M c (fun M => R 94 0 [.ref 1, .null] [] (SH L, M)) (fun M => R 197 0 [.ref 36, .null] [] (SH L, M)) := by
  obtain ⟨n, b, hn, e1, e2, hk⟩ := h.tp
  have z1 : upd2 M 24 1 (nI 0) 36 14 = nI n := by rw [upd2_ne (Or.inl (by omega))]; exact e2
  refine okG (r := nI n) (M1 := upd2 M 24 1 (nI 0)) (M2 := upd2 (upd2 M 24 1 (nI 0)) 36 14 (nI 0)) (by simp only [r94_0, r94_1, r94_4, r94_7, r94_8, r94_9, r94_12, r94_15, r94_16, r42_0, r42_1, r42_2, r42_5, e1, Option.bind_some, vtl_none]) (by simp only [r197_0, r197_1, r197_4, r197_5, r197_6, r197_7, r197_10, r197_11, z1]) (IV_ts h (fun b hb => by funext j; rw [upd2_ne (Or.inl (by omega)), upd2_ne (Or.inl (by omega))]) (by rw [upd2_ne (Or.inr (by omega)), upd2_ne (Or.inl (by omega))]) ⟨0, fun _ => 0, Nat.zero_le _, by rw [upd2_ne (Or.inl (by omega)), upd2_eq], upd2_eq, fun i hi => absurd hi (Nat.not_lt_zero _)⟩ (RH_eq h.sh ?_ ?_ ?_ ?_ ?_ ?_)) (Nat.le_add_right _ _)
  all_goals (funext j; rw [upd2_ne (Or.inl (by omega)), upd2_ne (Or.inl (by omega))])
theorem k_feed_l {x : Int32} {v2 : Value} : ∀ (k n : Nat) (M : Nat → Nat → Int32), k ≤ 4 → n + k ≤ 120 → M 24 1 = nI n → ∃ M', R 93 42 [.ref 1, .int x, v2, .int (nI k + (-1))] [] (SH L, M) = some (some (.int (nI (n + k))), (SH L, M')) ∧ (∀ b, b ≠ 24 → b ≠ 25 → M' b = M b) ∧ M' 24 1 = nI (n + k) ∧ (∀ j, j < n → M' 25 j = M 25 j) ∧ (∀ i, i < k → M' 25 (n + i) = nI (fb x (k - 1 - i))) := by
  intro k
  induction k with
  | zero =>
    intro n M _ hn h1
    refine ⟨M, ?_, fun _ _ _ => rfl, h1, fun _ _ => rfl, fun i hi => absurd hi (Nat.not_lt_zero _)⟩
    simp only [r93_42, r93_43, dn0, if_true, r93_69, r93_70, r93_73, r93_76, h1, Nat.add_zero]
  | succ k ih =>
    intro n M hk hn h1
    have a1 : upd2 M 25 n (nI (fb x k)) 24 1 = nI n := by rw [upd2_ne (Or.inl (by omega))]; exact h1
    obtain ⟨M', e, f, g1, g2, g3⟩ := ih (n + 1) (upd2 (upd2 M 25 n (nI (fb x k))) 24 1 (nI (n + 1))) (by omega) (by omega) upd2_eq
    refine ⟨M', ?_, fun b h1 h2 => ?_, by rw [g1]; congr 1; omega, fun j hj => ?_, fun i hi => ?_⟩
    · rw [nI_dec]
      simp (disch := omega) only [r93_42, r93_43, r93_46, r93_47, r93_50, r93_51, r93_53, r93_54, r93_55, r93_56, r93_59, r93_60, nI_lt0, if_false, pk_mul, fbU, r41_0, r41_1, r41_4, r41_6, r41_9, r41_10, r41_13, r41_14, r41_17, r41_18, r41_19, r41_20, r41_21, r41_24, r41_25, r41_26, r41_29, h1, nI_le'', show ¬ 120 ≤ n from by omega, a1, nI_add, Option.bind_some, vtl_none]
      simp only [r93_63, r93_66]
      rw [e, show n + 1 + k = n + (k + 1) by omega]
    · rw [f b h1 h2]; funext j; rw [upd2_ne (Or.inl (by omega)), upd2_ne (Or.inl (by omega))]
    · rw [g2 j (by omega), upd2_ne (Or.inl (by omega)), upd2_ne (Or.inr (by omega))]
    · by_cases q : i = 0
      · subst q
        rw [Nat.add_zero, g2 n (by omega), upd2_ne (Or.inl (by omega)), upd2_eq]
        congr 2
      · have := g3 (i - 1) (by omega)
        rw [show n + 1 + (i - 1) = n + i by omega] at this
        rw [this]
        congr 2
        omega
theorem q_feed_l {x : Int32} {v2 : Value} : ∀ (k n : Nat) (M : Nat → Nat → Int32), k ≤ 4 → n + k ≤ 120 → M 36 14 = nI n → ∃ M', R 196 41 [.ref 36, .int x, v2, .int (nI k + (-1))] [] (SH L, M) = some (some (.int (nI (n + k))), (SH L, M')) ∧ (∀ b, b ≠ 36 → b ≠ 49 → M' b = M b) ∧ M' 36 4 = M 36 4 ∧ M' 36 14 = nI (n + k) ∧ (∀ j, j < n → M' 49 j = M 49 j) ∧ (∀ i, i < k → M' 49 (n + i) = nI (fb x (k - 1 - i))) := by
  intro k
  induction k with
  | zero =>
    intro n M _ hn h1
    refine ⟨M, ?_, fun _ _ _ => rfl, rfl, h1, fun _ _ => rfl, fun i hi => absurd hi (Nat.not_lt_zero _)⟩
    simp only [r196_41, r196_42, dn0, if_true, r196_80, r196_81, r196_84, h1, Nat.add_zero]
  | succ k ih =>
    intro n M hk hn h1
    have a1 : upd2 M 49 n (nI (fb x k)) 36 14 = nI n := by rw [upd2_ne (Or.inl (by omega))]; exact h1
    obtain ⟨M', e, f, g0, g1, g2, g3⟩ := ih (n + 1) (upd2 (upd2 M 49 n (nI (fb x k))) 36 14 (nI (n + 1))) (by omega) (by omega) upd2_eq
    refine ⟨M', ?_, fun b h1 h2 => ?_, ?_, by rw [g1]; congr 1; omega, fun j hj => ?_, fun i hi => ?_⟩
    · rw [nI_dec]
      simp (disch := omega) only [r196_41, r196_42, r196_45, r196_46, r196_49, r196_50, r196_53, r196_54, r196_56, r196_57, r196_58, r196_59, r196_62, r196_63, r196_64, r196_65, r196_66, r196_69, r196_70, r196_71, nI_lt0, if_false, pk_mul, fbS, h1, a1, nI_add]
      simp only [r196_74, r196_77]
      rw [e, show n + 1 + k = n + (k + 1) by omega]
    · rw [f b h1 h2]; funext j; rw [upd2_ne (Or.inl (by omega)), upd2_ne (Or.inl (by omega))]
    · rw [g0, upd2_ne (Or.inr (by omega)), upd2_ne (Or.inl (by omega))]
    · rw [g2 j (by omega), upd2_ne (Or.inl (by omega)), upd2_ne (Or.inr (by omega))]
    · by_cases q : i = 0
      · subst q
        rw [Nat.add_zero, g2 n (by omega), upd2_ne (Or.inl (by omega)), upd2_eq]
        congr 2
      · have := g3 (i - 1) (by omega)
        rw [show n + 1 + (i - 1) = n + i by omega] at this
        rw [this]
        congr 2
        omega
theorem c_feed (h : IV M t z sp c) (a b : Int32) : OK L M c (fun M => R 93 0 [.ref 1, .int a, .int b, .null] [] (SH L, M)) (fun M => R 196 0 [.ref 36, .int a, .int b, .null] [] (SH L, M)) := by
  have i4 : ∀ w : vW, R 123 0 [.long b.toInt64, .null, .long 1, .null, .long 4, .null] [] w = some (some (.int (if nI 1 ≤ b ∧ b ≤ nI 4 then nI 1 else nI 0)), w) := fun w => s_in32 (show (1 : Int64) = (nI 1).toInt64 from by decide +kernel) (show (4 : Int64) = (nI 4).toInt64 from by decide +kernel)
  obtain ⟨n, by_, hn, e1, e2, hk⟩ := h.tp
  by_cases h1 : nI 1 ≤ b ∧ b ≤ nI 4
  · obtain ⟨k, k1, k4, rfl⟩ := rng1 (by omega) h1.1 h1.2
    by_cases h2 : n + k ≤ 120
    · obtain ⟨M1, g1, f1, l1, o1, w1⟩ := k_feed_l (L := L) (x := a) (v2 := .int (nI k)) k n M k4 h2 e1
      have e2' : M1 36 14 = nI n := by rw [f1 36 (by omega) (by omega)]; exact e2
      obtain ⟨M2, g2, f2, l0, l2, o2, w2⟩ := q_feed_l (L := L) (x := a) (v2 := .int (nI k)) k n M1 k4 h2 e2'
      have dk : nI k + (-1) = nI (k - 1) := by
        obtain ⟨j, rfl⟩ : ∃ j, k = j + 1 := ⟨k - 1, by omega⟩
        rw [nI_dec, Nat.add_sub_cancel]
      rw [dk] at g1 g2
      refine okG (r := nI (n + k)) (M1 := M1) (M2 := M2) (by simp (disch := omega) only [r93_0, r93_1, r93_2, r93_5, r93_6, r93_7, r93_10, r93_11, r93_13, r93_16, r93_17, r93_18, r93_21, r93_24, r93_25, r93_26, r93_28, r93_31, r93_32, r93_34, r93_37, r93_38, r93_39, r93_40, r93_41, Option.bind_some, vtl_some, vtl_none, s_within, s_isSet5 h.e h.w, h.e.p, h.e.h, h.od5, h.me4, b2_eq0, ite_not2, nz1, nz0, n1z, n0z, if_true, if_false, fd0, fd1, fd2, fd3, fd4, fd5, fd6, nI_lt', show ¬ k < 1 from by omega, nI_le'', k4, e1, nI_add, h2, pk_sub k1, g1]) (by have hs := h.s; simp (disch := omega) only [r196_0, r196_1, r196_2, r196_3, r196_6, r196_9, r196_12, r196_13, r196_15, r196_18, r196_19, r196_20, r196_23, r196_24, r196_25, r196_27, r196_30, r196_31, r196_33, r196_36, r196_37, r196_38, r196_39, r196_40, i4, nI_le'', k1, k4, and_self, if_true, nz1, if_false, e2', nI_add, h2, pk_sub k1, g2, Option.bind_some, vtl_some]) (IV_ts h (fun b hb => by rw [f2 b (by omega) (by omega), f1 b (by omega) (by omega)]) (by rw [l0, f1 36 (by omega) (by omega)]) ⟨n + k, fun i => if i < n then by_ i else fb a (k - 1 - (i - n)), h2, by rw [f2 24 (by omega) (by omega)]; exact l1, l2, fun i hi => ?_⟩ (RH_eq h.sh ?_ ?_ ?_ ?_ ?_ ?_)) (Nat.le_add_right _ _)
      · by_cases q : i < n
        · obtain ⟨q1, q2, q3⟩ := hk i q
          simp only [if_pos q]
          refine ⟨q1, ?_, ?_⟩
          · rw [f2 25 (by omega) (by omega), o1 i q]; exact q2
          · rw [o2 i q, f1 49 (by omega) (by omega)]; exact q3
        · simp only [if_neg q]
          have a1 := w1 (i - n) (by omega)
          have a2 := w2 (i - n) (by omega)
          rw [show n + (i - n) = i by omega] at a1 a2
          exact ⟨fb_lt _ _, by rw [f2 25 (by omega) (by omega)]; exact a1, a2⟩
      all_goals rw [f2 _ (by omega) (by omega), f1 _ (by omega) (by omega)]
    · refine okFc h (x := -1000002) (k := 1) (by simp (disch := omega) only [r93_0, r93_1, r93_2, r93_5, r93_6, r93_7, r93_10, r93_11, r93_13, r93_16, r93_17, r93_18, r93_21, r93_24, r93_25, r93_26, r93_28, r93_31, r93_32, r93_34, r93_37, r93_38, r93_39, r93_40, r93_41, r93_42, r93_43, r93_46, r93_47, r93_50, r93_51, r93_53, r93_54, r93_55, r93_56, r93_59, r93_60, r93_63, r93_66, r93_69, r93_70, r93_73, r93_76, Option.bind_some, vtl_some, vtl_none, s_within, s_isSet5 h.e h.w, h.e.p, h.e.h, h.od5, h.me4, b2_eq0, ite_not2, nz1, nz0, n1z, n0z, if_true, if_false, fd0, fd1, fd2, fd3, fd4, fd5, fd6, nI_lt', show ¬ k < 1 from by omega, nI_le'', k4, e1, nI_add, h2]) (fun M1 fr hs => ?_)
      have e2' : M1 36 14 = nI n := by rw [fr 36 (by omega)]; exact e2
      simp (disch := omega) only [r196_0, r196_1, r196_2, r196_3, r196_6, r196_9, r196_12, r196_13, r196_15, r196_18, r196_19, r196_20, r196_23, r196_24, r196_25, r196_27, r196_30, r196_31, r196_33, r196_36, i4, nI_le'', k1, k4, and_self, if_true, nz1, if_false, e2', nI_add, h2, gd1, Option.bind_some, vtl_some]
  · exact okF0 h (x := (-1000001)) (k := 0) (by simp (disch := omega) only [r93_0, r93_1, r93_2, r93_5, r93_6, r93_7, r93_10, r93_11, r93_13, r93_16, r93_17, r93_18, r93_21, r93_24, r93_25, r93_26, r93_28, r93_31, r93_32, r93_34, r93_37, r93_38, r93_39, r93_40, r93_41, r93_42, r93_43, r93_46, r93_47, r93_50, r93_51, r93_53, r93_54, r93_55, r93_56, r93_59, r93_60, r93_63, r93_66, r93_69, r93_70, r93_73, r93_76, Option.bind_some, vtl_some, vtl_none, s_within, s_isSet5 h.e h.w, h.e.p, h.e.h, h.od5, h.me4, b2_eq0, ite_not2, nz1, nz0, n1z, n0z, if_true, if_false, fd0, fd1, fd2, fd3, fd4, fd5, fd6, if_neg h1, ite_rng1]) (fun M1 hs => by simp (disch := omega) only [r196_0, r196_1, r196_2, r196_3, r196_6, r196_9, r196_12, r196_13, r196_15, r196_18, r196_19, r196_20, r196_23, r196_24, r196_25, r196_27, r196_30, r196_31, r196_33, r196_36, r196_37, r196_38, r196_39, r196_40, r196_41, r196_42, r196_45, r196_46, r196_49, r196_50, r196_53, r196_54, r196_56, r196_57, r196_58, r196_59, r196_62, r196_63, r196_64, r196_65, r196_66, r196_69, r196_70, r196_71, r196_74, r196_77, r196_80, r196_81, r196_84, Option.bind_some, vtl_some, vtl_none, s_isPart hs h.w, s_isHeir hs h.w, s_isSet6 hs h.w, s_isAny, s_isThing, s_isOne, b2_eq0, ite_not2, nz1, nz0, n1z, n0z, if_true, if_false, gd0, gd1, gd2, gd3, gd4, gd5, gd6, hs 1, hs 2, if_neg h1, i4])
end TPE
