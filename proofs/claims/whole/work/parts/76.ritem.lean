/-! The reference reads heirs, who knows, an item -/
section RIT
variable {L : Nat} {M : Nat → Nat → Int32} {n : Nat} {b : Nat → Nat} {t : Nat → Nat} {z : Int32} {sp : Nat → Int32}
theorem q_he_1 {p0 m s : Nat} {v4 : Value} (hm : m < 4) (hs16 : s < 16) (hx : RX M n b 0 (nxI n b p0 m)) : ∃ M1, fX M M1 ∧ (soN n b (nxI n b p0 m) = 2 ∧ nuN n b (nxI n b p0 m) ≤ 3 ∧ ¬ s.testBit (nuN n b (nxI n b p0 m)) = true → RX M1 n b 0 (nxI n b p0 (m + 1)) ∧ R 210 11 [.ref 36, .int (nI m), .int (nI s), .int (nI 1), v4] [] (SH L, M) = R 210 70 [.ref 36, .int (nI m), .int (nI s), .int (nI 1), .int (nI (nuN n b (nxI n b p0 m)))] [] (SH L, M1)) ∧ (¬ (soN n b (nxI n b p0 m) = 2 ∧ nuN n b (nxI n b p0 m) ≤ 3 ∧ ¬ s.testBit (nuN n b (nxI n b p0 m)) = true) → RX M1 n b 1 (nxI n b p0 m) ∧ ∃ v4', R 210 11 [.ref 36, .int (nI m), .int (nI s), .int (nI 1), v4] [] (SH L, M) = R 210 109 [.ref 36, .int (nI m), .int (nI s), .int (nI 1), v4'] [] (SH L, M1)) := by
  have nh := q_isNumberHere (L := L) hx
  have loopend : ∀ (M1 : Nat → Nat → Int32) (v : Value), RX M1 n b 1 (nxI n b p0 m) → R 210 11 [.ref 36, .int (nI m), .int (nI s), .int (nI 1), v] [] (SH L, M1) = R 210 109 [.ref 36, .int (nI m), .int (nI s), .int (nI 1), v] [] (SH L, M1) := fun M1 v h1 => by
    rw [r210_11]
    simp only [r210_12, r210_15, r210_16, r210_19, nz1, if_false, RX_18 h1]
  by_cases q1 : soN n b (nxI n b p0 m) = 2
  · rw [if_pos ⟨rfl, q1⟩] at nh
    have h1 := so_lt q1 (by decide)
    have here := q_numberHere (L := L) hx q1
    obtain ⟨n1, n2, n3⟩ := nr_nu (b := b) h1 q1 (m := 3) (by omega)
    have st : R 210 11 [.ref 36, .int (nI m), .int (nI s), .int (nI 1), v4] [] (SH L, M) = R 210 39 [.ref 36, .int (nI m), .int (nI s), .int (nI 1), .int (nI (nrV b (nxI n b p0 m) (toE n b (nxI n b p0 m) - nxI n b p0 m)))] [] (SH L, M) := by
      rw [r210_11]
      simp only [r210_12, r210_15, r210_16, r210_19, r210_22, r210_23, r210_26, r210_29, r210_30, r210_33, r210_36, r210_37, nz1, nz0, if_false, if_true, RX_18 hx, nh, here, Option.bind_some, vtl_some]
    rw [st]
    generalize nrV b (nxI n b p0 m) (toE n b (nxI n b p0 m) - nxI n b p0 m) = v at n1 n2 n3
    by_cases q2 : nuN n b (nxI n b p0 m) ≤ 3
    · have hv := n2 q2
      subst hv
      have hh := s_has (s := s) (p := nuN n b (nxI n b p0 m)) (w := (SH L, M)) (by omega) (by omega)
      by_cases q3 : s.testBit (nuN n b (nxI n b p0 m)) = true
      · obtain ⟨M1, e1, f1, -, -, w1⟩ := q_needs (L := L) hx (c := 0) (by omega)
        have x1 := w1 (fun y => absurd y.2 (by decide))
        refine ⟨M1, f1, fun y => absurd q3 y.2.2, fun _ => ⟨x1, .int (nI (nuN n b (nxI n b p0 m))), ?_⟩⟩
        rw [← loopend M1 _ x1]
        rw [if_pos q3] at hh
        simp (disch := omega) only [r210_39, r210_40, r210_42, r210_43, r210_46, r210_47, r210_49, r210_52, r210_55, r210_56, r210_59, nI_le'', show ¬ 4 ≤ nuN n b (nxI n b p0 m) from by omega, if_false, hh, nz1, Option.bind_some, vtl_some]
        simp only [r210_60, r210_63, r210_64, r210_67, e1, RX_18 x1, nz1, if_false, Option.bind_some, vtl_none]
        simp only [r210_106]
      · obtain ⟨M1, e1, f1, -, y1, -⟩ := q_needs (L := L) hx (c := 1) (by omega)
        have x1 := y1 ⟨rfl, rfl⟩
        refine ⟨M1, f1, fun _ => ⟨x1, ?_⟩, fun y => absurd ⟨q1, q2, q3⟩ y⟩
        rw [if_neg q3] at hh
        simp (disch := omega) only [r210_39, r210_40, r210_42, r210_43, r210_46, r210_47, r210_49, r210_52, r210_55, r210_56, r210_59, nI_le'', show ¬ 4 ≤ nuN n b (nxI n b p0 m) from by omega, if_false, hh, nz0, if_true, Option.bind_some, vtl_some]
        simp only [r210_60, r210_63, r210_64, r210_67, e1, RX_18 x1, nz0, if_true, Option.bind_some, vtl_none]
    · obtain ⟨M1, e1, f1, -, -, w1⟩ := q_needs (L := L) hx (c := 0) (by omega)
      have x1 := w1 (fun y => absurd y.2 (by decide))
      refine ⟨M1, f1, fun y => absurd y.2.1 q2, fun _ => ⟨x1, .int (nI v), ?_⟩⟩
      rw [← loopend M1 _ x1]
      simp (disch := omega) only [r210_39, r210_40, r210_42, r210_43, r210_59, nI_le'', show 4 ≤ v from by omega, if_true]
      simp only [r210_60, r210_63, r210_64, r210_67, e1, RX_18 x1, nz1, if_false, Option.bind_some, vtl_none]
      simp only [r210_106]
  · rw [if_neg (fun y => q1 y.2)] at nh
    obtain ⟨M1, e1, f1, -, -, w1⟩ := q_needs (L := L) hx (c := 0) (by omega)
    have x1 := w1 (fun y => absurd y.2 (by decide))
    refine ⟨M1, f1, fun y => absurd y.1 q1, fun _ => ⟨x1, .int (nI 4), ?_⟩⟩
    rw [← loopend M1 _ x1, r210_11]
    simp (disch := omega) only [r210_12, r210_15, r210_16, r210_19, r210_22, r210_23, r210_26, r210_29, r210_36, r210_37, r210_39, r210_40, r210_42, r210_43, r210_59, nz1, nz0, if_false, if_true, RX_18 hx, nh, Option.bind_some, vtl_some, nI_le'', Nat.le_refl]
    simp only [r210_60, r210_63, r210_64, r210_67, e1, RX_18 x1, nz1, if_false, Option.bind_some, vtl_none]
    simp only [r210_106]
theorem q_he_l {p0 : Nat} : ∀ (k m s : Nat) (M : Nat → Nat → Int32) (v4 : Value), m + k + 1 = 4 → s < 16 → RX M n b 0 (nxI n b p0 m) → (0 < m → soN n b (nxI n b p0 m) = 2) → (∀ j, j < m → M 50 j = nI (vaN n b p0 j)) → ∃ M' mo v4', R 210 11 [.ref 36, .int (nI m), .int (nI s), .int (nI 1), v4] [] (SH L, M) = R 210 109 [.ref 36, .int (nI (heM n b p0 (k + 1) m s).2.1), .int (nI (heM n b p0 (k + 1) m s).2.2), mo, v4'] [] (SH L, M') ∧ f50 M M' ∧ ((heM n b p0 (k + 1) m s).1 = true → (heM n b p0 (k + 1) m s).2.1 ≠ 0 → RX M' n b 0 (nxI n b p0 (heM n b p0 (k + 1) m s).2.1) ∧ ∀ j, j < (heM n b p0 (k + 1) m s).2.1 → M' 50 j = nI (vaN n b p0 j)) ∧ (¬ ((heM n b p0 (k + 1) m s).1 = true ∧ (heM n b p0 (k + 1) m s).2.1 ≠ 0) → RX M' n b 1 (nxI n b p0 (heM n b p0 (k + 1) m s).2.1)) := by
  have bad : ∀ (k m s : Nat) (M : Nat → Nat → Int32) (v4 : Value), m < 4 → s < 16 → RX M n b 0 (nxI n b p0 m) → (0 < m → soN n b (nxI n b p0 m) = 2) → ¬ (soN n b (nxI n b p0 m) = 2 ∧ nuN n b (nxI n b p0 m) ≤ 3 ∧ ¬ s.testBit (nuN n b (nxI n b p0 m)) = true) → ∃ M' mo v4', R 210 11 [.ref 36, .int (nI m), .int (nI s), .int (nI 1), v4] [] (SH L, M) = R 210 109 [.ref 36, .int (nI (heM n b p0 (k + 1) m s).2.1), .int (nI (heM n b p0 (k + 1) m s).2.2), mo, v4'] [] (SH L, M') ∧ f50 M M' ∧ ((heM n b p0 (k + 1) m s).1 = true → (heM n b p0 (k + 1) m s).2.1 ≠ 0 → RX M' n b 0 (nxI n b p0 (heM n b p0 (k + 1) m s).2.1) ∧ ∀ j, j < (heM n b p0 (k + 1) m s).2.1 → M' 50 j = nI (vaN n b p0 j)) ∧ (¬ ((heM n b p0 (k + 1) m s).1 = true ∧ (heM n b p0 (k + 1) m s).2.1 ≠ 0) → RX M' n b 1 (nxI n b p0 (heM n b p0 (k + 1) m s).2.1)) := by
    intro k m s M v4 hm hs hx hso hq
    obtain ⟨M1, f1, -, w1⟩ := q_he_1 (L := L) (v4 := v4) hm hs hx
    obtain ⟨x1, v4', e1⟩ := w1 hq
    have tr : ((heM n b p0 (k + 1) m s).1 = false ∨ m = 0) ∧ (heM n b p0 (k + 1) m s).2 = (m, s) := by
      rw [heM]
      by_cases y : soN n b (nxI n b p0 m) = 2
      · rw [if_pos y, if_neg (fun y2 => hq ⟨y, y2.1, y2.2⟩)]
        exact ⟨Or.inl rfl, rfl⟩
      · rw [if_neg y]
        refine ⟨Or.inr ?_, rfl⟩
        rcases Nat.eq_zero_or_pos m with y2 | y2
        · exact y2
        · exact absurd (hso y2) y
    rw [tr.2]
    refine ⟨M1, _, v4', e1, f50_X f1, fun y1 y2 => ?_, fun _ => x1⟩
    rcases tr.1 with y | y
    · rw [y] at y1; cases y1
    · exact absurd y y2
  intro k
  induction k with
  | zero =>
    intro m s M v4 hk hs hx hso hv
    by_cases hq : soN n b (nxI n b p0 m) = 2 ∧ nuN n b (nxI n b p0 m) ≤ 3 ∧ ¬ s.testBit (nuN n b (nxI n b p0 m)) = true
    · have hm : m = 3 := by omega
      subst hm
      obtain ⟨M1, f1, y1, -⟩ := q_he_1 (L := L) (v4 := v4) (by omega) hs hx
      obtain ⟨x1, e1⟩ := y1 hq
      have tr : heM n b p0 (0 + 1) 3 s = (true, 4, s ||| 2 ^ nuN n b (nxI n b p0 3)) := by
        rw [heM, if_pos hq.1, if_pos ⟨hq.2.1, hq.2.2⟩]
        rfl
      rw [tr]
      refine ⟨upd2 M1 50 3 (nI (nuN n b (nxI n b p0 3))), .int (nI 0), .int (nI (nuN n b (nxI n b p0 3))), ?_, fun c i h1 h2 => by rw [upd2_ne (Or.inl h1)]; exact f1 c i h2, fun _ _ => ⟨RX_50 x1, fun j hj => ?_⟩, fun y => absurd ⟨rfl, by show (4 : Nat) ≠ 0; omega⟩ y⟩
      · rw [e1]
        simp (disch := omega) only [r210_70, r210_71, r210_74, r210_75, r210_77, r210_78, r210_79, r210_80, r210_82, r210_83, r210_84, r210_85, r210_88, r210_89, r210_90, r210_93, r210_104, nI_shl1, nI_or, nI_add, Nat.reduceAdd, nI_le'', Nat.le_refl, if_true]
        simp only [r210_105, r210_106]
        rw [r210_11]
        simp only [r210_12, nz0, if_true]
      · have hj : j < 4 := hj
        by_cases e : j = 3
        · subst e; exact upd2_eq
        · rw [upd2_ne (Or.inr e), f1 50 j (by omega)]; exact hv j (by omega)
    · exact bad 0 m s M v4 (by omega) hs hx hso hq
  | succ k ih =>
    intro m s M v4 hk hs hx hso hv
    by_cases hq : soN n b (nxI n b p0 m) = 2 ∧ nuN n b (nxI n b p0 m) ≤ 3 ∧ ¬ s.testBit (nuN n b (nxI n b p0 m)) = true
    · obtain ⟨M1, f1, y1, -⟩ := q_he_1 (L := L) (v4 := v4) (by omega) hs hx
      obtain ⟨x1, e1⟩ := y1 hq
      have x2 : RX (upd2 M1 50 m (nI (nuN n b (nxI n b p0 m)))) n b 0 (nxI n b p0 (m + 1)) := RX_50 x1
      have nh := q_isNumberHere (L := L) x2
      have tv : ∀ j, j < m + 1 → upd2 M1 50 m (nI (nuN n b (nxI n b p0 m))) 50 j = nI (vaN n b p0 j) := fun j hj => by
        by_cases e : j = m
        · subst e; exact upd2_eq
        · rw [upd2_ne (Or.inr e), f1 50 j (by omega)]; exact hv j (by omega)
      have fr : f50 M (upd2 M1 50 m (nI (nuN n b (nxI n b p0 m)))) := fun c i h1 h2 => by rw [upd2_ne (Or.inl h1)]; exact f1 c i h2
      have s16 : s ||| 2 ^ nuN n b (nxI n b p0 m) < 16 := Nat.or_lt_two_pow (n := 4) hs (Nat.pow_lt_pow_right (by decide) (by omega))
      rw [heM, if_pos hq.1, if_pos ⟨hq.2.1, hq.2.2⟩, e1]
      by_cases q3 : soN n b (nxI n b p0 (m + 1)) = 2
      · rw [if_pos ⟨rfl, q3⟩] at nh
        obtain ⟨M', mo, v4', e, f, g⟩ := ih (m + 1) _ _ (.int (nI (nuN n b (nxI n b p0 m)))) (by omega) s16 x2 (fun _ => q3) tv
        refine ⟨M', mo, v4', ?_, f50_tr fr f, g⟩
        rw [← e]
        simp (disch := omega) only [r210_70, r210_71, r210_74, r210_75, r210_77, r210_78, r210_79, r210_80, r210_82, r210_83, r210_84, r210_85, r210_88, r210_89, r210_90, r210_93, r210_94, r210_97, r210_100, r210_101, r210_104, nI_shl1, nI_or, nI_add, nI_le'', show ¬ 4 ≤ m + 1 from by omega, if_false, nh, nz1, Option.bind_some, vtl_some]
        simp only [r210_105, r210_106]
      · rw [if_neg (fun y => q3 y.2)] at nh
        have tr : heM n b p0 (k + 1) (m + 1) (s ||| 2 ^ nuN n b (nxI n b p0 m)) = (true, m + 1, s ||| 2 ^ nuN n b (nxI n b p0 m)) := by rw [heM, if_neg q3]
        rw [tr]
        refine ⟨upd2 M1 50 m (nI (nuN n b (nxI n b p0 m))), .int (nI 0), .int (nI (nuN n b (nxI n b p0 m))), ?_, fr, fun _ _ => ⟨x2, tv⟩, fun y => absurd ⟨rfl, by show m + 1 ≠ 0; omega⟩ y⟩
        simp (disch := omega) only [r210_70, r210_71, r210_74, r210_75, r210_77, r210_78, r210_79, r210_80, r210_82, r210_83, r210_84, r210_85, r210_88, r210_89, r210_90, r210_93, r210_94, r210_97, r210_100, r210_101, r210_104, nI_shl1, nI_or, nI_add, nI_le'', show ¬ 4 ≤ m + 1 from by omega, if_false, nh, nz0, if_true, Option.bind_some, vtl_some]
        simp only [r210_105, r210_106]
        rw [r210_11]
        simp only [r210_12, nz0, if_true]
    · exact bad (k + 1) m s M v4 (by omega) hs hx hso hq
def ho2 (t : Nat → Nat) (m j : Nat) (f : Nat → Nat) : Nat → Nat := fun k => if k = 2 then m else if 5 ≤ k ∧ k < 5 + j then f (k - 5) else if 5 ≤ k ∧ k < 9 then k - 5 else t k
theorem ho2_s {m j : Nat} {f : Nat → Nat} : ut (ho2 t m j f) (5 + j) (f j) = ho2 t m (j + 1) f := by
  funext k
  show (if k = 5 + j then f j else (if k = 2 then m else if 5 ≤ k ∧ k < 5 + j then f (k - 5) else if 5 ≤ k ∧ k < 9 then k - 5 else t k)) = (if k = 2 then m else if 5 ≤ k ∧ k < 5 + (j + 1) then f (k - 5) else if 5 ≤ k ∧ k < 9 then k - 5 else t k)
  by_cases q : k = 5 + j
  · rw [if_pos q, if_neg (show ¬ k = 2 by omega), if_pos (show 5 ≤ k ∧ k < 5 + (j + 1) by omega), show k - 5 = j by omega]
  · rw [if_neg q]
    by_cases q1 : k = 2
    · rw [if_pos q1, if_pos q1]
    · rw [if_neg q1, if_neg q1]
      by_cases q2 : 5 ≤ k ∧ k < 5 + j
      · rw [if_pos q2, if_pos (show 5 ≤ k ∧ k < 5 + (j + 1) by omega)]
      · rw [if_neg q2, if_neg (show ¬ (5 ≤ k ∧ k < 5 + (j + 1)) by omega)]
theorem q_ho_l {m : Nat} (hm : m ≤ 4) {f : Nat → Nat} {v2 v3 : Value} : ∀ (k j : Nat) (M : Nat → Nat → Int32), j + k = m → (∀ i, i < m → M 50 i = nI (f i)) → rQ M 37 (ho2 t m j f) z sp → ∃ M', R 210 155 [.ref 36, .int (nI m), v2, v3, .int (nI j)] [] (SH L, M) = some (none, (SH L, M')) ∧ frc 37 37 M M' ∧ rQ M' 37 (ho2 t m m f) z sp := by
  intro k
  induction k with
  | zero =>
    intro j M hj hv hq
    refine ⟨M, ?_, frc_rf, ?_⟩
    · rw [r210_155]
      simp (disch := omega) only [r210_157, r210_158, r210_183, nI_le'', show m ≤ j from by omega, if_true]
    · have : j = m := by omega
      subst this; exact hq
  | succ k ih =>
    intro j M hj hv hq
    have q2 := rQ_up hq (k := 5 + j) (v := f j) (by omega) (by omega)
    rw [ho2_s] at q2
    obtain ⟨M', e, f', q'⟩ := ih (j + 1) _ (by omega) (fun i hi => by rw [upd2_ne (Or.inl (by omega))]; exact hv i hi) q2
    refine ⟨M', ?_, frc_tr (frc_up frc_rf (Nat.le_refl _) (Nat.le_refl _)) f', q'⟩
    rw [r210_155]
    simp (disch := omega) only [r210_157, r210_158, r210_161, r210_162, r210_165, r210_166, r210_168, r210_169, r210_170, r210_173, r210_175, r210_176, r210_177, r210_180, nI_le'', show ¬ m ≤ j from by omega, if_false, nI_add, hv j]
    exact e
theorem q_pHeirs {p : Nat} (hw : wfT t) (h : RX M n b 0 p) (hq : rQ M 37 t z sp) : QR L M n b z sp (pHeirs n b p t) (R 210 0 [.ref 36, .null, .null, .null, .null] [] (SH L, M)) := by
  obtain ⟨M1, e1, f1, -, y1, -⟩ := q_needs (L := L) h (c := 1) (by omega)
  have x1 := y1 ⟨rfl, rfl⟩
  obtain ⟨M2, mo, v4', e2, f2, g2, w2⟩ := q_he_l (L := L) (p0 := nxp n b p) 3 0 0 M1 .null (by omega) (by omega) x1 (fun y => absurd y (Nat.lt_irrefl _)) (fun j hj => absurd hj (Nat.not_lt_zero _))
  have hb := heM_b (n := n) (b := b) (p0 := nxp n b p) 4 0 0 (by omega)
  have st : R 210 0 [.ref 36, .null, .null, .null, .null] [] (SH L, M) = R 210 11 [.ref 36, .int (nI 0), .int (nI 0), .int (nI 1), .null] [] (SH L, M1) := by
    simp only [r210_0, r210_1, r210_2, r210_5, r210_6, r210_7, r210_8, r210_9, r210_10, e1, Option.bind_some, vtl_none]
  rw [st, e2]
  have fA : f50 M M2 := f50_tr (f50_X f1) f2
  unfold pHeirs
  have e34 : (3 + 1 : Nat) = 4 := rfl
  rw [e34] at g2 w2
  rw [e34]
  generalize heM n b (nxp n b p) 4 0 0 = r at g2 w2 hb ⊢
  obtain ⟨ok, j, s⟩ := r
  simp only at g2 w2 hb ⊢
  have p2 : 2 ^ j ≤ 16 := (Nat.pow_le_pow_right (by decide) (by omega) : 2 ^ j ≤ 2 ^ 4)
  have up1 : ∀ {M3 : Nat → Nat → Int32} {W q : Nat}, RX M3 n b W q → RX (upd2 M3 36 18 (nI 1)) n b 1 q := fun {M3 W q} h3 => ⟨⟨h3.1.1, fun i hi => by rw [upd2_ne (Or.inl (by omega))]; exact h3.1.2 i hi⟩, by rw [upd2_ne (Or.inr (by omega))]; exact h3.2.1, by rw [upd2_ne (Or.inr (by omega))]; exact h3.2.2.1, by rw [upd2_ne (Or.inr (by omega))]; exact h3.2.2.2.1, upd2_eq, h3.2.2.2.2.2.1, by omega⟩
  have wrong : ∀ (M3 : Nat → Nat → Int32) (W : Nat), RX M3 n b W (nxI n b (nxp n b p) j) → f50 M M3 → R 210 126 [.ref 36, .int (nI j), .int (nI s), mo, v4'] [.ref 36] (SH L, M3) = some (none, (SH L, upd2 M3 36 18 (nI 1))) := fun M3 W h3 _ => by
    have u : upd2 M3 36 18 (nI 1) 36 18 = nI 1 := upd2_eq
    simp only [r210_126, r210_127, r210_130, r210_131_0, r210_131_1, r210_134, r210_135, r210_138, r210_183, u, nz1, if_false]
  by_cases qk : ok = true ∧ j ≠ 0
  · obtain ⟨rfl, j0⟩ := qk
    obtain ⟨x2, v2⟩ := g2 rfl j0
    by_cases q2 : s = 2 ^ j - 1
    · have x3 : RX (upd2 M2 36 18 (nI 0)) n b 0 (nxI n b (nxp n b p) j) := by
        rw [upd2_id (RX_18 x2)]; exact x2
      have hq2 := rQ_50 hq fA (Or.inl rfl)
      have i0 : upd2 M2 36 18 (nI 0) = M2 := upd2_id (RX_18 x2)
      have q5 := rQ_up hq2 (k := 2) (v := j) (by omega) (by omega)
      obtain ⟨M4, e4, f4, q4⟩ := q_firstOrder (L := L) q5
      have q6 : rQ M4 37 (ho2 t j 0 (vaN n b (nxp n b p))) z sp := rQ_cg q4 (fun k hk k4 => by
        unfold ho2
        by_cases y : 5 ≤ k ∧ k < 9
        · have : k = 5 ∨ k = 6 ∨ k = 7 ∨ k = 8 := by omega
          rcases this with rfl | rfl | rfl | rfl <;> simp (disch := omega) only [ut_ne, ut_eq] <;> rw [if_neg (by omega), if_neg (by omega), if_pos (by omega)]
        · rw [if_neg (show ¬ (5 ≤ k ∧ k < 5 + 0) by omega), if_neg y]
          by_cases y2 : k = 2
          · subst y2; rw [if_pos rfl]; simp (disch := omega) only [ut_ne, ut_eq]
          · rw [if_neg y2]; simp (disch := omega) only [ut_ne])
      have fB : frc 37 37 M2 M4 := frc_tr (frc_up frc_rf (Nat.le_refl _) (Nat.le_refl _)) f4
      obtain ⟨M5, e5, f5, q7⟩ := q_ho_l (L := L) (m := j) (by omega) (v2 := .int (nI s)) (v3 := mo) j 0 M4 (Nat.zero_add _) (fun i hi => by rw [fB 50 (by omega)]; exact v2 i hi) q6
      have e126 : R 210 109 [.ref 36, .int (nI j), .int (nI s), mo, v4'] [] (SH L, M2) = some (none, (SH L, M5)) := by
        have u : M2 36 18 = nI 0 := RX_18 x2
        have c2 : nI s = nI (2 ^ j - 1) := by rw [q2]
        simp (disch := omega) only [r210_109, r210_110, r210_111, r210_114, r210_117, r210_118, r210_119, r210_120, r210_121, r210_122, r210_123, r210_126, r210_127, r210_130, r210_131_0, r210_131_1, r210_134, r210_135, r210_138, u, nz0, if_true, nI_shl1, pk_sub (show 1 ≤ 2 ^ j from Nat.one_le_two_pow), if_pos c2, i0]
        simp (disch := omega) only [r210_141, r210_142, r210_145, r210_146, r210_147, r210_148, r210_149, r210_152, r210_153, e4, Option.bind_some, vtl_none]
        exact e5
      refine ⟨M5, e126, fI_tr (fI_50 fA) (fI_37 (frc_tr fB f5)), fun _ => ⟨RX_37 x2 (frc_tr fB f5), ?_⟩, fun y => ?_⟩
      · exact rQ_cg q7 (fun k hk k4 => rfl)
      · simp only [Bool.true_and, Bool.and_eq_true, decide_eq_true_eq] at y
        exact absurd ⟨j0, q2⟩ y
    · refine ⟨upd2 M2 36 18 (nI 1), ?_, fI_tr (fI_50 fA) (fun c i h1 h2 h3 => upd2_ne (by omega)), fun y => ?_, fun _ => up1 x2⟩
      · rw [← wrong M2 0 x2 fA]
        have u : M2 36 18 = nI 0 := RX_18 x2
        simp (disch := omega) only [r210_109, r210_110, r210_111, r210_114, r210_117, r210_118, r210_119, r210_120, r210_121, r210_122, r210_123, u, nz0, if_true, nI_shl1, pk_sub (show 1 ≤ 2 ^ j from Nat.one_le_two_pow), nI_eq', q2, if_false]
      · simp only [Bool.true_and, Bool.and_eq_true, decide_eq_true_eq] at y
        exact absurd y.2 q2
  · have x2 := w2 qk
    refine ⟨upd2 M2 36 18 (nI 1), ?_, fI_tr (fI_50 fA) (fun c i h1 h2 h3 => upd2_ne (by omega)), fun y => ?_, fun _ => up1 x2⟩
    · rw [← wrong M2 1 x2 fA]
      have u : M2 36 18 = nI 1 := RX_18 x2
      simp (disch := omega) only [r210_109, r210_110, r210_111, r210_114, u, nz1, if_false]
    · simp only [Bool.and_eq_true, decide_eq_true_eq] at y
      exact absurd ⟨y.1.1, y.1.2⟩ qk
/-- an item where it is wrong already -/
theorem q_item1 {p : Nat} (h : RX M n b 1 p) : ∃ M', R 211 0 [.ref 36, .null] [] (SH L, M) = some (none, (SH L, M')) ∧ fI M M' ∧ RX M' n b 1 p := by
  have kh := q_kindHere (L := L) h
  rw [if_neg (fun y => absurd y.1 (by decide))] at kh
  have wl := wrd_lt h
  obtain ⟨M1, e1, f1, -, -, w1⟩ := q_needs (L := L) h (c := 0) (by omega)
  have x1 := w1 (fun y => absurd y.1 (by decide))
  have m10 : ((-1 : Int32) < 0) = True := by decide +kernel
  refine ⟨upd2 M1 37 3 (M1 37 3 ||| nI 1 <<< (M1 36 17 &&& 31)), ?_, fI_tr (fI_X f1) (fun c i h1 h2 h3 => upd2_ne (Or.inl h1)), RX_37 x1 (frc_up frc_rf (Nat.le_refl _) (Nat.le_refl _))⟩
  simp (disch := omega) only [r211_0, r211_1, r211_4, r211_5, r211_6, r211_9, r211_10, r211_11, r211_14, r211_17, r211_18, r211_21, r211_24, r211_25, r211_28, r211_29, r211_32, r211_35, r211_36, r211_37, r211_40, r211_43, r211_44, r211_47, r211_48, r211_51, kh, m10, if_true, q_word h, l10, l11, lgq, wrd_w 8562259 (by decide), wrd_w 12009203 (by decide), if_false, Option.bind_some, vtl_some]
  simp (disch := omega) only [r211_52, r211_55, r211_56, r211_57, r211_58, r211_61, r211_62, r211_65, r211_66, r211_67, r211_68, r211_69, r211_70, r211_73, r211_74, r211_75, r211_76, e1, q_number1 x1, Option.bind_some, vtl_none]
theorem q_item0 {p : Nat} (hw : wfT t) (h : RX M n b 0 p) (hq : rQ M 37 t z sp) : QR L M n b z sp (pItem n b p t) (R 211 0 [.ref 36, .null] [] (SH L, M)) := by
  have kh := q_kindHere (L := L) h
  have wl := wrd_lt h
  have nl := nu_le (n := n) (b := b) p
  have m10 : ((-1 : Int32) < 0) = True := by decide +kernel
  have w10 := wrd_is (n := n) (b := b) (W := 0) (p := p) (w := 10) (code := 8562259) (fun v => woN_10) (by decide)
  have w11 := wrd_is (n := n) (b := b) (W := 0) (p := p) (w := 11) (code := 12009203) (fun v => woN_11) (by decide)
  unfold pItem
  have other : ¬ (soN n b p = 1 ∧ nuN n b p < 7) → ¬ (soN n b p = 1 ∧ nuN n b p = 10) → QR L M n b z sp (if soN n b p = 1 ∧ nuN n b p = 11 then pKnows n b p t else (false, p, t)) (R 211 0 [.ref 36, .null] [] (SH L, M)) := fun o1 o2 => by
    rw [if_neg (fun y => o1 y.2)] at kh
    have c10 : (wrd n b 0 p = 8562259) = False := by rw [w10]; exact eq_false (fun y => o2 (isW_iff.mp y.2))
    by_cases q : soN n b p = 1 ∧ nuN n b p = 11
    · rw [if_pos q]
      have c11 : (wrd n b 0 p = 12009203) = True := by rw [w11]; exact eq_true ⟨rfl, isW_iff.mpr q⟩
      obtain ⟨M1, e1, f1, o1, y1, -⟩ := q_needs (L := L) h (c := 1) (by omega)
      have x1 := y1 ⟨rfl, rfl⟩
      obtain ⟨M2, e2, f2, y2, w2⟩ := q_number (L := L) x1 (hi := 3) (by omega)
      have st : R 211 0 [.ref 36, .null] [] (SH L, M) = some (none, (SH L, upd2 M2 37 3 (M2 37 3 ||| nI 1 <<< (M2 36 17 &&& 31)))) := by
        simp (disch := omega) only [r211_0, r211_1, r211_4, r211_5, r211_6, r211_9, r211_10, r211_11, r211_14, r211_17, r211_18, r211_21, r211_24, r211_25, r211_28, r211_29, r211_32, r211_35, r211_36, r211_37, r211_40, r211_43, r211_44, r211_47, r211_48, r211_51, kh, m10, if_true, q_word h, l10, l11, lgq, c10, c11, if_false, Option.bind_some, vtl_some]
        simp (disch := omega) only [r211_52, r211_55, r211_56, r211_57, r211_58, r211_61, r211_62, r211_65, r211_66, r211_67, r211_68, r211_69, r211_70, r211_73, r211_74, r211_75, r211_76, e1, e2, Option.bind_some, vtl_none]
      rw [st]
      have fA : f50 M M2 := f50_tr (f50_X f1) (f50_X f2)
      have f37 : ∀ x, frc 37 37 M2 (upd2 M2 37 3 x) := fun x => frc_up frc_rf (Nat.le_refl _) (Nat.le_refl _)
      unfold pKnows
      by_cases q3 : isM n b 3 (nxp n b p) = true
      · rw [if_pos q3]
        obtain ⟨x2, v2⟩ := y2 q3
        have n3 := (isM_iff.mp q3).2
        have hq2 := rQ_50 hq fA (Or.inl rfl)
        have o3 : M2 37 3 = nI (t 3) := hq2.1 3 (by omega) (by omega)
        have ev : M2 37 3 ||| nI 1 <<< (M2 36 17 &&& 31) = nI (t 3 ||| 2 ^ nuN n b (nxp n b p)) := by
          rw [o3, v2, nI_shl1 (by omega), nI_or]
        rw [ev]
        exact ⟨_, rfl, fI_tr (fI_50 fA) (fI_37 (f37 _)), fun _ => ⟨RX_37 x2 (f37 _), rQ_up hq2 (by omega) (by omega)⟩, fun y => absurd rfl y⟩
      · rw [if_neg q3]
        exact ⟨_, rfl, fI_tr (fI_50 fA) (fI_37 (f37 _)), fun y => (by cases y), fun _ => RX_37 (w2 q3) (f37 _)⟩
    · rw [if_neg q]
      have c11 : (wrd n b 0 p = 12009203) = False := by rw [w11]; exact eq_false (fun y => q (isW_iff.mp y.2))
      obtain ⟨M1, e1, f1, -, -, w1⟩ := q_needs (L := L) h (c := 0) (by omega)
      have x1 := w1 (fun y => absurd y.2 (by decide))
      refine ⟨upd2 M1 37 3 (M1 37 3 ||| nI 1 <<< (M1 36 17 &&& 31)), ?_, fI_tr (fI_X f1) (fun c i h1 h2 h3 => upd2_ne (Or.inl h1)), fun y => (by cases y), fun _ => RX_37 x1 (frc_up frc_rf (Nat.le_refl _) (Nat.le_refl _))⟩
      simp (disch := omega) only [r211_0, r211_1, r211_4, r211_5, r211_6, r211_9, r211_10, r211_11, r211_14, r211_17, r211_18, r211_21, r211_24, r211_25, r211_28, r211_29, r211_32, r211_35, r211_36, r211_37, r211_40, r211_43, r211_44, r211_47, r211_48, r211_51, kh, m10, if_true, q_word h, l10, l11, lgq, c10, c11, if_false, Option.bind_some, vtl_some]
      simp (disch := omega) only [r211_52, r211_55, r211_56, r211_57, r211_58, r211_61, r211_62, r211_65, r211_66, r211_67, r211_68, r211_69, r211_70, r211_73, r211_74, r211_75, r211_76, e1, q_number1 x1, Option.bind_some, vtl_none]
  by_cases q1 : soN n b p = 1
  · rw [if_pos q1]
    by_cases q2 : nuN n b p < 7
    · rw [if_pos q2]
      rw [if_pos ⟨rfl, q1, q2⟩] at kh
      obtain ⟨M', e, f, g⟩ := q_pPart (L := L) hw h hq
      refine ⟨M', ?_, f, g⟩
      simp (disch := omega) only [r211_0, r211_1, r211_4, r211_5, r211_6, r211_9, r211_10, r211_11, kh, nI_lt0, if_false, e, Option.bind_some, vtl_some, vtl_none]
      simp only [r211_14, r211_76]
    · rw [if_neg q2]
      by_cases q3 : nuN n b p = 10
      · rw [if_pos q3]
        rw [if_neg (fun y => q2 y.2.2)] at kh
        have c10 : (wrd n b 0 p = 8562259) = True := by rw [w10]; exact eq_true ⟨rfl, isW_iff.mpr ⟨q1, q3⟩⟩
        obtain ⟨M', e, f, g⟩ := q_pHeirs (L := L) hw h hq
        refine ⟨M', ?_, f, g⟩
        simp (disch := omega) only [r211_0, r211_1, r211_4, r211_5, r211_6, r211_17, r211_18, r211_21, r211_24, r211_25, r211_28, r211_29, r211_32, r211_76, kh, m10, if_true, q_word h, l10, lgq, c10, e, Option.bind_some, vtl_some, vtl_none]
      · rw [if_neg q3]
        have := other (fun y => q2 y.2) (fun y => q3 y.2)
        by_cases q4 : nuN n b p = 11
        · rw [if_pos ⟨q1, q4⟩] at this
          rw [if_pos q4]; exact this
        · rw [if_neg (fun y => q4 y.2)] at this
          rw [if_neg q4]; exact this
  · rw [if_neg q1]
    have := other (fun y => q1 y.1) (fun y => q1 y.1)
    rw [if_neg (fun y => q1 y.1)] at this
    exact this
end RIT
