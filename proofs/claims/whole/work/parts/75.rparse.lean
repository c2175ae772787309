/-! The reference reads items -/
def fI (M M' : Nat → Nat → Int32) : Prop := ∀ k i, k ≠ 37 → k ≠ 50 → (k ≠ 36 ∨ i < 15 ∨ 18 < i) → M' k i = M k i
theorem fI_rf {M : Nat → Nat → Int32} : fI M M := fun _ _ _ _ _ => rfl
theorem fI_tr {M M1 M2 : Nat → Nat → Int32} (h1 : fI M M1) (h2 : fI M1 M2) : fI M M2 := fun k i a b c => (h2 k i a b c).trans (h1 k i a b c)
theorem fI_X {M M' : Nat → Nat → Int32} (h : fX M M') : fI M M' := fun k i _ _ c => h k i c
theorem fI_37 {M M' : Nat → Nat → Int32} (h : frc 37 37 M M') : fI M M' := fun k i a _ _ => by rw [h k (by omega)]
def f50 (M M' : Nat → Nat → Int32) : Prop := ∀ k i, k ≠ 50 → (k ≠ 36 ∨ i < 15 ∨ 18 < i) → M' k i = M k i
theorem f50_X {M M' : Nat → Nat → Int32} (h : fX M M') : f50 M M' := fun k i _ c => h k i c
theorem f50_tr {M M1 M2 : Nat → Nat → Int32} (h1 : f50 M M1) (h2 : f50 M1 M2) : f50 M M2 := fun k i a c => (h2 k i a c).trans (h1 k i a c)
theorem fI_50 {M M' : Nat → Nat → Int32} (h : f50 M M') : fI M M' := fun k i _ b c => h k i b c
theorem rQ_50 {M M' : Nat → Nat → Int32} {a : Nat} {t : Nat → Nat} {z : Int32} {sp : Nat → Int32} (h : rQ M a t z sp) (f : f50 M M') (ha : a = 37 ∨ a = 38 ∨ a = 39) : rQ M' a t z sp := ⟨fun k h1 h2 => by rw [f a k (by omega) (by omega)]; exact h.1 k h1 h2, by rw [f a 4 (by omega) (by omega)]; exact h.2.1, fun i hi => by rw [f a (81 + i) (by omega) (by omega)]; exact h.2.2 i hi⟩
section RPA
variable {L : Nat} {M : Nat → Nat → Int32} {n : Nat} {b : Nat → Nat} {t : Nat → Nat} {z : Int32} {sp : Nat → Int32}
theorem RX_18 {W p : Nat} (h : RX M n b W p) : M 36 18 = nI W := h.2.2.2.2.1
theorem RX_50 {W p j : Nat} {x : Int32} (h : RX M n b W p) : RX (upd2 M 50 j x) n b W p := RX_o h (fun i => upd2_ne (Or.inl (by omega))) (fun i _ _ _ => upd2_ne (Or.inl (by omega)))
theorem RX_37 {W p : Nat} {M' : Nat → Nat → Int32} (h : RX M n b W p) (f : frc 37 37 M M') : RX M' n b W p := RX_o h (fun i => by rw [f 49 (by omega)]) (fun i _ _ _ => by rw [f 36 (by omega)])
theorem bmo_4 {m : Nat} (h : m < 4) : bmo (4 + m) = 99 := by
  have : m = 0 ∨ m = 1 ∨ m = 2 ∨ m = 3 := by omega
  rcases this with rfl | rfl | rfl | rfl <;> rfl
theorem q_numbers_l {p0 : Nat} : ∀ (k m : Nat) (M : Nat → Nat → Int32), m + k + 1 = 4 → RX M n b 0 (nxI n b p0 m) → (0 < m → soN n b (nxI n b p0 m) = 2) → (∀ j, j < m → M 50 j = nI (vaN n b p0 j)) → ∃ M', R 207 4 [.ref 36, .int (nI 99), .int (nI m), .int (nI 1)] [] (SH L, M) = some (some (.int (nI (trM n b 4 p0 (k + 1) m).2)), (SH L, M')) ∧ f50 M M' ∧ ((trM n b 4 p0 (k + 1) m).1 = true → 1 ≤ (trM n b 4 p0 (k + 1) m).2 → RX M' n b 0 (nxI n b p0 (trM n b 4 p0 (k + 1) m).2) ∧ ∀ j, j < (trM n b 4 p0 (k + 1) m).2 → M' 50 j = nI (vaN n b p0 j)) ∧ (¬ ((trM n b 4 p0 (k + 1) m).1 = true ∧ 1 ≤ (trM n b 4 p0 (k + 1) m).2) → RX M' n b 1 (nxI n b p0 (trM n b 4 p0 (k + 1) m).2)) := by
  intro k
  induction k with
  | zero =>
    intro m M hk hx hs hv
    have hm : m = 3 := by omega
    subst hm
    obtain ⟨M1, e1, f1, y1, w1⟩ := q_number (L := L) hx (hi := 99) (by omega)
    have b99 := bmo_4 (m := 3) (by omega)
    rw [trM]
    by_cases q : isM n b 99 (nxI n b p0 3) = true
    · obtain ⟨q1, q2⟩ := isM_iff.mp q
      obtain ⟨x1, v1⟩ := y1 q
      rw [if_pos q1, if_pos (by rw [b99]; exact q2)]
      have h18 : M1 36 18 = nI 0 := RX_18 x1
      refine ⟨upd2 M1 50 3 (nI (nuN n b (nxI n b p0 3))), ?_, fun c i h1 h2 => by rw [upd2_ne (Or.inl h1)]; exact f1 c i h2, fun _ _ => ⟨RX_50 x1, fun j hj => ?_⟩, fun y => absurd ⟨rfl, by show 1 ≤ 4; omega⟩ y⟩
      · rw [r207_4]
        simp (disch := omega) only [r207_5, r207_8, r207_9, r207_12, r207_15, r207_16, r207_17, r207_18, r207_21, r207_22, r207_25, r207_28, r207_29, r207_32, r207_33, r207_34, r207_37, r207_38, r207_41, r207_42, r207_43, r207_46, r207_47, r207_50, r207_53, r207_54, r207_57, nz1, nz0, if_false, if_true, RX_18 hx, e1, h18, v1, nI_add, Nat.reduceAdd, nI_le'', Nat.le_refl, Option.bind_some, vtl_none]
        simp only [r207_58, r207_59]
        rw [r207_4]
        simp (disch := omega) only [r207_5, r207_62, r207_63, nz0, if_true, trM]
      · have hj : j < 4 := hj
        by_cases e : j = 3
        · subst e; exact upd2_eq
        · rw [upd2_ne (Or.inr e), f1 50 j (by omega)]; exact hv j (by omega)
    · have h18 : M1 36 18 = nI 1 := RX_18 (w1 q)
      have sq := hs (by omega)
      have nq : ¬ nuN n b (nxI n b p0 3) ≤ 99 := fun y => q (isM_iff.mpr ⟨sq, y⟩)
      rw [if_pos sq, if_neg (by rw [b99]; exact nq)]
      refine ⟨M1, ?_, f50_X f1, fun y => (by cases y), fun _ => w1 q⟩
      rw [r207_4]
      simp (disch := omega) only [r207_5, r207_8, r207_9, r207_12, r207_15, r207_16, r207_17, r207_18, r207_21, r207_22, r207_25, nz1, nz0, if_false, if_true, RX_18 hx, e1, h18, Option.bind_some, vtl_none]
      rw [r207_4]
      simp (disch := omega) only [r207_5, r207_8, r207_9, r207_12, r207_62, r207_63, nz1, if_false, h18]
  | succ k ih =>
    intro m M hk hx hs hv
    obtain ⟨M1, e1, f1, y1, w1⟩ := q_number (L := L) hx (hi := 99) (by omega)
    have b99 := bmo_4 (m := m) (by omega)
    rw [trM]
    by_cases q : isM n b 99 (nxI n b p0 m) = true
    · obtain ⟨q1, q2⟩ := isM_iff.mp q
      obtain ⟨x1, v1⟩ := y1 q
      rw [if_pos q1, if_pos (by rw [b99]; exact q2)]
      have h18 : M1 36 18 = nI 0 := RX_18 x1
      have x2 : RX (upd2 M1 50 m (nI (nuN n b (nxI n b p0 m)))) n b 0 (nxI n b p0 (m + 1)) := RX_50 x1
      have nh := q_isNumberHere (L := L) x2
      have tv : ∀ j, j < m + 1 → upd2 M1 50 m (nI (nuN n b (nxI n b p0 m))) 50 j = nI (vaN n b p0 j) := fun j hj => by
        by_cases e : j = m
        · subst e; exact upd2_eq
        · rw [upd2_ne (Or.inr e), f1 50 j (by omega)]; exact hv j (by omega)
      have fr : f50 M (upd2 M1 50 m (nI (nuN n b (nxI n b p0 m)))) := fun c i h1 h2 => by rw [upd2_ne (Or.inl h1)]; exact f1 c i h2
      by_cases q3 : soN n b (nxI n b p0 (m + 1)) = 2
      · rw [if_pos ⟨rfl, q3⟩] at nh
        obtain ⟨M', e, f, g, w⟩ := ih (m + 1) _ (by omega) x2 (fun _ => q3) tv
        refine ⟨M', ?_, f50_tr fr f, g, w⟩
        rw [← e, r207_4]
        simp (disch := omega) only [r207_5, r207_8, r207_9, r207_12, r207_15, r207_16, r207_17, r207_18, r207_21, r207_22, r207_25, r207_28, r207_29, r207_32, r207_33, r207_34, r207_37, r207_38, r207_41, r207_42, r207_43, r207_46, r207_47, r207_50, r207_53, r207_54, r207_57, nz1, nz0, if_false, if_true, RX_18 hx, e1, h18, v1, nI_add, nI_le'', show ¬ 4 ≤ m + 1 from by omega, nh, Option.bind_some, vtl_some, vtl_none]
        simp only [r207_58, r207_59]
      · rw [if_neg (fun y => q3 y.2)] at nh
        have tr : trM n b 4 p0 (k + 1) (m + 1) = (true, m + 1) := by rw [trM, if_neg q3]
        rw [tr]
        refine ⟨upd2 M1 50 m (nI (nuN n b (nxI n b p0 m))), ?_, fr, fun _ _ => ⟨x2, tv⟩, fun y => absurd ⟨rfl, by show 1 ≤ m + 1; omega⟩ y⟩
        rw [r207_4]
        simp (disch := omega) only [r207_5, r207_8, r207_9, r207_12, r207_15, r207_16, r207_17, r207_18, r207_21, r207_22, r207_25, r207_28, r207_29, r207_32, r207_33, r207_34, r207_37, r207_38, r207_41, r207_42, r207_43, r207_46, r207_47, r207_50, r207_53, r207_54, r207_57, nz1, nz0, if_false, if_true, RX_18 hx, e1, h18, v1, nI_add, nI_le'', show ¬ 4 ≤ m + 1 from by omega, nh, Option.bind_some, vtl_some, vtl_none]
        simp only [r207_58, r207_59]
        rw [r207_4]
        simp (disch := omega) only [r207_5, r207_62, r207_63, nz0, if_true]
    · have h18 : M1 36 18 = nI 1 := RX_18 (w1 q)
      have fin : R 207 4 [.ref 36, .int (nI 99), .int (nI m), .int (nI 1)] [] (SH L, M) = some (some (.int (nI m)), (SH L, M1)) := by
        rw [r207_4]
        simp (disch := omega) only [r207_5, r207_8, r207_9, r207_12, r207_15, r207_16, r207_17, r207_18, r207_21, r207_22, r207_25, nz1, nz0, if_false, if_true, RX_18 hx, e1, h18, Option.bind_some, vtl_none]
        rw [r207_4]
        simp (disch := omega) only [r207_5, r207_8, r207_9, r207_12, r207_62, r207_63, nz1, if_false, h18]
      by_cases sq : soN n b (nxI n b p0 m) = 2
      · have nq : ¬ nuN n b (nxI n b p0 m) ≤ 99 := fun y => q (isM_iff.mpr ⟨sq, y⟩)
        rw [if_pos sq, if_neg (by rw [b99]; exact nq)]
        exact ⟨M1, fin, f50_X f1, fun y => (by cases y), fun _ => w1 q⟩
      · have m0 : m = 0 := by
          rcases Nat.eq_zero_or_pos m with y | y
          · exact y
          · exact absurd (hs y) sq
        subst m0
        rw [if_neg sq]
        exact ⟨M1, fin, f50_X f1, fun _ y => absurd y (by show ¬ 1 ≤ 0; omega), fun _ => w1 q⟩
theorem q_numbers {p0 : Nat} (hx : RX M n b 0 p0) : ∃ M', R 207 0 [.ref 36, .int (nI 99), .null, .null] [] (SH L, M) = some (some (.int (nI (trM n b 4 p0 4 0).2)), (SH L, M')) ∧ f50 M M' ∧ ((trM n b 4 p0 4 0).1 = true → 1 ≤ (trM n b 4 p0 4 0).2 → RX M' n b 0 (nxI n b p0 (trM n b 4 p0 4 0).2) ∧ ∀ j, j < (trM n b 4 p0 4 0).2 → M' 50 j = nI (vaN n b p0 j)) ∧ (¬ ((trM n b 4 p0 4 0).1 = true ∧ 1 ≤ (trM n b 4 p0 4 0).2) → RX M' n b 1 (nxI n b p0 (trM n b 4 p0 4 0).2)) := by
  obtain ⟨M', e, g⟩ := q_numbers_l (L := L) (p0 := p0) 3 0 M (by omega) hx (fun y => absurd y (Nat.lt_irrefl _)) (fun j hj => absurd hj (Nat.not_lt_zero _))
  refine ⟨M', ?_, g⟩
  simp only [r207_0, r207_1, r207_2, r207_3]
  exact e
theorem wrd_w {p : Nat} (c : Nat) (h : c ≠ 0) : (wrd n b 1 p = c) = False := eq_false (fun y => h (by rw [← y]; exact if_neg (fun z => absurd z.1 (by decide))))
theorem l486 : (486 : Int64) = lN 486 := by decide +kernel
theorem l8 : (24627848 : Int64) = lN 24627848 := by decide +kernel
theorem l9 : (5381299 : Int64) = lN 5381299 := by decide +kernel
theorem l10 : (8562259 : Int64) = lN 8562259 := by decide +kernel
theorem l11 : (12009203 : Int64) = lN 12009203 := by decide +kernel
/-- wrong already: nothing more is read -/
theorem q_w124 {p : Nat} (h : RX M n b 1 p) {v1 v2 v3 v4 v5 v6 v7 : Value} : R 208 124 [.ref 36, v1, v2, v3, v4, v5, v6, v7] [] (SH L, M) = some (none, (SH L, M)) := by
  simp only [r208_124, r208_125, r208_128, r208_201, RX_18 h, nz1, if_false]
theorem q_w76 {p : Nat} (h : RX M n b 1 p) {v1 v2 v3 v4 v5 v6 v7 : Value} : R 208 76 [.ref 36, v1, v2, v3, v4, v5, v6, v7] [] (SH L, M) = some (none, (SH L, M)) := by
  have wl := wrd_lt h
  simp (disch := omega) only [r208_76, r208_77, r208_79, r208_80, r208_82, r208_83, r208_86, r208_89, r208_90, q_word h, l9, lgq, wrd_w 5381299 (by decide), if_false, Option.bind_some, vtl_some, q_w124 h]
theorem q_w53 {p : Nat} (h : RX M n b 1 p) {v1 v2 v3 v4 v5 v6 v7 : Value} : R 208 53 [.ref 36, v1, v2, v3, v4, v5, v6, v7] [] (SH L, M) = some (none, (SH L, M)) := by
  have wl := wrd_lt h
  simp (disch := omega) only [r208_53, r208_54, r208_57, r208_60, r208_61, q_word h, l8, lgq, wrd_w 24627848 (by decide), if_false, Option.bind_some, vtl_some, q_w76 h]
theorem q_w40 {p : Nat} (h : RX M n b 1 p) {v1 v2 v3 v4 v5 v6 v7 : Value} : R 208 40 [.ref 36, v1, v2, v3, v4, v5, v6, v7] [] (SH L, M) = some (none, (SH L, M)) := by
  simp (disch := omega) only [r208_40, r208_41, r208_42, r208_43, r208_46, r208_47, r208_50, r208_51, r208_52, q_number1 h, Option.bind_some, vtl_none, q_w53 h]
theorem q_w20 {p : Nat} (h : RX M n b 1 p) {v1 v2 v3 v4 v5 v6 v7 : Value} : ∃ M', R 208 20 [.ref 36, v1, v2, v3, v4, v5, v6, v7] [] (SH L, M) = some (none, (SH L, M')) ∧ fX M M' ∧ RX M' n b 1 p := by
  have wl := wrd_lt h
  obtain ⟨M1, e1, f1, -, -, w1⟩ := q_needs (L := L) h (c := 0) (by omega)
  have x1 := w1 (fun y => absurd y.1 (by decide))
  refine ⟨M1, ?_, f1, x1⟩
  simp (disch := omega) only [r208_20, r208_21, r208_22, r208_25, r208_28, r208_29, r208_32, r208_33, r208_36, q_word h, l486, lgq, wrd_w 486 (by decide), if_false, Option.bind_some, vtl_some]
  simp (disch := omega) only [r208_37, e1, Option.bind_some, vtl_none, q_w40 x1]
theorem q_sw_l {m base : Nat} {f : Nat → Nat} (hm : m ≤ 4) {P : Nat} (hP : P < 9) (hb : base = 9 + 8 * P + 4) {v1 v2 v4 v5 : Value} : ∀ (k j : Nat) (M : Nat → Nat → Int32), j + k = m → (∀ i, i < m → M 50 i = nI (f i)) → rQ M 37 (setW t base j f) z sp → ∃ M', R 208 168 [.ref 36, v1, v2, .int (nI m), v4, v5, .int (nI P), .int (nI j)] [] (SH L, M) = some (none, (SH L, M')) ∧ frc 37 37 M M' ∧ rQ M' 37 (setW t base m f) z sp := by
  intro k
  induction k with
  | zero =>
    intro j M hj hv hq
    refine ⟨M, ?_, frc_rf, ?_⟩
    · rw [r208_168]
      simp (disch := omega) only [r208_170, r208_171, r208_201, nI_le'', show m ≤ j from by omega, if_true]
    · rw [show m = j by omega]; exact hq
  | succ k ih =>
    intro j M hj hv hq
    have q2 := rQ_up hq (k := base + j) (v := f j) (by omega) (by omega)
    rw [setW_s] at q2
    obtain ⟨M', e, f', q'⟩ := ih (j + 1) _ (by omega) (fun i hi => by rw [upd2_ne (Or.inl (by omega))]; exact hv i hi) q2
    refine ⟨M', ?_, frc_tr (frc_up frc_rf (Nat.le_refl _) (Nat.le_refl _)) f', q'⟩
    have eb : 9 + 8 * P + (4 + j) = base + j := by omega
    rw [r208_168]
    simp (disch := omega) only [r208_170, r208_171, r208_174, r208_175, r208_178, r208_180, r208_181, r208_183, r208_184, r208_187, r208_188, r208_191, r208_193, r208_194, r208_195, nI_le'', show ¬ m ≤ j from by omega, if_false, nI_add, s_at, eb, hv j, Option.bind_some, vtl_some]
    simp only [r208_198]
    exact e
theorem q_f124 {p k x l r m : Nat} {f : Nat → Nat} (h : RX M n b 0 p) (hq : rQ M 37 t z sp) (hP : t 1 < 9) (hm : m ≤ 4) (hv : ∀ i, i < m → M 50 i = nI (f i)) {v6 v7 : Value} (h6 : v6 = .null) (h7 : v7 = .null) : ∃ M', R 208 124 [.ref 36, .int (nI k), .int (nI x), .int (nI m), .int (nI l), .int (nI r), v6, v7] [] (SH L, M) = some (none, (SH L, M')) ∧ frc 37 37 M M' ∧ rQ M' 37 (setW (ut (ut (addT t k x) (9 + 8 * t 1 + 2) l) (9 + 8 * t 1 + 3) r) (9 + 8 * t 1 + 4) m f) z sp := by
  subst h6 h7
  obtain ⟨M1, e1, f1, q1⟩ := q_newPart (L := L) hq (k := k) (x := x) hP
  have q2 := rQ_up q1 (k := 9 + 8 * t 1 + 2) (v := l) (by omega) (by omega)
  have q3 := rQ_up q2 (k := 9 + 8 * t 1 + 3) (v := r) (by omega) (by omega)
  obtain ⟨M', e, f', q'⟩ := q_sw_l (L := L) (base := 9 + 8 * t 1 + 4) (f := f) hm hP rfl (v1 := .int (nI k)) (v2 := .int (nI x)) (v4 := .int (nI l)) (v5 := .int (nI r)) m 0 (upd2 (upd2 M1 37 (9 + 8 * t 1 + 2) (nI l)) 37 (9 + 8 * t 1 + 3) (nI r)) (Nat.zero_add _) (fun i hi => by rw [upd2_ne (Or.inl (by omega)), upd2_ne (Or.inl (by omega)), f1 50 (by omega)]; exact hv i hi) (by rw [setW_0]; exact q3)
  refine ⟨M', ?_, frc_tr f1 (frc_tr (frc_up (frc_up frc_rf (Nat.le_refl _) (Nat.le_refl _)) (Nat.le_refl _) (Nat.le_refl _)) f'), q'⟩
  simp (disch := omega) only [r208_124, r208_125, r208_128, r208_131, r208_132, r208_133, r208_134, r208_137, r208_139, r208_140, r208_143, r208_145, r208_146, r208_149, r208_151, r208_152, r208_153, r208_156, r208_158, r208_159, r208_162, r208_164, r208_165, r208_166, RX_18 h, nz0, if_true, e1, s_at, Option.bind_some, vtl_some]
  exact e
/-- what an item of the reference leaves -/
def QR (L : Nat) (M : Nat → Nat → Int32) (n : Nat) (b : Nat → Nat) (z : Int32) (sp : Nat → Int32) (r : PR) (x : RES) : Prop := ∃ M', x = some (none, (SH L, M')) ∧ fI M M' ∧ (r.1 = true → RX M' n b 0 r.2.1 ∧ rQ M' 37 r.2.2 z sp) ∧ (¬ r.1 = true → RX M' n b 1 r.2.1)
theorem QR_f {M0 : Nat → Nat → Int32} {r : PR} {x : RES} (h : QR L M n b z sp r x) (f : fI M0 M) : QR L M0 n b z sp r x := by
  obtain ⟨M', a, c, d⟩ := h
  exact ⟨M', a, fI_tr f c, d⟩
theorem setW_2 {m : Nat} {f g : Nat → Nat} {T : Nat → Nat} {base : Nat} (hm : m ≤ 4) : setW (ut (ut T (base + 2) (g 0)) (base + 3) (g 1)) (base + 4) m f = setW (setW T (base + 4) m f) (base + 2) 2 g := by
  funext i
  show (if base + 4 ≤ i ∧ i < base + 4 + m then f (i - (base + 4)) else (if i = base + 3 then g 1 else (if i = base + 2 then g 0 else T i))) = (if base + 2 ≤ i ∧ i < base + 2 + 2 then g (i - (base + 2)) else (if base + 4 ≤ i ∧ i < base + 4 + m then f (i - (base + 4)) else T i))
  by_cases q1 : i = base + 2
  · subst q1
    rw [if_neg (by omega), if_neg (by omega), if_pos rfl, if_pos (by omega), Nat.sub_self]
  · by_cases q2 : i = base + 3
    · subst q2
      rw [if_neg (by omega), if_pos rfl, if_pos (by omega), show base + 3 - (base + 2) = 1 by omega]
    · rw [if_neg q2, if_neg q1, if_neg (show ¬ (base + 2 ≤ i ∧ i < base + 2 + 2) by omega)]
theorem setW_2' {m : Nat} {f : Nat → Nat} {k x : Nat} : setW (ut (ut (addT t k x) (9 + 8 * t 1 + 2) 0) (9 + 8 * t 1 + 3) 0) (9 + 8 * t 1 + 4) m f = setW (addT t k x) (9 + 8 * t 1 + 4) m f := by
  have e : ut (ut (addT t k x) (9 + 8 * t 1 + 2) 0) (9 + 8 * t 1 + 3) 0 = addT t k x := by
    funext i
    by_cases q2 : i = 9 + 8 * t 1 + 3
    · subst q2; rw [ut_eq, addT_3]
    · rw [ut_ne q2]
      by_cases q1 : i = 9 + 8 * t 1 + 2
      · subst q1; rw [ut_eq, addT_2]
      · rw [ut_ne q1]
  rw [e]
theorem q_pE {p k x m : Nat} {f : Nat → Nat} (h : RX M n b 0 p) (hq : rQ M 37 t z sp) (hP : t 1 < 9) (hm : m ≤ 4) (hv : ∀ i, i < m → M 50 i = nI (f i)) : QR L M n b z sp (pE n b (9 + 8 * t 1) p (setW (addT t k x) (9 + 8 * t 1 + 4) m f)) (R 208 76 [.ref 36, .int (nI k), .int (nI x), .int (nI m), .null, .null, .null, .null] [] (SH L, M)) := by
  have wl := wrd_lt h
  have w9 := wrd_is (n := n) (b := b) (W := 0) (p := p) (w := 9) (code := 5381299) (fun v => woN_9) (by decide)
  unfold pE
  by_cases q : isW n b 9 p = true
  · have c9 : (wrd n b 0 p = 5381299) = True := by rw [w9]; exact eq_true ⟨rfl, q⟩
    rw [if_pos q]
    obtain ⟨M1, e1, f1, o1, y1, -⟩ := q_needs (L := L) h (c := 1) (by omega)
    have x1 := y1 ⟨rfl, rfl⟩
    obtain ⟨M2, e2, f2, y2, w2⟩ := q_number (L := L) x1 (hi := 9) (by omega)
    have s0 : R 208 76 [.ref 36, .int (nI k), .int (nI x), .int (nI m), .null, .null, .null, .null] [] (SH L, M) = R 208 111 [.ref 36, .int (nI k), .int (nI x), .int (nI m), .int (M2 36 17), .int (nI 0), .null, .null] [] (SH L, M2) := by
      simp (disch := omega) only [r208_76, r208_77, r208_79, r208_80, r208_82, r208_83, r208_86, r208_89, r208_90, r208_93, r208_94, r208_95, r208_98, r208_99, r208_100, r208_102, r208_105, r208_106, r208_109, q_word h, l9, lgq, c9, if_true, e1, e2, Option.bind_some, vtl_some, vtl_none]
    rw [s0]
    by_cases q2 : isM n b 9 (nxp n b p) = true
    · obtain ⟨x2, v2⟩ := y2 q2
      obtain ⟨q21, q22⟩ := isM_iff.mp q2
      obtain ⟨M3, e3, f3, y3, w3⟩ := q_number (L := L) x2 (hi := 9) (by omega)
      have s1 : R 208 111 [.ref 36, .int (nI k), .int (nI x), .int (nI m), .int (M2 36 17), .int (nI 0), .null, .null] [] (SH L, M2) = R 208 124 [.ref 36, .int (nI k), .int (nI x), .int (nI m), .int (M2 36 17), .int (M3 36 17), .null, .null] [] (SH L, M3) := by
        simp (disch := omega) only [r208_111, r208_112, r208_113, r208_115, r208_118, r208_119, r208_122, e3, Option.bind_some, vtl_none]
      rw [s1]
      have t1 : trM n b 2 (nxp n b p) 2 0 = trM n b 2 (nxp n b p) 1 1 := by
        rw [trM, if_pos (show soN n b (nxI n b (nxp n b p) 0) = 2 from q21), if_pos (show nuN n b (nxI n b (nxp n b p) 0) ≤ bmo (2 + 0) from q22)]
      rw [t1]
      have fA : f50 M M3 := f50_tr (f50_X f1) (f50_tr (f50_X f2) (f50_X f3))
      by_cases q3 : isM n b 9 (nxp n b (nxp n b p)) = true
      · obtain ⟨x3, v3⟩ := y3 q3
        obtain ⟨q31, q32⟩ := isM_iff.mp q3
        have t2 : trM n b 2 (nxp n b p) 1 1 = (true, 2) := by
          rw [trM, if_pos (show soN n b (nxI n b (nxp n b p) 1) = 2 from q31), if_pos (show nuN n b (nxI n b (nxp n b p) 1) ≤ bmo (2 + 1) from q32)]
          rfl
        rw [t2]
        have hq3 := rQ_50 hq fA (Or.inl rfl)
        obtain ⟨M4, e4, f4, q4⟩ := q_f124 (L := L) (k := k) (x := x) (l := nuN n b (nxp n b p)) (r := nuN n b (nxp n b (nxp n b p))) (m := m) (f := f) x3 hq3 hP hm (fun i hi => by rw [f3 50 i (by omega), f2 50 i (by omega), f1 50 i (by omega)]; exact hv i hi) (v6 := .null) (v7 := .null) rfl rfl
        have o2 : M2 36 17 = nI (nuN n b (nxp n b p)) := v2
        rw [o2, v3]
        refine ⟨M4, e4, fI_tr (fI_50 fA) (fI_37 f4), fun _ => ⟨RX_37 x3 f4, ?_⟩, fun y => absurd rfl y⟩
        have := setW_2 (T := addT t k x) (base := 9 + 8 * t 1) (f := f) (g := vaN n b (nxp n b p)) hm
        rw [← this]
        exact q4
      · have x3 := w3 q3
        have t2 : (trM n b 2 (nxp n b p) 1 1).2 = 1 := by
          rw [trM]
          split
          · rename_i s1
            rw [if_neg (show ¬ nuN n b (nxI n b (nxp n b p) 1) ≤ bmo (2 + 1) from fun y => q3 (isM_iff.mpr ⟨s1, y⟩))]
          · rfl
        rw [t2, q_w124 x3]
        refine ⟨M3, rfl, fI_50 fA, fun y => ?_, fun _ => x3⟩
        rw [Bool.and_eq_true, decide_eq_true_eq] at y
        exact absurd y.2 (by decide)
    · have x2 := w2 q2
      have t2 : (trM n b 2 (nxp n b p) 2 0).2 = 0 := by
        rw [trM]
        split
        · rename_i s1
          rw [if_neg (show ¬ nuN n b (nxI n b (nxp n b p) 0) ≤ bmo (2 + 0) from fun y => q2 (isM_iff.mpr ⟨s1, y⟩))]
        · rfl
      rw [t2]
      refine ⟨M2, ?_, fI_tr (fI_X f1) (fI_X f2), fun y => ?_, fun _ => x2⟩
      · simp (disch := omega) only [r208_111, r208_112, r208_113, r208_115, r208_118, r208_119, r208_122, q_number1 x2, Option.bind_some, vtl_none, q_w124 x2]
      · rw [Bool.and_eq_true, decide_eq_true_eq] at y
        exact absurd y.2 (by decide)
  · have c9 : (wrd n b 0 p = 5381299) = False := by rw [w9]; exact eq_false (fun y => q y.2)
    rw [if_neg q]
    obtain ⟨M4, e4, f4, q4⟩ := q_f124 (L := L) (k := k) (x := x) (l := 0) (r := 0) (m := m) (f := f) h hq hP hm hv (v6 := .null) (v7 := .null) rfl rfl
    rw [setW_2'] at q4
    refine ⟨M4, ?_, fI_37 f4, fun _ => ⟨RX_37 h f4, q4⟩, fun y => absurd rfl y⟩
    simp (disch := omega) only [r208_76, r208_77, r208_79, r208_80, r208_82, r208_83, r208_86, r208_89, r208_90, q_word h, l9, lgq, c9, if_false, Option.bind_some, vtl_some]
    exact e4
theorem q_pWs {p k x : Nat} (h : RX M n b 0 p) (hq : rQ M 37 t z sp) (hP : t 1 < 9) : QR L M n b z sp (pWs n b (9 + 8 * t 1) p (addT t k x)) (R 208 53 [.ref 36, .int (nI k), .int (nI x), .int (nI 0), .null, .null, .null, .null] [] (SH L, M)) := by
  have wl := wrd_lt h
  have w8 := wrd_is (n := n) (b := b) (W := 0) (p := p) (w := 8) (code := 24627848) (fun v => woN_8) (by decide)
  unfold pWs
  by_cases q : isW n b 8 p = true
  · have c8 : (wrd n b 0 p = 24627848) = True := by rw [w8]; exact eq_true ⟨rfl, q⟩
    rw [if_pos q]
    obtain ⟨M1, e1, f1, o1, y1, -⟩ := q_needs (L := L) h (c := 1) (by omega)
    have x1 := y1 ⟨rfl, rfl⟩
    obtain ⟨M2, e2, f2, y2, w2⟩ := q_numbers (L := L) x1
    have tl := trM_le (n := n) (b := b) (first := 4) (p := nxp n b p) 4 0
    have fA : f50 M M2 := f50_tr (f50_X f1) f2
    have s0 : R 208 53 [.ref 36, .int (nI k), .int (nI x), .int (nI 0), .null, .null, .null, .null] [] (SH L, M) = R 208 76 [.ref 36, .int (nI k), .int (nI x), .int (nI (trM n b 4 (nxp n b p) 4 0).2), .null, .null, .null, .null] [] (SH L, M2) := by
      simp (disch := omega) only [r208_53, r208_54, r208_57, r208_60, r208_61, r208_64, r208_65, r208_66, r208_69, r208_70, r208_72, r208_75, q_word h, l8, lgq, c8, if_true, e1, e2, Option.bind_some, vtl_some, vtl_none]
    rw [s0]
    by_cases y : ((trM n b 4 (nxp n b p) 4 0).1 && decide (1 ≤ (trM n b 4 (nxp n b p) 4 0).2)) = true
    · rw [if_pos y]
      rw [Bool.and_eq_true, decide_eq_true_eq] at y
      obtain ⟨x2, v2⟩ := y2 y.1 y.2
      exact QR_f (q_pE (L := L) (k := k) (x := x) x2 (rQ_50 hq fA (Or.inl rfl)) hP (by omega) v2) (fI_50 fA)
    · rw [if_neg y]
      rw [Bool.and_eq_true, decide_eq_true_eq] at y
      have x2 := w2 y
      exact ⟨M2, q_w76 x2, fI_50 fA, fun y => (by cases y), fun _ => x2⟩
  · have c8 : (wrd n b 0 p = 24627848) = False := by rw [w8]; exact eq_false (fun y => q y.2)
    rw [if_neg q]
    have e0 := q_pE (L := L) (k := k) (x := x) (m := 0) (f := fun _ => 0) h hq hP (by omega) (fun i hi => absurd hi (Nat.not_lt_zero _))
    rw [setW_0] at e0
    have s0 : R 208 53 [.ref 36, .int (nI k), .int (nI x), .int (nI 0), .null, .null, .null, .null] [] (SH L, M) = R 208 76 [.ref 36, .int (nI k), .int (nI x), .int (nI 0), .null, .null, .null, .null] [] (SH L, M) := by
      simp (disch := omega) only [r208_53, r208_54, r208_57, r208_60, r208_61, q_word h, l8, lgq, c8, if_false, Option.bind_some, vtl_some]
    rw [s0]
    exact e0
theorem q_pPart {p : Nat} (hw : wfT t) (h : RX M n b 0 p) (hq : rQ M 37 t z sp) : QR L M n b z sp (pPart n b p t) (R 208 0 [.ref 36, .int (nI (nuN n b p)), .null, .null, .null, .null, .null, .null] [] (SH L, M)) := by
  have hP := hw.2.1
  have hs := hq.1
  unfold pPart
  by_cases q0 : 9 ≤ t 1
  · rw [if_pos q0]
    obtain ⟨M1, e1, f1, -, -, w1⟩ := q_needs (L := L) h (c := 0) (by omega)
    have x1 := w1 (fun y => absurd y.2 (by decide))
    obtain ⟨M2, e2, f2, x2⟩ := q_w20 (L := L) x1 (v1 := .int (nI (nuN n b p))) (v2 := .null) (v3 := .null) (v4 := .null) (v5 := .null) (v6 := .null) (v7 := .null)
    refine ⟨M2, ?_, fI_tr (fI_X f1) (fI_X f2), fun y => (by cases y), fun _ => x2⟩
    simp (disch := omega) only [r208_0, r208_1, r208_2, r208_5, r208_6, r208_7, r208_9, r208_12, r208_13, r208_16, hs 1, nI_le'', q0, if_true]
    simp (disch := omega) only [r208_17, e1, Option.bind_some, vtl_none]
    exact e2
  · rw [if_neg q0]
    obtain ⟨M1, e1, f1, o1, y1, -⟩ := q_needs (L := L) h (c := 1) (by omega)
    have x1 := y1 ⟨rfl, rfl⟩
    have wl := wrd_lt x1
    have w7 := wrd_is (n := n) (b := b) (W := 0) (p := nxp n b p) (w := 7) (code := 486) (fun v => woN_7) (by decide)
    have s0 : R 208 0 [.ref 36, .int (nI (nuN n b p)), .null, .null, .null, .null, .null, .null] [] (SH L, M) = R 208 20 [.ref 36, .int (nI (nuN n b p)), .null, .null, .null, .null, .null, .null] [] (SH L, M1) := by
      simp (disch := omega) only [r208_0, r208_1, r208_2, r208_5, r208_6, r208_7, r208_9, r208_12, r208_13, r208_16, hs 1, nI_le'', q0, if_false]
      simp (disch := omega) only [r208_17, e1, Option.bind_some, vtl_none]
    rw [s0]
    by_cases q1 : isW n b 7 (nxp n b p) = true
    · have c7 : (wrd n b 0 (nxp n b p) = 486) = True := by rw [w7]; exact eq_true ⟨rfl, q1⟩
      rw [if_pos q1]
      obtain ⟨M2, e2, f2, o2, y2, -⟩ := q_needs (L := L) x1 (c := 1) (by omega)
      have x2 := y2 ⟨rfl, rfl⟩
      obtain ⟨M3, e3, f3, y3, w3⟩ := q_number (L := L) x2 (hi := 4) (by omega)
      have s1 : R 208 20 [.ref 36, .int (nI (nuN n b p)), .null, .null, .null, .null, .null, .null] [] (SH L, M1) = R 208 53 [.ref 36, .int (nI (nuN n b p)), .int (M3 36 17), .int (nI 0), .null, .null, .null, .null] [] (SH L, M3) := by
        simp (disch := omega) only [r208_20, r208_21, r208_22, r208_25, r208_28, r208_29, r208_32, r208_33, r208_36, q_word x1, l486, lgq, c7, if_true, Option.bind_some, vtl_some]
        simp (disch := omega) only [r208_37, r208_40, r208_41, r208_42, r208_43, r208_46, r208_47, r208_50, r208_51, r208_52, e2, e3, Option.bind_some, vtl_none]
      rw [s1]
      have fA : f50 M M3 := f50_tr (f50_X f1) (f50_tr (f50_X f2) (f50_X f3))
      by_cases q2 : isM n b 4 (nxp n b (nxp n b p)) = true
      · rw [if_pos q2]
        obtain ⟨x3, v3⟩ := y3 q2
        rw [v3]
        exact QR_f (q_pWs (L := L) x3 (rQ_50 hq fA (Or.inl rfl)) (by omega)) (fI_50 fA)
      · rw [if_neg q2]
        have x3 := w3 q2
        exact ⟨M3, q_w53 x3, fI_50 fA, fun y => (by cases y), fun _ => x3⟩
    · have c7 : (wrd n b 0 (nxp n b p) = 486) = False := by rw [w7]; exact eq_false (fun y => q1 y.2)
      rw [if_neg q1]
      obtain ⟨M2, e2, f2, o2, -, w2⟩ := q_needs (L := L) x1 (c := 0) (by omega)
      have x2 := w2 (fun y => absurd y.2 (by decide))
      refine ⟨M2, ?_, fI_tr (fI_X f1) (fI_X f2), fun y => (by cases y), fun _ => x2⟩
      simp (disch := omega) only [r208_20, r208_21, r208_22, r208_25, r208_28, r208_29, r208_32, r208_33, r208_36, q_word x1, l486, lgq, c7, if_false, Option.bind_some, vtl_some]
      simp (disch := omega) only [r208_37, e2, Option.bind_some, vtl_none, q_w40 x2]
end RPA
