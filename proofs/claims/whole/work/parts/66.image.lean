/-! image, undo, tear, count, status -/
/-- so many of a row copied to another one -/
def cpN (M : Nat → Nat → Int32) (a b n : Nat) : Nat → Nat → Int32 := fun k i => if k = a ∧ i < n then M b i else M k i
theorem cpN_0 {M : Nat → Nat → Int32} {a b : Nat} : cpN M a b 0 = M := by
  funext k i
  unfold cpN
  rw [if_neg (by omega)]
theorem cpN_s {M : Nat → Nat → Int32} {a b n : Nat} : upd2 (cpN M a b n) a n (M b n) = cpN M a b (n + 1) := by
  funext k i
  show (if k = a then (if i = n then M b n else (if k = a ∧ i < n then M b i else M k i)) else (if k = a ∧ i < n then M b i else M k i)) = (if k = a ∧ i < n + 1 then M b i else M k i)
  by_cases q : k = a
  · rw [if_pos q]
    by_cases q2 : i = n
    · rw [if_pos q2, if_pos (by omega), q2]
    · rw [if_neg q2]
      by_cases q3 : i < n
      · rw [if_pos ⟨q, q3⟩, if_pos (by omega)]
      · rw [if_neg (fun z => q3 z.2), if_neg (by omega)]
  · rw [if_neg q, if_neg (fun z => q z.1), if_neg (fun z => q z.1)]
theorem cpN_in {M : Nat → Nat → Int32} {a b n i : Nat} (h : i < n) : cpN M a b n a i = M b i := if_pos ⟨rfl, h⟩
theorem cpN_o {M : Nat → Nat → Int32} {a b n k : Nat} (h : k ≠ a) : cpN M a b n k = M k := by
  funext i
  exact if_neg (fun z => h z.1)
theorem rQ_cp {M : Nat → Nat → Int32} {a b : Nat} {t : Nat → Nat} {z : Int32} {sp : Nat → Int32} (h : rQ M b t z sp) : rQ (cpN M a b 91) a t z sp :=
  ⟨fun k hk k4 => by rw [cpN_in (by omega)]; exact h.1 k hk k4, by rw [cpN_in (by omega)]; exact h.2.1, fun i hi => by rw [cpN_in (by omega)]; exact h.2.2 i hi⟩
section IMG
variable {L : Nat} {M : Nat → Nat → Int32} {t : Nat → Nat} {z : Int32} {sp : Nat → Int32} {c : Nat}
theorem q_image_l : ∀ (k j : Nat), j + k = 91 → R 223 2 [.ref 36, .int (nI j)] [] (SH L, cpN M 38 37 j) = R 223 26 [.ref 36, .int (nI 91)] [] (SH L, cpN M 38 37 91) := by
  intro k
  induction k with
  | zero =>
    intro j hj
    rw [r223_2]
    simp (disch := omega) only [r223_3, r223_5, nI_le'', show 91 ≤ j from by omega, if_true]
    rw [show j = 91 by omega]
  | succ k ih =>
    intro j hj
    have e : cpN M 38 37 j 37 j = M 37 j := by rw [cpN_o (by omega)]
    rw [r223_2]
    simp (disch := omega) only [r223_3, r223_5, r223_8, r223_9, r223_12, r223_13, r223_14, r223_17, r223_18, r223_19, r223_20, r223_23, nI_le'', show ¬ 91 ≤ j from by omega, if_false, e, cpN_s, nI_add]
    exact ih (j + 1) (by omega)
theorem q_undo_l : ∀ (k j : Nat), j + k = 91 → R 224 16 [.ref 36, .int (nI j)] [] (SH L, cpN M 37 38 j) = R 224 40 [.ref 36, .int (nI 91)] [] (SH L, cpN M 37 38 91) := by
  intro k
  induction k with
  | zero =>
    intro j hj
    rw [r224_16]
    simp (disch := omega) only [r224_17, r224_19, nI_le'', show 91 ≤ j from by omega, if_true]
    rw [show j = 91 by omega]
  | succ k ih =>
    intro j hj
    have e : cpN M 37 38 j 38 j = M 38 j := by rw [cpN_o (by omega)]
    rw [r224_16]
    simp (disch := omega) only [r224_17, r224_19, r224_22, r224_23, r224_26, r224_27, r224_28, r224_31, r224_32, r224_33, r224_34, r224_37, nI_le'', show ¬ 91 ≤ j from by omega, if_false, e, cpN_s, nI_add]
    exact ih (j + 1) (by omega)
theorem q_saves_l : ∀ (k j : Nat), j + k = 91 → R 134 2 [.ref 36, .int (nI j)] [] (SH L, cpN M 39 37 j) = some (none, (SH L, cpN M 39 37 91)) := by
  intro k
  induction k with
  | zero =>
    intro j hj
    rw [r134_2]
    simp (disch := omega) only [r134_3, r134_5, r134_26, nI_le'', show 91 ≤ j from by omega, if_true]
    rw [show j = 91 by omega]
  | succ k ih =>
    intro j hj
    have e : cpN M 39 37 j 37 j = M 37 j := by rw [cpN_o (by omega)]
    rw [r134_2]
    simp (disch := omega) only [r134_3, r134_5, r134_8, r134_9, r134_12, r134_13, r134_14, r134_17, r134_18, r134_19, r134_20, r134_23, nI_le'', show ¬ 91 ≤ j from by omega, if_false, e, cpN_s, nI_add]
    exact ih (j + 1) (by omega)
theorem q_saves : R 134 0 [.ref 36, .null] [] (SH L, M) = some (none, (SH L, cpN M 39 37 91)) := by
  have := q_saves_l (L := L) (M := M) 91 0 (by omega)
  rw [cpN_0] at this
  simp only [r134_0, r134_1]
  exact this
theorem q_back_l : ∀ (k j : Nat), j + k = 91 → R 135 2 [.ref 36, .int (nI j)] [] (SH L, cpN M 37 39 j) = some (none, (SH L, cpN M 37 39 91)) := by
  intro k
  induction k with
  | zero =>
    intro j hj
    rw [r135_2]
    simp (disch := omega) only [r135_3, r135_5, r135_26, nI_le'', show 91 ≤ j from by omega, if_true]
    rw [show j = 91 by omega]
  | succ k ih =>
    intro j hj
    have e : cpN M 37 39 j 39 j = M 39 j := by rw [cpN_o (by omega)]
    rw [r135_2]
    simp (disch := omega) only [r135_3, r135_5, r135_8, r135_9, r135_12, r135_13, r135_14, r135_17, r135_18, r135_19, r135_20, r135_23, nI_le'', show ¬ 91 ≤ j from by omega, if_false, e, cpN_s, nI_add]
    exact ih (j + 1) (by omega)
theorem q_putsBack : R 135 0 [.ref 36, .null] [] (SH L, M) = some (none, (SH L, cpN M 37 39 91)) := by
  have := q_back_l (L := L) (M := M) 91 0 (by omega)
  rw [cpN_0] at this
  simp only [r135_0, r135_1]
  exact this
theorem cp2_in {M : Nat → Nat → Int32} {a0 a n i : Nat} (h : i < n) : cp2 M a0 0 a 0 n a i = M a0 i := by
  show (if a = a then va_cpy (M a0) (M a) 0 0 n i else M a i) = _
  rw [if_pos rfl, pk_cpy_in (by omega) (by omega)]
  congr 1
  omega
theorem cp2_o {M : Nat → Nat → Int32} {a0 sp a dp n b i : Nat} (h : b ≠ a) : cp2 M a0 sp a dp n b i = M b i := if_neg h
theorem s_become {e e2 : Nat} (he : isE e) (he2 : isE e2) (hne : e ≠ e2) (hw : wfT t) (hE : rE M e2 t z sp) : ∃ M', R 19 0 [.ref e, .ref e2] [] (SH L, M) = some (none, (SH L, M')) ∧ frc e (e + 4) M M' ∧ rE M' e t z sp ∧ M' e 9 = M e 9 + nI 1 := by
  have hd : e + 4 < e2 ∨ e2 + 4 < e := by
    rcases he with rfl | rfl | rfl <;> rcases he2 with rfl | rfl | rfl <;> omega
  have hP := hw.2.1
  let A := cp2 (cp2 (cp2 (cp2 M (e2 + 1) 0 (e + 1) 0 72) (e2 + 2) 0 (e + 2) 0 5) (e2 + 3) 0 (e + 3) 0 4) (e2 + 4) 0 (e + 4) 0 10
  have fA : ∀ b i, (b < e + 1 ∨ e + 4 < b) → A b i = M b i := fun b i hb => by
    show cp2 (cp2 (cp2 (cp2 M (e2 + 1) 0 (e + 1) 0 72) (e2 + 2) 0 (e + 2) 0 5) (e2 + 3) 0 (e + 3) 0 4) (e2 + 4) 0 (e + 4) 0 10 b i = _
    rw [cp2_o (by omega), cp2_o (by omega), cp2_o (by omega), cp2_o (by omega)]
  have a4 : A e2 4 = nI (t 1) := by rw [fA _ _ (by omega)]; exact hE.p
  have a5 : A e2 5 = nI (t 3) := by rw [fA _ _ (by omega)]; exact hE.k
  have a6 : A e2 6 = nI (t 0) := by rw [fA _ _ (by omega)]; exact hE.y
  have a7 : A e2 7 = nI (t 2) := by rw [fA _ _ (by omega)]; exact hE.h
  have a8 : A e2 8 = z := by rw [fA _ _ (by omega)]; exact hE.zz
  have hA : R 19 0 [.ref e, .ref e2] [] (SH L, M) = R 19 72 [.ref e, .ref e2] [] (SH L, A) := by
    simp (disch := first | exact he | exact he2 | omega) only [r19_0, r19_1, r19_4, r19_5, r19_6, r19_9, r19_10, r19_11, r19_14, r19_15, r19_18, r19_19, r19_22, r19_23, r19_24, r19_27, r19_28, r19_29, r19_32, r19_33, r19_36, r19_37, r19_40, r19_41, r19_42, r19_45, r19_46, r19_47, r19_50, r19_51, r19_54, r19_55, r19_58, r19_59, r19_60, r19_63, r19_64, r19_65, r19_68, r19_69]
    rfl
  refine ⟨upd2 (upd2 (upd2 (upd2 (upd2 (upd2 A e 4 (nI (t 1))) e 5 (nI (t 3))) e 6 (nI (t 0))) e 7 (nI (t 2))) e 8 z) e 9 (M e 9 + nI 1), ?_, fun b hb => ?_, ⟨?_, ?_, ?_, ?_, ?_, fun p hp w hw => ?_, fun x hx => ?_, fun i hi => ?_, fun i hi => ?_⟩, upd2_eq⟩
  · rw [hA]
    generalize A = A at fA a4 a5 a6 a7 a8
    have b5 : upd2 A e 4 (nI (t 1)) e2 5 = nI (t 3) := by rw [upd2_ne (Or.inl (by omega))]; exact a5
    have b6 : upd2 (upd2 A e 4 (nI (t 1))) e 5 (nI (t 3)) e2 6 = nI (t 0) := by rw [upd2_ne (Or.inl (by omega)), upd2_ne (Or.inl (by omega))]; exact a6
    have b7 : upd2 (upd2 (upd2 A e 4 (nI (t 1))) e 5 (nI (t 3))) e 6 (nI (t 0)) e2 7 = nI (t 2) := by rw [upd2_ne (Or.inl (by omega)), upd2_ne (Or.inl (by omega)), upd2_ne (Or.inl (by omega))]; exact a7
    have b8 : upd2 (upd2 (upd2 (upd2 A e 4 (nI (t 1))) e 5 (nI (t 3))) e 6 (nI (t 0))) e 7 (nI (t 2)) e2 8 = z := by rw [upd2_ne (Or.inl (by omega)), upd2_ne (Or.inl (by omega)), upd2_ne (Or.inl (by omega)), upd2_ne (Or.inl (by omega))]; exact a8
    have b9 : upd2 (upd2 (upd2 (upd2 (upd2 A e 4 (nI (t 1))) e 5 (nI (t 3))) e 6 (nI (t 0))) e 7 (nI (t 2))) e 8 z e 9 = M e 9 := by
      rw [upd2_ne (Or.inr (by omega)), upd2_ne (Or.inr (by omega)), upd2_ne (Or.inr (by omega)), upd2_ne (Or.inr (by omega)), upd2_ne (Or.inr (by omega))]
      exact fA _ _ (by omega)
    simp (disch := first | exact he | exact he2 | omega) only [r19_72, r19_73, r19_74, r19_77, r19_80, r19_81, r19_82, r19_85, r19_88, r19_89, r19_90, r19_93, r19_96, r19_97, r19_98, r19_101, r19_104, r19_105, r19_106, r19_109, r19_112, r19_113, r19_114, r19_117, r19_118, r19_119, r19_122, a4, b5, b6, b7, b8, b9]
  · funext i
    simp (disch := omega) only [upd2_ne]
    exact fA b i (by omega)
  · simp (disch := omega) only [upd2_ne, upd2_eq]
  · simp (disch := omega) only [upd2_ne, upd2_eq]
  · simp (disch := omega) only [upd2_ne, upd2_eq]
  · simp (disch := omega) only [upd2_ne, upd2_eq]
  · simp (disch := omega) only [upd2_ne, upd2_eq]
  · simp (disch := omega) only [upd2_ne]
    show cp2 (cp2 (cp2 (cp2 M (e2 + 1) 0 (e + 1) 0 72) (e2 + 2) 0 (e + 2) 0 5) (e2 + 3) 0 (e + 3) 0 4) (e2 + 4) 0 (e + 4) 0 10 (e + 1) (p * 8 + w) = _
    rw [cp2_o (by omega), cp2_o (by omega), cp2_o (by omega), cp2_in (by omega)]
    exact hE.tr p hp w hw
  · simp (disch := omega) only [upd2_ne]
    show cp2 (cp2 (cp2 (cp2 M (e2 + 1) 0 (e + 1) 0 72) (e2 + 2) 0 (e + 2) 0 5) (e2 + 3) 0 (e + 3) 0 4) (e2 + 4) 0 (e + 4) 0 10 (e + 2) x = _
    rw [cp2_o (by omega), cp2_o (by omega), cp2_in (by omega), cp2_o (by omega)]
    exact hE.me x hx
  · simp (disch := omega) only [upd2_ne]
    show cp2 (cp2 (cp2 (cp2 M (e2 + 1) 0 (e + 1) 0 72) (e2 + 2) 0 (e + 2) 0 5) (e2 + 3) 0 (e + 3) 0 4) (e2 + 4) 0 (e + 4) 0 10 (e + 3) i = _
    rw [cp2_o (by omega), cp2_in (by omega), cp2_o (by omega), cp2_o (by omega)]
    exact hE.od i hi
  · simp (disch := omega) only [upd2_ne]
    show cp2 (cp2 (cp2 (cp2 M (e2 + 1) 0 (e + 1) 0 72) (e2 + 2) 0 (e + 2) 0 5) (e2 + 3) 0 (e + 3) 0 4) (e2 + 4) 0 (e + 4) 0 10 (e + 4) i = _
    rw [cp2_in (by omega), cp2_o (by omega), cp2_o (by omega), cp2_o (by omega)]
    exact hE.so i hi
theorem IV_k (h : IV M t z sp c) {M2 : Nat → Nat → Int32} (f : ∀ b, ((2 ≤ b ∧ b ≤ 6) ∨ (17 ≤ b ∧ b ≤ 20) ∨ (24 ≤ b ∧ b ≤ 34) ∨ b = 37 ∨ b = 40 ∨ (49 ≤ b ∧ b ≤ 53)) → M2 b = M b) (e14 : M2 36 14 = M 36 14) (hK : RK M2) : IV M2 t z sp c := by
  obtain ⟨hw, hsp, hE, hQ, ⟨hc, hcb, hd⟩, hF, -, hT, hH⟩ := h
  refine ⟨hw, hsp, rE_eq hE (fun k hk => f _ (by omega)), ?_, ⟨by rw [f 2 (by omega)]; exact hc, hcb, DI_4 hd (f 17 (by omega)) (f 18 (by omega)) (f 19 (by omega)) (f 20 (by omega))⟩, fun i hi => by rw [f 34 (by omega), f 40 (by omega)]; exact hF i hi, hK, RT_eq hT (by rw [f 24 (by omega)]) e14 (f 25 (by omega)) (f 49 (by omega)), RH_eq hH (f 31 (by omega)) (f 32 (by omega)) (f 33 (by omega)) (f 51 (by omega)) (f 52 (by omega)) (f 53 (by omega))⟩
  unfold rQ
  rw [f 37 (by omega)]
  exact hQ
theorem c_tear (h : IV M t z sp c) : OK L M c (fun M => R 105 0 [.ref 1, .null] [] (SH L, M)) (fun M => R 225 0 [.ref 36, .null] [] (SH L, M)) := by
  obtain ⟨k, hk, e1, e2, -⟩ := h.k
  have z1 : upd2 M 1 9 (nI 0) 36 4 = nI k := by rw [upd2_ne (Or.inl (by omega))]; exact e2
  have kk : ∀ {α : Type} {A B : α}, (if k = 0 then A else B) = (if k = 0 then A else B) := fun {α A B} => rfl
  refine okG (r := nI k) (M1 := upd2 M 1 9 (nI 0)) (M2 := upd2 (upd2 M 1 9 (nI 0)) 36 4 (nI 0)) ?_ ?_ (IV_k h (fun b hb => by funext j; simp (disch := omega) only [upd2_ne]) (by simp (disch := omega) only [upd2_ne]) ⟨0, by omega, by simp (disch := omega) only [upd2_ne, upd2_eq], upd2_eq, fun q => absurd q (by omega)⟩) (Nat.le_add_right _ _)
  · have : k = 0 ∨ k = 1 := by omega
    rcases this with rfl | rfl
    · simp only [r105_0, r105_1, r105_4, r105_7, r105_8, r105_11, r105_12, r105_13, r105_14, r105_15_0, r105_15_1, r105_18, r105_19, e1, nz0, if_true]
    · simp only [r105_0, r105_1, r105_4, r105_7, r105_8, r105_11, r105_12, r105_13, r105_14, r105_15_0, r105_15_1, r105_18, r105_19, e1, nz1, if_false]
  · have : k = 0 ∨ k = 1 := by omega
    rcases this with rfl | rfl
    · simp only [r225_0, r225_1, r225_4, r225_7, r225_8, r225_11, r225_12, r225_13, r225_14, r225_15_0, r225_15_1, r225_18, r225_19, z1, nz0, if_true]
    · simp only [r225_0, r225_1, r225_4, r225_7, r225_8, r225_11, r225_12, r225_13, r225_14, r225_15_0, r225_15_1, r225_18, r225_19, z1, nz1, if_false]
theorem c_image (h : IV M t z sp c) : OK L M c (fun M => R 103 0 [.ref 1] [] (SH L, M)) (fun M => R 223 0 [.ref 36, .null] [] (SH L, M)) := by
  obtain ⟨M1, e1, f1, E1, n1⟩ := s_become (L := L) (M := M) isE_7 isE_2 (by omega) h.w h.e
  have g1 : ∀ b, (b < 7 ∨ 11 < b) → M1 b = M b := fun b hb => f1 b (by omega)
  refine okG (r := nI 1) (M1 := upd2 M1 1 9 (nI 1)) (M2 := upd2 (cpN (upd2 M1 1 9 (nI 1)) 38 37 91) 36 4 (nI 1)) ?_ ?_ (IV_k h (fun b hb => ?_) ?_ ⟨1, by omega, ?_, upd2_eq, fun _ => ⟨t, z, sp, ⟨h.w, h.o⟩, h.ws, rE_eq E1 (fun k hk => ?_), ?_⟩⟩) (Nat.le_add_right _ _)
  · simp only [r103_0, r103_1, r103_4, r103_5, r103_8, r103_11, r103_12, r103_13_0, r103_13_1, r103_16, r103_17, e1, Option.bind_some, vtl_none]
  · have := q_image_l (L := L) (M := upd2 M1 1 9 (nI 1)) 91 0 (by omega)
    rw [cpN_0] at this
    simp only [r223_0, r223_1]
    rw [this]
    simp only [r223_26, r223_27, r223_28_0, r223_28_1, r223_31, r223_32]
  · funext j
    rw [upd2_ne (Or.inl (by omega)), cpN_o (by omega), upd2_ne (Or.inl (by omega)), g1 b (by omega)]
  · rw [upd2_ne (Or.inr (by omega)), cpN_o (by omega), upd2_ne (Or.inl (by omega)), g1 36 (by omega)]
  · rw [upd2_ne (Or.inl (by omega)), cpN_o (by omega), upd2_eq]
  · funext j
    rw [upd2_ne (Or.inl (by omega)), cpN_o (by omega), upd2_ne (Or.inl (by omega))]
  · have q37 : rQ (upd2 M1 1 9 (nI 1)) 37 t z sp := by
      have : upd2 M1 1 9 (nI 1) 37 = M 37 := by funext j; rw [upd2_ne (Or.inl (by omega)), g1 37 (by omega)]
      unfold rQ
      rw [this]
      exact h.q
    have q38 := rQ_cp (a := 38) q37
    unfold rQ at q38 ⊢
    have : upd2 (cpN (upd2 M1 1 9 (nI 1)) 38 37 91) 36 4 (nI 1) 38 = cpN (upd2 M1 1 9 (nI 1)) 38 37 91 38 := by funext j; rw [upd2_ne (Or.inl (by omega))]
    rw [this]
    exact q38
theorem c_undo (h : IV M t z sp c) (hcb : c < 49000000) : OK L M c (fun M => R 104 0 [.ref 1] [] (SH L, M)) (fun M => R 224 0 [.ref 36, .null] [] (SH L, M)) := by
  obtain ⟨k, hk, e1, e2, kp⟩ := h.k
  by_cases h1 : k = 0
  · subst h1
    refine okFc h (x := -1000004) (k := 3) (by simp only [r104_0, r104_1, r104_4, r104_7, r104_8, r104_10, r104_13, r104_14, r104_15, r104_18, r104_19, r104_22, r104_25, r104_26, r104_29, r104_32, e1, nz0, if_true, fd3, Option.bind_some, vtl_some]) (fun M1 fr hs => ?_)
    have z1 : M1 36 4 = nI 0 := by rw [fr 36 (by omega)]; exact e2
    simp only [r224_0, r224_1, r224_4, r224_7, r224_8, r224_10, r224_13, z1, nz0, if_true, gd3, Option.bind_some, vtl_some]
  · have h2 : k = 1 := by omega
    subst h2
    obtain ⟨t', z', sp', ⟨hw', hO'⟩, hsp', hE', hq'⟩ := kp rfl
    obtain ⟨M1, g1, f1, E1, n1⟩ := s_become (L := L) (M := M) isE_2 isE_7 (by omega) hw' hE'
    rw [h.cc, nI_add] at n1
    have o6 : M1 2 6 = nI (t' 0) := E1.y
    refine okM h hcb (r := nI (t' 0)) (c' := c + 1) (by simp only [r104_0, r104_1, r104_4, r104_7, r104_8, r104_10, r104_13, r104_14, r104_15, r104_18, r104_19, r104_22, r104_25, r104_26, r104_29, r104_32, e1, nz1, if_false, g1, o6, Option.bind_some, vtl_none]) (fM_of f1 (by omega)) E1 n1 (by omega) (DI_bump h.d (fun b hb => f1 b (by omega)) (by omega)) hw' hO' hsp' (fun _ => ?_)
    have z1 : M1 36 4 = nI 1 := by rw [f1 36 (by omega)]; exact e2
    have q38 : rQ M1 38 t' z' sp' := by unfold rQ; rw [f1 38 (by omega)]; exact hq'
    have q37 := rQ_cp (a := 37) q38
    have := q_undo_l (L := L) (M := M1) 91 0 (by omega)
    rw [cpN_0] at this
    refine ⟨cpN M1 37 38 91, ?_, fun b hb => cpN_o (by omega), q37⟩
    have y0 : cpN M1 37 38 91 37 0 = nI (t' 0) := q37.1 0 (by omega) (by omega)
    simp only [r224_0, r224_1, r224_4, r224_7, r224_8, r224_10, r224_13, r224_14, r224_15, z1, nz1, if_false]
    rw [this]
    simp (disch := omega) only [r224_40, r224_41, r224_44, r224_45, r224_46, y0]
def thN (t : Nat → Nat) : Nat → Nat
  | 0 => 0
  | n + 1 => thN t n ||| (if mem t n = 0 then 0 else 2 ^ n)
def tqN (t : Nat → Nat) : Nat → Nat
  | 0 => 0
  | n + 1 => tqN t n ||| 2 ^ th t n
theorem thN_bit (t : Nat → Nat) (i : Nat) : ∀ n, (thN t n).testBit i = true ↔ i < n ∧ mem t i ≠ 0 := by
  intro n
  induction n with
  | zero => simp [thN]
  | succ n ih =>
    rw [thN, Nat.testBit_or, Bool.or_eq_true, ih]
    by_cases h : mem t n = 0
    · rw [if_pos h, Nat.zero_testBit]
      constructor
      · rintro (⟨h1, h2⟩ | h1)
        · exact ⟨by omega, h2⟩
        · cases h1
      · rintro ⟨h1, h2⟩
        by_cases e : i = n
        · subst e; exact absurd h h2
        · exact Or.inl ⟨by omega, h2⟩
    · rw [if_neg h, Nat.testBit_two_pow]
      constructor
      · rintro (⟨h1, h2⟩ | h1)
        · exact ⟨by omega, h2⟩
        · have : n = i := by simpa using h1
          subst this
          exact ⟨by omega, h⟩
      · rintro ⟨h1, h2⟩
        by_cases e : n = i
        · exact Or.inr (by simpa using e)
        · exact Or.inl ⟨by omega, h2⟩
theorem tqN_bit (t : Nat → Nat) (i : Nat) : ∀ n, (tqN t n).testBit i = true ↔ ∃ p, p < n ∧ th t p = i := by
  intro n
  induction n with
  | zero => simp [tqN]
  | succ n ih =>
    rw [tqN, Nat.testBit_or, Bool.or_eq_true, ih, Nat.testBit_two_pow]
    constructor
    · rintro (⟨p, h1, h2⟩ | h1)
      · exact ⟨p, by omega, h2⟩
      · exact ⟨n, by omega, by simpa using h1⟩
    · rintro ⟨p, h1, h2⟩
      by_cases e : p = n
      · subst e; exact Or.inr (by simpa using h2)
      · exact Or.inl ⟨p, by omega, h2⟩
theorem th_eq (hw : wfT t) : thN t 5 = tqN t (t 1) := by
  have hP := hw.2.1
  apply bit_ext
  intro i
  rw [thN_bit, tqN_bit]
  constructor
  · rintro ⟨h1, h2⟩
    have : ∃ p, (mem t i).testBit p = true := Classical.byContradiction fun z => h2 (Nat.eq_of_testBit_eq fun p => by
      rw [Nat.zero_testBit]
      cases q : (mem t i).testBit p
      · rfl
      · exact absurd ⟨p, q⟩ z)
    obtain ⟨p, hp⟩ := this
    obtain ⟨p1, p2⟩ := (mem_bit t i p).mp hp
    exact ⟨p, p1, p2⟩
  · rintro ⟨p, p1, p2⟩
    have h5 : th t p < 5 := (hw.2.2.2.2.2.1 p (by omega)).2.1
    refine ⟨by omega, fun z => ?_⟩
    have := (mem_bit t i p).mpr ⟨p1, p2⟩
    rw [z, Nat.zero_testBit] at this
    cases this
theorem thN_lt (n : Nat) : thN t n < 2 ^ n := by
  induction n with
  | zero => exact Nat.one_pos
  | succ n ih =>
    rw [thN]
    refine Nat.or_lt_two_pow (Nat.lt_of_lt_of_le ih (Nat.pow_le_pow_right (by decide) (by omega))) ?_
    split
    · exact Nat.two_pow_pos _
    · exact Nat.pow_lt_pow_right (by decide) (by omega)
theorem k_thg_l (hE : rE M 2 t z sp) (hw : wfT t) : ∀ (k n : Nat), n + k = 5 → R 28 4 [.ref 2, .int (nI (thN t n)), .int (nI n)] [] (SH L, M) = some (some (.int (nI (thN t 5))), (SH L, M)) := by
  have hme : ∀ x, x < 5 → M 4 x = nI (mem t x) := hE.me
  intro k
  induction k with
  | zero =>
    intro n hn
    rw [r28_4]
    simp (disch := omega) only [r28_5, r28_6, r28_34, r28_35, nI_le'', show 5 ≤ n from by omega, if_true]
    rw [show n = 5 by omega]
  | succ k ih =>
    intro n hn
    have hm := mem_lt n hw.2.1
    have m2 : M (2 + 2) n = nI (mem t n) := hme n (by omega)
    rw [r28_4]
    simp (disch := first | exact isE_2 | omega) only [r28_5, r28_6, r28_9, r28_10, r28_11, r28_14, r28_15, r28_16, r28_19, r28_20, r28_23, r28_24, r28_25, nI_le'', show ¬ 5 ≤ n from by omega, if_false, hme n, m2, nI_eq0, nI_shl1, mg_R, mg_n]
    simp only [r28_26, r28_27, r28_28, r28_31, nI_or, nI_add]
    exact ih (n + 1) (by omega)
theorem q_thg_l (hs : rS M t) (hw : wfT t) : ∀ (k n : Nat), n + k = t 1 → R 226 4 [.ref 36, .int (nI (tqN t n)), .int (nI n)] [] (SH L, M) = some (some (.int (nI (tqN t (t 1)))), (SH L, M)) := by
  have hP := hw.2.1
  intro k
  induction k with
  | zero =>
    intro n hn
    rw [r226_4]
    simp (disch := omega) only [r226_5, r226_6, r226_9, r226_10, r226_11, r226_31, r226_32, hs 1, nI_le'', show t 1 ≤ n from by omega, if_true]
    rw [show n = t 1 by omega]
  | succ k ih =>
    intro n hn
    have h5 : t (9 + 8 * n + 1) < 5 := (hw.2.2.2.2.2.1 n (by omega)).2.1
    rw [r226_4]
    simp (disch := omega) only [r226_5, r226_6, r226_9, r226_10, r226_11, r226_14, r226_15, r226_16, r226_17, r226_18, r226_19, r226_22, r226_23, r226_24, r226_25, r226_28, hs 1, nI_le'', show ¬ t 1 ≤ n from by omega, if_false, s_its, hs (9 + 8 * n + 1), nI_shl1, nI_or, nI_add, Option.bind_some, vtl_some]
    exact ih (n + 1) (by omega)
def hdN (sp : Nat → Int32) : Nat → Nat
  | 0 => 0
  | n + 1 => hdN sp n + (if 0 ≤ sp n then 1 else 0)
theorem k_hd_l (hE : rE M 2 t z sp) : ∀ (k n : Nat) (v5 : Value), n + k = 10 → R 29 13 [.ref 2, .int (nI (hdN sp n)), .ref 6, .int (nI 10), .int (nI n), v5] [] (SH L, M) = some (some (.int (nI (hdN sp 10))), (SH L, M)) := by
  have hso : ∀ i, i < 10 → M 6 i = sp i := hE.so
  intro k
  induction k with
  | zero =>
    intro n v5 hn
    rw [r29_13]
    simp (disch := omega) only [r29_15, r29_16, r29_44, r29_45, nI_le'', show 10 ≤ n from by omega, if_true]
    rw [show n = 10 by omega]
  | succ k ih =>
    intro n v5 hn
    have m2 : M (2 + 4) n = sp n := hso n (by omega)
    rw [r29_13]
    simp (disch := first | exact isE_2 | omega) only [r29_15, r29_16, r29_19, r29_20, r29_22, r29_23, r29_25, r29_26, r29_28, r29_31, r29_32, r29_35, nI_le'', show ¬ 10 ≤ n from by omega, if_false, hso n, m2, mg_R, mg_n]
    simp only [r29_36, r29_37, r29_38, r29_41, nI_add]
    exact ih (n + 1) _ (by omega)
theorem q_hd_l (hq : rQ M 37 t z sp) : ∀ (k n : Nat), n + k = 10 → R 227 4 [.ref 36, .int (nI (hdN sp n)), .int (nI n)] [] (SH L, M) = some (some (.int (nI (hdN sp 10))), (SH L, M)) := by
  intro k
  induction k with
  | zero =>
    intro n hn
    rw [r227_4]
    simp (disch := omega) only [r227_5, r227_7, r227_36, r227_37, nI_le'', show 10 ≤ n from by omega, if_true]
    rw [show n = 10 by omega]
  | succ k ih =>
    intro n hn
    have h7 := hq.2.2 n (by omega)
    rw [r227_4]
    simp (disch := omega) only [r227_5, r227_7, r227_10, r227_11, r227_12, r227_15, r227_17, r227_18, r227_19, r227_20, r227_23, r227_24, r227_27, nI_le'', show ¬ 10 ≤ n from by omega, if_false, nI_add, h7, mg_R, mg_n]
    simp only [r227_28, r227_29, r227_30, r227_33, nI_add]
    exact ih (n + 1) (by omega)
theorem c_count (h : IV M t z sp c) (a : Int32) : OK L M c (fun M => R 106 0 [.ref 1, .int a] [] (SH L, M)) (fun M => R 228 0 [.ref 36, .int a] [] (SH L, M)) := by
  have hP := h.w.2.1
  have hq := h.q
  have hs := h.s
  obtain ⟨n, b, hn, e1, e2, -⟩ := h.tp
  by_cases h1 : rng a 8
  · obtain ⟨x, hx, rfl⟩ := rng_of (by omega) h1
    have : x = 0 ∨ x = 1 ∨ x = 2 ∨ x = 3 ∨ x = 4 ∨ x = 5 ∨ x = 6 ∨ x = 7 := by omega
    rcases this with rfl | rfl | rfl | rfl | rfl | rfl | rfl | rfl
    · exact okVc h (r := nI (t 0)) (M1 := M) (by simp only [r106_0, r106_1_0, r106_48, r106_49, r106_52, r106_55, h.e.y]) fC_rf h.d rfl (fun hs => ⟨M, by simp (disch := omega) only [r228_0, r228_1_0, r228_48, r228_49, r228_52, r228_53, r228_54, hs 0], fR_rf, rfl⟩)
    · exact okVc h (r := nI (t 1)) (M1 := M) (by simp only [r106_0, r106_1_1, r106_56, r106_57, r106_60, r106_63, h.e.p]) fC_rf h.d rfl (fun hs => ⟨M, by simp (disch := omega) only [r228_0, r228_1_1, r228_55, r228_56, r228_59, r228_60, r228_61, hs 1], fR_rf, rfl⟩)
    · exact okVc h (r := nI (t 2)) (M1 := M) (by simp only [r106_0, r106_1_2, r106_64, r106_65, r106_68, r106_71, h.e.h]) fC_rf h.d rfl (fun hs => ⟨M, by simp (disch := omega) only [r228_0, r228_1_2, r228_62, r228_63, r228_66, r228_67, r228_68, hs 2], fR_rf, rfl⟩)
    · have k3 := k_thg_l (L := L) h.e h.w 5 0 (Nat.zero_add _)
      have q3 := q_thg_l (L := L) h.s h.w (t 1) 0 (Nat.zero_add _)
      rw [thN] at k3
      rw [tqN] at q3
      refine okVc h (r := nI (thN t 5)) (M1 := M) (by simp only [r106_0, r106_1_3, r106_72, r106_73, r106_76, r106_79, r28_0, r28_1, r28_2, r28_3, k3, Option.bind_some, vtl_some]) fC_rf h.d rfl (fun hs => ⟨M, ?_, fR_rf, rfl⟩)
      rw [th_eq h.w]
      simp (disch := omega) only [r228_0, r228_1_3, r228_69, r228_70, r228_73, r226_0, r226_1, r226_2, r226_3, q3, Option.bind_some, vtl_some]
    · exact okVc h (r := nI (t 3)) (M1 := M) (by simp only [r106_0, r106_1_4, r106_80, r106_81, r106_84, r106_87, h.e.k]) fC_rf h.d rfl (fun hs => ⟨M, by simp (disch := omega) only [r228_0, r228_1_4, r228_74, r228_75, r228_78, r228_79, r228_80, hs 3], fR_rf, rfl⟩)
    · exact okVc h (r := nI n) (M1 := M) (by simp only [r106_0, r106_1_5, r106_88, r106_89, r106_92, r106_95, e1]) fC_rf h.d rfl (fun hs => ⟨M, by simp (disch := omega) only [r228_0, r228_1_5, r228_81, r228_82, r228_85, e2], fR_rf, rfl⟩)
    · have z4 : M 37 4 = z := hq.2.1
      exact okVc h (r := z) (M1 := M) (by simp only [r106_0, r106_1_6, r106_96, r106_97, r106_100, r106_103, h.e.zz]) fC_rf h.d rfl (fun hs => ⟨M, by simp (disch := omega) only [r228_0, r228_1_6, r228_86, r228_87, r228_90, r228_91, r228_92, z4], fR_rf, rfl⟩)
    · have k7 := k_hd_l (L := L) h.e 10 0 .null (Nat.zero_add _)
      have q7 := q_hd_l (L := L) hq 10 0 (Nat.zero_add _)
      rw [hdN] at k7 q7
      exact okVc h (r := nI (hdN sp 10)) (M1 := M) (by simp (disch := first | exact isE_2 | omega) only [r106_0, r106_1_7, r106_104, r106_105, r106_108, r106_111, r29_0, r29_1, r29_2, r29_3, r29_6, r29_7, r29_8, r29_9, r29_10, r29_11, k7, Option.bind_some, vtl_some]) fC_rf h.d rfl (fun hs => ⟨M, by simp (disch := omega) only [r228_0, r228_1_7, r228_93, r228_94, r228_97, r227_0, r227_1, r227_2, r227_3, q7, Option.bind_some, vtl_some], fR_rf, rfl⟩)
  · have hx : a.toInt < 0 ∨ 7 < a.toInt := by
      unfold rng at h1
      omega
    exact okF0 h (x := -1000001) (k := 0) (by simp only [r106_0, r106_1_d hx, r106_112, r106_113, r106_115, r106_118, fd0, Option.bind_some, vtl_some]) (fun M1 hs => by simp only [r228_0, r228_1_d hx, r228_98, r228_99, r228_101, r228_104, gd0, Option.bind_some, vtl_some])
def stN (g : Nat → Int32) : Nat → Int32
  | 0 => nI 0
  | n + 1 => stN g n + g n
theorem stN_1 {g : Nat → Int32} {k : Nat} (hg : ∀ i, i < 7 → i ≠ k → g i = nI 0) : ∀ n, n ≤ 7 → stN g n = if k < n then g k else nI 0 := by
  intro n
  induction n with
  | zero => intro _; rfl
  | succ n ih =>
    intro hn
    rw [stN, ih (by omega)]
    by_cases q : n = k
    · subst q
      rw [if_neg (Nat.lt_irrefl _), if_pos (by omega), nI_0, Int32.zero_add]
    · rw [hg n (by omega) q]
      by_cases q2 : k < n
      · rw [if_pos q2, if_pos (by omega), nI_0, Int32.add_zero]
      · rw [if_neg q2, if_neg (by omega), nI_0, Int32.add_zero]
theorem stN_cg {g g' : Nat → Int32} : ∀ n, (∀ i, i < n → g i = g' i) → stN g n = stN g' n := by
  intro n
  induction n with
  | zero => intro _; rfl
  | succ n ih => intro h; rw [stN, stN, ih (fun i hi => h i (by omega)), h n (by omega)]
theorem k_st_l {v1 : Value} : ∀ (k n : Nat) (v6 : Value), n + k = 7 → R 107 46 [.ref 1, v1, .int (stN (M 34) n), .ref 34, .int (nI 7), .int (nI n), v6] [] (SH L, M) = some (some (.int (stN (M 34) 7)), (SH L, M)) := by
  intro k
  induction k with
  | zero =>
    intro n v6 hn
    rw [r107_46]
    simp (disch := omega) only [r107_48, r107_50, r107_70, r107_71, nI_le'', show 7 ≤ n from by omega, if_true]
    rw [show n = 7 by omega]
  | succ k ih =>
    intro n v6 hn
    rw [r107_46]
    simp (disch := omega) only [r107_48, r107_50, r107_53, r107_54, r107_56, r107_57, r107_59, r107_60, r107_62, r107_63, r107_64, r107_67, nI_le'', show ¬ 7 ≤ n from by omega, if_false, nI_add]
    exact ih (n + 1) _ (by omega)
theorem q_st_l {a : Int32} {g : Nat → Int32} (hg : ∀ i, i < 7 → g i = if a < 0 then M 40 i else if nI i = a then M 40 i else nI 0) : ∀ (k n : Nat), n + k = 7 → R 229 25 [.ref 36, .int a, .int (stN g n), .int (nI n)] [] (SH L, M) = some (some (.int (stN g 7)), (SH L, M)) := by
  intro k
  induction k with
  | zero =>
    intro n hn
    rw [r229_25]
    simp (disch := omega) only [r229_26, r229_28, r229_59, r229_60, nI_le'', show 7 ≤ n from by omega, if_true]
    rw [show n = 7 by omega]
  | succ k ih =>
    intro n hn
    have iH := ih (n + 1) (by omega)
    rw [stN, hg n (by omega)] at iH
    rw [r229_25]
    simp (disch := omega) only [r229_26, r229_28, r229_31, r229_32, r229_33, r229_36, r229_37, r229_38, r229_41, r229_42, r229_45, r229_46, r229_47, r229_50, nI_le'', show ¬ 7 ≤ n from by omega, if_false]
    by_cases q1 : a < 0
    · rw [if_pos q1] at iH ⊢
      simp only [r229_51, r229_52, r229_53, r229_56, nI_add]
      exact iH
    · rw [if_neg q1] at iH ⊢
      by_cases q2 : nI n = a
      · rw [if_pos q2] at iH ⊢
        simp only [r229_51, r229_52, r229_53, r229_56, nI_add]
        exact iH
      · rw [if_neg q2] at iH ⊢
        simp only [r229_51, r229_52, r229_53, r229_56, nI_add]
        exact iH
theorem c_status (h : IV M t z sp c) (a : Int32) : OK L M c (fun M => R 107 0 [.ref 1, .int a, .null, .null, .null, .null, .null] [] (SH L, M)) (fun M => R 229 0 [.ref 36, .int a, .null, .null] [] (SH L, M)) := by
  have m1 : ((-1 : Int32)).toInt = -1 := by decide +kernel
  have i7 : ∀ w : vW, R 123 0 [.long a.toInt64, .null, .long (-1), .null, .long 6, .null] [] w = some (some (.int (if a = -1 ∨ rng a 7 then nI 1 else nI 0)), w) := fun w => by
    rw [s_in32 (lo := -1) (hi := nI 6) (show (-1 : Int64) = (-1 : Int32).toInt64 from by decide +kernel) (show (6 : Int64) = (nI 6).toInt64 from by decide +kernel)]
    have e : ((-1 : Int32) ≤ a ∧ a ≤ nI 6) = (a = -1 ∨ rng a 7) := by
      rw [Int32.le_iff_toInt_le, Int32.le_iff_toInt_le, nI_toInt (by omega), m1, ← Int32.toInt_inj, m1]
      unfold rng
      apply propext
      omega
    simp only [e]
  by_cases h1 : a = -1 ∨ rng a 7
  · have ql := q_st_l (L := L) (M := M) (a := a) (g := fun i => if a < 0 then M 40 i else if nI i = a then M 40 i else nI 0) (fun _ _ => rfl) 7 0 (Nat.zero_add _)
    have Q0 : R 229 0 [.ref 36, .int a, .null, .null] [] (SH L, M) = some (some (.int (stN (fun i => if a < 0 then M 40 i else if nI i = a then M 40 i else nI 0) 7)), (SH L, M)) := by
      rw [← ql]
      simp only [r229_0, r229_1, r229_2, r229_5, r229_8, r229_11, r229_14, r229_15, r229_17, r229_20, r229_21, r229_22, r229_23, r229_24, i7, if_pos h1, nz1, if_false, Option.bind_some, vtl_some]
      rfl
    have C0 : R 107 0 [.ref 1, .int a, .null, .null, .null, .null, .null] [] (SH L, M) = R 107 21 [.ref 1, .int a, .null, .null, .null, .null, .null] [] (SH L, M) := by
      simp only [r107_0, r107_1, r107_2, r107_5, r107_6, r107_7, r107_10, r107_11, r107_14, r107_15, r107_17, r107_20, hld (show 7 < 2 ^ 30 by decide), if_pos h1]
    by_cases h2 : rng a 7
    · obtain ⟨k, hk, rfl⟩ := rng_of (by omega) h2
      refine okVc h (r := M 34 k) (M1 := M) (by rw [C0]; simp (disch := omega) only [r107_21, r107_22, r107_25, r107_26, r107_29, r107_30, r107_31, nI_lt0, if_false]) fC_rf h.d rfl (fun hs => ⟨M, ?_, fR_rf, rfl⟩)
      rw [Q0, stN_1 (k := k) (fun i hi hne => by rw [if_neg (nI_pos (by omega)), if_neg (by rw [nI_eq' (by omega) (by omega)]; exact hne)]) 7 (Nat.le_refl _), if_pos hk, if_neg (nI_pos (by omega)), if_pos rfl, h.f k hk]
    · have ha : a = -1 := h1.resolve_right h2
      have l0 : a < 0 := by rw [ha]; decide +kernel
      have kl := k_st_l (L := L) (M := M) (v1 := .int a) 7 0 .null (Nat.zero_add _)
      rw [stN] at kl
      refine okVc h (r := stN (M 34) 7) (M1 := M) (by rw [C0]; simp (disch := omega) only [r107_21, r107_22, r107_25, r107_26, r107_29, r107_30, r107_31, r107_32, r107_33, r107_34, r107_35, r107_38, r107_39, r107_40, r107_41, r107_43, r107_44, if_pos l0]; exact kl) fC_rf h.d rfl (fun hs => ⟨M, ?_, fR_rf, rfl⟩)
      rw [Q0, stN_cg (g' := M 34) 7 (fun i hi => by rw [if_pos l0]; exact (h.f i hi).symm)]
  · exact okF0 h (x := (-1000001)) (k := 0) (by simp (disch := omega) only [r107_0, r107_1, r107_2, r107_5, r107_6, r107_7, r107_10, r107_11, r107_14, r107_15, r107_17, r107_20, Option.bind_some, vtl_some, vtl_none, s_within, s_isSet5 h.e h.w, h.e.p, h.e.h, h.od5, h.me4, b2_eq0, ite_not2, nz1, nz0, n1z, n0z, if_true, if_false, fd0, fd1, fd2, fd3, fd4, fd5, fd6, hld (show 7 < 2 ^ 30 by decide), if_neg h1]) (fun M1 hs => by simp (disch := omega) only [r229_0, r229_1, r229_2, r229_5, r229_8, r229_11, r229_14, r229_15, r229_17, r229_20, Option.bind_some, vtl_some, vtl_none, s_isPart hs h.w, s_isHeir hs h.w, s_isSet6 hs h.w, s_isAny, s_isThing, s_isOne, b2_eq0, ite_not2, nz1, nz0, n1z, n0z, if_true, if_false, gd0, gd1, gd2, gd3, gd4, gd5, gd6, hs 1, hs 2, i7, if_neg h1])
end IMG
