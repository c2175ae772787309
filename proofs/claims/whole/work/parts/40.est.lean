/-! The class: an estate's values -/
abbrev rE (M : Nat → Nat → Int32) (e : Nat) (t : Nat → Nat) (z : Int32) (sp : Nat → Int32) : Prop := M e 4 = nI (t 1) ∧ M e 5 = nI (t 3) ∧ M e 6 = nI (t 0) ∧ M e 7 = nI (t 2) ∧ M e 8 = z ∧ (∀ p, p < t 1 → ∀ w, w < 8 → M (e + 1) (p * 8 + w) = nI (t (9 + 8 * p + w))) ∧ (∀ x, x < 5 → M (e + 2) x = nI (mem t x)) ∧ (∀ i, i < 4 → M (e + 3) i = nI (t (5 + i))) ∧ (∀ i, i < 10 → M (e + 4) i = sp i)
section REA
variable {M : Nat → Nat → Int32} {e : Nat} {t : Nat → Nat} {z : Int32} {sp : Nat → Int32}
theorem rE.p (h : rE M e t z sp) : M e 4 = nI (t 1) := h.1
theorem rE.k (h : rE M e t z sp) : M e 5 = nI (t 3) := h.2.1
theorem rE.y (h : rE M e t z sp) : M e 6 = nI (t 0) := h.2.2.1
theorem rE.h (h : rE M e t z sp) : M e 7 = nI (t 2) := h.2.2.2.1
theorem rE.zz (h : rE M e t z sp) : M e 8 = z := h.2.2.2.2.1
theorem rE.tr (h : rE M e t z sp) : ∀ p, p < t 1 → ∀ w, w < 8 → M (e + 1) (p * 8 + w) = nI (t (9 + 8 * p + w)) := h.2.2.2.2.2.1
theorem rE.me (h : rE M e t z sp) : ∀ x, x < 5 → M (e + 2) x = nI (mem t x) := h.2.2.2.2.2.2.1
theorem rE.od (h : rE M e t z sp) : ∀ i, i < 4 → M (e + 3) i = nI (t (5 + i)) := h.2.2.2.2.2.2.2.1
theorem rE.so (h : rE M e t z sp) : ∀ i, i < 10 → M (e + 4) i = sp i := h.2.2.2.2.2.2.2.2
end REA
theorem rE_frc {M M' : Nat → Nat → Int32} {e a b : Nat} {t : Nat → Nat} {z : Int32} {sp : Nat → Int32} (h : rE M e t z sp) (hf : frc a b M M') (hd : e + 4 < a ∨ b < e) : rE M' e t z sp := by
  have g : ∀ k, k < 5 → M' (e + k) = M (e + k) := fun k hk => hf (e + k) (by omega)
  have g0 : M' e = M e := g 0 (by omega)
  exact ⟨by rw [g0]; exact h.p, by rw [g0]; exact h.k, by rw [g0]; exact h.y, by rw [g0]; exact h.h, by rw [g0]; exact h.zz, by rw [g 1 (by omega)]; exact h.tr, by rw [g 2 (by omega)]; exact h.me, by rw [g 3 (by omega)]; exact h.od, by rw [g 4 (by omega)]; exact h.so⟩
section EST
variable {L e : Nat} {M : Nat → Nat → Int32} {t : Nat → Nat} {z : Int32} {sp : Nat → Int32}
def bcI (x : Int32) : Int32 :=
  let u : Int32 → Int32 → Int32 := fun x y => (x.toUInt32 >>> (y.toUInt32 &&& Int32.toUInt32 31)).toInt32
  let a := x - (u x (nI 1) &&& nI 1431655765)
  let b := (a &&& nI 858993459) + (u a (nI 2) &&& nI 858993459)
  let c := (b + u b (nI 4)) &&& nI 252645135
  let d := c + u c (nI 8)
  let f := d + u d (nI 16)
  f &&& nI 63
theorem bcI_pop : ∀ s, s < 512 → bcI (nI s) = nI (pop s) := by decide +kernel
theorem s_bitCount {s : Nat} {w : vW} (hs : s < 512) : R 231 0 [.int (nI s)] [] w = some (some (.int (nI (pop s))), w) := by
  rw [← bcI_pop s hs]
  simp only [r231_0, r231_1, r231_2, r231_3, r231_4, r231_7, r231_8, r231_9, r231_10, r231_11, r231_14, r231_15, r231_16, r231_17, r231_18, r231_21, r231_22, r231_23, r231_24, r231_25, r231_26, r231_27, r231_28, r231_29, r231_32, r231_33, r231_34, r231_35, r231_36, r231_38, r231_39, r231_40, r231_41, r231_42, r231_43, r231_45, r231_46, r231_47, r231_48, r231_49, r231_51, r231_52]
  rfl
theorem s_all (he : isE e) (hE : rE M e t z sp) (hw : wfT t) : R 20 0 [.ref e] [] (SH L, M) = some (some (.int (nI (allT t))), (SH L, M)) := by
  have hP := hw.2.1
  simp (disch := first | exact he | omega) only [r20_0, r20_1, r20_2, r20_5, r20_6, r20_7, r20_8, hE.p, nI_shl1]
  rw [pk_sub Nat.one_le_two_pow]
  rfl
theorem s_trait (he : isE e) {p w : Nat} (h : p * 8 + w < 72) : R 21 0 [.ref e, .int (nI p), .int (nI w)] [] (SH L, M) = some (some (.int (M (e + 1) (p * 8 + w))), (SH L, M)) := by
  simp (disch := first | exact he | omega) only [r21_0, r21_1, r21_4, r21_5, r21_7, r21_8, r21_9, r21_10, r21_11, pk_mul, nI_add]
theorem s_joined (he : isE e) (hE : rE M e t z sp) (hw : wfT t) {a b : Nat} (ha : a < t 1) (hb : b < t 1) : R 30 0 [.ref e, .int (nI a), .int (nI b)] [] (SH L, M) = some (some (.int (if th t a = th t b ∧ t (9 + 8 * a + 3) = t (9 + 8 * b + 2) then nI 1 else nI 0)), (SH L, M)) := by
  have hP := hw.2.1
  obtain ⟨-, a1, a2, a3, -⟩ := hw.2.2.2.2.2.1 a (by omega)
  obtain ⟨-, b1, b2, b3, -⟩ := hw.2.2.2.2.2.1 b (by omega)
  have a1' : t (9 + 8 * a + 1) < 5 := a1
  have b1' : t (9 + 8 * b + 1) < 5 := b1
  simp (disch := first | exact he | omega) only [r30_0, r30_1, r30_2, r30_3, r30_6, r30_7, r30_8, r30_9, r30_12, r30_15, r30_16, r30_17, r30_18, r30_21, r30_22, r30_23, r30_24, r30_27, r30_30, r30_31, r30_34, r30_35_0, r30_35_1, s_trait, Option.bind_some, vtl_some, hE.tr a ha 1, hE.tr b hb 1, hE.tr a ha 3, hE.tr b hb 2, nI_eq', mg_R]
  by_cases q1 : t (9 + 8 * a + 1) = t (9 + 8 * b + 1)
  · by_cases q2 : t (9 + 8 * a + 3) = t (9 + 8 * b + 2)
    · rw [if_pos q1, if_pos q2, if_pos ⟨q1, q2⟩]
    · rw [if_pos q1, if_neg q2, if_neg (fun z => q2 z.2)]
  · rw [if_neg q1, if_neg (fun z => q1 z.1)]
theorem s_brBy (he : isE e) (hE : rE M e t z sp) (hw : wfT t) {p h s : Nat} (hp : p < t 1) (hh : h < 4) (hss : s < 512) : R 31 0 [.ref e, .int (nI p), .int (nI h), .int (nI s), .null, .null, .null, .null, .null, .null] [] (SH L, M) = some (some (.int (nI (bring t p h s (mem t (th t p))))), (SH L, M)) := by
  have hP := hw.2.1
  obtain ⟨hk, hth, -, -, hwo⟩ := hw.2.2.2.2.2.1 p (by omega)
  replace hk : t (9 + 8 * p + 0) < 7 := hk
  replace hth : t (9 + 8 * p + 1) < 5 := hth
  replace hwo : t (9 + 8 * p + (4 + h)) ≤ 99 := hwo h hh
  have hy := hw.1
  have hkn := hw.2.2.2.2.1
  have hm : mem t (t (9 + 8 * p + 1)) < 512 := mem_lt _ hP
  have ew : M (e + 1) (p * 8 + 4 + h) = nI (t (9 + 8 * p + (4 + h))) := by rw [Nat.add_assoc]; exact hE.tr p hp (4 + h) (by omega)
  have d1 : dif (s &&& mem t (t (9 + 8 * p + 1))) (2 ^ p) < 2 ^ 31 := Nat.lt_of_le_of_lt (Nat.le_trans (dif_le _ _) Nat.and_le_left) (by omega)
  have d2 : dif (mem t (t (9 + 8 * p + 1))) s < 2 ^ 31 := Nat.lt_of_le_of_lt (dif_le _ _) (by omega)
  have hpop := pop_le s
  simp (disch := first | exact he | omega) only [r31_0, r31_1, r31_4, r31_5, r31_7, r31_8, r31_9, r31_10, r31_11, r31_12, r31_13, r31_15, r31_16, r31_19, r31_20, r31_23, r31_24, r31_26, r31_27, r31_28, r31_29, r31_30, r31_31, r31_33, r31_34, r31_36, r31_37, r31_38, r31_39, r31_40, r31_41, r31_42, r31_43, r31_46, r31_47, r31_50, pk_mul, nI_add, ew, hE.tr p hp 1, hE.me, nI_and, nI_shl1, nI_dif, nI_eq0, mg_R]
  simp only [r31_51, r31_53, r31_55, r31_58, r31_60, r31_62, r31_63, r31_66, c2_eq0, mg_R, nI_add]
  simp (disch := first | exact he | omega) only [r31_68, r31_70, r31_72, r31_73, r31_76, r31_79, r31_81, r31_82, r31_85, r31_86, r31_89, hE.y, nI_le'', mg_R]
  simp (disch := first | exact he | omega) only [r31_90, r31_92, r31_93, r31_96, r31_97, r31_98, r31_99, r31_100, r31_101, r31_104, r31_105, r31_108, hE.k, nI_bit, mg_R]
  simp (disch := first | exact he | omega) only [r31_110, r31_112, r31_113, r31_116, r31_117, r31_119, r31_120, r31_121, r31_122, pk_mul, nI_add, hE.tr p hp 0]
  have e1 : (if t (9 + 8 * p + (4 + h)) ≤ t 0 then nI 0 else nI (t (9 + 8 * p + (4 + h))) - nI (t 0)) = nI (wo t p h - t 0) := by
    by_cases q : t (9 + 8 * p + (4 + h)) ≤ t 0
    · rw [if_pos q, show t (9 + 8 * p + (4 + h)) - t 0 = 0 from Nat.sub_eq_zero_of_le q]
    · rw [if_neg q, pk_sub (by omega)]
  have e2 : (if (t 3).testBit h = true then nI 0 else nI (t (9 + 8 * p + (4 + h)))) = nI (fei t p h) := mg_n
  have e3 : (if dif (s &&& mem t (t (9 + 8 * p + 1))) (2 ^ p) = 0 then nI (t (9 + 8 * p + (4 + h))) else nI (t (9 + 8 * p + (4 + h)) + t (9 + 8 * p + (4 + h)))) = nI (prd t p h s (mem t (th t p))) := by
    rw [mg_n, prd]
    show nI (if _ then t (9 + 8 * p + (4 + h)) else _) = nI (if _ then t (9 + 8 * p + (4 + h)) else 2 * t (9 + 8 * p + (4 + h)))
    rw [Nat.two_mul]
  rw [e1, e2, e3]
  have hf : fei t p h < 2 ^ 31 := by
    unfold fei
    split
    · decide
    · show t (9 + 8 * p + (4 + h)) < 2 ^ 31
      omega
  have hlt : wo t p h - t 0 < 2 ^ 31 := by
    show t (9 + 8 * p + (4 + h)) - t 0 < 2 ^ 31
    omega
  unfold bring
  show _ = some (some (Value.int (nI (match t (9 + 8 * p + 0) with | 1 => prd t p h s (mem t (th t p)) | 2 => wo t p h - t 0 | 3 => if dif (mem t (th t p)) s = 0 then prd t p h s (mem t (th t p)) else 0 | 4 => if pop s ≤ 3 then wo t p h - t 0 else (wo t p h - t 0) / 2 | 5 => fei t p h | 6 => if dif (s &&& mem t (th t p)) (2 ^ p) = 0 then fei t p h else fei t p h + 5 | _ => wo t p h))), (SH L, M))
  have hc : t (9 + 8 * p + 0) = 0 ∨ t (9 + 8 * p + 0) = 1 ∨ t (9 + 8 * p + 0) = 2 ∨ t (9 + 8 * p + 0) = 3 ∨ t (9 + 8 * p + 0) = 4 ∨ t (9 + 8 * p + 0) = 5 ∨ t (9 + 8 * p + 0) = 6 := by omega
  rcases hc with q | q | q | q | q | q | q <;> rw [q] <;> simp only
  · rw [r31_123_d (by decide +kernel)]
    simp only [r31_218, r31_220]
  · simp only [r31_123_1, r31_123_2, r31_123_3, r31_123_4, r31_123_5, r31_123_6, r31_123_d, r31_160, r31_162]
  · simp only [r31_123_1, r31_123_2, r31_123_3, r31_123_4, r31_123_5, r31_123_6, r31_123_d, r31_163, r31_165]
  · simp (disch := omega) only [r31_123_1, r31_123_2, r31_123_3, r31_123_4, r31_123_5, r31_123_6, r31_123_d, r31_166, r31_168, r31_169, r31_170, r31_171, r31_172, r31_175, r31_177, r31_180, nI_dif, nI_eq0, mg_R]
    simp only [r31_181, mg_n]
  · simp (disch := omega) only [r31_123_1, r31_123_2, r31_123_3, r31_123_4, r31_123_5, r31_123_6, r31_123_d, r31_182, r31_183, r31_186, r31_187, r31_190, r31_192, r31_194, r31_197, r31_193 nz2', s_bitCount, Option.bind_some, vtl_some, nI_lt', div2, mg_R, mg_n]
    simp only [r31_199]
    congr 4
    by_cases q2 : pop s < 4
    · rw [if_pos q2, if_pos (by omega)]
    · rw [if_neg q2, if_neg (by omega)]
  · simp only [r31_123_1, r31_123_2, r31_123_3, r31_123_4, r31_123_5, r31_123_6, r31_123_d, r31_200, r31_202]
  · simp (disch := omega) only [r31_123_1, r31_123_2, r31_123_3, r31_123_4, r31_123_5, r31_123_6, r31_123_d, r31_203, r31_205, r31_208, r31_210, r31_211, r31_212, r31_215, c2_eq0, c3_eq0, nI_add, mg_R, mg_n]
    simp only [r31_217]
theorem s_vto_l (he : isE e) (hE : rE M e t z sp) (hw : wfT t) {h s : Nat} (hh : h < 4) (hss : s < 512) : ∀ (k n : Nat), n + k = t 1 → R 32 5 [.ref e, .int (nI h), .int (nI s), .int (nI (valN t h s n)), .int (nI n)] [] (SH L, M) = some (some (.int (nI (val t h s))), (SH L, M)) := by
  have hP := hw.2.1
  intro k
  induction k with
  | zero =>
    intro n hn
    rw [r32_5]
    simp (disch := first | exact he | omega) only [r32_0, r32_1, r32_2, r32_3, r32_7, r32_8, r32_11, r32_14, r32_15, r32_17, r32_18, r32_19, r32_20, r32_21, r32_24, r32_25, r32_26, r32_28, r32_29, r32_30, r32_33, r32_34, r32_35, r32_38, r32_41, r32_42, hE.p, nI_le'', show t 1 ≤ n from by omega, if_true]
    rw [val, show n = t 1 by omega]
  | succ k ih =>
    intro n hn
    rw [r32_5]
    simp (disch := first | exact he | omega) only [r32_7, r32_8, r32_11, r32_14, r32_15, r32_17, r32_18, r32_19, r32_20, r32_21, hE.p, nI_le'', show ¬ t 1 ≤ n from by omega, if_false, nI_bit]
    by_cases q : s.testBit n = true
    · simp (disch := first | exact he | omega) only [r32_24, r32_25, r32_26, r32_28, r32_29, r32_30, r32_33, r32_34, r32_35, r32_38, q, if_true, s_brBy he hE hw (show n < t 1 by omega) hh hss, Option.bind_some, vtl_some, nI_add]
      have := ih (n + 1) (by omega)
      rw [valN, if_pos q] at this
      exact this
    · simp (disch := first | exact he | omega) only [r32_35, r32_38, q, if_false, nI_add, Bool.false_eq_true]
      have := ih (n + 1) (by omega)
      rw [valN, if_neg q, Nat.add_zero] at this
      exact this
theorem s_vto (he : isE e) (hE : rE M e t z sp) (hw : wfT t) {h s : Nat} (hh : h < 4) (hss : s < 512) : R 32 0 [.ref e, .int (nI h), .int (nI s), .null, .null] [] (SH L, M) = some (some (.int (nI (val t h s))), (SH L, M)) := by
  simp only [r32_0, r32_1, r32_2, r32_3]
  exact s_vto_l he hE hw hh hss (t 1) 0 (by omega)
theorem s_dear_l (he : isE e) (hE : rE M e t z sp) (hw : wfT t) {s : Nat} (hss : s < 512) : ∀ (k n : Nat) (v5 : Value), n + 1 + k = t 2 → R 33 7 [.ref e, .int (nI s), .int (nI (val t (deaN t s n) s)), .int (nI (deaN t s n)), .int (nI (n + 1)), v5] [] (SH L, M) = some (some (.int (nI (dea t s))), (SH L, M)) := by
  have hH := hw.2.2.2.1
  intro k
  induction k with
  | zero =>
    intro n v5 hn
    rw [r33_7]
    simp (disch := first | exact he | omega) only [r33_0, r33_1, r33_2, r33_3, r33_4, r33_5, r33_9, r33_10, r33_13, r33_16, r33_17, r33_19, r33_20, r33_23, r33_25, r33_27, r33_28, r33_31, r33_33, r33_34, r33_36, r33_37, r33_40, r33_43, r33_44, hE.h, nI_le'', show t 2 ≤ n + 1 from by omega, if_true]
    rw [dea, show n = t 2 - 1 by omega]
  | succ k ih =>
    intro n v5 hn
    have h1 := deaN_le t s n
    have v1 := val_le hw (h := n + 1) (by omega) s
    have v2 := val_le hw (h := deaN t s n) (by omega) s
    rw [r33_7]
    simp (disch := first | exact he | omega) only [r33_9, r33_10, r33_13, r33_16, r33_17, r33_19, r33_20, r33_23, r33_25, r33_27, r33_28, hE.h, nI_le'', show ¬ t 2 ≤ n + 1 from by omega, if_false, s_vto he hE hw (show n + 1 < 4 by omega) hss, Option.bind_some, vtl_some]
    have := ih (n + 1) (.int (nI (val t (n + 1) s))) (by omega)
    by_cases q : val t (n + 1) s ≤ val t (deaN t s n) s
    · rw [deaN, if_neg (by omega)] at this
      simp only [r33_37, r33_40, if_pos q, nI_add]
      exact this
    · rw [deaN, if_pos (by omega)] at this
      simp only [r33_31, r33_33, r33_34, r33_36, r33_37, r33_40, if_neg q, nI_add]
      exact this
theorem s_dear (he : isE e) (hE : rE M e t z sp) (hw : wfT t) {s : Nat} (hss : s < 512) : R 33 0 [.ref e, .int (nI s), .null, .null, .null, .null] [] (SH L, M) = some (some (.int (nI (dea t s))), (SH L, M)) := by
  have h1 := hw.2.2.1
  have hH := hw.2.2.2.1
  have v1 := val_le hw (h := 0) (by omega) s
  simp only [r33_0, r33_1, r33_2, r33_3, r33_4, r33_5]
  rw [r33_7]
  simp (disch := first | exact he | omega) only [r33_9, r33_10, r33_13, r33_16, r33_17, r33_19, r33_20, r33_23, r33_25, r33_27, r33_28, hE.h, nI_le'', show ¬ t 2 ≤ 0 from by omega, if_false, s_vto he hE hw (show 0 < 4 by omega) hss, Option.bind_some, vtl_some]
  rw [if_neg (by rw [m1_lit, cmp_mo (by omega) (by omega)]; omega)]
  simp only [r33_31, r33_33, r33_34, r33_36, r33_37, r33_40, nI_add]
  exact s_dear_l he hE hw hss (t 2 - 1) 0 _ (by omega)
end EST
