/-! More acts that change the estate -/
theorem rng1 {x : Int32} {m : Nat} (hm : m < 2 ^ 30) (h1 : nI 1 ≤ x) (h2 : x ≤ nI m) : ∃ n, 1 ≤ n ∧ n ≤ m ∧ x = nI n := by
  rw [Int32.le_iff_toInt_le, nI_toInt (by omega)] at h1
  rw [Int32.le_iff_toInt_le, nI_toInt (by omega)] at h2
  refine ⟨x.toInt.toNat, by omega, by omega, ?_⟩
  apply Int32.toInt_inj.mp
  rw [nI_toInt (by omega)]
  omega
theorem ite_rng1 {α : Type} {x : Int32} {m : Nat} {A B : α} : (if x < nI 1 then A else if x ≤ nI m then B else A) = if nI 1 ≤ x ∧ x ≤ nI m then B else A := by
  by_cases h1 : x < nI 1
  · rw [if_pos h1, if_neg (fun z => absurd z.1 (Int32.not_le.mpr h1))]
  · rw [if_neg h1]
    by_cases h2 : x ≤ nI m
    · rw [if_pos h2, if_pos ⟨Int32.not_lt.mp h1, h2⟩]
    · rw [if_neg h2, if_neg (fun z => h2 z.2)]
theorem val_cg {t t' : Nat → Nat} (h : ∀ k, (k < 4 ∨ 9 ≤ k) → k ≠ 2 → t k = t' k) : val t = val t' := by
  have e0 := h 0 (by omega) (by omega)
  have e1 := h 1 (by omega) (by omega)
  have e3 := h 3 (by omega) (by omega)
  have hb : ∀ p x s a, bring t p x s a = bring t' p x s a := fun p x s a => by
    have ek : kd t p = kd t' p := h _ (by omega) (by omega)
    have ew : wo t p x = wo t' p x := h _ (by omega) (by omega)
    unfold bring prd fei
    rw [ek, ew, e0, e3]
  funext x s
  unfold val
  rw [e1]
  have : ∀ n, valN t x s n = valN t' x s n := by
    intro n
    induction n with
    | zero => rfl
    | succ n ih =>
      have em : mem t (th t n) = mem t' (th t' n) := by
        have et : th t n = th t' n := h _ (by omega) (by omega)
        rw [et]
        exact mem_cg e1 (fun q hq => h _ (by omega) (by omega))
      rw [valN, valN, ih, hb, em]
  exact this _
theorem DI_val {M : Nat → Nat → Int32} {t t' : Nat → Nat} {c : Nat} (h : DI M t c) (hv : val t = val t') (h2 : t 2 = t' 2) : DI M t' c := by
  unfold DI at h ⊢
  rw [← hv, ← h2]
  exact h
def swT (t : Nat → Nat) (i j : Nat) : Nat → Nat := ut (ut t (5 + i) (t (5 + j))) (5 + j) (t (5 + i))
def sig (i j a : Nat) : Nat := if a = j then i else if a = i then j else a
theorem swT_o {t : Nat → Nat} {i j a : Nat} : swT t i j (5 + a) = t (5 + sig i j a) := by
  unfold swT sig ut
  by_cases q : a = j
  · rw [if_pos (by omega), if_pos q]
  · rw [if_neg (by omega), if_neg q]
    by_cases q2 : a = i
    · rw [if_pos (by omega), if_pos q2]
    · rw [if_neg (by omega), if_neg q2]
theorem swT_n {t : Nat → Nat} {i j k : Nat} (hi : i < 4) (hj : j < 4) (h : k < 5 ∨ 9 ≤ k) : swT t i j k = t k := by
  unfold swT
  rw [ut_ne (by omega), ut_ne (by omega)]
theorem swT_wf {t : Nat → Nat} (hw : wfT t) {i j : Nat} (hi : i < 4) (hj : j < 4) : wfT (swT t i j) :=
  wfT_of hw (by rw [swT_n hi hj (by omega)]; exact hw.1) (swT_n hi hj (by omega)) (by rw [swT_n hi hj (by omega)]; exact ⟨hw.2.2.1, hw.2.2.2.1⟩) (by rw [swT_n hi hj (by omega)]; exact hw.2.2.2.2.1) (fun k hk => swT_n hi hj (by omega)) (fun a ha => by
    rw [swT_o]
    refine hw.2.2.2.2.2.2 _ ?_
    unfold sig
    split
    · omega
    · split <;> omega)
theorem swT_O {t : Nat → Nat} (hO : wfO t) (hw : wfT t) {i j : Nat} (hi : i < t 2) (hj : j < t 2) : wfO (swT t i j) := by
  have hH := hw.2.2.2.1
  have e2 : swT t i j 2 = t 2 := swT_n (by omega) (by omega) (by omega)
  have sl : ∀ a, a < t 2 → sig i j a < t 2 := fun a ha => by
    unfold sig
    split
    · omega
    · split <;> omega
  refine ⟨fun a ha => ?_, fun a b ha hb h => ?_⟩
  · rw [e2] at ha ⊢
    rw [swT_o]
    exact hO.1 _ (sl a ha)
  · rw [e2] at ha hb
    rw [swT_o, swT_o] at h
    have := hO.2 _ _ (sl a ha) (sl b hb) h
    unfold sig at this
    (repeat' split at this) <;> omega
section MA2
variable {L : Nat} {M : Nat → Nat → Int32} {t : Nat → Nat} {z : Int32} {sp : Nat → Int32} {c : Nat}
theorem s_swap {a i j : Nat} (ha : isO a) (hi : i < 4) (hj : j < 4) : R 112 0 [.ref a, .int (nI i), .int (nI j), .null] [] (SH L, M) = some (none, (SH L, upd2 (upd2 M a i (M a j)) a j (M a i))) := by
  have r1 : rng (nI i) 4 := (rng_nI (by omega)).mpr hi
  have r2 : rng (nI j) 4 := (rng_nI (by omega)).mpr hj
  simp (disch := first | exact ha | omega) only [r112_0, r112_1, r112_2, r112_3, r112_6, r112_9, r112_10, r112_11, r112_12, r112_15, r112_18, r112_19, r112_20, r112_21, r112_22, r112_23, r112_24, r112_25, r112_26, r112_27, r112_28, r112_29, r112_30, r112_31, r112_32, s_within, if_pos r1, if_pos r2, Option.bind_some, vtl_some, nz1, if_false]
theorem rE_swap (hE : rE M 2 t z sp) {i j : Nat} (hi : i < 4) (hj : j < 4) : rE (upd2 (upd2 M 5 i (M 5 j)) 5 j (M 5 i)) 2 (swT t i j) z sp := by
  have ho : ∀ i, i < 4 → M 5 i = nI (t (5 + i)) := hE.od
  refine ⟨?_, ?_, ?_, ?_, ?_, fun q hq u hu => ?_, fun x hx => ?_, fun a ha => ?_, fun a ha => ?_⟩
  · rw [swT_n hi hj (by omega)]; simp (disch := omega) only [upd2_ne]; exact hE.p
  · rw [swT_n hi hj (by omega)]; simp (disch := omega) only [upd2_ne]; exact hE.k
  · rw [swT_n hi hj (by omega)]; simp (disch := omega) only [upd2_ne]; exact hE.y
  · rw [swT_n hi hj (by omega)]; simp (disch := omega) only [upd2_ne]; exact hE.h
  · simp (disch := omega) only [upd2_ne]; exact hE.zz
  · rw [swT_n hi hj (by omega)] at hq; rw [swT_n hi hj (by omega)]; simp (disch := omega) only [upd2_ne]; exact hE.tr q hq u hu
  · simp (disch := omega) only [upd2_ne]; rw [hE.me x hx]; congr 1
    exact mem_cg (swT_n hi hj (by omega)).symm (fun q hq => (swT_n (k := 9 + 8 * q + 1) hi hj (by omega)).symm)
  · show upd2 (upd2 M 5 i (M 5 j)) 5 j (M 5 i) 5 a = _
    unfold swT
    by_cases q : a = j
    · subst q; rw [upd2_eq, ut_eq, ho i hi]
    · rw [upd2_ne (Or.inr q), ut_ne (by omega)]
      by_cases q2 : a = i
      · subst q2; rw [upd2_eq, ut_eq, ho j hj]
      · rw [upd2_ne (Or.inr q2), ut_ne (by omega), ho a ha]
  · simp (disch := omega) only [upd2_ne]; exact hE.so a ha
theorem q_turns (h : rQ M 37 t z sp) {i j : Nat} (hi : i < 4) (hj : j < 4) : ∃ M', R 147 0 [.ref 36, .int (nI i), .int (nI j), .null] [] (SH L, M) = some (none, (SH L, M')) ∧ frc 37 37 M M' ∧ rQ M' 37 (swT t i j) z sp := by
  have hs := h.1
  refine ⟨_, ?_, frc_up (frc_up frc_rf (Nat.le_refl 37) (Nat.le_refl 37)) (Nat.le_refl 37) (Nat.le_refl 37), rQ_up (rQ_up h (k := 5 + i) (v := t (5 + j)) (by omega) (by omega)) (k := 5 + j) (v := t (5 + i)) (by omega) (by omega)⟩
  simp (disch := omega) only [r147_0, r147_1, r147_4, r147_5, r147_6, r147_7, r147_8, r147_9, r147_10, r147_13, r147_14, r147_15, r147_16, r147_17, r147_20, r147_21, r147_22, r147_23, r147_24, r147_25, r147_26, r147_29, r147_30, r147_31, r147_32, r147_33, r147_34, nI_add, hs (5 + i), hs (5 + j)]
theorem heT_wf (hw : wfT t) {n : Nat} (h1 : 1 ≤ n) (h4 : n ≤ 4) : wfT (heT t n) := wfT_of hw (by rw [heT_n (by omega) (by omega)]; exact hw.1) (heT_n (by omega) (by omega)) (by rw [heT_2]; exact ⟨h1, h4⟩) (by rw [heT_n (by omega) (by omega)]; exact hw.2.2.2.2.1) (fun i hi => heT_n (by omega) (by omega)) (fun i hi => by rw [heT_o hi]; exact hi)
theorem heT_O {n : Nat} (h4 : n ≤ 4) : wfO (heT t n) := by
  refine ⟨fun i hi => ?_, fun i j hi hj h => ?_⟩
  · rw [heT_2] at hi ⊢; rw [heT_o (by omega)]; exact hi
  · rw [heT_2] at hi hj; rw [heT_o (by omega), heT_o (by omega)] at h; exact h
theorem c_heirs (h : IV M t z sp c) (hcb : c < 49000000) (a : Int32) : OK L M c (fun M => R 64 0 [.ref 1, .int a, .null] [] (SH L, M)) (fun M => R 146 0 [.ref 36, .int a, .null] [] (SH L, M)) := by
  have i4 : ∀ w : vW, R 123 0 [.long a.toInt64, .null, .long 1, .null, .long 4, .null] [] w = some (some (.int (if nI 1 ≤ a ∧ a ≤ nI 4 then nI 1 else nI 0)), w) := fun w => s_in32 (show (1 : Int64) = (nI 1).toInt64 from by decide +kernel) (show (4 : Int64) = (nI 4).toInt64 from by decide +kernel)
  by_cases h1 : nI 1 ≤ a ∧ a ≤ nI 4
  · obtain ⟨n, n1, n4, rfl⟩ := rng1 (by omega) h1.1 h1.2
    obtain ⟨M1, e1, f1, E1, n1'⟩ := s_setHeirs (L := L) isE_2 h.e (n := n)
    rw [h.cc, nI_add] at n1'
    refine okM h hcb (r := nI (t 2)) (c' := c + 1) (by simp (disch := omega) only [r64_0, r64_1, r64_2, r64_5, r64_6, r64_7, r64_10, r64_11, r64_13, r64_16, r64_17, r64_18, r64_21, r64_24, r64_25, r64_26, r64_29, r64_30, r64_33, r64_34, Option.bind_some, vtl_some, vtl_none, s_within, s_isSet5 h.e h.w, h.e.p, h.e.h, h.od5, h.me4, b2_eq0, ite_not2, nz1, nz0, n1z, n0z, if_true, if_false, fd0, fd1, fd2, fd3, fd4, fd5, fd6, ite_rng1, if_pos h1, e1]) (fM_of f1 (by omega)) E1 n1' (by omega) (DI_bump h.d (fun b hb => f1 b (by omega)) (by omega)) (heT_wf h.w n1 n4) (heT_O n4) (wfSp_cg h.ws (heT_n (by omega) (by omega))) (fun hq => ?_)
    have hs := hq.1
    have q2 := rQ_up hq (k := 2) (v := n) (by omega) (by omega)
    obtain ⟨M2, e2, f2, q3⟩ := q_firstOrder (L := L) q2
    refine ⟨M2, by simp (disch := omega) only [r146_0, r146_1, r146_2, r146_3, r146_6, r146_9, r146_12, r146_13, r146_15, r146_18, r146_19, r146_20, r146_23, r146_24, r146_25, r146_26, r146_27, r146_30, r146_31, r146_32, r146_33, r146_34, r146_37, r146_38, Option.bind_some, vtl_some, vtl_none, s_isPart hs h.w, s_isHeir hs h.w, s_isSet6 hs h.w, s_isAny, s_isThing, s_isOne, b2_eq0, ite_not2, nz1, nz0, n1z, n0z, if_true, if_false, gd0, gd1, gd2, gd3, gd4, gd5, gd6, hs 1, hs 2, i4, if_pos h1, e2], fN_tr (fN_of (frc_up frc_rf (by omega) (by omega)) (a := 37) (b := 37) (by omega)) (fN_of f2 (by omega)), rQ_cg q3 (fun k hk k4 => ?_)⟩
    by_cases q : 5 ≤ k ∧ k < 9
    · have : k = 5 + 0 ∨ k = 5 + 1 ∨ k = 5 + 2 ∨ k = 5 + 3 := by omega
      rcases this with rfl | rfl | rfl | rfl <;> rw [heT_o (by omega)] <;> simp (disch := omega) only [ut_ne, ut_eq]
    · by_cases q2 : k = 2
      · subst q2; rw [heT_2]; simp (disch := omega) only [ut_ne, ut_eq]
      · rw [heT_n q2 (by omega)]; simp (disch := omega) only [ut_ne]
  · exact okF0 h (x := (-1000001)) (k := 0) (by simp (disch := omega) only [r64_0, r64_1, r64_2, r64_5, r64_6, r64_7, r64_10, r64_11, r64_13, r64_16, r64_17, r64_18, r64_21, r64_24, r64_25, r64_26, r64_29, r64_30, r64_33, r64_34, Option.bind_some, vtl_some, vtl_none, s_within, s_isSet5 h.e h.w, h.e.p, h.e.h, h.od5, h.me4, b2_eq0, ite_not2, nz1, nz0, n1z, n0z, if_true, if_false, fd0, fd1, fd2, fd3, fd4, fd5, fd6, if_neg h1, ite_rng1]) (fun M1 hs => by simp (disch := omega) only [r146_0, r146_1, r146_2, r146_3, r146_6, r146_9, r146_12, r146_13, r146_15, r146_18, r146_19, r146_20, r146_23, r146_24, r146_25, r146_26, r146_27, r146_30, r146_31, r146_32, r146_33, r146_34, r146_37, r146_38, Option.bind_some, vtl_some, vtl_none, s_isPart hs h.w, s_isHeir hs h.w, s_isSet6 hs h.w, s_isAny, s_isThing, s_isOne, b2_eq0, ite_not2, nz1, nz0, n1z, n0z, if_true, if_false, gd0, gd1, gd2, gd3, gd4, gd5, gd6, hs 1, hs 2, if_neg h1, i4])
theorem c_turn (h : IV M t z sp c) (hcb : c < 49000000) (a b : Int32) : OK L M c (fun M => R 65 0 [.ref 1, .int a, .int b] [] (SH L, M)) (fun M => R 148 0 [.ref 36, .int a, .int b] [] (SH L, M)) := by
  have hH := h.w.2.2.2.1
  by_cases h1 : rng a (t 2)
  · by_cases h2 : rng b (t 2)
    · obtain ⟨i, hi, rfl⟩ := rng_of (by omega) h1
      obtain ⟨j, hj, rfl⟩ := rng_of (by omega) h2
      have E1 := rE_swap h.e (show i < 4 by omega) (show j < 4 by omega)
      have sw := s_swap (L := L) (M := M) isO_5 (show i < 4 by omega) (show j < 4 by omega)
      rw [h.od5 i (by omega), h.od5 j (by omega)] at E1 sw
      have o1 : upd2 (upd2 M 5 i (nI (t (5 + j)))) 5 j (nI (t (5 + i))) 5 0 = nI (swT t i j (5 + 0)) := E1.od 0 (by omega)
      refine okM h hcb (r := nI (swT t i j (5 + 0))) (c' := c) (by simp (disch := omega) only [r65_0, r65_1, r65_2, r65_5, r65_8, r65_11, r65_14, r65_15, r65_16, r65_19, r65_22, r65_25, r65_28, r65_29, r65_31, r65_34, r65_35, r65_36, r65_39, r65_42, r65_43, r65_44, r65_47, r65_48, r65_51, r65_54, r65_55, r65_56, Option.bind_some, vtl_some, vtl_none, s_within, s_isSet5 h.e h.w, h.e.p, h.e.h, h.od5, h.me4, b2_eq0, ite_not2, nz1, nz0, n1z, n0z, if_true, if_false, fd0, fd1, fd2, fd3, fd4, fd5, fd6, if_pos h1, if_pos h2, sw, o1]) (fM_of (frc_up (frc_up frc_rf (by omega) (by omega)) (by omega) (by omega)) (a := 5) (b := 5) (by omega)) E1 (by rw [upd2_ne (Or.inl (by omega)), upd2_ne (Or.inl (by omega))]; exact h.cc) (by omega) (DI_val (DI_frc h.d (frc_up (frc_up frc_rf (by omega) (by omega)) (by omega) (by omega)) (a := 5) (b := 5) (by omega)) (val_cg (fun k hk k2 => (swT_n (by omega) (by omega) (by omega)).symm)) (swT_n (by omega) (by omega) (by omega)).symm) (swT_wf h.w (by omega) (by omega)) (swT_O h.o h.w hi hj) (wfSp_cg h.ws (swT_n (by omega) (by omega) (by omega))) (fun hq => ?_)
      have hs := hq.1
      obtain ⟨M2, e2, f2, q2⟩ := q_turns (L := L) hq (show i < 4 by omega) (show j < 4 by omega)
      have o2 : M2 37 5 = nI (swT t i j (5 + 0)) := q2.1 5 (by omega) (by omega)
      exact ⟨M2, by simp (disch := omega) only [r148_0, r148_1, r148_2, r148_5, r148_8, r148_9, r148_10, r148_13, r148_16, r148_17, r148_19, r148_22, r148_23, r148_24, r148_25, r148_26, r148_29, r148_30, r148_33, r148_34, r148_35, Option.bind_some, vtl_some, vtl_none, s_isPart hs h.w, s_isHeir hs h.w, s_isSet6 hs h.w, s_isAny, s_isThing, s_isOne, b2_eq0, ite_not2, nz1, nz0, n1z, n0z, if_true, if_false, gd0, gd1, gd2, gd3, gd4, gd5, gd6, hs 1, hs 2, if_pos h1, if_pos h2, e2, o2], fN_of f2 (by omega), q2⟩
    · exact okF0 h (x := (-1000001)) (k := 0) (by simp (disch := omega) only [r65_0, r65_1, r65_2, r65_5, r65_8, r65_11, r65_14, r65_15, r65_16, r65_19, r65_22, r65_25, r65_28, r65_29, r65_31, r65_34, r65_35, r65_36, r65_39, r65_42, r65_43, r65_44, r65_47, r65_48, r65_51, r65_54, r65_55, r65_56, Option.bind_some, vtl_some, vtl_none, s_within, s_isSet5 h.e h.w, h.e.p, h.e.h, h.od5, h.me4, b2_eq0, ite_not2, nz1, nz0, n1z, n0z, if_true, if_false, fd0, fd1, fd2, fd3, fd4, fd5, fd6, if_pos h1, if_neg h2]) (fun M1 hs => by simp (disch := omega) only [r148_0, r148_1, r148_2, r148_5, r148_8, r148_9, r148_10, r148_13, r148_16, r148_17, r148_19, r148_22, r148_23, r148_24, r148_25, r148_26, r148_29, r148_30, r148_33, r148_34, r148_35, Option.bind_some, vtl_some, vtl_none, s_isPart hs h.w, s_isHeir hs h.w, s_isSet6 hs h.w, s_isAny, s_isThing, s_isOne, b2_eq0, ite_not2, nz1, nz0, n1z, n0z, if_true, if_false, gd0, gd1, gd2, gd3, gd4, gd5, gd6, hs 1, hs 2, if_pos h1, if_neg h2])
  · exact okF0 h (x := (-1000001)) (k := 0) (by simp (disch := omega) only [r65_0, r65_1, r65_2, r65_5, r65_8, r65_11, r65_14, r65_15, r65_16, r65_19, r65_22, r65_25, r65_28, r65_29, r65_31, r65_34, r65_35, r65_36, r65_39, r65_42, r65_43, r65_44, r65_47, r65_48, r65_51, r65_54, r65_55, r65_56, Option.bind_some, vtl_some, vtl_none, s_within, s_isSet5 h.e h.w, h.e.p, h.e.h, h.od5, h.me4, b2_eq0, ite_not2, nz1, nz0, n1z, n0z, if_true, if_false, fd0, fd1, fd2, fd3, fd4, fd5, fd6, if_neg h1]) (fun M1 hs => by simp (disch := omega) only [r148_0, r148_1, r148_2, r148_5, r148_8, r148_9, r148_10, r148_13, r148_16, r148_17, r148_19, r148_22, r148_23, r148_24, r148_25, r148_26, r148_29, r148_30, r148_33, r148_34, r148_35, Option.bind_some, vtl_some, vtl_none, s_isPart hs h.w, s_isHeir hs h.w, s_isSet6 hs h.w, s_isAny, s_isThing, s_isOne, b2_eq0, ite_not2, nz1, nz0, n1z, n0z, if_true, if_false, gd0, gd1, gd2, gd3, gd4, gd5, gd6, hs 1, hs 2, if_neg h1])
theorem yr_wf (hw : wfT t) {y : Nat} (hy : y ≤ 99) : wfT (ut t 0 y) := wfT_of hw (by rw [ut_eq]; exact hy) (ut_ne (by omega)) (by rw [ut_ne (by omega)]; exact ⟨hw.2.2.1, hw.2.2.2.1⟩) (by rw [ut_ne (by omega)]; exact hw.2.2.2.2.1) (fun i hi => ut_ne (by omega)) (fun i hi => by rw [ut_ne (by omega)]; exact hw.2.2.2.2.2.2 i hi)
theorem allT_cg {t' : Nat → Nat} (h : t' 1 = t 1) : allT t' = allT t := by unfold allT; rw [h]
theorem c_years (h : IV M t z sp c) (hcb : c < 49000000) (a : Int32) : OK L M c (fun M => R 89 0 [.ref 1, .int a] [] (SH L, M)) (fun M => R 192 0 [.ref 36, .int a] [] (SH L, M)) := by
  have hy := h.w.1
  have i4 : ∀ w : vW, R 123 0 [.long a.toInt64, .null, .long 1, .null, .long 20, .null] [] w = some (some (.int (if nI 1 ≤ a ∧ a ≤ nI 20 then nI 1 else nI 0)), w) := fun w => s_in32 (show (1 : Int64) = (nI 1).toInt64 from by decide +kernel) (show (20 : Int64) = (nI 20).toInt64 from by decide +kernel)
  by_cases h1 : nI 1 ≤ a ∧ a ≤ nI 20
  · obtain ⟨n, n1, n4, rfl⟩ := rng1 (by omega) h1.1 h1.2
    by_cases h2 : t 0 + n ≤ 99
    · obtain ⟨M1, e1, f1, E1, n1'⟩ := s_setYear (L := L) isE_2 h.e (v := t 0 + n)
      rw [h.cc, nI_add] at n1'
      have hw' := yr_wf h.w h2
      have hal := allT_lt hw'
      have hd : dea (ut t 0 (t 0 + n)) (allT (ut t 0 (t 0 + n))) < 4 := by
        have := deaN_le (ut t 0 (t 0 + n)) (allT (ut t 0 (t 0 + n))) (ut t 0 (t 0 + n) 2 - 1)
        have := hw'.2.2.2.1
        have := hw'.2.2.1
        unfold dea
        omega
      refine okM h hcb (r := nI (val (ut t 0 (t 0 + n)) (dea (ut t 0 (t 0 + n)) (allT (ut t 0 (t 0 + n)))) (allT (ut t 0 (t 0 + n))))) (c' := c + 1) (by simp (disch := omega) only [r89_0, r89_1, r89_2, r89_5, r89_6, r89_8, r89_11, r89_12, r89_14, r89_17, r89_18, r89_19, r89_22, r89_25, r89_26, r89_27, r89_29, r89_32, r89_33, r89_35, r89_38, r89_39, r89_40, r89_43, r89_44, r89_47, r89_50, r89_51, r89_52, r89_55, r89_56, r89_59, r89_60, r89_63, r89_64, r89_67, r89_70, r89_73, r89_74, r89_77, r89_80, r89_83, Option.bind_some, vtl_some, vtl_none, s_within, s_isSet5 h.e h.w, h.e.p, h.e.h, h.od5, h.me4, b2_eq0, ite_not2, nz1, nz0, n1z, n0z, if_true, if_false, fd0, fd1, fd2, fd3, fd4, fd5, fd6, nI_lt', show ¬ n < 1 from by omega, n4, h.e.y, nI_add, nI_le'', if_pos h2, e1, s_all isE_2 E1 hw', s_dear isE_2 E1 hw' hal.2, s_vto isE_2 E1 hw' hd hal.2]) (fM_of f1 (by omega)) E1 n1' (by omega) (DI_bump h.d (fun b hb => f1 b (by omega)) (by omega)) hw' (ut_O h.o h.w (by omega)) (wfSp_cg h.ws (ut_ne (by omega))) (fun hq => ?_)
      have hs := hq.1
      have q2 := rQ_up hq (k := 0) (v := t 0 + n) (by omega) (by omega)
      exact ⟨_, by simp (disch := omega) only [r192_0, r192_1, r192_2, r192_3, r192_6, r192_9, r192_12, r192_13, r192_15, r192_18, r192_19, r192_20, r192_23, r192_24, r192_25, r192_26, r192_27, r192_29, r192_32, r192_33, r192_35, r192_38, r192_39, r192_40, r192_43, r192_44, r192_45, r192_46, r192_47, r192_48, r192_49, r192_50, r192_51, r192_52, r192_55, r192_58, r192_59, r192_62, r192_65, Option.bind_some, vtl_some, vtl_none, s_isPart hs h.w, s_isHeir hs h.w, s_isSet6 hs h.w, s_isAny, s_isThing, s_isOne, b2_eq0, ite_not2, nz1, nz0, n1z, n0z, if_true, if_false, gd0, gd1, gd2, gd3, gd4, gd5, gd6, hs 1, hs 2, i4, n1, n4, and_self, hs 0, nI_add, nI_le'', if_pos h2, s_everything q2.1 hw', s_dearestOf q2.1 hw' hal.2, s_valueOf q2.1 hw' hd hal.2], fN_of (frc_up frc_rf (by omega) (by omega)) (a := 37) (b := 37) (by omega), q2⟩
    · exact okF0 h (x := (-1000005)) (k := 4) (by simp (disch := omega) only [r89_0, r89_1, r89_2, r89_5, r89_6, r89_8, r89_11, r89_12, r89_14, r89_17, r89_18, r89_19, r89_22, r89_25, r89_26, r89_27, r89_29, r89_32, r89_33, r89_35, r89_38, r89_39, r89_40, r89_43, r89_44, r89_47, r89_50, r89_51, r89_52, r89_55, r89_56, r89_59, r89_60, r89_63, r89_64, r89_67, r89_70, r89_73, r89_74, r89_77, r89_80, r89_83, Option.bind_some, vtl_some, vtl_none, s_within, s_isSet5 h.e h.w, h.e.p, h.e.h, h.od5, h.me4, b2_eq0, ite_not2, nz1, nz0, n1z, n0z, if_true, if_false, fd0, fd1, fd2, fd3, fd4, fd5, fd6, nI_lt', show ¬ n < 1 from by omega, n4, h.e.y, nI_add, nI_le'', if_neg h2]) (fun M1 hs => by simp (disch := omega) only [r192_0, r192_1, r192_2, r192_3, r192_6, r192_9, r192_12, r192_13, r192_15, r192_18, r192_19, r192_20, r192_23, r192_24, r192_25, r192_26, r192_27, r192_29, r192_32, r192_33, r192_35, r192_38, r192_39, r192_40, r192_43, r192_44, r192_45, r192_46, r192_47, r192_48, r192_49, r192_50, r192_51, r192_52, r192_55, r192_58, r192_59, r192_62, r192_65, Option.bind_some, vtl_some, vtl_none, s_isPart hs h.w, s_isHeir hs h.w, s_isSet6 hs h.w, s_isAny, s_isThing, s_isOne, b2_eq0, ite_not2, nz1, nz0, n1z, n0z, if_true, if_false, gd0, gd1, gd2, gd3, gd4, gd5, gd6, hs 1, hs 2, i4, n1, n4, and_self, hs 0, nI_add, nI_le'', if_neg h2])
  · exact okF0 h (x := (-1000001)) (k := 0) (by simp (disch := omega) only [r89_0, r89_1, r89_2, r89_5, r89_6, r89_8, r89_11, r89_12, r89_14, r89_17, r89_18, r89_19, r89_22, r89_25, r89_26, r89_27, r89_29, r89_32, r89_33, r89_35, r89_38, r89_39, r89_40, r89_43, r89_44, r89_47, r89_50, r89_51, r89_52, r89_55, r89_56, r89_59, r89_60, r89_63, r89_64, r89_67, r89_70, r89_73, r89_74, r89_77, r89_80, r89_83, Option.bind_some, vtl_some, vtl_none, s_within, s_isSet5 h.e h.w, h.e.p, h.e.h, h.od5, h.me4, b2_eq0, ite_not2, nz1, nz0, n1z, n0z, if_true, if_false, fd0, fd1, fd2, fd3, fd4, fd5, fd6, if_neg h1, ite_rng1]) (fun M1 hs => by simp (disch := omega) only [r192_0, r192_1, r192_2, r192_3, r192_6, r192_9, r192_12, r192_13, r192_15, r192_18, r192_19, r192_20, r192_23, r192_24, r192_25, r192_26, r192_27, r192_29, r192_32, r192_33, r192_35, r192_38, r192_39, r192_40, r192_43, r192_44, r192_45, r192_46, r192_47, r192_48, r192_49, r192_50, r192_51, r192_52, r192_55, r192_58, r192_59, r192_62, r192_65, Option.bind_some, vtl_some, vtl_none, s_isPart hs h.w, s_isHeir hs h.w, s_isSet6 hs h.w, s_isAny, s_isThing, s_isOne, b2_eq0, ite_not2, nz1, nz0, n1z, n0z, if_true, if_false, gd0, gd1, gd2, gd3, gd4, gd5, gd6, hs 1, hs 2, if_neg h1, i4])
theorem k_gainIn (hE : rE M 2 t z sp) (hw : wfT t) {o : Nat → Nat} {a n x : Nat} (ha : isO a) (hon : ∀ i, i < n → o i < t 2) (hn : n ≤ t 2) (hn1 : 1 ≤ n) (ho : ∀ i, i < 4 → M a i = nI (o i)) (hc : M 2 9 = nI c) (hcb : c < 100000000) (hD : DI M t c) (hx : x < 4) : ∃ M', R 114 0 [.ref 1, .ref a, .int (nI n), .int (nI x)] [] (SH L, M) = some (some (.int (nI (val t x (shN (val t) (rw_ o n) (n - 1) (allT t) (fun _ => 0) x)))), (SH L, M')) ∧ frc 17 21 M M' ∧ DI M' t c := by
  have hal := allT_lt hw
  obtain ⟨M1, e1, f1, d1, g1⟩ := s_divide (L := L) hE hw ha hon hn hn1 ho hc hcb hD hal.2
  refine ⟨M1, ?_, f1, d1⟩
  simp (disch := first | exact ha | omega) only [r114_0, r114_1, r114_4, r114_5, r114_6, r114_7, r114_10, r114_13, r114_16, r114_17, r114_20, r114_21, r114_22, r114_25, r114_28, r114_29, r114_30, r114_33, s_all isE_2 hE hw, e1, g1 x, s_vto isE_2 (rE_frc hE f1 (by omega)) hw hx (shN_lt _ _ _ _ _ hal.2 (fun _ => (show (0 : Nat) < 512 by decide)) x), Option.bind_some, vtl_some, vtl_none]
theorem sha_cg {t' : Nat → Nat} (h : ∀ k, k < 4 ∨ 5 ≤ k → t k = t' k) : sha t = sha t' := by
  have ev : val t = val t' := val_cg (fun k hk k2 => h k (by omega))
  have eo : rwT t = rwT t' := by
    funext i
    show t (5 + (t 2 - 1 - i)) = t' (5 + (t' 2 - 1 - i))
    rw [h 2 (by omega), h _ (by omega)]
  funext s
  unfold sha
  rw [ev, eo, h 2 (by omega)]
theorem rE_cg {t' : Nat → Nat} (h : rE M 2 t z sp) (e : ∀ k, k < 4 ∨ 5 ≤ k → t k = t' k) : rE M 2 t' z sp := ⟨by rw [← e 1 (by omega)]; exact h.p, by rw [← e 3 (by omega)]; exact h.k, by rw [← e 0 (by omega)]; exact h.y, by rw [← e 2 (by omega)]; exact h.h, h.zz, fun p hp w hw => by rw [← e _ (by omega)]; exact h.tr p (by rw [e 1 (by omega)]; exact hp) w hw, fun x hx => by rw [h.me x hx, mem_cg (e 1 (by omega)) (fun q hq => e _ (by omega))], fun i hi => by rw [← e _ (by omega)]; exact h.od i hi, h.so⟩
theorem c_ahead (h : IV M t z sp c) (hcb : c < 49000000) (a b : Int32) : OK L M c (fun M => R 90 0 [.ref 1, .int a, .int b, .null, .null] [] (SH L, M)) (fun M => R 193 0 [.ref 36, .int a, .int b, .null] [] (SH L, M)) := by
  have hy := h.w.1
  have hH := h.w.2.2.2.1
  have i21 : ∀ w : vW, R 123 0 [.long b.toInt64, .null, .long 0, .null, .long 20, .null] [] w = some (some (.int (if rng b 21 then nI 1 else nI 0)), w) := fun w => s_inr (show 21 < 2 ^ 31 by decide) (show (20 : Int64) = lN 21 - 1 by decide +kernel)
  by_cases h1 : rng a (t 2)
  · by_cases h2 : rng b (20 + 1)
    · obtain ⟨x, hx, rfl⟩ := rng_of (by omega) h1
      obtain ⟨n, hn, rfl⟩ := rng_of (by omega) h2
      by_cases h3 : t 0 + n ≤ 99
      · obtain ⟨M1, e1, f1, E1, n1⟩ := s_setYear (L := L) isE_2 h.e (v := t 0 + n)
        rw [h.cc, nI_add] at n1
        have hw' := yr_wf h.w h3
        have hO' := ut_O h.o h.w (k := 0) (v := t 0 + n) (by omega)
        have e2 : ut t 0 (t 0 + n) 2 = t 2 := ut_ne (by omega)
        have hal := allT_lt hw'
        obtain ⟨M2, g2, f2, d2⟩ := k_gainIn (L := L) (x := x) E1 hw' (o := od (ut t 0 (t 0 + n))) (a := 5) (n := ut t 0 (t 0 + n) 2) isO_5 hO'.1 (Nat.le_refl _) hw'.2.2.1 E1.od n1 (by omega) (DI_bump h.d (fun b hb => f1 b (by omega)) (by omega)) (by omega)
        have E2 := rE_frc E1 f2 (by omega)
        obtain ⟨M3, e3, f3, E3, n3⟩ := s_setYear (L := L) isE_2 E2 (v := t 0)
        rw [f2 2 (by omega), n1, nI_add] at n3
        have ett : ∀ k, ut (ut t 0 (t 0 + n)) 0 (t 0) k = t k := fun k => by
          by_cases q : k = 0
          · subst q; rw [ut_eq]
          · rw [ut_ne q, ut_ne q]
        have E4 : rE M3 2 t z sp := rE_cg E3 (fun k _ => ett k)
        rw [e2] at g2
        have o5 : ∀ i, i < 4 → M1 5 i = nI (ut t 0 (t 0 + n) (5 + i)) := E1.od
        have hh1 : M1 2 7 = nI (t 2) := by rw [E1.h, e2]
        refine okM h hcb (r := nI (val (ut t 0 (t 0 + n)) x (sha (ut t 0 (t 0 + n)) (allT (ut t 0 (t 0 + n))) x))) (M1 := M3) (t' := t) (c' := c + 2) ?_ (fM_tr (fM_of f1 (by omega)) (fM_tr (fM_of f2 (by omega)) (fM_of f3 (by omega)))) E4 n3 (by omega) (DI_bump d2 (fun b hb => f3 b (by omega)) (by omega)) h.w h.o h.ws (fun hq => ?_)
        · have er : val (ut t 0 (t 0 + n)) x (sha (ut t 0 (t 0 + n)) (allT (ut t 0 (t 0 + n))) x) = val (ut t 0 (t 0 + n)) x (shN (val (ut t 0 (t 0 + n))) (rw_ (od (ut t 0 (t 0 + n))) (t 2)) (t 2 - 1) (allT (ut t 0 (t 0 + n))) (fun _ => 0) x) := by
            show val (ut t 0 (t 0 + n)) x (shN (val (ut t 0 (t 0 + n))) (rw_ (od (ut t 0 (t 0 + n))) (ut t 0 (t 0 + n) 2)) (ut t 0 (t 0 + n) 2 - 1) (allT (ut t 0 (t 0 + n))) (fun _ => 0) x) = _
            rw [e2]
          rw [er]
          simp (disch := omega) only [r90_0, r90_1, r90_2, r90_5, r90_8, r90_11, r90_14, r90_15, r90_18, r90_19, r90_21, r90_24, r90_25, r90_27, r90_30, r90_31, r90_32, r90_35, r90_38, r90_39, r90_40, r90_42, r90_45, r90_46, r90_48, r90_51, r90_52, r90_53, r90_56, r90_59, r90_60, r90_61, r90_64, r90_65, r90_66, r90_67, r90_70, r90_71, r90_72, r90_75, r90_78, r90_79, r90_82, r90_85, r90_86, r90_89, r90_91, r90_92, r90_95, r90_96, r90_99, r90_101, Option.bind_some, vtl_some, vtl_none, s_within, s_isSet5 h.e h.w, h.e.p, h.e.h, h.od5, h.me4, b2_eq0, ite_not2, nz1, nz0, n1z, n0z, if_true, if_false, fd0, fd1, fd2, fd3, fd4, fd5, fd6, if_pos h1, nI_lt0, show n ≤ 20 from by omega, h.e.y, nI_add, nI_le'', if_pos h3, e1, hh1, g2, e3]
        · have hs := hq.1
          have q2 := rQ_up hq (k := 0) (v := t 0 + n) (by omega) (by omega)
          obtain ⟨M5, e5, f5⟩ := s_getsOf (L := L) hw' hO' q2.1 (h := x) (by rw [e2]; exact hx) hal.1
          have q5 : rQ M5 37 (ut t 0 (t 0 + n)) z sp := by unfold rQ; rw [f5 37 (by omega)]; exact q2
          have q6 := rQ_up q5 (k := 0) (v := t 0) (by omega) (by omega)
          have e0 : M5 37 0 = nI (t 0 + n) := by rw [q5.1 0 (by omega) (by omega), ut_eq]
          refine ⟨_, ?_, fN_tr (fN_of (frc_up frc_rf (by omega) (by omega)) (a := 37) (b := 37) (by omega)) (fN_tr (fun b hb => f5 b (by omega)) (fN_of (frc_up frc_rf (by omega) (by omega)) (a := 37) (b := 37) (by omega))), rQ_cg q6 (fun k _ _ => ett k)⟩
          simp (disch := omega) only [r193_0, r193_1, r193_2, r193_5, r193_8, r193_9, r193_10, r193_11, r193_14, r193_17, r193_20, r193_21, r193_23, r193_26, r193_27, r193_28, r193_31, r193_32, r193_33, r193_34, r193_35, r193_37, r193_40, r193_41, r193_43, r193_46, r193_47, r193_48, r193_51, r193_52, r193_53, r193_54, r193_55, r193_56, r193_57, r193_58, r193_59, r193_60, r193_63, r193_66, r193_67, r193_68, r193_71, r193_72, r193_73, r193_74, r193_75, r193_76, r193_77, r193_78, Option.bind_some, vtl_some, vtl_none, s_isPart hs h.w, s_isHeir hs h.w, s_isSet6 hs h.w, s_isAny, s_isThing, s_isOne, b2_eq0, ite_not2, nz1, nz0, n1z, n0z, if_true, if_false, gd0, gd1, gd2, gd3, gd4, gd5, gd6, hs 1, hs 2, if_pos h1, if_pos h2, i21, hs 0, nI_add, nI_le'', if_pos h3, s_everything q2.1 hw', e5, e0, pk_sub (show n ≤ t 0 + n by omega), Nat.add_sub_cancel]
      · exact okF0 h (x := (-1000005)) (k := 4) (by simp (disch := omega) only [r90_0, r90_1, r90_2, r90_5, r90_8, r90_11, r90_14, r90_15, r90_18, r90_19, r90_21, r90_24, r90_25, r90_27, r90_30, r90_31, r90_32, r90_35, r90_38, r90_39, r90_40, r90_42, r90_45, r90_46, r90_48, r90_51, r90_52, r90_53, r90_56, r90_59, r90_60, r90_61, r90_64, r90_65, r90_66, r90_67, r90_70, r90_71, r90_72, r90_75, r90_78, r90_79, r90_82, r90_85, r90_86, r90_89, r90_91, r90_92, r90_95, r90_96, r90_99, r90_101, Option.bind_some, vtl_some, vtl_none, s_within, s_isSet5 h.e h.w, h.e.p, h.e.h, h.od5, h.me4, b2_eq0, ite_not2, nz1, nz0, n1z, n0z, if_true, if_false, fd0, fd1, fd2, fd3, fd4, fd5, fd6, if_pos h1, if_pos h2, nI_lt0, show n ≤ 20 from by omega, h.e.y, nI_add, nI_le'', if_neg h3]) (fun M1 hs => by simp (disch := omega) only [r193_0, r193_1, r193_2, r193_5, r193_8, r193_9, r193_10, r193_11, r193_14, r193_17, r193_20, r193_21, r193_23, r193_26, r193_27, r193_28, r193_31, r193_32, r193_33, r193_34, r193_35, r193_37, r193_40, r193_41, r193_43, r193_46, r193_47, r193_48, r193_51, r193_52, r193_53, r193_54, r193_55, r193_56, r193_57, r193_58, r193_59, r193_60, r193_63, r193_66, r193_67, r193_68, r193_71, r193_72, r193_73, r193_74, r193_75, r193_76, r193_77, r193_78, Option.bind_some, vtl_some, vtl_none, s_isPart hs h.w, s_isHeir hs h.w, s_isSet6 hs h.w, s_isAny, s_isThing, s_isOne, b2_eq0, ite_not2, nz1, nz0, n1z, n0z, if_true, if_false, gd0, gd1, gd2, gd3, gd4, gd5, gd6, hs 1, hs 2, if_pos h1, if_pos h2, i21, hs 0, nI_add, nI_le'', if_neg h3])
    · exact okF0 h (x := (-1000001)) (k := 0) (by simp (disch := omega) only [r90_0, r90_1, r90_2, r90_5, r90_8, r90_11, r90_14, r90_15, r90_18, r90_19, r90_21, r90_24, r90_25, r90_27, r90_30, r90_31, r90_32, r90_35, r90_38, r90_39, r90_40, r90_42, r90_45, r90_46, r90_48, r90_51, r90_52, r90_53, r90_56, r90_59, r90_60, r90_61, r90_64, r90_65, r90_66, r90_67, r90_70, r90_71, r90_72, r90_75, r90_78, r90_79, r90_82, r90_85, r90_86, r90_89, r90_91, r90_92, r90_95, r90_96, r90_99, r90_101, Option.bind_some, vtl_some, vtl_none, s_within, s_isSet5 h.e h.w, h.e.p, h.e.h, h.od5, h.me4, b2_eq0, ite_not2, nz1, nz0, n1z, n0z, if_true, if_false, fd0, fd1, fd2, fd3, fd4, fd5, fd6, if_pos h1, if_neg h2, ite_rng]) (fun M1 hs => by simp (disch := omega) only [r193_0, r193_1, r193_2, r193_5, r193_8, r193_9, r193_10, r193_11, r193_14, r193_17, r193_20, r193_21, r193_23, r193_26, r193_27, r193_28, r193_31, r193_32, r193_33, r193_34, r193_35, r193_37, r193_40, r193_41, r193_43, r193_46, r193_47, r193_48, r193_51, r193_52, r193_53, r193_54, r193_55, r193_56, r193_57, r193_58, r193_59, r193_60, r193_63, r193_66, r193_67, r193_68, r193_71, r193_72, r193_73, r193_74, r193_75, r193_76, r193_77, r193_78, Option.bind_some, vtl_some, vtl_none, s_isPart hs h.w, s_isHeir hs h.w, s_isSet6 hs h.w, s_isAny, s_isThing, s_isOne, b2_eq0, ite_not2, nz1, nz0, n1z, n0z, if_true, if_false, gd0, gd1, gd2, gd3, gd4, gd5, gd6, hs 1, hs 2, if_pos h1, if_neg h2, i21])
  · exact okF0 h (x := (-1000001)) (k := 0) (by simp (disch := omega) only [r90_0, r90_1, r90_2, r90_5, r90_8, r90_11, r90_14, r90_15, r90_18, r90_19, r90_21, r90_24, r90_25, r90_27, r90_30, r90_31, r90_32, r90_35, r90_38, r90_39, r90_40, r90_42, r90_45, r90_46, r90_48, r90_51, r90_52, r90_53, r90_56, r90_59, r90_60, r90_61, r90_64, r90_65, r90_66, r90_67, r90_70, r90_71, r90_72, r90_75, r90_78, r90_79, r90_82, r90_85, r90_86, r90_89, r90_91, r90_92, r90_95, r90_96, r90_99, r90_101, Option.bind_some, vtl_some, vtl_none, s_within, s_isSet5 h.e h.w, h.e.p, h.e.h, h.od5, h.me4, b2_eq0, ite_not2, nz1, nz0, n1z, n0z, if_true, if_false, fd0, fd1, fd2, fd3, fd4, fd5, fd6, if_neg h1]) (fun M1 hs => by simp (disch := omega) only [r193_0, r193_1, r193_2, r193_5, r193_8, r193_9, r193_10, r193_11, r193_14, r193_17, r193_20, r193_21, r193_23, r193_26, r193_27, r193_28, r193_31, r193_32, r193_33, r193_34, r193_35, r193_37, r193_40, r193_41, r193_43, r193_46, r193_47, r193_48, r193_51, r193_52, r193_53, r193_54, r193_55, r193_56, r193_57, r193_58, r193_59, r193_60, r193_63, r193_66, r193_67, r193_68, r193_71, r193_72, r193_73, r193_74, r193_75, r193_76, r193_77, r193_78, Option.bind_some, vtl_some, vtl_none, s_isPart hs h.w, s_isHeir hs h.w, s_isSet6 hs h.w, s_isAny, s_isThing, s_isOne, b2_eq0, ite_not2, nz1, nz0, n1z, n0z, if_true, if_false, gd0, gd1, gd2, gd3, gd4, gd5, gd6, hs 1, hs 2, if_neg h1])
theorem c_seed (h : IV M t z sp c) (hcb : c < 49000000) (a : Int32) : OK L M c (fun M => R 92 0 [.ref 1, .int a, .null] [] (SH L, M)) (fun M => R 195 0 [.ref 36, .int a, .null] [] (SH L, M)) := by
  refine okM h hcb (r := z) (z' := a) (t' := t) (sp' := sp) (M1 := upd2 M 2 8 a) (c' := c) (by simp (disch := omega) only [r92_0, r92_1, r92_4, r92_7, r92_8, r92_9, r92_12, r92_13, r92_16, r92_17, Option.bind_some, vtl_some, vtl_none, s_within, s_isSet5 h.e h.w, h.e.p, h.e.h, h.od5, h.me4, b2_eq0, ite_not2, nz1, nz0, n1z, n0z, if_true, if_false, fd0, fd1, fd2, fd3, fd4, fd5, fd6, h.e.zz]) (fM_of (frc_up frc_rf (by omega) (by omega)) (a := 2) (b := 2) (by omega)) ⟨?_, ?_, ?_, ?_, ?_, fun q hq u hu => ?_, fun x hx => ?_, fun i hi => ?_, fun i hi => ?_⟩ (by rw [upd2_ne (Or.inr (by omega))]; exact h.cc) (by omega) (DI_frc h.d (frc_up frc_rf (by omega) (by omega)) (a := 2) (b := 2) (by omega)) h.w h.o h.ws (fun hq => ?_)
  · simp (disch := omega) only [upd2_ne]; exact h.e.p
  · simp (disch := omega) only [upd2_ne]; exact h.e.k
  · simp (disch := omega) only [upd2_ne]; exact h.e.y
  · simp (disch := omega) only [upd2_ne]; exact h.e.h
  · exact upd2_eq
  · simp (disch := omega) only [upd2_ne]; exact h.e.tr q hq u hu
  · simp (disch := omega) only [upd2_ne]; exact h.e.me x hx
  · simp (disch := omega) only [upd2_ne]; exact h.e.od i hi
  · simp (disch := omega) only [upd2_ne]; exact h.e.so i hi
  · have e4 : upd2 M 2 8 a 37 4 = z := hq.2.1
    refine ⟨upd2 (upd2 M 2 8 a) 37 4 a, by simp (disch := omega) only [r195_0, r195_1, r195_4, r195_5, r195_6, r195_7, r195_8, r195_11, r195_12, r195_13, r195_14, r195_15, e4], fN_of (frc_up frc_rf (by omega) (by omega)) (a := 37) (b := 37) (by omega), fun k hk k4 => ?_, upd2_eq, fun i hi => ?_⟩
    · rw [upd2_ne (Or.inr k4)]; exact hq.1 k hk k4
    · rw [upd2_ne (Or.inr (by omega))]; exact hq.2.2 i hi
end MA2
