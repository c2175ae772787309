/-! Acts that divide -/
theorem and_not0 {x : Int32} {m : Nat} (hm : m < 2 ^ 31) (h : x &&& (nI m ^^^ (-1)) = 0) : ∃ f, x = nI f ∧ f &&& m = f := by
  have e : x = x &&& nI m := by
    apply Int32.toBitVec_inj.mp
    have h' : x.toBitVec &&& ((nI m).toBitVec ^^^ BitVec.allOnes 32) = 0#32 := congrArg Int32.toBitVec h
    show x.toBitVec = x.toBitVec &&& (nI m).toBitVec
    ext i hi
    have := congrArg (fun z => z.getLsbD i) h'
    simp only [BitVec.getLsbD_and, BitVec.getLsbD_xor, BitVec.getLsbD_allOnes, BitVec.getLsbD_zero, hi, decide_true] at this
    simp only [BitVec.getElem_and, ← BitVec.getLsbD_eq_getElem]
    cases q1 : x.toBitVec.getLsbD i <;> cases q2 : (nI m).toBitVec.getLsbD i <;> simp_all
  refine ⟨x.toBitVec.toNat &&& m, ?_, by rw [Nat.and_assoc, Nat.and_self]⟩
  apply Int32.toBitVec_inj.mp
  apply BitVec.eq_of_toNat_eq
  have e3 : x.toBitVec.toNat = x.toBitVec.toNat &&& m := by
    have := congrArg (fun z => z.toBitVec.toNat) e
    have e4 : (x &&& nI m).toBitVec.toNat = x.toBitVec.toNat &&& m := by
      show (x.toBitVec &&& BitVec.ofNat 32 m).toNat = _
      rw [BitVec.toNat_and, BitVec.toNat_ofNat, Nat.mod_eq_of_lt (by omega)]
    exact this.trans e4
  show x.toBitVec.toNat = (BitVec.ofNat 32 (x.toBitVec.toNat &&& m)).toNat
  rw [BitVec.toNat_ofNat, ← e3]
  exact (Nat.mod_eq_of_lt x.toBitVec.isLt).symm
theorem dif_low {l f : Nat} : (dif l f = 0) = (f &&& l = l) := by
  apply propext
  constructor
  · intro h
    rw [Nat.and_comm]
    exact dif_sub0 h
  · intro h
    unfold dif
    rw [Nat.and_comm l f, h, Nat.xor_self]
theorem nzB : ((-1000001 : Int32) = 0) = False := by decide +kernel
theorem nzN : ((-1000004 : Int32) = 0) = False := by decide +kernel
theorem allT_lt {t : Nat → Nat} (hw : wfT t) : allT t < 2 ^ t 1 ∧ allT t < 512 := by
  have := allT_eq t
  have := pow_P hw
  omega
section DIVQ
variable {L : Nat} {M : Nat → Nat → Int32} {t : Nat → Nat} {z : Int32} {sp : Nat → Int32} {c : Nat}
theorem k_sharesOf (h : IV M t z sp c) {s : Nat} (hs : s < 512) : ∃ M1, R 113 0 [.ref 1, .int (nI s)] [] (SH L, M) = some (some (.ref 21), (SH L, M1)) ∧ fC M M1 ∧ DI M1 t c ∧ M1 34 = M 34 ∧ ∀ g, g < 4 → M1 21 g = nI (sha t s g) := by
  have hcb := h.cb
  obtain ⟨M1, e1, f1, d1, g1⟩ := s_divide (L := L) h.e h.w (o := od t) (a := 5) (n := t 2) (s := s) isO_5 h.o.1 (Nat.le_refl _) h.w.2.2.1 h.od5 h.cc (by omega) h.d hs
  refine ⟨M1, ?_, fC_of f1 (by omega), d1, f1 34 (by omega), g1⟩
  simp only [r113_0, r113_1, r113_4, r113_5, r113_8, r113_11, r113_12, r113_15, r113_18, r113_19, r113_22, r113_23, r113_26, r113_29, h.e.h, e1, Option.bind_some, vtl_none]
theorem k_prep (h : IV M t z sp c) {s : Nat} (hs : s < 512) : ∃ M1, R 8 0 [.ref 17, .ref 5, .int (nI (t 2)), .int (nI s), .null, .null] [] (SH L, M) = some (none, (SH L, M1)) ∧ fC M M1 ∧ DI M1 t c ∧ M1 34 = M 34 ∧ (∀ i, i < t 2 → M1 20 i = nI (rwT t i)) ∧ TV M1 (val t) (t 2) s ∧ ∀ k, k + 1 < t 2 → TG M1 (val t) (rwT t) s k := by
  have hcb := h.cb
  obtain ⟨M1, e1, f1, d1, g1⟩ := s_prepare (L := L) h.e h.w (o := od t) (a := 5) (n := t 2) (s := s) isO_5 h.o.1 (Nat.le_refl _) h.od5 h.cc (by omega) h.d hs
  exact ⟨M1, e1, fC_of f1 (by omega), d1, f1 34 (by omega), g1⟩
theorem c_share (h : IV M t z sp c) (a b : Int32) : OK L M c (fun M => R 71 0 [.ref 1, .int a, .int b] [] (SH L, M)) (fun M => R 166 0 [.ref 36, .int a, .int b] [] (SH L, M)) := by
  have hP := h.w.2.1
  have hH := h.w.2.2.2.1
  have h5 := pow_P h.w
  by_cases h1 : rng a (t 2)
  · by_cases h2 : rng b (2 ^ t 1)
    · obtain ⟨x, hx, rfl⟩ := rng_of (by omega) h1
      obtain ⟨s, hs, rfl⟩ := rng_of (by omega) h2
      obtain ⟨M1, e1, f1, d1, q1, g1⟩ := k_sharesOf (L := L) h (show s < 512 by omega)
      refine okV h (r := nI (sha t s x)) (M1 := M1) (by simp (disch := omega) only [r71_0, r71_1, r71_2, r71_5, r71_8, r71_11, r71_14, r71_15, r71_16, r71_19, r71_22, r71_23, r71_25, r71_28, r71_29, r71_30, r71_31, r71_34, r71_35, r71_36, Option.bind_some, vtl_some, vtl_none, s_within, s_isSet5 h.e h.w, h.e.p, h.e.h, h.od5, h.me4, b2_eq0, ite_not2, nz1, nz0, n1z, n0z, if_true, if_false, fd0, fd1, fd2, fd3, fd4, fd5, fd6, if_pos h1, if_pos h2, e1, g1 x]) f1 d1 q1 (fun M1 hs1 => ?_)
      obtain ⟨M2, e2, f2, g2⟩ := s_divides (L := L) h.w h.o hs1 hs
      exact ⟨M2, by have hs := hs1; simp (disch := omega) only [r166_0, r166_1, r166_2, r166_5, r166_8, r166_9, r166_10, r166_13, r166_16, r166_17, r166_19, r166_22, r166_23, r166_24, r166_25, r166_28, r166_29, r166_32, r166_33, r166_34, Option.bind_some, vtl_some, vtl_none, s_isPart hs h.w, s_isHeir hs h.w, s_isSet6 hs h.w, s_isAny, s_isThing, s_isOne, b2_eq0, ite_not2, nz1, nz0, n1z, n0z, if_true, if_false, gd0, gd1, gd2, gd3, gd4, gd5, gd6, hs 1, hs 2, if_pos h1, if_pos h2, e2, g2 x], fR_S f2, f2 40 (by omega)⟩
    · exact okF0 h (x := (-1000001)) (k := 0) (by simp (disch := omega) only [r71_0, r71_1, r71_2, r71_5, r71_8, r71_11, r71_14, r71_15, r71_16, r71_19, r71_22, r71_23, r71_25, r71_28, r71_29, r71_30, r71_31, r71_34, r71_35, r71_36, Option.bind_some, vtl_some, vtl_none, s_within, s_isSet5 h.e h.w, h.e.p, h.e.h, h.od5, h.me4, b2_eq0, ite_not2, nz1, nz0, n1z, n0z, if_true, if_false, fd0, fd1, fd2, fd3, fd4, fd5, fd6, if_pos h1, if_neg h2]) (fun M1 hs => by simp (disch := omega) only [r166_0, r166_1, r166_2, r166_5, r166_8, r166_9, r166_10, r166_13, r166_16, r166_17, r166_19, r166_22, r166_23, r166_24, r166_25, r166_28, r166_29, r166_32, r166_33, r166_34, Option.bind_some, vtl_some, vtl_none, s_isPart hs h.w, s_isHeir hs h.w, s_isSet6 hs h.w, s_isAny, s_isThing, s_isOne, b2_eq0, ite_not2, nz1, nz0, n1z, n0z, if_true, if_false, gd0, gd1, gd2, gd3, gd4, gd5, gd6, hs 1, hs 2, if_pos h1, if_neg h2])
  · exact okF0 h (x := (-1000001)) (k := 0) (by simp (disch := omega) only [r71_0, r71_1, r71_2, r71_5, r71_8, r71_11, r71_14, r71_15, r71_16, r71_19, r71_22, r71_23, r71_25, r71_28, r71_29, r71_30, r71_31, r71_34, r71_35, r71_36, Option.bind_some, vtl_some, vtl_none, s_within, s_isSet5 h.e h.w, h.e.p, h.e.h, h.od5, h.me4, b2_eq0, ite_not2, nz1, nz0, n1z, n0z, if_true, if_false, fd0, fd1, fd2, fd3, fd4, fd5, fd6, if_neg h1]) (fun M1 hs => by simp (disch := omega) only [r166_0, r166_1, r166_2, r166_5, r166_8, r166_9, r166_10, r166_13, r166_16, r166_17, r166_19, r166_22, r166_23, r166_24, r166_25, r166_28, r166_29, r166_32, r166_33, r166_34, Option.bind_some, vtl_some, vtl_none, s_isPart hs h.w, s_isHeir hs h.w, s_isSet6 hs h.w, s_isAny, s_isThing, s_isOne, b2_eq0, ite_not2, nz1, nz0, n1z, n0z, if_true, if_false, gd0, gd1, gd2, gd3, gd4, gd5, gd6, hs 1, hs 2, if_neg h1])
theorem c_gets (h : IV M t z sp c) (a b : Int32) : OK L M c (fun M => R 72 0 [.ref 1, .int a, .int b] [] (SH L, M)) (fun M => R 168 0 [.ref 36, .int a, .int b] [] (SH L, M)) := by
  have hP := h.w.2.1
  have hH := h.w.2.2.2.1
  have h5 := pow_P h.w
  by_cases h1 : rng a (t 2)
  · by_cases h2 : rng b (2 ^ t 1)
    · obtain ⟨x, hx, rfl⟩ := rng_of (by omega) h1
      obtain ⟨s, hs, rfl⟩ := rng_of (by omega) h2
      obtain ⟨M1, e1, f1, d1, q1, g1⟩ := k_sharesOf (L := L) h (show s < 512 by omega)
      have hE1 := rE_fC h.e (by omega) f1
      refine okV h (r := nI (val t x (sha t s x))) (M1 := M1) (by simp (disch := omega) only [r72_0, r72_1, r72_2, r72_5, r72_8, r72_11, r72_14, r72_15, r72_16, r72_19, r72_22, r72_23, r72_25, r72_28, r72_29, r72_30, r72_33, r72_34, r72_35, r72_36, r72_39, r72_40, r72_41, r72_44, Option.bind_some, vtl_some, vtl_none, s_within, s_isSet5 h.e h.w, h.e.p, h.e.h, h.od5, h.me4, b2_eq0, ite_not2, nz1, nz0, n1z, n0z, if_true, if_false, fd0, fd1, fd2, fd3, fd4, fd5, fd6, if_pos h1, if_pos h2, e1, g1 x, s_vto isE_2 hE1 h.w (show x < 4 by omega) (sha_lt t (show s < 512 by omega) x)]) f1 d1 q1 (fun M1 hs1 => ?_)
      obtain ⟨M2, e2, f2⟩ := s_getsOf (L := L) h.w h.o hs1 hx hs
      exact ⟨M2, by have hs := hs1; simp (disch := omega) only [r168_0, r168_1, r168_2, r168_5, r168_8, r168_9, r168_10, r168_13, r168_16, r168_17, r168_18, r168_19, r168_22, r168_25, r168_26, r168_28, r168_31, Option.bind_some, vtl_some, vtl_none, s_isPart hs h.w, s_isHeir hs h.w, s_isSet6 hs h.w, s_isAny, s_isThing, s_isOne, b2_eq0, ite_not2, nz1, nz0, n1z, n0z, if_true, if_false, gd0, gd1, gd2, gd3, gd4, gd5, gd6, hs 1, hs 2, if_pos h1, if_pos h2, e2], fR_S f2, f2 40 (by omega)⟩
    · exact okF0 h (x := (-1000001)) (k := 0) (by simp (disch := omega) only [r72_0, r72_1, r72_2, r72_5, r72_8, r72_11, r72_14, r72_15, r72_16, r72_19, r72_22, r72_23, r72_25, r72_28, r72_29, r72_30, r72_33, r72_34, r72_35, r72_36, r72_39, r72_40, r72_41, r72_44, Option.bind_some, vtl_some, vtl_none, s_within, s_isSet5 h.e h.w, h.e.p, h.e.h, h.od5, h.me4, b2_eq0, ite_not2, nz1, nz0, n1z, n0z, if_true, if_false, fd0, fd1, fd2, fd3, fd4, fd5, fd6, if_pos h1, if_neg h2]) (fun M1 hs => by simp (disch := omega) only [r168_0, r168_1, r168_2, r168_5, r168_8, r168_9, r168_10, r168_13, r168_16, r168_17, r168_18, r168_19, r168_22, r168_25, r168_26, r168_28, r168_31, Option.bind_some, vtl_some, vtl_none, s_isPart hs h.w, s_isHeir hs h.w, s_isSet6 hs h.w, s_isAny, s_isThing, s_isOne, b2_eq0, ite_not2, nz1, nz0, n1z, n0z, if_true, if_false, gd0, gd1, gd2, gd3, gd4, gd5, gd6, hs 1, hs 2, if_pos h1, if_neg h2])
  · exact okF0 h (x := (-1000001)) (k := 0) (by simp (disch := omega) only [r72_0, r72_1, r72_2, r72_5, r72_8, r72_11, r72_14, r72_15, r72_16, r72_19, r72_22, r72_23, r72_25, r72_28, r72_29, r72_30, r72_33, r72_34, r72_35, r72_36, r72_39, r72_40, r72_41, r72_44, Option.bind_some, vtl_some, vtl_none, s_within, s_isSet5 h.e h.w, h.e.p, h.e.h, h.od5, h.me4, b2_eq0, ite_not2, nz1, nz0, n1z, n0z, if_true, if_false, fd0, fd1, fd2, fd3, fd4, fd5, fd6, if_neg h1]) (fun M1 hs => by simp (disch := omega) only [r168_0, r168_1, r168_2, r168_5, r168_8, r168_9, r168_10, r168_13, r168_16, r168_17, r168_18, r168_19, r168_22, r168_25, r168_26, r168_28, r168_31, Option.bind_some, vtl_some, vtl_none, s_isPart hs h.w, s_isHeir hs h.w, s_isSet6 hs h.w, s_isAny, s_isThing, s_isOne, b2_eq0, ite_not2, nz1, nz0, n1z, n0z, if_true, if_false, gd0, gd1, gd2, gd3, gd4, gd5, gd6, hs 1, hs 2, if_neg h1])
theorem c_cut (h : IV M t z sp c) (a : Int32) : OK L M c (fun M => R 73 0 [.ref 1, .int a] [] (SH L, M)) (fun M => R 169 0 [.ref 36, .int a] [] (SH L, M)) := by
  have hP := h.w.2.1
  have hH := h.w.2.2.2.1
  have hH1 := h.w.2.2.1
  have h5 := pow_P h.w
  by_cases h1 : rng a (2 ^ t 1)
  · obtain ⟨s, hs, rfl⟩ := rng_of (by omega) h1
    by_cases h2 : 2 ≤ t 2
    · obtain ⟨M1, e1, f1, d1, q1, p1, p2, p3⟩ := k_prep (L := L) h (show s < 512 by omega)
      have hE1 := rE_fC h.e (by omega) f1
      have r1 : rwT t (t 2 - 2 + 1) < t 2 := h.o.1 _ (by omega)
      have bf : R 12 0 [.ref 17, .int (nI (t 2 - 2 + 1)), .int (nI s), .null, .null, .null, .null, .null, .null, .null, .null, .null, .null, .null, .null] [] (SH L, M1) = some (some (.int (nI (fro (val t) (rwT t) (t 2 - 2) s))), (SH L, M1)) := s_bestFront (L := L) (k := t 2 - 2) (s := s) (v := val t (rwT t (t 2 - 2 + 1))) (g := gn (val t) (rwT t) (t 2 - 2)) (by omega) (by omega) (show rwT t (t 2 - 2 + 1) < 4 by omega) (p1 _ (by omega)) (fun x hx => p2 _ r1 x hx) (fun x hx => p3 _ (by omega) x hx) (fun x _ => val_le h.w (show rwT t (t 2 - 2 + 1) < 4 by omega) x) (fun x hx => gnT_le h.w _ x hx) (by omega)
      rw [show t 2 - 2 + 1 = t 2 - 1 by omega] at bf
      refine okV h (r := nI (fro (val t) (rwT t) (t 2 - 2) s)) (M1 := M1) (by simp (disch := omega) only [r73_0, r73_1, r73_2, r73_5, r73_8, r73_9, r73_11, r73_14, r73_15, r73_16, r73_19, r73_22, r73_23, r73_26, r73_27, r73_29, r73_32, r73_33, r73_34, r73_37, r73_38, r73_41, r73_44, r73_45, r73_48, r73_51, r73_52, r73_55, r73_56, r73_59, r73_60, r73_63, r73_66, r73_67, r73_68, r73_69, r73_72, Option.bind_some, vtl_some, vtl_none, s_within, s_isSet5 h.e h.w, h.e.p, h.e.h, h.od5, h.me4, b2_eq0, ite_not2, nz1, nz0, n1z, n0z, if_true, if_false, fd0, fd1, fd2, fd3, fd4, fd5, fd6, if_pos h1, nI_le'', if_pos h2, e1, hE1.h, pk_sub (show 1 ≤ t 2 by omega), bf]) f1 d1 q1 (fun M1 hs1 => ?_)
      obtain ⟨M2, e2, f2, -, g2⟩ := s_findCuts (L := L) h.w h.o hs1 hs
      exact ⟨M2, by have hs := hs1; simp (disch := omega) only [r169_0, r169_1, r169_2, r169_5, r169_8, r169_9, r169_11, r169_14, r169_15, r169_16, r169_19, r169_20, r169_21, r169_22, r169_25, r169_26, r169_28, r169_31, r169_32, r169_33, r169_34, r169_37, r169_38, r169_41, r169_42, r169_43, Option.bind_some, vtl_some, vtl_none, s_isPart hs h.w, s_isHeir hs h.w, s_isSet6 hs h.w, s_isAny, s_isThing, s_isOne, b2_eq0, ite_not2, nz1, nz0, n1z, n0z, if_true, if_false, gd0, gd1, gd2, gd3, gd4, gd5, gd6, hs 1, hs 2, if_pos h1, nI_eq', show ¬ t 2 = 1 from by omega, e2, g2.2 (show 1 < t 2 by omega)], fR_S f2, f2 40 (by omega)⟩
    · exact okF0 h (x := (-1000004)) (k := 3) (by simp (disch := omega) only [r73_0, r73_1, r73_2, r73_5, r73_8, r73_9, r73_11, r73_14, r73_15, r73_16, r73_19, r73_22, r73_23, r73_26, r73_27, r73_29, r73_32, r73_33, r73_34, r73_37, r73_38, r73_41, r73_44, r73_45, r73_48, r73_51, r73_52, r73_55, r73_56, r73_59, r73_60, r73_63, r73_66, r73_67, r73_68, r73_69, r73_72, Option.bind_some, vtl_some, vtl_none, s_within, s_isSet5 h.e h.w, h.e.p, h.e.h, h.od5, h.me4, b2_eq0, ite_not2, nz1, nz0, n1z, n0z, if_true, if_false, fd0, fd1, fd2, fd3, fd4, fd5, fd6, if_pos h1, nI_le'', if_neg h2]) (fun M1 hs => by simp (disch := omega) only [r169_0, r169_1, r169_2, r169_5, r169_8, r169_9, r169_11, r169_14, r169_15, r169_16, r169_19, r169_20, r169_21, r169_22, r169_25, r169_26, r169_28, r169_31, r169_32, r169_33, r169_34, r169_37, r169_38, r169_41, r169_42, r169_43, Option.bind_some, vtl_some, vtl_none, s_isPart hs h.w, s_isHeir hs h.w, s_isSet6 hs h.w, s_isAny, s_isThing, s_isOne, b2_eq0, ite_not2, nz1, nz0, n1z, n0z, if_true, if_false, gd0, gd1, gd2, gd3, gd4, gd5, gd6, hs 1, hs 2, if_pos h1, nI_eq', show t 2 = 1 from by omega])
  · exact okF0 h (x := (-1000001)) (k := 0) (by simp (disch := omega) only [r73_0, r73_1, r73_2, r73_5, r73_8, r73_9, r73_11, r73_14, r73_15, r73_16, r73_19, r73_22, r73_23, r73_26, r73_27, r73_29, r73_32, r73_33, r73_34, r73_37, r73_38, r73_41, r73_44, r73_45, r73_48, r73_51, r73_52, r73_55, r73_56, r73_59, r73_60, r73_63, r73_66, r73_67, r73_68, r73_69, r73_72, Option.bind_some, vtl_some, vtl_none, s_within, s_isSet5 h.e h.w, h.e.p, h.e.h, h.od5, h.me4, b2_eq0, ite_not2, nz1, nz0, n1z, n0z, if_true, if_false, fd0, fd1, fd2, fd3, fd4, fd5, fd6, if_neg h1]) (fun M1 hs => by simp (disch := omega) only [r169_0, r169_1, r169_2, r169_5, r169_8, r169_9, r169_11, r169_14, r169_15, r169_16, r169_19, r169_20, r169_21, r169_22, r169_25, r169_26, r169_28, r169_31, r169_32, r169_33, r169_34, r169_37, r169_38, r169_41, r169_42, r169_43, Option.bind_some, vtl_some, vtl_none, s_isPart hs h.w, s_isHeir hs h.w, s_isSet6 hs h.w, s_isAny, s_isThing, s_isOne, b2_eq0, ite_not2, nz1, nz0, n1z, n0z, if_true, if_false, gd0, gd1, gd2, gd3, gd4, gd5, gd6, hs 1, hs 2, if_neg h1])
theorem s_isFront (h : IV M t z sp c) {s : Nat} {b : Int32} (h1 : rng (nI s) (2 ^ t 1)) (hs : s < 2 ^ t 1) : R 111 0 [.ref 1, .int (nI s), .int b, .null] [] (SH L, M) = some (some (.int (if b &&& (nI s ^^^ (-1)) = 0 ∧ b &&& nI (lowb s) = nI (lowb s) then nI 1 else nI 0)), (SH L, M)) := by
  have hP := h.w.2.1
  have h5 := pow_P h.w
  simp (disch := omega) only [r111_0, r111_1, r111_2, r111_3, r111_4, r111_5, r111_6, r111_7, r111_10, r111_13, r111_14, r111_15, r111_16, r111_17, r111_18, r111_21, r111_22, r111_23, r111_24, r111_25, r111_28, r111_29, r111_32, r111_33_0, r111_33_1, low_neg, Option.bind_some, vtl_some, vtl_none, s_within, s_isSet5 h.e h.w, h.e.p, h.e.h, h.od5, h.me4, b2_eq0, ite_not2, nz1, nz0, n1z, n0z, if_true, if_false, fd0, fd1, fd2, fd3, fd4, fd5, fd6, if_pos h1]
  by_cases q1 : b &&& (nI s ^^^ (-1)) = 0
  · by_cases q2 : b &&& nI (lowb s) = nI (lowb s)
    · rw [if_pos q1, if_pos q2, if_pos ⟨q1, q2⟩]
    · rw [if_pos q1, if_neg q2, if_neg (fun z => q2 z.2)]
  · rw [if_neg q1, if_neg (fun z => q1 z.1)]
theorem s_isFront0 (h : IV M t z sp c) {a b : Int32} (h1 : ¬ rng a (2 ^ t 1)) : R 111 0 [.ref 1, .int a, .int b, .null] [] (SH L, M) = some (some (.int (nI 0)), (SH L, M)) := by
  have hP := h.w.2.1
  simp (disch := omega) only [r111_0, r111_1, r111_2, r111_3, r111_4, r111_5, r111_6, r111_7, r111_10, r111_13, r111_14, r111_15, r111_16, r111_17, r111_18, r111_21, r111_22, r111_23, r111_24, r111_25, r111_28, r111_29, r111_32, r111_33_0, r111_33_1, Option.bind_some, vtl_some, vtl_none, s_within, s_isSet5 h.e h.w, h.e.p, h.e.h, h.od5, h.me4, b2_eq0, ite_not2, nz1, nz0, n1z, n0z, if_true, if_false, fd0, fd1, fd2, fd3, fd4, fd5, fd6, if_neg h1]
theorem s_frontWrong0 {M1 : Nat → Nat → Int32} (h : IV M t z sp c) (hs : rS M1 t) {a b : Int32} (h1 : ¬ rng a (2 ^ t 1) ∨ ¬ rng b (2 ^ t 1) ∨ ¬ b &&& (a ^^^ (-1)) = 0) : R 170 0 [.ref 36, .int a, .int b] [] (SH L, M1) = some (some (.int (-1000001)), (SH L, M1)) := by
  have hP := h.w.2.1
  by_cases q1 : rng a (2 ^ t 1)
  · by_cases q2 : rng b (2 ^ t 1)
    · have q3 := (h1.resolve_left (fun z => z q1)).resolve_left (fun z => z q2)
      simp (disch := omega) only [r170_0, r170_1, r170_2, r170_5, r170_8, r170_9, r170_10, r170_13, r170_16, r170_17, r170_18, r170_19, r170_20, r170_21, r170_24, r170_25, r170_26, r170_27, r170_28, r170_29, r170_30, r170_31, r170_32, r170_33, r170_36, r170_38, r170_39, r170_40, r170_43, r170_44, r170_45, r170_46, r170_49, r170_51, r170_52, r170_53, r170_56, r170_57, r170_60, r170_61, Option.bind_some, vtl_some, vtl_none, s_isPart hs h.w, s_isHeir hs h.w, s_isSet6 hs h.w, s_isAny, s_isThing, s_isOne, b2_eq0, ite_not2, nz1, nz0, n1z, n0z, if_true, if_false, gd0, gd1, gd2, gd3, gd4, gd5, gd6, hs 1, hs 2, if_pos q1, if_pos q2, if_neg q3]
    · simp (disch := omega) only [r170_0, r170_1, r170_2, r170_5, r170_8, r170_9, r170_10, r170_13, r170_16, r170_17, r170_18, r170_19, r170_20, r170_21, r170_24, r170_25, r170_26, r170_27, r170_28, r170_29, r170_30, r170_31, r170_32, r170_33, r170_36, r170_38, r170_39, r170_40, r170_43, r170_44, r170_45, r170_46, r170_49, r170_51, r170_52, r170_53, r170_56, r170_57, r170_60, r170_61, Option.bind_some, vtl_some, vtl_none, s_isPart hs h.w, s_isHeir hs h.w, s_isSet6 hs h.w, s_isAny, s_isThing, s_isOne, b2_eq0, ite_not2, nz1, nz0, n1z, n0z, if_true, if_false, gd0, gd1, gd2, gd3, gd4, gd5, gd6, hs 1, hs 2, if_pos q1, if_neg q2]
  · simp (disch := omega) only [r170_0, r170_1, r170_2, r170_5, r170_8, r170_9, r170_10, r170_13, r170_16, r170_17, r170_18, r170_19, r170_20, r170_21, r170_24, r170_25, r170_26, r170_27, r170_28, r170_29, r170_30, r170_31, r170_32, r170_33, r170_36, r170_38, r170_39, r170_40, r170_43, r170_44, r170_45, r170_46, r170_49, r170_51, r170_52, r170_53, r170_56, r170_57, r170_60, r170_61, Option.bind_some, vtl_some, vtl_none, s_isPart hs h.w, s_isHeir hs h.w, s_isSet6 hs h.w, s_isAny, s_isThing, s_isOne, b2_eq0, ite_not2, nz1, nz0, n1z, n0z, if_true, if_false, gd0, gd1, gd2, gd3, gd4, gd5, gd6, hs 1, hs 2, if_neg q1]
theorem s_frontWrong {M1 : Nat → Nat → Int32} (h : IV M t z sp c) (hs : rS M1 t) {s f : Nat} (h1 : rng (nI s) (2 ^ t 1)) (hs1 : s < 2 ^ t 1) (hf : f &&& s = f) : ∃ M2, R 170 0 [.ref 36, .int (nI s), .int (nI f)] [] (SH L, M1) = some (some (.int (if f &&& lowb s = lowb s then (if t 2 = 1 then (-1000004) else nI 0) else (-1000001))), (SH L, M2)) ∧ fR M1 M2 ∧ M2 40 = M1 40 ∧ (f &&& lowb s = lowb s → ¬ t 2 = 1 → LA M2 t 0) := by
  have hP := h.w.2.1
  have hH := h.w.2.2.2.1
  have h5 := pow_P h.w
  have fl := sub_le hf
  have l1 := (lowb_facts s (by omega)).1
  have h2 : rng (nI f) (2 ^ t 1) := (rng_nI (by omega)).mpr (by omega)
  have h3 : dif f s = 0 := by
    unfold dif
    rw [hf, Nat.xor_self]
  have d1 : dif (lowb s) f < 2 ^ 31 := Nat.lt_of_le_of_lt (dif_le _ _) (by omega)
  by_cases q1 : f &&& lowb s = lowb s
  · by_cases q2 : t 2 = 1
    · refine ⟨M1, ?_, fR_rf, rfl, fun _ z => absurd q2 z⟩
      simp (disch := omega) only [r170_0, r170_1, r170_2, r170_5, r170_8, r170_9, r170_10, r170_13, r170_16, r170_17, r170_18, r170_19, r170_20, r170_21, r170_24, r170_25, r170_26, r170_27, r170_28, r170_29, r170_30, r170_31, r170_32, r170_33, r170_36, r170_38, r170_39, r170_40, r170_43, r170_44, r170_45, r170_46, r170_49, r170_51, r170_52, r170_53, r170_56, r170_57, r170_60, r170_61, Option.bind_some, vtl_some, vtl_none, s_isPart hs h.w, s_isHeir hs h.w, s_isSet6 hs h.w, s_isAny, s_isThing, s_isOne, b2_eq0, ite_not2, nz1, nz0, n1z, n0z, if_true, if_false, gd0, gd1, gd2, gd3, gd4, gd5, gd6, hs 1, hs 2, if_pos h1, if_pos h2, nI_dif, h3, low_sub, nI_eq0, dif_low, if_pos q1, nI_eq', if_pos q2]
    · obtain ⟨M2, e2, f2, -, w2⟩ := s_findWorths (L := L) h.w hs
      obtain ⟨M3, e3, f3, l3⟩ := s_findLater (L := L) h.w (rS_fr hs f2) (WO_of h.o w2)
      refine ⟨M3, ?_, fR_tr (fR_S f2) (fR_of f3 (by omega)), by rw [f3 40 (by omega), f2 40 (by omega)], fun _ _ => l3⟩
      simp (disch := omega) only [r170_0, r170_1, r170_2, r170_5, r170_8, r170_9, r170_10, r170_13, r170_16, r170_17, r170_18, r170_19, r170_20, r170_21, r170_24, r170_25, r170_26, r170_27, r170_28, r170_29, r170_30, r170_31, r170_32, r170_33, r170_36, r170_38, r170_39, r170_40, r170_43, r170_44, r170_45, r170_46, r170_49, r170_51, r170_52, r170_53, r170_56, r170_57, r170_60, r170_61, Option.bind_some, vtl_some, vtl_none, s_isPart hs h.w, s_isHeir hs h.w, s_isSet6 hs h.w, s_isAny, s_isThing, s_isOne, b2_eq0, ite_not2, nz1, nz0, n1z, n0z, if_true, if_false, gd0, gd1, gd2, gd3, gd4, gd5, gd6, hs 1, hs 2, if_pos h1, if_pos h2, nI_dif, h3, low_sub, nI_eq0, dif_low, if_pos q1, nI_eq', if_neg q2, e2, e3]
  · refine ⟨M1, ?_, fR_rf, rfl, fun z => absurd z q1⟩
    simp (disch := omega) only [r170_0, r170_1, r170_2, r170_5, r170_8, r170_9, r170_10, r170_13, r170_16, r170_17, r170_18, r170_19, r170_20, r170_21, r170_24, r170_25, r170_26, r170_27, r170_28, r170_29, r170_30, r170_31, r170_32, r170_33, r170_36, r170_38, r170_39, r170_40, r170_43, r170_44, r170_45, r170_46, r170_49, r170_51, r170_52, r170_53, r170_56, r170_57, r170_60, r170_61, Option.bind_some, vtl_some, vtl_none, s_isPart hs h.w, s_isHeir hs h.w, s_isSet6 hs h.w, s_isAny, s_isThing, s_isOne, b2_eq0, ite_not2, nz1, nz0, n1z, n0z, if_true, if_false, gd0, gd1, gd2, gd3, gd4, gd5, gd6, hs 1, hs 2, if_pos h1, if_pos h2, nI_dif, h3, low_sub, nI_eq0, dif_low, if_neg q1]
theorem c_takes (h : IV M t z sp c) (a b : Int32) : OK L M c (fun M => R 74 0 [.ref 1, .int a, .int b] [] (SH L, M)) (fun M => R 171 0 [.ref 36, .int a, .int b, .null] [] (SH L, M)) := by
  have hP := h.w.2.1
  have hH := h.w.2.2.2.1
  have hH1 := h.w.2.2.1
  have h5 := pow_P h.w
  by_cases h1 : rng a (2 ^ t 1)
  · obtain ⟨s, hs, rfl⟩ := rng_of (by omega) h1
    by_cases h2 : b &&& (nI s ^^^ (-1)) = 0
    · obtain ⟨f, rfl, hf⟩ := and_not0 (by omega) h2
      have fl := sub_le hf
      have l1 := (lowb_facts s (by omega)).1
      have q5 : f &&& lowb s < 2 ^ 31 := Nat.lt_of_le_of_lt Nat.and_le_left (by omega)
      have eC : (nI f &&& (nI s ^^^ (-1)) = 0 ∧ nI f &&& nI (lowb s) = nI (lowb s)) = (f &&& lowb s = lowb s) := by
        rw [nI_and, nI_eq' q5 (by omega)]
        exact propext ⟨fun z => z.2, fun z => ⟨h2, z⟩⟩
      have isf := s_isFront (L := L) h h1 hs (b := nI f)
      simp only [eC] at isf
      by_cases h3 : f &&& lowb s = lowb s
      · by_cases h4 : 2 ≤ t 2
        · obtain ⟨M1, e1, f1, d1, q1, p1, p2, p3⟩ := k_prep (L := L) h (show s < 512 by omega)
          have hE1 := rE_fC h.e (by omega) f1
          have bl := dif_le s f
          have g1 := gnT_le h.w (t 2 - 2) f (by omega)
          have g2 := gnT_le h.w (t 2 - 2) (dif s f) (by omega)
          have pb := s_prefersBack (L := L) (k := t 2 - 2) (p3 _ (by omega) f hf) (p3 _ (by omega) _ (dif_sub s f)) (by omega) (by omega) (by omega) (by omega)
          refine okV h (r := if gn (val t) (rwT t) (t 2 - 2) (dif s f) ≤ gn (val t) (rwT t) (t 2 - 2) f then nI 0 else nI 1) (M1 := M1) (by simp (disch := omega) only [r74_0, r74_1, r74_2, r74_3, r74_6, r74_9, r74_10, r74_12, r74_15, r74_16, r74_17, r74_20, r74_23, r74_24, r74_27, r74_28, r74_30, r74_33, r74_34, r74_35, r74_38, r74_39, r74_42, r74_45, r74_46, r74_49, r74_52, r74_53, r74_56, r74_57, r74_60, r74_61, r74_64, r74_67, r74_68, r74_69, r74_70, r74_71, r74_72, r74_73, r74_74, r74_75, r74_78, r74_81, r74_82, r74_85, r74_86, Option.bind_some, vtl_some, vtl_none, s_within, s_isSet5 h.e h.w, h.e.p, h.e.h, h.od5, h.me4, b2_eq0, ite_not2, nz1, nz0, n1z, n0z, if_true, if_false, fd0, fd1, fd2, fd3, fd4, fd5, fd6, isf, if_pos h3, nI_le'', if_pos h4, e1, hE1.h, pk_sub (show 2 ≤ t 2 by omega), nI_dif, pb, c2_eq0, mg_s]) f1 d1 q1 (fun M1 hs1 => ?_)
          obtain ⟨M2, e2, f2, q2, l2⟩ := s_frontWrong (L := L) h hs1 h1 hs hf
          rw [if_pos h3, if_neg (show ¬ t 2 = 1 by omega)] at e2
          have l3 := (l2 h3 (by omega)).2 1 (by omega) (by omega) (by omega)
          have b1 := (l3 f (by omega)).1
          have b2 := (l3 (dif s f) (by omega)).1
          rw [show t 2 - 1 - 1 = t 2 - 2 by omega] at b1 b2
          have ft := s_isFrontTaken (L := L) b1 b2 (by omega) (by omega) (by omega) (by omega)
          exact ⟨M2, by have hs := hs1; simp (disch := omega) only [r171_0, r171_1, r171_2, r171_3, r171_6, r171_7, r171_8, r171_11, r171_12, r171_13, r171_16, r171_17, r171_18, r171_19, r171_20, r171_21, r171_22, r171_23, r171_24, r171_25, r171_28, r171_31, r171_32, r171_35, r171_36, Option.bind_some, vtl_some, vtl_none, s_isPart hs h.w, s_isHeir hs h.w, s_isSet6 hs h.w, s_isAny, s_isThing, s_isOne, b2_eq0, ite_not2, nz1, nz0, n1z, n0z, if_true, if_false, gd0, gd1, gd2, gd3, gd4, gd5, gd6, hs 1, hs 2, e2, nI_dif, ft, mg_s], f2, q2⟩
        · have q4 : t 2 = 1 := by omega
          refine okF h (x := -1000004) (k := 3) (M1 := M) (by simp (disch := omega) only [r74_0, r74_1, r74_2, r74_3, r74_6, r74_9, r74_10, r74_12, r74_15, r74_16, r74_17, r74_20, r74_23, r74_24, r74_27, r74_28, r74_30, r74_33, r74_34, r74_35, r74_38, r74_39, r74_42, r74_45, r74_46, r74_49, r74_52, r74_53, r74_56, r74_57, r74_60, r74_61, r74_64, r74_67, r74_68, r74_69, r74_70, r74_71, r74_72, r74_73, r74_74, r74_75, r74_78, r74_81, r74_82, r74_85, r74_86, Option.bind_some, vtl_some, vtl_none, s_within, s_isSet5 h.e h.w, h.e.p, h.e.h, h.od5, h.me4, b2_eq0, ite_not2, nz1, nz0, n1z, n0z, if_true, if_false, fd0, fd1, fd2, fd3, fd4, fd5, fd6, isf, if_pos h3, nI_le'', if_neg h4]) fC_rf h.d rfl (fun M1 hs1 => ?_)
          obtain ⟨M2, e2, f2, q2, l2⟩ := s_frontWrong (L := L) h hs1 h1 hs hf
          rw [if_pos h3, if_pos q4] at e2
          exact ⟨M2, by have hs := hs1; simp (disch := omega) only [r171_0, r171_1, r171_2, r171_3, r171_6, r171_7, r171_8, r171_11, r171_12, r171_13, r171_16, r171_17, r171_18, r171_19, r171_20, r171_21, r171_22, r171_23, r171_24, r171_25, r171_28, r171_31, r171_32, r171_35, r171_36, Option.bind_some, vtl_some, vtl_none, s_isPart hs h.w, s_isHeir hs h.w, s_isSet6 hs h.w, s_isAny, s_isThing, s_isOne, b2_eq0, ite_not2, nz1, nz0, n1z, n0z, if_true, if_false, gd0, gd1, gd2, gd3, gd4, gd5, gd6, hs 1, hs 2, e2, nzN], f2, q2⟩
      · refine okF h (x := -1000001) (k := 0) (M1 := M) (by simp (disch := omega) only [r74_0, r74_1, r74_2, r74_3, r74_6, r74_9, r74_10, r74_12, r74_15, r74_16, r74_17, r74_20, r74_23, r74_24, r74_27, r74_28, r74_30, r74_33, r74_34, r74_35, r74_38, r74_39, r74_42, r74_45, r74_46, r74_49, r74_52, r74_53, r74_56, r74_57, r74_60, r74_61, r74_64, r74_67, r74_68, r74_69, r74_70, r74_71, r74_72, r74_73, r74_74, r74_75, r74_78, r74_81, r74_82, r74_85, r74_86, Option.bind_some, vtl_some, vtl_none, s_within, s_isSet5 h.e h.w, h.e.p, h.e.h, h.od5, h.me4, b2_eq0, ite_not2, nz1, nz0, n1z, n0z, if_true, if_false, fd0, fd1, fd2, fd3, fd4, fd5, fd6, isf, if_neg h3]) fC_rf h.d rfl (fun M1 hs1 => ?_)
        obtain ⟨M2, e2, f2, q2, l2⟩ := s_frontWrong (L := L) h hs1 h1 hs hf
        rw [if_neg h3] at e2
        exact ⟨M2, by have hs := hs1; simp (disch := omega) only [r171_0, r171_1, r171_2, r171_3, r171_6, r171_7, r171_8, r171_11, r171_12, r171_13, r171_16, r171_17, r171_18, r171_19, r171_20, r171_21, r171_22, r171_23, r171_24, r171_25, r171_28, r171_31, r171_32, r171_35, r171_36, Option.bind_some, vtl_some, vtl_none, s_isPart hs h.w, s_isHeir hs h.w, s_isSet6 hs h.w, s_isAny, s_isThing, s_isOne, b2_eq0, ite_not2, nz1, nz0, n1z, n0z, if_true, if_false, gd0, gd1, gd2, gd3, gd4, gd5, gd6, hs 1, hs 2, e2, nzB], f2, q2⟩
    · have isf := s_isFront (L := L) h h1 hs (b := b)
      rw [if_neg (fun z => h2 z.1)] at isf
      exact okF0 h (x := (-1000001)) (k := 0) (by simp (disch := omega) only [r74_0, r74_1, r74_2, r74_3, r74_6, r74_9, r74_10, r74_12, r74_15, r74_16, r74_17, r74_20, r74_23, r74_24, r74_27, r74_28, r74_30, r74_33, r74_34, r74_35, r74_38, r74_39, r74_42, r74_45, r74_46, r74_49, r74_52, r74_53, r74_56, r74_57, r74_60, r74_61, r74_64, r74_67, r74_68, r74_69, r74_70, r74_71, r74_72, r74_73, r74_74, r74_75, r74_78, r74_81, r74_82, r74_85, r74_86, Option.bind_some, vtl_some, vtl_none, s_within, s_isSet5 h.e h.w, h.e.p, h.e.h, h.od5, h.me4, b2_eq0, ite_not2, nz1, nz0, n1z, n0z, if_true, if_false, fd0, fd1, fd2, fd3, fd4, fd5, fd6, isf]) (fun M1 hs => by simp (disch := omega) only [r171_0, r171_1, r171_2, r171_3, r171_6, r171_7, r171_8, r171_11, r171_12, r171_13, r171_16, r171_17, r171_18, r171_19, r171_20, r171_21, r171_22, r171_23, r171_24, r171_25, r171_28, r171_31, r171_32, r171_35, r171_36, Option.bind_some, vtl_some, vtl_none, s_isPart hs h.w, s_isHeir hs h.w, s_isSet6 hs h.w, s_isAny, s_isThing, s_isOne, b2_eq0, ite_not2, nz1, nz0, n1z, n0z, if_true, if_false, gd0, gd1, gd2, gd3, gd4, gd5, gd6, hs 1, hs 2, s_frontWrong0 h hs (Or.inr (Or.inr h2)), nzB])
  · exact okF0 h (x := (-1000001)) (k := 0) (by simp (disch := omega) only [r74_0, r74_1, r74_2, r74_3, r74_6, r74_9, r74_10, r74_12, r74_15, r74_16, r74_17, r74_20, r74_23, r74_24, r74_27, r74_28, r74_30, r74_33, r74_34, r74_35, r74_38, r74_39, r74_42, r74_45, r74_46, r74_49, r74_52, r74_53, r74_56, r74_57, r74_60, r74_61, r74_64, r74_67, r74_68, r74_69, r74_70, r74_71, r74_72, r74_73, r74_74, r74_75, r74_78, r74_81, r74_82, r74_85, r74_86, Option.bind_some, vtl_some, vtl_none, s_within, s_isSet5 h.e h.w, h.e.p, h.e.h, h.od5, h.me4, b2_eq0, ite_not2, nz1, nz0, n1z, n0z, if_true, if_false, fd0, fd1, fd2, fd3, fd4, fd5, fd6, s_isFront0 h h1]) (fun M1 hs => by simp (disch := omega) only [r171_0, r171_1, r171_2, r171_3, r171_6, r171_7, r171_8, r171_11, r171_12, r171_13, r171_16, r171_17, r171_18, r171_19, r171_20, r171_21, r171_22, r171_23, r171_24, r171_25, r171_28, r171_31, r171_32, r171_35, r171_36, Option.bind_some, vtl_some, vtl_none, s_isPart hs h.w, s_isHeir hs h.w, s_isSet6 hs h.w, s_isAny, s_isThing, s_isOne, b2_eq0, ite_not2, nz1, nz0, n1z, n0z, if_true, if_false, gd0, gd1, gd2, gd3, gd4, gd5, gd6, hs 1, hs 2, s_frontWrong0 h hs (Or.inl h1), nzB])
theorem c_left (h : IV M t z sp c) (a b : Int32) : OK L M c (fun M => R 75 0 [.ref 1, .int a, .int b] [] (SH L, M)) (fun M => R 172 0 [.ref 36, .int a, .int b, .null, .null] [] (SH L, M)) := by
  have hP := h.w.2.1
  have hH := h.w.2.2.2.1
  have hH1 := h.w.2.2.1
  have h5 := pow_P h.w
  by_cases h1 : rng a (2 ^ t 1)
  · obtain ⟨s, hs, rfl⟩ := rng_of (by omega) h1
    by_cases h2 : b &&& (nI s ^^^ (-1)) = 0
    · obtain ⟨f, rfl, hf⟩ := and_not0 (by omega) h2
      have fl := sub_le hf
      have l1 := (lowb_facts s (by omega)).1
      have q5 : f &&& lowb s < 2 ^ 31 := Nat.lt_of_le_of_lt Nat.and_le_left (by omega)
      have eC : (nI f &&& (nI s ^^^ (-1)) = 0 ∧ nI f &&& nI (lowb s) = nI (lowb s)) = (f &&& lowb s = lowb s) := by
        rw [nI_and, nI_eq' q5 (by omega)]
        exact propext ⟨fun z => z.2, fun z => ⟨h2, z⟩⟩
      have isf := s_isFront (L := L) h h1 hs (b := nI f)
      simp only [eC] at isf
      by_cases h3 : f &&& lowb s = lowb s
      · by_cases h4 : 2 ≤ t 2
        · obtain ⟨M1, e1, f1, d1, q1, p1, p2, p3⟩ := k_prep (L := L) h (show s < 512 by omega)
          have hE1 := rE_fC h.e (by omega) f1
          have bl := dif_le s f
          have g1 := gnT_le h.w (t 2 - 2) f (by omega)
          have g2 := gnT_le h.w (t 2 - 2) (dif s f) (by omega)
          have r1 : rwT t (t 2 - 2 + 1) < t 2 := h.o.1 _ (by omega)
          have vl := s_valueLeft (L := L) (M := M1) (k := t 2 - 2) (s := s) (f := f) (v := val t (rwT t (t 2 - 2 + 1))) (g := gn (val t) (rwT t) (t 2 - 2)) (by omega) (by omega) hf (show rwT t (t 2 - 2 + 1) < 4 by omega) (p1 _ (by omega)) (fun x hx => p2 _ r1 x hx) (fun x hx => p3 _ (by omega) x hx) (fun x hx => gnT_le h.w _ x hx) (m := 1782) (by omega)
          have er : rwT t (t 2 - 2 + 1) = t (5 + 0) := by
            show t (5 + (t 2 - 1 - (t 2 - 2 + 1))) = t (5 + 0)
            congr 1
            omega
          rw [er, show t 2 - 2 + 1 = t 2 - 1 by omega] at vl
          refine okV h (r := nI (val t (t (5 + 0)) (kp (gn (val t) (rwT t) (t 2 - 2)) s f))) (M1 := M1) (by simp (disch := omega) only [r75_0, r75_1, r75_2, r75_3, r75_6, r75_9, r75_10, r75_12, r75_15, r75_16, r75_17, r75_20, r75_23, r75_24, r75_27, r75_28, r75_30, r75_33, r75_34, r75_35, r75_38, r75_39, r75_42, r75_45, r75_46, r75_49, r75_52, r75_53, r75_56, r75_57, r75_60, r75_61, r75_64, r75_67, r75_68, r75_69, r75_70, r75_71, r75_74, Option.bind_some, vtl_some, vtl_none, s_within, s_isSet5 h.e h.w, h.e.p, h.e.h, h.od5, h.me4, b2_eq0, ite_not2, nz1, nz0, n1z, n0z, if_true, if_false, fd0, fd1, fd2, fd3, fd4, fd5, fd6, isf, if_pos h3, nI_le'', if_pos h4, e1, hE1.h, pk_sub (show 1 ≤ t 2 by omega), vl]) f1 d1 q1 (fun M1 hs1 => ?_)
          obtain ⟨M2, e2, f2, q2, l2⟩ := s_frontWrong (L := L) h hs1 h1 hs hf
          rw [if_pos h3, if_neg (show ¬ t 2 = 1 by omega)] at e2
          have l4 := l2 h3 (by omega)
          have l3 := l4.2 1 (by omega) (by omega) (by omega)
          have b1 := (l3 f (by omega)).1
          have b2 := (l3 (dif s f) (by omega)).1
          rw [show t 2 - 1 - 1 = t 2 - 2 by omega] at b1 b2
          have ft := s_isFrontTaken (L := L) b1 b2 (by omega) (by omega) (by omega) (by omega)
          have ek : (if gn (val t) (rwT t) (t 2 - 2) (dif s f) ≤ gn (val t) (rwT t) (t 2 - 2) f then nI (dif s f) else nI f) = nI (kp (gn (val t) (rwT t) (t 2 - 2)) s f) := mg_n
          have kl : kp (gn (val t) (rwT t) (t 2 - 2)) s f ≤ s := sub_le (kp_sub hf)
          have ev := l4.1 0 (by omega) (by omega) (kp (gn (val t) (rwT t) (t 2 - 2)) s f) (by omega)
          rw [Nat.mul_zero, Nat.zero_add] at ev
          refine ⟨M2, ?_, f2, q2⟩
          have hs := hs1
          simp (disch := omega) only [r172_0, r172_1, r172_2, r172_3, r172_6, r172_7, r172_8, r172_11, r172_12, r172_13, r172_16, r172_17, r172_18, r172_19, r172_20, r172_21, r172_22, r172_24, r172_25, r172_28, r172_29, r172_30, r172_31, r172_33, r172_36, r172_39, r172_41, r172_44, Option.bind_some, vtl_some, vtl_none, s_isPart hs h.w, s_isHeir hs h.w, s_isSet6 hs h.w, s_isAny, s_isThing, s_isOne, b2_eq0, ite_not2, nz1, nz0, n1z, n0z, if_true, if_false, gd0, gd1, gd2, gd3, gd4, gd5, gd6, hs 1, hs 2, e2, nI_dif, ft, mg_R, ek]
          simp (disch := omega) only [r172_45, r172_46, ev]
        · have q4 : t 2 = 1 := by omega
          refine okF h (x := -1000004) (k := 3) (M1 := M) (by simp (disch := omega) only [r75_0, r75_1, r75_2, r75_3, r75_6, r75_9, r75_10, r75_12, r75_15, r75_16, r75_17, r75_20, r75_23, r75_24, r75_27, r75_28, r75_30, r75_33, r75_34, r75_35, r75_38, r75_39, r75_42, r75_45, r75_46, r75_49, r75_52, r75_53, r75_56, r75_57, r75_60, r75_61, r75_64, r75_67, r75_68, r75_69, r75_70, r75_71, r75_74, Option.bind_some, vtl_some, vtl_none, s_within, s_isSet5 h.e h.w, h.e.p, h.e.h, h.od5, h.me4, b2_eq0, ite_not2, nz1, nz0, n1z, n0z, if_true, if_false, fd0, fd1, fd2, fd3, fd4, fd5, fd6, isf, if_pos h3, nI_le'', if_neg h4]) fC_rf h.d rfl (fun M1 hs1 => ?_)
          obtain ⟨M2, e2, f2, q2, l2⟩ := s_frontWrong (L := L) h hs1 h1 hs hf
          rw [if_pos h3, if_pos q4] at e2
          exact ⟨M2, by have hs := hs1; simp (disch := omega) only [r172_0, r172_1, r172_2, r172_3, r172_6, r172_7, r172_8, r172_11, r172_12, r172_13, r172_16, r172_17, r172_18, r172_19, r172_20, r172_21, r172_22, r172_24, r172_25, r172_28, r172_29, r172_30, r172_31, r172_33, r172_36, r172_39, r172_41, r172_44, r172_45, r172_46, Option.bind_some, vtl_some, vtl_none, s_isPart hs h.w, s_isHeir hs h.w, s_isSet6 hs h.w, s_isAny, s_isThing, s_isOne, b2_eq0, ite_not2, nz1, nz0, n1z, n0z, if_true, if_false, gd0, gd1, gd2, gd3, gd4, gd5, gd6, hs 1, hs 2, e2, nzN], f2, q2⟩
      · refine okF h (x := -1000001) (k := 0) (M1 := M) (by simp (disch := omega) only [r75_0, r75_1, r75_2, r75_3, r75_6, r75_9, r75_10, r75_12, r75_15, r75_16, r75_17, r75_20, r75_23, r75_24, r75_27, r75_28, r75_30, r75_33, r75_34, r75_35, r75_38, r75_39, r75_42, r75_45, r75_46, r75_49, r75_52, r75_53, r75_56, r75_57, r75_60, r75_61, r75_64, r75_67, r75_68, r75_69, r75_70, r75_71, r75_74, Option.bind_some, vtl_some, vtl_none, s_within, s_isSet5 h.e h.w, h.e.p, h.e.h, h.od5, h.me4, b2_eq0, ite_not2, nz1, nz0, n1z, n0z, if_true, if_false, fd0, fd1, fd2, fd3, fd4, fd5, fd6, isf, if_neg h3]) fC_rf h.d rfl (fun M1 hs1 => ?_)
        obtain ⟨M2, e2, f2, q2, l2⟩ := s_frontWrong (L := L) h hs1 h1 hs hf
        rw [if_neg h3] at e2
        exact ⟨M2, by have hs := hs1; simp (disch := omega) only [r172_0, r172_1, r172_2, r172_3, r172_6, r172_7, r172_8, r172_11, r172_12, r172_13, r172_16, r172_17, r172_18, r172_19, r172_20, r172_21, r172_22, r172_24, r172_25, r172_28, r172_29, r172_30, r172_31, r172_33, r172_36, r172_39, r172_41, r172_44, r172_45, r172_46, Option.bind_some, vtl_some, vtl_none, s_isPart hs h.w, s_isHeir hs h.w, s_isSet6 hs h.w, s_isAny, s_isThing, s_isOne, b2_eq0, ite_not2, nz1, nz0, n1z, n0z, if_true, if_false, gd0, gd1, gd2, gd3, gd4, gd5, gd6, hs 1, hs 2, e2, nzB], f2, q2⟩
    · have isf := s_isFront (L := L) h h1 hs (b := b)
      rw [if_neg (fun z => h2 z.1)] at isf
      exact okF0 h (x := (-1000001)) (k := 0) (by simp (disch := omega) only [r75_0, r75_1, r75_2, r75_3, r75_6, r75_9, r75_10, r75_12, r75_15, r75_16, r75_17, r75_20, r75_23, r75_24, r75_27, r75_28, r75_30, r75_33, r75_34, r75_35, r75_38, r75_39, r75_42, r75_45, r75_46, r75_49, r75_52, r75_53, r75_56, r75_57, r75_60, r75_61, r75_64, r75_67, r75_68, r75_69, r75_70, r75_71, r75_74, Option.bind_some, vtl_some, vtl_none, s_within, s_isSet5 h.e h.w, h.e.p, h.e.h, h.od5, h.me4, b2_eq0, ite_not2, nz1, nz0, n1z, n0z, if_true, if_false, fd0, fd1, fd2, fd3, fd4, fd5, fd6, isf]) (fun M1 hs => by simp (disch := omega) only [r172_0, r172_1, r172_2, r172_3, r172_6, r172_7, r172_8, r172_11, r172_12, r172_13, r172_16, r172_17, r172_18, r172_19, r172_20, r172_21, r172_22, r172_24, r172_25, r172_28, r172_29, r172_30, r172_31, r172_33, r172_36, r172_39, r172_41, r172_44, r172_45, r172_46, Option.bind_some, vtl_some, vtl_none, s_isPart hs h.w, s_isHeir hs h.w, s_isSet6 hs h.w, s_isAny, s_isThing, s_isOne, b2_eq0, ite_not2, nz1, nz0, n1z, n0z, if_true, if_false, gd0, gd1, gd2, gd3, gd4, gd5, gd6, hs 1, hs 2, s_frontWrong0 h hs (Or.inr (Or.inr h2)), nzB])
  · exact okF0 h (x := (-1000001)) (k := 0) (by simp (disch := omega) only [r75_0, r75_1, r75_2, r75_3, r75_6, r75_9, r75_10, r75_12, r75_15, r75_16, r75_17, r75_20, r75_23, r75_24, r75_27, r75_28, r75_30, r75_33, r75_34, r75_35, r75_38, r75_39, r75_42, r75_45, r75_46, r75_49, r75_52, r75_53, r75_56, r75_57, r75_60, r75_61, r75_64, r75_67, r75_68, r75_69, r75_70, r75_71, r75_74, Option.bind_some, vtl_some, vtl_none, s_within, s_isSet5 h.e h.w, h.e.p, h.e.h, h.od5, h.me4, b2_eq0, ite_not2, nz1, nz0, n1z, n0z, if_true, if_false, fd0, fd1, fd2, fd3, fd4, fd5, fd6, s_isFront0 h h1]) (fun M1 hs => by simp (disch := omega) only [r172_0, r172_1, r172_2, r172_3, r172_6, r172_7, r172_8, r172_11, r172_12, r172_13, r172_16, r172_17, r172_18, r172_19, r172_20, r172_21, r172_22, r172_24, r172_25, r172_28, r172_29, r172_30, r172_31, r172_33, r172_36, r172_39, r172_41, r172_44, r172_45, r172_46, Option.bind_some, vtl_some, vtl_none, s_isPart hs h.w, s_isHeir hs h.w, s_isSet6 hs h.w, s_isAny, s_isThing, s_isOne, b2_eq0, ite_not2, nz1, nz0, n1z, n0z, if_true, if_false, gd0, gd1, gd2, gd3, gd4, gd5, gd6, hs 1, hs 2, s_frontWrong0 h hs (Or.inl h1), nzB])
end DIVQ
