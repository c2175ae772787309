/-! Acts that change the estate: the class's estate methods, the reference's -/
def ut (t : Nat → Nat) (k v : Nat) : Nat → Nat := fun i => if i = k then v else t i
theorem ut_eq {t : Nat → Nat} {k v : Nat} : ut t k v k = v := if_pos rfl
theorem ut_ne {t : Nat → Nat} {k v i : Nat} (h : i ≠ k) : ut t k v i = t i := if_neg h
theorem mem_bit (t : Nat → Nat) (x i : Nat) : (mem t x).testBit i = true ↔ i < t 1 ∧ th t i = x := memN_bit t x (t 1) i
theorem memN_cg {t t' : Nat → Nat} {x : Nat} : ∀ n, (∀ p, p < n → th t p = th t' p) → memN t x n = memN t' x n := by
  intro n
  induction n with
  | zero => intro _; rfl
  | succ n ih => intro h; rw [memN, memN, ih (fun p hp => h p (by omega)), h n (by omega)]
theorem mem_cg {t t' : Nat → Nat} {x : Nat} (h1 : t 1 = t' 1) (h : ∀ p, p < t 1 → th t p = th t' p) : mem t x = mem t' x := by
  unfold mem
  rw [← h1]
  exact memN_cg _ h
theorem bit_ext {a b : Nat} (h : ∀ i, a.testBit i = true ↔ b.testBit i = true) : a = b := by
  apply Nat.eq_of_testBit_eq
  intro i
  have := h i
  cases q1 : a.testBit i <;> cases q2 : b.testBit i <;> simp_all
theorem or_bit {a p i : Nat} : (a ||| 2 ^ p).testBit i = true ↔ (a.testBit i = true ∨ i = p) := by
  rw [Nat.testBit_or, Bool.or_eq_true, Nat.testBit_two_pow]
  simp only [decide_eq_true_eq]
  exact ⟨fun h => h.imp id Eq.symm, fun h => h.imp id Eq.symm⟩
theorem dif_bit {a p i : Nat} : (dif a (2 ^ p)).testBit i = true ↔ (a.testBit i = true ∧ i ≠ p) := by
  rw [dif_test, Bool.and_eq_true, Nat.testBit_two_pow]
  simp only [Bool.not_eq_true', decide_eq_false_iff_not]
  exact ⟨fun h => ⟨h.1, fun z => h.2 z.symm⟩, fun h => ⟨h.1, fun z => h.2 z.symm⟩⟩
section MUT
variable {L e : Nat} {M : Nat → Nat → Int32} {t : Nat → Nat} {z : Int32} {sp : Nat → Int32}
theorem s_st0 (he : isE e) {p w : Nat} (h : p * 8 + w < 72) (hw1 : w ≠ 1) {v : Int32} : R 22 0 [.ref e, .int (nI p), .int (nI w), .int v] [] (SH L, M) = some (none, (SH L, upd2 (upd2 M (e + 1) (p * 8 + w) v) e 9 (M e 9 + nI 1))) := by
  have e9 : upd2 M (e + 1) (p * 8 + w) v e 9 = M e 9 := upd2_ne (Or.inl (by omega))
  simp (disch := first | exact he | omega) only [r22_0, r22_1, r22_2, r22_5, r22_6, r22_9, r22_10, r22_11, r22_12, r22_15, r22_16, r22_17, r22_18, r22_19, r22_20, r22_21, r22_22, r22_23, r22_24, r22_25, r22_28, r22_29, r22_30, r22_31, r22_32, r22_33, r22_34, r22_35, r22_36, r22_37, r22_40, r22_41, r22_43, r22_44, r22_45, r22_46, r22_47, r22_48, r22_49, r22_50, r22_53, r22_54, r22_55, r22_58, nI_eq', show ¬ w = 1 from hw1, if_false, pk_mul, nI_add, e9]
theorem s_st1 (he : isE e) {p o v : Nat} (h : p < 9) (ho : o < 5) (hv : v < 5) (hm : M (e + 1) (p * 8 + 1) = nI o) : R 22 0 [.ref e, .int (nI p), .int (nI 1), .int (nI v)] [] (SH L, M) = some (none, (SH L, upd2 (upd2 (upd2 (upd2 M (e + 2) o (M (e + 2) o &&& (nI (2 ^ p) ^^^ (-1)))) (e + 2) v (upd2 M (e + 2) o (M (e + 2) o &&& (nI (2 ^ p) ^^^ (-1))) (e + 2) v ||| nI (2 ^ p))) (e + 1) (p * 8 + 1) (nI v)) e 9 (M e 9 + nI 1))) := by
  have e9 : upd2 (upd2 (upd2 M (e + 2) o (M (e + 2) o &&& (nI (2 ^ p) ^^^ (-1)))) (e + 2) v (upd2 M (e + 2) o (M (e + 2) o &&& (nI (2 ^ p) ^^^ (-1))) (e + 2) v ||| nI (2 ^ p))) (e + 1) (p * 8 + 1) (nI v) e 9 = M e 9 := by rw [upd2_ne (Or.inl (by omega)), upd2_ne (Or.inl (by omega)), upd2_ne (Or.inl (by omega))]
  simp (disch := first | exact he | omega) only [r22_0, r22_1, r22_2, r22_5, r22_6, r22_9, r22_10, r22_11, r22_12, r22_15, r22_16, r22_17, r22_18, r22_19, r22_20, r22_21, r22_22, r22_23, r22_24, r22_25, r22_28, r22_29, r22_30, r22_31, r22_32, r22_33, r22_34, r22_35, r22_36, r22_37, r22_40, r22_41, r22_43, r22_44, r22_45, r22_46, r22_47, r22_48, r22_49, r22_50, r22_53, r22_54, r22_55, r22_58, if_true, s_trait he, hm, Option.bind_some, vtl_some, nI_shl1, pk_mul, nI_add, e9]
theorem s_st1' (he : isE e) {p o v : Nat} (h : p < 9) (ho : o < 5) (hv : v < 5) (hm : M (e + 1) (p * 8 + 1) = nI o) : ∃ M', R 22 0 [.ref e, .int (nI p), .int (nI 1), .int (nI v)] [] (SH L, M) = some (none, (SH L, M')) ∧ frc e (e + 4) M M' ∧ (∀ j, j ≠ p * 8 + 1 → M' (e + 1) j = M (e + 1) j) ∧ M' (e + 1) (p * 8 + 1) = nI v ∧ (∀ y, M' (e + 2) y = if y = v then (if v = o then M (e + 2) o &&& (nI (2 ^ p) ^^^ (-1)) else M (e + 2) v) ||| nI (2 ^ p) else if y = o then M (e + 2) o &&& (nI (2 ^ p) ^^^ (-1)) else M (e + 2) y) ∧ (∀ y, M' (e + 3) y = M (e + 3) y) ∧ (∀ y, M' (e + 4) y = M (e + 4) y) ∧ (∀ j, j ≠ 9 → M' e j = M e j) ∧ M' e 9 = M e 9 + nI 1 := by
  refine ⟨_, s_st1 he h ho hv hm, frc_up (frc_up (frc_up (frc_up frc_rf (by omega) (by omega)) (by omega) (by omega)) (by omega) (by omega)) (by omega) (by omega), fun j hj => ?_, ?_, fun y => ?_, fun y => ?_, fun y => ?_, fun j hj => ?_, upd2_eq⟩
  · simp (disch := omega) only [upd2_ne]
  · simp (disch := omega) only [upd2_ne, upd2_eq]
  · rw [upd2_ne (Or.inl (by omega)), upd2_ne (Or.inl (by omega))]
    by_cases x1 : y = v
    · rw [if_pos x1, x1, upd2_eq]
      by_cases x2 : v = o
      · rw [if_pos x2, ← x2, upd2_eq]
      · rw [if_neg x2, upd2_ne (Or.inr x2)]
    · rw [if_neg x1, upd2_ne (Or.inr x1)]
      by_cases x2 : y = o
      · rw [if_pos x2, x2, upd2_eq]
      · rw [if_neg x2, upd2_ne (Or.inr x2)]
  · simp (disch := omega) only [upd2_ne]
  · simp (disch := omega) only [upd2_ne]
  · simp (disch := omega) only [upd2_ne]
theorem s_setTrait (he : isE e) (hE : rE M e t z sp) (hw : wfT t) {p w v : Nat} (hp : p < t 1) (hw8 : w < 8) (hv : w = 1 → v < 5) : ∃ M', R 22 0 [.ref e, .int (nI p), .int (nI w), .int (nI v)] [] (SH L, M) = some (none, (SH L, M')) ∧ frc e (e + 4) M M' ∧ rE M' e (ut t (9 + 8 * p + w) v) z sp ∧ M' e 9 = M e 9 + nI 1 := by
  have hP := hw.2.1
  by_cases h1 : w = 1
  · subst h1
    have ho : t (9 + 8 * p + 1) < 5 := (hw.2.2.2.2.2.1 p (by omega)).2.1
    have hv5 := hv rfl
    refine ⟨_, s_st1 he (show p < 9 by omega) ho hv5 (hE.tr p hp 1 (by omega)), frc_up (frc_up (frc_up (frc_up frc_rf (by omega) (by omega)) (by omega) (by omega)) (by omega) (by omega)) (by omega) (by omega), ⟨?_, ?_, ?_, ?_, ?_, fun q hq u hu => ?_, fun x hx => ?_, fun i hi => ?_, fun i hi => ?_⟩, ?_⟩
    · simp (disch := omega) only [upd2_ne, ut_ne]; exact hE.p
    · simp (disch := omega) only [upd2_ne, ut_ne]; exact hE.k
    · simp (disch := omega) only [upd2_ne, ut_ne]; exact hE.y
    · simp (disch := omega) only [upd2_ne, ut_ne]; exact hE.h
    · simp (disch := omega) only [upd2_ne, ut_ne]; exact hE.zz
    · rw [ut_ne (show 1 ≠ 9 + 8 * p + 1 by omega)] at hq
      by_cases q1 : q * 8 + u = p * 8 + 1
      · rw [upd2_ne (Or.inl (by omega)), q1, upd2_eq, show 9 + 8 * q + u = 9 + 8 * p + 1 by omega, ut_eq]
      · rw [ut_ne (by omega), ← hE.tr q hq u hu]
        simp (disch := omega) only [upd2_ne]
    · have hmm : mem (ut t (9 + 8 * p + 1) v) x = if x = v then (if v = t (9 + 8 * p + 1) then dif (mem t v) (2 ^ p) else mem t v) ||| 2 ^ p else if x = t (9 + 8 * p + 1) then dif (mem t x) (2 ^ p) else mem t x := by
        apply bit_ext
        intro i
        rw [mem_bit, ut_ne (show 1 ≠ 9 + 8 * p + 1 by omega)]
        have hth : th (ut t (9 + 8 * p + 1) v) i = if i = p then v else th t i := by
          show (if 9 + 8 * i + 1 = 9 + 8 * p + 1 then v else t (9 + 8 * i + 1)) = _
          by_cases q : i = p
          · rw [if_pos q, if_pos (by omega)]
          · rw [if_neg q, if_neg (by omega)]
        rw [hth]
        by_cases q : i = p
        · subst q
          rw [if_pos rfl]
          by_cases x1 : x = v
          · rw [if_pos x1, or_bit]
            exact ⟨fun _ => Or.inr rfl, fun _ => ⟨hp, x1.symm⟩⟩
          · rw [if_neg x1]
            by_cases x2 : x = t (9 + 8 * i + 1)
            · rw [if_pos x2, dif_bit]
              exact ⟨fun y => absurd y.2.symm x1, fun y => absurd rfl y.2⟩
            · rw [if_neg x2, mem_bit]
              exact ⟨fun y => absurd y.2.symm x1, fun y => absurd y.2.symm x2⟩
        · rw [if_neg q]
          by_cases x1 : x = v
          · rw [if_pos x1, or_bit]
            by_cases x2 : v = t (9 + 8 * p + 1)
            · rw [if_pos x2, dif_bit, mem_bit, x1]
              exact ⟨fun y => Or.inl ⟨y, q⟩, fun y => (y.resolve_right q).1⟩
            · rw [if_neg x2, mem_bit, x1]
              exact ⟨fun y => Or.inl y, fun y => y.resolve_right q⟩
          · rw [if_neg x1]
            by_cases x2 : x = t (9 + 8 * p + 1)
            · rw [if_pos x2, dif_bit, mem_bit]
              exact ⟨fun y => ⟨y, q⟩, fun y => y.1⟩
            · rw [if_neg x2, mem_bit]
      have n0 : ∀ a b : Nat, nI a ||| nI b = nI (a ||| b) := nI_or
      rw [hmm]
      rw [upd2_ne (Or.inl (by omega)), upd2_ne (Or.inl (by omega))]
      by_cases x1 : x = v
      · rw [if_pos x1, x1, upd2_eq]
        by_cases x2 : v = t (9 + 8 * p + 1)
        · rw [if_pos x2, ← x2, upd2_eq, hE.me v hv5, nI_dif, nI_or]
        · rw [if_neg x2, upd2_ne (Or.inr x2), hE.me v hv5, nI_or]
      · rw [if_neg x1, upd2_ne (Or.inr x1)]
        by_cases x2 : x = t (9 + 8 * p + 1)
        · rw [if_pos x2, ← x2, upd2_eq, hE.me x hx, nI_dif]
        · rw [if_neg x2, upd2_ne (Or.inr x2), hE.me x hx]
    · simp (disch := omega) only [upd2_ne, ut_ne]; exact hE.od i hi
    · simp (disch := omega) only [upd2_ne]; exact hE.so i hi
    · exact upd2_eq
  · refine ⟨_, s_st0 he (show p * 8 + w < 72 by omega) h1, frc_up (frc_up frc_rf (by omega) (by omega)) (by omega) (by omega), ⟨?_, ?_, ?_, ?_, ?_, fun q hq u hu => ?_, fun x hx => ?_, fun i hi => ?_, fun i hi => ?_⟩, ?_⟩
    · simp (disch := omega) only [upd2_ne, ut_ne]; exact hE.p
    · simp (disch := omega) only [upd2_ne, ut_ne]; exact hE.k
    · simp (disch := omega) only [upd2_ne, ut_ne]; exact hE.y
    · simp (disch := omega) only [upd2_ne, ut_ne]; exact hE.h
    · simp (disch := omega) only [upd2_ne, ut_ne]; exact hE.zz
    · rw [ut_ne (show 1 ≠ 9 + 8 * p + w by omega)] at hq
      by_cases q1 : q * 8 + u = p * 8 + w
      · rw [upd2_ne (Or.inl (by omega)), q1, upd2_eq, show 9 + 8 * q + u = 9 + 8 * p + w by omega, ut_eq]
      · rw [ut_ne (by omega), ← hE.tr q hq u hu]
        simp (disch := omega) only [upd2_ne]
    · simp (disch := omega) only [upd2_ne]
      rw [hE.me x hx]
      congr 1
      refine mem_cg (ut_ne (by omega)).symm (fun q hq => ?_)
      show t (9 + 8 * q + 1) = ut t (9 + 8 * p + w) v (9 + 8 * q + 1)
      rw [ut_ne (by omega)]
    · simp (disch := omega) only [upd2_ne, ut_ne]; exact hE.od i hi
    · simp (disch := omega) only [upd2_ne]; exact hE.so i hi
    · exact upd2_eq
/-- a new part -/
def addT (t : Nat → Nat) (k x : Nat) : Nat → Nat := fun i => if i = 1 then t 1 + 1 else if i = 9 + 8 * t 1 + 0 then k else if i = 9 + 8 * t 1 + 1 then x else if i = 9 + 8 * t 1 + 2 then 0 else if i = 9 + 8 * t 1 + 3 then 0 else if 9 + 8 * t 1 + 4 ≤ i ∧ i < 9 + 8 * t 1 + 8 then 10 else t i
theorem addT_1 {k x : Nat} : addT t k x 1 = t 1 + 1 := rfl
theorem addT_k {k x : Nat} : addT t k x (9 + 8 * t 1 + 0) = k := by unfold addT; rw [if_neg (by omega), if_pos rfl]
theorem addT_x {k x : Nat} : addT t k x (9 + 8 * t 1 + 1) = x := by unfold addT; rw [if_neg (by omega), if_neg (by omega), if_pos rfl]
theorem addT_2 {k x : Nat} : addT t k x (9 + 8 * t 1 + 2) = 0 := by unfold addT; rw [if_neg (by omega), if_neg (by omega), if_neg (by omega), if_pos rfl]
theorem addT_3 {k x : Nat} : addT t k x (9 + 8 * t 1 + 3) = 0 := by unfold addT; rw [if_neg (by omega), if_neg (by omega), if_neg (by omega), if_neg (by omega), if_pos rfl]
theorem addT_w {k x i : Nat} (h : 9 + 8 * t 1 + 4 ≤ i) (h2 : i < 9 + 8 * t 1 + 8) : addT t k x i = 10 := by unfold addT; rw [if_neg (by omega), if_neg (by omega), if_neg (by omega), if_neg (by omega), if_neg (by omega), if_pos ⟨h, h2⟩]
theorem addT_o {k x i : Nat} (h1 : i ≠ 1) (h : i < 9 + 8 * t 1 ∨ 9 + 8 * t 1 + 8 ≤ i) : addT t k x i = t i := by unfold addT; rw [if_neg h1, if_neg (by omega), if_neg (by omega), if_neg (by omega), if_neg (by omega), if_neg (by omega)]
theorem addT_mem {k x y : Nat} : mem (addT t k x) y = if y = x then mem t y ||| 2 ^ t 1 else mem t y := by
  apply bit_ext
  intro i
  rw [mem_bit, addT_1]
  by_cases q : i = t 1
  · subst q
    have : th (addT t k x) (t 1) = x := addT_x
    rw [this]
    by_cases h : y = x
    · rw [if_pos h, or_bit]
      exact ⟨fun _ => Or.inr rfl, fun _ => ⟨by omega, h.symm⟩⟩
    · rw [if_neg h, mem_bit]
      exact ⟨fun z => absurd z.2.symm h, fun z => absurd z.1 (Nat.lt_irrefl _)⟩
  · have e : i < t 1 + 1 → th (addT t k x) i = th t i := fun hi => addT_o (by omega) (by omega)
    by_cases h : y = x
    · rw [if_pos h, or_bit, mem_bit]
      exact ⟨fun z => Or.inl ⟨by omega, by rw [← e z.1]; exact z.2⟩, fun z => by
        obtain ⟨z1, z2⟩ := z.resolve_right q
        exact ⟨by omega, by rw [e (by omega)]; exact z2⟩⟩
    · rw [if_neg h, mem_bit]
      exact ⟨fun z => ⟨by omega, by rw [← e z.1]; exact z.2⟩, fun z => ⟨by omega, by rw [e (by omega)]; exact z.2⟩⟩
theorem addT_wf (hw : wfT t) {k x : Nat} (hP : t 1 < 9) (hk : k < 7) (hx : x < 5) : wfT (addT t k x) := by
  obtain ⟨a, b, c1, c2, d, f, g⟩ := hw
  refine ⟨by rw [addT_o (by omega) (by omega)]; exact a, by rw [addT_1]; omega, by rw [addT_o (by omega) (by omega)]; exact c1, by rw [addT_o (by omega) (by omega)]; exact c2, by rw [addT_o (by omega) (by omega)]; exact d, fun p hp => ?_, fun i hi => by rw [addT_o (by omega) (by omega)]; exact g i hi⟩
  by_cases q : p = t 1
  · subst q
    exact ⟨by show addT t k x (9 + 8 * t 1 + 0) < 7; rw [addT_k]; exact hk, by show addT t k x (9 + 8 * t 1 + 1) < 5; rw [addT_x]; exact hx, by rw [addT_2]; omega, by rw [addT_3]; omega, fun h hh => by show addT t k x (9 + 8 * t 1 + (4 + h)) ≤ 99; rw [addT_w (by omega) (by omega)]; omega⟩
  · obtain ⟨f1, f2, f3, f4, f5⟩ := f p hp
    exact ⟨by show addT t k x (9 + 8 * p + 0) < 7; rw [addT_o (by omega) (by omega)]; exact f1, by show addT t k x (9 + 8 * p + 1) < 5; rw [addT_o (by omega) (by omega)]; exact f2, by rw [addT_o (by omega) (by omega)]; exact f3, by rw [addT_o (by omega) (by omega)]; exact f4, fun h hh => by show addT t k x (9 + 8 * p + (4 + h)) ≤ 99; rw [addT_o (by omega) (by omega)]; exact f5 h hh⟩
theorem addT_O (hO : wfO t) (hw : wfT t) {k x : Nat} : wfO (addT t k x) := by
  have hH := hw.2.2.2.1
  have e2 : addT t k x 2 = t 2 := addT_o (by omega) (by omega)
  have eo : ∀ i, i < 4 → addT t k x (5 + i) = t (5 + i) := fun i hi => addT_o (by omega) (by omega)
  refine ⟨fun i hi => ?_, fun i j hi hj h => ?_⟩
  · rw [e2] at hi ⊢
    rw [eo i (by omega)]
    exact hO.1 i hi
  · rw [e2] at hi hj
    rw [eo i (by omega), eo j (by omega)] at h
    exact hO.2 i j hi hj h
theorem s_ap_l (he : isE e) {p : Nat} (hP : p < 9) {M0 : Nat → Nat → Int32} {v1 v2 : Value} : ∀ (k n : Nat) (M : Nat → Nat → Int32), n + k = 8 → (∀ b j, b ≠ e + 1 → M b j = M0 b j) → (∀ j, j < p * 8 ∨ p * 8 + 8 ≤ j → M (e + 1) j = M0 (e + 1) j) → (∀ u, u < n → M (e + 1) (p * 8 + u) = nI (if u < 4 then 0 else 10)) → ∃ M', R 23 18 [.ref e, v1, v2, .int (nI p), .int (nI n)] [] (SH L, M) = R 23 55 [.ref e, v1, v2, .int (nI p), .int (nI 8)] [] (SH L, M') ∧ (∀ b j, b ≠ e + 1 → M' b j = M0 b j) ∧ (∀ j, j < p * 8 ∨ p * 8 + 8 ≤ j → M' (e + 1) j = M0 (e + 1) j) ∧ (∀ u, u < 8 → M' (e + 1) (p * 8 + u) = nI (if u < 4 then 0 else 10)) := by
  intro k
  induction k with
  | zero =>
    intro n M hn g1 g2 g3
    refine ⟨M, ?_, g1, g2, fun u hu => g3 u (by omega)⟩
    rw [r23_18]
    simp (disch := omega) only [r23_20, r23_22, nI_le'', show 8 ≤ n from by omega, if_true]
    rw [show n = 8 by omega]
  | succ k ih =>
    intro n M hn g1 g2 g3
    rw [r23_18]
    simp (disch := first | exact he | omega) only [r23_20, r23_22, r23_25, r23_26, r23_29, r23_30, r23_32, r23_33, r23_35, r23_36, r23_38, r23_39, r23_42, r23_43, r23_46, nI_le'', show ¬ 8 ≤ n from by omega, if_false, pk_mul, nI_add, mg_R, mg_n]
    simp (disch := first | exact he | omega) only [r23_48, r23_49, r23_52, nI_add]
    refine ih (n + 1) _ (by omega) (fun b j hb => by rw [upd2_ne (Or.inl hb)]; exact g1 b j hb) (fun j hj => by rw [upd2_ne (Or.inr (by omega))]; exact g2 j hj) (fun u hu => ?_)
    by_cases q : u = n
    · subst q
      rw [upd2_eq]
      congr 1
      by_cases q4 : u < 4
      · rw [if_pos q4, if_neg (by omega)]
      · rw [if_neg q4, if_pos (by omega)]
    · rw [upd2_ne (Or.inr (by omega))]; exact g3 u (by omega)
theorem s_addPart (he : isE e) (hE : rE M e t z sp) (hw : wfT t) {k x : Nat} (hP : t 1 < 9) (hx : x < 5) : ∃ M', R 23 0 [.ref e, .int (nI k), .int (nI x), .null, .null] [] (SH L, M) = some (some (.int (nI (t 1))), (SH L, M')) ∧ frc e (e + 4) M M' ∧ rE M' e (addT t k x) z sp ∧ M' e 9 = M e 9 + nI 2 := by
  obtain ⟨M8, e8, h1, h2, g3⟩ := s_ap_l (L := L) he hP (v1 := .int (nI k)) (v2 := .int (nI x)) 8 0 (upd2 M e 4 (nI (t 1 + 1))) (by omega) (fun _ _ _ => rfl) (fun _ _ => rfl) (fun u hu => absurd hu (Nat.not_lt_zero _))
  have f8 : frc e (e + 4) M M8 := fun b hb => by
    funext j
    rw [h1 b j (by omega), upd2_ne (Or.inl (by omega))]
  have g1 : ∀ b j, b ≠ e + 1 → ¬ (b = e ∧ j = 4) → M8 b j = M b j := fun b j q1 q2 => by
    rw [h1 b j q1, upd2_ne (by omega)]
  have g2 : ∀ j, j < t 1 * 8 ∨ t 1 * 8 + 8 ≤ j → M8 (e + 1) j = M (e + 1) j := fun j h => by
    rw [h2 j h, upd2_ne (Or.inl (by omega))]
  have g4 : M8 e 4 = nI (t 1 + 1) := by rw [h1 e 4 (by omega), upd2_eq]
  have b0 := s_st0 (L := L) (M := M8) he (p := t 1) (w := 0) (v := nI k) (by omega) (by omega)
  have i1 : upd2 (upd2 M8 (e + 1) (t 1 * 8 + 0) (nI k)) e 9 (M8 e 9 + nI 1) (e + 1) (t 1 * 8 + 1) = nI 0 := by
    rw [upd2_ne (Or.inl (by omega)), upd2_ne (Or.inr (by omega))]
    exact g3 1 (by omega)
  obtain ⟨M9, b1, f9, j1, j2, j3, j4, j5, j6, j7⟩ := s_st1' (L := L) (M := upd2 (upd2 M8 (e + 1) (t 1 * 8 + 0) (nI k)) e 9 (M8 e 9 + nI 1)) he (p := t 1) (o := 0) (v := x) (by omega) (by omega) hx i1
  have m0 : ∀ y, upd2 (upd2 M8 (e + 1) (t 1 * 8 + 0) (nI k)) e 9 (M8 e 9 + nI 1) (e + 2) y = M (e + 2) y := fun y => by
    rw [upd2_ne (Or.inl (by omega)), upd2_ne (Or.inl (by omega)), g1 _ _ (by omega) (by omega)]
  have d0 : dif (mem t 0) (2 ^ t 1) = mem t 0 := by
    apply bit_ext
    intro i
    rw [dif_bit, mem_bit]
    exact ⟨fun y => y.1, fun y => ⟨y, by omega⟩⟩
  refine ⟨M9, ?_, frc_tr (frc_up (frc_up f8 (by omega) (by omega)) (by omega) (by omega)) f9, ⟨?_, ?_, ?_, ?_, ?_, fun q hq u hu => ?_, fun y hy => ?_, fun i hi => ?_, fun i hi => ?_⟩, ?_⟩
  · simp (disch := first | exact he | omega) only [r23_0, r23_1, r23_4, r23_5, r23_6, r23_7, r23_10, r23_11, r23_12, r23_15, r23_16, hE.p, nI_add]
    rw [e8]
    simp (disch := first | exact he | omega) only [r23_55, r23_56, r23_57, r23_58, r23_59, r23_62, r23_63, r23_64, r23_65, r23_66, r23_69, r23_70, b0, b1, Option.bind_some, vtl_none]
  · rw [addT_1, j6 _ (by omega)]; simp (disch := omega) only [upd2_ne]; exact g4
  · rw [addT_o (by omega) (by omega), j6 _ (by omega)]; simp (disch := omega) only [upd2_ne]; rw [g1 _ _ (by omega) (by omega)]; exact hE.k
  · rw [addT_o (by omega) (by omega), j6 _ (by omega)]; simp (disch := omega) only [upd2_ne]; rw [g1 _ _ (by omega) (by omega)]; exact hE.y
  · rw [addT_o (by omega) (by omega), j6 _ (by omega)]; simp (disch := omega) only [upd2_ne]; rw [g1 _ _ (by omega) (by omega)]; exact hE.h
  · rw [j6 _ (by omega)]; simp (disch := omega) only [upd2_ne]; rw [g1 _ _ (by omega) (by omega)]; exact hE.zz
  · rw [addT_1] at hq
    by_cases q1 : q = t 1
    · subst q1
      have : u = 0 ∨ u = 1 ∨ u = 2 ∨ u = 3 ∨ 4 ≤ u := by omega
      rcases this with rfl | rfl | rfl | rfl | h4
      · rw [j1 _ (by omega)]; simp (disch := omega) only [upd2_ne, upd2_eq]; rw [addT_k]
      · rw [j2, addT_x]
      · rw [j1 _ (by omega)]; simp (disch := omega) only [upd2_ne]; rw [g3 2 (by omega), addT_2]; rfl
      · rw [j1 _ (by omega)]; simp (disch := omega) only [upd2_ne]; rw [g3 3 (by omega), addT_3]; rfl
      · rw [j1 _ (by omega)]; simp (disch := omega) only [upd2_ne]; rw [g3 u hu, addT_w (by omega) (by omega), if_neg (by omega)]
    · rw [addT_o (by omega) (by omega), j1 _ (by omega)]
      simp (disch := omega) only [upd2_ne]
      rw [g2 _ (by omega)]
      exact hE.tr q (by omega) u hu
  · rw [addT_mem, j3, m0, m0, m0]
    by_cases x1 : y = x
    · rw [if_pos x1, if_pos x1, x1]
      by_cases x2 : x = 0
      · rw [if_pos x2, hE.me 0 (by omega), nI_dif, d0, nI_or, x2]
      · rw [if_neg x2, hE.me x hx, nI_or]
    · rw [if_neg x1, if_neg x1]
      by_cases x2 : y = 0
      · rw [if_pos x2, hE.me 0 (by omega), nI_dif, d0, x2]
      · rw [if_neg x2, hE.me y hy]
  · rw [addT_o (by omega) (by omega), j4]; simp (disch := omega) only [upd2_ne]; rw [g1 _ _ (by omega) (by omega)]; exact hE.od i hi
  · rw [j5]; simp (disch := omega) only [upd2_ne]; rw [g1 _ _ (by omega) (by omega)]; exact hE.so i hi
  · rw [j7, upd2_eq, g1 _ _ (by omega) (by omega), Int32.add_assoc, nI_add]
theorem s_setYear (he : isE e) (hE : rE M e t z sp) {v : Nat} : ∃ M', R 26 0 [.ref e, .int (nI v)] [] (SH L, M) = some (none, (SH L, M')) ∧ frc e e M M' ∧ rE M' e (ut t 0 v) z sp ∧ M' e 9 = M e 9 + nI 1 := by
  have e9 : upd2 M e 6 (nI v) e 9 = M e 9 := upd2_ne (Or.inr (by omega))
  refine ⟨upd2 (upd2 M e 6 (nI v)) e 9 (M e 9 + nI 1), ?_, frc_up (frc_up frc_rf (by omega) (by omega)) (by omega) (by omega), ⟨?_, ?_, ?_, ?_, ?_, fun q hq u hu => ?_, fun x hx => ?_, fun i hi => ?_, fun i hi => ?_⟩, upd2_eq⟩
  · simp (disch := first | exact he | omega) only [r26_0, r26_1, r26_2, r26_5, r26_6, r26_7, r26_10, r26_11, r26_12, r26_15, e9]
  · simp (disch := omega) only [upd2_ne, ut_ne]; exact hE.p
  · simp (disch := omega) only [upd2_ne, ut_ne]; exact hE.k
  · rw [upd2_ne (Or.inr (by omega)), upd2_eq, ut_eq]
  · simp (disch := omega) only [upd2_ne, ut_ne]; exact hE.h
  · simp (disch := omega) only [upd2_ne]; exact hE.zz
  · rw [ut_ne (by omega)] at hq; simp (disch := omega) only [upd2_ne, ut_ne]; exact hE.tr q hq u hu
  · simp (disch := omega) only [upd2_ne]; rw [hE.me x hx]; congr 1
    exact mem_cg (ut_ne (by omega)).symm (fun q hq => (ut_ne (k := 0) (v := v) (i := 9 + 8 * q + 1) (by omega)).symm)
  · simp (disch := omega) only [upd2_ne, ut_ne]; exact hE.od i hi
  · simp (disch := omega) only [upd2_ne]; exact hE.so i hi
theorem s_setKnows (he : isE e) (hE : rE M e t z sp) {h : Nat} (hh : h < 4) {b : Bool} : ∃ M', R 24 0 [.ref e, .int (nI h), .int (nI (if b = true then 1 else 0))] [] (SH L, M) = some (none, (SH L, M')) ∧ frc e e M M' ∧ rE M' e (ut t 3 (if b = true then t 3 ||| 2 ^ h else dif (t 3) (2 ^ h))) z sp ∧ M' e 9 = M e 9 + nI 1 := by
  have e9 : ∀ x, upd2 M e 5 x e 9 = M e 9 := fun x => upd2_ne (Or.inr (by omega))
  refine ⟨upd2 (upd2 M e 5 (nI (if b = true then t 3 ||| 2 ^ h else dif (t 3) (2 ^ h)))) e 9 (M e 9 + nI 1), ?_, frc_up (frc_up frc_rf (by omega) (by omega)) (by omega) (by omega), ⟨?_, ?_, ?_, ?_, ?_, fun q hq u hu => ?_, fun x hx => ?_, fun i hi => ?_, fun i hi => ?_⟩, upd2_eq⟩
  · cases b with
    | true => simp (disch := first | exact he | omega) only [r24_0, r24_1, r24_2, r24_5, r24_6, r24_9, r24_10, r24_11, r24_12, r24_13, r24_16, r24_17, r24_20, r24_21, r24_22, r24_23, r24_24, r24_25, r24_26, r24_29, r24_30, r24_31, r24_34, r24_35, r24_36, r24_39, if_true, nz1, if_false, hE.k, nI_shl1, nI_or, e9]
    | false => simp (disch := first | exact he | omega) only [r24_0, r24_1, r24_2, r24_5, r24_6, r24_9, r24_10, r24_11, r24_12, r24_13, r24_16, r24_17, r24_20, r24_21, r24_22, r24_23, r24_24, r24_25, r24_26, r24_29, r24_30, r24_31, r24_34, r24_35, r24_36, r24_39, Bool.false_eq_true, if_true, nz0, if_false, hE.k, nI_shl1, nI_dif, e9]
  · simp (disch := omega) only [upd2_ne, ut_ne]; exact hE.p
  · rw [upd2_ne (Or.inr (by omega)), upd2_eq, ut_eq]
  · simp (disch := omega) only [upd2_ne, ut_ne]; exact hE.y
  · simp (disch := omega) only [upd2_ne, ut_ne]; exact hE.h
  · simp (disch := omega) only [upd2_ne]; exact hE.zz
  · rw [ut_ne (by omega)] at hq; simp (disch := omega) only [upd2_ne, ut_ne]; exact hE.tr q hq u hu
  · simp (disch := omega) only [upd2_ne]; rw [hE.me x hx]; congr 1
    exact mem_cg (ut_ne (by omega)).symm (fun q hq => (ut_ne (k := 3) (i := 9 + 8 * q + 1) (by omega)).symm)
  · simp (disch := omega) only [upd2_ne, ut_ne]; exact hE.od i hi
  · simp (disch := omega) only [upd2_ne]; exact hE.so i hi
/-- so many heirs, in the first order -/
def heT (t : Nat → Nat) (n : Nat) : Nat → Nat := fun i => if i = 2 then n else if 5 ≤ i ∧ i < 9 then i - 5 else t i
theorem heT_2 {n : Nat} : heT t n 2 = n := rfl
theorem heT_o {n i : Nat} (h : i < 4) : heT t n (5 + i) = i := by unfold heT; rw [if_neg (by omega), if_pos (by omega), Nat.add_sub_cancel_left]
theorem heT_n {n i : Nat} (h : i ≠ 2) (h2 : i < 5 ∨ 9 ≤ i) : heT t n i = t i := by unfold heT; rw [if_neg h, if_neg (by omega)]
theorem s_setHeirs (he : isE e) (hE : rE M e t z sp) {n : Nat} : ∃ M', R 25 0 [.ref e, .int (nI n), .null] [] (SH L, M) = some (none, (SH L, M')) ∧ frc e (e + 4) M M' ∧ rE M' e (heT t n) z sp ∧ M' e 9 = M e 9 + nI 1 := by
  have e9 : upd2 (upd2 (upd2 (upd2 (upd2 M e 7 (nI n)) (e + 3) 0 (nI 0)) (e + 3) 1 (nI 1)) (e + 3) 2 (nI 2)) (e + 3) 3 (nI 3) e 9 = M e 9 := by simp (disch := omega) only [upd2_ne]
  refine ⟨upd2 (upd2 (upd2 (upd2 (upd2 (upd2 M e 7 (nI n)) (e + 3) 0 (nI 0)) (e + 3) 1 (nI 1)) (e + 3) 2 (nI 2)) (e + 3) 3 (nI 3)) e 9 (M e 9 + nI 1), ?_, frc_up (frc_up (frc_up (frc_up (frc_up (frc_up frc_rf (by omega) (by omega)) (by omega) (by omega)) (by omega) (by omega)) (by omega) (by omega)) (by omega) (by omega)) (by omega) (by omega), ⟨?_, ?_, ?_, ?_, ?_, fun q hq u hu => ?_, fun x hx => ?_, fun i hi => ?_, fun i hi => ?_⟩, upd2_eq⟩
  · simp (disch := first | exact he | omega) only [r25_0, r25_1, r25_2, r25_5, r25_6, r25_7, r25_8, r25_9, r25_12, r25_13, r25_16, r25_17, r25_18, r25_19, r25_22, r25_25, r25_26, r25_27, r25_30, r25_31, r25_32, r25_35, nI_le'', nI_add, Nat.reduceAdd, Nat.reduceLeDiff, if_true, if_false, e9]
  · rw [heT_n (by omega) (by omega)]; simp (disch := omega) only [upd2_ne]; exact hE.p
  · rw [heT_n (by omega) (by omega)]; simp (disch := omega) only [upd2_ne]; exact hE.k
  · rw [heT_n (by omega) (by omega)]; simp (disch := omega) only [upd2_ne]; exact hE.y
  · rw [heT_2]; simp (disch := omega) only [upd2_ne, upd2_eq]
  · simp (disch := omega) only [upd2_ne]; exact hE.zz
  · rw [heT_n (by omega) (by omega)] at hq; rw [heT_n (by omega) (by omega)]; simp (disch := omega) only [upd2_ne]; exact hE.tr q hq u hu
  · simp (disch := omega) only [upd2_ne]; rw [hE.me x hx]; congr 1
    exact mem_cg (heT_n (by omega) (by omega)).symm (fun q hq => (heT_n (n := n) (i := 9 + 8 * q + 1) (by omega) (by omega)).symm)
  · rw [heT_o hi]
    have : i = 0 ∨ i = 1 ∨ i = 2 ∨ i = 3 := by omega
    rcases this with rfl | rfl | rfl | rfl <;> simp (disch := omega) only [upd2_ne, upd2_eq]
  · simp (disch := omega) only [upd2_ne]; exact hE.so i hi
/-- the number drawn -/
def zN (z : Int32) : Int32 := z * nI 1103515245 + nI 12345
def dwN (z : Int32) : Nat := (zN z).toBitVec.toNat / 256
theorem dwN_lt (z : Int32) : dwN z < 2 ^ 24 := by
  unfold dwN
  have := (zN z).toBitVec.isLt
  omega
theorem ush8 (x : Int32) : (x.toUInt32 >>> ((nI 8).toUInt32 &&& Int32.toUInt32 31)).toInt32 = nI (x.toBitVec.toNat / 256) := by
  apply Int32.toBitVec_inj.mp
  have h := ush_ok 8 (by omega)
  apply BitVec.eq_of_toNat_eq
  have := pk_ushr x (nI 8) 8 h
  have h2 := x.toBitVec.isLt
  rw [pk_tn (by omega)]
  rw [this]
theorem s_draw5 (he : isE e) (hE : rE M e t z sp) : ∃ M', R 27 0 [.ref e] [] (SH L, M) = some (some (.int (nI (dwN z))), (SH L, M')) ∧ frc e e M M' ∧ rE M' e t (zN z) sp ∧ M' e 9 = M e 9 := by
  refine ⟨upd2 M e 8 (zN z), ?_, frc_up frc_rf (by omega) (by omega), ⟨?_, ?_, ?_, ?_, ?_, fun q hq u hu => ?_, fun x hx => ?_, fun i hi => ?_, fun i hi => ?_⟩, upd2_ne (Or.inr (by omega))⟩
  · have e8 : upd2 M e 8 (z * nI 1103515245 + nI 12345) e 8 = zN z := upd2_eq
    simp (disch := first | exact he | omega) only [r27_0, r27_1, r27_2, r27_5, r27_7, r27_8, r27_11, r27_12, r27_15, r27_16, r27_19, r27_21, r27_22, hE.zz, e8, ush8]
    rfl
  · simp (disch := omega) only [upd2_ne]; exact hE.p
  · simp (disch := omega) only [upd2_ne]; exact hE.k
  · simp (disch := omega) only [upd2_ne]; exact hE.y
  · simp (disch := omega) only [upd2_ne]; exact hE.h
  · exact upd2_eq
  · simp (disch := omega) only [upd2_ne]; exact hE.tr q hq u hu
  · simp (disch := omega) only [upd2_ne]; exact hE.me x hx
  · simp (disch := omega) only [upd2_ne]; exact hE.od i hi
  · simp (disch := omega) only [upd2_ne]; exact hE.so i hi
end MUT
section MUTQ
variable {L : Nat} {M : Nat → Nat → Int32} {t : Nat → Nat} {z : Int32} {sp : Nat → Int32}
theorem rQ_up (h : rQ M 37 t z sp) {k v : Nat} (hk : k < 81) (h4 : k ≠ 4) : rQ (upd2 M 37 k (nI v)) 37 (ut t k v) z sp := by
  obtain ⟨a, b, c⟩ := h
  refine ⟨fun i hi hi4 => ?_, by rw [upd2_ne (Or.inr (by omega))]; exact b, fun i hi => by rw [upd2_ne (Or.inr (by omega))]; exact c i hi⟩
  by_cases q : i = k
  · subst q; rw [upd2_eq, ut_eq]
  · rw [upd2_ne (Or.inr q), ut_ne q]; exact a i hi hi4
theorem rQ_cg {t' : Nat → Nat} (h : rQ M 37 t z sp) (ht : ∀ k, k < 81 → k ≠ 4 → t k = t' k) : rQ M 37 t' z sp := ⟨fun k h1 h2 => by rw [← ht k h1 h2]; exact h.1 k h1 h2, h.2.1, h.2.2⟩
theorem q_newPart (h : rQ M 37 t z sp) {k x : Nat} (hP : t 1 < 9) : ∃ M', R 138 0 [.ref 36, .int (nI k), .int (nI x), .null, .null] [] (SH L, M) = some (some (.int (nI (t 1))), (SH L, M')) ∧ frc 37 37 M M' ∧ rQ M' 37 (addT t k x) z sp := by
  have hs := h.1
  have ev : ∀ a b c d f g i j, upd2 (upd2 (upd2 (upd2 (upd2 (upd2 (upd2 (upd2 M 37 (9 + 8 * t 1 + 0) a) 37 (9 + 8 * t 1 + 1) b) 37 (9 + 8 * t 1 + 2) c) 37 (9 + 8 * t 1 + 3) d) 37 (9 + 8 * t 1 + 4) f) 37 (9 + 8 * t 1 + 5) g) 37 (9 + 8 * t 1 + 6) i) 37 (9 + 8 * t 1 + 7) j 37 1 = nI (t 1) := fun a b c d f g i j => by
    simp (disch := omega) only [upd2_ne]
    exact hs 1 (by omega) (by omega)
  refine ⟨_, ?_, ?_, rQ_cg (t := ut (ut (ut (ut (ut (ut (ut (ut (ut t (9 + 8 * t 1 + 0) k) (9 + 8 * t 1 + 1) x) (9 + 8 * t 1 + 2) 0) (9 + 8 * t 1 + 3) 0) (9 + 8 * t 1 + 4) 10) (9 + 8 * t 1 + 5) 10) (9 + 8 * t 1 + 6) 10) (9 + 8 * t 1 + 7) 10) 1 (t 1 + 1)) (rQ_up (rQ_up (rQ_up (rQ_up (rQ_up (rQ_up (rQ_up (rQ_up (rQ_up h (by omega) (by omega)) (by omega) (by omega)) (by omega) (by omega)) (by omega) (by omega)) (by omega) (by omega)) (by omega) (by omega)) (by omega) (by omega)) (by omega) (by omega)) (by omega) (by omega)) (fun i hi h4 => ?_)⟩
  · simp (disch := omega) only [r138_0, r138_1, r138_4, r138_5, r138_6, r138_7, r138_8, r138_11, r138_12, r138_13, r138_16, r138_17, r138_18, r138_19, r138_22, r138_23, r138_24, r138_27, r138_28, r138_29, r138_30, r138_33, r138_34, r138_35, r138_38, r138_39, r138_40, r138_41, r138_44, r138_45, r138_46, r138_49, r138_50, r138_51, r138_52, r138_54, r138_56, r138_57, r138_60, r138_61, r138_64, r138_65, r138_66, r138_68, r138_69, r138_72, r138_74, r138_75, r138_78, r138_81, r138_82, r138_85, r138_86, r138_87, r138_88, r138_89, r138_90, r138_91, r138_92, hs 1, s_at, Option.bind_some, vtl_some, nI_le'', nI_add, Nat.reduceAdd, Nat.reduceLeDiff, if_true, if_false, ev]
  · exact frc_up (frc_up (frc_up (frc_up (frc_up (frc_up (frc_up (frc_up (frc_up frc_rf (by omega) (by omega)) (by omega) (by omega)) (by omega) (by omega)) (by omega) (by omega)) (by omega) (by omega)) (by omega) (by omega)) (by omega) (by omega)) (by omega) (by omega)) (by omega) (by omega)
  · by_cases q1 : i = 1
    · subst q1; rw [ut_eq, addT_1]
    · by_cases q2 : i < 9 + 8 * t 1 ∨ 9 + 8 * t 1 + 8 ≤ i
      · rw [addT_o q1 q2]
        simp (disch := omega) only [ut_ne]
      · have : i = 9 + 8 * t 1 + 0 ∨ i = 9 + 8 * t 1 + 1 ∨ i = 9 + 8 * t 1 + 2 ∨ i = 9 + 8 * t 1 + 3 ∨ i = 9 + 8 * t 1 + 4 ∨ i = 9 + 8 * t 1 + 5 ∨ i = 9 + 8 * t 1 + 6 ∨ i = 9 + 8 * t 1 + 7 := by omega
        rcases this with rfl | rfl | rfl | rfl | rfl | rfl | rfl | rfl
        · rw [addT_k]; simp (disch := omega) only [ut_ne, ut_eq]
        · rw [addT_x]; simp (disch := omega) only [ut_ne, ut_eq]
        · rw [addT_2]; simp (disch := omega) only [ut_ne, ut_eq]
        · rw [addT_3]; simp (disch := omega) only [ut_ne, ut_eq]
        · rw [addT_w (by omega) (by omega)]; simp (disch := omega) only [ut_ne, ut_eq]
        · rw [addT_w (by omega) (by omega)]; simp (disch := omega) only [ut_ne, ut_eq]
        · rw [addT_w (by omega) (by omega)]; simp (disch := omega) only [ut_ne, ut_eq]
        · rw [addT_w (by omega) (by omega)]; simp (disch := omega) only [ut_ne, ut_eq]
theorem q_fo {i : Nat} (hi : i < 4) {M : Nat → Nat → Int32} : R 122 2 [.ref 36, .int (nI i)] [] (SH L, M) = R 122 2 [.ref 36, .int (nI (i + 1))] [] (SH L, upd2 M 37 (5 + i) (nI i)) := by
  rw [r122_2]
  simp (disch := omega) only [r122_3, r122_4, r122_7, r122_8, r122_11, r122_12, r122_13, r122_14, r122_15, r122_16, r122_19, nI_le'', show ¬ 4 ≤ i from by omega, if_false, nI_add]
theorem q_firstOrder (h : rQ M 37 t z sp) : ∃ M', R 122 0 [.ref 36, .null] [] (SH L, M) = some (none, (SH L, M')) ∧ frc 37 37 M M' ∧ rQ M' 37 (ut (ut (ut (ut t 5 0) 6 1) 7 2) 8 3) z sp := by
  refine ⟨_, ?_, ?_, rQ_up (rQ_up (rQ_up (rQ_up h (by omega) (by omega)) (by omega) (by omega)) (by omega) (by omega)) (by omega) (by omega)⟩
  · rw [r122_0, r122_1, q_fo (by omega), q_fo (by omega), q_fo (by omega), q_fo (by omega), r122_2]
    simp (disch := omega) only [r122_3, r122_4, r122_7, r122_8, r122_11, r122_12, r122_13, r122_14, r122_15, r122_22, nI_le'', show 4 ≤ 0 + 1 + 1 + 1 + 1 from by omega, if_true]
  · exact frc_up (frc_up (frc_up (frc_up frc_rf (by omega) (by omega)) (by omega) (by omega)) (by omega) (by omega)) (by omega) (by omega)
theorem q_draw (h : rQ M 37 t z sp) : ∃ M', R 133 0 [.ref 36] [] (SH L, M) = some (some (.int (nI (dwN z))), (SH L, M')) ∧ frc 37 37 M M' ∧ rQ M' 37 t (zN z) sp := by
  refine ⟨upd2 M 37 4 (zN z), ?_, frc_up frc_rf (by omega) (by omega), fun i hi h4 => by rw [upd2_ne (Or.inr h4)]; exact h.1 i hi h4, upd2_eq, fun i hi => by rw [upd2_ne (Or.inr (by omega))]; exact h.2.2 i hi⟩
  have e4 : M 37 4 = z := h.2.1
  have e8 : upd2 M 37 4 (z * nI 1103515245 + nI 12345) 37 4 = zN z := upd2_eq
  simp (disch := omega) only [r133_0, r133_1, r133_4, r133_5, r133_6, r133_9, r133_10, r133_11, r133_13, r133_14, r133_17, r133_18, r133_19, r133_20, r133_23, r133_24, r133_25, r133_27, r133_28, e4, e8, ush8]
  rfl
end MUTQ
