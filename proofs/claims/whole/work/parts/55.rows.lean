/-! Rows of parts that join -/
abbrev jn (t : Nat → Nat) (a b : Nat) : Prop := th t a = th t b ∧ t (9 + 8 * a + 3) = t (9 + 8 * b + 2)
def sm (f : Nat → Nat) : Nat → Nat
  | 0 => 0
  | n + 1 => sm f n + f n
theorem dif_lt {s p : Nat} (h : s.testBit p = true) : dif s (2 ^ p) < s := by
  rcases Nat.lt_or_ge (dif s (2 ^ p)) s with q | q
  · exact q
  · have e : dif s (2 ^ p) = s := Nat.le_antisymm (dif_le _ _) q
    have := dif_test s (2 ^ p) p
    rw [e, h, Nat.testBit_two_pow_self] at this
    cases this
def wyr (t : Nat → Nat) (P s p : Nat) : Nat :=
  if h : s.testBit p = true then
    (if dif s (2 ^ p) = 0 then 1 else sm (fun q => if (dif s (2 ^ p)).testBit q = true ∧ jn t p q then wyr t P (dif s (2 ^ p)) q else 0) P)
  else 0
termination_by s
decreasing_by exact dif_lt h
theorem wyr_out {t : Nat → Nat} {P s p : Nat} (h : ¬ s.testBit p = true) : wyr t P s p = 0 := by
  rw [wyr, dif_neg h]
theorem wyr_in {t : Nat → Nat} {P s p : Nat} (h : s.testBit p = true) : wyr t P s p = (if dif s (2 ^ p) = 0 then 1 else sm (fun q => if (dif s (2 ^ p)).testBit q = true ∧ jn t p q then wyr t P (dif s (2 ^ p)) q else 0) P) := by
  rw [wyr, dif_pos h]
theorem sm_le {f : Nat → Nat} {b : Nat} : ∀ n, (∀ q, q < n → f q ≤ b) → sm f n ≤ n * b := by
  intro n
  induction n with
  | zero => intro _; exact Nat.zero_le _
  | succ n ih =>
    intro h
    have := ih (fun q hq => h q (by omega))
    have := h n (by omega)
    rw [sm, Nat.succ_mul]
    omega
theorem sm_pos {f : Nat → Nat} : ∀ n, 0 < sm f n → ∃ q, q < n ∧ 0 < f q := by
  intro n
  induction n with
  | zero => intro h; exact absurd h (Nat.lt_irrefl _)
  | succ n ih =>
    intro h
    rw [sm] at h
    rcases Nat.eq_zero_or_pos (f n) with q | q
    · obtain ⟨x, hx, h2⟩ := ih (by omega)
      exact ⟨x, by omega, h2⟩
    · exact ⟨n, by omega, q⟩
theorem sm_0 {f : Nat → Nat} : ∀ n, sm f n = 0 → ∀ q, q < n → f q = 0 := by
  intro n
  induction n with
  | zero => intro _ q hq; exact absurd hq (Nat.not_lt_zero _)
  | succ n ih =>
    intro h q hq
    rw [sm] at h
    rcases Nat.lt_or_ge q n with y | y
    · exact ih (by omega) q y
    · rw [show q = n by omega]; omega
theorem pop_dif' : ∀ s : Fin 512, ∀ p : Fin 9, s.val.testBit p.val = true → pop (dif s.val (2 ^ p.val)) + 1 = pop s.val := by decide +kernel
theorem pop_dif {s p : Nat} (hs : s < 512) (hp : p < 9) (h : s.testBit p = true) : pop (dif s (2 ^ p)) + 1 = pop s := pop_dif' ⟨s, hs⟩ ⟨p, hp⟩ h
theorem pop_z' : ∀ s : Fin 512, pop s.val = 0 → s.val = 0 := by decide +kernel
theorem bit_lt {s p : Nat} (hs : s < 512) (h : s.testBit p = true) : p < 9 := by
  rcases Nat.lt_or_ge p 9 with q | q
  · exact q
  · rw [Nat.testBit_lt_two_pow (Nat.lt_of_lt_of_le hs (Nat.pow_le_pow_right (by decide) q : 2 ^ 9 ≤ 2 ^ p))] at h
    cases h
theorem wyr_le {t : Nat → Nat} {P : Nat} (hP : P ≤ 9) : ∀ k s p, s < 512 → pop s ≤ k + 1 → wyr t P s p ≤ 9 ^ k := by
  intro k
  induction k with
  | zero =>
    intro s p hs hk
    by_cases h : s.testBit p = true
    · rw [wyr_in h]
      have hp := bit_lt hs h
      have hd := pop_dif hs hp h
      rw [if_pos (pop_z' ⟨dif s (2 ^ p), Nat.lt_of_le_of_lt (dif_le _ _) hs⟩ (by show pop (dif s (2 ^ p)) = 0; omega))]
      exact Nat.le_refl _
    · rw [wyr_out h]
      exact Nat.zero_le _
  | succ k ih =>
    intro s p hs hk
    by_cases h : s.testBit p = true
    · rw [wyr_in h]
      have hp := bit_lt hs h
      have hd := pop_dif hs hp h
      split
      · exact Nat.one_le_pow _ _ (by decide)
      · refine Nat.le_trans (sm_le (b := 9 ^ k) P (fun q _ => ?_)) ?_
        · split
          · exact ih _ _ (Nat.lt_of_le_of_lt (dif_le _ _) hs) (by omega)
          · exact Nat.zero_le _
        · rw [Nat.pow_succ, Nat.mul_comm]
          exact Nat.mul_le_mul_left _ hP
    · rw [wyr_out h]; exact Nat.zero_le _
theorem wyr_lt {t : Nat → Nat} {P s p : Nat} (hP : P ≤ 9) (hs : s < 512) : wyr t P s p < 2 ^ 31 := Nat.lt_of_le_of_lt (wyr_le hP 8 s p hs (pop_le s)) (by decide)
theorem swy_lt {t : Nat → Nat} {P s : Nat} (hP : P ≤ 9) (hs : s < 512) : sm (wyr t P s) P < 2 ^ 31 := Nat.lt_of_le_of_lt (Nat.le_trans (sm_le (b := 9 ^ 8) P (fun q _ => wyr_le hP 8 s q hs (pop_le s))) (Nat.mul_le_mul_right _ hP)) (by decide)
/-- the class's table is right for the subsets below -/
def WC (M : Nat → Nat → Int32) (t : Nat → Nat) (m n : Nat) : Prop := ∀ a, a < n → a &&& m = a → ∀ p, p < t 1 → a.testBit p = true → M 23 (a * 9 + p) = nI (wyr t (t 1) a p)
section ROWC
variable {L : Nat} {M : Nat → Nat → Int32} {t : Nat → Nat} {z : Int32} {sp : Nat → Int32}
theorem k_wf_l (hE : rE M 2 t z sp) (hw : wfT t) {m n o p : Nat} (hc : WC M t m n) (ho : o < n) (hom : o &&& m = o) (ho5 : o < 512) (hp : p < t 1) : ∀ (k q : Nat), q + k = t 1 → R 3 11 [.ref 22, .int (nI p), .int (nI o), .int (nI (sm (fun q => if o.testBit q = true ∧ jn t p q then wyr t (t 1) o q else 0) q)), .int (nI q)] [] (SH L, M) = some (some (.int (nI (sm (fun q => if o.testBit q = true ∧ jn t p q then wyr t (t 1) o q else 0) (t 1)))), (SH L, M)) := by
  have hP := hw.2.1
  intro k
  induction k with
  | zero =>
    intro q hq
    rw [r3_11]
    simp (disch := omega) only [r3_13, r3_14, r3_17, r3_20, r3_67, r3_68, Option.bind_some, vtl_some, vtl_none, hE.p, hE.h, b2_eq0, ite_not2, nz1, nz0, n1z, n0z, if_true, if_false, nI_le'', show t 1 ≤ q from by omega]
    rw [show q = t 1 by omega]
  | succ k ih =>
    intro q hq
    have iH := ih (q + 1) (by omega)
    rw [sm] at iH
    rw [r3_11]
    simp (disch := omega) only [r3_13, r3_14, r3_17, r3_20, r3_23, r3_24, r3_26, r3_27, r3_28, r3_29, r3_30, Option.bind_some, vtl_some, vtl_none, hE.p, hE.h, b2_eq0, ite_not2, nz1, nz0, n1z, n0z, if_true, if_false, nI_le'', show ¬ t 1 ≤ q from by omega, nI_bit]
    by_cases h1 : o.testBit q = true
    · by_cases h2 : jn t p q
      · rw [if_pos ⟨h1, h2⟩] at iH
        have e := hc o ho hom q (by omega) h1
        simp (disch := omega) only [r3_33, r3_34, r3_37, r3_38, r3_40, r3_43, r3_46, r3_47, r3_48, r3_51, r3_52, r3_54, r3_55, r3_57, r3_58, r3_59, r3_60, r3_61, r3_64, Option.bind_some, vtl_some, vtl_none, hE.p, hE.h, b2_eq0, ite_not2, nz1, nz0, n1z, n0z, if_true, if_false, if_pos h1, s_joined isE_2 hE hw hp (show q < t 1 by omega), if_pos h2, pk_mul, nI_add, e]
        exact iH
      · rw [if_neg (fun z => h2 z.2), Nat.add_zero] at iH
        simp (disch := omega) only [r3_33, r3_34, r3_37, r3_38, r3_40, r3_43, r3_46, r3_47, r3_48, r3_51, r3_52, r3_54, r3_55, r3_57, r3_58, r3_59, r3_60, r3_61, r3_64, Option.bind_some, vtl_some, vtl_none, hE.p, hE.h, b2_eq0, ite_not2, nz1, nz0, n1z, n0z, if_true, if_false, if_pos h1, s_joined isE_2 hE hw hp (show q < t 1 by omega), if_neg h2, nI_add]
        exact iH
    · rw [if_neg (fun z => h1 z.1), Nat.add_zero] at iH
      simp (disch := omega) only [r3_61, r3_64, if_neg h1, nI_add]
      exact iH
theorem k_wf (hE : rE M 2 t z sp) (hw : wfT t) {m s p : Nat} (hc : WC M t m s) (hsm : s &&& m = s) (hs5 : s < 512) (hp : p < t 1) (hb : s.testBit p = true) : R 3 0 [.ref 22, .int (nI p), .int (nI (dif s (2 ^ p))), .null, .null] [] (SH L, M) = some (some (.int (nI (wyr t (t 1) s p))), (SH L, M)) := by
  have hd := dif_lt hb
  rw [wyr_in hb]
  by_cases q : dif s (2 ^ p) = 0
  · rw [if_pos q]
    simp (disch := omega) only [r3_0, r3_1, r3_4, r3_5, nI_eq0, q, if_true]
  · rw [if_neg q]
    simp (disch := omega) only [r3_0, r3_1, r3_4, r3_5, r3_6, r3_7, r3_8, r3_9, nI_eq0, q, if_false]
    exact k_wf_l hE hw hc hd (sub_tr (dif_sub _ _) hsm) (by omega) hp (t 1) 0 (Nat.zero_add _)
theorem WC_up {M1 : Nat → Nat → Int32} {m s p : Nat} (hP : t 1 ≤ 9) (hc : WC M1 t m s) (hp : p < t 1) {x : Int32} : WC (upd2 M1 23 (s * 9 + p) x) t m s := fun a ha hm q hq hb => by
  rw [upd2_ne (Or.inr (by omega))]
  exact hc a ha hm q hq hb
theorem k_tw_l {M0 : Nat → Nat → Int32} (hE0 : rE M0 2 t z sp) (hw : wfT t) {m s : Nat} (hsm : s &&& m = s) (hs5 : s < 512) : ∀ (k n : Nat) (M : Nat → Nat → Int32), n + k = t 1 → frc 23 23 M0 M → WC M t m s → (∀ p, p < n → s.testBit p = true → M 23 (s * 9 + p) = nI (wyr t (t 1) s p)) → ∃ M', R 2 2 [.ref 22, .int (nI s), .int (nI n)] [] (SH L, M) = some (none, (SH L, M')) ∧ frc 23 23 M0 M' ∧ WC M' t m (s + 1) := by
  have hP := hw.2.1
  intro k
  induction k with
  | zero =>
    intro n M hn f hc hi
    have hE := rE_frc hE0 f (by omega)
    refine ⟨M, ?_, f, fun a ha hm q hq hb => ?_⟩
    · rw [r2_2]
      simp (disch := omega) only [r2_0, r2_1, r2_3, r2_4, r2_7, r2_10, r2_13, r2_14, r2_15, r2_16, r2_17, r2_18, r2_19, r2_22, r2_23, r2_26, r2_27, r2_29, r2_30, r2_31, r2_32, r2_33, r2_34, r2_35, r2_36, r2_37, r2_38, r2_39, r2_40, r2_41, r2_44, r2_45, r2_48, r2_51, Option.bind_some, vtl_some, vtl_none, hE.p, hE.h, b2_eq0, ite_not2, nz1, nz0, n1z, n0z, if_true, if_false, nI_le'', show t 1 ≤ n from by omega]
    · by_cases e : a = s
      · subst e; exact hi q (by omega) hb
      · exact hc a (by omega) hm q hq hb
  | succ k ih =>
    intro n M hn f hc hi
    have hE := rE_frc hE0 f (by omega)
    rw [r2_2]
    simp (disch := omega) only [r2_3, r2_4, r2_7, r2_10, r2_13, r2_14, r2_15, r2_16, r2_17, r2_18, r2_19, Option.bind_some, vtl_some, vtl_none, hE.p, hE.h, b2_eq0, ite_not2, nz1, nz0, n1z, n0z, if_true, if_false, nI_le'', show ¬ t 1 ≤ n from by omega, nI_bit]
    by_cases h1 : s.testBit n = true
    · simp (disch := omega) only [r2_22, r2_23, r2_26, r2_27, r2_29, r2_30, r2_31, r2_32, r2_33, r2_34, r2_35, r2_36, r2_37, r2_38, r2_39, r2_40, r2_41, r2_44, r2_45, r2_48, Option.bind_some, vtl_some, vtl_none, hE.p, hE.h, b2_eq0, ite_not2, nz1, nz0, n1z, n0z, if_true, if_false, if_pos h1, pk_mul, nI_add, nI_shl1, nI_dif, k_wf hE hw hc hsm hs5 (show n < t 1 by omega) h1]
      refine ih (n + 1) _ (by omega) (frc_up f (by omega) (by omega)) (WC_up hP hc (by omega)) (fun p hp hb => ?_)
      by_cases e : p = n
      · subst e; exact upd2_eq
      · rw [upd2_ne (Or.inr (by omega))]; exact hi p (by omega) hb
    · simp (disch := omega) only [r2_45, r2_48, if_neg h1, nI_add]
      refine ih (n + 1) M (by omega) f hc (fun p hp hb => ?_)
      by_cases e : p = n
      · subst e; exact absurd hb h1
      · exact hi p (by omega) hb
theorem k_cr_1 {M0 : Nat → Nat → Int32} (hE0 : rE M0 2 t z sp) (hw : wfT t) {m : Nat} (hm : m < 512) {v3 : Value} : ∀ (k n : Nat) (M : Nat → Nat → Int32), n + k = m + 1 → frc 23 23 M0 M → WC M t m n → ∃ M', R 1 2 [.ref 22, .int (nI m), .int (nI n), v3] [] (SH L, M) = R 1 26 [.ref 22, .int (nI m), .int (nI (m + 1)), v3] [] (SH L, M') ∧ frc 23 23 M0 M' ∧ WC M' t m (m + 1) := by
  intro k
  induction k with
  | zero =>
    intro n M hn f hc
    refine ⟨M, ?_, f, by rw [show m + 1 = n by omega]; exact hc⟩
    rw [r1_2]
    simp (disch := omega) only [r1_3, r1_4, nI_lt', show m < n from by omega, if_true]
    rw [show n = m + 1 by omega]
  | succ k ih =>
    intro n M hn f hc
    have d1 : dif n m < 2 ^ 31 := Nat.lt_of_le_of_lt (dif_le _ _) (by omega)
    rw [r1_2]
    simp (disch := omega) only [r1_3, r1_4, r1_7, r1_8, r1_9, r1_10, r1_11, r1_12, nI_lt', show ¬ m < n from by omega, if_false, nI_dif, nI_eq0]
    by_cases h1 : dif n m = 0
    · obtain ⟨M1, e1, f1, c1⟩ := k_tw_l (L := L) (rE_frc hE0 f (by omega)) hw (dif_sub0 h1) (show n < 512 by omega) (t 1) 0 M (Nat.zero_add _) frc_rf hc (fun p hp => absurd hp (Nat.not_lt_zero _))
      have e2 : R 2 0 [.ref 22, .int (nI n), .null] [] (SH L, M) = some (none, (SH L, M1)) := by
        simp only [r2_0, r2_1]
        exact e1
      simp only [r1_15, r1_16, r1_17, r1_20, r1_23, if_pos h1, e2, Option.bind_some, vtl_none, nI_add]
      exact ih (n + 1) M1 (by omega) (frc_tr f f1) c1
    · simp only [r1_20, r1_23, if_neg h1, nI_add]
      refine ih (n + 1) M (by omega) f (fun a ha hma q hq hb => ?_)
      by_cases e : a = n
      · subst e
        exfalso
        apply h1
        unfold dif
        rw [hma, Nat.xor_self]
      · exact hc a (by omega) hma q hq hb
theorem k_cr_2 (hE : rE M 2 t z sp) (hw : wfT t) {m : Nat} (hm : m < 512) (hc : WC M t m (m + 1)) : ∀ (k n : Nat), n + k = t 1 → R 1 30 [.ref 22, .int (nI m), .int (nI (sm (wyr t (t 1) m) n)), .int (nI n)] [] (SH L, M) = some (some (.int (nI (sm (wyr t (t 1) m) (t 1)))), (SH L, M)) := by
  have hP := hw.2.1
  intro k
  induction k with
  | zero =>
    intro n hn
    rw [r1_30]
    simp (disch := omega) only [r1_31, r1_32, r1_35, r1_38, r1_74, r1_75, Option.bind_some, vtl_some, vtl_none, hE.p, hE.h, b2_eq0, ite_not2, nz1, nz0, n1z, n0z, if_true, if_false, nI_le'', show t 1 ≤ n from by omega]
    rw [show n = t 1 by omega]
  | succ k ih =>
    intro n hn
    have iH := ih (n + 1) (by omega)
    rw [sm] at iH
    rw [r1_30]
    simp (disch := omega) only [r1_31, r1_32, r1_35, r1_38, r1_41, r1_42, r1_43, r1_44, r1_45, r1_46, r1_47, r1_48, Option.bind_some, vtl_some, vtl_none, hE.p, hE.h, b2_eq0, ite_not2, nz1, nz0, n1z, n0z, if_true, if_false, nI_le'', show ¬ t 1 ≤ n from by omega, nI_bit]
    by_cases h1 : m.testBit n = true
    · simp (disch := omega) only [r1_51, r1_52, r1_55, r1_56, r1_58, r1_59, r1_60, r1_61, r1_62, r1_65, r1_66, r1_67, r1_68, r1_71, if_pos h1, pk_mul, nI_add, hc m (by omega) (Nat.and_self _) n (by omega) h1]
      exact iH
    · rw [wyr_out h1] at iH
      simp (disch := omega) only [r1_65, r1_66, r1_67, r1_68, r1_71, if_neg h1, nI_add]
      exact iH
theorem k_countRows (hE : rE M 2 t z sp) (hw : wfT t) {m : Nat} (hm : m < 512) : ∃ M', R 1 0 [.ref 22, .int (nI m), .null, .null] [] (SH L, M) = some (some (.int (nI (sm (wyr t (t 1) m) (t 1)))), (SH L, M')) ∧ frc 23 23 M M' ∧ WC M' t m (m + 1) := by
  obtain ⟨M1, e1, f1, c1⟩ := k_cr_1 (L := L) hE hw hm (v3 := .null) m 1 M (by omega) frc_rf (fun a ha hma q hq hb => by
    have : a = 0 := by omega
    subst this
    rw [Nat.zero_testBit] at hb
    cases hb)
  refine ⟨M1, ?_, f1, c1⟩
  simp only [r1_0, r1_1]
  rw [e1]
  simp only [r1_26, r1_27, r1_28, r1_29]
  exact k_cr_2 (rE_frc hE f1 (by omega)) hw hm c1 (t 1) 0 (Nat.zero_add _)
end ROWC
/-- the reference's table -/
def WQ (M : Nat → Nat → Int32) (t : Nat → Nat) (n : Nat) : Prop := ∀ a, 0 < a → a < n → ∀ p, p < t 1 → M 48 (9 * a + p) = nI (wyr t (t 1) a p)
section ROWQ
variable {L : Nat} {M : Nat → Nat → Int32} {t : Nat → Nat}
theorem q_fr_in (hs : rS M t) (hw : wfT t) {s p o : Nat} (hp : p < t 1) (hs5 : s < 512) (ho5 : o < 512) (hh : s.testBit p = true → ∀ q, q < t 1 → o.testBit q = true → M 48 (9 * o + q) = nI (wyr t (t 1) o q)) {i0 : Nat} : ∀ (k q : Nat) (x : Int32), q + k = t 1 → (s.testBit p = true → x = nI (i0 + sm (fun q => if o.testBit q = true ∧ jn t p q then wyr t (t 1) o q else 0) q)) → ∃ y, R 189 44 [.ref 36, .int (nI s), .int (nI p), .int (nI o), .int x, .int (nI q)] [] (SH L, M) = R 189 101 [.ref 36, .int (nI s), .int (nI p), .int (nI o), .int y, .int (nI (t 1))] [] (SH L, M) ∧ (s.testBit p = true → y = nI (i0 + sm (fun q => if o.testBit q = true ∧ jn t p q then wyr t (t 1) o q else 0) (t 1))) := by
  have hP := hw.2.1
  intro k
  induction k with
  | zero =>
    intro q x hq hx
    refine ⟨x, ?_, fun hb => by have := hx hb; rw [show q = t 1 by omega] at this; exact this⟩
    rw [r189_44]
    simp (disch := omega) only [r189_46, r189_47, r189_50, r189_51, r189_52, Option.bind_some, vtl_some, vtl_none, hs 1, hs 2, b2_eq0, ite_not2, nz1, nz0, n1z, n0z, if_true, if_false, nI_le'', show t 1 ≤ q from by omega]
    rw [show q = t 1 by omega]
  | succ k ih =>
    intro q x hq hx
    rw [r189_44]
    simp (disch := omega) only [r189_46, r189_47, r189_50, r189_51, r189_52, r189_55, r189_57, r189_58, r189_60, r189_63, r189_66, r189_67, r189_68, r189_70, r189_73, Option.bind_some, vtl_some, vtl_none, hs 1, hs 2, b2_eq0, ite_not2, nz1, nz0, n1z, n0z, if_true, if_false, nI_le'', show ¬ t 1 ≤ q from by omega, s_has, s_isJoined hs hw (show p < 9 by omega) (show q < 9 by omega)]
    by_cases h1 : o.testBit q = true
    · by_cases h2 : jn t p q
      · simp (disch := omega) only [r189_76, r189_77, r189_80, r189_82, r189_83, r189_84, r189_86, r189_87, r189_88, r189_91, r189_92, r189_93, r189_95, r189_98, if_pos h1, if_pos h2, pk_mul, nI_add]
        refine ih (q + 1) _ (by omega) (fun hb => ?_)
        rw [hx hb, hh hb q (by omega) h1, nI_add, sm, if_pos ⟨h1, h2⟩, Nat.add_assoc]
      · simp (disch := omega) only [r189_91, r189_92, r189_93, r189_95, r189_98, if_pos h1, if_neg h2, nI_add]
        refine ih (q + 1) _ (by omega) (fun hb => ?_)
        rw [hx hb, nI_add, sm, if_neg (fun z => h2 z.2)]
        rfl
    · simp (disch := omega) only [r189_91, r189_92, r189_93, r189_95, r189_98, if_neg h1, nI_add]
      refine ih (q + 1) _ (by omega) (fun hb => ?_)
      rw [hx hb, nI_add, sm, if_neg (fun z => h1 z.1)]
      rfl
theorem q_fr_p {M0 : Nat → Nat → Int32} (hs0 : rS M0 t) (hw : wfT t) {s : Nat} (hs1 : 0 < s) (hs5 : s < 512) : ∀ (k p : Nat) (M : Nat → Nat → Int32) (v3 v4 v5 : Value), p + k = t 1 → frc 48 48 M0 M → WQ M t s → (∀ q, q < p → M 48 (9 * s + q) = nI (wyr t (t 1) s q)) → ∃ M' v3' v4' v5', R 189 12 [.ref 36, .int (nI s), .int (nI p), v3, v4, v5] [] (SH L, M) = R 189 132 [.ref 36, .int (nI s), .int (nI (t 1)), v3', v4', v5'] [] (SH L, M') ∧ frc 48 48 M0 M' ∧ WQ M' t (s + 1) := by
  have hP := hw.2.1
  intro k
  induction k with
  | zero =>
    intro p M v3 v4 v5 hp f hc hi
    have hs := rS_frc hs0 f (by omega)
    refine ⟨M, v3, v4, v5, ?_, f, fun a h0 ha q hq => ?_⟩
    · rw [r189_12]
      simp (disch := omega) only [r189_13, r189_14, r189_17, r189_18, r189_19, Option.bind_some, vtl_some, vtl_none, hs 1, hs 2, b2_eq0, ite_not2, nz1, nz0, n1z, n0z, if_true, if_false, nI_le'', show t 1 ≤ p from by omega]
      rw [show p = t 1 by omega]
    · by_cases e : a = s
      · subst e; exact hi q (by omega)
      · exact hc a h0 (by omega) q hq
  | succ k ih =>
    intro p M v3 v4 v5 hp f hc hi
    have hs := rS_frc hs0 f (by omega)
    have dl := dif_le s (2 ^ p)
    have hh : s.testBit p = true → ∀ q, q < t 1 → (dif s (2 ^ p)).testBit q = true → M 48 (9 * dif s (2 ^ p) + q) = nI (wyr t (t 1) (dif s (2 ^ p)) q) := fun hb q hq hb2 => by
      refine hc _ ?_ (dif_lt hb) q hq
      rcases Nat.eq_zero_or_pos (dif s (2 ^ p)) with y | y
      · rw [y, Nat.zero_testBit] at hb2; cases hb2
      · exact y
    rw [r189_12]
    simp (disch := omega) only [r189_13, r189_14, r189_17, r189_18, r189_19, r189_22, r189_23, r189_24, r189_25, r189_26, r189_27, r189_28, r189_29, r189_30, r189_31, r189_34, r189_35, r189_38, Option.bind_some, vtl_some, vtl_none, hs 1, hs 2, b2_eq0, ite_not2, nz1, nz0, n1z, n0z, if_true, if_false, nI_le'', show ¬ t 1 ≤ p from by omega, nI_shl1, nI_dif, nI_eq0, mg_R]
    simp (disch := omega) only [r189_39, r189_41, r189_42]
    obtain ⟨y, e1, hy⟩ := q_fr_in (L := L) hs hw (s := s) (p := p) (o := dif s (2 ^ p)) (by omega) hs5 (by omega) hh (i0 := if dif s (2 ^ p) = 0 then 1 else 0) (t 1) 0 (if dif s (2 ^ p) = 0 then nI 1 else nI 0) (Nat.zero_add _) (fun _ => by rw [mg_n]; rfl)
    rw [e1]
    have hv : (if s.testBit p = true then y else nI 0) = nI (wyr t (t 1) s p) := by
      by_cases hb : s.testBit p = true
      · rw [if_pos hb, hy hb, wyr_in hb]
        by_cases q : dif s (2 ^ p) = 0
        · rw [if_pos q, if_pos q, q]
          have : sm (fun q => if (0 : Nat).testBit q = true ∧ jn t p q then wyr t (t 1) 0 q else 0) (t 1) = 0 := by
            have := sm_le (f := fun q => if (0 : Nat).testBit q = true ∧ jn t p q then wyr t (t 1) 0 q else 0) (b := 0) (t 1) (fun q _ => by
              show (if (0 : Nat).testBit q = true ∧ jn t p q then wyr t (t 1) 0 q else 0) ≤ 0
              rw [if_neg (fun z => by rw [Nat.zero_testBit] at z; cases z.1)]
              exact Nat.le_refl _)
            rw [Nat.mul_zero] at this
            omega
          rw [this]
        · rw [if_neg q, if_neg q, Nat.zero_add]
      · rw [if_neg hb, wyr_out hb]
    simp (disch := omega) only [r189_101, r189_102, r189_105, r189_107, r189_108, r189_109, r189_110, r189_111, r189_112, r189_113, r189_116, r189_119, r189_121, r189_124, Option.bind_some, vtl_some, vtl_none, hs 1, hs 2, b2_eq0, ite_not2, nz1, nz0, n1z, n0z, if_true, if_false, pk_mul, nI_add, s_has, mg_R, hv]
    simp (disch := omega) only [r189_125, r189_126, r189_129, nI_add]
    refine ih (p + 1) _ _ _ _ (by omega) (frc_up f (by omega) (by omega)) (fun a h0 ha q hq => ?_) (fun q hq => ?_)
    · rw [upd2_ne (Or.inr (by omega))]; exact hc a h0 ha q hq
    · by_cases e : q = p
      · subst e; exact upd2_eq
      · rw [upd2_ne (Or.inr (by omega))]; exact hi q (by omega)
theorem q_fr_l {M0 : Nat → Nat → Int32} (hs0 : rS M0 t) (hw : wfT t) : ∀ (k s : Nat) (M : Nat → Nat → Int32) (v2 v3 v4 v5 : Value), 0 < s → s + k = 2 ^ t 1 → frc 48 48 M0 M → WQ M t s → ∃ M', R 189 2 [.ref 36, .int (nI s), v2, v3, v4, v5] [] (SH L, M) = some (none, (SH L, M')) ∧ frc 48 48 M0 M' ∧ WQ M' t (2 ^ t 1) := by
  have hp5 := pow_P hw
  have ha1 := allT_eq t
  intro k
  induction k with
  | zero =>
    intro s M v2 v3 v4 v5 h0 hk f hc
    have hs := rS_frc hs0 f (by omega)
    refine ⟨M, ?_, f, by rw [show 2 ^ t 1 = s by omega]; exact hc⟩
    rw [r189_2]
    simp (disch := omega) only [r189_3, r189_4, r189_7, r189_138, Option.bind_some, vtl_some, vtl_none, hs 1, hs 2, b2_eq0, ite_not2, nz1, nz0, n1z, n0z, if_true, if_false, s_everything hs hw, nI_lt', show allT t < s from by omega]
  | succ k ih =>
    intro s M v2 v3 v4 v5 h0 hk f hc
    have hs := rS_frc hs0 f (by omega)
    rw [r189_2]
    simp (disch := omega) only [r189_3, r189_4, r189_7, r189_10, r189_11, Option.bind_some, vtl_some, vtl_none, hs 1, hs 2, b2_eq0, ite_not2, nz1, nz0, n1z, n0z, if_true, if_false, s_everything hs hw, nI_lt', show ¬ allT t < s from by omega]
    obtain ⟨M1, a3, a4, a5, e1, f1, c1⟩ := q_fr_p (L := L) hs hw h0 (show s < 512 by omega) (t 1) 0 M v3 v4 v5 (Nat.zero_add _) frc_rf hc (fun q hq => absurd hq (Nat.not_lt_zero _))
    rw [e1]
    simp only [r189_132, r189_135, nI_add]
    exact ih (s + 1) M1 _ _ _ _ (by omega) (by omega) (frc_tr f f1) c1
theorem q_findRows (hs : rS M t) (hw : wfT t) : ∃ M', R 189 0 [.ref 36, .null, .null, .null, .null, .null] [] (SH L, M) = some (none, (SH L, M')) ∧ frc 48 48 M M' ∧ WQ M' t (2 ^ t 1) := by
  simp only [r189_0, r189_1]
  have := Nat.two_pow_pos (t 1)
  exact q_fr_l hs hw (2 ^ t 1 - 1) 1 M _ _ _ _ (by omega) (by omega) frc_rf (fun a h0 ha => by omega)
theorem q_rows_l (hs : rS M t) (hw : wfT t) (hq : WQ M t (2 ^ t 1)) {m : Nat} (hm : m < 2 ^ t 1) (h0 : 0 < m) {v1 : Value} : ∀ (k n : Nat), n + k = t 1 → R 190 40 [.ref 36, v1, .int (nI m), .int (nI (sm (wyr t (t 1) m) n)), .int (nI n)] [] (SH L, M) = some (some (.int (nI (sm (wyr t (t 1) m) (t 1)))), (SH L, M)) := by
  have hP := hw.2.1
  have hp5 := pow_P hw
  intro k
  induction k with
  | zero =>
    intro n hn
    rw [r190_40]
    simp (disch := omega) only [r190_42, r190_43, r190_46, r190_47, r190_48, r190_72, r190_73, Option.bind_some, vtl_some, vtl_none, hs 1, hs 2, b2_eq0, ite_not2, nz1, nz0, n1z, n0z, if_true, if_false, nI_le'', show t 1 ≤ n from by omega]
    rw [show n = t 1 by omega]
  | succ k ih =>
    intro n hn
    rw [r190_40]
    simp (disch := omega) only [r190_42, r190_43, r190_46, r190_47, r190_48, r190_51, r190_52, r190_53, r190_56, r190_58, r190_59, r190_60, r190_62, r190_63, r190_64, r190_65, r190_66, r190_69, Option.bind_some, vtl_some, vtl_none, hs 1, hs 2, b2_eq0, ite_not2, nz1, nz0, n1z, n0z, if_true, if_false, nI_le'', show ¬ t 1 ≤ n from by omega, pk_mul, nI_add, hq m h0 hm n (show n < t 1 by omega)]
    exact ih (n + 1) (by omega)
end ROWQ
section ROWS
variable {L : Nat} {M : Nat → Nat → Int32} {t : Nat → Nat} {z : Int32} {sp : Nat → Int32} {c : Nat}
theorem mem_P {x : Nat} : mem t x < 2 ^ t 1 := memN_lt t x (t 1)
theorem c_rows (h : IV M t z sp c) (a : Int32) : OK L M c (fun M => R 87 0 [.ref 1, .int a] [] (SH L, M)) (fun M => R 190 0 [.ref 36, .int a, .null, .null, .null] [] (SH L, M)) := by
  have hP := h.w.2.1
  by_cases h1 : rng a 5
  · obtain ⟨x, hx, rfl⟩ := rng_of (by omega) h1
    have hm := mem_lt x hP
    by_cases h2 : mem t x = 0
    · exact okF0 h (x := (-1000004)) (k := 3) (by simp (disch := omega) only [r87_0, r87_1, r87_2, r87_5, r87_8, r87_9, r87_11, r87_14, r87_15, r87_16, r87_19, r87_22, r87_23, r87_24, r87_27, r87_28, r87_30, r87_33, r87_34, r87_35, r87_38, r87_39, r87_42, r87_45, r87_46, r87_47, r87_50, Option.bind_some, vtl_some, vtl_none, s_within, s_isSet5 h.e h.w, h.e.p, h.e.h, h.od5, h.me4, b2_eq0, ite_not2, nz1, nz0, n1z, n0z, if_true, if_false, fd0, fd1, fd2, fd3, fd4, fd5, fd6, if_pos h1, if_pos h2, nI_eq0]) (fun M1 hs => by simp (disch := omega) only [r190_0, r190_1, r190_4, r190_7, r190_8, r190_10, r190_13, r190_14, r190_15, r190_16, r190_19, r190_20, r190_21, r190_24, r190_25, r190_27, r190_30, r190_31, r190_32, r190_35, r190_36, r190_37, r190_38, r190_40, r190_42, r190_43, r190_46, r190_47, r190_48, r190_51, r190_52, r190_53, r190_56, r190_58, r190_59, r190_60, r190_62, r190_63, r190_64, r190_65, r190_66, r190_69, r190_72, r190_73, Option.bind_some, vtl_some, vtl_none, s_isPart hs h.w, s_isHeir hs h.w, s_isSet6 hs h.w, s_isAny, s_isThing, s_isOne, b2_eq0, ite_not2, nz1, nz0, n1z, n0z, if_true, if_false, gd0, gd1, gd2, gd3, gd4, gd5, gd6, hs 1, hs 2, if_pos h1, if_pos h2, s_partsOf hs h.w hx, nI_eq0])
    · obtain ⟨M1, e1, f1, c1⟩ := k_countRows (L := L) h.e h.w hm
      refine okV h (r := nI (sm (wyr t (t 1) (mem t x)) (t 1))) (M1 := M1) (by simp (disch := omega) only [r87_0, r87_1, r87_2, r87_5, r87_8, r87_9, r87_11, r87_14, r87_15, r87_16, r87_19, r87_22, r87_23, r87_24, r87_27, r87_28, r87_30, r87_33, r87_34, r87_35, r87_38, r87_39, r87_42, r87_45, r87_46, r87_47, r87_50, Option.bind_some, vtl_some, vtl_none, s_within, s_isSet5 h.e h.w, h.e.p, h.e.h, h.od5, h.me4, b2_eq0, ite_not2, nz1, nz0, n1z, n0z, if_true, if_false, fd0, fd1, fd2, fd3, fd4, fd5, fd6, if_pos h1, if_neg h2, nI_eq0, e1]) (fC_1 f1 (by omega)) (DI_frc h.d f1 (by omega)) (f1 34 (by omega)) (fun M1 hs1 => ?_)
      obtain ⟨M2, e2, f2, c2⟩ := q_findRows (L := L) hs1 h.w
      have lo := q_rows_l (L := L) (rS_frc hs1 f2 (by omega)) h.w c2 (mem_P (x := x)) (by omega) (v1 := .int (nI x)) (t 1) 0 (Nat.zero_add _)
      rw [sm] at lo
      exact ⟨M2, by have hs := hs1; simp (disch := omega) only [r190_0, r190_1, r190_4, r190_7, r190_8, r190_10, r190_13, r190_14, r190_15, r190_16, r190_19, r190_20, r190_21, r190_24, r190_25, r190_27, r190_30, r190_31, r190_32, r190_35, r190_36, r190_37, r190_38, Option.bind_some, vtl_some, vtl_none, s_isPart hs h.w, s_isHeir hs h.w, s_isSet6 hs h.w, s_isAny, s_isThing, s_isOne, b2_eq0, ite_not2, nz1, nz0, n1z, n0z, if_true, if_false, gd0, gd1, gd2, gd3, gd4, gd5, gd6, hs 1, hs 2, if_pos h1, if_neg h2, s_partsOf hs h.w hx, nI_eq0, e2, lo], fR_of f2 (by omega), f2 40 (by omega)⟩
  · exact okF0 h (x := (-1000001)) (k := 0) (by simp (disch := omega) only [r87_0, r87_1, r87_2, r87_5, r87_8, r87_9, r87_11, r87_14, r87_15, r87_16, r87_19, r87_22, r87_23, r87_24, r87_27, r87_28, r87_30, r87_33, r87_34, r87_35, r87_38, r87_39, r87_42, r87_45, r87_46, r87_47, r87_50, Option.bind_some, vtl_some, vtl_none, s_within, s_isSet5 h.e h.w, h.e.p, h.e.h, h.od5, h.me4, b2_eq0, ite_not2, nz1, nz0, n1z, n0z, if_true, if_false, fd0, fd1, fd2, fd3, fd4, fd5, fd6, if_neg h1]) (fun M1 hs => by simp (disch := omega) only [r190_0, r190_1, r190_4, r190_7, r190_8, r190_10, r190_13, r190_14, r190_15, r190_16, r190_19, r190_20, r190_21, r190_24, r190_25, r190_27, r190_30, r190_31, r190_32, r190_35, r190_36, r190_37, r190_38, r190_40, r190_42, r190_43, r190_46, r190_47, r190_48, r190_51, r190_52, r190_53, r190_56, r190_58, r190_59, r190_60, r190_62, r190_63, r190_64, r190_65, r190_66, r190_69, r190_72, r190_73, Option.bind_some, vtl_some, vtl_none, s_isPart hs h.w, s_isHeir hs h.w, s_isSet6 hs h.w, s_isAny, s_isThing, s_isOne, b2_eq0, ite_not2, nz1, nz0, n1z, n0z, if_true, if_false, gd0, gd1, gd2, gd3, gd4, gd5, gd6, hs 1, hs 2, if_neg h1])
end ROWS
