/-! fair -/
/-- an order by its code: two bits a place; by its digits -/
def oC (q i : Nat) : Nat := q / 2 ^ (2 * i) &&& 3
def oD (H d i : Nat) : Nat := d / 10 ^ (H - 1 - i) % 10
def tlC (q : Nat) : Nat → Nat
  | 0 => 0
  | n + 1 => tlC q n ||| 2 ^ oC q n
def tlD (d : Nat) : Nat → Nat
  | 0 => 0
  | n + 1 => tlD d n ||| 2 ^ (d / 10 ^ n % 10)
def dgC (q : Nat) : Nat → Nat
  | 0 => 0
  | n + 1 => dgC q n * 10 + oC q n
def isC (H q : Nat) : Bool := tlC q H == 2 ^ H - 1
def isD (H d : Nat) : Bool := d / 10 ^ H == 0 && tlD d H == 2 ^ H - 1
def chC (H : Nat) : Bool := (List.range (2 ^ (2 * H))).all (fun q => !(isC H q) || (isD H (dgC q H) && decide (dgC q H < 4000) && (List.range H).all (fun i => oD H (dgC q H) i == oC q i && decide (oC q i < H) && (List.range H).all (fun j => !(oC q i == oC q j) || i == j))))
def chD (H : Nat) : Bool := (List.range 4000).all (fun d => !(isD H d) || (List.range (2 ^ (2 * H))).any (fun q => isC H q && dgC q H == d)) && (List.range (2 ^ (2 * H))).any (fun q => isC H q)
theorem chC_ok : ∀ H : Fin 5, 1 ≤ H.val → chC H.val = true := by decide +kernel
theorem chD_ok : ∀ H : Fin 5, 1 ≤ H.val → chD H.val = true := by decide +kernel
theorem C_facts {H q : Nat} (h1 : 1 ≤ H) (h4 : H ≤ 4) (hq : q < 2 ^ (2 * H)) (hC : isC H q = true) : isD H (dgC q H) = true ∧ dgC q H < 4000 ∧ ∀ i, i < H → oD H (dgC q H) i = oC q i ∧ oC q i < H ∧ ∀ j, j < H → oC q i = oC q j → i = j := by
  have h := chC_ok ⟨H, by omega⟩ h1
  unfold chC at h
  rw [List.all_eq_true] at h
  have h2 := h q (List.mem_range.mpr hq)
  simp only [hC, Bool.not_true, Bool.false_or, Bool.and_eq_true, decide_eq_true_eq, List.all_eq_true] at h2
  obtain ⟨⟨a, b⟩, c⟩ := h2
  refine ⟨a, b, fun i hi => ?_⟩
  obtain ⟨⟨c1, c2⟩, c3⟩ := c i (List.mem_range.mpr hi)
  refine ⟨by simpa using c1, c2, fun j hj e => ?_⟩
  have := c3 j (List.mem_range.mpr hj)
  rw [e] at this
  simpa using this
theorem D_facts {H d : Nat} (h1 : 1 ≤ H) (h4 : H ≤ 4) (hd : d < 4000) (hD : isD H d = true) : ∃ q, q < 2 ^ (2 * H) ∧ isC H q = true ∧ dgC q H = d := by
  have h := chD_ok ⟨H, by omega⟩ h1
  unfold chD at h
  rw [Bool.and_eq_true, List.all_eq_true] at h
  have h2 := h.1 d (List.mem_range.mpr hd)
  simp only [hD, Bool.not_true, Bool.false_or, List.any_eq_true, Bool.and_eq_true] at h2
  obtain ⟨q, a, b, c⟩ := h2
  exact ⟨q, List.mem_range.mp a, b, by simpa using c⟩
theorem D_some {H : Nat} (h1 : 1 ≤ H) (h4 : H ≤ 4) : ∃ q, q < 2 ^ (2 * H) ∧ isC H q = true := by
  have h := chD_ok ⟨H, by omega⟩ h1
  unfold chD at h
  rw [Bool.and_eq_true, List.any_eq_true] at h
  obtain ⟨q, a, b⟩ := h.2
  exact ⟨q, List.mem_range.mp a, b⟩
theorem oC_lt (q i : Nat) : oC q i < 4 := by
  unfold oC
  exact Nat.lt_of_le_of_lt Nat.and_le_right (by decide)
theorem dgC_lt (q : Nat) : ∀ n, n ≤ 4 → dgC q n < 4444 := by
  intro n hn
  have a0 := oC_lt q 0; have a1 := oC_lt q 1; have a2 := oC_lt q 2; have a3 := oC_lt q 3
  have : n = 0 ∨ n = 1 ∨ n = 2 ∨ n = 3 ∨ n = 4 := by omega
  rcases this with rfl | rfl | rfl | rfl | rfl <;> simp only [dgC] <;> omega
/-- what all get in an order -/
def fS (t o : Nat → Nat) : Nat := suN t (shN (val t) (rw_ o (t 2)) (t 2 - 1) (allT t) (fun _ => 0)) (t 2)
theorem fS_cg {t o o' : Nat → Nat} (h1 : 1 ≤ t 2) (h : ∀ i, i < t 2 → o i = o' i) : fS t o = fS t o' := by
  unfold fS
  rw [shN_cg (r := rw_ o (t 2)) (r' := rw_ o' (t 2)) (t 2 - 1) (allT t) (fun _ => 0) (fun i hi => h _ (by omega))]
theorem fS_le {t : Nat → Nat} (hw : wfT t) (o : Nat → Nat) : fS t o ≤ 7128 := by
  have := suN_le hw (sh := shN (val t) (rw_ o (t 2)) (t 2 - 1) (allT t) (fun _ => 0)) (t 2) hw.2.2.2.1
  have := hw.2.2.2.1
  unfold fS
  omega
def fcN (t : Nat → Nat) : Nat → Nat × Nat
  | 0 => (0, 0)
  | n + 1 => if isC (t 2) n = true ∧ ((fcN t n).1 < fS t (oC n) + 1 ∨ ((fcN t n).1 = fS t (oC n) + 1 ∧ dgC n (t 2) < (fcN t n).2)) then (fS t (oC n) + 1, dgC n (t 2)) else fcN t n
def fdN (t : Nat → Nat) : Nat → Bool × Nat × Nat
  | 0 => (false, 0, 0)
  | n + 1 => if isD (t 2) n = true ∧ ((fdN t n).1 = false ∨ (fdN t n).2.2 < fS t (oD (t 2) n)) then (true, n, fS t (oD (t 2) n)) else fdN t n
theorem fcN_inv (t : Nat → Nat) : ∀ n, ((fcN t n).1 = 0 ∧ ∀ q, q < n → ¬ isC (t 2) q = true) ∨ (∃ q, q < n ∧ isC (t 2) q = true ∧ (fcN t n).1 = fS t (oC q) + 1 ∧ (fcN t n).2 = dgC q (t 2) ∧ ∀ p, p < n → isC (t 2) p = true → fS t (oC p) < fS t (oC q) ∨ (fS t (oC p) = fS t (oC q) ∧ dgC q (t 2) ≤ dgC p (t 2))) := by
  intro n
  induction n with
  | zero => exact Or.inl ⟨rfl, fun q h => absurd h (Nat.not_lt_zero _)⟩
  | succ n ih =>
    rw [fcN]
    by_cases h : isC (t 2) n = true ∧ ((fcN t n).1 < fS t (oC n) + 1 ∨ ((fcN t n).1 = fS t (oC n) + 1 ∧ dgC n (t 2) < (fcN t n).2))
    · rw [if_pos h]
      refine Or.inr ⟨n, by omega, h.1, rfl, rfl, fun p hp hc => ?_⟩
      by_cases e : p = n
      · subst e; exact Or.inr ⟨rfl, Nat.le_refl _⟩
      · rcases ih with ⟨i1, i2⟩ | ⟨q, q1, q2, q3, q4, q5⟩
        · exact absurd hc (i2 p (by omega))
        · have := q5 p (by omega) hc
          rcases h.2 with g | ⟨g1, g2⟩ <;> rcases this with y | ⟨y1, y2⟩ <;> omega
    · rw [if_neg h]
      rcases ih with ⟨i1, i2⟩ | ⟨q, q1, q2, q3, q4, q5⟩
      · refine Or.inl ⟨i1, fun q hq hc => ?_⟩
        by_cases e : q = n
        · subst e; exact h ⟨hc, Or.inl (by omega)⟩
        · exact i2 q (by omega) hc
      · refine Or.inr ⟨q, by omega, q2, q3, q4, fun p hp hc => ?_⟩
        by_cases e : p = n
        · subst e
          have : ¬ ((fcN t p).1 < fS t (oC p) + 1 ∨ ((fcN t p).1 = fS t (oC p) + 1 ∧ dgC p (t 2) < (fcN t p).2)) := fun z => h ⟨hc, z⟩
          omega
        · exact q5 p (by omega) hc
theorem fdN_inv (t : Nat → Nat) : ∀ n, ((fdN t n).1 = false ∧ ∀ d, d < n → ¬ isD (t 2) d = true) ∨ (∃ d, d < n ∧ isD (t 2) d = true ∧ (fdN t n).1 = true ∧ (fdN t n).2.1 = d ∧ (fdN t n).2.2 = fS t (oD (t 2) d) ∧ ∀ p, p < n → isD (t 2) p = true → fS t (oD (t 2) p) < fS t (oD (t 2) d) ∨ (fS t (oD (t 2) p) = fS t (oD (t 2) d) ∧ d ≤ p)) := by
  intro n
  induction n with
  | zero => exact Or.inl ⟨rfl, fun q h => absurd h (Nat.not_lt_zero _)⟩
  | succ n ih =>
    rw [fdN]
    by_cases h : isD (t 2) n = true ∧ ((fdN t n).1 = false ∨ (fdN t n).2.2 < fS t (oD (t 2) n))
    · rw [if_pos h]
      refine Or.inr ⟨n, by omega, h.1, rfl, rfl, rfl, fun p hp hc => ?_⟩
      by_cases e : p = n
      · subst e; exact Or.inr ⟨rfl, Nat.le_refl _⟩
      · rcases ih with ⟨i1, i2⟩ | ⟨q, q1, q2, q3, q4, q5, q6⟩
        · exact absurd hc (i2 p (by omega))
        · have := q6 p (by omega) hc
          rcases h.2 with g | g
          · rw [q3] at g; cases g
          · rcases this with y | ⟨y1, y2⟩ <;> omega
    · rw [if_neg h]
      rcases ih with ⟨i1, i2⟩ | ⟨q, q1, q2, q3, q4, q5, q6⟩
      · refine Or.inl ⟨i1, fun q hq hc => ?_⟩
        by_cases e : q = n
        · subst e; exact h ⟨hc, Or.inl i1⟩
        · exact i2 q (by omega) hc
      · refine Or.inr ⟨q, by omega, q2, q3, q4, q5, fun p hp hc => ?_⟩
        by_cases e : p = n
        · subst e
          have : ¬ ((fdN t p).1 = false ∨ (fdN t p).2.2 < fS t (oD (t 2) p)) := fun z => h ⟨hc, z⟩
          have : ¬ ((fdN t p).2.2 < fS t (oD (t 2) p)) := fun z => this (Or.inr z)
          omega
        · exact q6 p (by omega) hc
theorem f_same {t : Nat → Nat} (hw : wfT t) : (fdN t 4000).1 = true ∧ (fdN t 4000).2.1 = (fcN t (2 ^ (2 * t 2))).2 := by
  have h1 := hw.2.2.1
  have h4 := hw.2.2.2.1
  obtain ⟨q0, q0l, q0c⟩ := D_some h1 h4
  obtain ⟨d0, d1, d2⟩ := C_facts h1 h4 q0l q0c
  rcases fcN_inv t (2 ^ (2 * t 2)) with ⟨-, no⟩ | ⟨q, q1, q2, q3, q4, q5⟩
  · exact absurd q0c (no q0 q0l)
  rcases fdN_inv t 4000 with ⟨-, no⟩ | ⟨d, e1, e2, e3, e4, e5, e6⟩
  · exact absurd d0 (no _ d1)
  refine ⟨e3, ?_⟩
  obtain ⟨a1, a2, a3⟩ := C_facts h1 h4 q1 q2
  obtain ⟨p, p1, p2, p3⟩ := D_facts h1 h4 e1 e2
  obtain ⟨b1, b2, b3⟩ := C_facts h1 h4 p1 p2
  have sa : fS t (oD (t 2) (dgC q (t 2))) = fS t (oC q) := fS_cg h1 (fun i hi => (a3 i hi).1)
  have sb : fS t (oD (t 2) (dgC p (t 2))) = fS t (oC p) := fS_cg h1 (fun i hi => (b3 i hi).1)
  rw [p3] at sb
  have x1 := q5 p p1 p2
  have x2 := e6 _ a2 a1
  rw [e4, q4]
  rw [p3] at x1
  rw [sa, sb] at x2
  omega
theorem cmp_gt {v m : Nat} (hv : v < 2 ^ 30) (hm : m < 2 ^ 30) : (nI m - nI 1 < nI v) = (m < v + 1) := by
  apply propext
  rw [Int32.lt_iff_toInt_lt, pk_sub_toInt hm (by decide), nI_toInt (by omega)]
  omega
theorem cmp_eq2 {v m : Nat} (hv : v < 2 ^ 30) (hm : m < 2 ^ 30) : (nI v = nI m - nI 1) = (m = v + 1) := by
  apply propext
  rw [← Int32.toInt_inj, pk_sub_toInt hm (by decide), nI_toInt (by omega)]
  omega
theorem cmp_ls {A a b : Nat} (hA : A < 2 ^ 30) (ha : a < 2 ^ 30) (hb : b < 2 ^ 30) : (nI A - nI a ≤ nI A - nI b) = (b ≤ a) := by
  apply propext
  rw [Int32.le_iff_toInt_le, pk_sub_toInt hA ha, pk_sub_toInt hA hb]
  omega
section FAR
variable {L : Nat} {M : Nat → Nat → Int32} {t : Nat → Nat} {z : Int32} {sp : Nat → Int32} {c : Nat}
theorem k_of_l {q : Nat} (hq : q < 2 ^ 8) (hw : wfT t) {M0 : Nat → Nat → Int32} (hE : rE M0 2 t z sp) : ∀ (k n : Nat) (M : Nat → Nat → Int32), n + k = t 2 → frc 35 35 M0 M → (∀ i, i < n → M 35 i = nI (oC q i)) → ∃ M', R 117 4 [.ref 1, .int (nI q), .int (nI (tlC q n)), .int (nI n)] [] (SH L, M) = some (some (.int (if isC (t 2) q = true then nI 1 else nI 0)), (SH L, M')) ∧ frc 35 35 M0 M' ∧ ∀ i, i < t 2 → M' 35 i = nI (oC q i) := by
  have hH := hw.2.2.2.1
  have hH1 := hw.2.2.1
  have tl : ∀ n, n ≤ 4 → tlC q n < 2 ^ 4 := by
    intro n
    induction n with
    | zero => intro _; exact (by decide : (0 : Nat) < 2 ^ 4)
    | succ n ih =>
      intro hn
      rw [tlC]
      exact Nat.or_lt_two_pow (ih (by omega)) (Nat.pow_lt_pow_right (by decide) (oC_lt q n))
  intro k
  induction k with
  | zero =>
    intro n M hn f hi
    have h2 : n = t 2 := by omega
    subst h2
    have E := rE_frc hE f (by omega)
    have tn := tl (t 2) hH
    have p2 : 2 ^ t 2 ≤ 16 := (Nat.pow_le_pow_right (by decide) hH : 2 ^ t 2 ≤ 2 ^ 4)
    refine ⟨M, ?_, f, hi⟩
    rw [r117_4]
    simp (disch := omega) only [r117_5, r117_6, r117_9, r117_12, r117_15, r117_16, r117_19, r117_20, r117_21, r117_22, r117_23, r117_24, r117_25, r117_26, r117_27, r117_28, r117_29, r117_30, r117_31, r117_34, r117_35, r117_36, r117_37, r117_38, r117_39, r117_42, r117_45, r117_46, r117_47, r117_48, r117_51, r117_54, r117_55, r117_56, r117_57, r117_60, r117_61, r117_64, E.h, nI_le'', Nat.le_refl, if_true, nI_shl1, pk_sub (show 1 ≤ 2 ^ t 2 from Nat.one_le_two_pow), nI_eq']
    by_cases q1 : tlC q (t 2) = 2 ^ t 2 - 1
    · have : isC (t 2) q = true := by unfold isC; rw [q1]; exact beq_self_eq_true _
      rw [if_pos q1, if_pos this]; simp only [r117_65_0, r117_65_1]
    · have : ¬ isC (t 2) q = true := fun z => q1 (by unfold isC at z; simpa using z)
      rw [if_neg q1, if_neg this]; simp only [r117_65_0, r117_65_1]
  | succ k ih =>
    intro n M hn f hi
    have E := rE_frc hE f (by omega)
    have on := oC_lt q n
    have a1 : nI q >>> (nI (2 * n) &&& 31) &&& nI 3 = nI (oC q n) := by
      rw [nI_shr (by omega) (by omega), nI_and]
      rfl
    obtain ⟨M', e, f', g⟩ := ih (n + 1) (upd2 M 35 n (nI (oC q n))) (by omega) (frc_up f (by omega) (by omega)) (fun i hi2 => by
      by_cases q1 : i = n
      · rw [q1, upd2_eq]
      · rw [upd2_ne (Or.inr q1)]; exact hi i (by omega))
    have u1 : upd2 M 35 n (nI (oC q n)) 35 n = nI (oC q n) := upd2_eq
    refine ⟨M', ?_, f', g⟩
    rw [r117_4]
    simp (disch := omega) only [r117_5, r117_6, r117_9, r117_12, r117_15, r117_16, r117_19, r117_20, r117_21, r117_22, r117_23, r117_24, r117_25, r117_26, r117_27, r117_28, r117_29, r117_30, r117_31, r117_34, r117_35, r117_36, r117_37, r117_38, r117_39, r117_42, E.h, nI_le'', show ¬ t 2 ≤ n from by omega, if_false, pk_mul, a1, u1, nI_shl1, nI_or, nI_add]
    exact e
theorem k_dg_l {q : Nat} (hw : wfT t) (hE : rE M 2 t z sp) (ho : ∀ i, i < t 2 → M 35 i = nI (oC q i)) : ∀ (k n : Nat), n + k = t 2 → R 118 4 [.ref 1, .int (nI (dgC q n)), .int (nI n)] [] (SH L, M) = some (some (.int (nI (dgC q (t 2)))), (SH L, M)) := by
  have hH := hw.2.2.2.1
  intro k
  induction k with
  | zero =>
    intro n hn
    rw [r118_4]
    simp (disch := omega) only [r118_5, r118_6, r118_9, r118_12, r118_33, r118_34, hE.h, nI_le'', show t 2 ≤ n from by omega, if_true]
    rw [show n = t 2 by omega]
  | succ k ih =>
    intro n hn
    rw [r118_4]
    simp (disch := omega) only [r118_5, r118_6, r118_9, r118_12, r118_15, r118_16, r118_18, r118_19, r118_20, r118_23, r118_24, r118_25, r118_26, r118_27, r118_30, hE.h, nI_le'', show ¬ t 2 ≤ n from by omega, if_false, ho n, pk_mul, nI_add]
    exact ih (n + 1) (by omega)
theorem fcN_le (hw : wfT t) : ∀ n, (fcN t n).1 ≤ 7129 ∧ (fcN t n).2 < 4444 := by
  intro n
  induction n with
  | zero => exact ⟨Nat.zero_le _, (by decide : (0 : Nat) < 4444)⟩
  | succ n ih =>
    have := fS_le hw (oC n)
    have := dgC_lt n (t 2) hw.2.2.2.1
    rw [fcN]
    split
    · exact ⟨by show fS t (oC n) + 1 ≤ 7129; omega, by show dgC n (t 2) < 4444; omega⟩
    · exact ih
theorem k_fair_l {M0 : Nat → Nat → Int32} (h0 : IV M0 t z sp c) : ∀ (k n : Nat) (M : Nat → Nat → Int32) (v5 v6 : Value), n + k = 2 ^ (2 * t 2) → fC M0 M → DI M t c → M 34 = M0 34 → ∃ M', R 81 19 [.ref 1, .int (nI (2 ^ (2 * t 2))), .int (nI (fcN t n).1 - nI 1), .int (nI (fcN t n).2), .int (nI n), v5, v6] [] (SH L, M) = some (some (.int (nI (fcN t (2 ^ (2 * t 2))).2)), (SH L, M')) ∧ fC M0 M' ∧ DI M' t c ∧ M' 34 = M0 34 := by
  have hH := h0.w.2.2.2.1
  have hH1 := h0.w.2.2.1
  have hcb := h0.cb
  have hal := allT_lt h0.w
  have p8 : 2 ^ (2 * t 2) ≤ 256 := (Nat.pow_le_pow_right (by decide) (by omega) : 2 ^ (2 * t 2) ≤ 2 ^ 8)
  intro k
  induction k with
  | zero =>
    intro n M v5 v6 hn f d q
    refine ⟨M, ?_, f, d, q⟩
    rw [r81_19]
    simp (disch := omega) only [r81_21, r81_22, r81_101, r81_102, nI_le'', show 2 ^ (2 * t 2) ≤ n from by omega, if_true]
    rw [show n = 2 ^ (2 * t 2) by omega]
  | succ k ih =>
    intro n M v5 v6 hn f d q
    have h := IV_s h0 f d q
    obtain ⟨M1, e1, f1, g1⟩ := k_of_l (L := L) (q := n) (by omega) h0.w h.e (t 2) 0 M (Nat.zero_add _) frc_rf (fun i hi => absurd hi (Nat.not_lt_zero _))
    rw [tlC] at e1
    have e1' : R 117 0 [.ref 1, .int (nI n), .null, .null] [] (SH L, M) = some (some (.int (if isC (t 2) n = true then nI 1 else nI 0)), (SH L, M1)) := by
      simp only [r117_0, r117_1, r117_2, r117_3]
      exact e1
    have fM1 : fC M0 M1 := fC_tr f (fC_1 f1 (a := 35) (by omega))
    have dM1 : DI M1 t c := DI_frc d f1 (by omega)
    have qM1 : M1 34 = M0 34 := by rw [f1 34 (by omega), q]
    by_cases hc : isC (t 2) n = true
    · obtain ⟨-, -, cf⟩ := C_facts hH1 hH (show n < 2 ^ (2 * t 2) by omega) hc
      have E1 : rE M1 2 t z sp := rE_frc h.e f1 (by omega)
      obtain ⟨M2, e2, f2, d2, g2⟩ := s_divide (L := L) E1 h0.w (o := fun i => if i < t 2 then oC n i else (M1 35 i).toBitVec.toNat) (a := 35) (n := t 2) (s := allT t) isO_35 (fun i hi => by show (if i < t 2 then oC n i else _) < t 2; rw [if_pos hi]; exact (cf i hi).2.1) (Nat.le_refl _) hH1 (fun i hi => by
        show M1 35 i = nI (if i < t 2 then oC n i else (M1 35 i).toBitVec.toNat)
        by_cases y : i < t 2
        · rw [if_pos y]; exact g1 i y
        · rw [if_neg y]; exact toNat_nI _) (by rw [f1 2 (by omega)]; exact h.cc) (by omega) dM1 hal.2
      have E2 : rE M2 2 t z sp := rE_frc E1 f2 (by omega)
      have gs := shN_lt (val t) (rw_ (fun i => if i < t 2 then oC n i else (M1 35 i).toBitVec.toNat) (t 2)) (t 2 - 1) (allT t) (fun _ => 0) hal.2 (fun _ => (show (0 : Nat) < 512 by decide))
      have sm := k_sum (L := L) E2 h0.w g2 gs
      have fs : suN t (shN (val t) (rw_ (fun i => if i < t 2 then oC n i else (M1 35 i).toBitVec.toNat) (t 2)) (t 2 - 1) (allT t) (fun _ => 0)) (t 2) = fS t (oC n) := fS_cg (o := fun i => if i < t 2 then oC n i else (M1 35 i).toBitVec.toNat) hH1 (fun i hi => if_pos hi)
      rw [fs] at sm
      have dg := k_dg_l (L := L) (M := M2) (q := n) h0.w E2 (fun i hi => by rw [f2 35 (by omega)]; exact g1 i hi) (t 2) 0 (Nat.zero_add _)
      rw [dgC] at dg
      have dg' : R 118 0 [.ref 1, .null, .null] [] (SH L, M2) = some (some (.int (nI (dgC n (t 2)))), (SH L, M2)) := by
        simp only [r118_0, r118_1, r118_2, r118_3]
        exact dg
      have h7 : M1 2 7 = nI (t 2) := E1.h
      have fl := fcN_le h0.w n
      have sl := fS_le h0.w (oC n)
      have dl := dgC_lt n (t 2) hH
      have iH := ih (n + 1) M2 (.int (nI (fS t (oC n)))) (.int (nI (dgC n (t 2)))) (by omega) (fC_tr fM1 (fC_of f2 (by omega))) d2 (by rw [f2 34 (by omega), qM1])
      rw [fcN] at iH
      rw [r81_19]
      simp (disch := first | exact isO_35 | omega) only [r81_21, r81_22, r81_25, r81_26, r81_28, r81_31, r81_34, r81_35, r81_38, r81_39, r81_42, r81_43, r81_46, r81_49, r81_50, r81_53, r81_56, r81_59, r81_60, r81_63, r81_65, r81_66, r81_69, r81_71, r81_73, r81_74, nI_le'', show ¬ 2 ^ (2 * t 2) ≤ n from by omega, if_false, e1', if_pos hc, nz1, h7, s_all isE_2 E1 h0.w, e2, sm, dg', Option.bind_some, vtl_some, vtl_none, cmp_gt]
      by_cases c1 : (fcN t n).1 < fS t (oC n) + 1
      · rw [if_pos ⟨hc, Or.inl c1⟩] at iH
        rw [if_pos c1]
        simp only [r81_89, r81_91, r81_92, r81_94, r81_95, r81_98, nI_add]
        simp only at iH
        rw [pk_sub (show 1 ≤ fS t (oC n) + 1 by omega), Nat.add_sub_cancel] at iH
        exact iH
      · rw [if_neg c1]
        simp (disch := omega) only [r81_77, r81_79, r81_80, r81_83, r81_85, r81_86, cmp_eq2, nI_le'']
        by_cases c2 : (fcN t n).1 = fS t (oC n) + 1
        · rw [if_pos c2]
          by_cases c3 : (fcN t n).2 ≤ dgC n (t 2)
          · rw [if_neg (by omega)] at iH
            rw [if_pos c3]
            simp only [r81_95, r81_98, nI_add]
            exact iH
          · rw [if_pos ⟨hc, Or.inr ⟨c2, by omega⟩⟩] at iH
            rw [if_neg c3]
            simp only [r81_89, r81_91, r81_92, r81_94, r81_95, r81_98, nI_add]
            simp only at iH
            rw [pk_sub (show 1 ≤ fS t (oC n) + 1 by omega), Nat.add_sub_cancel] at iH
            exact iH
        · rw [if_neg (by omega)] at iH
          rw [if_neg c2]
          simp only [r81_95, r81_98, nI_add]
          exact iH
    · have iH := ih (n + 1) M1 v5 v6 (by omega) fM1 dM1 qM1
      rw [fcN, if_neg (fun y => hc y.1)] at iH
      rw [r81_19]
      simp (disch := omega) only [r81_21, r81_22, r81_25, r81_26, r81_28, r81_31, r81_95, r81_98, nI_le'', show ¬ 2 ^ (2 * t 2) ≤ n from by omega, if_false, e1', if_neg hc, nz0, if_true, Option.bind_some, vtl_some, nI_add]
      exact iH
theorem tlD_lt (d : Nat) : ∀ n, tlD d n < 2 ^ 10 := by
  intro n
  induction n with
  | zero => exact (by decide : (0 : Nat) < 2 ^ 10)
  | succ n ih =>
    rw [tlD]
    exact Nat.or_lt_two_pow ih (Nat.pow_lt_pow_right (by decide) (Nat.mod_lt _ (by decide)))
theorem nz10 : ¬ nI 10 = (0 : Int32) := by decide +kernel
theorem q_to_l {H d : Nat} (h1 : 1 ≤ H) (h4 : H ≤ 4) (hd : d < 4000) {M0 : Nat → Nat → Int32} (h2 : M0 37 2 = nI H) : ∀ (r j : Nat) (M : Nat → Nat → Int32), r + j = H → (∀ k i, (k ≠ 37 ∨ i < 5 ∨ 5 + H ≤ i) → M k i = M0 k i) → (∀ i, r ≤ i → i < H → M 37 (5 + i) = nI (oD H d i)) → ∃ M', R 180 14 [.ref 36, .int (nI d), .int (nI (tlD d j)), .int (nI (d / 10 ^ j)), .int (nI r + (-1))] [] (SH L, M) = some (some (.int (if isD H d = true then nI 1 else nI 0)), (SH L, M')) ∧ (∀ k i, (k ≠ 37 ∨ i < 5 ∨ 5 + H ≤ i) → M' k i = M0 k i) ∧ ∀ i, i < H → M' 37 (5 + i) = nI (oD H d i) := by
  intro r
  induction r with
  | zero =>
    intro j M hj f hi
    have : j = H := by omega
    subst this
    have tn := tlD_lt d j
    have p2 : 2 ^ j ≤ 16 := (Nat.pow_le_pow_right (by decide) h4 : 2 ^ j ≤ 2 ^ 4)
    have dv : d / 10 ^ j ≤ d := Nat.div_le_self _ _
    have m2 : M 37 2 = nI j := by rw [f 37 2 (by omega)]; exact h2
    refine ⟨M, ?_, f, fun i hi2 => hi i (by omega) hi2⟩
    rw [r180_14]
    simp (disch := omega) only [r180_16, dn0, if_true]
    simp (disch := omega) only [r180_52, r180_53, r180_56, r180_57, r180_58, r180_59, r180_62, r180_63, r180_64, r180_65, r180_66, r180_67, r180_70, r180_71, r180_74, nI_eq0, m2, nI_shl1, pk_sub (show 1 ≤ 2 ^ j from Nat.one_le_two_pow), nI_eq']
    by_cases q1 : d / 10 ^ j = 0
    · rw [if_pos q1]
      by_cases q2 : tlD d j = 2 ^ j - 1
      · have : isD j d = true := by unfold isD; rw [q1, q2]; simp
        rw [if_pos q2, if_pos this]; simp only [r180_75_0, r180_75_1]
      · have : ¬ isD j d = true := fun y => q2 (by unfold isD at y; rw [Bool.and_eq_true] at y; simpa using y.2)
        rw [if_neg q2, if_neg this]; simp only [r180_75_0, r180_75_1]
    · have : ¬ isD j d = true := fun y => q1 (by unfold isD at y; rw [Bool.and_eq_true] at y; simpa using y.1)
      rw [if_neg q1, if_neg this]; simp only [r180_75_0, r180_75_1]
  | succ r ih =>
    intro j M hj f hi
    have tn := tlD_lt d j
    have dv : d / 10 ^ j ≤ d := Nat.div_le_self _ _
    have md := Nat.mod_lt (d / 10 ^ j) (show 0 < 10 by decide)
    have oe : oD H d r = d / 10 ^ j % 10 := by unfold oD; rw [show H - 1 - r = j by omega]
    have de : d / 10 ^ (j + 1) = d / 10 ^ j / 10 := by rw [Nat.pow_succ, Nat.div_div_eq_div_mul]
    obtain ⟨M', e, f', g⟩ := ih (j + 1) (upd2 M 37 (5 + r) (nI (d / 10 ^ j % 10))) (by omega) (fun k i h => by rw [upd2_ne (by omega)]; exact f k i h) (fun i h5 h6 => by
      by_cases q : i = r
      · subst q; rw [upd2_eq, oe]
      · rw [upd2_ne (Or.inr (by omega))]; exact hi i (by omega) h6)
    refine ⟨M', ?_, f', g⟩
    rw [tlD, de] at e
    have mr : nI (d / 10 ^ j) - nI (d / 10 ^ j / 10) * nI 10 = nI (d / 10 ^ j % 10) := by
      have := pk_rem (a := d / 10 ^ j) (d := 10) (by omega) (by decide) (by decide)
      rw [pk_div (a := d / 10 ^ j) (d := 10) (by omega) (by decide) (by decide)] at this
      exact this
    rw [nI_dec, r180_14]
    simp (disch := omega) only [r180_16, r180_19, r180_20, r180_23, r180_24, r180_26, r180_27, r180_28, r180_31, r180_32, r180_33, r180_34, r180_35, r180_38, r180_39, r180_40, r180_41, r180_42, r180_45, r180_30 nz10, r180_37 nz10, r180_44 nz10, nI_lt0, if_false, nI_add, mr, pk_div, nI_shl1, nI_or]
    simp only [r180_46, r180_49]
    exact e
end FAR
section FAS
variable {L : Nat} {M : Nat → Nat → Int32} {t : Nat → Nat} {z : Int32} {sp : Nat → Int32} {c : Nat}
/-- the numbers with another order -/
def oT (t o : Nat → Nat) : Nat → Nat := fun k => if 5 ≤ k ∧ k < 5 + t 2 then o (k - 5) else t k
theorem oT_n {o : Nat → Nat} {k : Nat} (h : k < 5 ∨ 5 + t 2 ≤ k) : oT t o k = t k := if_neg (by omega)
theorem oT_o {o : Nat → Nat} {i : Nat} (h : i < t 2) : oT t o (5 + i) = o i := by
  unfold oT
  rw [if_pos (by omega), Nat.add_sub_cancel_left]
theorem q_fair_1 (hw : wfT t) {M0 : Nat → Nat → Int32} (hs0 : rS M0 t) (h45 : ∀ h', h' < t 2 → ∀ s, s < 2 ^ t 1 → M0 45 (512 * h' + s) = nI (val t h' s)) {n : Nat} (hn : n < 4000) (hD : isD (t 2) n = true) {M : Nat → Nat → Int32} (f : ∀ k i, (k ≠ 37 ∨ i < 5 ∨ 5 + t 2 ≤ i) → (k < 41 ∨ k = 45 ∨ 47 < k) → M k i = M0 k i) (g : ∀ i, i < t 2 → M 37 (5 + i) = nI (oD (t 2) n i)) {v1 v2 v4 : Value} : ∃ M', R 181 29 [.ref 36, v1, v2, .int (nI n), v4] [] (SH L, M) = R 181 59 [.ref 36, v1, v2, .int (nI n), .int (nI (val t (dea t (allT t)) (allT t)) - nI (fS t (oD (t 2) n)))] [] (SH L, M') ∧ (∀ k, (k < 41 ∨ k = 45 ∨ 47 < k) → M' k = M k) := by
  have hH := hw.2.2.2.1
  have hH1 := hw.2.2.1
  have hP := hw.2.1
  obtain ⟨q, q1, q2, q3⟩ := D_facts hH1 hH hn hD
  obtain ⟨-, -, cf⟩ := C_facts hH1 hH q1 q2
  rw [q3] at cf
  have e2 : oT t (oD (t 2) n) 2 = t 2 := oT_n (by omega)
  have e1 : oT t (oD (t 2) n) 1 = t 1 := oT_n (by omega)
  have hwq : wfT (oT t (oD (t 2) n)) := wfT_of hw (by rw [oT_n (by omega)]; exact hw.1) e1 (by rw [e2]; exact ⟨hH1, hH⟩) (by rw [oT_n (by omega)]; exact hw.2.2.2.2.1) (fun i hi => oT_n (by omega)) (fun i hi => by
    by_cases y : i < t 2
    · rw [oT_o y]; have := (cf i y).2.1; have := (cf i y).1; omega
    · rw [oT_n (by omega)]; exact hw.2.2.2.2.2.2 i hi)
  have hOq : wfO (oT t (oD (t 2) n)) := by
    refine ⟨fun i hi => ?_, fun i j hi hj y => ?_⟩
    · rw [e2] at hi ⊢
      rw [oT_o hi]; have := (cf i hi).2.1; have := (cf i hi).1; omega
    · rw [e2] at hi hj
      rw [oT_o hi, oT_o hj, (cf i hi).1, (cf j hj).1] at y
      exact (cf i hi).2.2 j hj y
  have ev : val (oT t (oD (t 2) n)) = val t := val_cg (fun k hk k2 => oT_n (by omega))
  have ea : allT (oT t (oD (t 2) n)) = allT t := allT_cg e1
  have hal := allT_lt hw
  have hs : rS M (oT t (oD (t 2) n)) := fun k hk k4 => by
    by_cases y : 5 ≤ k ∧ k < 5 + t 2
    · obtain ⟨i, rfl⟩ : ∃ i, k = 5 + i := ⟨k - 5, by omega⟩
      rw [oT_o (by omega)]; exact g i (by omega)
    · rw [oT_n (by omega), f 37 k (by omega) (by omega)]; exact hs0 k hk k4
  have hW : WO M (oT t (oD (t 2) n)) := fun p hp s hs => by
    rw [e2] at hp
    rw [e1] at hs
    rw [ev, oT_o hp, f 45 _ (by omega) (by omega)]
    have := (cf p hp).2.1; have := (cf p hp).1
    exact h45 _ (by omega) s hs
  obtain ⟨M1, y1, u1, l1⟩ := s_findLater (L := L) hwq hs hW
  have hs1 := rS_frc hs u1 (by omega)
  obtain ⟨M2, y2, u2, l2, c2⟩ := s_findFirst (L := L) hwq hs1 l1 (s := allT t) (by rw [e1]; exact hal.1)
  have hs2 := rS_frc hs1 u2 (by omega)
  obtain ⟨M3, y3, u3, i3⟩ := s_shareOut (L := L) hwq hs2 l2 (s := allT t) (by rw [e1]; exact hal.1) c2
  have hs3 := rS_frc hs2 u3 (by omega)
  have lo := q_lostNow (L := L) hs3 hwq (sh := sha (oT t (oD (t 2) n)) (allT t)) (fun x hx => i3 x (by rw [e2] at hx; omega) (ord_all hwq hOq hx)) (sha_lt _ hal.2) hal.2
  have ed : dea (oT t (oD (t 2) n)) (allT t) = dea t (allT t) := by
    unfold dea
    rw [e2]
    have : ∀ m, deaN (oT t (oD (t 2) n)) (allT t) m = deaN t (allT t) m := by
      intro m
      induction m with
      | zero => rfl
      | succ m ih => rw [deaN, deaN, ih, ev]
    exact this _
  have su : ∀ sh m, suN (oT t (oD (t 2) n)) sh m = suN t sh m := by
    intro sh m
    induction m with
    | zero => rfl
    | succ m ih => rw [suN, suN, ih, ev]
  have es : suN t (sha (oT t (oD (t 2) n)) (allT t)) (t 2) = fS t (oD (t 2) n) := by
    unfold fS sha
    rw [ev, e2]
    rw [shN_cg (r := rwT (oT t (oD (t 2) n))) (r' := rw_ (oD (t 2) n) (t 2)) (t 2 - 1) (allT t) (fun _ => 0) (fun i hi => by
      show oT t (oD (t 2) n) (5 + (oT t (oD (t 2) n) 2 - 1 - i)) = oD (t 2) n (t 2 - 1 - i)
      rw [e2, oT_o (by omega)])]
  rw [ev, ed, su, e2, es] at lo
  refine ⟨M3, ?_, fun k hk => by rw [u3 k (by omega), u2 k (by omega), u1 k (by omega)]⟩
  have v1 := s_everything (L := L) hs1 hwq
  have v2 := s_everything (L := L) hs2 hwq
  have v3 := s_everything (L := L) hs3 hwq
  rw [ea] at v1 v2 v3
  simp (disch := omega) only [r181_29, r181_30, r181_33, r181_34, r181_35, r181_38, r181_41, r181_42, r181_43, r181_46, r181_49, r181_50, r181_51, r181_54, r181_57, y1, v1, y2, v2, y3, v3, lo, Option.bind_some, vtl_some, vtl_none]
theorem q_fair_l (hw : wfT t) {M0 : Nat → Nat → Int32} (hs0 : rS M0 t) (h45 : ∀ h', h' < t 2 → ∀ s, s < 2 ^ t 1 → M0 45 (512 * h' + s) = nI (val t h' s)) : ∀ (k n : Nat) (M : Nat → Nat → Int32) (v4 : Value) (ls : Int32), n + k = 4000 → (∀ k i, (k ≠ 37 ∨ i < 5 ∨ 5 + t 2 ≤ i) → (k < 41 ∨ k = 45 ∨ 47 < k) → M k i = M0 k i) → ((fdN t n).1 = true → ls = nI (val t (dea t (allT t)) (allT t)) - nI (fdN t n).2.2) → ∃ M' ls' v4', R 181 14 [.ref 36, .int (if (fdN t n).1 = true then nI (fdN t n).2.1 else -1), .int ls, .int (nI n), v4] [] (SH L, M) = R 181 80 [.ref 36, .int (if (fdN t 4000).1 = true then nI (fdN t 4000).2.1 else -1), .int ls', .int (nI 4000), v4'] [] (SH L, M') ∧ (∀ k i, (k ≠ 37 ∨ i < 5 ∨ 5 + t 2 ≤ i) → (k < 41 ∨ k = 45 ∨ 47 < k) → M' k i = M0 k i) := by
  have hH := hw.2.2.2.1
  have hH1 := hw.2.2.1
  have hd4 : dea t (allT t) < 4 := by have := deaN_le t (allT t) (t 2 - 1); unfold dea; omega
  have vA := val_le hw hd4 (allT t)
  have bl : ∀ n, (fdN t n).2.2 ≤ 7128 ∧ (fdN t n).2.1 ≤ n := by
    intro n
    induction n with
    | zero => exact ⟨Nat.zero_le _, Nat.le_refl _⟩
    | succ n ih =>
      have := fS_le hw (oD (t 2) n)
      rw [fdN]
      split
      · exact ⟨this, Nat.le_succ n⟩
      · exact ⟨ih.1, by omega⟩
  have m10 : ((-1 : Int32) < 0) = True := by decide +kernel
  intro k
  induction k with
  | zero =>
    intro n M v4 ls hn f hl
    refine ⟨M, ls, v4, ?_, f⟩
    rw [r181_14]
    simp (disch := omega) only [r181_15, r181_18, nI_le'', show 4000 ≤ n from by omega, if_true]
    rw [show n = 4000 by omega]
  | succ k ih =>
    intro n M v4 ls hn f hl
    have m2 : M 37 2 = nI (t 2) := by rw [f 37 2 (by omega) (by omega)]; exact hs0 2 (by omega) (by omega)
    obtain ⟨M1, e1, f1, g1⟩ := q_to_l (L := L) (H := t 2) (d := n) hH1 hH (by omega) m2 (t 2) 0 M (Nat.add_zero _) (fun _ _ _ => rfl) (fun i h5 h6 => absurd h6 (by omega))
    have e1' : R 180 0 [.ref 36, .int (nI n), .null, .null, .null] [] (SH L, M) = some (some (.int (if isD (t 2) n = true then nI 1 else nI 0)), (SH L, M1)) := by
      have dk : nI (t 2) + (-1) = nI (t 2 - 1) := by
        obtain ⟨j, hj⟩ : ∃ j, t 2 = j + 1 := ⟨t 2 - 1, by omega⟩
        rw [hj, nI_dec, Nat.add_sub_cancel]
      rw [dk, tlD, Nat.pow_zero, Nat.div_one] at e1
      simp (disch := omega) only [r180_0, r180_1, r180_2, r180_3, r180_4, r180_5, r180_8, r180_9, r180_10, r180_11, r180_12, m2, pk_sub hH1]
      exact e1
    have fM1 : ∀ k i, (k ≠ 37 ∨ i < 5 ∨ 5 + t 2 ≤ i) → (k < 41 ∨ k = 45 ∨ 47 < k) → M1 k i = M0 k i := fun k i h5 h6 => by rw [f1 k i h5]; exact f k i h5 h6
    have bn := bl n
    by_cases hD : isD (t 2) n = true
    · obtain ⟨M2, e2, f2⟩ := q_fair_1 (L := L) hw hs0 h45 (show n < 4000 by omega) hD fM1 g1 (v1 := .int (if (fdN t n).1 = true then nI (fdN t n).2.1 else -1)) (v2 := .int ls) (v4 := v4)
      have fM2 : ∀ k i, (k ≠ 37 ∨ i < 5 ∨ 5 + t 2 ≤ i) → (k < 41 ∨ k = 45 ∨ 47 < k) → M2 k i = M0 k i := fun k i h5 h6 => by rw [f2 k h6]; exact fM1 k i h5 h6
      have sl := fS_le hw (oD (t 2) n)
      rw [r181_14]
      simp (disch := omega) only [r181_15, r181_18, r181_21, r181_22, r181_23, r181_26, nI_le'', show ¬ 4000 ≤ n from by omega, if_false, e1', if_pos hD, nz1, Option.bind_some, vtl_some]
      rw [e2]
      have iH := ih (n + 1) M2 (.int (nI (val t (dea t (allT t)) (allT t)) - nI (fS t (oD (t 2) n))))
      rw [fdN] at iH
      cases hb : (fdN t n).1 with
      | false =>
        rw [if_pos ⟨hD, Or.inl hb⟩] at iH
        obtain ⟨M', ls', v4', e, f'⟩ := iH (nI (val t (dea t (allT t)) (allT t)) - nI (fS t (oD (t 2) n))) (by omega) fM2 (fun _ => rfl)
        refine ⟨M', ls', v4', ?_, f'⟩
        rw [← e]
        simp (disch := omega) only [r181_59, r181_60, Bool.false_eq_true, if_false, m10, if_true]
        simp only [r181_69, r181_70, r181_71, r181_73, r181_74, r181_77, nI_add]
      | true =>
        rw [hl hb]
        simp (disch := omega) only [r181_59, r181_60, r181_63, r181_65, r181_66, if_true, nI_lt0, if_false, cmp_ls]
        by_cases c1 : fS t (oD (t 2) n) ≤ (fdN t n).2.2
        · rw [if_neg (fun y => y.2.elim (fun y2 => by rw [hb] at y2; cases y2) (fun y2 => by omega)), hb] at iH
          obtain ⟨M', ls', v4', e, f'⟩ := iH (nI (val t (dea t (allT t)) (allT t)) - nI (fdN t n).2.2) (by omega) fM2 (fun _ => rfl)
          refine ⟨M', ls', v4', ?_, f'⟩
          rw [← e, if_pos c1]
          simp only [r181_74, r181_77, nI_add, if_true]
        · rw [if_pos ⟨hD, Or.inr (by omega)⟩] at iH
          obtain ⟨M', ls', v4', e, f'⟩ := iH (nI (val t (dea t (allT t)) (allT t)) - nI (fS t (oD (t 2) n))) (by omega) fM2 (fun _ => rfl)
          refine ⟨M', ls', v4', ?_, f'⟩
          rw [← e, if_neg c1]
          simp only [r181_69, r181_70, r181_71, r181_73, r181_74, r181_77, nI_add, if_true]
    · have iH := ih (n + 1) M1 v4 ls (by omega) fM1
      rw [fdN, if_neg (fun y => hD y.1)] at iH
      obtain ⟨M', ls', v4', e, f'⟩ := iH hl
      refine ⟨M', ls', v4', ?_, f'⟩
      rw [← e, r181_14]
      simp (disch := omega) only [r181_15, r181_18, r181_21, r181_22, r181_23, r181_26, r181_74, r181_77, nI_le'', show ¬ 4000 ≤ n from by omega, if_false, e1', if_neg hD, nz0, if_true, Option.bind_some, vtl_some, nI_add]
theorem c_fair (h : IV M t z sp c) : OK L M c (fun M => R 81 0 [.ref 1, .null, .null, .null, .null, .null, .null] [] (SH L, M)) (fun M => R 181 0 [.ref 36, .null, .null, .null, .null] [] (SH L, M)) := by
  have hH := h.w.2.2.2.1
  have hH1 := h.w.2.2.1
  obtain ⟨M1, e1, f1, d1, q1⟩ := k_fair_l (L := L) h (2 ^ (2 * t 2)) 0 M .null .null (Nat.zero_add _) fC_rf h.d rfl
  obtain ⟨s1, s2⟩ := f_same h.w
  refine okVc h (r := nI (fcN t (2 ^ (2 * t 2))).2) (M1 := M1) ?_ f1 d1 q1 (fun hs1 => ?_)
  · simp (disch := omega) only [r81_0, r81_1, r81_2, r81_3, r81_6, r81_9, r81_10, r81_11, r81_12, r81_13, r81_14, r81_15, r81_16, r81_17, h.e.h, pk_mul, nI_shl1]
    rw [m1_lit]
    exact e1
  · have hs2 : rS (cpN M1 39 37 91) t := fun k h1 h2 => by rw [cpN_o (by omega)]; exact hs1 k h1 h2
    obtain ⟨M2, e2, f2, -, w2⟩ := s_findWorths (L := L) h.w hs2
    obtain ⟨M3, ls', v4', e3, f3⟩ := q_fair_l (L := L) h.w (rS_fr hs2 f2) w2 4000 0 M2 .null (nI 0) (Nat.zero_add _) (fun _ _ _ _ => rfl) (fun y => by cases y)
    rw [s1, s2] at e3
    have e3' : R 181 14 [.ref 36, .int (-1), .int (nI 0), .int (nI 0), .null] [] (SH L, M2) = R 181 80 [.ref 36, .int (nI (fcN t (2 ^ (2 * t 2))).2), .int ls', .int (nI 4000), v4'] [] (SH L, M3) := e3
    refine ⟨cpN M3 37 39 91, ?_, fun b hb => ?_, ?_⟩
    · simp (disch := omega) only [r181_0, r181_1, r181_4, r181_5, r181_8, r181_9, r181_10, r181_11, r181_12, r181_13, q_saves, e2, Option.bind_some, vtl_none]
      rw [e3']
      simp (disch := omega) only [r181_80, r181_81, r181_84, r181_85, q_putsBack, Option.bind_some, vtl_none]
    · by_cases q : b = 37
      · subst q
        funext i
        by_cases y : i < 91
        · rw [cpN_in y, f3 39 i (by omega) (by omega), f2 39 (by omega), cpN_in y]
        · show (if 37 = 37 ∧ i < 91 then _ else M3 37 i) = _
          rw [if_neg (fun y2 => y y2.2), f3 37 i (by omega) (by omega), f2 37 (by omega), cpN_o (by omega)]
      · funext i
        rw [cpN_o q, f3 b i (by omega) (by omega), f2 b (by omega), cpN_o (by omega)]
    · funext i
      rw [cpN_o (by omega), f3 40 i (by omega) (by omega), f2 40 (by omega), cpN_o (by omega)]
end FAS
