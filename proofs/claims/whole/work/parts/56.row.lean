/-! The first row -/
abbrev fbC (t : Nat → Nat) (s : Bool × Nat × Nat) (p : Nat) : Prop := s.2.2.testBit p = true ∧ 0 < wyr t (t 1) s.2.2 p ∧ (s.1 = false ∨ jn t s.2.1 p)
def fbF (t : Nat → Nat) (s : Bool × Nat × Nat) : Nat → Nat → Nat
  | 0, p => p
  | k + 1, p => if fbC t s p then p else fbF t s k (p + 1)
theorem fbF_ge {t : Nat → Nat} {s : Bool × Nat × Nat} : ∀ k p, p ≤ fbF t s k p ∧ fbF t s k p ≤ p + k := by
  intro k
  induction k with
  | zero => intro p; exact ⟨Nat.le_refl _, Nat.le_refl _⟩
  | succ k ih =>
    intro p
    rw [fbF]
    have := ih (p + 1)
    split
    · omega
    · omega
theorem fbF_lt {t : Nat → Nat} {s : Bool × Nat × Nat} : ∀ k p, fbF t s k p < p + k → fbC t s (fbF t s k p) := by
  intro k
  induction k with
  | zero => intro p h; exact absurd h (Nat.lt_irrefl _)
  | succ k ih =>
    intro p h
    rw [fbF] at h ⊢
    by_cases q : fbC t s p
    · rw [if_pos q]; exact q
    · rw [if_neg q] at h ⊢
      exact ih (p + 1) (by omega)
theorem fbF_ex {t : Nat → Nat} {s : Bool × Nat × Nat} : ∀ k p q, p ≤ q → q < p + k → fbC t s q → fbF t s k p < p + k := by
  intro k
  induction k with
  | zero => intro p q h1 h2; omega
  | succ k ih =>
    intro p q h1 h2 h3
    rw [fbF]
    by_cases c : fbC t s p
    · rw [if_pos c]; omega
    · rw [if_neg c]
      have : p ≠ q := fun e => by subst e; exact c h3
      have := ih (p + 1) q (by omega) (by omega) h3
      omega
theorem fbF_y {t : Nat → Nat} {s : Bool × Nat × Nat} {k p : Nat} (h : fbC t s p) : fbF t s (k + 1) p = p := by rw [fbF, if_pos h]
theorem fbF_n {t : Nat → Nat} {s : Bool × Nat × Nat} {k p : Nat} (h : ¬ fbC t s p) : fbF t s (k + 1) p = fbF t s k (p + 1) := by rw [fbF, if_neg h]
def pick (t : Nat → Nat) (s : Bool × Nat × Nat) : Nat := fbF t s (t 1) 0
def stR (t : Nat → Nat) (m : Nat) : Nat → Bool × Nat × Nat
  | 0 => (false, 0, m)
  | k + 1 => (true, pick t (stR t m k), dif (stR t m k).2.2 (2 ^ pick t (stR t m k)))
def rwR (t : Nat → Nat) (m : Nat) : Nat → Nat → Option Nat
  | 0, k => some (stR t m k).2.1
  | n + 1, k => if pick t (stR t m k) < t 1 then rwR t m n (k + 1) else none
theorem rwR_none {t : Nat → Nat} {m : Nat} : ∀ n k j, k ≤ j → j < k + n → ¬ pick t (stR t m j) < t 1 → rwR t m n k = none := by
  intro n
  induction n with
  | zero => intro k j h1 h2; omega
  | succ n ih =>
    intro k j h1 h2 h3
    rw [rwR]
    by_cases e : k = j
    · subst e; rw [if_neg h3]
    · split
      · exact ih (k + 1) j (by omega) (by omega) h3
      · rfl
theorem rwR_some {t : Nat → Nat} {m : Nat} : ∀ n k, (∀ j, k ≤ j → j < k + n → pick t (stR t m j) < t 1) → rwR t m n k = some (stR t m (k + n)).2.1 := by
  intro n
  induction n with
  | zero => intro k _; rfl
  | succ n ih =>
    intro k h
    rw [rwR, if_pos (h k (Nat.le_refl _) (by omega)), ih (k + 1) (fun j h1 h2 => h j (by omega) (by omega)), show k + 1 + n = k + (n + 1) by omega]
theorem pick_C {t : Nat → Nat} {s : Bool × Nat × Nat} (h : pick t s < t 1) : fbC t s (pick t s) := fbF_lt (t 1) 0 (by rw [Nat.zero_add]; exact h)
theorem pick_ex {t : Nat → Nat} {s : Bool × Nat × Nat} {q : Nat} (hq : q < t 1) (h : fbC t s q) : pick t s < t 1 := by
  have := fbF_ex (t 1) 0 q (Nat.zero_le _) (by omega) h
  rw [Nat.zero_add] at this
  exact this
theorem stR_sub {t : Nat → Nat} {m : Nat} : ∀ j, (stR t m j).2.2 &&& m = (stR t m j).2.2 := by
  intro j
  induction j with
  | zero => exact Nat.and_self m
  | succ j ih => exact sub_tr (dif_sub _ _) ih
theorem stR_ok {t : Nat → Nat} {m : Nat} (hP : t 1 ≤ 9) (hm : m < 512) (h : 0 < sm (wyr t (t 1) m) (t 1)) : ∀ j, j < pop m → pick t (stR t m j) < t 1 ∧ pop (stR t m j).2.2 + j = pop m := by
  intro j
  induction j with
  | zero =>
    intro _
    obtain ⟨q, hq, h2⟩ := sm_pos _ h
    refine ⟨pick_ex hq ⟨?_, h2, Or.inl rfl⟩, rfl⟩
    rcases Bool.eq_false_or_eq_true (m.testBit q) with e | e
    · exact e
    · rw [wyr_out (by rw [e]; decide)] at h2
      exact absurd h2 (Nat.lt_irrefl _)
  | succ j ih =>
    intro hj
    obtain ⟨i1, i2⟩ := ih (by omega)
    obtain ⟨c1, c2, c3⟩ := pick_C i1
    have hl : (stR t m j).2.2 < 512 := Nat.lt_of_le_of_lt (sub_le (stR_sub j)) hm
    have hd := pop_dif hl (by omega) c1
    have hp : pop (stR t m (j + 1)).2.2 + (j + 1) = pop m := by
      show pop (dif (stR t m j).2.2 (2 ^ pick t (stR t m j))) + (j + 1) = pop m
      omega
    refine ⟨?_, hp⟩
    have hn : dif (stR t m j).2.2 (2 ^ pick t (stR t m j)) ≠ 0 := fun e => by
      have : pop (stR t m (j + 1)).2.2 = 0 := by
        show pop (dif (stR t m j).2.2 (2 ^ pick t (stR t m j))) = 0
        rw [e]
        exact pop_0
      omega
    rw [wyr_in c1, if_neg hn] at c2
    obtain ⟨q, hq, h2⟩ := sm_pos _ c2
    by_cases e : (dif (stR t m j).2.2 (2 ^ pick t (stR t m j))).testBit q = true ∧ jn t (pick t (stR t m j)) q
    · rw [if_pos e] at h2
      exact pick_ex hq ⟨e.1, h2, Or.inr e.2⟩
    · rw [if_neg e] at h2
      exact absurd h2 (Nat.lt_irrefl _)
theorem stR_end {t : Nat → Nat} {m : Nat} (hP : t 1 ≤ 9) (hm : m < 512) (h : 0 < sm (wyr t (t 1) m) (t 1)) : ¬ pick t (stR t m (pop m)) < t 1 := by
  intro hp
  have h0 : (stR t m (pop m)).2.2 = 0 := by
    rcases Nat.eq_zero_or_pos (pop m) with e | e
    · rw [e]
      exact pop_z' ⟨m, hm⟩ e
    · obtain ⟨j, hj⟩ : ∃ j, pop m = j + 1 := ⟨pop m - 1, by omega⟩
      obtain ⟨i1, i2⟩ := stR_ok hP hm h j (by omega)
      obtain ⟨c1, c2, c3⟩ := pick_C i1
      have hl : (stR t m j).2.2 < 512 := Nat.lt_of_le_of_lt (sub_le (stR_sub j)) hm
      have hd := pop_dif hl (by omega) c1
      have hl2 : (stR t m (j + 1)).2.2 < 512 := Nat.lt_of_le_of_lt (sub_le (stR_sub (j + 1))) hm
      rw [hj]
      refine pop_z' ⟨_, hl2⟩ ?_
      show pop (dif (stR t m j).2.2 (2 ^ pick t (stR t m j))) = 0
      omega
  have := (pick_C hp).1
  rw [h0, Nat.zero_testBit] at this
  cases this
def lvI (s : Bool × Nat × Nat) : Int32 := if s.1 = true then nI s.2.1 else -1
def okS (t : Nat → Nat) (m : Nat) (s : Bool × Nat × Nat) : Prop := s.2.2 &&& m = s.2.2 ∧ (s.1 = true → s.2.1 < t 1)
section ROW1
variable {L : Nat} {M : Nat → Nat → Int32} {t : Nat → Nat} {z : Int32} {sp : Nat → Int32}
theorem k_fb_l (hE : rE M 2 t z sp) (hw : wfT t) {m : Nat} (hm : m < 512) (hc : WC M t m (m + 1)) {s : Bool × Nat × Nat} (hs : okS t m s) : ∀ (k p : Nat), p + k = t 1 → R 5 2 [.ref 22, .int (lvI s), .int (nI s.2.2), .int (nI p)] [] (SH L, M) = some (some (.int (if fbF t s k p < t 1 then nI (fbF t s k p) else -1)), (SH L, M)) := by
  have hP := hw.2.1
  have sl := sub_le hs.1
  intro k
  induction k with
  | zero =>
    intro p hp
    rw [r5_2]
    simp (disch := omega) only [r5_3, r5_4, r5_7, r5_10, r5_60, r5_61, Option.bind_some, vtl_some, vtl_none, hE.p, hE.h, b2_eq0, ite_not2, nz1, nz0, n1z, n0z, if_true, if_false, nI_le'', show t 1 ≤ p from by omega]
    rw [fbF, if_neg (by omega)]
  | succ k ih =>
    intro p hp
    have iH := ih (p + 1) (by omega)
    have ge := fbF_ge (t := t) (s := s) (k + 1) p
    have wl := wyr_lt (t := t) (s := s.2.2) (p := p) hP (by omega)
    rw [r5_2]
    simp (disch := omega) only [r5_3, r5_4, r5_7, r5_10, r5_13, r5_14, r5_15, r5_16, r5_17, r5_18, r5_19, Option.bind_some, vtl_some, vtl_none, hE.p, hE.h, b2_eq0, ite_not2, nz1, nz0, n1z, n0z, if_true, if_false, nI_le'', show ¬ t 1 ≤ p from by omega, nI_bit]
    by_cases h1 : s.2.2.testBit p = true
    · have e := hc s.2.2 (by omega) hs.1 p (by omega) h1
      have le0 : (nI (wyr t (t 1) s.2.2 p) ≤ 0) = (wyr t (t 1) s.2.2 p = 0) := by
        rw [← nI_0, nI_le'' wl (by decide)]
        exact propext ⟨fun z => by omega, fun z => by omega⟩
      simp (disch := omega) only [r5_22, r5_23, r5_26, r5_27, r5_29, r5_30, r5_31, r5_32, r5_33, if_pos h1, pk_mul, nI_add, e, le0]
      by_cases h2 : wyr t (t 1) s.2.2 p = 0
      · rw [if_pos h2, fbF_n (fun z => by have := z.2.1; omega)]
        simp (disch := omega) only [r5_54, r5_57, nI_add]
        exact iH
      · rw [if_neg h2]
        by_cases h3 : s.1 = true
        · have hl := hs.2 h3
          have el : lvI s = nI s.2.1 := if_pos h3
          by_cases h4 : jn t s.2.1 p
          · rw [fbF_y ⟨h1, by omega, Or.inr h4⟩, if_pos (by omega), el]
            simp (disch := omega) only [r5_36, r5_37, r5_40, r5_41, r5_44, r5_45, r5_46, r5_49, r5_52, r5_53, Option.bind_some, vtl_some, vtl_none, hE.p, hE.h, b2_eq0, ite_not2, nz1, nz0, n1z, n0z, if_true, if_false, nI_lt0, s_joined isE_2 hE hw hl (show p < t 1 by omega), if_pos h4]
          · rw [fbF_n (fun z => by
              rcases z.2.2 with y | y
              · rw [h3] at y; cases y
              · exact h4 y), el]
            rw [el] at iH
            simp (disch := omega) only [r5_36, r5_37, r5_40, r5_41, r5_44, r5_45, r5_46, r5_49, r5_52, r5_53, r5_54, r5_57, Option.bind_some, vtl_some, vtl_none, hE.p, hE.h, b2_eq0, ite_not2, nz1, nz0, n1z, n0z, if_true, if_false, nI_lt0, s_joined isE_2 hE hw hl (show p < t 1 by omega), if_neg h4, nI_add]
            exact iH
        · have el : lvI s = -1 := if_neg h3
          rw [fbF_y ⟨h1, by omega, Or.inl (by cases q : s.1 <;> simp_all)⟩, if_pos (by omega), el]
          simp (disch := omega) only [r5_36, r5_37, r5_40, r5_41, r5_44, r5_45, r5_46, r5_49, r5_52, r5_53, Option.bind_some, vtl_some, vtl_none, hE.p, hE.h, b2_eq0, ite_not2, nz1, nz0, n1z, n0z, if_true, if_false, show (-1 : Int32) < 0 from by decide +kernel]
    · rw [fbF_n (fun z => h1 z.1)]
      simp (disch := omega) only [r5_54, r5_57, if_neg h1, nI_add]
      exact iH
theorem k_fb (hE : rE M 2 t z sp) (hw : wfT t) {m : Nat} (hm : m < 512) (hc : WC M t m (m + 1)) {s : Bool × Nat × Nat} (hs : okS t m s) : R 5 0 [.ref 22, .int (lvI s), .int (nI s.2.2), .null] [] (SH L, M) = some (some (.int (if pick t s < t 1 then nI (pick t s) else -1)), (SH L, M)) := by
  simp only [r5_0, r5_1]
  exact k_fb_l hE hw hm hc hs (t 1) 0 (Nat.zero_add _)
theorem stR_okS {m : Nat} : ∀ j, (∀ i, i < j → pick t (stR t m i) < t 1) → okS t m (stR t m j) := by
  intro j
  cases j with
  | zero => intro _; exact ⟨stR_sub 0, fun h => by cases h⟩
  | succ j => intro h; exact ⟨stR_sub (j + 1), fun _ => h j (by omega)⟩
theorem k_pfr_l (hE : rE M 2 t z sp) (hw : wfT t) {m i : Nat} (hm : m < 512) (hi : i < 9) (hc : WC M t m (m + 1)) (ha : ∀ j, j ≤ i → pick t (stR t m j) < t 1) : ∀ (k j : Nat) (v6 : Value), j + k = i + 1 → R 4 8 [.ref 22, .int (nI m), .int (nI i), .int (nI (stR t m j).2.2), .int (lvI (stR t m j)), .int (nI j), v6] [] (SH L, M) = some (some (.int (nI (stR t m (i + 1)).2.1)), (SH L, M)) := by
  have hP := hw.2.1
  intro k
  induction k with
  | zero =>
    intro j v6 hj
    have e : j = i + 1 := by omega
    subst e
    rw [r4_8]
    simp (disch := omega) only [r4_10, r4_11, r4_50, r4_52, nI_lt', show i < i + 1 from by omega, if_true]
    rfl
  | succ k ih =>
    intro j v6 hj
    have hp := ha j (by omega)
    rw [r4_8]
    simp (disch := omega) only [r4_10, r4_11, r4_14, r4_15, r4_17, r4_18, r4_21, r4_23, r4_25, r4_28, r4_30, r4_31, r4_33, r4_35, r4_36, r4_37, r4_39, r4_40, r4_41, r4_42, r4_43, r4_44, r4_47, Option.bind_some, vtl_some, vtl_none, hE.p, hE.h, b2_eq0, ite_not2, nz1, nz0, n1z, n0z, if_true, if_false, nI_lt', show ¬ i < j from by omega, k_fb hE hw hm hc (stR_okS j (fun x hx => ha x (by omega))), if_pos hp, nI_0le, nI_shl1, nI_dif, nI_add]
    exact ih (j + 1) _ (by omega)
theorem q_fb_l (hs : rS M t) (hw : wfT t) {m : Nat} (hm : m < 2 ^ t 1) (hc : WQ M t (2 ^ t 1)) {s : Bool × Nat × Nat} (hok : okS t m s) {v1 v2 : Value} {j : Nat} (hj : j < 100) (hj0 : j = 0 ↔ s.1 = false) : ∀ (k p : Nat), p + k = t 1 → ∃ v7, R 191 58 [.ref 36, v1, v2, .int (nI s.2.2), .int (-1), .int (nI j), .int (lvI s), .int (nI p)] [] (SH L, M) = R 191 128 [.ref 36, v1, v2, .int (nI s.2.2), .int (if fbF t s k p < t 1 then nI (fbF t s k p) else -1), .int (nI j), .int (lvI s), v7] [] (SH L, M) := by
  have hP := hw.2.1
  have hp5 := pow_P hw
  have sl := sub_le hok.1
  intro k
  induction k with
  | zero =>
    intro p hp
    refine ⟨.int (nI p), ?_⟩
    rw [r191_58]
    simp (disch := omega) only [r191_60, r191_61, r191_64, r191_65, r191_66, Option.bind_some, vtl_some, vtl_none, hs 1, hs 2, b2_eq0, ite_not2, nz1, nz0, n1z, n0z, if_true, if_false, nI_le'', show t 1 ≤ p from by omega]
    rw [fbF, if_neg (by omega)]
  | succ k ih =>
    intro p hp
    have iH := ih (p + 1) (by omega)
    have wl := wyr_lt (t := t) (s := s.2.2) (p := p) hP (by omega)
    have fin : fbC t s p → ∃ v7, R 191 58 [.ref 36, v1, v2, .int (nI s.2.2), .int (nI p), .int (nI j), .int (lvI s), .int (nI (p + 1))] [] (SH L, M) = R 191 128 [.ref 36, v1, v2, .int (nI s.2.2), .int (if fbF t s (k + 1) p < t 1 then nI (fbF t s (k + 1) p) else -1), .int (nI j), .int (lvI s), v7] [] (SH L, M) := fun hf => by
      refine ⟨.int (nI (p + 1)), ?_⟩
      rw [fbF_y hf, if_pos (by omega), r191_58]
      simp (disch := omega) only [r191_60, r191_61, r191_64, r191_65, r191_66, r191_69, r191_71, Option.bind_some, vtl_some, vtl_none, hs 1, hs 2, b2_eq0, ite_not2, nz1, nz0, n1z, n0z, if_true, if_false, nI_le'', nI_0le, ite_self]
    have cnt : ¬ fbC t s p → ∃ v7, R 191 58 [.ref 36, v1, v2, .int (nI s.2.2), .int (-1), .int (nI j), .int (lvI s), .int (nI (p + 1))] [] (SH L, M) = R 191 128 [.ref 36, v1, v2, .int (nI s.2.2), .int (if fbF t s (k + 1) p < t 1 then nI (fbF t s (k + 1) p) else -1), .int (nI j), .int (lvI s), v7] [] (SH L, M) := fun hf => by
      rw [fbF_n hf]
      exact iH
    rw [r191_58]
    simp (disch := omega) only [r191_60, r191_61, r191_64, r191_65, r191_66, r191_69, r191_71, r191_74, r191_75, r191_77, r191_80, Option.bind_some, vtl_some, vtl_none, hs 1, hs 2, b2_eq0, ite_not2, nz1, nz0, n1z, n0z, if_true, if_false, nI_le'', show ¬ t 1 ≤ p from by omega, show ¬ (0 : Int32) ≤ -1 from by decide +kernel, s_has]
    by_cases h1 : s.2.2.testBit p = true
    · have h0 : 0 < s.2.2 := by
        rcases Nat.eq_zero_or_pos s.2.2 with y | y
        · rw [y, Nat.zero_testBit] at h1; cases h1
        · exact y
      have e := hc s.2.2 h0 (by omega) p (by omega)
      have le0 : (nI (wyr t (t 1) s.2.2 p) ≤ 0) = (wyr t (t 1) s.2.2 p = 0) := by
        rw [← nI_0, nI_le'' wl (by decide)]
        exact propext ⟨fun z => by omega, fun z => by omega⟩
      simp (disch := omega) only [r191_83, r191_84, r191_87, r191_89, r191_90, r191_91, r191_93, r191_94, r191_95, if_pos h1, pk_mul, nI_add, e, le0]
      by_cases h2 : wyr t (t 1) s.2.2 p = 0
      · simp (disch := omega) only [r191_119, r191_120, r191_122, r191_125, if_pos h2, nI_add]
        exact cnt (fun z => by have := z.2.1; omega)
      · rw [if_neg h2]
        by_cases h3 : s.1 = true
        · have hl := hok.2 h3
          have el : lvI s = nI s.2.1 := if_pos h3
          have hj1 : ¬ j = 0 := fun z => by rw [hj0.mp z] at h3; cases h3
          by_cases h4 : jn t s.2.1 p
          · have := fin ⟨h1, by omega, Or.inr h4⟩
            rw [el] at this ⊢
            simp (disch := omega) only [r191_98, r191_100, r191_103, r191_104, r191_106, r191_108, r191_111, r191_114, r191_116, r191_119, r191_120, r191_122, r191_125, Option.bind_some, vtl_some, vtl_none, hs 1, hs 2, b2_eq0, ite_not2, nz1, nz0, n1z, n0z, if_true, if_false, nI_eq0, if_neg hj1, s_isJoined hs hw (show s.2.1 < 9 by omega) (show p < 9 by omega), if_pos h4, nI_add]
            exact this
          · have := cnt (fun z => by
              rcases z.2.2 with y | y
              · rw [h3] at y; cases y
              · exact h4 y)
            rw [el] at this ⊢
            simp (disch := omega) only [r191_98, r191_100, r191_103, r191_104, r191_106, r191_108, r191_111, r191_114, r191_116, r191_119, r191_120, r191_122, r191_125, Option.bind_some, vtl_some, vtl_none, hs 1, hs 2, b2_eq0, ite_not2, nz1, nz0, n1z, n0z, if_true, if_false, nI_eq0, if_neg hj1, s_isJoined hs hw (show s.2.1 < 9 by omega) (show p < 9 by omega), if_neg h4, nI_add]
            exact this
        · have hf : s.1 = false := by cases q : s.1 <;> simp_all
          simp (disch := omega) only [r191_98, r191_100, r191_103, r191_104, r191_106, r191_108, r191_111, r191_114, r191_116, r191_119, r191_120, r191_122, r191_125, Option.bind_some, vtl_some, vtl_none, hs 1, hs 2, b2_eq0, ite_not2, nz1, nz0, n1z, n0z, if_true, if_false, nI_eq0, if_pos (hj0.mpr hf), nI_add]
          exact fin ⟨h1, by omega, Or.inl hf⟩
    · simp (disch := omega) only [r191_119, r191_120, r191_122, r191_125, if_neg h1, nI_add]
      exact cnt (fun z => h1 z.1)
theorem q_row_l (hs : rS M t) (hw : wfT t) {m i : Nat} (hm : m < 2 ^ t 1) (hi : i < 9) (hc : WQ M t (2 ^ t 1)) {v1 : Value} : ∀ (k j : Nat) (v6 v7 : Value), j + k = i + 1 → okS t m (stR t m j) → R 191 42 [.ref 36, v1, .int (nI i), .int (nI (stR t m j).2.2), .int (lvI (stR t m j)), .int (nI j), v6, v7] [] (SH L, M) = (match rwR t m k j with | some r => if 0 < j + k then some (some (.int (nI r)), (SH L, M)) else none | none => some (some (.int (-1000004)), (SH L, upd2 M 40 3 (M 40 3 + nI 1)))) := by
  have hP := hw.2.1
  intro k
  induction k with
  | zero =>
    intro j v6 v7 hj hok
    have e : j = i + 1 := by omega
    subst e
    rw [r191_42]
    simp (disch := omega) only [r191_44, r191_45, r191_155, r191_157, nI_lt', show i < i + 1 from by omega, if_true, rwR]
    rw [if_pos (by omega)]
    rfl
  | succ k ih =>
    intro j v6 v7 hj hok
    have hj0 : j = 0 ↔ (stR t m j).1 = false := by
      cases j with
      | zero => exact ⟨fun _ => rfl, fun _ => rfl⟩
      | succ j => exact ⟨fun h => absurd h (by omega), fun h => by cases h⟩
    rw [r191_42]
    simp (disch := omega) only [r191_44, r191_45, r191_48, r191_50, r191_52, r191_53, r191_55, r191_56, Option.bind_some, vtl_some, vtl_none, hs 1, hs 2, b2_eq0, ite_not2, nz1, nz0, n1z, n0z, if_true, if_false, nI_lt', show ¬ i < j from by omega]
    obtain ⟨a7, e⟩ := q_fb_l (L := L) hs hw hm hc hok (v1 := v1) (v2 := .int (nI i)) (show j < 100 by omega) hj0 (t 1) 0 (Nat.zero_add _)
    rw [e, rwR]
    by_cases hp : pick t (stR t m j) < t 1
    · have hp' : fbF t (stR t m j) (t 1) 0 < t 1 := hp
      simp (disch := omega) only [r191_128, r191_130, r191_133, r191_134, r191_136, r191_139, r191_140, r191_141, r191_142, r191_144, r191_145, r191_146, r191_147, r191_148, r191_149, r191_152, Option.bind_some, vtl_some, vtl_none, hs 1, hs 2, b2_eq0, ite_not2, nz1, nz0, n1z, n0z, if_true, if_false, if_pos hp, if_pos hp', nI_0le, nI_shl1, nI_dif, nI_add]
      have iH := ih (j + 1) (.int (lvI (stR t m j))) a7 (by omega) ⟨stR_sub (j + 1), fun _ => hp⟩
      rw [show j + 1 + k = j + (k + 1) by omega] at iH
      exact iH
    · have hp' : ¬ fbF t (stR t m j) (t 1) 0 < t 1 := hp
      simp (disch := omega) only [r191_128, r191_130, r191_133, r191_134, r191_136, r191_139, Option.bind_some, vtl_some, vtl_none, hs 1, hs 2, b2_eq0, ite_not2, nz1, nz0, n1z, n0z, if_true, if_false, if_neg hp, if_neg hp', show ¬ (0 : Int32) ≤ -1 from by decide +kernel, gd3]
end ROW1
section ROW2
variable {L : Nat} {M : Nat → Nat → Int32} {t : Nat → Nat} {z : Int32} {sp : Nat → Int32} {c : Nat}
theorem c_row (h : IV M t z sp c) (a b : Int32) : OK L M c (fun M => R 88 0 [.ref 1, .int a, .int b, .null] [] (SH L, M)) (fun M => R 191 0 [.ref 36, .int a, .int b, .null, .null, .null, .null, .null] [] (SH L, M)) := by
  have hP := h.w.2.1
  by_cases h1 : rng a 5
  · by_cases h2 : rng b 9
    · obtain ⟨x, hx, rfl⟩ := rng_of (by omega) h1
      obtain ⟨i, hi, rfl⟩ := rng_of (by omega) h2
      have hm := mem_lt x hP
      have hpo := pop_le (mem t x)
      have lq : ∀ M1, rS M1 t → ∃ M2, frc 48 48 M1 M2 ∧ R 191 0 [.ref 36, .int (nI x), .int (nI i), .null, .null, .null, .null, .null] [] (SH L, M1) = (match rwR t (mem t x) (i + 1) 0 with | some r => some (some (.int (nI r)), (SH L, M2)) | none => some (some (.int (-1000004)), (SH L, upd2 M2 40 3 (M2 40 3 + nI 1)))) := fun M1 hs => by
        obtain ⟨M2, e2, f2, c2⟩ := q_findRows (L := L) hs h.w
        have hs2 := rS_frc hs f2 (by omega)
        have lo := q_row_l (L := L) hs2 h.w (mem_P (x := x)) hi c2 (v1 := .int (nI x)) (i + 1) 0 .null .null (Nat.zero_add _) ⟨stR_sub 0, fun z => by cases z⟩
        refine ⟨M2, f2, ?_⟩
        have e3 : R 191 0 [.ref 36, .int (nI x), .int (nI i), .null, .null, .null, .null, .null] [] (SH L, M1) = R 191 42 [.ref 36, .int (nI x), .int (nI i), .int (nI (stR t (mem t x) 0).2.2), .int (lvI (stR t (mem t x) 0)), .int (nI 0), .null, .null] [] (SH L, M2) := by
          simp (disch := omega) only [r191_0, r191_1, r191_4, r191_7, r191_8, r191_9, r191_10, r191_13, r191_16, r191_19, r191_20, r191_22, r191_25, r191_26, r191_27, r191_30, r191_31, r191_32, r191_35, r191_36, r191_37, r191_39, r191_40, Option.bind_some, vtl_some, vtl_none, s_isPart hs h.w, s_isHeir hs h.w, s_isSet6 hs h.w, s_isAny, s_isThing, s_isOne, b2_eq0, ite_not2, nz1, nz0, n1z, n0z, if_true, if_false, gd0, gd1, gd2, gd3, gd4, gd5, gd6, hs 1, hs 2, s_inr (show 9 < 2 ^ 31 by decide) (show (8 : Int64) = lN 9 - 1 by decide +kernel), if_pos h1, if_pos h2, e2, s_partsOf hs2 h.w hx]
          rfl
        rw [e3, lo]
        cases rwR t (mem t x) (i + 1) 0 with
        | some r => exact if_pos (by omega)
        | none => rfl
      have none_case : rwR t (mem t x) (i + 1) 0 = none → (R 88 0 [.ref 1, .int (nI x), .int (nI i), .null] [] (SH L, M) = some (some (.int (-1000004)), (SH L, upd2 M 34 3 (M 34 3 + nI 1)))) → OK L M c (fun M => R 88 0 [.ref 1, .int (nI x), .int (nI i), .null] [] (SH L, M)) (fun M => R 191 0 [.ref 36, .int (nI x), .int (nI i), .null, .null, .null, .null, .null] [] (SH L, M)) := fun hr C => by
        refine okF h (x := -1000004) (k := 3) (M1 := M) C fC_rf h.d rfl (fun M1 hs1 => ?_)
        obtain ⟨M2, f2, e2⟩ := lq M1 hs1
        rw [hr] at e2
        exact ⟨M2, e2, fR_of f2 (by omega), f2 40 (by omega)⟩
      by_cases h3 : pop (mem t x) ≤ i
      · refine none_case ?_ (by simp (disch := omega) only [r88_0, r88_1, r88_2, r88_5, r88_8, r88_9, r88_11, r88_14, r88_17, r88_18, r88_20, r88_23, r88_24, r88_25, r88_28, r88_31, r88_32, r88_33, r88_34, r88_35, r88_36, r88_39, r88_42, r88_43, r88_46, r88_47, r88_50, r88_53, r88_54, r88_56, r88_59, r88_60, r88_61, r88_64, r88_65, r88_66, r88_69, Option.bind_some, vtl_some, vtl_none, s_within, s_isSet5 h.e h.w, h.e.p, h.e.h, h.od5, h.me4, b2_eq0, ite_not2, nz1, nz0, n1z, n0z, if_true, if_false, fd0, fd1, fd2, fd3, fd4, fd5, fd6, if_pos h1, if_pos h2, s_bitCount hm, nI_le'', if_pos h3])
        by_cases h4 : sm (wyr t (t 1) (mem t x)) (t 1) = 0
        · refine rwR_none (i + 1) 0 0 (Nat.le_refl _) (by omega) (fun hp => ?_)
          have c2 := (pick_C hp).2.1
          have : wyr t (t 1) (mem t x) (pick t (stR t (mem t x) 0)) = 0 := sm_0 _ h4 _ hp
          have e : wyr t (t 1) (stR t (mem t x) 0).2.2 (pick t (stR t (mem t x) 0)) = wyr t (t 1) (mem t x) (pick t (stR t (mem t x) 0)) := rfl
          omega
        · exact rwR_none (i + 1) 0 (pop (mem t x)) (Nat.zero_le _) (by omega) (stR_end hP hm (by omega))
      · obtain ⟨M1, e1, f1, c1⟩ := k_countRows (L := L) h.e h.w hm
        have hlt : sm (wyr t (t 1) (mem t x)) (t 1) < 2 ^ 31 := swy_lt hP hm
        have hE1 := rE_frc h.e f1 (by omega)
        by_cases h4 : sm (wyr t (t 1) (mem t x)) (t 1) = 0
        · have hr : rwR t (mem t x) (i + 1) 0 = none := by
            refine rwR_none (i + 1) 0 0 (Nat.le_refl _) (by omega) (fun hp => ?_)
            have c2 := (pick_C hp).2.1
            have : wyr t (t 1) (mem t x) (pick t (stR t (mem t x) 0)) = 0 := sm_0 _ h4 _ hp
            have e : wyr t (t 1) (stR t (mem t x) 0).2.2 (pick t (stR t (mem t x) 0)) = wyr t (t 1) (mem t x) (pick t (stR t (mem t x) 0)) := rfl
            omega
          refine okF h (x := -1000004) (k := 3) (M1 := M1) (by simp (disch := omega) only [r88_0, r88_1, r88_2, r88_5, r88_8, r88_9, r88_11, r88_14, r88_17, r88_18, r88_20, r88_23, r88_24, r88_25, r88_28, r88_31, r88_32, r88_33, r88_34, r88_35, r88_36, r88_39, r88_42, r88_43, r88_46, r88_47, r88_50, r88_53, r88_54, r88_56, r88_59, r88_60, r88_61, r88_64, r88_65, r88_66, r88_69, Option.bind_some, vtl_some, vtl_none, s_within, s_isSet5 h.e h.w, h.e.p, h.e.h, h.od5, h.me4, b2_eq0, ite_not2, nz1, nz0, n1z, n0z, if_true, if_false, fd0, fd1, fd2, fd3, fd4, fd5, fd6, if_pos h1, if_pos h2, s_bitCount hm, nI_le'', if_neg h3, e1, nI_eq0, if_pos h4]) (fC_1 f1 (by omega)) (DI_frc h.d f1 (by omega)) (f1 34 (by omega)) (fun M1 hs1 => ?_)
          obtain ⟨M2, f2, e2⟩ := lq M1 hs1
          rw [hr] at e2
          exact ⟨M2, e2, fR_of f2 (by omega), f2 40 (by omega)⟩
        · have ha : ∀ j, j ≤ i → pick t (stR t (mem t x) j) < t 1 := fun j hj => (stR_ok hP hm (by omega) j (by omega)).1
          have hr := rwR_some (t := t) (m := mem t x) (i + 1) 0 (fun j _ h2 => ha j (by omega))
          rw [Nat.zero_add] at hr
          have kl := k_pfr_l (L := L) hE1 h.w hm hi c1 ha (i + 1) 0 .null (Nat.zero_add _)
          have pf : R 4 0 [.ref 22, .int (nI (mem t x)), .int (nI i), .null, .null, .null, .null] [] (SH L, M1) = some (some (.int (nI (stR t (mem t x) (i + 1)).2.1)), (SH L, M1)) := by
            simp only [r4_0, r4_1, r4_2, r4_3, r4_5, r4_6]
            exact kl
          refine okV h (r := nI (stR t (mem t x) (i + 1)).2.1) (M1 := M1) (by simp (disch := omega) only [r88_0, r88_1, r88_2, r88_5, r88_8, r88_9, r88_11, r88_14, r88_17, r88_18, r88_20, r88_23, r88_24, r88_25, r88_28, r88_31, r88_32, r88_33, r88_34, r88_35, r88_36, r88_39, r88_42, r88_43, r88_46, r88_47, r88_50, r88_53, r88_54, r88_56, r88_59, r88_60, r88_61, r88_64, r88_65, r88_66, r88_69, Option.bind_some, vtl_some, vtl_none, s_within, s_isSet5 h.e h.w, h.e.p, h.e.h, h.od5, h.me4, b2_eq0, ite_not2, nz1, nz0, n1z, n0z, if_true, if_false, fd0, fd1, fd2, fd3, fd4, fd5, fd6, if_pos h1, if_pos h2, s_bitCount hm, nI_le'', if_neg h3, e1, nI_eq0, if_neg h4, pf]) (fC_1 f1 (by omega)) (DI_frc h.d f1 (by omega)) (f1 34 (by omega)) (fun M1 hs1 => ?_)
          obtain ⟨M2, f2, e2⟩ := lq M1 hs1
          rw [hr] at e2
          exact ⟨M2, e2, fR_of f2 (by omega), f2 40 (by omega)⟩
    · exact okF0 h (x := (-1000001)) (k := 0) (by simp (disch := omega) only [r88_0, r88_1, r88_2, r88_5, r88_8, r88_9, r88_11, r88_14, r88_17, r88_18, r88_20, r88_23, r88_24, r88_25, r88_28, r88_31, r88_32, r88_33, r88_34, r88_35, r88_36, r88_39, r88_42, r88_43, r88_46, r88_47, r88_50, r88_53, r88_54, r88_56, r88_59, r88_60, r88_61, r88_64, r88_65, r88_66, r88_69, Option.bind_some, vtl_some, vtl_none, s_within, s_isSet5 h.e h.w, h.e.p, h.e.h, h.od5, h.me4, b2_eq0, ite_not2, nz1, nz0, n1z, n0z, if_true, if_false, fd0, fd1, fd2, fd3, fd4, fd5, fd6, if_pos h1, if_neg h2]) (fun M1 hs => by simp (disch := omega) only [r191_0, r191_1, r191_4, r191_7, r191_8, r191_9, r191_10, r191_13, r191_16, r191_19, r191_20, r191_22, r191_25, r191_26, r191_27, r191_30, r191_31, r191_32, r191_35, r191_36, r191_37, r191_39, r191_40, r191_42, r191_44, r191_45, r191_48, r191_50, r191_52, r191_53, r191_55, r191_56, r191_58, r191_60, r191_61, r191_64, r191_65, r191_66, r191_69, r191_71, r191_74, r191_75, r191_77, r191_80, r191_83, r191_84, r191_87, r191_89, r191_90, r191_91, r191_93, r191_94, r191_95, r191_98, r191_100, r191_103, r191_104, r191_106, r191_108, r191_111, r191_114, r191_116, r191_119, r191_120, r191_122, r191_125, r191_128, r191_130, r191_133, r191_134, r191_136, r191_139, r191_140, r191_141, r191_142, r191_144, r191_145, r191_146, r191_147, r191_148, r191_149, r191_152, r191_155, r191_157, Option.bind_some, vtl_some, vtl_none, s_isPart hs h.w, s_isHeir hs h.w, s_isSet6 hs h.w, s_isAny, s_isThing, s_isOne, b2_eq0, ite_not2, nz1, nz0, n1z, n0z, if_true, if_false, gd0, gd1, gd2, gd3, gd4, gd5, gd6, hs 1, hs 2, if_pos h1, if_neg h2, s_inr (show 9 < 2 ^ 31 by decide) (show (8 : Int64) = lN 9 - 1 by decide +kernel)])
  · exact okF0 h (x := (-1000001)) (k := 0) (by simp (disch := omega) only [r88_0, r88_1, r88_2, r88_5, r88_8, r88_9, r88_11, r88_14, r88_17, r88_18, r88_20, r88_23, r88_24, r88_25, r88_28, r88_31, r88_32, r88_33, r88_34, r88_35, r88_36, r88_39, r88_42, r88_43, r88_46, r88_47, r88_50, r88_53, r88_54, r88_56, r88_59, r88_60, r88_61, r88_64, r88_65, r88_66, r88_69, Option.bind_some, vtl_some, vtl_none, s_within, s_isSet5 h.e h.w, h.e.p, h.e.h, h.od5, h.me4, b2_eq0, ite_not2, nz1, nz0, n1z, n0z, if_true, if_false, fd0, fd1, fd2, fd3, fd4, fd5, fd6, if_neg h1]) (fun M1 hs => by simp (disch := omega) only [r191_0, r191_1, r191_4, r191_7, r191_8, r191_9, r191_10, r191_13, r191_16, r191_19, r191_20, r191_22, r191_25, r191_26, r191_27, r191_30, r191_31, r191_32, r191_35, r191_36, r191_37, r191_39, r191_40, r191_42, r191_44, r191_45, r191_48, r191_50, r191_52, r191_53, r191_55, r191_56, r191_58, r191_60, r191_61, r191_64, r191_65, r191_66, r191_69, r191_71, r191_74, r191_75, r191_77, r191_80, r191_83, r191_84, r191_87, r191_89, r191_90, r191_91, r191_93, r191_94, r191_95, r191_98, r191_100, r191_103, r191_104, r191_106, r191_108, r191_111, r191_114, r191_116, r191_119, r191_120, r191_122, r191_125, r191_128, r191_130, r191_133, r191_134, r191_136, r191_139, r191_140, r191_141, r191_142, r191_144, r191_145, r191_146, r191_147, r191_148, r191_149, r191_152, r191_155, r191_157, Option.bind_some, vtl_some, vtl_none, s_isPart hs h.w, s_isHeir hs h.w, s_isSet6 hs h.w, s_isAny, s_isThing, s_isOne, b2_eq0, ite_not2, nz1, nz0, n1z, n0z, if_true, if_false, gd0, gd1, gd2, gd3, gd4, gd5, gd6, hs 1, hs 2, if_neg h1])
end ROW2
