/-! The class reads items -/
def CS (M : Nat → Nat → Int32) (n : Nat) (b : Nat → Nat) (m p : Nat) : Prop := n ≤ 120 ∧ TK M n b m ∧ ∃ k, k ≤ m ∧ M 24 6 = nI k ∧ tk n b k = p
def fP (M M' : Nat → Nat → Int32) : Prop := ∀ k i, k ≠ 29 → (k < 12 ∨ 16 < k) → (k ≠ 24 ∨ i ≠ 6) → M' k i = M k i
theorem fP_rf {M : Nat → Nat → Int32} : fP M M := fun _ _ _ _ _ => rfl
theorem fP_tr {M M1 M2 : Nat → Nat → Int32} (h1 : fP M M1) (h2 : fP M1 M2) : fP M M2 := fun k i a b c => (h2 k i a b c).trans (h1 k i a b c)
theorem fP_12 {M M' : Nat → Nat → Int32} {a b : Nat} (h : frc a b M M') (ha : 12 ≤ a ∧ b ≤ 16) : fP M M' := fun k i _ h2 _ => by rw [h k (by omega)]
section CPA
variable {L : Nat} {M : Nat → Nat → Int32} {n m : Nat} {b : Nat → Nat} {t : Nat → Nat} {z : Int32} {sp : Nat → Int32}
theorem TK_fP {M' : Nat → Nat → Int32} (h : TK M n b m) (f : fP M M') : TK M' n b m := ⟨h.1, h.2.1, h.2.2.1, fun k hk => by
  obtain ⟨a1, a2, a3⟩ := h.2.2.2 k hk
  exact ⟨by rw [f 26 k (by omega) (by omega) (by omega)]; exact a1, by rw [f 27 k (by omega) (by omega) (by omega)]; exact a2, by rw [f 28 k (by omega) (by omega) (by omega)]; exact a3⟩⟩
theorem CS_fr {M' : Nat → Nat → Int32} {p : Nat} (h : CS M n b m p) (f : ∀ k, 24 ≤ k → k ≠ 29 → M' k = M k) : CS M' n b m p := by
  obtain ⟨h0, h1, k, h2, h3, h4⟩ := h
  exact ⟨h0, ⟨h1.1, h1.2.1, h1.2.2.1, fun j hj => by rw [f 26 (by omega) (by omega), f 27 (by omega) (by omega), f 28 (by omega) (by omega)]; exact h1.2.2.2 j hj⟩, k, h2, by rw [f 24 (by omega) (by omega)]; exact h3, h4⟩
theorem CS_le {p : Nat} (h : CS M n b m p) : p ≤ n := by
  obtain ⟨-, -, k, -, -, h4⟩ := h
  rw [← h4]
  exact tk_le k
theorem CS_so {p : Nat} (h : CS M n b m p) : ∃ k, k < 121 ∧ M 24 6 = nI k ∧ M 26 k = nI p ∧ M 27 k = nI (soN n b p) ∧ M 28 k = nI (nuN n b p) ∧ (soN n b p ≠ 0 → k < 120) := by
  obtain ⟨h0, h1, k, h2, h3, h4⟩ := h
  obtain ⟨a1, a2, a3⟩ := h1.2.2.2 k h2
  rw [h4] at a1 a2 a3
  refine ⟨k, by have := h1.1; omega, h3, a1, a2, a3, fun q => ?_⟩
  have hp : p < n := by
    rcases Nat.lt_or_ge p n with y | y
    · exact y
    · exact absurd (by unfold soN; rw [if_neg (by omega)]) q
  have g := tk_ge (n := n) (b := b) k (fun j hj => h1.2.2.1 j (by omega))
  omega
theorem k_isWord {p w : Nat} (h : CS M n b m p) (hw : w < 1000) : R 49 0 [.ref 24, .int (nI w)] [] (SH L, M) = some (some (.int (if isW n b w p = true then nI 1 else nI 0)), (SH L, M)) := by
  obtain ⟨k, k1, a1, a2, a3, a4, -⟩ := CS_so h
  have sl := so_le (n := n) (b := b) p
  have nl := nu_le (n := n) (b := b) p
  simp (disch := omega) only [r49_0, r49_1, r49_4, r49_5, r49_8, r49_9, r49_10, r49_13, r49_14, r49_17, r49_18, r49_21, r49_22, r49_23, r49_26, r49_27, r49_30, a1, a3, a4, nI_eq']
  by_cases q1 : soN n b p = 1
  · rw [if_pos q1]
    by_cases q2 : nuN n b p = w
    · rw [if_pos q2, if_pos (isW_iff.mpr ⟨q1, q2⟩)]; simp only [r49_31_0, r49_31_1]
    · rw [if_neg q2, if_neg (fun y => q2 (isW_iff.mp y).2)]; simp only [r49_31_0, r49_31_1]
  · rw [if_neg q1, if_neg (fun y => q1 (isW_iff.mp y).1)]; simp only [r49_31_0, r49_31_1]
theorem k_isNumber {p w : Nat} (h : CS M n b m p) (hw : w < 1000) : R 50 0 [.ref 24, .int (nI w)] [] (SH L, M) = some (some (.int (if isM n b w p = true then nI 1 else nI 0)), (SH L, M)) := by
  obtain ⟨k, k1, a1, a2, a3, a4, -⟩ := CS_so h
  have sl := so_le (n := n) (b := b) p
  have nl := nu_le (n := n) (b := b) p
  simp (disch := omega) only [r50_0, r50_1, r50_4, r50_5, r50_8, r50_9, r50_10, r50_13, r50_14, r50_17, r50_18, r50_21, r50_22, r50_23, r50_26, r50_27, r50_30, a1, a3, a4, nI_eq', nI_lt']
  by_cases q1 : soN n b p = 2
  · rw [if_pos q1]
    by_cases q2 : nuN n b p ≤ w
    · rw [if_neg (show ¬ w < nuN n b p by omega), if_pos (isM_iff.mpr ⟨q1, q2⟩)]; simp only [r50_31_0, r50_31_1]
    · rw [if_pos (show w < nuN n b p by omega), if_neg (fun y => q2 (isM_iff.mp y).2)]; simp only [r50_31_0, r50_31_1]
  · rw [if_neg q1, if_neg (fun y => q1 (isM_iff.mp y).1)]; simp only [r50_31_0, r50_31_1]
theorem k_next {p : Nat} (h : CS M n b m p) : ∃ M', R 51 0 [.ref 24] [] (SH L, M) = some (none, (SH L, M')) ∧ CS M' n b m (nxp n b p) ∧ fP M M' ∧ (∀ k, k ≠ 24 → M' k = M k) := by
  obtain ⟨k, k1, a1, a2, a3, a4, a5⟩ := CS_so h
  have sl := so_le (n := n) (b := b) p
  obtain ⟨h0, h1, j, h2, h3, h4⟩ := id h
  by_cases q : soN n b p = 0
  · have hp : ¬ p < n := fun y => by
      have := srt_le (b p)
      unfold soN at q
      rw [if_pos y] at q
      omega
    have e : nxp n b p = p := if_neg hp
    refine ⟨M, ?_, by rw [e]; exact h, fP_rf, fun _ _ => rfl⟩
    by_cases y : k < 120
    · simp (disch := omega) only [r51_0, r51_1, r51_4, r51_6, r51_9, r51_10, r51_13, r51_14, r51_17, r51_18, r51_21, r51_22, r51_23, r51_26, r51_27, r51_28, r51_31, a1, a3, q, nI_le'', show ¬ 120 ≤ k from by omega, if_false, nz0, if_true]
    · simp (disch := omega) only [r51_0, r51_1, r51_4, r51_6, r51_9, r51_10, r51_13, r51_14, r51_17, r51_18, r51_21, r51_22, r51_23, r51_26, r51_27, r51_28, r51_31, a1, nI_le'', show 120 ≤ k from by omega, if_true]
  · have y := a5 q
    have hp : p < n := by
      rcases Nat.lt_or_ge p n with y | y
      · exact y
      · exact absurd (by unfold soN; rw [if_neg (by omega)]) q
    have jk : j = k := by
      have := a1.symm.trans h3
      have jm : j ≤ 120 := by have := h1.1; omega
      rw [nI_eq' (by omega) (by omega)] at this
      exact this.symm
    subst jk
    have jl : j < m := by
      rcases Nat.lt_or_ge j m with y2 | y2
      · exact y2
      · have : j = m := by omega
        rw [this, h1.2.1] at h4
        omega
    have f : fP M (upd2 M 24 6 (nI (j + 1))) := fun c i _ _ h3 => upd2_ne (by omega)
    refine ⟨upd2 M 24 6 (nI (j + 1)), ?_, ⟨h0, TK_fP h1 f, j + 1, jl, upd2_eq, ?_⟩, f, fun c hc => by funext i; exact upd2_ne (Or.inl hc)⟩
    · simp (disch := omega) only [r51_0, r51_1, r51_4, r51_6, r51_9, r51_10, r51_13, r51_14, r51_17, r51_18, r51_21, r51_22, r51_23, r51_26, r51_27, r51_28, r51_31, a1, a3, nI_le'', show ¬ 120 ≤ j from by omega, if_false, nI_eq0, q, nI_add]
    · show nxp n b (tk n b j) = nxp n b p
      rw [h4]
theorem k_rt_l {part first most least p0 : Nat} (hf : first = 2 ∨ first = 4) (hm : first + most ≤ 8) (hl : least ≤ 4) (hp : part < t 1) (hw : wfT t) : ∀ (k j : Nat) (M : Nat → Nat → Int32), j + k = most → CS M n b m (nxI n b p0 j) → rE M 12 (setW t (9 + 8 * part + first) j (vaN n b p0)) z sp → (∀ i, i < j → vaN n b p0 i ≤ bmo (first + i)) → ∃ M', R 46 7 [.ref 24, .ref 12, .int (nI part), .int (nI first), .int (nI most), .int (nI least), .int (nI j)] [] (SH L, M) = some (some (.int (if ((trM n b first p0 k j).1 && decide (least ≤ (trM n b first p0 k j).2)) = true then nI 1 else nI 0)), (SH L, M')) ∧ CS M' n b m (nxI n b p0 (trM n b first p0 k j).2) ∧ rE M' 12 (setW t (9 + 8 * part + first) (trM n b first p0 k j).2 (vaN n b p0)) z sp ∧ fP M M' := by
  have hP := hw.2.1
  have fin : ∀ (j : Nat) (M : Nat → Nat → Int32), j ≤ 8 → R 46 71 [.ref 24, .ref 12, .int (nI part), .int (nI first), .int (nI most), .int (nI least), .int (nI j)] [] (SH L, M) = some (some (.int (if (true && decide (least ≤ j)) = true then nI 1 else nI 0)), (SH L, M)) := fun j M hj => by
    simp (disch := omega) only [r46_71, r46_73, r46_75, r46_78, r46_79, r46_82, nI_lt']
    by_cases q : j < least
    · rw [if_pos q, if_neg (by rw [Bool.true_and, decide_eq_true_eq]; omega)]; simp only [r46_83_0, r46_83_1]
    · rw [if_neg q, if_pos (by rw [Bool.true_and, decide_eq_true_eq]; omega)]; simp only [r46_83_0, r46_83_1]
  intro k
  induction k with
  | zero =>
    intro j M hj hc hE hv
    refine ⟨M, ?_, hc, hE, fP_rf⟩
    rw [r46_7]
    simp (disch := omega) only [r46_9, r46_11, nI_le'', show most ≤ j from by omega, if_true]
    exact fin j M (by omega)
  | succ k ih =>
    intro j M hj hc hE hv
    obtain ⟨k', k1, a1, a2, a3, a4, -⟩ := CS_so hc
    have sl := so_le (n := n) (b := b) (nxI n b p0 j)
    have nl := nu_le (n := n) (b := b) (nxI n b p0 j)
    rw [trM, r46_7]
    simp (disch := omega) only [r46_9, r46_11, r46_14, r46_15, r46_18, r46_19, r46_22, r46_23, r46_24, nI_le'', show ¬ most ≤ j from by omega, if_false, a1, a3, nI_eq']
    by_cases q : soN n b (nxI n b p0 j) = 2
    · rw [if_pos q, if_pos q]
      have bm : bmo (first + j) ≤ 99 := by unfold bmo; split <;> omega
      have mo := s_mostOf (w := first + j) (W := (SH L, M)) (by omega)
      have isn := k_isNumber (L := L) hc (w := bmo (first + j)) (by omega)
      simp (disch := omega) only [r46_27, r46_28, r46_29, r46_31, r46_32, r46_35, r46_38, nI_add, mo, isn, Option.bind_some, vtl_some, b2_eq0, ite_not2]
      by_cases q2 : nuN n b (nxI n b p0 j) ≤ bmo (first + j)
      · have im : isM n b (bmo (first + j)) (nxI n b p0 j) = true := isM_iff.mpr ⟨q, q2⟩
        have w1 : wfT (setW t (9 + 8 * part + first) j (vaN n b p0)) := setW_wf (by omega) j (by omega) hv hw
        obtain ⟨M1, e1, f1, E1, -⟩ := s_setTrait (L := L) isE_12 hE w1 (p := part) (w := first + j) (v := nuN n b (nxI n b p0 j)) (by rw [setW_o (by omega)]; exact hp) (by omega) (fun y => by omega)
        have es : ut (setW t (9 + 8 * part + first) j (vaN n b p0)) (9 + 8 * part + (first + j)) (nuN n b (nxI n b p0 j)) = setW t (9 + 8 * part + first) (j + 1) (vaN n b p0) := by
          rw [← setW_s, show 9 + 8 * part + first + j = 9 + 8 * part + (first + j) by omega]
        rw [es] at E1
        have c1 : CS M1 n b m (nxI n b p0 j) := CS_fr hc (fun c h1 h2 => f1 c (by omega))
        obtain ⟨M2, e2, c2, f2, g2⟩ := k_next (L := L) c1
        obtain ⟨M3, e3, c3, E3, f3⟩ := ih (j + 1) M2 (by omega) c2 (rE_eq E1 (fun c hc => g2 _ (by omega))) (fun i hi => by
          by_cases y : i = j
          · subst y; exact q2
          · exact hv i (by omega))
        rw [if_pos q2, if_pos im]
        refine ⟨M3, ?_, c3, E3, fP_tr (fP_12 f1 (by omega)) (fP_tr f2 f3)⟩
        simp (disch := omega) only [r46_43, r46_44, r46_45, r46_46, r46_48, r46_49, r46_50, r46_53, r46_54, r46_57, r46_58, r46_61, r46_64, r46_65, nI_add, a1, a4, e1, e2, Option.bind_some, vtl_none]
        simp only [r46_68]
        exact e3
      · have im : ¬ isM n b (bmo (first + j)) (nxI n b p0 j) = true := fun y => q2 (isM_iff.mp y).2
        rw [if_neg q2, if_neg im]
        refine ⟨M, ?_, hc, hE, fP_rf⟩
        simp only [r46_41, r46_42_0, r46_42_1, Bool.false_and, Bool.false_eq_true, if_false]
    · rw [if_neg q, if_neg q]
      exact ⟨M, fin j M (by omega), hc, hE, fP_rf⟩
theorem k_rt {part first most least p : Nat} (hf : first = 2 ∨ first = 4) (hm : first + most ≤ 8) (hl : least ≤ 4) (hp : part < t 1) (hw : wfT t) (hc : CS M n b m p) (hE : rE M 12 t z sp) : ∃ M', R 46 0 [.ref 24, .ref 12, .int (nI part), .int (nI first), .int (nI most), .int (nI least), .null] [] (SH L, M) = some (some (.int (if ((trM n b first (nxp n b p) most 0).1 && decide (least ≤ (trM n b first (nxp n b p) most 0).2)) = true then nI 1 else nI 0)), (SH L, M')) ∧ CS M' n b m (nxI n b (nxp n b p) (trM n b first (nxp n b p) most 0).2) ∧ rE M' 12 (setW t (9 + 8 * part + first) (trM n b first (nxp n b p) most 0).2 (vaN n b (nxp n b p))) z sp ∧ fP M M' := by
  obtain ⟨M1, e1, c1, f1, g1⟩ := k_next (L := L) hc
  obtain ⟨M2, e2, c2, E2, f2⟩ := k_rt_l (L := L) (p0 := nxp n b p) hf hm hl hp hw most 0 M1 (Nat.zero_add _) c1 (by rw [setW_0]; exact rE_eq hE (fun c hc => g1 _ (by omega))) (fun i hi => absurd hi (Nat.not_lt_zero _))
  refine ⟨M2, ?_, c2, E2, fP_tr f1 f2⟩
  simp only [r46_0, r46_1, r46_4, r46_5, e1, Option.bind_some, vtl_none]
  exact e2
/-- what a reading leaves -/
def CR (L : Nat) (M : Nat → Nat → Int32) (n m : Nat) (b : Nat → Nat) (z : Int32) (sp : Nat → Int32) (r : PR) (x : RES) : Prop := ∃ M', x = some (some (.int (if r.1 = true then nI 1 else nI 0)), (SH L, M')) ∧ CS M' n b m r.2.1 ∧ fP M M' ∧ (r.1 = true → rE M' 12 r.2.2 z sp)
theorem k_pE {part p : Nat} {v2 : Value} (hp : part < t 1) (hw : wfT t) (hc : CS M n b m p) (hE : rE M 12 t z sp) : CR L M n m b z sp (pE n b (9 + 8 * part) p t) (R 45 92 [.ref 24, .ref 12, v2, .int (nI part)] [] (SH L, M)) := by
  have isw := k_isWord (L := L) hc (w := 9) (by omega)
  unfold pE
  by_cases q : isW n b 9 p = true
  · rw [if_pos q]
    obtain ⟨M2, e2, c2, E2, f2⟩ := k_rt (L := L) (least := 2) (Or.inl rfl) (show 2 + 2 ≤ 8 by decide) (by omega) hp hw hc hE
    refine ⟨M2, ?_, c2, f2, fun _ => E2⟩
    simp (disch := omega) only [r45_92, r45_93, r45_95, r45_98, r45_101, r45_102, r45_103, r45_104, r45_105, r45_106, r45_107, r45_110, isw, if_pos q, nz1, if_false, e2, Option.bind_some, vtl_some, b2_eq0, ite_not2]
    by_cases y : ((trM n b 2 (nxp n b p) 2 0).1 && decide (2 ≤ (trM n b 2 (nxp n b p) 2 0).2)) = true
    · rw [if_pos y, if_pos y]; simp only [r45_113, r45_114, r45_117, r45_118_0, r45_118_1]
    · rw [if_neg y, if_neg y]; simp only [r45_117, r45_118_0, r45_118_1]
  · rw [if_neg q]
    refine ⟨M, ?_, hc, fP_rf, fun _ => hE⟩
    simp (disch := omega) only [r45_92, r45_93, r45_95, r45_98, r45_113, r45_114, r45_117, r45_118_0, r45_118_1, isw, if_neg q, nz0, if_true, Option.bind_some, vtl_some]
theorem CR_fP {M0 : Nat → Nat → Int32} {r : PR} {x : RES} (h : CR L M n m b z sp r x) (f : fP M0 M) : CR L M0 n m b z sp r x := by
  obtain ⟨M', a, c, d, e⟩ := h
  exact ⟨M', a, c, fP_tr f d, e⟩
theorem k_pWs {part p : Nat} {v2 : Value} (hp : part < t 1) (hw : wfT t) (hc : CS M n b m p) (hE : rE M 12 t z sp) : CR L M n m b z sp (pWs n b (9 + 8 * part) p t) (R 45 69 [.ref 24, .ref 12, v2, .int (nI part)] [] (SH L, M)) := by
  have isw := k_isWord (L := L) hc (w := 8) (by omega)
  have hP := hw.2.1
  unfold pWs
  by_cases q : isW n b 8 p = true
  · rw [if_pos q]
    obtain ⟨M2, e2, c2, E2, f2⟩ := k_rt (L := L) (least := 1) (Or.inr rfl) (show 4 + 4 ≤ 8 by decide) (by omega) hp hw hc hE
    by_cases y : ((trM n b 4 (nxp n b p) 4 0).1 && decide (1 ≤ (trM n b 4 (nxp n b p) 4 0).2)) = true
    · rw [if_pos y] at e2 ⊢
      have tl := trM_le (n := n) (b := b) (first := 4) (p := nxp n b p) 4 0
      have w2 : wfT (setW t (9 + 8 * part + 4) (trM n b 4 (nxp n b p) 4 0).2 (vaN n b (nxp n b p))) := setW_wf (by omega) _ (by omega) (fun j hj => (trM_v 4 0 j (Nat.zero_le _) hj).2) hw
      have := k_pE (L := L) (v2 := v2) (part := part) (by rw [setW_o (by omega)]; exact hp) w2 c2 E2
      obtain ⟨M3, e3, c3, f3, E3⟩ := this
      refine ⟨M3, ?_, c3, fP_tr f2 f3, E3⟩
      simp (disch := omega) only [r45_69, r45_70, r45_72, r45_75, r45_78, r45_79, r45_80, r45_81, r45_82, r45_83, r45_84, r45_87, isw, if_pos q, nz1, if_false, e2, Option.bind_some, vtl_some]
      exact e3
    · rw [if_neg y] at e2 ⊢
      refine ⟨M2, ?_, c2, f2, fun y2 => by cases y2⟩
      simp (disch := omega) only [r45_69, r45_70, r45_72, r45_75, r45_78, r45_79, r45_80, r45_81, r45_82, r45_83, r45_84, r45_87, r45_90, r45_91_0, r45_91_1, isw, if_pos q, nz1, nz0, if_false, if_true, e2, Option.bind_some, vtl_some, Bool.false_eq_true]
  · rw [if_neg q]
    have := k_pE (L := L) (v2 := v2) (part := part) hp hw hc hE
    obtain ⟨M3, e3, c3, f3, E3⟩ := this
    refine ⟨M3, ?_, c3, f3, E3⟩
    simp (disch := omega) only [r45_69, r45_70, r45_72, r45_75, isw, if_neg q, nz0, if_true, Option.bind_some, vtl_some]
    exact e3
theorem k_pPart {p : Nat} (hw : wfT t) (hc : CS M n b m p) (hk : nuN n b p < 7) (hE : rE M 12 t z sp) : CR L M n m b z sp (pPart n b p t) (R 45 0 [.ref 24, .ref 12, .null, .null] [] (SH L, M)) := by
  have hP := hw.2.1
  obtain ⟨k', k1, a1, a2, a3, a4, -⟩ := CS_so hc
  unfold pPart
  by_cases q0 : 9 ≤ t 1
  · rw [if_pos q0]
    refine ⟨M, ?_, hc, fP_rf, fun y => by cases y⟩
    simp (disch := first | exact isE_12 | omega) only [r45_0, r45_1, r45_4, r45_6, r45_9, r45_10_0, r45_10_1, hE.p, nI_lt', show ¬ t 1 < 9 from by omega, if_false, Bool.false_eq_true]
  · rw [if_neg q0]
    obtain ⟨M1, e1, c1, f1, g1⟩ := k_next (L := L) hc
    have isw := k_isWord (L := L) c1 (w := 7) (by omega)
    have E1 : rE M1 12 t z sp := rE_eq hE (fun c hc => g1 _ (by omega))
    have st : R 45 0 [.ref 24, .ref 12, .null, .null] [] (SH L, M) = R 45 25 [.ref 24, .ref 12, .int (nI (nuN n b p)), .null] [] (SH L, M1) := by
      simp (disch := first | exact isE_12 | omega) only [r45_0, r45_1, r45_4, r45_6, r45_9, r45_10_0, r45_10_1, r45_11, r45_12, r45_15, r45_16, r45_19, r45_20, r45_21, r45_22, hE.p, nI_lt', show t 1 < 9 from by omega, if_true, a1, a4, e1, Option.bind_some, vtl_none]
    rw [st]
    by_cases q1 : isW n b 7 (nxp n b p) = true
    · rw [if_pos q1]
      obtain ⟨M2, e2, c2, f2, g2⟩ := k_next (L := L) c1
      have isn := k_isNumber (L := L) c2 (w := 4) (by omega)
      have E2 : rE M2 12 t z sp := rE_eq E1 (fun c hc => g2 _ (by omega))
      by_cases q2 : isM n b 4 (nxp n b (nxp n b p)) = true
      · rw [if_pos q2]
        have n4 := (isM_iff.mp q2).2
        obtain ⟨k2, k3, b1, b2, b3, b4, -⟩ := CS_so c2
        obtain ⟨M3, e3, f3, E3, -⟩ := s_addPart (L := L) isE_12 E2 hw (k := nuN n b p) (x := nuN n b (nxp n b (nxp n b p))) (by omega) (by omega)
        have c3 : CS M3 n b m (nxp n b (nxp n b p)) := CS_fr c2 (fun c h1 h2 => f3 c (by omega))
        obtain ⟨M4, e4, c4, f4, g4⟩ := k_next (L := L) c3
        have E4 : rE M4 12 (addT t (nuN n b p) (nuN n b (nxp n b (nxp n b p)))) z sp := rE_eq E3 (fun c hc => g4 _ (by omega))
        have := k_pWs (L := L) (v2 := .int (nI (nuN n b p))) (part := t 1) (by rw [addT_1]; omega) (addT_wf hw (by omega) hk (by omega)) c4 E4
        obtain ⟨M5, e5, c5, f5, E5⟩ := this
        refine ⟨M5, ?_, c5, fP_tr f1 (fP_tr f2 (fP_tr (fP_12 f3 (by omega)) (fP_tr f4 f5))), E5⟩
        simp (disch := first | exact isE_12 | omega) only [r45_25, r45_26, r45_28, r45_31, r45_34, r45_35_0, r45_35_1, r45_36, r45_37, r45_40, r45_41, r45_42, r45_45, r45_48, r45_49_0, r45_49_1, r45_50, r45_51, r45_52, r45_53, r45_56, r45_57, r45_60, r45_61, r45_64, r45_65, r45_66, isw, if_pos q1, nz1, if_false, e2, isn, if_pos q2, b1, b4, e3, e4, Option.bind_some, vtl_some, vtl_none]
        exact e5
      · rw [if_neg q2]
        refine ⟨M2, ?_, c2, fP_tr f1 f2, fun y => by cases y⟩
        simp (disch := omega) only [r45_25, r45_26, r45_28, r45_31, r45_34, r45_35_0, r45_35_1, r45_36, r45_37, r45_40, r45_41, r45_42, r45_45, r45_48, r45_49_0, r45_49_1, isw, if_pos q1, nz1, nz0, if_false, if_true, e2, isn, if_neg q2, Option.bind_some, vtl_some, vtl_none, Bool.false_eq_true]
    · rw [if_neg q1]
      refine ⟨M1, ?_, c1, f1, fun y => by cases y⟩
      simp (disch := omega) only [r45_25, r45_26, r45_28, r45_31, r45_34, r45_35_0, r45_35_1, isw, if_neg q1, nz0, if_true, Option.bind_some, vtl_some, Bool.false_eq_true, if_false]
theorem heM_b {p0 : Nat} : ∀ k j s, s < 16 → j ≤ (heM n b p0 k j s).2.1 ∧ (heM n b p0 k j s).2.1 ≤ j + k ∧ (heM n b p0 k j s).2.2 < 16 := by
  intro k
  induction k with
  | zero => intro j s hs; exact ⟨Nat.le_refl _, Nat.le_refl _, hs⟩
  | succ k ih =>
    intro j s hs
    rw [heM]
    split
    · split
      · rename_i h1 h2
        have := ih (j + 1) (s ||| 2 ^ nuN n b (nxI n b p0 j)) (Nat.or_lt_two_pow (n := 4) hs (Nat.pow_lt_pow_right (by decide) (by omega)))
        omega
      · exact ⟨Nat.le_refl _, by show j ≤ j + (k + 1); omega, hs⟩
    · exact ⟨Nat.le_refl _, by show j ≤ j + (k + 1); omega, hs⟩
theorem k_he_l {p0 : Nat} : ∀ (k j s : Nat) (M : Nat → Nat → Int32), j + k = 4 → s < 16 → CS M n b m (nxI n b p0 j) → (∀ i, i < j → M 29 i = nI (vaN n b p0 i)) → ∃ M', R 47 8 [.ref 24, .ref 12, .int (nI s), .int (nI j)] [] (SH L, M) = (if (heM n b p0 k j s).1 = true then R 47 92 [.ref 24, .ref 12, .int (nI (heM n b p0 k j s).2.2), .int (nI (heM n b p0 k j s).2.1)] [] (SH L, M') else some (some (.int (nI 0)), (SH L, M'))) ∧ CS M' n b m (nxI n b p0 (heM n b p0 k j s).2.1) ∧ fP M M' ∧ (∀ c, c ≤ 16 → M' c = M c) ∧ (∀ i, i < (heM n b p0 k j s).2.1 → M' 29 i = nI (vaN n b p0 i)) := by
  intro k
  induction k with
  | zero =>
    intro j s M hj hs hc hv
    refine ⟨M, ?_, hc, fP_rf, fun _ _ => rfl, hv⟩
    rw [r47_8]
    simp (disch := omega) only [r47_9, r47_10, nI_le'', show 4 ≤ j from by omega, if_true, heM]
  | succ k ih =>
    intro j s M hj hs hc hv
    obtain ⟨k', k1, a1, a2, a3, a4, -⟩ := CS_so hc
    have sl := so_le (n := n) (b := b) (nxI n b p0 j)
    have nl := nu_le (n := n) (b := b) (nxI n b p0 j)
    rw [heM, r47_8]
    simp (disch := omega) only [r47_9, r47_10, r47_13, r47_14, r47_17, r47_18, r47_21, r47_22, r47_23, nI_le'', show ¬ 4 ≤ j from by omega, if_false, a1, a3, nI_eq']
    by_cases q : soN n b (nxI n b p0 j) = 2
    · rw [if_pos q, if_pos q]
      have isn := k_isNumber (L := L) hc (w := 3) (by omega)
      by_cases q2 : nuN n b (nxI n b p0 j) ≤ 3
      · have im : isM n b 3 (nxI n b p0 j) = true := isM_iff.mpr ⟨q, q2⟩
        by_cases q3 : s.testBit (nuN n b (nxI n b p0 j)) = true
        · rw [if_neg (fun y => y.2 q3)]
          refine ⟨M, ?_, hc, fP_rf, fun _ _ => rfl, hv⟩
          simp (disch := omega) only [r47_26, r47_27, r47_28, r47_31, r47_34, r47_35, r47_36, r47_39, r47_40, r47_43, r47_44, r47_45, r47_46, r47_47, r47_48, r47_51, r47_52_0, r47_52_1, isn, if_pos im, nz1, if_false, a1, a4, nI_bit, if_pos q3, Option.bind_some, vtl_some, Bool.false_eq_true]
        · rw [if_pos ⟨q2, q3⟩]
          have c1 : CS (upd2 M 29 j (nI (nuN n b (nxI n b p0 j)))) n b m (nxI n b p0 j) := CS_fr hc (fun c h1 h2 => by funext i; exact upd2_ne (Or.inl h2))
          obtain ⟨M2, e2, c2, f2, g2⟩ := k_next (L := L) c1
          obtain ⟨M3, e3, c3, f3, u3, v3⟩ := ih (j + 1) (s ||| 2 ^ nuN n b (nxI n b p0 j)) M2 (by omega) (Nat.or_lt_two_pow (n := 4) hs (Nat.pow_lt_pow_right (by decide) (by omega))) c2 (fun i hi => by
            rw [g2 29 (by omega)]
            by_cases y : i = j
            · subst y; exact upd2_eq
            · rw [upd2_ne (Or.inr y)]; exact hv i (by omega))
          have u6 : upd2 M 29 j (nI (nuN n b (nxI n b p0 j))) 24 6 = nI k' := by rw [upd2_ne (Or.inl (by omega))]; exact a1
          refine ⟨M3, ?_, c3, fP_tr (fun c i h1 _ _ => upd2_ne (Or.inl h1)) (fP_tr f2 f3), fun c hc => by rw [u3 c hc, g2 c (by omega)]; funext i; exact upd2_ne (Or.inl (by omega)), v3⟩
          rw [← e3]
          simp (disch := omega) only [r47_26, r47_27, r47_28, r47_31, r47_34, r47_35, r47_36, r47_39, r47_40, r47_43, r47_44, r47_45, r47_46, r47_47, r47_48, r47_51, r47_52_0, r47_52_1, r47_53, r47_54, r47_55, r47_56, r47_59, r47_60, r47_63, r47_64, r47_65, r47_66, r47_67, r47_68, r47_71, r47_72, r47_73, r47_76, r47_77, r47_80, r47_81, r47_82, r47_85, r47_86, isn, if_pos im, nz1, if_false, a1, a4, nI_bit, if_neg q3, nI_shl1, nI_or, e2, Option.bind_some, vtl_some, vtl_none, nI_add]
          simp only [r47_89]
      · have im : ¬ isM n b 3 (nxI n b p0 j) = true := fun y => q2 (isM_iff.mp y).2
        rw [if_neg (fun y => q2 y.1)]
        refine ⟨M, ?_, hc, fP_rf, fun _ _ => rfl, hv⟩
        simp (disch := omega) only [r47_26, r47_27, r47_28, r47_31, r47_36, r47_39, r47_40, r47_43, r47_44, r47_45, r47_46, r47_47, r47_48, r47_51, r47_52_0, r47_52_1, isn, if_neg im, nz0, if_true, Option.bind_some, vtl_some, Bool.false_eq_true, if_false]
    · rw [if_neg q, if_neg q]
      exact ⟨M, by rw [if_pos rfl], hc, fP_rf, fun _ _ => rfl, hv⟩
theorem k_pHeirs {p : Nat} (hw : wfT t) (hc : CS M n b m p) (hE : rE M 12 t z sp) : CR L M n m b z sp (pHeirs n b p t) (R 47 0 [.ref 24, .ref 12, .null, .null] [] (SH L, M)) := by
  obtain ⟨M1, e1, c1, f1, g1⟩ := k_next (L := L) hc
  obtain ⟨M2, e2, c2, f2, u2, v2⟩ := k_he_l (L := L) (p0 := nxp n b p) 4 0 0 M1 (Nat.zero_add _) (by omega) c1 (fun i hi => absurd hi (Nat.not_lt_zero _))
  have hb := heM_b (n := n) (b := b) (p0 := nxp n b p) 4 0 0 (by omega)
  have E2 : rE M2 12 t z sp := rE_eq hE (fun c hc => by rw [u2 _ (by omega), g1 _ (by omega)])
  have st : R 47 0 [.ref 24, .ref 12, .null, .null] [] (SH L, M) = R 47 8 [.ref 24, .ref 12, .int (nI 0), .int (nI 0)] [] (SH L, M1) := by
    simp only [r47_0, r47_1, r47_4, r47_5, r47_6, r47_7, e1, Option.bind_some, vtl_none]
  rw [st, e2]
  unfold pHeirs
  generalize heM n b (nxp n b p) 4 0 0 = r at e2 c2 v2 hb ⊢
  obtain ⟨ok, j, s⟩ := r
  simp only at c2 v2 hb ⊢
  have p2 : 2 ^ j ≤ 16 := (Nat.pow_le_pow_right (by decide) (by omega) : 2 ^ j ≤ 2 ^ 4)
  cases ok with
  | false => exact ⟨M2, by simp only [Bool.false_and, Bool.false_eq_true, if_false], c2, fP_tr f1 f2, fun y => by simp only [Bool.false_and, Bool.false_eq_true] at y⟩
  | true =>
    rw [if_pos rfl]
    simp only [Bool.true_and]
    by_cases q1 : j = 0
    · refine ⟨M2, ?_, c2, fP_tr f1 f2, fun y => ?_⟩
      · rw [if_neg (by rw [Bool.and_eq_true, decide_eq_true_eq]; exact fun y => y.1 q1)]
        simp (disch := omega) only [r47_92, r47_93, r47_105, r47_106_0, r47_106_1, nI_eq0, q1, if_true]
      · rw [Bool.and_eq_true, decide_eq_true_eq] at y; exact absurd q1 y.1
    · by_cases q2 : s = 2 ^ j - 1
      · obtain ⟨M3, e3, f3, E3, -⟩ := s_setHeirs (L := L) isE_12 E2 (n := j)
        have c3 : CS M3 n b m (nxI n b (nxp n b p) j) := CS_fr c2 (fun c h1 h2 => f3 c (by omega))
        have v3 : ∀ i, i < j → M3 29 i = nI (vaN n b (nxp n b p) i) := fun i hi => by rw [f3 29 (by omega)]; exact v2 i hi
        have o15 : ∀ c, c ≠ 15 → cp2 M3 29 0 15 0 j c = M3 c := fun c hc => by funext i; exact cp2_o hc
        refine ⟨cp2 M3 29 0 15 0 j, ?_, CS_fr c3 (fun c h1 h2 => o15 c (by omega)), fP_tr f1 (fP_tr f2 (fP_tr (fP_12 f3 (by omega)) (fun c i h1 h2 h3 => by rw [o15 c (by omega)]))), fun _ => ?_⟩
        · rw [if_pos (by rw [Bool.and_eq_true, decide_eq_true_eq, decide_eq_true_eq]; exact ⟨q1, q2⟩)]
          simp (disch := first | exact isE_12 | omega) only [r47_92, r47_93, r47_96, r47_97, r47_98, r47_99, r47_100, r47_101, r47_102, r47_105, r47_106_0, r47_106_1, r47_107, r47_108, r47_109, r47_112, r47_113, r47_116, r47_117, r47_118, r47_121, r47_122, r47_123, r47_126, r47_127_0, r47_127_1, nI_eq0, if_neg q1, nI_shl1, pk_sub (show 1 ≤ 2 ^ j from Nat.one_le_two_pow), nI_eq', if_pos q2, e3, Option.bind_some, vtl_none]
        · have g : ∀ c, c ≠ 15 → cp2 M3 29 0 15 0 j c = M3 c := o15
          have h5 : ∀ c, c < 5 → c ≠ 3 → cp2 M3 29 0 15 0 j (12 + c) = M3 (12 + c) := fun c h1 h2 => g _ (by omega)
          have hth : ∀ i, 9 ≤ i → hoT t j (vaN n b (nxp n b p)) i = heT t j i := fun i hi => by
            unfold hoT
            rw [if_neg (by omega), if_neg (by omega), if_neg (by omega), heT_n (by omega) (by omega)]
          have hlo : ∀ i, i < 5 → hoT t j (vaN n b (nxp n b p)) i = heT t j i := fun i hi => by
            unfold hoT
            by_cases y : i = 2
            · rw [if_pos y, y, heT_2]
            · rw [if_neg y, if_neg (by omega), if_neg (by omega), heT_n y (by omega)]
          show rE (cp2 M3 29 0 15 0 j) 12 (hoT t j (vaN n b (nxp n b p))) z sp
          refine ⟨?_, ?_, ?_, ?_, ?_, fun q hq u hu => ?_, fun x hx => ?_, fun i hi => ?_, fun i hi => ?_⟩
          · rw [hlo 1 (by omega), g 12 (by omega)]; exact E3.p
          · rw [hlo 3 (by omega), g 12 (by omega)]; exact E3.k
          · rw [hlo 0 (by omega), g 12 (by omega)]; exact E3.y
          · rw [hlo 2 (by omega), g 12 (by omega)]; exact E3.h
          · rw [g 12 (by omega)]; exact E3.zz
          · rw [hth _ (by omega), h5 1 (by omega) (by omega)]; rw [hlo 1 (by omega)] at hq; exact E3.tr q hq u hu
          · rw [h5 2 (by omega) (by omega), E3.me x hx]
            congr 1
            exact mem_cg (hlo 1 (by omega)).symm (fun q hq => (hth _ (by omega)).symm)
          · by_cases y : i < j
            · rw [show 12 + 3 = 15 from rfl, cp2_in y, v3 i y]
              unfold hoT
              rw [if_neg (by omega), if_pos (by omega), Nat.add_sub_cancel_left]
            · have : cp2 M3 29 0 15 0 j (12 + 3) i = M3 15 i := by
                show (if 15 = 15 then va_cpy (M3 29) (M3 15) 0 0 j i else M3 15 i) = _
                rw [if_pos rfl, pk_cpy_out (by omega)]
              rw [this]
              have := E3.od i hi
              rw [heT_o hi] at this
              unfold hoT
              rw [if_neg (by omega), if_neg (by omega), if_pos (by omega), Nat.add_sub_cancel_left]
              exact this
          · rw [h5 4 (by omega) (by omega)]; exact E3.so i hi
      · refine ⟨M2, ?_, c2, fP_tr f1 f2, fun y => ?_⟩
        · rw [if_neg (by rw [Bool.and_eq_true, decide_eq_true_eq, decide_eq_true_eq]; exact fun y => q2 y.2)]
          simp (disch := omega) only [r47_92, r47_93, r47_96, r47_97, r47_98, r47_99, r47_100, r47_101, r47_102, r47_105, r47_106_0, r47_106_1, nI_eq0, if_neg q1, nI_shl1, pk_sub (show 1 ≤ 2 ^ j from Nat.one_le_two_pow), nI_eq', if_neg q2]
        · rw [Bool.and_eq_true, decide_eq_true_eq, decide_eq_true_eq] at y; exact absurd y.2 q2
theorem k_pKnows {p : Nat} (hw : wfT t) (hc : CS M n b m p) (hE : rE M 12 t z sp) : CR L M n m b z sp (pKnows n b p t) (R 48 0 [.ref 24, .ref 12] [] (SH L, M)) := by
  obtain ⟨M1, e1, c1, f1, g1⟩ := k_next (L := L) hc
  have E1 : rE M1 12 t z sp := rE_eq hE (fun c hc => g1 _ (by omega))
  have isn := k_isNumber (L := L) c1 (w := 3) (by omega)
  unfold pKnows
  by_cases q : isM n b 3 (nxp n b p) = true
  · rw [if_pos q]
    have n3 := (isM_iff.mp q).2
    obtain ⟨k', k1, a1, a2, a3, a4, -⟩ := CS_so c1
    obtain ⟨M2, e2, f2, E2, -⟩ := s_setKnows (L := L) isE_12 E1 (h := nuN n b (nxp n b p)) (by omega) (b := true)
    simp only [if_true] at e2 E2
    have c2 : CS M2 n b m (nxp n b p) := CS_fr c1 (fun c h1 h2 => f2 c (by omega))
    obtain ⟨M3, e3, c3, f3, g3⟩ := k_next (L := L) c2
    refine ⟨M3, ?_, c3, fP_tr f1 (fP_tr (fP_12 f2 (by omega)) f3), fun _ => rE_eq E2 (fun c hc => g3 _ (by omega))⟩
    simp (disch := omega) only [r48_0, r48_1, r48_4, r48_5, r48_6, r48_9, r48_12, r48_13_0, r48_13_1, r48_14, r48_15, r48_16, r48_19, r48_20, r48_23, r48_24, r48_25, r48_28, r48_29, r48_32, r48_33_0, r48_33_1, e1, isn, if_pos q, nz1, if_false, a1, a4, e2, e3, Option.bind_some, vtl_some, vtl_none, if_true]
  · rw [if_neg q]
    refine ⟨M1, ?_, c1, f1, fun y => by cases y⟩
    simp (disch := omega) only [r48_0, r48_1, r48_4, r48_5, r48_6, r48_9, r48_12, r48_13_0, r48_13_1, e1, isn, if_neg q, nz0, if_true, Option.bind_some, vtl_some, vtl_none, Bool.false_eq_true, if_false]
theorem k_item {p : Nat} (hw : wfT t) (hc : CS M n b m p) (hE : rE M 12 t z sp) : CR L M n m b z sp (pItem n b p t) (R 44 0 [.ref 24, .ref 12] [] (SH L, M)) := by
  obtain ⟨k', k1, a1, a2, a3, a4, -⟩ := CS_so hc
  have sl := so_le (n := n) (b := b) p
  have nl := nu_le (n := n) (b := b) p
  unfold pItem
  by_cases q1 : soN n b p = 1
  · rw [if_pos q1]
    by_cases q2 : nuN n b p < 7
    · rw [if_pos q2]
      obtain ⟨M', e, c', f', E'⟩ := k_pPart (L := L) hw hc q2 hE
      refine ⟨M', ?_, c', f', E'⟩
      simp (disch := omega) only [r44_0, r44_1, r44_4, r44_5, r44_8, r44_9, r44_10, r44_13, r44_14_0, r44_14_1, r44_15, r44_16, r44_19, r44_20, r44_23, r44_24, r44_26, r44_29, r44_30, r44_31, a1, a3, q1, if_true, a4, nI_le'', show ¬ 7 ≤ nuN n b p from by omega, if_false, e, Option.bind_some, vtl_some]
      simp only [um_R, r44_34_0, r44_34_1, mg_s]
    · rw [if_neg q2]
      have w10 := k_isWord (L := L) hc (w := 10) (by omega)
      have w11 := k_isWord (L := L) hc (w := 11) (by omega)
      have i10 : (isW n b 10 p = true) = (nuN n b p = 10) := propext ⟨fun y => (isW_iff.mp y).2, fun y => isW_iff.mpr ⟨q1, y⟩⟩
      have i11 : (isW n b 11 p = true) = (nuN n b p = 11) := propext ⟨fun y => (isW_iff.mp y).2, fun y => isW_iff.mpr ⟨q1, y⟩⟩
      simp only [i10] at w10
      simp only [i11] at w11
      by_cases q3 : nuN n b p = 10
      · rw [if_pos q3]
        obtain ⟨M', e, c', f', E'⟩ := k_pHeirs (L := L) hw hc hE
        refine ⟨M', ?_, c', f', E'⟩
        rw [if_pos q3] at w10
        simp (disch := omega) only [r44_0, r44_1, r44_4, r44_5, r44_8, r44_9, r44_10, r44_13, r44_14_0, r44_14_1, r44_15, r44_16, r44_19, r44_20, r44_23, r44_24, r44_26, r44_35, r44_36, r44_38, r44_41, r44_44, r44_45, r44_46, a1, a3, q1, if_true, a4, nI_le'', show 7 ≤ nuN n b p from by omega, w10, nz1, if_false, e, Option.bind_some, vtl_some]
        simp only [um_R, r44_49_0, r44_49_1, mg_s]
      · rw [if_neg q3]
        rw [if_neg q3] at w10
        by_cases q4 : nuN n b p = 11
        · rw [if_pos q4]
          rw [if_pos q4] at w11
          obtain ⟨M', e, c', f', E'⟩ := k_pKnows (L := L) hw hc hE
          refine ⟨M', ?_, c', f', E'⟩
          simp (disch := omega) only [r44_0, r44_1, r44_4, r44_5, r44_8, r44_9, r44_10, r44_13, r44_14_0, r44_14_1, r44_15, r44_16, r44_19, r44_20, r44_23, r44_24, r44_26, r44_35, r44_36, r44_38, r44_41, r44_50, r44_51, r44_53, r44_56, r44_59, r44_60, r44_61, r44_64, a1, a3, q1, if_true, a4, nI_le'', show 7 ≤ nuN n b p from by omega, w10, w11, nz0, nz1, if_false, e, Option.bind_some, vtl_some, b2_eq0, ite_not2]
          by_cases y : (pKnows n b p t).1 = true
          · rw [if_pos y, if_pos y]; simp only [r44_67, r44_68, r44_71, r44_72_0, r44_72_1]
          · rw [if_neg y, if_neg y]; simp only [r44_71, r44_72_0, r44_72_1]
        · rw [if_neg q4]
          rw [if_neg q4] at w11
          refine ⟨M, ?_, hc, fP_rf, fun y => by cases y⟩
          simp (disch := omega) only [r44_0, r44_1, r44_4, r44_5, r44_8, r44_9, r44_10, r44_13, r44_14_0, r44_14_1, r44_15, r44_16, r44_19, r44_20, r44_23, r44_24, r44_26, r44_35, r44_36, r44_38, r44_41, r44_50, r44_51, r44_53, r44_56, r44_71, r44_72_0, r44_72_1, a1, a3, q1, if_true, a4, nI_le'', show 7 ≤ nuN n b p from by omega, w10, w11, nz0, if_false, Option.bind_some, vtl_some, Bool.false_eq_true]
  · rw [if_neg q1]
    refine ⟨M, ?_, hc, fP_rf, fun y => by cases y⟩
    simp (disch := omega) only [r44_0, r44_1, r44_4, r44_5, r44_8, r44_9, r44_10, r44_13, r44_14_0, r44_14_1, a1, a3, nI_eq', q1, if_false, Bool.false_eq_true]
end CPA
