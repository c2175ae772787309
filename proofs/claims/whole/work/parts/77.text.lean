/-! text -/
def pT (n : Nat) (b : Nat → Nat) : Nat → Nat → Nat → (Nat → Nat) → Bool × Nat × Nat × (Nat → Nat)
  | 0, it, p, t => (false, p, it, t)
  | k + 1, it, p, t => if (pItem n b p t).1 = true then (if soN n b (pItem n b p t).2.1 = 0 then (true, (pItem n b p t).2.1, it + 1, (pItem n b p t).2.2) else if soN n b (pItem n b p t).2.1 = 3 then pT n b k (it + 1) (nxp n b (pItem n b p t).2.1) (pItem n b p t).2.2 else (false, (pItem n b p t).2.1, it + 1, (pItem n b p t).2.2)) else (false, (pItem n b p t).2.1, it, (pItem n b p t).2.2)
section PTF
variable {n : Nat} {b : Nat → Nat} {t : Nat → Nat}
theorem wfO_25 {t' : Nat → Nat} (hO : wfO t) (hw : wfT t) (h : ∀ i, (i = 2 ∨ (5 ≤ i ∧ i < 9)) → t' i = t i) : wfO t' := by
  have hH := hw.2.2.2.1
  have e2 := h 2 (by omega)
  refine ⟨fun i hi => ?_, fun i j hi hj q => ?_⟩
  · rw [e2] at hi ⊢
    rw [h _ (by omega)]
    exact hO.1 i hi
  · rw [e2] at hi hj
    rw [h _ (by omega), h _ (by omega)] at q
    exact hO.2 i j hi hj q
/-- what a good item leaves -/
def okI (n : Nat) (p : Nat) (t : Nat → Nat) (r : PR) : Prop := r.1 = true → wfT r.2.2 ∧ (∀ i, (i = 2 ∨ (5 ≤ i ∧ i < 9)) → r.2.2 i = t i) ∧ t 1 ≤ r.2.2 1 ∧ p ≤ r.2.1 ∧ r.2.1 ≤ n
theorem pE_ok {p part : Nat} (hp : p ≤ n) (hq : part < 9) (hw : wfT t) : okI n p t (pE n b (9 + 8 * part) p t) := by
  intro h
  unfold pE at h ⊢
  have nb := nxp_b (b := b) hp
  by_cases q : isW n b 9 p = true
  · rw [if_pos q] at h ⊢
    have tl := trM_le (n := n) (b := b) (first := 2) (p := nxp n b p) 2 0
    have xb := nxI_b (b := b) nb.2.1 (trM n b 2 (nxp n b p) 2 0).2
    dsimp only
    exact ⟨setW_wf hq _ (by omega) (fun j hj => (trM_v 2 0 j (Nat.zero_le _) hj).2) hw, fun i hi => setW_o (by omega), by rw [setW_o (by omega)]; exact Nat.le_refl _, by omega, xb.2⟩
  · rw [if_neg q]
    exact ⟨hw, fun _ _ => rfl, Nat.le_refl _, Nat.le_refl _, hp⟩
theorem pWs_ok {p part : Nat} (hp : p ≤ n) (hq : part < 9) (hw : wfT t) : okI n p t (pWs n b (9 + 8 * part) p t) := by
  intro h
  unfold pWs at h ⊢
  have nb := nxp_b (b := b) hp
  by_cases q : isW n b 8 p = true
  · rw [if_pos q] at h ⊢
    have tl := trM_le (n := n) (b := b) (first := 4) (p := nxp n b p) 4 0
    have xb := nxI_b (b := b) nb.2.1 (trM n b 4 (nxp n b p) 4 0).2
    by_cases y : ((trM n b 4 (nxp n b p) 4 0).1 && decide (1 ≤ (trM n b 4 (nxp n b p) 4 0).2)) = true
    · rw [if_pos y] at h ⊢
      obtain ⟨a1, a2, a3, a4, a5⟩ := pE_ok (b := b) xb.2 hq (setW_wf (f := vaN n b (nxp n b p)) hq _ (by omega) (fun j hj => (trM_v (n := n) (b := b) 4 0 j (Nat.zero_le _) hj).2) hw) h
      exact ⟨a1, fun i hi => by rw [a2 i hi]; exact setW_o (by omega), by rw [setW_o (by omega)] at a3; exact a3, by omega, a5⟩
    · rw [if_neg y] at h; cases h
  · rw [if_neg q] at h ⊢
    exact pE_ok hp hq hw h
theorem pPart_ok {p : Nat} (hp : p < n) (hk : nuN n b p < 7) (hw : wfT t) : (pPart n b p t).1 = true → wfT (pPart n b p t).2.2 ∧ (∀ i, (i = 2 ∨ (5 ≤ i ∧ i < 9)) → (pPart n b p t).2.2 i = t i) ∧ t 1 ≤ (pPart n b p t).2.2 1 ∧ p < (pPart n b p t).2.1 ∧ (pPart n b p t).2.1 ≤ n := by
  intro h
  unfold pPart at h ⊢
  have n1 := nxp_b (n := n) (b := b) (p := p) (by omega)
  have n2 := nxp_b (b := b) n1.2.1
  have n3 := nxp_b (b := b) n2.2.1
  by_cases q0 : 9 ≤ t 1
  · rw [if_pos q0] at h; cases h
  · rw [if_neg q0] at h ⊢
    by_cases q1 : isW n b 7 (nxp n b p) = true
    · rw [if_pos q1] at h ⊢
      by_cases q2 : isM n b 4 (nxp n b (nxp n b p)) = true
      · rw [if_pos q2] at h ⊢
        have n4 := (isM_iff.mp q2).2
        obtain ⟨a1, a2, a3, a4, a5⟩ := pWs_ok (b := b) n3.2.1 (show t 1 < 9 by omega) (addT_wf hw (by omega) hk (show nuN n b (nxp n b (nxp n b p)) < 5 by omega)) h
        exact ⟨a1, fun i hi => by rw [a2 i hi]; exact addT_o (by omega) (by omega), by rw [addT_1] at a3; omega, by have := n1.2.2 hp; omega, a5⟩
      · rw [if_neg q2] at h; cases h
    · rw [if_neg q1] at h; cases h
theorem heM_f {p0 : Nat} : ∀ k m s, ∀ j, m ≤ j → j < (heM n b p0 k m s).2.1 → nuN n b (nxI n b p0 j) ≤ 3 ∧ ¬ s.testBit (nuN n b (nxI n b p0 j)) = true ∧ (heM n b p0 k m s).2.2.testBit (nuN n b (nxI n b p0 j)) = true ∧ ∀ i, m ≤ i → i < j → nuN n b (nxI n b p0 i) ≠ nuN n b (nxI n b p0 j) := by
  have mono : ∀ k m s i, s.testBit i = true → (heM n b p0 k m s).2.2.testBit i = true := by
    intro k
    induction k with
    | zero => intro m s i h; exact h
    | succ k ih =>
      intro m s i h
      rw [heM]
      split
      · split
        · exact ih _ _ _ (by rw [or_bit]; exact Or.inl h)
        · exact h
      · exact h
  intro k
  induction k with
  | zero => intro m s j h1 h2; exact absurd h2 (by show ¬ j < m; omega)
  | succ k ih =>
    intro m s j h1 h2
    rw [heM] at h2 ⊢
    by_cases q : soN n b (nxI n b p0 m) = 2
    · rw [if_pos q] at h2 ⊢
      by_cases q2 : nuN n b (nxI n b p0 m) ≤ 3 ∧ ¬ s.testBit (nuN n b (nxI n b p0 m)) = true
      · rw [if_pos q2] at h2 ⊢
        by_cases e : j = m
        · subst e
          exact ⟨q2.1, q2.2, mono _ _ _ _ (by rw [or_bit]; exact Or.inr rfl), fun i hi1 hi2 => absurd hi2 (by omega)⟩
        · obtain ⟨a1, a2, a3, a4⟩ := ih (m + 1) (s ||| 2 ^ nuN n b (nxI n b p0 m)) j (by omega) h2
          rw [or_bit] at a2
          refine ⟨a1, fun y => a2 (Or.inl y), a3, fun i hi1 hi2 => ?_⟩
          by_cases e2 : i = m
          · subst e2; exact fun y => a2 (Or.inr y.symm)
          · exact a4 i (by omega) hi2
      · rw [if_neg q2] at h2; exact absurd h2 (by show ¬ j < m; omega)
    · rw [if_neg q] at h2; exact absurd h2 (by show ¬ j < m; omega)
theorem pHeirs_ok {p : Nat} (hp : p < n) (hw : wfT t) : (pHeirs n b p t).1 = true → wfT (pHeirs n b p t).2.2 ∧ wfO (pHeirs n b p t).2.2 ∧ t 1 ≤ (pHeirs n b p t).2.2 1 ∧ p < (pHeirs n b p t).2.1 ∧ (pHeirs n b p t).2.1 ≤ n := by
  intro h
  unfold pHeirs at h ⊢
  have n1 := nxp_b (n := n) (b := b) (p := p) (by omega)
  have hf := heM_f (n := n) (b := b) (p0 := nxp n b p) 4 0 0
  have hb := heM_b (n := n) (b := b) (p0 := nxp n b p) 4 0 0 (by omega)
  have xb := nxI_b (b := b) n1.2.1 (heM n b (nxp n b p) 4 0 0).2.1
  simp only [Bool.and_eq_true, decide_eq_true_eq] at h
  obtain ⟨⟨h1, h2⟩, h3⟩ := h
  generalize hm : (heM n b (nxp n b p) 4 0 0).2.1 = m at *
  generalize hs : (heM n b (nxp n b p) 4 0 0).2.2 = s at *
  have fl : ∀ j, j < m → vaN n b (nxp n b p) j < m := fun j hj => by
    have := (hf j (Nat.zero_le _) hj).2.2.1
    rw [h3, Nat.testBit_two_pow_sub_one] at this
    simpa using this
  have t2 : hoT t m (vaN n b (nxp n b p)) 2 = m := rfl
  have to : ∀ i, i < m → hoT t m (vaN n b (nxp n b p)) (5 + i) = vaN n b (nxp n b p) i := fun i hi => by
    unfold hoT
    rw [if_neg (by omega), if_pos (by omega), Nat.add_sub_cancel_left]
  have tn : ∀ i, i ≠ 2 → (i < 5 ∨ 9 ≤ i) → hoT t m (vaN n b (nxp n b p)) i = t i := fun i h5 h6 => by
    unfold hoT
    rw [if_neg h5, if_neg (by omega), if_neg (by omega)]
  dsimp only
  refine ⟨wfT_of hw (by rw [tn 0 (by omega) (by omega)]; exact hw.1) (tn 1 (by omega) (by omega)) (by rw [t2]; omega) (by rw [tn 3 (by omega) (by omega)]; exact hw.2.2.2.2.1) (fun i hi => tn i (by omega) (by omega)) (fun i hi => ?_), ⟨fun i hi => ?_, fun i j hi hj e => ?_⟩, by rw [tn 1 (by omega) (by omega)]; exact Nat.le_refl _, by have := n1.2.2 hp; omega, xb.2⟩
  · by_cases y : i < m
    · rw [to i y]; have := fl i y; omega
    · unfold hoT
      rw [if_neg (by omega), if_neg (by omega), if_pos (by omega), Nat.add_sub_cancel_left]
      exact hi
  · rw [t2] at hi ⊢
    rw [to i hi]
    exact fl i hi
  · rw [t2] at hi hj
    rw [to i hi, to j hj] at e
    rcases Nat.lt_trichotomy i j with y | y | y
    · exact absurd e ((hf j (Nat.zero_le _) hj).2.2.2 i (Nat.zero_le _) y)
    · exact y
    · exact absurd e.symm ((hf i (Nat.zero_le _) hi).2.2.2 j (Nat.zero_le _) y)
theorem pItem_ok {p : Nat} (hw : wfT t) (hO : wfO t) : (pItem n b p t).1 = true → wfT (pItem n b p t).2.2 ∧ wfO (pItem n b p t).2.2 ∧ t 1 ≤ (pItem n b p t).2.2 1 ∧ p < (pItem n b p t).2.1 ∧ (pItem n b p t).2.1 ≤ n := by
  intro h
  unfold pItem at h ⊢
  by_cases q1 : soN n b p = 1
  · have hp := so_lt q1 (by decide)
    rw [if_pos q1] at h ⊢
    by_cases q2 : nuN n b p < 7
    · rw [if_pos q2] at h ⊢
      obtain ⟨a1, a2, a3, a4, a5⟩ := pPart_ok hp q2 hw h
      exact ⟨a1, wfO_25 hO hw a2, a3, a4, a5⟩
    · rw [if_neg q2] at h ⊢
      by_cases q3 : nuN n b p = 10
      · rw [if_pos q3] at h ⊢
        exact pHeirs_ok hp hw h
      · rw [if_neg q3] at h ⊢
        by_cases q4 : nuN n b p = 11
        · rw [if_pos q4] at h ⊢
          unfold pKnows at h ⊢
          have n1 := nxp_b (n := n) (b := b) (p := p) (by omega)
          have n2 := nxp_b (b := b) n1.2.1
          by_cases q5 : isM n b 3 (nxp n b p) = true
          · rw [if_pos q5]
            have n3 := (isM_iff.mp q5).2
            have l16 : t 3 ||| 2 ^ nuN n b (nxp n b p) < 16 := Nat.or_lt_two_pow (n := 4) hw.2.2.2.2.1 (Nat.pow_lt_pow_right (by decide) (by omega))
            dsimp only
            exact ⟨wfT_of hw (by rw [ut_ne (by omega)]; exact hw.1) (ut_ne (by omega)) (by rw [ut_ne (by omega)]; exact ⟨hw.2.2.1, hw.2.2.2.1⟩) (by rw [ut_eq]; exact l16) (fun i hi => ut_ne (by omega)) (fun i hi => by rw [ut_ne (by omega)]; exact hw.2.2.2.2.2.2 i hi), ut_O hO hw (by omega), by rw [ut_ne (by omega)]; exact Nat.le_refl _, by have := n1.2.2 hp; omega, n2.2.1⟩
          · rw [if_neg q5] at h; cases h
        · rw [if_neg q4] at h; cases h
  · rw [if_neg q1] at h; cases h
theorem pT_ok : ∀ (k it p : Nat) (t : Nat → Nat), wfT t → wfO t → (pT n b k it p t).2.2.1 ≤ it + k ∧ ((pT n b k it p t).1 = true → wfT (pT n b k it p t).2.2.2 ∧ wfO (pT n b k it p t).2.2.2 ∧ t 1 ≤ (pT n b k it p t).2.2.2 1) := by
  intro k
  induction k with
  | zero => intro it p t hw hO; exact ⟨Nat.le_refl _, fun y => (by cases y)⟩
  | succ k ih =>
    intro it p t hw hO
    rw [pT]
    by_cases q : (pItem n b p t).1 = true
    · obtain ⟨a1, a2, a3, a4, a5⟩ := pItem_ok hw hO q
      rw [if_pos q]
      by_cases q2 : soN n b (pItem n b p t).2.1 = 0
      · rw [if_pos q2]; exact ⟨by show it + 1 ≤ it + (k + 1); omega, fun _ => ⟨a1, a2, a3⟩⟩
      · rw [if_neg q2]
        by_cases q3 : soN n b (pItem n b p t).2.1 = 3
        · rw [if_pos q3]
          obtain ⟨b1, b2⟩ := ih (it + 1) (nxp n b (pItem n b p t).2.1) _ a1 a2
          refine ⟨by omega, fun y => ?_⟩
          obtain ⟨c1, c2, c3⟩ := b2 y
          exact ⟨c1, c2, by omega⟩
        · rw [if_neg q3]; exact ⟨by show it + 1 ≤ it + (k + 1); omega, fun y => (by cases y)⟩
    · rw [if_neg q]; exact ⟨by show it ≤ it + (k + 1); omega, fun y => (by cases y)⟩
end PTF
section TXT
variable {L : Nat} {M : Nat → Nat → Int32} {n m : Nat} {b : Nat → Nat} {t : Nat → Nat} {z : Int32} {sp : Nat → Int32} {c : Nat}
theorem k_read_l : ∀ (k it p : Nat) (t : Nat → Nat) (M : Nat → Nat → Int32), it + k = 120 → CS M n b m p → rE M 12 t z sp → wfT t → wfO t → ∃ M', R 43 11 [.ref 24, .ref 12, .int (nI it)] [] (SH L, M) = some (some (.int (if (pT n b k it p t).1 = true then nI (pT n b k it p t).2.2.1 else (-1) - nI (pT n b k it p t).2.1)), (SH L, M')) ∧ fP M M' ∧ ((pT n b k it p t).1 = true → rE M' 12 (pT n b k it p t).2.2.2 z sp) ∧ (pT n b k it p t).2.1 ≤ n := by
  intro k
  induction k with
  | zero =>
    intro it p t M hk hc hE hw hO
    obtain ⟨k', k1, a1, a2, a3, a4, -⟩ := CS_so hc
    refine ⟨M, ?_, fP_rf, fun y => (by cases y), CS_le hc⟩
    rw [r43_11]
    simp (disch := omega) only [r43_12, r43_14, r43_74, r43_75, r43_76, r43_79, r43_80, r43_83, r43_84, r43_85, nI_le'', show 120 ≤ it from by omega, if_true, a1, a2, pT, Bool.false_eq_true, if_false]
  | succ k ih =>
    intro it p t M hk hc hE hw hO
    obtain ⟨M1, e1, c1, f1, E1⟩ := k_item (L := L) hw hc hE
    obtain ⟨k', k1, a1, a2, a3, a4, -⟩ := CS_so c1
    have sl := so_le (n := n) (b := b) (pItem n b p t).2.1
    rw [pT, r43_11]
    simp (disch := omega) only [r43_12, r43_14, r43_17, r43_18, r43_19, r43_22, nI_le'', show ¬ 120 ≤ it from by omega, if_false, e1, Option.bind_some, vtl_some, b2_eq0, ite_not2]
    by_cases q : (pItem n b p t).1 = true
    · rw [if_pos q, if_pos q]
      obtain ⟨w1, w2, -, -, -⟩ := pItem_ok hw hO q
      simp (disch := omega) only [r43_25, r43_28, r43_29, r43_32, r43_33, r43_36, r43_37, a1, a3, nI_eq0, nI_add]
      by_cases q2 : soN n b (pItem n b p t).2.1 = 0
      · rw [if_pos q2, if_pos q2]
        refine ⟨M1, ?_, f1, fun _ => E1 q, CS_le c1⟩
        simp (disch := omega) only [r43_40, r43_41, if_true]
      · rw [if_neg q2, if_neg q2]
        simp (disch := omega) only [r43_42, r43_43, r43_46, r43_47, r43_50, r43_51, r43_52, a1, a3, nI_eq']
        by_cases q3 : soN n b (pItem n b p t).2.1 = 3
        · rw [if_pos q3, if_pos q3]
          obtain ⟨M2, e2, c2, f2, g2⟩ := k_next (L := L) c1
          obtain ⟨M3, e3, f3, E3, l3⟩ := ih (it + 1) _ _ M2 (by omega) c2 (rE_eq (E1 q) (fun c hc => g2 _ (by omega))) w1 w2
          refine ⟨M3, ?_, fP_tr f1 (fP_tr f2 f3), E3, l3⟩
          simp (disch := omega) only [r43_67, r43_68, e2, Option.bind_some, vtl_none]
          simp only [r43_71]
          exact e3
        · rw [if_neg q3, if_neg q3]
          refine ⟨M1, ?_, f1, fun y => (by cases y), CS_le c1⟩
          simp (disch := omega) only [r43_55, r43_56, r43_57, r43_60, r43_61, r43_64, r43_65, r43_66, a1, a2, Bool.false_eq_true, if_false]
    · rw [if_neg q, if_neg q]
      refine ⟨M1, ?_, f1, fun y => (by cases y), CS_le c1⟩
      simp (disch := omega) only [r43_74, r43_75, r43_76, r43_79, r43_80, r43_83, r43_84, r43_85, a1, a2, Bool.false_eq_true, if_false]
theorem q_text_l : ∀ (k it p : Nat) (t : Nat → Nat) (M : Nat → Nat → Int32), it + k = 120 → it ≤ p → RX M n b 0 p → rQ M 37 t z sp → wfT t → wfO t → ∃ M' x, (R 211 0 [.ref 36, .null] [] (SH L, M)).bind (fun r => R 212 24 [.ref 36, .int (nI (it + 1))] (vtl r.1 []) r.2) = R 212 74 [.ref 36, .int (nI x)] [] (SH L, M') ∧ fI M M' ∧ ((pT n b k it p t).1 = true → x = (pT n b k it p t).2.2.1 ∧ RX M' n b 0 (pT n b k it p t).2.1 ∧ rQ M' 37 (pT n b k it p t).2.2.2 z sp) ∧ (¬ (pT n b k it p t).1 = true → RX M' n b 1 (pT n b k it p t).2.1) := by
  have w74 : ∀ (M : Nat → Nat → Int32) (p x : Nat), RX M n b 1 p → R 212 24 [.ref 36, .int (nI x)] [] (SH L, M) = R 212 74 [.ref 36, .int (nI x)] [] (SH L, M) := fun M p x h => by
    rw [r212_24]
    simp only [r212_25, r212_28, RX_18 h, nz1, if_false]
  intro k
  induction k with
  | zero =>
    intro it p t M hk hip hx hq hw hO
    have h120 := hx.1.1
    have hp := hx.2.2.2.2.2.1
    have e : p = n := by omega
    subst e
    obtain ⟨M1, e1, f1, -, w1⟩ := q_item0 (L := L) hw hx hq
    have s0 : soN p b p = 0 := if_neg (Nat.lt_irrefl _)
    have pi : pItem p b p t = (false, p, t) := by unfold pItem; rw [if_neg (by rw [s0]; decide)]
    rw [pi] at w1
    have x1 : RX M1 p b 1 p := w1 (fun y => by cases y)
    refine ⟨M1, it + 1, ?_, f1, fun y => (by cases y), fun _ => x1⟩
    rw [e1, Option.bind_some, vtl_none]
    exact w74 M1 p (it + 1) x1
  | succ k ih =>
    intro it p t M hk hip hx hq hw hO
    have h120 := hx.1.1
    obtain ⟨M1, e1, f1, y1, w1⟩ := q_item0 (L := L) hw hx hq
    rw [e1, Option.bind_some, vtl_none, pT]
    by_cases q : (pItem n b p t).1 = true
    · obtain ⟨x1, q1⟩ := y1 q
      obtain ⟨v1, v2, v3, v4, v5⟩ := pItem_ok (n := n) (b := b) hw hO q
      obtain ⟨hB, h14, h15, h16, h18, hp, -⟩ := id x1
      rw [if_pos q]
      generalize hr : (pItem n b p t).2.1 = p' at x1 v4 v5 h15 h16 hp ⊢
      by_cases q2 : soN n b p' = 0
      · rw [if_pos q2]
        have e : p' = n := by
          rcases Nat.lt_or_ge p' n with y | y
          · have := srt_le (b p'); unfold soN at q2; rw [if_pos y] at q2; omega
          · omega
        refine ⟨M1, it + 1, ?_, f1, fun _ => ⟨rfl, x1, q1⟩, fun y => absurd rfl y⟩
        rw [r212_24]
        simp (disch := omega) only [r212_25, r212_28, r212_31, r212_32, r212_35, r212_36, r212_39, h18, nz0, if_true, h15, h14, nI_le'', show n ≤ p' from by omega]
      · rw [if_neg q2]
        have pl : p' < n := by
          rcases Nat.lt_or_ge p' n with y | y
          · exact y
          · exact absurd (by unfold soN; rw [if_neg (by omega)]) q2
        have ba := q_byteAt (L := L) hB h14 (p := p') (by omega)
        by_cases q3 : soN n b p' = 3
        · rw [if_pos q3]
          have b59 : p' < n ∧ b p' = 59 := ⟨pl, by unfold soN at q3; rw [if_pos pl] at q3; exact srt_3.mp q3⟩
          obtain ⟨M2, e2, f2, -, y2, -⟩ := q_needs (L := L) x1 (c := 1) (by omega)
          have x2 := y2 ⟨rfl, rfl⟩
          have nb := (nxp_b (b := b) hp).2.2 pl
          obtain ⟨M3, x, e3, f3, g3⟩ := ih (it + 1) (nxp n b p') (pItem n b p t).2.2 M2 (by omega) (by omega) x2 (rQ_50 q1 (f50_X f2) (Or.inl rfl)) v1 v2
          refine ⟨M3, x, ?_, fI_tr f1 (fI_tr (fI_X f2) f3), g3⟩
          rw [← e3, r212_24]
          simp (disch := omega) only [r212_25, r212_28, r212_31, r212_32, r212_35, r212_36, r212_39, r212_42, r212_43, r212_44, r212_45, r212_48, r212_51, r212_53, r212_56, r212_57, h18, nz0, if_true, h15, h14, nI_le'', show ¬ n ≤ p' from by omega, if_false, ba, by_eq hB, if_pos b59, Option.bind_some, vtl_some]
          simp (disch := omega) only [r212_61, r212_64, r212_65, e2, Option.bind_some, vtl_none]
          simp only [r212_68, r212_71, nI_add]
        · rw [if_neg q3]
          have b59 : ¬ (p' < n ∧ b p' = 59) := fun y => q3 (by unfold soN; rw [if_pos pl]; exact srt_3.mpr y.2)
          obtain ⟨M2, e2, f2, -, -, w2⟩ := q_needs (L := L) x1 (c := 0) (by omega)
          have x2 := w2 (fun y => absurd y.2 (by decide))
          obtain ⟨M3, e3, f3, x3⟩ := q_item1 (L := L) x2
          refine ⟨M3, it + 1 + 1, ?_, fI_tr f1 (fI_tr (fI_X f2) f3), fun y => (by cases y), fun _ => x3⟩
          rw [← w74 M3 p' (it + 1 + 1) x3, r212_24]
          simp (disch := omega) only [r212_25, r212_28, r212_31, r212_32, r212_35, r212_36, r212_39, r212_42, r212_43, r212_44, r212_45, r212_48, r212_51, r212_53, r212_56, r212_57, r212_60, h18, nz0, if_true, h15, h14, nI_le'', show ¬ n ≤ p' from by omega, if_false, ba, by_eq hB, if_neg b59, Option.bind_some, vtl_some]
          simp (disch := omega) only [r212_61, r212_64, r212_65, e2, e3, Option.bind_some, vtl_none]
          simp only [r212_68, r212_71, nI_add]
    · have x1 := w1 q
      rw [if_neg q]
      refine ⟨M1, it + 1, w74 M1 _ (it + 1) x1, f1, fun y => (by cases y), fun _ => x1⟩
end TXT
