/-! The reference divides a set -/
abbrev RES : Type := Option (Option Value × vW)
def frS (M M' : Nat → Nat → Int32) : Prop := ∀ b, (b < 41 ∨ 47 < b) → M' b = M b
theorem frS_rf {M : Nat → Nat → Int32} : frS M M := fun _ _ => rfl
theorem frS_tr {M M1 M2 : Nat → Nat → Int32} (h1 : frS M M1) (h2 : frS M1 M2) : frS M M2 := fun b hb => (h2 b hb).trans (h1 b hb)
theorem frS_up {M M1 : Nat → Nat → Int32} (h1 : frS M M1) {a k : Nat} {x : Int32} (ha : 41 ≤ a) (hb : a ≤ 47) : frS M (upd2 M1 a k x) := fun b hb => by
  rw [← h1 b hb]
  funext j
  unfold upd2
  rw [if_neg (by omega)]
theorem frS_up3 {M M1 : Nat → Nat → Int32} (h1 : frS M M1) {w : Nat} {a b c : Int32} : frS M (up3 M1 w a b c) := fun k hk => by
  rw [← h1 k hk]
  funext j
  exact up3_o (by omega) (by omega) (by omega)
theorem rS_fr {M M' : Nat → Nat → Int32} {t : Nat → Nat} (h : rS M t) (hf : frS M M') : rS M' t := fun k h1 h2 => by rw [hf 37 (Or.inl (by omega))]; exact h k h1 h2
theorem upd2_eq {M : Nat → Nat → Int32} {a k : Nat} {x : Int32} : upd2 M a k x a k = x := by simp [upd2]
theorem upd2_ne {M : Nat → Nat → Int32} {a k b j : Nat} {x : Int32} (h : b ≠ a ∨ j ≠ k) : upd2 M a k x b j = M b j := by
  unfold upd2
  by_cases e : b = a
  · rw [if_pos e, if_neg (h.resolve_left (fun z => z e))]
  · rw [if_neg e]
/-- the worths beyond the heirs there are stay -/
def Wk (M0 M : Nat → Nat → Int32) (t : Nat → Nat) : Prop := ∀ j, 512 * t 2 ≤ j → M 45 j = M0 45 j
def allT (t : Nat → Nat) : Nat := 2 ^ t 1 - 1
theorem allT_eq (t : Nat → Nat) : allT t + 1 = 2 ^ t 1 := Nat.sub_add_cancel (Nat.one_le_two_pow)
theorem pow_P {t : Nat → Nat} (hw : wfT t) : 2 ^ t 1 ≤ 512 := (Nat.pow_le_pow_right (by decide) hw.2.1 : 2 ^ t 1 ≤ 2 ^ 9)
theorem s_everything {L : Nat} {M : Nat → Nat → Int32} {t : Nat → Nat} (hs : rS M t) (hw : wfT t) : R 129 0 [.ref 36] [] (SH L, M) = some (some (.int (nI (allT t))), (SH L, M)) := by
  have hP := hw.2.1
  simp (disch := omega) only [r129_0, r129_1, r129_2, r129_5, r129_6, r129_7, r129_8, r129_9, r129_10, hs 1, nI_shl1]
  rw [pk_sub Nat.one_le_two_pow]
  rfl
/-- the first loop of findWorths -/
theorem s_fw_1 {L : Nat} {t : Nat → Nat} (hw : wfT t) {M0 : Nat → Nat → Int32} (hs : rS M0 t) {Q : RES → Prop} {v2 v3 v4 : Value} (hk : ∀ M', frS M0 M' → Wk M0 M' t → (∀ i, i < 5 → M' 46 i = nI (mem t i)) → Q (R 160 24 [.ref 36, .int (nI 5), v2, v3, v4] [] (SH L, M'))) :
    ∀ (k n : Nat) (M : Nat → Nat → Int32), n + k = 5 → frS M0 M → Wk M0 M t → (∀ i, i < n → M 46 i = nI (mem t i)) → Q (R 160 2 [.ref 36, .int (nI n), v2, v3, v4] [] (SH L, M)) := by
  intro k
  induction k with
  | zero =>
    intro n M hn hf hwk hi
    rw [r160_2]
    simp (disch := omega) only [r160_3, r160_4, nI_le'', show 5 ≤ n from by omega, if_true]
    rw [show n = 5 by omega]
    exact hk M hf hwk (fun i h => hi i (by omega))
  | succ k ih =>
    intro n M hn hf hwk hi
    rw [r160_2]
    simp (disch := omega) only [r160_3, r160_4, r160_7, r160_8, r160_11, r160_12, r160_13, r160_14, r160_17, r160_18, r160_21, nI_le'', show ¬ 5 ≤ n from by omega, if_false, s_partsOf (rS_fr hs hf) hw (show n < 5 by omega), Option.bind_some, vtl_some, nI_add]
    refine ih (n + 1) _ (by omega) (frS_up hf (by omega) (by omega)) (fun j hj => by rw [upd2_ne (Or.inl (by omega))]; exact hwk j hj) (fun i h => ?_)
    by_cases e : i = n
    · subst e; exact upd2_eq
    · rw [upd2_ne (Or.inr e)]; exact hi i (by omega)
theorem s_fw_3 {L : Nat} {t : Nat → Nat} (hw : wfT t) {M : Nat → Nat → Int32} (hs : rS M t) (ha : ∀ i, i < 5 → M 46 i = nI (mem t i)) {h s : Nat} (hh : h < 4) (hss : s < 512) : ∀ (k n : Nat), n + k = t 1 → R 160 51 [.ref 36, .int (nI h), .int (nI s), .int (nI (valN t h s n)), .int (nI n)] [] (SH L, M) = R 160 104 [.ref 36, .int (nI h), .int (nI s), .int (nI (val t h s)), .int (nI (t 1))] [] (SH L, M) := by
  have hP := hw.2.1
  intro k
  induction k with
  | zero =>
    intro n hn
    rw [r160_51]
    simp (disch := omega) only [r160_53, r160_54, r160_57, r160_58, r160_59, hs 1, nI_le'', show t 1 ≤ n from by omega, if_true]
    rw [val, show n = t 1 by omega]
  | succ k ih =>
    intro n hn
    have hth : t (9 + 8 * n + 1) < 5 := (hw.2.2.2.2.2.1 n (by omega)).2.1
    have hm := mem_lt (th t n) hw.2.1
    rw [r160_51]
    simp (disch := omega) only [r160_53, r160_54, r160_57, r160_58, r160_59, r160_62, r160_63, r160_64, r160_66, r160_69, r160_72, r160_73, r160_75, r160_76, r160_77, r160_78, r160_81, r160_82, r160_84, r160_85, r160_88, r160_89, r160_92, r160_95, hs 1, nI_le'', show ¬ t 1 ≤ n from by omega, if_false, s_has, s_its, hs (9 + 8 * n + 1), ha (t (9 + 8 * n + 1)) hth, s_bringsBy hs hw (show n < 9 by omega) hh hss hm, Option.bind_some, vtl_some, b2_eq0, ite_not2, mg_R]
    simp only [r160_96, r160_97, r160_98, r160_101, mg_n, nI_add]
    exact ih (n + 1) (by omega)
/-- the sets of an heir -/
theorem s_fw_2 {L : Nat} {t : Nat → Nat} (hw : wfT t) {M0 : Nat → Nat → Int32} (hs : rS M0 t) {Q : RES → Prop} {h : Nat} (hh : h < t 2) (hk : ∀ M' v3 v4, frS M0 M' → Wk M0 M' t → (∀ i, i < 5 → M' 46 i = nI (mem t i)) → (∀ h', h' < h + 1 → ∀ s, s < 2 ^ t 1 → M' 45 (512 * h' + s) = nI (val t h' s)) → Q (R 160 123 [.ref 36, .int (nI h), .int (nI (2 ^ t 1)), v3, v4] [] (SH L, M'))) :
    ∀ (k n : Nat) (M : Nat → Nat → Int32) (v3 v4 : Value), n + k = 2 ^ t 1 → frS M0 M → Wk M0 M t → (∀ i, i < 5 → M 46 i = nI (mem t i)) → (∀ h', h' < h → ∀ s, s < 2 ^ t 1 → M 45 (512 * h' + s) = nI (val t h' s)) → (∀ s, s < n → M 45 (512 * h + s) = nI (val t h s)) → Q (R 160 38 [.ref 36, .int (nI h), .int (nI n), v3, v4] [] (SH L, M)) := by
  have hp := pow_P hw
  have hH := hw.2.2.2.1
  have ha1 := allT_eq t
  intro k
  induction k with
  | zero =>
    intro n M v3 v4 hn hf hwk h5 hi hj
    rw [r160_38]
    simp (disch := omega) only [r160_39, r160_40, r160_43, s_everything (rS_fr hs hf) hw, Option.bind_some, vtl_some, nI_lt', show allT t < n from by omega, if_true]
    rw [show n = 2 ^ t 1 by omega]
    refine hk M v3 v4 hf hwk h5 (fun h' hh' s hs' => ?_)
    by_cases e : h' = h
    · subst e; exact hj s (by omega)
    · exact hi h' (by omega) s hs'
  | succ k ih =>
    intro n M v3 v4 hn hf hwk h5 hi hj
    rw [r160_38]
    simp (disch := omega) only [r160_39, r160_40, r160_43, r160_46, r160_47, r160_48, r160_49, s_everything (rS_fr hs hf) hw, Option.bind_some, vtl_some, nI_lt', show ¬ allT t < n from by omega, if_false]
    have k3 := s_fw_3 (L := L) hw (rS_fr hs hf) h5 (show h < 4 by omega) (show n < 512 by omega) (t 1) 0 (Nat.zero_add _)
    rw [show valN t h n 0 = 0 from rfl] at k3
    rw [k3]
    simp (disch := omega) only [r160_104, r160_105, r160_108, r160_111, r160_112, r160_113, r160_114, r160_115, r160_116, r160_117, r160_120, pk_mul, nI_add]
    refine ih (n + 1) _ _ _ (by omega) (frS_up hf (by omega) (by omega)) (fun j hj => by rw [upd2_ne (Or.inr (by omega))]; exact hwk j hj) (fun i hi5 => ?_) (fun h' hh' s hs' => ?_) (fun s hs' => ?_)
    · rw [upd2_ne (Or.inl (by omega))]; exact h5 i hi5
    · rw [upd2_ne (Or.inr (by omega))]; exact hi h' hh' s hs'
    · by_cases e : s = n
      · subst e; exact upd2_eq
      · rw [upd2_ne (Or.inr (by omega))]; exact hj s (by omega)
theorem s_fw_h {L : Nat} {t : Nat → Nat} (hw : wfT t) {M0 : Nat → Nat → Int32} (hs : rS M0 t) {Q : RES → Prop} (hk : ∀ M', frS M0 M' → Wk M0 M' t → (∀ h', h' < t 2 → ∀ s, s < 2 ^ t 1 → M' 45 (512 * h' + s) = nI (val t h' s)) → Q (some (none, (SH L, M')))) :
    ∀ (k n : Nat) (M : Nat → Nat → Int32) (v2 v3 v4 : Value), n + k = t 2 → frS M0 M → Wk M0 M t → (∀ i, i < 5 → M 46 i = nI (mem t i)) → (∀ h', h' < n → ∀ s, s < 2 ^ t 1 → M 45 (512 * h' + s) = nI (val t h' s)) → Q (R 160 26 [.ref 36, .int (nI n), v2, v3, v4] [] (SH L, M)) := by
  have hH := hw.2.2.2.1
  intro k
  induction k with
  | zero =>
    intro n M v2 v3 v4 hn hf hwk h5 hi
    rw [r160_26]
    simp (disch := omega) only [r160_27, r160_28, r160_31, r160_32, r160_33, r160_129, rS_fr hs hf 2, nI_le'', show t 2 ≤ n from by omega, if_true]
    exact hk M hf hwk (fun h' hh' => hi h' (by omega))
  | succ k ih =>
    intro n M v2 v3 v4 hn hf hwk h5 hi
    rw [r160_26]
    simp (disch := omega) only [r160_27, r160_28, r160_31, r160_32, r160_33, r160_36, r160_37, rS_fr hs hf 2, nI_le'', show ¬ t 2 ≤ n from by omega, if_false]
    refine s_fw_2 hw hs (h := n) (by omega) (fun M' v3' v4' hf' hwk' h5' hi' => ?_) (2 ^ t 1) 0 M v3 v4 (Nat.zero_add _) hf hwk h5 hi (fun s h => absurd h (Nat.not_lt_zero _))
    simp only [r160_123, r160_126, nI_add]
    exact ih (n + 1) M' _ _ _ (by omega) hf' hwk' h5' hi'
theorem s_findWorths {L : Nat} {t : Nat → Nat} (hw : wfT t) {M : Nat → Nat → Int32} (hs : rS M t) : ∃ M', R 160 0 [.ref 36, .null, .null, .null, .null] [] (SH L, M) = some (none, (SH L, M')) ∧ frS M M' ∧ Wk M M' t ∧ ∀ h', h' < t 2 → ∀ s, s < 2 ^ t 1 → M' 45 (512 * h' + s) = nI (val t h' s) := by
  simp only [r160_0, r160_1]
  refine s_fw_1 (Q := fun z => ∃ M', z = some (none, (SH L, M')) ∧ frS M M' ∧ Wk M M' t ∧ ∀ h', h' < t 2 → ∀ s, s < 2 ^ t 1 → M' 45 (512 * h' + s) = nI (val t h' s)) hw hs (fun M1 f1 hk1 h5 => ?_) 5 0 M (by omega) frS_rf (fun _ _ => rfl) (fun i h => absurd h (Nat.not_lt_zero _))
  simp only [r160_24, r160_25]
  exact s_fw_h (Q := fun z => ∃ M', z = some (none, (SH L, M')) ∧ frS M M' ∧ Wk M M' t ∧ ∀ h', h' < t 2 → ∀ s, s < 2 ^ t 1 → M' 45 (512 * h' + s) = nI (val t h' s)) hw hs (fun M' f' hk' h' => ⟨M', rfl, f', hk', h'⟩) (t 2) 0 M1 _ _ _ (Nat.zero_add _) f1 hk1 h5 (fun h' hh => absurd hh (Nat.not_lt_zero _))
