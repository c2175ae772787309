/-! The class divides: the tables are kept, a set is divided -/
theorem dif_sub0 {a b : Nat} (h : dif a b = 0) : a &&& b = a := by
  apply Nat.eq_of_testBit_eq
  intro i
  have := dif_test a b i
  rw [h, Nat.zero_testBit] at this
  rw [Nat.testBit_and]
  cases h1 : a.testBit i <;> cases h2 : b.testBit i <;> simp_all
theorem dif_dif {s f : Nat} (h : f &&& s = f) : dif s (dif s f) = f := by
  apply Nat.eq_of_testBit_eq
  intro i
  have := congrArg (fun z => z.testBit i) h
  simp only [Nat.testBit_and] at this
  rw [dif_test, dif_test]
  cases h1 : s.testBit i <;> cases h2 : f.testBit i <;> simp_all
theorem cmp_eq {v c : Nat} (hv : v < 2 ^ 30) (hc : c < 2 ^ 30) : (nI v - nI 1 = nI c) = (v = c + 1) := by
  apply propext
  rw [← Int32.toInt_inj, pk_sub_toInt hv (by decide), nI_toInt (by omega)]
  omega
theorem gn_congr {V : Nat → Nat → Nat} {r r' : Nat → Nat} : ∀ k, (∀ i, i ≤ k → r i = r' i) → gn V r k = gn V r' k := by
  intro k
  induction k with
  | zero => intro h; rw [gn, gn, h 0 (Nat.le_refl _)]
  | succ k ih => intro h; rw [gn, gn, h (k + 1) (Nat.le_refl _), ih (fun i hi => h i (by omega))]
theorem TG_congr {M : Nat → Nat → Int32} {V : Nat → Nat → Nat} {r r' : Nat → Nat} {cv k : Nat} (h : TG M V r cv k) (hr : ∀ i, i ≤ k → r i = r' i) : TG M V r' cv k := by
  unfold TG
  rw [← gn_congr k hr]
  exact h
def DI (M : Nat → Nat → Int32) (t : Nat → Nat) (c : Nat) : Prop := ∃ sn cv bt r, M 17 5 = nI sn - nI 1 ∧ sn ≤ c + 1 ∧ M 17 6 = nI cv ∧ cv < 512 ∧ M 17 7 = nI bt ∧ bt ≤ 4 ∧ (∀ i, r i < 4) ∧ (∀ i, i < 4 → M 20 i = nI (r i)) ∧ (sn = c + 1 → TV M (val t) (t 2) cv ∧ ∀ k, k < bt → r k < t 2 ∧ TG M (val t) r cv k)
def PT (M : Nat → Nat → Int32) (t o : Nat → Nat) (n s : Nat) : Prop := (∀ i, i < n → M 20 i = nI (rw_ o n i)) ∧ TV M (val t) (t 2) s ∧ ∀ k, k + 1 < n → TG M (val t) (rw_ o n) s k
section CDV2
variable {L : Nat} {M : Nat → Nat → Int32} {t : Nat → Nat} {z : Int32} {sp : Nat → Int32}
theorem s_tv_h {M1 : Nat → Nat → Int32} (hE : rE M1 2 t z sp) (hw : wfT t) {cv s j : Nat} {x2 : Int32} (hs : s < 512) {K : Nat → Nat → Prop} : ∀ (k n : Nat) (M : Nat → Nat → Int32), n + k = t 2 → frc 18 18 M1 M → (∀ h x, h < t 2 → x < 512 → (K h x ∨ (x = s ∧ h < n)) → M 18 (h * 512 + x) = nI (val t h x)) → ∃ M', R 9 45 [.ref 17, .int (nI cv), .int x2, .int (nI s), .int (nI j), .int (nI n)] [] (SH L, M) = R 9 86 [.ref 17, .int (nI cv), .int x2, .int (nI s), .int (nI j), .int (nI (t 2))] [] (SH L, M') ∧ frc 18 18 M1 M' ∧ (∀ h x, h < t 2 → x < 512 → (K h x ∨ x = s) → M' 18 (h * 512 + x) = nI (val t h x)) := by
  have hH := hw.2.2.2.1
  intro k
  induction k with
  | zero =>
    intro n M hn hf hi
    have hE1 := rE_frc hE hf (by omega)
    refine ⟨M, ?_, hf, fun h x h1 h2 h3 => hi h x h1 h2 (h3.imp id (fun q => ⟨q, by omega⟩))⟩
    rw [r9_45]
    simp (disch := first | exact isE_2 | omega) only [r9_47, r9_48, r9_51, r9_54, hE1.h, nI_le'', show t 2 ≤ n from by omega, if_true]
    rw [show n = t 2 by omega]
  | succ k ih =>
    intro n M hn hf hi
    have hE1 := rE_frc hE hf (by omega)
    rw [r9_45]
    simp (disch := first | exact isE_2 | omega) only [r9_47, r9_48, r9_51, r9_54, r9_57, r9_58, r9_61, r9_63, r9_66, r9_67, r9_68, r9_69, r9_70, r9_73, r9_75, r9_76, r9_79, r9_80, r9_83, hE1.h, nI_le'', show ¬ t 2 ≤ n from by omega, if_false, pk_mul, nI_add, s_vto isE_2 hE1 hw (show n < 4 by omega) hs, Option.bind_some, vtl_some]
    refine ih (n + 1) _ (by omega) (frc_up hf (by omega) (by omega)) (fun h x h1 h2 h3 => ?_)
    by_cases e : h * 512 + x = n * 512 + s
    · rw [e, upd2_eq, show h = n by omega, show x = s by omega]
    · rw [upd2_ne (Or.inr e)]
      refine hi h x h1 h2 (h3.imp id (fun q => ⟨q.1, ?_⟩))
      have := q.1
      omega
theorem s_tv_l {M1 : Nat → Nat → Int32} (hE : rE M1 2 t z sp) (hw : wfT t) {cv : Nat} (hcv : cv < 512) (hc : M1 17 6 = nI cv) : ∀ (k j : Nat) (M : Nat → Nat → Int32) (v5 : Value), j + k = 2 ^ pop cv → frc 18 18 M1 M → (∀ h x, h < t 2 → x < 512 → (∃ i, i < j ∧ itn cv i = x) → M 18 (h * 512 + x) = nI (val t h x)) → ∃ M', R 9 36 [.ref 17, .int (nI cv), .int (nI (2 ^ pop cv)), .int (nI (itn cv j)), .int (nI j), v5] [] (SH L, M) = some (none, (SH L, M')) ∧ frc 18 18 M1 M' ∧ TV M' (val t) (t 2) cv := by
  have hn := pop512 cv
  intro k
  induction k with
  | zero =>
    intro j M v5 hj hf hi
    refine ⟨M, ?_, hf, fun h hh s hs => ?_⟩
    · rw [r9_36]
      simp (disch := omega) only [r9_38, r9_39, r9_101, nI_le'', show 2 ^ pop cv ≤ j from by omega, if_true]
    · obtain ⟨i, i1, i2⟩ := it_all hcv hs
      have := sub_le hs
      exact hi h s hh (by omega) ⟨i, by omega, i2⟩
  | succ k ih =>
    intro j M v5 hj hf hi
    obtain ⟨i1, i2⟩ := it_sub hcv (show j < 2 ^ pop cv by omega)
    rw [r9_36]
    simp (disch := omega) only [r9_38, r9_39, r9_42, r9_43, nI_le'', show ¬ 2 ^ pop cv ≤ j from by omega, if_false]
    obtain ⟨M2, e2, f2, g2⟩ := s_tv_h (L := L) hE hw (cv := cv) (s := itn cv j) (j := j) (x2 := nI (2 ^ pop cv)) (by omega) (K := fun h x => ∃ i, i < j ∧ itn cv i = x) (t 2) 0 M (Nat.zero_add _) hf (fun h x h1 h2 h3 => hi h x h1 h2 (h3.resolve_right (fun q => absurd q.2 (Nat.not_lt_zero _))))
    rw [e2]
    have hc2 : M2 17 6 = nI cv := by rw [f2 17 (by omega)]; exact hc
    simp (disch := omega) only [r9_86, r9_87, r9_88, r9_91, r9_94, r9_95, r9_98, hc2, s_nextWithin, Option.bind_some, vtl_some, nI_add]
    refine ih (j + 1) M2 _ (by omega) f2 (fun h x h1 h2 ⟨i, hi1, hi2⟩ => g2 h x h1 h2 ?_)
    rcases Nat.lt_or_ge i j with q | q
    · exact Or.inl ⟨i, q, hi2⟩
    · exact Or.inr (by rw [← hi2, show i = j by omega])
theorem s_tellValues (hE : rE M 2 t z sp) (hw : wfT t) {s : Nat} (hs : s < 512) : ∃ M', R 9 0 [.ref 17, .int (nI s), .null, .null, .null, .null] [] (SH L, M) = some (none, (SH L, M')) ∧ frc 17 18 M M' ∧ M' 17 5 = M 2 9 ∧ M' 17 6 = nI s ∧ M' 17 7 = nI 0 ∧ TV M' (val t) (t 2) s := by
  have hpo := pop_le s
  have f1 : frc 17 18 M (upd2 (upd2 (upd2 M 17 5 (M 2 9)) 17 6 (nI s)) 17 7 (nI 0)) := frc_up (frc_up (frc_up frc_rf (by omega) (by omega)) (by omega) (by omega)) (by omega) (by omega)
  have hE1 := rE_frc hE f1 (by omega)
  have e6 : upd2 (upd2 (upd2 M 17 5 (M 2 9)) 17 6 (nI s)) 17 7 (nI 0) 17 6 = nI s := by rw [upd2_ne (Or.inr (by omega)), upd2_eq]
  obtain ⟨M', e, f, g⟩ := s_tv_l (L := L) hE1 hw hs e6 (2 ^ pop s) 0 _ .null (Nat.zero_add _) frc_rf (fun h x _ _ ⟨i, hi, _⟩ => absurd hi (Nat.not_lt_zero _))
  refine ⟨M', ?_, frc_tr f1 (frc_mo f (by omega) (by omega)), ?_, ?_, ?_, g⟩
  · simp (disch := first | exact isE_2 | omega) only [r9_0, r9_1, r9_2, r9_5, r9_8, r9_11, r9_12, r9_13, r9_16, r9_17, r9_18, r9_21, r9_22, r9_23, r9_26, r9_29, r9_30, r9_31, r9_32, r9_33, r9_34, e6, s_bitCount hs, Option.bind_some, vtl_some, nI_shl1]
    exact e
  · rw [f 17 (by omega), upd2_ne (Or.inr (by omega)), upd2_ne (Or.inr (by omega)), upd2_eq]
  · rw [f 17 (by omega)]; exact e6
  · rw [f 17 (by omega), upd2_eq]
/-- the loop of prepare -/
theorem s_prep_l (hw : wfT t) {o : Nat → Nat} {a n s c cv : Nat} (ha : isO a) (hon : ∀ i, i < n → o i < t 2) (hn : n ≤ t 2) (hcv : cv < 512) {M0 : Nat → Nat → Int32} (ho : ∀ i, i < 4 → M0 a i = nI (o i)) : ∀ (k b : Nat) (M : Nat → Nat → Int32) (v5 : Value) (r : Nat → Nat) (bt : Nat), b + k = n → frc 17 20 M0 M → M 17 5 = nI (c + 1) - nI 1 → M 17 6 = nI cv → M 17 7 = nI bt → bt ≤ 4 → (∀ i, r i < 4) → (∀ i, i < 4 → M 20 i = nI (r i)) → (∀ i, i < b → r i = rw_ o n i) → (b ≤ bt ∨ n - 1 ≤ bt) → TV M (val t) (t 2) cv → (∀ k, k < bt → r k < t 2 ∧ TG M (val t) r cv k) → ∃ M', R 8 33 [.ref 17, .ref a, .int (nI n), .int (nI s), .int (nI b), v5] [] (SH L, M) = some (none, (SH L, M')) ∧ frc 17 20 M0 M' ∧ ∃ r' bt', M' 17 5 = nI (c + 1) - nI 1 ∧ M' 17 6 = nI cv ∧ M' 17 7 = nI bt' ∧ bt' ≤ 4 ∧ (∀ i, r' i < 4) ∧ (∀ i, i < 4 → M' 20 i = nI (r' i)) ∧ (∀ i, i < n → r' i = rw_ o n i) ∧ n - 1 ≤ bt' ∧ TV M' (val t) (t 2) cv ∧ (∀ k, k < bt' → r' k < t 2 ∧ TG M' (val t) r' cv k) := by
  have hH := hw.2.2.2.1
  have hoa : a < 17 ∨ 20 < a := by rcases ha with rfl | rfl <;> omega
  intro k
  induction k with
  | zero =>
    intro b M v5 r bt hb hf h5 h6 h7 hbt hr4 hr hrow hbb hV hG
    refine ⟨M, ?_, hf, r, bt, h5, h6, h7, hbt, hr4, hr, fun i hi => hrow i (by omega), by omega, hV, hG⟩
    rw [r8_33]
    simp (disch := omega) only [r8_35, r8_36, r8_113, nI_le'', show n ≤ b from by omega, if_true]
  | succ k ih =>
    intro b M v5 r bt hb hf h5 h6 h7 hbt hr4 hr hrow hbb hV hG
    have eo : M a (n - 1 - b) = nI (o (n - 1 - b)) := by rw [hf a hoa]; exact ho _ (by omega)
    have ob := hon (n - 1 - b) (by omega)
    have rb := hr4 b
    have e33 : R 8 33 [.ref 17, .ref a, .int (nI n), .int (nI s), .int (nI b), v5] [] (SH L, M) = R 8 49 [.ref 17, .ref a, .int (nI n), .int (nI s), .int (nI b), .int (nI (o (n - 1 - b)))] [] (SH L, M) := by
      rw [r8_33]
      simp (disch := first | exact ha | omega) only [r8_35, r8_36, r8_39, r8_40, r8_41, r8_42, r8_43, r8_45, r8_46, r8_47, nI_le'', show ¬ n ≤ b from by omega, if_false, pk_sub (show 1 ≤ n by omega), pk_sub (show b ≤ n - 1 by omega), eo]
    rw [e33]
    simp (disch := omega) only [r8_49, r8_51, r8_52, r8_55, r8_58, r8_59, r8_62, r8_64, r8_65, r8_67, h7, hr, nI_le'', nI_eq']
    by_cases hc : b < bt ∧ r b = o (n - 1 - b)
    · rw [if_neg (by omega), if_pos hc.2]
      simp only [r8_107, r8_110, nI_add]
      refine ih (b + 1) M _ r bt (by omega) hf h5 h6 h7 hbt hr4 hr (fun i hi => ?_) (by omega) hV hG
      rcases Nat.lt_or_ge i b with q | q
      · exact hrow i q
      · rw [show i = b by omega]; exact hc.2
    · have e70 : (if bt ≤ b then R 8 70 [.ref 17, .ref a, .int (nI n), .int (nI s), .int (nI b), .int (nI (o (n - 1 - b)))] [] (SH L, M) else if r b = o (n - 1 - b) then R 8 107 [.ref 17, .ref a, .int (nI n), .int (nI s), .int (nI b), .int (nI (o (n - 1 - b)))] [] (SH L, M) else R 8 70 [.ref 17, .ref a, .int (nI n), .int (nI s), .int (nI b), .int (nI (o (n - 1 - b)))] [] (SH L, M)) = R 8 70 [.ref 17, .ref a, .int (nI n), .int (nI s), .int (nI b), .int (nI (o (n - 1 - b)))] [] (SH L, M) := by
        by_cases q : bt ≤ b
        · rw [if_pos q]
        · rw [if_neg q, if_neg (fun z => hc ⟨by omega, z⟩)]
      rw [e70]
      let r' : Nat → Nat := fun i => if i = b then o (n - 1 - b) else r i
      have r'4 : ∀ i, r' i < 4 := fun i => by
        show (if i = b then o (n - 1 - b) else r i) < 4
        split
        · omega
        · exact hr4 i
      have r'r : ∀ i, i < b + 1 → r' i = rw_ o n i := fun i hi => by
        show (if i = b then o (n - 1 - b) else r i) = _
        by_cases q : i = b
        · rw [if_pos q, q]; rfl
        · rw [if_neg q]; exact hrow i (by omega)
      have r'o : ∀ i, i < b → r i = r' i := fun i hi => by
        show _ = (if i = b then o (n - 1 - b) else r i)
        rw [if_neg (by omega)]
      have f2 : frc 17 20 M0 (upd2 (upd2 M 20 b (nI (o (n - 1 - b)))) 17 7 (nI b)) := frc_up (frc_up hf (by omega) (by omega)) (by omega) (by omega)
      have m20 : ∀ i, i < 4 → upd2 (upd2 M 20 b (nI (o (n - 1 - b)))) 17 7 (nI b) 20 i = nI (r' i) := fun i hi => by
        rw [upd2_ne (Or.inl (by omega))]
        show _ = nI (if i = b then o (n - 1 - b) else r i)
        by_cases q : i = b
        · rw [if_pos q, q, upd2_eq]
        · rw [if_neg q, upd2_ne (Or.inr q)]; exact hr i hi
      have m5 : upd2 (upd2 M 20 b (nI (o (n - 1 - b)))) 17 7 (nI b) 17 5 = nI (c + 1) - nI 1 := by rw [upd2_ne (Or.inr (by omega)), upd2_ne (Or.inl (by omega))]; exact h5
      have m6 : upd2 (upd2 M 20 b (nI (o (n - 1 - b)))) 17 7 (nI b) 17 6 = nI cv := by rw [upd2_ne (Or.inr (by omega)), upd2_ne (Or.inl (by omega))]; exact h6
      have mV : TV (upd2 (upd2 M 20 b (nI (o (n - 1 - b)))) 17 7 (nI b)) (val t) (t 2) cv := fun h hh s hs => by rw [upd2_ne (Or.inl (by omega)), upd2_ne (Or.inl (by omega))]; exact hV h hh s hs
      have mG : ∀ j, j < b → j < bt ∨ b = n - 1 → TG (upd2 (upd2 M 20 b (nI (o (n - 1 - b)))) 17 7 (nI b)) (val t) r' cv j := fun j hj hjb => TG_congr (r := r) (fun s hs => by rw [upd2_ne (Or.inl (by omega)), upd2_ne (Or.inl (by omega))]; exact (hG j (by omega)).2 s hs) (fun i hi => r'o i (by omega))
      simp (disch := omega) only [r8_70, r8_71, r8_74, r8_76, r8_78, r8_79, r8_80, r8_82, r8_85, r8_87, r8_88, r8_89, r8_90, pk_sub (show 1 ≤ n by omega), nI_le'']
      by_cases hl : n - 1 ≤ b
      · rw [if_pos hl]
        simp only [r8_107, r8_110, nI_add]
        refine ih (b + 1) _ _ r' b (by omega) f2 m5 m6 upd2_eq (by omega) r'4 m20 r'r (by omega) mV (fun j hj => ⟨?_, mG j hj (by omega)⟩)
        rw [r'r j (by omega)]
        exact hon _ (by omega)
      · rw [if_neg hl]
        obtain ⟨M3, e3, f3, g3⟩ := s_tellGains (L := L) (M := upd2 (upd2 M 20 b (nI (o (n - 1 - b)))) 17 7 (nI b)) (V := val t) (r := r') (H := t 2) (cv := cv) (m := 1782) (k := b) hcv (by omega) hH (fun i hi => ⟨m20 i (by omega), by rw [r'r i (by omega)]; exact hon _ (by omega)⟩) m6 mV (fun i s hi hs => val_le hw (r'4 i) s) (by omega) (fun j hj => mG j hj (by omega)) (fun j s hj hs => gn_le (fun k s _ => val_le hw (r'4 k) s) j s hs)
        simp only [r8_93, r8_94, r8_96, r8_99, r8_100, r8_102, r8_103, r8_104, r8_107, r8_110, e3, Option.bind_some, vtl_none, nI_add]
        have f3' : frc 17 20 M0 (upd2 M3 17 7 (nI (b + 1))) := frc_up (frc_tr f2 (fun q hq => by funext i; exact f3 q i (Or.inl (by omega)))) (by omega) (by omega)
        refine ih (b + 1) _ _ r' (b + 1) (by omega) f3' ?_ ?_ upd2_eq (by omega) r'4 ?_ r'r (by omega) ?_ (fun j hj => ⟨?_, ?_⟩)
        · rw [upd2_ne (Or.inr (by omega)), f3 17 5 (Or.inl (by omega))]; exact m5
        · rw [upd2_ne (Or.inr (by omega)), f3 17 6 (Or.inl (by omega))]; exact m6
        · intro i hi; rw [upd2_ne (Or.inl (by omega)), f3 20 i (Or.inl (by omega))]; exact m20 i hi
        · intro h hh s hs; rw [upd2_ne (Or.inl (by omega)), f3 18 _ (Or.inl (by omega))]; exact mV h hh s hs
        · rw [r'r j (by omega)]; exact hon _ (by omega)
        · intro s hs
          rw [upd2_ne (Or.inl (by omega))]
          have := sub_le hs
          by_cases q : j = b
          · subst q; exact g3 s hs
          · rw [f3 19 _ (Or.inr (by omega))]; exact mG j (by omega) (by omega) s hs
theorem s_prepare (hE : rE M 2 t z sp) (hw : wfT t) {o : Nat → Nat} {a n s c : Nat} (ha : isO a) (hon : ∀ i, i < n → o i < t 2) (hn : n ≤ t 2) (ho : ∀ i, i < 4 → M a i = nI (o i)) (hc : M 2 9 = nI c) (hcb : c < 100000000) (hD : DI M t c) (hs : s < 512) : ∃ M', R 8 0 [.ref 17, .ref a, .int (nI n), .int (nI s), .null, .null] [] (SH L, M) = some (none, (SH L, M')) ∧ frc 17 20 M M' ∧ DI M' t c ∧ PT M' t o n s := by
  obtain ⟨sn, cv, bt, r, h5, hsn, h6, hcv, h7, hbt, hr4, hr, ht⟩ := hD
  have hoa : a < 17 ∨ 20 < a := by rcases ha with rfl | rfl <;> omega
  have d1 : dif s cv < 2 ^ 31 := Nat.lt_of_le_of_lt (dif_le _ _) (by omega)
  have fin : ∀ (M1 : Nat → Nat → Int32) cv' bt', frc 17 20 M M1 → M1 17 5 = nI (c + 1) - nI 1 → M1 17 6 = nI cv' → cv' < 512 → s &&& cv' = s → M1 17 7 = nI bt' → bt' ≤ 4 → (∀ i, i < 4 → M1 20 i = nI (r i)) → TV M1 (val t) (t 2) cv' → (∀ k, k < bt' → r k < t 2 ∧ TG M1 (val t) r cv' k) → ∃ M', R 8 30 [.ref 17, .ref a, .int (nI n), .int (nI s), .null, .null] [] (SH L, M1) = some (none, (SH L, M')) ∧ frc 17 20 M M' ∧ DI M' t c ∧ PT M' t o n s := by
    intro M1 cv' bt' f1 g5 g6 gcv gs g7 gbt gr gV gG
    obtain ⟨M', e, f, r', bt', i5, i6, i7, ib, ir4, ir, irow, inb, iV, iG⟩ := s_prep_l (L := L) hw (s := s) (c := c) ha hon hn gcv (M0 := M1) (fun i hi => by rw [f1 a hoa]; exact ho i hi) n 0 M1 .null r bt' (Nat.zero_add _) frc_rf g5 g6 g7 gbt hr4 gr (fun i hi => absurd hi (Nat.not_lt_zero _)) (by omega) gV gG
    refine ⟨M', ?_, frc_tr f1 f, ⟨c + 1, cv', bt', r', i5, Nat.le_refl _, i6, gcv, i7, ib, ir4, ir, fun _ => ⟨iV, iG⟩⟩, fun i hi => ?_, fun h hh a ha => iV h hh a (sub_tr ha gs), fun k hk => TG_congr (r := r') (fun a ha => (iG k (by omega)).2 a (sub_tr ha gs)) (fun i hi => irow i (by omega))⟩
    · simp only [r8_30, r8_31]
      exact e
    · have := hw.2.2.2.1
      rw [ir i (by omega), irow i hi]
  have tv : ∃ M', R 8 25 [.ref 17, .ref a, .int (nI n), .int (nI s), .null, .null] [] (SH L, M) = some (none, (SH L, M')) ∧ frc 17 20 M M' ∧ DI M' t c ∧ PT M' t o n s := by
    obtain ⟨M1, e1, f1, a5, a6, a7, aV⟩ := s_tellValues (L := L) hE hw hs
    have := fin M1 s 0 (frc_mo f1 (by omega) (by omega)) (by rw [a5, hc, pk_sub (by omega), Nat.add_sub_cancel]) a6 hs (Nat.and_self _) a7 (by omega) (fun i hi => by rw [f1 20 (by omega)]; exact hr i hi) aV (fun k hk => absurd hk (Nat.not_lt_zero _))
    simp only [r8_25, r8_26, r8_27, e1, Option.bind_some, vtl_none]
    exact this
  simp (disch := omega) only [r8_0, r8_1, r8_4, r8_5, r8_8, r8_11, r8_14, r8_15, r8_16, r8_19, r8_20, r8_21, r8_22, h5, hc, cmp_eq, h6, nI_dif, nI_eq0]
  by_cases q : sn = c + 1
  · rw [if_pos q]
    by_cases q2 : dif s cv = 0
    · rw [if_pos q2]
      exact fin M cv bt frc_rf (by rw [h5, q]) h6 hcv (dif_sub0 q2) h7 hbt hr (ht q).1 (ht q).2
    · rw [if_neg q2]; exact tv
  · rw [if_neg q]; exact tv
/-- Arrays.fill(shares, 0) -/
theorem s_fill : ∃ M', R 234 0 [.ref 21, .int (nI 0), .null, .null] [] (SH L, M) = some (none, (SH L, M')) ∧ frc 21 21 M M' ∧ ∀ h, h < 4 → M' 21 h = nI 0 := by
  refine ⟨upd2 (upd2 (upd2 (upd2 M 21 0 (nI 0)) 21 1 (nI 0)) 21 2 (nI 0)) 21 3 (nI 0), ?_, frc_up (frc_up (frc_up (frc_up frc_rf (by omega) (by omega)) (by omega) (by omega)) (by omega) (by omega)) (by omega) (by omega), fun h hh => ?_⟩
  · simp (disch := omega) only [r234_0, r234_1, r234_2, r234_3, r234_4, r234_5, r234_6, r234_7, r234_10, r234_11, r234_12, r234_13, r234_14, r234_17, r234_20, nI_le'', nI_add, Nat.reduceAdd, Nat.reduceLeDiff, if_true, if_false]
  · have : h = 0 ∨ h = 1 ∨ h = 2 ∨ h = 3 := by omega
    rcases this with rfl | rfl | rfl | rfl <;> simp [upd2]
theorem s_divide_l (hw : wfT t) {o : Nat → Nat} {a n s0 : Nat} (hon : ∀ i, i < n → o i < t 2) (hn : n ≤ t 2) (hs0 : s0 < 512) {M0 : Nat → Nat → Int32} (hp : PT M0 t o n s0) : ∀ (k s : Nat) (M : Nat → Nat → Int32) (d : Nat → Nat) (v6 v7 v8 : Value), k < n → s &&& s0 = s → frc 21 21 M0 M → (∀ h, h < 4 → M 21 h = nI (d h)) → ∃ M', R 7 23 [.ref 17, .ref a, .int (nI n), .int (nI s0), .int (nI s), .int (nI k), v6, v7, v8] [] (SH L, M) = some (none, (SH L, M')) ∧ frc 21 21 M0 M' ∧ (∀ h, h < 4 → M' 21 h = nI (shN (val t) (rw_ o n) k s d h)) := by
  have hH := hw.2.2.2.1
  obtain ⟨p1, p2, p3⟩ := hp
  have ro : ∀ i, i < n → rw_ o n i < t 2 := fun i hi => hon _ (by omega)
  intro k
  induction k with
  | zero =>
    intro s M d v6 v7 v8 hk hs hf hd
    have e1 : M 20 0 = nI (rw_ o n 0) := by rw [hf 20 (by omega)]; exact p1 0 hk
    have := ro 0 hk
    refine ⟨upd2 M 21 (rw_ o n 0) (nI s), ?_, frc_up hf (by omega) (by omega), fun h hh => ?_⟩
    · rw [r7_23, r7_25, if_pos (by rw [← nI_0]; exact Int32.le_refl _)]
      simp (disch := omega) only [r7_105, r7_106, r7_109, r7_110, r7_113, r7_114, r7_115, r7_117, r7_118, e1]
    · show _ = nI (if h = rw_ o n 0 then s else d h)
      by_cases q : h = rw_ o n 0
      · rw [if_pos q, q, upd2_eq]
      · rw [if_neg q, upd2_ne (Or.inr q)]; exact hd h hh
  | succ k ih =>
    intro s M d v6 v7 v8 hk hs hf hd
    have hsl := sub_le hs
    have e1 : M 20 (k + 1) = nI (rw_ o n (k + 1)) := by rw [hf 20 (by omega)]; exact p1 _ hk
    have r1 := ro (k + 1) hk
    have hv : ∀ x, x &&& s = x → M 18 (rw_ o n (k + 1) * 512 + x) = nI (val t (rw_ o n (k + 1)) x) := fun x hx => by rw [hf 18 (by omega)]; exact p2 _ r1 x (sub_tr hx hs)
    have hg : ∀ x, x &&& s = x → M 19 (k * 512 + x) = nI (gn (val t) (rw_ o n) k x) := fun x hx => by rw [hf 19 (by omega)]; exact p3 k (by omega) x (sub_tr hx hs)
    have hgm : ∀ x, x < 512 → gn (val t) (rw_ o n) k x ≤ 1782 := fun x hx => by
      have : gn (val t) (fun i => if i < n then rw_ o n i else 0) k = gn (val t) (rw_ o n) k := gn_congr k (fun i hi => if_pos (by omega))
      rw [← this]
      exact gn_le (fun j s _ => val_le hw (by
        show (if j < n then rw_ o n j else 0) < 4
        split
        · rename_i q; have := ro j q; omega
        · omega) s) k x hx
    have bf : R 12 0 [.ref 17, .int (nI (k + 1)), .int (nI s), .null, .null, .null, .null, .null, .null, .null, .null, .null, .null, .null, .null] [] (SH L, M) = some (some (.int (nI (fro (val t) (rw_ o n) k s))), (SH L, M)) := s_bestFront (L := L) (k := k) (s := s) (by omega) (by omega) (show rw_ o n (k + 1) < 4 by omega) e1 hv hg (fun x _ => val_le hw (show rw_ o n (k + 1) < 4 by omega) x) hgm (by omega)
    have fs : fro (val t) (rw_ o n) k s &&& s = fro (val t) (rw_ o n) k s := bsN_sub (show s < 512 by omega) (2 ^ pop (rst s)) (Nat.le_refl _)
    generalize hfr : fro (val t) (rw_ o n) k s = f at bf fs
    have fl := sub_le fs
    have bl := dif_le s f
    have g1 := hgm f (by omega)
    have g2 := hgm (dif s f) (by omega)
    rw [r7_23, r7_25, if_neg (by rw [← nI_0, nI_le'' (by omega) (by omega)]; omega)]
    simp (disch := omega) only [r7_28, r7_29, r7_31, r7_33, r7_36, r7_38, r7_40, r7_42, r7_43, r7_44, r7_45, r7_47, r7_48, r7_50, r7_51, r7_52, r7_54, r7_56, r7_59, r7_61, r7_62, r7_65, r7_66, r7_69, r7_71, r7_72, r7_74, r7_77, r7_79, r7_82, bf, Option.bind_some, vtl_some, nI_dif, pk_sub (show 1 ≤ k + 1 by omega), Nat.add_sub_cancel, s_prefersBack (hg f fs) (hg _ (dif_sub s f)), e1, c2_eq0, mg_R]
    have ek : (if gn (val t) (rw_ o n) k (dif s f) ≤ gn (val t) (rw_ o n) k f then nI (dif s f) else nI f) = nI (kpR (val t) (rw_ o n) (k + 1) s) := by
      rw [mg_n, kpR, hfr]
      rfl
    rw [ek]
    have er : (if gn (val t) (rw_ o n) k (dif s f) ≤ gn (val t) (rw_ o n) k f then nI f else nI (dif s f)) = nI (dif s (kpR (val t) (rw_ o n) (k + 1) s)) := by
      rw [mg_n, kpR, hfr, kp]
      by_cases q : gn (val t) (rw_ o n) k (dif s f) ≤ gn (val t) (rw_ o n) k f
      · rw [if_pos q, if_pos q, dif_dif fs]
      · rw [if_neg q, if_neg q]
    simp (disch := omega) only [r7_84, r7_85, r7_87, r7_90, r7_92, r7_95, c2_eq0, mg_R, er]
    have ed : nI (k + 1) + (-1) = nI k := nI_dec
    simp (disch := omega) only [r7_97, r7_99, r7_102, ed]
    refine ih _ _ (fun h => if h = rw_ o n (k + 1) then kpR (val t) (rw_ o n) (k + 1) s else d h) _ _ _ (by omega) (sub_tr (dif_sub _ _) hs) (frc_up hf (by omega) (by omega)) (fun h hh => ?_)
    by_cases q : h = rw_ o n (k + 1)
    · rw [if_pos q, q, upd2_eq]
    · rw [if_neg q, upd2_ne (Or.inr q)]; exact hd h hh
theorem DI_frc {M' : Nat → Nat → Int32} {c a b : Nat} (h : DI M t c) (hf : frc a b M M') (hd : b < 17 ∨ 20 < a) : DI M' t c := by
  obtain ⟨sn, cv, bt, r, h5, hsn, h6, hcv, h7, hbt, hr4, hr, ht⟩ := h
  have e17 := hf 17 (by omega); have e18 := hf 18 (by omega); have e19 := hf 19 (by omega); have e20 := hf 20 (by omega)
  refine ⟨sn, cv, bt, r, by rw [e17]; exact h5, hsn, by rw [e17]; exact h6, hcv, by rw [e17]; exact h7, hbt, hr4, fun i hi => by rw [e20]; exact hr i hi, fun q => ⟨fun h hh s hs => by rw [e18]; exact (ht q).1 h hh s hs, fun k hk => ⟨((ht q).2 k hk).1, fun s hs => by rw [e19]; exact ((ht q).2 k hk).2 s hs⟩⟩⟩
theorem s_divide (hE : rE M 2 t z sp) (hw : wfT t) {o : Nat → Nat} {a n s c : Nat} (ha : isO a) (hon : ∀ i, i < n → o i < t 2) (hn : n ≤ t 2) (hn1 : 1 ≤ n) (ho : ∀ i, i < 4 → M a i = nI (o i)) (hc : M 2 9 = nI c) (hcb : c < 100000000) (hD : DI M t c) (hs : s < 512) : ∃ M', R 7 0 [.ref 17, .ref a, .int (nI n), .int (nI s), .null, .null, .null, .null, .null] [] (SH L, M) = some (none, (SH L, M')) ∧ frc 17 21 M M' ∧ DI M' t c ∧ ∀ h, h < 4 → M' 21 h = nI (shN (val t) (rw_ o n) (n - 1) s (fun _ => 0) h) := by
  obtain ⟨M1, e1, f1, d1, p1⟩ := s_prepare (L := L) hE hw ha hon hn ho hc hcb hD hs
  obtain ⟨M2, e2, f2, g2⟩ := s_fill (L := L) (M := M1)
  have p2 : PT M2 t o n s := ⟨fun i hi => by rw [f2 20 (by omega)]; exact p1.1 i hi, fun h hh x hx => by rw [f2 18 (by omega)]; exact p1.2.1 h hh x hx, fun k hk x hx => by rw [f2 19 (by omega)]; exact p1.2.2 k hk x hx⟩
  obtain ⟨M3, e3, f3, g3⟩ := s_divide_l (L := L) (a := a) hw hon hn hs p2 (n - 1) s M2 (fun _ => 0) .null .null .null (by omega) (Nat.and_self _) frc_rf g2
  refine ⟨M3, ?_, frc_tr (frc_mo f1 (by omega) (by omega)) (frc_tr (frc_mo f2 (by omega) (by omega)) (frc_mo f3 (by omega) (by omega))), DI_frc d1 (frc_tr f2 f3) (by omega), g3⟩
  simp (disch := first | exact ha | omega) only [r7_0, r7_1, r7_2, r7_3, r7_4, r7_7, r7_8, r7_11, r7_12, r7_15, r7_16, r7_18, r7_19, r7_20, r7_21, e1, e2, Option.bind_some, vtl_none, pk_sub hn1]
  exact e3
end CDV2
