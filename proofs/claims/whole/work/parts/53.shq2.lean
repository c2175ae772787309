/-! Acts over the shares, second half -/
theorem shN_out {V : Nat → Nat → Nat} {r : Nat → Nat} {h : Nat} : ∀ (k s : Nat) (a : Nat → Nat), (∀ i, i ≤ k → h ≠ r i) → shN V r k s a h = a h := by
  intro k
  induction k with
  | zero => intro s a hi; exact if_neg (hi 0 (Nat.le_refl _))
  | succ k ih =>
    intro s a hi
    rw [shN, ih _ _ (fun i h => hi i (by omega))]
    exact if_neg (hi (k + 1) (Nat.le_refl _))
theorem kpR_sub {V : Nat → Nat → Nat} {r : Nat → Nat} {k s : Nat} (hs : s < 512) : kpR V r k s &&& s = kpR V r k s := by
  cases k with
  | zero => exact Nat.and_self s
  | succ k => exact kp_sub (bsN_sub hs _ (Nat.le_refl _))
theorem dif_dj (s f : Nat) {a : Nat} (h : a &&& dif s f = a) (i : Nat) (h1 : a.testBit i = true) : ¬ f.testBit i = true := by
  have := congrArg (fun z => z.testBit i) h
  simp only [Nat.testBit_and, dif_test, h1] at this
  cases q : f.testBit i <;> simp_all
theorem shN_dj {V : Nat → Nat → Nat} {r : Nat → Nat} : ∀ (k s : Nat) (a : Nat → Nat), s < 512 → (∀ i j, i ≤ k → j ≤ k → r i = r j → i = j) → (∀ i, i ≤ k → shN V r k s a (r i) &&& s = shN V r k s a (r i)) ∧ ∀ p i j, i ≤ k → j ≤ k → (shN V r k s a (r i)).testBit p = true → (shN V r k s a (r j)).testBit p = true → i = j := by
  intro k
  induction k with
  | zero =>
    intro s a hs hr
    refine ⟨fun i hi => ?_, fun p i j hi hj _ _ => by omega⟩
    rw [show i = 0 by omega]
    show (if r 0 = r 0 then s else a (r 0)) &&& s = (if r 0 = r 0 then s else a (r 0))
    rw [if_pos rfl, Nat.and_self]
  | succ k ih =>
    intro s a hs hr
    have hd : dif s (kpR V r (k + 1) s) < 512 := Nat.lt_of_le_of_lt (dif_le _ _) hs
    obtain ⟨i1, i2⟩ := ih (dif s (kpR V r (k + 1) s)) (fun h => if h = r (k + 1) then kpR V r (k + 1) s else a h) hd (fun i j hi hj => hr i j (by omega) (by omega))
    have el : shN V r (k + 1) s a (r (k + 1)) = kpR V r (k + 1) s := by
      rw [shN, shN_out k _ _ (fun i hi h => by have := hr (k + 1) i (by omega) (by omega) h; omega)]
      exact if_pos rfl
    have eo : ∀ h, shN V r (k + 1) s a h = shN V r k (dif s (kpR V r (k + 1) s)) (fun h => if h = r (k + 1) then kpR V r (k + 1) s else a h) h := fun h => rfl
    refine ⟨fun i hi => ?_, fun p i j hi hj h1 h2 => ?_⟩
    · by_cases q : i = k + 1
      · subst q; rw [el]; exact kpR_sub hs
      · rw [eo]; exact sub_tr (i1 i (by omega)) (dif_sub _ _)
    · by_cases q : i = k + 1
      · by_cases q2 : j = k + 1
        · omega
        · subst q
          rw [el] at h1
          rw [eo] at h2
          exact absurd h1 (dif_dj s _ (i1 j (by omega)) p h2)
      · by_cases q2 : j = k + 1
        · subst q2
          rw [el] at h2
          rw [eo] at h1
          exact absurd h2 (dif_dj s _ (i1 i (by omega)) p h1)
        · rw [eo] at h1 h2
          exact i2 p i j (by omega) (by omega) h1 h2
theorem sha_ow1 {t : Nat → Nat} (hw : wfT t) (hO : wfO t) {s : Nat} (hs : s < 512) (p : Nat) : ow1 (sha t s) p 0 (t 2) := by
  have hH1 := hw.2.2.1
  intro a ha b hb h1 h2
  obtain ⟨i, hi, rfl⟩ := ord_all hw hO ha
  obtain ⟨j, hj, rfl⟩ := ord_all hw hO hb
  have e : ∀ i, i < t 2 → t (5 + i) = rwT t (t 2 - 1 - i) := fun i hi => by
    show t (5 + i) = t (5 + (t 2 - 1 - (t 2 - 1 - i)))
    congr 1
    omega
  have := (shN_dj (V := val t) (r := rwT t) (t 2 - 1) s (fun _ => 0) hs (fun i j hi hj h => by
    have := hO.2 (t 2 - 1 - i) (t 2 - 1 - j) (by omega) (by omega) h
    omega)).2 p (t 2 - 1 - i) (t 2 - 1 - j) (by omega) (by omega) (by rw [← e i hi]; exact h1) (by rw [← e j hj]; exact h2)
  rw [show i = j by omega]
/-- a change of two parts by which both gain -/
abbrev dC (t sh : Nat → Nat) (p q : Nat) : Prop := owL sh p (t 2) ≠ owL sh q (t 2) ∧ val t (owL sh p (t 2)) (sh (owL sh p (t 2))) < val t (owL sh p (t 2)) (sh (owL sh p (t 2)) ^^^ (2 ^ p ||| 2 ^ q)) ∧ val t (owL sh q (t 2)) (sh (owL sh q (t 2))) < val t (owL sh q (t 2)) (sh (owL sh q (t 2)) ^^^ (2 ^ p ||| 2 ^ q))
def dlI (t sh : Nat → Nat) (p : Nat) : Nat → Nat → Option Nat
  | 0, _ => none
  | k + 1, q => if dC t sh p q then some (10 * p + q) else dlI t sh p k (q + 1)
def dlO (t sh : Nat → Nat) : Nat → Nat → Option Nat
  | 0, _ => none
  | k + 1, p => match dlI t sh p k (p + 1) with
    | some r => some r
    | none => dlO t sh k (p + 1)
def adI (t sh : Nat → Nat) (p h : Nat) : Int32 := nI (val t h (sh h ||| 2 ^ p)) - nI (val t h (sh h))
def tkI (t sh : Nat → Nat) (p : Nat) : Int32 := nI (val t (owL sh p (t 2)) (sh (owL sh p (t 2)))) - nI (val t (owL sh p (t 2)) (dif (sh (owL sh p (t 2))) (2 ^ p)))
def gfI (t sh : Nat → Nat) (p : Nat) : Nat → Int32 × Int32
  | 0 => (tkI t sh p, -1)
  | n + 1 => if n = owL sh p (t 2) then gfI t sh p n else if adI t sh p n ≤ (gfI t sh p n).1 then gfI t sh p n else (adI t sh p n, nI n)
def gfO (t sh : Nat → Nat) : Nat → Nat → Option Int32
  | 0, _ => none
  | k + 1, p => if (gfI t sh p (t 2)).2 < 0 then gfO t sh k (p + 1) else some (nI (10 * p) + (gfI t sh p (t 2)).2)
section SHD
variable {L : Nat} {M : Nat → Nat → Int32} {t sh : Nat → Nat} {z : Int32} {sp : Nat → Int32}
theorem k_dlI (hE : rE M 2 t z sp) (hw : wfT t) (hg : ∀ x, x < 4 → M 21 x = nI (sh x)) (gs : ∀ x, sh x < 512) (h1 : ∀ p, ow1 sh p 0 (t 2)) {p : Nat} (hp : p < t 1) : ∀ (k q : Nat) (v5 v6 : Value), q + k = t 1 → (∃ r, dlI t sh p k q = some r ∧ R 83 37 [.ref 1, .ref 21, .int (nI p), .int (nI (owL sh p (t 2))), .int (nI q), v5, v6] [] (SH L, M) = some (some (.int (nI r)), (SH L, M))) ∨ (dlI t sh p k q = none ∧ ∃ v3 v4 v5' v6', R 83 37 [.ref 1, .ref 21, .int (nI p), .int (nI (owL sh p (t 2))), .int (nI q), v5, v6] [] (SH L, M) = R 83 148 [.ref 1, .ref 21, .int (nI p), v3, v4, v5', v6'] [] (SH L, M)) := by
  have hP := hw.2.1
  have hH := hw.2.2.2.1
  have hH1 := hw.2.2.1
  intro k
  induction k with
  | zero =>
    intro q v5 v6 hq
    refine Or.inr ⟨rfl, .int (nI (owL sh p (t 2))), .int (nI q), v5, v6, ?_⟩
    rw [r83_37]
    simp (disch := omega) only [r83_39, r83_40, r83_43, r83_46, Option.bind_some, vtl_some, vtl_none, hE.p, hE.h, b2_eq0, ite_not2, nz1, nz0, n1z, n0z, if_true, if_false, nI_le'', show t 1 ≤ q from by omega]
  | succ k ih =>
    intro q v5 v6 hq
    have o1 := owL_lt (sh := sh) (p := p) (t 2) (by omega)
    have o2 := owL_lt (sh := sh) (p := q) (t 2) (by omega)
    have b1 : 2 ^ p ||| 2 ^ q < 512 := or_lt (p2_lt (by omega)) (p2_lt (by omega))
    have x1 := xor_lt (gs (owL sh p (t 2))) b1
    have x2 := xor_lt (gs (owL sh q (t 2))) b1
    have w1 := val_le hw (h := owL sh p (t 2)) (by omega) (sh (owL sh p (t 2)))
    have w2 := val_le hw (h := owL sh p (t 2)) (by omega) (sh (owL sh p (t 2)) ^^^ (2 ^ p ||| 2 ^ q))
    have w3 := val_le hw (h := owL sh q (t 2)) (by omega) (sh (owL sh q (t 2)))
    have w4 := val_le hw (h := owL sh q (t 2)) (by omega) (sh (owL sh q (t 2)) ^^^ (2 ^ p ||| 2 ^ q))
    have ho4 : owL sh p (t 2) < 4 := by omega
    have ho5 : owL sh q (t 2) < 4 := by omega
    rw [r83_37]
    simp (disch := omega) only [r83_39, r83_40, r83_43, r83_46, r83_49, r83_50, r83_51, r83_53, r83_56, r83_58, r83_59, r83_60, r83_61, r83_62, r83_64, r83_65, r83_66, r83_68, r83_69, r83_71, r83_74, r83_75, r83_78, r83_79, r83_80, r83_81, r83_82, r83_84, r83_85, r83_88, r83_89, r83_92, r83_93, r83_94, r83_95, r83_96, r83_99, r83_102, r83_103, r83_106, r83_108, r83_109, r83_111, r83_112, r83_114, r83_115, r83_118, r83_119, r83_122, r83_124, r83_125, r83_127, r83_128, r83_131, Option.bind_some, vtl_some, vtl_none, hE.p, hE.h, b2_eq0, ite_not2, nz1, nz0, n1z, n0z, if_true, if_false, nI_le'', show ¬ t 1 ≤ q from by omega, k_own hE hw hg gs (show q < 9 by omega) (h1 q), nI_shl1, nI_or, nI_xor, nI_eq', hg (owL sh p (t 2)) ho4, hg (owL sh q (t 2)) ho5, s_vto isE_2 hE hw ho4 x1, s_vto isE_2 hE hw ho5 x2, s_vto isE_2 hE hw ho4 (gs (owL sh p (t 2))), s_vto isE_2 hE hw ho5 (gs (owL sh q (t 2)))]
    have iH := ih (q + 1) (.int (nI (owL sh q (t 2)))) (.int (nI (2 ^ p ||| 2 ^ q))) (by omega)
    rw [dlI]
    have no : ¬ dC t sh p q → (∃ r, (if dC t sh p q then some (10 * p + q) else dlI t sh p k (q + 1)) = some r ∧ R 83 142 [.ref 1, .ref 21, .int (nI p), .int (nI (owL sh p (t 2))), .int (nI q), .int (nI (owL sh q (t 2))), .int (nI (2 ^ p ||| 2 ^ q))] [] (SH L, M) = some (some (.int (nI r)), (SH L, M))) ∨ ((if dC t sh p q then some (10 * p + q) else dlI t sh p k (q + 1)) = none ∧ ∃ v3 v4 v5' v6', R 83 142 [.ref 1, .ref 21, .int (nI p), .int (nI (owL sh p (t 2))), .int (nI q), .int (nI (owL sh q (t 2))), .int (nI (2 ^ p ||| 2 ^ q))] [] (SH L, M) = R 83 148 [.ref 1, .ref 21, .int (nI p), v3, v4, v5', v6'] [] (SH L, M)) := fun hn => by
      simp (disch := omega) only [r83_142, r83_145, nI_add, if_neg hn]
      exact iH
    by_cases c1 : owL sh p (t 2) = owL sh q (t 2)
    · rw [if_pos c1]; exact no (fun z => z.1 c1)
    · rw [if_neg c1]
      by_cases c2 : val t (owL sh p (t 2)) (sh (owL sh p (t 2)) ^^^ (2 ^ p ||| 2 ^ q)) ≤ val t (owL sh p (t 2)) (sh (owL sh p (t 2)))
      · rw [if_pos c2]; exact no (fun z => by have := z.2.1; omega)
      · rw [if_neg c2]
        by_cases c3 : val t (owL sh q (t 2)) (sh (owL sh q (t 2)) ^^^ (2 ^ p ||| 2 ^ q)) ≤ val t (owL sh q (t 2)) (sh (owL sh q (t 2)))
        · rw [if_pos c3]; exact no (fun z => by have := z.2.2; omega)
        · rw [if_neg c3, if_pos (show dC t sh p q from ⟨c1, by omega, by omega⟩)]
          refine Or.inl ⟨_, rfl, ?_⟩
          simp (disch := omega) only [r83_134, r83_136, r83_137, r83_138, r83_140, r83_141, pk_mul, nI_add]
theorem k_dlO (hE : rE M 2 t z sp) (hw : wfT t) (hg : ∀ x, x < 4 → M 21 x = nI (sh x)) (gs : ∀ x, sh x < 512) (h1 : ∀ p, ow1 sh p 0 (t 2)) : ∀ (k p : Nat) (v3 v4 v5 v6 : Value), p + k = t 1 → R 83 14 [.ref 1, .ref 21, .int (nI p), v3, v4, v5, v6] [] (SH L, M) = (match dlO t sh k p with | some r => some (some (.int (nI r)), (SH L, M)) | none => some (some (.int (-1000004)), (SH L, upd2 M 34 3 (M 34 3 + nI 1)))) := by
  have hP := hw.2.1
  intro k
  induction k with
  | zero =>
    intro p v3 v4 v5 v6 hp
    rw [r83_14]
    simp (disch := omega) only [r83_15, r83_16, r83_19, r83_22, r83_154, r83_155, r83_157, r83_160, Option.bind_some, vtl_some, vtl_none, hE.p, hE.h, b2_eq0, ite_not2, nz1, nz0, n1z, n0z, if_true, if_false, nI_le'', show t 1 ≤ p from by omega, fd3, dlO]
  | succ k ih =>
    intro p v3 v4 v5 v6 hp
    rw [r83_14]
    simp (disch := omega) only [r83_15, r83_16, r83_19, r83_22, r83_25, r83_26, r83_27, r83_28, r83_31, r83_32, r83_33, r83_34, r83_35, Option.bind_some, vtl_some, vtl_none, hE.p, hE.h, b2_eq0, ite_not2, nz1, nz0, n1z, n0z, if_true, if_false, nI_le'', show ¬ t 1 ≤ p from by omega, k_own hE hw hg gs (show p < 9 by omega) (h1 p), nI_add, dlO]
    rcases k_dlI (L := L) hE hw hg gs h1 (show p < t 1 by omega) k (p + 1) v5 v6 (by omega) with ⟨r, e1, e2⟩ | ⟨e1, a3, a4, a5, a6, e2⟩
    · rw [e1, e2]
    · rw [e1, e2]
      simp (disch := omega) only [r83_148, r83_151, nI_add]
      exact ih (p + 1) _ _ _ _ (by omega)
theorem q_dlI (hs : rS M t) (hw : wfT t) (hg : ∀ x, x < t 2 → M 47 x = nI (sh x)) (gs : ∀ x, sh x < 512) {p : Nat} (hp : p < t 1) : ∀ (k q : Nat) (v3 v4 v5 : Value), q + k = t 1 → (∃ r, dlI t sh p k q = some r ∧ R 184 24 [.ref 36, .int (nI p), .int (nI q), v3, v4, v5] [] (SH L, M) = some (some (.int (nI r)), (SH L, M))) ∨ (dlI t sh p k q = none ∧ ∃ v2 v3' v4' v5', R 184 24 [.ref 36, .int (nI p), .int (nI q), v3, v4, v5] [] (SH L, M) = R 184 135 [.ref 36, .int (nI p), v2, v3', v4', v5'] [] (SH L, M)) := by
  have hP := hw.2.1
  have hH := hw.2.2.2.1
  have hH1 := hw.2.2.1
  intro k
  induction k with
  | zero =>
    intro q v3 v4 v5 hq
    refine Or.inr ⟨rfl, .int (nI q), v3, v4, v5, ?_⟩
    rw [r184_24]
    simp (disch := omega) only [r184_25, r184_26, r184_29, r184_30, r184_31, Option.bind_some, vtl_some, vtl_none, hs 1, hs 2, b2_eq0, ite_not2, nz1, nz0, n1z, n0z, if_true, if_false, nI_le'', show t 1 ≤ q from by omega]
  | succ k ih =>
    intro q v3 v4 v5 hq
    have o1 := owL_lt (sh := sh) (p := p) (t 2) (by omega)
    have o2 := owL_lt (sh := sh) (p := q) (t 2) (by omega)
    have b1 : 2 ^ p ||| 2 ^ q < 512 := or_lt (p2_lt (by omega)) (p2_lt (by omega))
    have x1 := xor_lt (gs (owL sh p (t 2))) b1
    have x2 := xor_lt (gs (owL sh q (t 2))) b1
    have w1 := val_le hw (h := owL sh p (t 2)) (by omega) (sh (owL sh p (t 2)))
    have w2 := val_le hw (h := owL sh p (t 2)) (by omega) (sh (owL sh p (t 2)) ^^^ (2 ^ p ||| 2 ^ q))
    have w3 := val_le hw (h := owL sh q (t 2)) (by omega) (sh (owL sh q (t 2)))
    have w4 := val_le hw (h := owL sh q (t 2)) (by omega) (sh (owL sh q (t 2)) ^^^ (2 ^ p ||| 2 ^ q))
    have ho4 : owL sh p (t 2) < 4 := by omega
    have ho5 : owL sh q (t 2) < 4 := by omega
    rw [r184_24]
    simp (disch := omega) only [r184_25, r184_26, r184_29, r184_30, r184_31, r184_34, r184_35, r184_36, r184_39, r184_40, r184_41, r184_42, r184_45, r184_47, r184_48, r184_49, r184_50, r184_51, r184_52, r184_53, r184_54, r184_56, r184_57, r184_59, r184_62, r184_63, r184_64, r184_65, r184_68, r184_69, r184_70, r184_72, r184_73, r184_76, r184_77, r184_78, r184_79, r184_82, r184_83, r184_84, r184_87, r184_90, r184_91, r184_93, r184_94, r184_97, r184_99, r184_100, r184_102, r184_103, r184_106, r184_107, r184_109, r184_110, r184_113, r184_115, r184_116, r184_119, Option.bind_some, vtl_some, vtl_none, hs 1, hs 2, b2_eq0, ite_not2, nz1, nz0, n1z, n0z, if_true, if_false, nI_le'', show ¬ t 1 ≤ q from by omega, q_own hs hw hg gs (show p < 9 by omega), q_own hs hw hg gs (show q < 9 by omega), nI_shl1, nI_or, nI_xor, nI_eq', hg (owL sh p (t 2)) o1, hg (owL sh q (t 2)) o2, s_valueOf hs hw ho4 x1, s_valueOf hs hw ho5 x2, s_valueOf hs hw ho4 (gs (owL sh p (t 2))), s_valueOf hs hw ho5 (gs (owL sh q (t 2)))]
    have iH := ih (q + 1) (.int (nI (owL sh p (t 2)))) (.int (nI (owL sh q (t 2)))) (.int (nI (2 ^ p ||| 2 ^ q))) (by omega)
    rw [dlI]
    have no : ¬ dC t sh p q → (∃ r, (if dC t sh p q then some (10 * p + q) else dlI t sh p k (q + 1)) = some r ∧ R 184 129 [.ref 36, .int (nI p), .int (nI q), .int (nI (owL sh p (t 2))), .int (nI (owL sh q (t 2))), .int (nI (2 ^ p ||| 2 ^ q))] [] (SH L, M) = some (some (.int (nI r)), (SH L, M))) ∨ ((if dC t sh p q then some (10 * p + q) else dlI t sh p k (q + 1)) = none ∧ ∃ v2 v3' v4' v5', R 184 129 [.ref 36, .int (nI p), .int (nI q), .int (nI (owL sh p (t 2))), .int (nI (owL sh q (t 2))), .int (nI (2 ^ p ||| 2 ^ q))] [] (SH L, M) = R 184 135 [.ref 36, .int (nI p), v2, v3', v4', v5'] [] (SH L, M)) := fun hn => by
      simp (disch := omega) only [r184_129, r184_132, nI_add, if_neg hn]
      exact iH
    by_cases c1 : owL sh p (t 2) = owL sh q (t 2)
    · rw [if_pos c1]; exact no (fun z => z.1 c1)
    · rw [if_neg c1]
      by_cases c2 : val t (owL sh p (t 2)) (sh (owL sh p (t 2)) ^^^ (2 ^ p ||| 2 ^ q)) ≤ val t (owL sh p (t 2)) (sh (owL sh p (t 2)))
      · rw [if_pos c2]; exact no (fun z => by have := z.2.1; omega)
      · rw [if_neg c2]
        by_cases c3 : val t (owL sh q (t 2)) (sh (owL sh q (t 2)) ^^^ (2 ^ p ||| 2 ^ q)) ≤ val t (owL sh q (t 2)) (sh (owL sh q (t 2)))
        · rw [if_pos c3]; exact no (fun z => by have := z.2.2; omega)
        · rw [if_neg c3, if_pos (show dC t sh p q from ⟨c1, by omega, by omega⟩)]
          refine Or.inl ⟨_, rfl, ?_⟩
          simp (disch := omega) only [r184_122, r184_124, r184_125, r184_126, r184_127, r184_128, pk_mul, nI_add]
theorem q_dlO (hs : rS M t) (hw : wfT t) (hg : ∀ x, x < t 2 → M 47 x = nI (sh x)) (gs : ∀ x, sh x < 512) : ∀ (k p : Nat) (v2 v3 v4 v5 : Value), p + k = t 1 → R 184 10 [.ref 36, .int (nI p), v2, v3, v4, v5] [] (SH L, M) = (match dlO t sh k p with | some r => some (some (.int (nI r)), (SH L, M)) | none => some (some (.int (-1000004)), (SH L, upd2 M 40 3 (M 40 3 + nI 1)))) := by
  have hP := hw.2.1
  intro k
  induction k with
  | zero =>
    intro p v2 v3 v4 v5 hp
    rw [r184_10]
    simp (disch := omega) only [r184_11, r184_12, r184_15, r184_16, r184_17, r184_141, r184_142, r184_144, r184_147, Option.bind_some, vtl_some, vtl_none, hs 1, hs 2, b2_eq0, ite_not2, nz1, nz0, n1z, n0z, if_true, if_false, nI_le'', show t 1 ≤ p from by omega, gd3, dlO]
  | succ k ih =>
    intro p v2 v3 v4 v5 hp
    rw [r184_10]
    simp (disch := omega) only [r184_11, r184_12, r184_15, r184_16, r184_17, r184_20, r184_21, r184_22, r184_23, Option.bind_some, vtl_some, vtl_none, hs 1, hs 2, b2_eq0, ite_not2, nz1, nz0, n1z, n0z, if_true, if_false, nI_le'', show ¬ t 1 ≤ p from by omega, nI_add, dlO]
    rcases q_dlI (L := L) hs hw hg gs (show p < t 1 by omega) k (p + 1) v3 v4 v5 (by omega) with ⟨r, e1, e2⟩ | ⟨e1, a3, a4, a5, a6, e2⟩
    · rw [e1, e2]
    · rw [e1, e2]
      simp (disch := omega) only [r184_135, r184_138, nI_add]
      exact ih (p + 1) _ _ _ _ (by omega)
theorem k_gai_l (hE : rE M 2 t z sp) (hw : wfT t) (hg : ∀ x, x < 4 → M 21 x = nI (sh x)) (gs : ∀ x, sh x < 512) {p : Nat} (hp : p < t 1) : ∀ (k n : Nat) (v8 : Value), n + k = t 2 → R 120 51 [.ref 1, .ref 21, .int (nI p), .int (nI (2 ^ p)), .int (nI (owL sh p (t 2))), .int (gfI t sh p n).1, .int (gfI t sh p n).2, .int (nI n), v8] [] (SH L, M) = some (some (.int (gfI t sh p (t 2)).2), (SH L, M)) := by
  have hP := hw.2.1
  have hH := hw.2.2.2.1
  have hH1 := hw.2.2.1
  have o1 := owL_lt (sh := sh) (p := p) (t 2) (by omega)
  intro k
  induction k with
  | zero =>
    intro n v8 hn
    rw [r120_51]
    simp (disch := omega) only [r120_53, r120_54, r120_57, r120_60, r120_122, r120_124, Option.bind_some, vtl_some, vtl_none, hE.p, hE.h, b2_eq0, ite_not2, nz1, nz0, n1z, n0z, if_true, if_false, nI_le'', show t 2 ≤ n from by omega]
    rw [show n = t 2 by omega]
  | succ k ih =>
    intro n v8 hn
    have b1 : sh n ||| 2 ^ p < 512 := or_lt (gs n) (p2_lt (by omega))
    rw [r120_51]
    simp (disch := omega) only [r120_53, r120_54, r120_57, r120_60, r120_63, r120_64, r120_67, r120_69, r120_70, r120_72, r120_73, r120_74, r120_75, r120_78, r120_79, r120_82, r120_84, r120_85, r120_87, r120_88, r120_91, r120_92, r120_94, r120_96, r120_98, Option.bind_some, vtl_some, vtl_none, hE.p, hE.h, b2_eq0, ite_not2, nz1, nz0, n1z, n0z, if_true, if_false, nI_le'', show ¬ t 2 ≤ n from by omega, hg n, nI_or, s_vto isE_2 hE hw (show n < 4 by omega) b1, s_vto isE_2 hE hw (show n < 4 by omega) (gs n), nI_eq']
    have iH := ih (n + 1) (.int (adI t sh p n)) (by omega)
    rw [gfI] at iH
    by_cases c1 : n = owL sh p (t 2)
    · rw [if_pos c1] at iH ⊢
      simp (disch := omega) only [r120_116, r120_119, nI_add]
      exact iH
    · rw [if_neg c1] at iH ⊢
      simp (disch := omega) only [r120_101, r120_103, r120_105]
      by_cases c2 : adI t sh p n ≤ (gfI t sh p n).1
      · rw [if_pos c2] at iH
        rw [if_pos (show nI (val t n (sh n ||| 2 ^ p)) - nI (val t n (sh n)) ≤ (gfI t sh p n).1 from c2)]
        simp (disch := omega) only [r120_116, r120_119, nI_add]
        exact iH
      · rw [if_neg c2] at iH
        rw [if_neg (show ¬ nI (val t n (sh n ||| 2 ^ p)) - nI (val t n (sh n)) ≤ (gfI t sh p n).1 from c2)]
        simp (disch := omega) only [r120_108, r120_110, r120_112, r120_114, r120_116, r120_119, nI_add]
        exact iH
theorem k_gai (hE : rE M 2 t z sp) (hw : wfT t) (hg : ∀ x, x < 4 → M 21 x = nI (sh x)) (gs : ∀ x, sh x < 512) {p : Nat} (hp : p < t 1) (h1 : ow1 sh p 0 (t 2)) : R 120 0 [.ref 1, .ref 21, .int (nI p), .null, .null, .null, .null, .null, .null] [] (SH L, M) = some (some (.int (gfI t sh p (t 2)).2), (SH L, M)) := by
  have hP := hw.2.1
  have hH := hw.2.2.2.1
  have hH1 := hw.2.2.1
  have o1 := owL_lt (sh := sh) (p := p) (t 2) (by omega)
  have ho4 : owL sh p (t 2) < 4 := by omega
  have d1 : dif (sh (owL sh p (t 2))) (2 ^ p) < 512 := Nat.lt_of_le_of_lt (dif_le _ _) (gs _)
  simp (disch := omega) only [r120_0, r120_1, r120_2, r120_3, r120_4, r120_5, r120_6, r120_7, r120_10, r120_12, r120_13, r120_16, r120_18, r120_19, r120_21, r120_22, r120_25, r120_26, r120_29, r120_31, r120_32, r120_34, r120_35, r120_36, r120_37, r120_38, r120_39, r120_42, r120_43, r120_45, r120_46, r120_48, r120_49, Option.bind_some, vtl_some, vtl_none, hE.p, hE.h, b2_eq0, ite_not2, nz1, nz0, n1z, n0z, if_true, if_false, nI_shl1, k_own hE hw hg gs (show p < 9 by omega) h1, hg (owL sh p (t 2)) ho4, nI_dif, s_vto isE_2 hE hw ho4 d1, s_vto isE_2 hE hw ho4 (gs (owL sh p (t 2)))]
  exact k_gai_l hE hw hg gs hp (t 2) 0 _ (Nat.zero_add _)
theorem k_gift_l (hE : rE M 2 t z sp) (hw : wfT t) (hg : ∀ x, x < 4 → M 21 x = nI (sh x)) (gs : ∀ x, sh x < 512) (h1 : ∀ p, ow1 sh p 0 (t 2)) : ∀ (k p : Nat) (v3 : Value), p + k = t 1 → R 84 14 [.ref 1, .ref 21, .int (nI p), v3] [] (SH L, M) = (match gfO t sh k p with | some r => some (some (.int r), (SH L, M)) | none => some (some (.int (-1000004)), (SH L, upd2 M 34 3 (M 34 3 + nI 1)))) := by
  have hP := hw.2.1
  intro k
  induction k with
  | zero =>
    intro p v3 hp
    rw [r84_14]
    simp (disch := omega) only [r84_15, r84_16, r84_19, r84_22, r84_49, r84_50, r84_52, r84_55, Option.bind_some, vtl_some, vtl_none, hE.p, hE.h, b2_eq0, ite_not2, nz1, nz0, n1z, n0z, if_true, if_false, nI_le'', show t 1 ≤ p from by omega, fd3, gfO]
  | succ k ih =>
    intro p v3 hp
    rw [r84_14]
    simp (disch := omega) only [r84_15, r84_16, r84_19, r84_22, r84_25, r84_26, r84_27, r84_28, r84_31, r84_32, r84_33, Option.bind_some, vtl_some, vtl_none, hE.p, hE.h, b2_eq0, ite_not2, nz1, nz0, n1z, n0z, if_true, if_false, nI_le'', show ¬ t 1 ≤ p from by omega, k_gai hE hw hg gs (show p < t 1 by omega) (h1 p), gfO]
    by_cases c1 : (gfI t sh p (t 2)).2 < 0
    · rw [if_pos c1, if_pos c1]
      simp (disch := omega) only [r84_43, r84_46, nI_add]
      exact ih (p + 1) _ (by omega)
    · rw [if_neg c1, if_neg c1]
      simp (disch := omega) only [r84_36, r84_38, r84_39, r84_40, r84_41, r84_42, pk_mul]
theorem q_gai_l (hs : rS M t) (hw : wfT t) (hg : ∀ x, x < t 2 → M 47 x = nI (sh x)) (gs : ∀ x, sh x < 512) {p : Nat} (hp : p < t 1) : ∀ (k n : Nat) (v6 : Value), n + k = t 2 → ∃ v6', R 185 62 [.ref 36, .int (nI p), .int (nI (owL sh p (t 2))), .int (gfI t sh p n).1, .int (gfI t sh p n).2, .int (nI n), v6] [] (SH L, M) = R 185 131 [.ref 36, .int (nI p), .int (nI (owL sh p (t 2))), .int (gfI t sh p (t 2)).1, .int (gfI t sh p (t 2)).2, .int (nI (t 2)), v6'] [] (SH L, M) := by
  have hP := hw.2.1
  have hH := hw.2.2.2.1
  have hH1 := hw.2.2.1
  have o1 := owL_lt (sh := sh) (p := p) (t 2) (by omega)
  intro k
  induction k with
  | zero =>
    intro n v6 hn
    refine ⟨v6, ?_⟩
    rw [r185_62]
    simp (disch := omega) only [r185_64, r185_65, r185_68, r185_69, r185_70, Option.bind_some, vtl_some, vtl_none, hs 1, hs 2, b2_eq0, ite_not2, nz1, nz0, n1z, n0z, if_true, if_false, nI_le'', show t 2 ≤ n from by omega]
    rw [show n = t 2 by omega]
  | succ k ih =>
    intro n v6 hn
    have b1 : sh n ||| 2 ^ p < 512 := or_lt (gs n) (p2_lt (by omega))
    rw [r185_62]
    simp (disch := omega) only [r185_64, r185_65, r185_68, r185_69, r185_70, r185_73, r185_74, r185_76, r185_77, r185_80, r185_82, r185_83, r185_84, r185_85, r185_86, r185_87, r185_90, r185_91, r185_93, r185_94, r185_97, r185_99, r185_100, r185_103, r185_104, r185_106, r185_108, r185_109, Option.bind_some, vtl_some, vtl_none, hs 1, hs 2, b2_eq0, ite_not2, nz1, nz0, n1z, n0z, if_true, if_false, nI_le'', show ¬ t 2 ≤ n from by omega, hg n, nI_shl1, nI_or, s_valueOf hs hw (show n < 4 by omega) b1, s_valueOf hs hw (show n < 4 by omega) (gs n), nI_eq']
    have iH := ih (n + 1) (.int (adI t sh p n)) (by omega)
    rw [gfI] at iH
    by_cases c1 : n = owL sh p (t 2)
    · rw [if_pos c1] at iH ⊢
      simp (disch := omega) only [r185_125, r185_128, nI_add]
      exact iH
    · rw [if_neg c1] at iH ⊢
      simp (disch := omega) only [r185_112, r185_114, r185_115]
      by_cases c2 : adI t sh p n ≤ (gfI t sh p n).1
      · rw [if_pos c2] at iH
        rw [if_pos (show nI (val t n (sh n ||| 2 ^ p)) - nI (val t n (sh n)) ≤ (gfI t sh p n).1 from c2)]
        simp (disch := omega) only [r185_125, r185_128, nI_add]
        exact iH
      · rw [if_neg c2] at iH
        rw [if_neg (show ¬ nI (val t n (sh n ||| 2 ^ p)) - nI (val t n (sh n)) ≤ (gfI t sh p n).1 from c2)]
        simp (disch := omega) only [r185_118, r185_120, r185_122, r185_124, r185_125, r185_128, nI_add]
        exact iH
theorem q_gift_l (hs : rS M t) (hw : wfT t) (hg : ∀ x, x < t 2 → M 47 x = nI (sh x)) (gs : ∀ x, sh x < 512) : ∀ (k p : Nat) (v2 v3 v4 v5 v6 : Value), p + k = t 1 → R 185 10 [.ref 36, .int (nI p), v2, v3, v4, v5, v6] [] (SH L, M) = (match gfO t sh k p with | some r => some (some (.int r), (SH L, M)) | none => some (some (.int (-1000004)), (SH L, upd2 M 40 3 (M 40 3 + nI 1)))) := by
  have hP := hw.2.1
  have hH := hw.2.2.2.1
  have hH1 := hw.2.2.1
  intro k
  induction k with
  | zero =>
    intro p v2 v3 v4 v5 v6 hp
    rw [r185_10]
    simp (disch := omega) only [r185_11, r185_12, r185_15, r185_16, r185_17, r185_150, r185_151, r185_153, r185_156, Option.bind_some, vtl_some, vtl_none, hs 1, hs 2, b2_eq0, ite_not2, nz1, nz0, n1z, n0z, if_true, if_false, nI_le'', show t 1 ≤ p from by omega, gd3, gfO]
  | succ k ih =>
    intro p v2 v3 v4 v5 v6 hp
    have o1 := owL_lt (sh := sh) (p := p) (t 2) (by omega)
    have ho4 : owL sh p (t 2) < 4 := by omega
    have d1 : dif (sh (owL sh p (t 2))) (2 ^ p) < 512 := Nat.lt_of_le_of_lt (dif_le _ _) (gs _)
    rw [r185_10]
    simp (disch := omega) only [r185_11, r185_12, r185_15, r185_16, r185_17, r185_20, r185_21, r185_22, r185_25, r185_26, r185_27, r185_28, r185_29, r185_32, r185_33, r185_34, r185_37, r185_38, r185_39, r185_40, r185_43, r185_44, r185_45, r185_46, r185_47, r185_48, r185_49, r185_50, r185_51, r185_54, r185_55, r185_56, r185_57, r185_59, r185_60, Option.bind_some, vtl_some, vtl_none, hs 1, hs 2, b2_eq0, ite_not2, nz1, nz0, n1z, n0z, if_true, if_false, nI_le'', show ¬ t 1 ≤ p from by omega, q_own hs hw hg gs (show p < 9 by omega), hg (owL sh p (t 2)) o1, nI_shl1, nI_dif, s_valueOf hs hw ho4 d1, s_valueOf hs hw ho4 (gs (owL sh p (t 2))), gfO]
    obtain ⟨w6, e⟩ := q_gai_l (L := L) hs hw hg gs (show p < t 1 by omega) (t 2) 0 v6 (Nat.zero_add _)
    rw [show (nI (val t (owL sh p (t 2)) (sh (owL sh p (t 2)))) - nI (val t (owL sh p (t 2)) (dif (sh (owL sh p (t 2))) (2 ^ p)))) = (gfI t sh p 0).1 from rfl, show (-1 : Int32) = (gfI t sh p 0).2 from rfl, e]
    simp (disch := omega) only [r185_131, r185_133]
    by_cases c1 : (gfI t sh p (t 2)).2 < 0
    · rw [if_pos c1, if_pos c1]
      simp (disch := omega) only [r185_144, r185_147, nI_add]
      exact ih (p + 1) _ _ _ _ _ (by omega)
    · rw [if_neg c1, if_neg c1]
      simp (disch := omega) only [r185_136, r185_138, r185_139, r185_140, r185_142, r185_143, pk_mul]
end SHD
section SHE
variable {L : Nat} {M : Nat → Nat → Int32} {t : Nat → Nat} {z : Int32} {sp : Nat → Int32} {c : Nat}
theorem c_envy (h : IV M t z sp c) (a : Int32) : OK L M c (fun M => R 76 0 [.ref 1, .int a, .null, .null, .null, .null, .null] [] (SH L, M)) (fun M => R 173 0 [.ref 36, .int a, .null, .null, .null] [] (SH L, M)) := by
  have hP := h.w.2.1
  have hH := h.w.2.2.2.1
  have h5 := pow_P h.w
  by_cases h1 : rng a (2 ^ t 1)
  · obtain ⟨s, hs, rfl⟩ := rng_of (by omega) h1
    obtain ⟨M1, e1, f1, d1, q1, g1⟩ := k_sharesOf (L := L) h (show s < 512 by omega)
    have hE1 := rE_fC h.e (by omega) f1
    have gs := sha_lt t (show s < 512 by omega)
    have lo := k_envO (L := L) hE1 h.w g1 gs (v1 := .int (nI s)) (t 2) 0 .null .null (Nat.zero_add _)
    rw [enO] at lo
    refine okV h (r := nI (enO t (sha t s) (t 2))) (M1 := M1) (by simp (disch := omega) only [r76_0, r76_1, r76_2, r76_5, r76_8, r76_9, r76_11, r76_14, r76_15, r76_16, r76_17, r76_20, r76_21, r76_22, r76_23, r76_24, Option.bind_some, vtl_some, vtl_none, s_within, s_isSet5 h.e h.w, h.e.p, h.e.h, h.od5, h.me4, b2_eq0, ite_not2, nz1, nz0, n1z, n0z, if_true, if_false, fd0, fd1, fd2, fd3, fd4, fd5, fd6, if_pos h1, e1, lo]) f1 d1 q1 (fun M1 hs1 => ?_)
    obtain ⟨M2, e2, f2, g2⟩ := s_divides (L := L) h.w h.o hs1 hs
    have lo := q_envO (L := L) (rS_fr hs1 f2) h.w g2 gs (v1 := .int (nI s)) (t 2) 0 .null (Nat.zero_add _)
    rw [enO] at lo
    exact ⟨M2, by have hs := hs1; simp (disch := omega) only [r173_0, r173_1, r173_2, r173_5, r173_8, r173_9, r173_11, r173_14, r173_15, r173_16, r173_17, r173_20, r173_21, r173_22, r173_23, Option.bind_some, vtl_some, vtl_none, s_isPart hs h.w, s_isHeir hs h.w, s_isSet6 hs h.w, s_isAny, s_isThing, s_isOne, b2_eq0, ite_not2, nz1, nz0, n1z, n0z, if_true, if_false, gd0, gd1, gd2, gd3, gd4, gd5, gd6, hs 1, hs 2, if_pos h1, e2, lo], fR_S f2, f2 40 (by omega)⟩
  · exact okF0 h (x := (-1000001)) (k := 0) (by simp (disch := omega) only [r76_0, r76_1, r76_2, r76_5, r76_8, r76_9, r76_11, r76_14, r76_15, r76_16, r76_17, r76_20, r76_21, r76_22, r76_23, r76_24, r76_26, r76_28, r76_29, r76_32, r76_35, r76_38, r76_39, r76_42, r76_44, r76_45, r76_47, r76_48, r76_51, r76_53, r76_54, r76_56, r76_58, r76_59, r76_62, r76_65, r76_68, r76_69, r76_72, r76_74, r76_75, r76_77, r76_78, r76_81, r76_83, r76_86, r76_87, r76_88, r76_90, r76_91, r76_92, r76_93, r76_96, r76_99, r76_102, r76_105, r76_106, Option.bind_some, vtl_some, vtl_none, s_within, s_isSet5 h.e h.w, h.e.p, h.e.h, h.od5, h.me4, b2_eq0, ite_not2, nz1, nz0, n1z, n0z, if_true, if_false, fd0, fd1, fd2, fd3, fd4, fd5, fd6, if_neg h1]) (fun M1 hs => by simp (disch := omega) only [r173_0, r173_1, r173_2, r173_5, r173_8, r173_9, r173_11, r173_14, r173_15, r173_16, r173_17, r173_20, r173_21, r173_22, r173_23, r173_24, r173_25, r173_26, r173_29, r173_30, r173_31, r173_34, r173_35, r173_37, r173_39, r173_40, r173_43, r173_44, r173_45, r173_48, r173_49, r173_50, r173_51, r173_52, r173_55, r173_57, r173_58, r173_61, r173_62, r173_63, r173_64, r173_67, r173_68, r173_69, r173_72, r173_75, r173_76, r173_77, r173_78, r173_81, r173_82, r173_83, r173_84, r173_87, r173_90, r173_93, r173_96, r173_97, Option.bind_some, vtl_some, vtl_none, s_isPart hs h.w, s_isHeir hs h.w, s_isSet6 hs h.w, s_isAny, s_isThing, s_isOne, b2_eq0, ite_not2, nz1, nz0, n1z, n0z, if_true, if_false, gd0, gd1, gd2, gd3, gd4, gd5, gd6, hs 1, hs 2, if_neg h1])
theorem c_wholes (h : IV M t z sp c) (a : Int32) : OK L M c (fun M => R 77 0 [.ref 1, .int a, .null, .null, .null, .null, .null] [] (SH L, M)) (fun M => R 174 0 [.ref 36, .int a, .null, .null, .null, .null] [] (SH L, M)) := by
  have hP := h.w.2.1
  have hH := h.w.2.2.2.1
  have h5 := pow_P h.w
  by_cases h1 : rng a (2 ^ t 1)
  · obtain ⟨s, hs, rfl⟩ := rng_of (by omega) h1
    obtain ⟨M1, e1, f1, d1, q1, g1⟩ := k_sharesOf (L := L) h (show s < 512 by omega)
    have hE1 := rE_fC h.e (by omega) f1
    have gs := sha_lt t (show s < 512 by omega)
    have lo := k_woO (L := L) hE1 h.w g1 gs (v1 := .int (nI s)) 5 0 .null .null (Nat.zero_add _)
    rw [woO] at lo
    refine okV h (r := nI (woO t (sha t s) 5)) (M1 := M1) (by simp (disch := omega) only [r77_0, r77_1, r77_2, r77_5, r77_8, r77_9, r77_11, r77_14, r77_15, r77_16, r77_17, r77_20, r77_21, r77_22, r77_23, r77_24, Option.bind_some, vtl_some, vtl_none, s_within, s_isSet5 h.e h.w, h.e.p, h.e.h, h.od5, h.me4, b2_eq0, ite_not2, nz1, nz0, n1z, n0z, if_true, if_false, fd0, fd1, fd2, fd3, fd4, fd5, fd6, if_pos h1, e1, lo]) f1 d1 q1 (fun M1 hs1 => ?_)
    obtain ⟨M2, e2, f2, g2⟩ := s_divides (L := L) h.w h.o hs1 hs
    have lo := q_woO (L := L) (rS_fr hs1 f2) h.w g2 gs (v1 := .int (nI s)) 5 0 .null .null (Nat.zero_add _)
    rw [woO] at lo
    exact ⟨M2, by have hs := hs1; simp (disch := omega) only [r174_0, r174_1, r174_2, r174_5, r174_8, r174_9, r174_11, r174_14, r174_15, r174_16, r174_17, r174_20, r174_21, r174_22, r174_23, Option.bind_some, vtl_some, vtl_none, s_isPart hs h.w, s_isHeir hs h.w, s_isSet6 hs h.w, s_isAny, s_isThing, s_isOne, b2_eq0, ite_not2, nz1, nz0, n1z, n0z, if_true, if_false, gd0, gd1, gd2, gd3, gd4, gd5, gd6, hs 1, hs 2, if_pos h1, e2, lo], fR_S f2, f2 40 (by omega)⟩
  · exact okF0 h (x := (-1000001)) (k := 0) (by simp (disch := omega) only [r77_0, r77_1, r77_2, r77_5, r77_8, r77_9, r77_11, r77_14, r77_15, r77_16, r77_17, r77_20, r77_21, r77_22, r77_23, r77_24, r77_26, r77_28, r77_29, r77_32, r77_33, r77_36, r77_39, r77_41, r77_42, r77_44, r77_45, r77_47, r77_49, r77_50, r77_53, r77_56, r77_59, r77_61, r77_64, r77_66, r77_67, r77_69, r77_70, r77_71, r77_72, r77_73, r77_76, r77_77, r77_78, r77_80, r77_81, r77_82, r77_83, r77_86, r77_89, r77_92, r77_95, r77_96, Option.bind_some, vtl_some, vtl_none, s_within, s_isSet5 h.e h.w, h.e.p, h.e.h, h.od5, h.me4, b2_eq0, ite_not2, nz1, nz0, n1z, n0z, if_true, if_false, fd0, fd1, fd2, fd3, fd4, fd5, fd6, if_neg h1]) (fun M1 hs => by simp (disch := omega) only [r174_0, r174_1, r174_2, r174_5, r174_8, r174_9, r174_11, r174_14, r174_15, r174_16, r174_17, r174_20, r174_21, r174_22, r174_23, r174_24, r174_25, r174_26, r174_29, r174_30, r174_31, r174_34, r174_36, r174_37, r174_39, r174_41, r174_42, r174_45, r174_46, r174_47, r174_50, r174_52, r174_55, r174_56, r174_58, r174_59, r174_62, r174_64, r174_65, r174_66, r174_67, r174_68, r174_71, r174_72, r174_73, r174_74, r174_77, r174_78, r174_79, r174_80, r174_83, r174_86, r174_89, r174_92, r174_93, Option.bind_some, vtl_some, vtl_none, s_isPart hs h.w, s_isHeir hs h.w, s_isSet6 hs h.w, s_isAny, s_isThing, s_isOne, b2_eq0, ite_not2, nz1, nz0, n1z, n0z, if_true, if_false, gd0, gd1, gd2, gd3, gd4, gd5, gd6, hs 1, hs 2, if_neg h1])
theorem k_lossOf (h : IV M t z sp c) {s : Nat} (hs : s < 512) : ∃ M1, R 116 0 [.ref 1, .int (nI s)] [] (SH L, M) = some (some (.int (nI (val t (dea t s) s) - nI (suN t (sha t s) (t 2)))), (SH L, M1)) ∧ fC M M1 ∧ DI M1 t c ∧ M1 34 = M 34 := by
  have hcb := h.cb
  have hH := h.w.2.2.2.1
  have hH1 := h.w.2.2.1
  obtain ⟨M1, e1, f1, d1, g1⟩ := s_divide (L := L) h.e h.w (o := od t) (a := 5) (n := t 2) (s := s) isO_5 h.o.1 (Nat.le_refl _) h.w.2.2.1 h.od5 h.cc (by omega) h.d hs
  have f1' : fC M M1 := fC_of f1 (by omega)
  have hE1 := rE_fC h.e (by omega) f1'
  have hd : dea t s < 4 := by have := deaN_le t s (t 2 - 1); unfold dea; omega
  have gs := sha_lt t (show s < 512 by omega)
  have sm := k_sum (L := L) (sh := sha t s) hE1 h.w g1 gs
  refine ⟨M1, ?_, f1', d1, f1 34 (by omega)⟩
  simp only [r116_0, r116_1, r116_4, r116_5, r116_8, r116_11, r116_12, r116_15, r116_18, r116_19, r116_22, r116_23, r116_26, r116_27, r116_30, r116_31, r116_34, r116_35, r116_38, r116_39, r116_42, r116_43, h.e.h, e1, Option.bind_some, vtl_none, vtl_some, s_dear isE_2 hE1 h.w hs, s_vto isE_2 hE1 h.w hd hs, sm]
theorem q_lostOf (hw : wfT t) (hO : wfO t) (hs1 : rS M t) {s : Nat} (hs : s < 2 ^ t 1) : ∃ M1, R 175 0 [.ref 36, .int (nI s)] [] (SH L, M) = some (some (.int (nI (val t (dea t s) s) - nI (suN t (sha t s) (t 2)))), (SH L, M1)) ∧ frS M M1 := by
  have h5 := pow_P hw
  obtain ⟨M2, e2, f2, g2⟩ := s_divides (L := L) hw hO hs1 hs
  have gs := sha_lt t (show s < 512 by omega)
  refine ⟨M2, ?_, f2⟩
  simp only [r175_0, r175_1, r175_2, r175_5, r175_6, r175_7, r175_10, e2, q_lostNow (rS_fr hs1 f2) hw g2 gs (show s < 512 by omega), Option.bind_some, vtl_none, vtl_some]
theorem c_lost (h : IV M t z sp c) (a : Int32) : OK L M c (fun M => R 78 0 [.ref 1, .int a] [] (SH L, M)) (fun M => R 177 0 [.ref 36, .int a] [] (SH L, M)) := by
  have hP := h.w.2.1
  have h5 := pow_P h.w
  by_cases h1 : rng a (2 ^ t 1)
  · obtain ⟨s, hs, rfl⟩ := rng_of (by omega) h1
    obtain ⟨M1, e1, f1, d1, q1⟩ := k_lossOf (L := L) h (show s < 512 by omega)
    refine okV h (r := nI (val t (dea t s) s) - nI (suN t (sha t s) (t 2))) (M1 := M1) (by simp (disch := omega) only [r78_0, r78_1, r78_2, r78_5, r78_8, r78_9, r78_11, r78_14, r78_15, r78_16, r78_17, r78_20, Option.bind_some, vtl_some, vtl_none, s_within, s_isSet5 h.e h.w, h.e.p, h.e.h, h.od5, h.me4, b2_eq0, ite_not2, nz1, nz0, n1z, n0z, if_true, if_false, fd0, fd1, fd2, fd3, fd4, fd5, fd6, if_pos h1, e1]) f1 d1 q1 (fun M1 hs1 => ?_)
    obtain ⟨M2, e2, f2⟩ := q_lostOf (L := L) h.w h.o hs1 hs
    exact ⟨M2, by have hs := hs1; simp (disch := omega) only [r177_0, r177_1, r177_2, r177_5, r177_8, r177_9, r177_10, r177_13, r177_16, r177_17, r177_19, r177_22, Option.bind_some, vtl_some, vtl_none, s_isPart hs h.w, s_isHeir hs h.w, s_isSet6 hs h.w, s_isAny, s_isThing, s_isOne, b2_eq0, ite_not2, nz1, nz0, n1z, n0z, if_true, if_false, gd0, gd1, gd2, gd3, gd4, gd5, gd6, hs 1, hs 2, if_pos h1, e2], fR_S f2, f2 40 (by omega)⟩
  · exact okF0 h (x := (-1000001)) (k := 0) (by simp (disch := omega) only [r78_0, r78_1, r78_2, r78_5, r78_8, r78_9, r78_11, r78_14, r78_15, r78_16, r78_17, r78_20, Option.bind_some, vtl_some, vtl_none, s_within, s_isSet5 h.e h.w, h.e.p, h.e.h, h.od5, h.me4, b2_eq0, ite_not2, nz1, nz0, n1z, n0z, if_true, if_false, fd0, fd1, fd2, fd3, fd4, fd5, fd6, if_neg h1]) (fun M1 hs => by simp (disch := omega) only [r177_0, r177_1, r177_2, r177_5, r177_8, r177_9, r177_10, r177_13, r177_16, r177_17, r177_19, r177_22, Option.bind_some, vtl_some, vtl_none, s_isPart hs h.w, s_isHeir hs h.w, s_isSet6 hs h.w, s_isAny, s_isThing, s_isOne, b2_eq0, ite_not2, nz1, nz0, n1z, n0z, if_true, if_false, gd0, gd1, gd2, gd3, gd4, gd5, gd6, hs 1, hs 2, if_neg h1])
theorem c_bring (h : IV M t z sp c) (a : Int32) : OK L M c (fun M => R 85 0 [.ref 1, .int a, .null, .null, .null, .null] [] (SH L, M)) (fun M => R 186 0 [.ref 36, .int a, .null, .null, .null, .null] [] (SH L, M)) := by
  have hP := h.w.2.1
  have hH := h.w.2.2.2.1
  have h5 := pow_P h.w
  have hal := allT_lt h.w
  by_cases h1 : rng a 5
  · obtain ⟨x, hx, rfl⟩ := rng_of (by omega) h1
    have hm := mem_lt x hP
    by_cases h2 : mem t x = 0
    · exact okF0 h (x := (-1000004)) (k := 3) (by simp (disch := omega) only [r85_0, r85_1, r85_2, r85_5, r85_8, r85_9, r85_11, r85_14, r85_15, r85_16, r85_19, r85_22, r85_23, r85_24, r85_25, r85_26, r85_29, r85_30, r85_32, r85_35, r85_36, r85_37, r85_38, r85_41, r85_44, r85_47, r85_48, r85_49, r85_51, r85_52, r85_54, r85_56, r85_57, r85_60, r85_63, r85_66, r85_68, r85_69, r85_70, r85_72, r85_73, r85_74, r85_77, r85_80, r85_82, r85_85, r85_88, r85_89, r85_92, r85_94, r85_95, Option.bind_some, vtl_some, vtl_none, s_within, s_isSet5 h.e h.w, h.e.p, h.e.h, h.od5, h.me4, b2_eq0, ite_not2, nz1, nz0, n1z, n0z, if_true, if_false, fd0, fd1, fd2, fd3, fd4, fd5, fd6, if_pos h1, if_pos h2, nI_eq0]) (fun M1 hs => by simp (disch := omega) only [r186_0, r186_1, r186_4, r186_7, r186_8, r186_10, r186_13, r186_14, r186_15, r186_16, r186_19, r186_20, r186_21, r186_24, r186_25, r186_27, r186_30, r186_31, r186_32, r186_33, r186_36, r186_39, r186_40, r186_41, r186_42, r186_44, r186_46, r186_47, r186_50, r186_51, r186_52, r186_55, r186_56, r186_57, r186_60, r186_62, r186_63, r186_64, r186_67, r186_69, r186_71, r186_72, r186_75, r186_77, r186_80, r186_81, r186_82, r186_85, r186_88, r186_89, r186_92, r186_93, r186_94, Option.bind_some, vtl_some, vtl_none, s_isPart hs h.w, s_isHeir hs h.w, s_isSet6 hs h.w, s_isAny, s_isThing, s_isOne, b2_eq0, ite_not2, nz1, nz0, n1z, n0z, if_true, if_false, gd0, gd1, gd2, gd3, gd4, gd5, gd6, hs 1, hs 2, if_pos h1, if_pos h2, s_partsOf hs h.w hx, nI_eq0])
    · obtain ⟨M1, e1, f1, d1, q1, g1⟩ := k_sharesOf (L := L) h (show allT t < 512 by omega)
      have hE1 := rE_fC h.e (by omega) f1
      have gs := sha_lt t (show allT t < 512 by omega)
      have lo := k_bri_l (L := L) hE1 h.w g1 gs (v1 := .int (nI x)) hm (t 2) 0 (Nat.zero_add _)
      rw [mxN] at lo
      refine okV h (r := nI (pop (mem t x)) - nI (mxN (sha t (allT t)) (mem t x) (t 2))) (M1 := M1) (by simp (disch := omega) only [r85_0, r85_1, r85_2, r85_5, r85_8, r85_9, r85_11, r85_14, r85_15, r85_16, r85_19, r85_22, r85_23, r85_24, r85_25, r85_26, r85_29, r85_30, r85_32, r85_35, r85_36, r85_37, r85_38, r85_41, r85_44, r85_47, r85_48, r85_49, r85_51, r85_52, Option.bind_some, vtl_some, vtl_none, s_within, s_isSet5 h.e h.w, h.e.p, h.e.h, h.od5, h.me4, b2_eq0, ite_not2, nz1, nz0, n1z, n0z, if_true, if_false, fd0, fd1, fd2, fd3, fd4, fd5, fd6, if_pos h1, if_neg h2, nI_eq0, s_all isE_2 h.e h.w, e1, lo]) f1 d1 q1 (fun M1 hs1 => ?_)
      obtain ⟨M2, e2, f2, g2⟩ := s_divides (L := L) h.w h.o hs1 (show allT t < 2 ^ t 1 by omega)
      have lo := q_bri_l (L := L) (rS_fr hs1 f2) h.w g2 gs (v1 := .int (nI x)) hm (t 2) 0 .null (Nat.zero_add _)
      rw [mxN] at lo
      exact ⟨M2, by have hs := hs1; simp (disch := omega) only [r186_0, r186_1, r186_4, r186_7, r186_8, r186_10, r186_13, r186_14, r186_15, r186_16, r186_19, r186_20, r186_21, r186_24, r186_25, r186_27, r186_30, r186_31, r186_32, r186_33, r186_36, r186_39, r186_40, r186_41, r186_42, Option.bind_some, vtl_some, vtl_none, s_isPart hs h.w, s_isHeir hs h.w, s_isSet6 hs h.w, s_isAny, s_isThing, s_isOne, b2_eq0, ite_not2, nz1, nz0, n1z, n0z, if_true, if_false, gd0, gd1, gd2, gd3, gd4, gd5, gd6, hs 1, hs 2, if_pos h1, if_neg h2, s_partsOf hs h.w hx, nI_eq0, s_everything hs h.w, e2, lo], fR_S f2, f2 40 (by omega)⟩
  · exact okF0 h (x := (-1000001)) (k := 0) (by simp (disch := omega) only [r85_0, r85_1, r85_2, r85_5, r85_8, r85_9, r85_11, r85_14, r85_15, r85_16, r85_19, r85_22, r85_23, r85_24, r85_25, r85_26, r85_29, r85_30, r85_32, r85_35, r85_36, r85_37, r85_38, r85_41, r85_44, r85_47, r85_48, r85_49, r85_51, r85_52, r85_54, r85_56, r85_57, r85_60, r85_63, r85_66, r85_68, r85_69, r85_70, r85_72, r85_73, r85_74, r85_77, r85_80, r85_82, r85_85, r85_88, r85_89, r85_92, r85_94, r85_95, Option.bind_some, vtl_some, vtl_none, s_within, s_isSet5 h.e h.w, h.e.p, h.e.h, h.od5, h.me4, b2_eq0, ite_not2, nz1, nz0, n1z, n0z, if_true, if_false, fd0, fd1, fd2, fd3, fd4, fd5, fd6, if_neg h1]) (fun M1 hs => by simp (disch := omega) only [r186_0, r186_1, r186_4, r186_7, r186_8, r186_10, r186_13, r186_14, r186_15, r186_16, r186_19, r186_20, r186_21, r186_24, r186_25, r186_27, r186_30, r186_31, r186_32, r186_33, r186_36, r186_39, r186_40, r186_41, r186_42, r186_44, r186_46, r186_47, r186_50, r186_51, r186_52, r186_55, r186_56, r186_57, r186_60, r186_62, r186_63, r186_64, r186_67, r186_69, r186_71, r186_72, r186_75, r186_77, r186_80, r186_81, r186_82, r186_85, r186_88, r186_89, r186_92, r186_93, r186_94, Option.bind_some, vtl_some, vtl_none, s_isPart hs h.w, s_isHeir hs h.w, s_isSet6 hs h.w, s_isAny, s_isThing, s_isOne, b2_eq0, ite_not2, nz1, nz0, n1z, n0z, if_true, if_false, gd0, gd1, gd2, gd3, gd4, gd5, gd6, hs 1, hs 2, if_neg h1])
theorem c_deal (h : IV M t z sp c) : OK L M c (fun M => R 83 0 [.ref 1, .null, .null, .null, .null, .null, .null] [] (SH L, M)) (fun M => R 184 0 [.ref 36, .null, .null, .null, .null, .null] [] (SH L, M)) := by
  have hal := allT_lt h.w
  obtain ⟨M1, e1, f1, d1, q1, g1⟩ := k_sharesOf (L := L) h (show allT t < 512 by omega)
  have hE1 := rE_fC h.e (by omega) f1
  have gs := sha_lt t (show allT t < 512 by omega)
  have h1 := sha_ow1 h.w h.o (show allT t < 512 by omega)
  have lo := k_dlO (L := L) hE1 h.w g1 gs h1 (t 1) 0 .null .null .null .null (Nat.zero_add _)
  have lq : ∀ M1, rS M1 t → ∃ M2, frS M1 M2 ∧ R 184 0 [.ref 36, .null, .null, .null, .null, .null] [] (SH L, M1) = (match dlO t (sha t (allT t)) (t 1) 0 with | some r => some (some (.int (nI r)), (SH L, M2)) | none => some (some (.int (-1000004)), (SH L, upd2 M2 40 3 (M2 40 3 + nI 1)))) := fun M1 hs => by
    obtain ⟨M2, e2, f2, g2⟩ := s_divides (L := L) h.w h.o hs (show allT t < 2 ^ t 1 by omega)
    have lo := q_dlO (L := L) (rS_fr hs f2) h.w g2 gs (t 1) 0 .null .null .null .null (Nat.zero_add _)
    refine ⟨M2, f2, ?_⟩
    simp only [r184_0, r184_1, r184_2, r184_5, r184_8, r184_9, s_everything hs h.w, e2, Option.bind_some, vtl_some, vtl_none]
    exact lo
  cases hc : dlO t (sha t (allT t)) (t 1) 0 with
  | some r =>
    rw [hc] at lo
    refine okV h (r := nI r) (M1 := M1) ?_ f1 d1 q1 (fun M1 hs1 => ?_)
    · simp only [r83_0, r83_1, r83_2, r83_5, r83_8, r83_11, r83_12, r83_13, s_all isE_2 h.e h.w, e1, Option.bind_some, vtl_some]
      exact lo
    · obtain ⟨M2, f2, e2⟩ := lq M1 hs1
      rw [hc] at e2
      exact ⟨M2, e2, fR_S f2, f2 40 (by omega)⟩
  | none =>
    rw [hc] at lo
    refine okF h (x := -1000004) (k := 3) (M1 := M1) ?_ f1 d1 q1 (fun M1 hs1 => ?_)
    · simp only [r83_0, r83_1, r83_2, r83_5, r83_8, r83_11, r83_12, r83_13, s_all isE_2 h.e h.w, e1, Option.bind_some, vtl_some]
      exact lo
    · obtain ⟨M2, f2, e2⟩ := lq M1 hs1
      rw [hc] at e2
      exact ⟨M2, e2, fR_S f2, f2 40 (by omega)⟩
theorem c_gift (h : IV M t z sp c) : OK L M c (fun M => R 84 0 [.ref 1, .null, .null, .null] [] (SH L, M)) (fun M => R 185 0 [.ref 36, .null, .null, .null, .null, .null, .null] [] (SH L, M)) := by
  have hal := allT_lt h.w
  obtain ⟨M1, e1, f1, d1, q1, g1⟩ := k_sharesOf (L := L) h (show allT t < 512 by omega)
  have hE1 := rE_fC h.e (by omega) f1
  have gs := sha_lt t (show allT t < 512 by omega)
  have h1 := sha_ow1 h.w h.o (show allT t < 512 by omega)
  have lo := k_gift_l (L := L) hE1 h.w g1 gs h1 (t 1) 0 .null (Nat.zero_add _)
  have lq : ∀ M1, rS M1 t → ∃ M2, frS M1 M2 ∧ R 185 0 [.ref 36, .null, .null, .null, .null, .null, .null] [] (SH L, M1) = (match gfO t (sha t (allT t)) (t 1) 0 with | some r => some (some (.int r), (SH L, M2)) | none => some (some (.int (-1000004)), (SH L, upd2 M2 40 3 (M2 40 3 + nI 1)))) := fun M1 hs => by
    obtain ⟨M2, e2, f2, g2⟩ := s_divides (L := L) h.w h.o hs (show allT t < 2 ^ t 1 by omega)
    have lo := q_gift_l (L := L) (rS_fr hs f2) h.w g2 gs (t 1) 0 .null .null .null .null .null (Nat.zero_add _)
    refine ⟨M2, f2, ?_⟩
    simp only [r185_0, r185_1, r185_2, r185_5, r185_8, r185_9, s_everything hs h.w, e2, Option.bind_some, vtl_some, vtl_none]
    exact lo
  cases hc : gfO t (sha t (allT t)) (t 1) 0 with
  | some r =>
    rw [hc] at lo
    refine okV h (r := r) (M1 := M1) ?_ f1 d1 q1 (fun M1 hs1 => ?_)
    · simp only [r84_0, r84_1, r84_2, r84_5, r84_8, r84_11, r84_12, r84_13, s_all isE_2 h.e h.w, e1, Option.bind_some, vtl_some]
      exact lo
    · obtain ⟨M2, f2, e2⟩ := lq M1 hs1
      rw [hc] at e2
      exact ⟨M2, e2, fR_S f2, f2 40 (by omega)⟩
  | none =>
    rw [hc] at lo
    refine okF h (x := -1000004) (k := 3) (M1 := M1) ?_ f1 d1 q1 (fun M1 hs1 => ?_)
    · simp only [r84_0, r84_1, r84_2, r84_5, r84_8, r84_11, r84_12, r84_13, s_all isE_2 h.e h.w, e1, Option.bind_some, vtl_some]
      exact lo
    · obtain ⟨M2, f2, e2⟩ := lq M1 hs1
      rw [hc] at e2
      exact ⟨M2, e2, fR_S f2, f2 40 (by omega)⟩
end SHE
