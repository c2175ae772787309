/-! seat, fewer -/
theorem kpR_cg {V : Nat → Nat → Nat} {r r' : Nat → Nat} {k s : Nat} (h : ∀ i, i ≤ k → r i = r' i) : kpR V r k s = kpR V r' k s := by
  cases k with
  | zero => rfl
  | succ k =>
    have e1 := gn_congr (V := V) k (fun i hi => h i (by omega))
    rw [kpR, kpR, fro, fro, e1, h (k + 1) (Nat.le_refl _)]
theorem shN_cg {V : Nat → Nat → Nat} {r r' : Nat → Nat} : ∀ (k s : Nat) (a : Nat → Nat), (∀ i, i ≤ k → r i = r' i) → shN V r k s a = shN V r' k s a := by
  intro k
  induction k with
  | zero => intro s a h; funext x; show (if x = r 0 then s else a x) = (if x = r' 0 then s else a x); rw [h 0 (Nat.le_refl _)]
  | succ k ih =>
    intro s a h
    rw [shN, shN, kpR_cg (k := k + 1) (r' := r') h, h (k + 1) (Nat.le_refl _)]
    exact ih _ _ (fun i hi => h i (by omega))
/-- the greatest, the first of them; one more than it -/
def mxF (G : Nat → Nat) : Nat → Nat × Nat
  | 0 => (0, 0)
  | n + 1 => if (mxF G n).1 < G n + 1 then (G n + 1, n) else mxF G n
theorem mxF_le {G : Nat → Nat} {m : Nat} (h : ∀ n, G n ≤ m) : ∀ n, (mxF G n).1 ≤ m + 1 := by
  intro n
  induction n with
  | zero => exact Nat.zero_le _
  | succ n ih =>
    have := h n
    rw [mxF]
    split
    · show G n + 1 ≤ m + 1; omega
    · exact ih
theorem toNat_nI (x : Int32) : x = nI x.toBitVec.toNat := by
  apply Int32.toBitVec_inj.mp
  apply BitVec.eq_of_toNat_eq
  rw [pk_tn x.toBitVec.isLt]
/-- what an heir gets where it is changed with a place -/
def seG (t : Nat → Nat) (x w i : Nat) : Nat := val (swT t w i) x (sha (swT t w i) (allT (swT t w i)) x)
section SEA
variable {L : Nat} {M : Nat → Nat → Int32} {t : Nat → Nat} {z : Int32} {sp : Nat → Int32} {c : Nat}
theorem seG_eq {x w i : Nat} (hw : w < 4) (hi : i < 4) : seG t x w i = val t x (shN (val t) (rw_ (od (swT t w i)) (t 2)) (t 2 - 1) (allT t) (fun _ => 0) x) := by
  have ev : val (swT t w i) = val t := val_cg (fun k hk k2 => swT_n hw hi (by omega))
  have e2 : swT t w i 2 = t 2 := swT_n hw hi (by omega)
  have ea : allT (swT t w i) = allT t := allT_cg (swT_n hw hi (by omega))
  show val (swT t w i) x (shN (val (swT t w i)) (rw_ (od (swT t w i)) (swT t w i 2)) (swT t w i 2 - 1) (allT (swT t w i)) (fun _ => 0) x) = _
  rw [ev, e2, ea]
theorem k_own_pos (hE : rE M 2 t z sp) (hw : wfT t) (hO : wfO t) {w : Nat} (hp : w < t 2) {v4 v5 v6 : Value} : ∀ (k n : Nat), n + k = t 2 → R 79 25 [.ref 1, .int (nI (t (5 + w))), .int (nI (if w < n then w else 0)), .int (nI n), v4, v5, v6] [] (SH L, M) = R 79 61 [.ref 1, .int (nI (t (5 + w))), .int (nI w), .int (nI (t 2)), v4, v5, v6] [] (SH L, M) := by
  have hH := hw.2.2.2.1
  have ow := hO.1 w hp
  have od5 : ∀ i, i < 4 → M 5 i = nI (t (5 + i)) := hE.od
  intro k
  induction k with
  | zero =>
    intro n hn
    rw [r79_25]
    simp (disch := omega) only [r79_26, r79_27, r79_30, r79_33, hE.h, nI_le'', show t 2 ≤ n from by omega, if_true, show w < n from by omega]
    rw [show n = t 2 by omega]
  | succ k ih =>
    intro n hn
    have on := hO.1 n (by omega)
    have iH := ih (n + 1) (by omega)
    rw [r79_25]
    simp (disch := omega) only [r79_26, r79_27, r79_30, r79_33, r79_36, r79_37, r79_40, r79_43, r79_44, r79_45, r79_46, r79_49, r79_50, r79_53, hE.h, nI_le'', show ¬ t 2 ≤ n from by omega, if_false, od5 n, nI_eq', mg_R, mg_n]
    simp only [r79_54, r79_55, r79_58, nI_add]
    have e : (if t (5 + n) = t (5 + w) then n else if w < n then w else 0) = (if w < n + 1 then w else 0) := by
      by_cases q : t (5 + n) = t (5 + w)
      · have := hO.2 n w (by omega) hp q
        rw [if_pos q, if_pos (by omega), this]
      · rw [if_neg q]
        have : n ≠ w := fun z => q (by rw [z])
        by_cases q2 : w < n
        · rw [if_pos q2, if_pos (by omega)]
        · rw [if_neg q2, if_neg (by omega)]
    rw [e]
    exact iH
theorem k_seat_l {M0 : Nat → Nat → Int32} (h0 : IV M0 t z sp c) {w : Nat} (hp : w < t 2) : ∀ (k n : Nat) (M : Nat → Nat → Int32) (v6 : Value), n + k = t 2 → fC M0 M → DI M t c → M 34 = M0 34 → ∃ M', R 79 69 [.ref 1, .int (nI (t (5 + w))), .int (nI w), .int (nI (mxF (seG t (t (5 + w)) w) n).1 - nI 1), .int (nI (mxF (seG t (t (5 + w)) w) n).2), .int (nI n), v6] [] (SH L, M) = some (some (.int (nI (mxF (seG t (t (5 + w)) w) (t 2)).2)), (SH L, M')) ∧ fC M0 M' ∧ DI M' t c ∧ M' 34 = M0 34 := by
  have hH := h0.w.2.2.2.1
  have hH1 := h0.w.2.2.1
  have hcb := h0.cb
  have ow := h0.o.1 w hp
  intro k
  induction k with
  | zero =>
    intro n M v6 hn f d q
    have h := IV_s h0 f d q
    refine ⟨M, ?_, f, d, q⟩
    rw [r79_69]
    simp (disch := omega) only [r79_71, r79_72, r79_75, r79_78, r79_145, r79_147, h.e.h, nI_le'', show t 2 ≤ n from by omega, if_true]
    rw [show n = t 2 by omega]
  | succ k ih =>
    intro n M v6 hn f d q
    have h := IV_s h0 f d q
    have on := h0.o.1 n (by omega)
    have c5 : ∀ i, i < 4 → cp2 M 5 0 35 0 4 35 i = nI (t (5 + i)) := fun i hi => by rw [cp2_in hi]; exact h.od5 i hi
    have sw := s_swap (L := L) (M := cp2 M 5 0 35 0 4) isO_35 (show w < 4 by omega) (show n < 4 by omega)
    rw [c5 w (by omega), c5 n (by omega)] at sw
    generalize hM2 : upd2 (upd2 (cp2 M 5 0 35 0 4) 35 w (nI (t (5 + n)))) 35 n (nI (t (5 + w))) = M2 at sw
    have f35 : frc 35 35 M M2 := fun b hb => by
      funext i
      rw [← hM2, upd2_ne (Or.inl (by omega)), upd2_ne (Or.inl (by omega)), cp2_o (by omega)]
    have o2 : ∀ i, i < 4 → M2 35 i = nI (od (swT t w n) i) := fun i hi => by
      rw [← hM2]
      show upd2 (upd2 (cp2 M 5 0 35 0 4) 35 w (nI (t (5 + n)))) 35 n (nI (t (5 + w))) 35 i = nI (swT t w n (5 + i))
      unfold swT
      by_cases q1 : i = n
      · subst q1; rw [upd2_eq, ut_eq]
      · rw [upd2_ne (Or.inr q1), ut_ne (by omega)]
        by_cases q2 : i = w
        · subst q2; rw [upd2_eq, ut_eq]
        · rw [upd2_ne (Or.inr q2), ut_ne (by omega), c5 i hi]
    have E2 : rE M2 2 t z sp := rE_frc h.e f35 (by omega)
    have so := swT_O h0.o h0.w hp (show n < t 2 by omega)
    have e2 : swT t w n 2 = t 2 := swT_n (by omega) (by omega) (by omega)
    obtain ⟨M3, g3, f3, d3⟩ := k_gainIn (L := L) (x := t (5 + w)) E2 h0.w (o := od (swT t w n)) (a := 35) (n := t 2) isO_35 (fun i hi => by have := so.1 i (by rw [e2]; exact hi); rw [e2] at this; exact this) (Nat.le_refl _) hH1 o2 (by rw [f35 2 (by omega)]; exact h.cc) (by omega) (DI_frc h.d f35 (by omega)) (by omega)
    rw [← seG_eq (by omega) (by omega)] at g3
    have v1 : seG t (t (5 + w)) w n ≤ 1782 := by rw [seG_eq (by omega) (by omega)]; exact val_le h0.w (by omega) _
    have f4 : fC M0 M3 := fC_tr f (fun b hb => by rw [f3 b (by omega), f35 b (by omega)])
    have q4 : M3 34 = M0 34 := by rw [f3 34 (by omega), f35 34 (by omega), q]
    have iH := ih (n + 1) M3 (.int (nI (seG t (t (5 + w)) w n))) (by omega) f4 d3 q4
    have b1 : (mxF (seG t (t (5 + w)) w) n).1 ≤ 4000 := by
      have : ∀ j, j ≤ n → (mxF (seG t (t (5 + w)) w) j).1 ≤ 1783 := by
        intro j
        induction j with
        | zero => intro _; exact Nat.zero_le _
        | succ j ihj =>
          intro hj
          have := ihj (by omega)
          have v2 : seG t (t (5 + w)) w j ≤ 1782 := by rw [seG_eq (by omega) (by omega)]; exact val_le h0.w (by omega) _
          rw [mxF]
          split
          · show seG t (t (5 + w)) w j + 1 ≤ 1783; omega
          · exact this
      have := this n (Nat.le_refl _)
      omega
    have E2h : M2 2 7 = nI (t 2) := E2.h
    rw [r79_69]
    simp (disch := first | exact isO_35 | omega) only [r79_71, r79_72, r79_75, r79_78, r79_81, r79_82, r79_85, r79_88, r79_89, r79_90, r79_93, r79_94, r79_95, r79_98, r79_99, r79_102, r79_103, r79_105, r79_108, r79_109, r79_110, r79_113, r79_114, r79_117, r79_120, r79_121, r79_124, r79_126, r79_128, r79_129, h.e.h, nI_le'', show ¬ t 2 ≤ n from by omega, if_false, sw, E2h, g3, Option.bind_some, vtl_some, vtl_none, cmp_mo]
    rw [mxF] at iH
    by_cases c2 : seG t (t (5 + w)) w n + 1 ≤ (mxF (seG t (t (5 + w)) w) n).1
    · rw [if_neg (by omega)] at iH
      rw [if_pos c2]
      simp only [r79_139, r79_142, nI_add]
      exact iH
    · rw [if_pos (by omega)] at iH
      rw [if_neg c2]
      simp only [r79_132, r79_134, r79_135, r79_137, r79_139, r79_142, nI_add]
      simp only at iH
      rw [pk_sub (show 1 ≤ seG t (t (5 + w)) w n + 1 by omega), Nat.add_sub_cancel] at iH
      exact iH
theorem q_find (hs : rS M t) (hw : wfT t) (hO : wfO t) {w : Nat} (hp : w < t 2) {v3 v4 v5 v6 : Value} : ∀ (k j : Nat), j + k = w → R 178 21 [.ref 36, .int (nI (t (5 + w))), .int (nI j), v3, v4, v5, v6] [] (SH L, M) = R 178 39 [.ref 36, .int (nI (t (5 + w))), .int (nI w), v3, v4, v5, v6] [] (SH L, M) := by
  have hH := hw.2.2.2.1
  have ow := hO.1 w hp
  intro k
  induction k with
  | zero =>
    intro j hj
    have : j = w := by omega
    subst this
    rw [r178_21]
    simp (disch := omega) only [r178_22, r178_25, r178_26, r178_27, r178_28, r178_29, r178_30, nI_add, hs (5 + j), if_true]
  | succ k ih =>
    intro j hj
    have oj := hO.1 j (by omega)
    have hne : ¬ t (5 + j) = t (5 + w) := fun z => by have := hO.2 j w (by omega) hp z; omega
    rw [r178_21]
    simp (disch := omega) only [r178_22, r178_25, r178_26, r178_27, r178_28, r178_29, r178_30, r178_33, r178_36, nI_add, hs (5 + j), nI_eq', if_neg hne]
    exact ih (j + 1) (by omega)
theorem q_turns2 (hs : rS M t) {i j : Nat} (hi : i < 4) (hj : j < 4) : R 147 0 [.ref 36, .int (nI i), .int (nI j), .null] [] (SH L, M) = some (none, (SH L, upd2 (upd2 M 37 (5 + i) (nI (t (5 + j)))) 37 (5 + j) (nI (t (5 + i))))) := by
  simp (disch := omega) only [r147_0, r147_1, r147_4, r147_5, r147_6, r147_7, r147_8, r147_9, r147_10, r147_13, r147_14, r147_15, r147_16, r147_17, r147_20, r147_21, r147_22, r147_23, r147_24, r147_25, r147_26, r147_29, r147_30, r147_31, r147_32, r147_33, r147_34, nI_add, hs (5 + i), hs (5 + j)]
theorem rS_swap (hs : rS M t) {i j : Nat} (hi : i < 4) (hj : j < 4) : rS (upd2 (upd2 M 37 (5 + i) (nI (t (5 + j)))) 37 (5 + j) (nI (t (5 + i)))) (swT t i j) := fun k hk k4 => by
  unfold swT
  by_cases q1 : k = 5 + j
  · subst q1; rw [upd2_eq, ut_eq]
  · rw [upd2_ne (Or.inr q1), ut_ne q1]
    by_cases q2 : k = 5 + i
    · subst q2; rw [upd2_eq, ut_eq]
    · rw [upd2_ne (Or.inr q2), ut_ne q2]; exact hs k hk k4
theorem q_seat_l (hw : wfT t) (hO : wfO t) {M0 : Nat → Nat → Int32} (hs0 : rS M0 t) {w : Nat} (hp : w < t 2) : ∀ (k n : Nat) (M : Nat → Nat → Int32) (v6 : Value), n + k = t 2 → (∀ b, (b < 39 ∨ 48 < b) → M b = M0 b) → M 40 = M0 40 → (∀ i, i < 91 → M 39 i = M0 37 i) → ∃ M', R 178 47 [.ref 36, .int (nI (t (5 + w))), .int (nI w), .int (nI (mxF (seG t (t (5 + w)) w) n).2), .int (nI (mxF (seG t (t (5 + w)) w) n).1 - nI 1), .int (nI n), v6] [] (SH L, M) = some (some (.int (nI (mxF (seG t (t (5 + w)) w) (t 2)).2)), (SH L, M')) ∧ fR M0 M' ∧ M' 40 = M0 40 := by
  have hH := hw.2.2.2.1
  have hH1 := hw.2.2.1
  have ow := hO.1 w hp
  intro k
  induction k with
  | zero =>
    intro n M v6 hn f f40 f39
    have hs : rS M t := fun k h1 h2 => by rw [f 37 (by omega)]; exact hs0 k h1 h2
    refine ⟨M, ?_, f, f40⟩
    rw [r178_47]
    simp (disch := omega) only [r178_49, r178_50, r178_53, r178_54, r178_55, r178_116, r178_117, hs 2, nI_le'', show t 2 ≤ n from by omega, if_true]
    rw [show n = t 2 by omega]
  | succ k ih =>
    intro n M v6 hn f f40 f39
    have hs : rS M t := fun k h1 h2 => by rw [f 37 (by omega)]; exact hs0 k h1 h2
    have on := hO.1 n (by omega)
    have tu := q_turns2 (L := L) hs (show w < 4 by omega) (show n < 4 by omega)
    have hs1 := rS_swap hs (show w < 4 by omega) (show n < 4 by omega)
    have hw1 := swT_wf hw (show w < 4 by omega) (show n < 4 by omega)
    have hO1 := swT_O hO hw hp (show n < t 2 by omega)
    have e2 : swT t w n 2 = t 2 := swT_n (by omega) (by omega) (by omega)
    have hal := allT_lt hw1
    generalize hM1 : upd2 (upd2 M 37 (5 + w) (nI (t (5 + n)))) 37 (5 + n) (nI (t (5 + w))) = M1 at tu hs1
    obtain ⟨M2, e5, f5⟩ := s_getsOf (L := L) hw1 hO1 hs1 (h := t (5 + w)) (by rw [e2]; exact ow) hal.1
    have v1 : seG t (t (5 + w)) w n ≤ 1782 := val_le hw1 (by omega) _
    have b1 : (mxF (seG t (t (5 + w)) w) n).1 ≤ 4000 := by
      have : ∀ j, j ≤ n → (mxF (seG t (t (5 + w)) w) j).1 ≤ 1783 := by
        intro j
        induction j with
        | zero => intro _; exact Nat.zero_le _
        | succ j ihj =>
          intro hj
          have := ihj (by omega)
          have v2 : seG t (t (5 + w)) w j ≤ 1782 := by rw [seG_eq (by omega) (by omega)]; exact val_le hw (by omega) _
          rw [mxF]
          split
          · show seG t (t (5 + w)) w j + 1 ≤ 1783; omega
          · exact this
      have := this n (Nat.le_refl _)
      omega
    have m37 : ∀ b, b ≠ 37 → M1 b = M b := fun b hb => by
      funext i
      rw [← hM1, upd2_ne (Or.inl hb), upd2_ne (Or.inl hb)]
    have m37i : ∀ i, 91 ≤ i → M1 37 i = M 37 i := fun i hi => by rw [← hM1, upd2_ne (Or.inr (by omega)), upd2_ne (Or.inr (by omega))]
    have b39 : ∀ i, i < 91 → M2 39 i = M0 37 i := fun i hi => by rw [f5 39 (by omega), m37 39 (by omega)]; exact f39 i hi
    have iH := ih (n + 1) (cpN M2 37 39 91) (.int (nI (seG t (t (5 + w)) w n))) (by omega) (fun b hb => by
      by_cases q : b = 37
      · subst q
        funext i
        by_cases q2 : i < 91
        · rw [cpN_in q2]; exact b39 i q2
        · show (if 37 = 37 ∧ i < 91 then _ else M2 37 i) = _
          rw [if_neg (fun z => q2 z.2), f5 37 (by omega), m37i i (by omega), f 37 (by omega)]
      · rw [cpN_o q, f5 b (by omega), m37 b q, f b hb]) (by rw [cpN_o (by omega), f5 40 (by omega), m37 40 (by omega), f40]) (fun i hi => by rw [cpN_o (by omega)]; exact b39 i hi)
    have ge : R 167 0 [.ref 36, .int (nI (t (5 + w))), .int (nI (allT (swT t w n)))] [] (SH L, M1) = some (some (.int (nI (seG t (t (5 + w)) w n))), (SH L, M2)) := e5
    rw [r178_47]
    simp (disch := omega) only [r178_49, r178_50, r178_53, r178_54, r178_55, r178_58, r178_59, r178_60, r178_62, r178_65, r178_66, r178_67, r178_68, r178_71, r178_74, r178_76, r178_77, r178_80, r178_82, r178_84, r178_87, r178_89, r178_92, hs 2, nI_le'', show ¬ t 2 ≤ n from by omega, if_false, tu, s_everything hs1 hw1, ge, q_putsBack, Option.bind_some, vtl_some, vtl_none, cmp_mo, mg_R]
    rw [mxF] at iH
    by_cases c2 : seG t (t (5 + w)) w n + 1 ≤ (mxF (seG t (t (5 + w)) w) n).1
    · rw [if_neg (by omega)] at iH
      simp (disch := omega) only [r178_93, r178_94, r178_96, r178_98, r178_101, r178_103, r178_106, if_pos c2, cmp_mo]
      simp only [r178_108, r178_110, r178_113, nI_add]
      exact iH
    · rw [if_pos (by omega)] at iH
      simp (disch := omega) only [r178_93, r178_94, r178_96, r178_98, r178_101, r178_103, r178_106, if_neg c2, cmp_mo]
      simp only [r178_108, r178_110, r178_113, nI_add]
      simp only at iH
      rw [pk_sub (show 1 ≤ seG t (t (5 + w)) w n + 1 by omega), Nat.add_sub_cancel] at iH
      exact iH
theorem c_seat (h : IV M t z sp c) (a : Int32) : OK L M c (fun M => R 79 0 [.ref 1, .int a, .null, .null, .null, .null, .null] [] (SH L, M)) (fun M => R 178 0 [.ref 36, .int a, .null, .null, .null, .null, .null] [] (SH L, M)) := by
  have hH := h.w.2.2.2.1
  by_cases h1 : rng a (t 2)
  · obtain ⟨x, hx, rfl⟩ := rng_of (by omega) h1
    obtain ⟨w, hp, rfl⟩ := ord_all h.w h.o hx
    obtain ⟨M1, e1, f1, d1, q1⟩ := k_seat_l (L := L) h hp (t 2) 0 M .null (Nat.zero_add _) fC_rf h.d rfl
    refine okVc h (r := nI (mxF (seG t (t (5 + w)) w) (t 2)).2) (M1 := M1) ?_ f1 d1 q1 (fun hs1 => ?_)
    · have kp := k_own_pos (L := L) h.e h.w h.o hp (v4 := .null) (v5 := .null) (v6 := .null) (t 2) 0 (Nat.zero_add _)
      rw [if_neg (Nat.not_lt_zero _)] at kp
      simp (disch := omega) only [r79_0, r79_1, r79_2, r79_5, r79_8, r79_11, r79_14, r79_15, r79_17, r79_20, r79_21, r79_22, r79_23, r79_24, Option.bind_some, vtl_some, vtl_none, s_within, s_isSet5 h.e h.w, h.e.p, h.e.h, h.od5, h.me4, b2_eq0, ite_not2, nz1, nz0, n1z, n0z, if_true, if_false, fd0, fd1, fd2, fd3, fd4, fd5, fd6, if_pos h1]
      rw [kp]
      simp only [r79_61, r79_62, r79_63, r79_64, r79_66, r79_67]
      rw [m1_lit]
      exact e1
    · have qf := q_find (L := L) (M := cpN M1 39 37 91) (fun k h1 h2 => by rw [cpN_o (by omega)]; exact hs1 k h1 h2) h.w h.o hp (v3 := .null) (v4 := .null) (v5 := .null) (v6 := .null) w 0 (Nat.zero_add _)
      obtain ⟨M2, e2, f2, q2⟩ := q_seat_l (L := L) h.w h.o hs1 hp (t 2) 0 (cpN M1 39 37 91) .null (Nat.zero_add _) (fun b hb => cpN_o (by omega)) (cpN_o (by omega)) (fun i hi => cpN_in hi)
      refine ⟨M2, ?_, f2, q2⟩
      have hs := hs1
      simp (disch := omega) only [r178_0, r178_1, r178_2, r178_5, r178_8, r178_9, r178_11, r178_14, r178_15, r178_16, r178_19, r178_20, Option.bind_some, vtl_some, vtl_none, s_isPart hs h.w, s_isHeir hs h.w, s_isSet6 hs h.w, s_isAny, s_isThing, s_isOne, b2_eq0, ite_not2, nz1, nz0, n1z, n0z, if_true, if_false, gd0, gd1, gd2, gd3, gd4, gd5, gd6, hs 1, hs 2, if_pos h1, q_saves]
      rw [qf]
      simp only [r178_39, r178_40, r178_41, r178_42, r178_44, r178_45]
      rw [m1_lit]
      exact e2
  · exact okF0 h (x := (-1000001)) (k := 0) (by simp (disch := omega) only [r79_0, r79_1, r79_2, r79_5, r79_8, r79_11, r79_14, r79_15, r79_17, r79_20, Option.bind_some, vtl_some, vtl_none, s_within, s_isSet5 h.e h.w, h.e.p, h.e.h, h.od5, h.me4, b2_eq0, ite_not2, nz1, nz0, n1z, n0z, if_true, if_false, fd0, fd1, fd2, fd3, fd4, fd5, fd6, if_neg h1]) (fun M1 hs => by simp (disch := omega) only [r178_0, r178_1, r178_2, r178_5, r178_8, r178_9, r178_11, r178_14, Option.bind_some, vtl_some, vtl_none, s_isPart hs h.w, s_isHeir hs h.w, s_isSet6 hs h.w, s_isAny, s_isThing, s_isOne, b2_eq0, ite_not2, nz1, nz0, n1z, n0z, if_true, if_false, gd0, gd1, gd2, gd3, gd4, gd5, gd6, hs 1, hs 2, if_neg h1])
theorem c_fewer (h : IV M t z sp c) (a : Int32) : OK L M c (fun M => R 80 0 [.ref 1, .int a, .null] [] (SH L, M)) (fun M => R 179 0 [.ref 36, .int a, .null, .null] [] (SH L, M)) := by
  have hH := h.w.2.2.2.1
  have hH1 := h.w.2.2.1
  have hcb := h.cb
  by_cases h1 : rng a (t 2)
  · obtain ⟨x, hx, rfl⟩ := rng_of (by omega) h1
    have ol := h.o.1 (t 2 - 1) (by omega)
    by_cases h2 : x = t (5 + (t 2 - 1))
    · have h3 : t (5 + t 2 - 1) = x := by rw [h2]; congr 1; omega
      exact okF0 h (x := (-1000001)) (k := 0) (by simp (disch := omega) only [r80_0, r80_1, r80_2, r80_5, r80_8, r80_11, r80_14, r80_15, r80_16, r80_19, r80_22, r80_23, r80_26, r80_29, r80_30, r80_31, r80_32, r80_35, r80_36, r80_38, r80_41, r80_42, r80_43, r80_44, r80_47, r80_50, r80_51, r80_54, r80_57, r80_58, r80_59, r80_60, r80_63, r80_64, r80_65, r80_66, r80_67, r80_70, r80_73, r80_74, r80_77, r80_80, r80_81, r80_84, r80_85, Option.bind_some, vtl_some, vtl_none, s_within, s_isSet5 h.e h.w, h.e.p, h.e.h, h.od5, h.me4, b2_eq0, ite_not2, nz1, nz0, n1z, n0z, if_true, if_false, fd0, fd1, fd2, fd3, fd4, fd5, fd6, if_pos h1, if_pos h2, pk_sub (show 1 ≤ t 2 by omega), nI_eq']) (fun M1 hs => by simp (disch := omega) only [r179_0, r179_1, r179_2, r179_5, r179_8, r179_9, r179_12, r179_13, r179_14, r179_17, r179_18, r179_19, r179_20, r179_21, r179_22, r179_23, r179_24, r179_27, r179_28, r179_30, r179_33, r179_34, r179_35, r179_36, r179_37, r179_40, r179_43, r179_44, r179_45, r179_48, r179_49, r179_50, r179_51, r179_52, r179_53, r179_54, r179_55, r179_56, r179_57, r179_60, r179_63, r179_64, r179_65, r179_68, r179_69, r179_70, r179_71, r179_72, r179_73, r179_74, r179_75, r179_76, r179_77, Option.bind_some, vtl_some, vtl_none, s_isPart hs h.w, s_isHeir hs h.w, s_isSet6 hs h.w, s_isAny, s_isThing, s_isOne, b2_eq0, ite_not2, nz1, nz0, n1z, n0z, if_true, if_false, gd0, gd1, gd2, gd3, gd4, gd5, gd6, hs 1, hs 2, if_pos h1, if_pos h2, nI_add, pk_sub (show 1 ≤ 5 + t 2 by omega), hs (5 + t 2 - 1), nI_eq', if_pos h3])
    · have h3 : ¬ t (5 + t 2 - 1) = x := fun z => h2 (by rw [← z]; congr 1; omega)
      have h4 : 2 ≤ t 2 := by
        rcases Nat.lt_or_ge 1 (t 2) with q | q
        · omega
        · exact absurd (by rw [show t 2 - 1 = 0 by omega] at ol ⊢; omega) h2
      obtain ⟨M1, g1, f1, d1⟩ := k_gainIn (L := L) (x := x) h.e h.w (o := od t) (a := 5) (n := t 2 - 1) isO_5 (fun i hi => h.o.1 i (by omega)) (by omega) (by omega) h.od5 h.cc (by omega) h.d (by omega)
      have E1 : rE M1 2 t z sp := rE_frc h.e f1 (by omega)
      obtain ⟨M2, g2, f2, d2⟩ := k_gainIn (L := L) (x := x) E1 h.w (o := od t) (a := 5) (n := t 2) isO_5 h.o.1 (Nat.le_refl _) hH1 E1.od (by rw [f1 2 (by omega)]; exact h.cc) (by omega) d1 (by omega)
      have hh1 : M1 2 7 = nI (t 2) := E1.h
      have f12 : frc 17 21 M M2 := frc_tr f1 f2
      have hal := allT_lt h.w
      have vt : val (ut t 2 (t 2 - 1)) = val t := val_cg (fun k hk k2 => ut_ne k2)
      have hw' : wfT (ut t 2 (t 2 - 1)) := wfT_of h.w (by rw [ut_ne (by omega)]; exact h.w.1) (ut_ne (by omega)) (by rw [ut_eq]; omega) (by rw [ut_ne (by omega)]; exact h.w.2.2.2.2.1) (fun i hi => ut_ne (by omega)) (fun i hi => by rw [ut_ne (by omega)]; exact h.w.2.2.2.2.2.2 i hi)
      have al' : allT (ut t 2 (t 2 - 1)) = allT t := allT_cg (ut_ne (by omega))
      have sh' : sha (ut t 2 (t 2 - 1)) (allT (ut t 2 (t 2 - 1))) = shN (val t) (rw_ (od t) (t 2 - 1)) (t 2 - 1 - 1) (allT t) (fun _ => 0) := by
        show shN (val (ut t 2 (t 2 - 1))) (rw_ (od (ut t 2 (t 2 - 1))) (ut t 2 (t 2 - 1) 2)) (ut t 2 (t 2 - 1) 2 - 1) (allT (ut t 2 (t 2 - 1))) (fun _ => 0) = _
        rw [vt, al', ut_eq]
        refine shN_cg _ _ _ (fun i hi => ?_)
        show ut t 2 (t 2 - 1) (5 + (t 2 - 1 - 1 - i)) = t (5 + (t 2 - 1 - 1 - i))
        exact ut_ne (by omega)
      refine okVc h (r := nI (val t x (shN (val t) (rw_ (od t) (t 2 - 1)) (t 2 - 1 - 1) (allT t) (fun _ => 0) x)) - nI (val t x (shN (val t) (rw_ (od t) (t 2)) (t 2 - 1) (allT t) (fun _ => 0) x))) (M1 := M2) ?_ (fC_of f12 (by omega)) d2 (f12 34 (by omega)) (fun hs1 => ?_)
      · simp (disch := omega) only [r80_0, r80_1, r80_2, r80_5, r80_8, r80_11, r80_14, r80_15, r80_16, r80_19, r80_22, r80_23, r80_26, r80_29, r80_30, r80_31, r80_32, r80_35, r80_36, r80_38, r80_41, r80_42, r80_43, r80_44, r80_47, r80_50, r80_51, r80_54, r80_57, r80_58, r80_59, r80_60, r80_63, r80_64, r80_65, r80_66, r80_67, r80_70, r80_73, r80_74, r80_77, r80_80, r80_81, r80_84, r80_85, Option.bind_some, vtl_some, vtl_none, s_within, s_isSet5 h.e h.w, h.e.p, h.e.h, h.od5, h.me4, b2_eq0, ite_not2, nz1, nz0, n1z, n0z, if_true, if_false, fd0, fd1, fd2, fd3, fd4, fd5, fd6, if_pos h1, if_neg h2, pk_sub (show 1 ≤ t 2 by omega), nI_eq', g1, hh1, g2]
      · obtain ⟨N1, y1, u1, k1⟩ := s_getsOf' (L := L) h.w hs1 (fun M1 _ h' => WO_of h.o h') (h := x) (s := allT t) (by omega) (ord_all h.w h.o hx) hal.1
        have hsN : rS N1 t := rS_fr hs1 u1
        have hsN2 : rS (upd2 N1 37 2 (nI (t 2 - 1))) (ut t 2 (t 2 - 1)) := fun k hk k4 => by
          by_cases q : k = 2
          · subst q; rw [upd2_eq, ut_eq]
          · rw [upd2_ne (Or.inr q), ut_ne q]; exact hsN k hk k4
        obtain ⟨i, hi, hxi⟩ := ord_all h.w h.o hx
        have ine : i ≠ t 2 - 1 := fun z => h2 (by rw [hxi, z])
        obtain ⟨N2, y2, u2, k2⟩ := s_getsOf' (L := L) hw' hsN2 (fun N hk hv p hp s hs => by
          rw [ut_eq] at hp
          rw [ut_ne (show 1 ≠ 2 by omega)] at hs
          rw [ut_ne (show 5 + p ≠ 2 by omega)]
          have op := h.o.1 p (by omega)
          by_cases q : t (5 + p) < t 2 - 1
          · exact hv _ (by rw [ut_eq]; exact q) s (by rw [ut_ne (show 1 ≠ 2 by omega)]; exact hs)
          · rw [hk _ (by rw [ut_eq]; omega), upd2_ne (Or.inl (by omega)), vt]
            exact k1.2 _ op s hs) (h := x) (s := allT (ut t 2 (t 2 - 1))) (by omega) ⟨i, by rw [ut_eq]; omega, by rw [ut_ne (by omega)]; exact hxi⟩ (by rw [ut_ne (show 1 ≠ 2 by omega), al']; exact hal.1)
        have z1 : N2 37 2 = nI (t 2 - 1) := by rw [u2 37 (by omega), upd2_eq]
        rw [sh', vt] at y2
        have sh0 : sha t (allT t) = shN (val t) (rw_ (od t) (t 2)) (t 2 - 1) (allT t) (fun _ => 0) := rfl
        rw [sh0] at y1
        have ev : R 129 0 [.ref 36] [] (SH L, upd2 N1 37 2 (nI (t 2 - 1))) = some (some (.int (nI (allT (ut t 2 (t 2 - 1))))), (SH L, upd2 N1 37 2 (nI (t 2 - 1)))) := s_everything hsN2 hw'
        refine ⟨upd2 N2 37 2 (nI (t 2)), ?_, fun b hb => ?_, ?_⟩
        · have hs := hs1
          have ol' : t (5 + t 2 - 1) < t 2 := by rw [show 5 + t 2 - 1 = 5 + (t 2 - 1) by omega]; exact ol
          have ad : nI (t 2 - 1) + nI 1 = nI (t 2) := by rw [nI_add, show t 2 - 1 + 1 = t 2 by omega]
          simp (disch := omega) only [r179_0, r179_1, r179_2, r179_5, r179_8, r179_9, r179_12, r179_13, r179_14, r179_17, r179_18, r179_19, r179_20, r179_21, r179_22, r179_23, r179_24, r179_27, r179_28, r179_30, r179_33, r179_34, r179_35, r179_36, r179_37, r179_40, s_isHeir hs1 h.w, if_pos h1, nz1, if_false, hs1 2, nI_add, pk_sub (show 1 ≤ 5 + t 2 by omega), hs1 (5 + t 2 - 1), nI_eq', if_neg h3, s_everything hs1 h.w, y1, Option.bind_some, vtl_some]
          simp (disch := omega) only [r179_43, r179_44, r179_45, r179_48, r179_49, r179_50, r179_51, r179_52, r179_53, r179_54, r179_55, r179_56, r179_57, r179_60, hsN 2, pk_sub (show 1 ≤ t 2 by omega), ev, y2, Option.bind_some, vtl_some]
          simp (disch := omega) only [r179_63, r179_64, r179_65, r179_68, r179_69, r179_70, r179_71, r179_72, r179_73, r179_74, r179_75, r179_76, r179_77, z1, ad]
        · by_cases q : b = 37
          · subst q
            funext j
            by_cases q2 : j = 2
            · subst q2; rw [upd2_eq, hs1 2 (by omega) (by omega)]
            · rw [upd2_ne (Or.inr q2), u2 37 (by omega), upd2_ne (Or.inr q2), u1 37 (by omega)]
          · funext j
            rw [upd2_ne (Or.inl q), u2 b (by omega), upd2_ne (Or.inl q), u1 b (by omega)]
        · funext j
          rw [upd2_ne (Or.inl (by omega)), u2 40 (by omega), upd2_ne (Or.inl (by omega)), u1 40 (by omega)]
  · exact okF0 h (x := (-1000001)) (k := 0) (by simp (disch := omega) only [r80_0, r80_1, r80_2, r80_5, r80_8, r80_11, r80_14, r80_15, r80_16, r80_19, r80_22, r80_23, r80_26, r80_29, r80_30, r80_31, r80_32, r80_35, r80_36, r80_38, r80_41, Option.bind_some, vtl_some, vtl_none, s_within, s_isSet5 h.e h.w, h.e.p, h.e.h, h.od5, h.me4, b2_eq0, ite_not2, nz1, nz0, n1z, n0z, if_true, if_false, fd0, fd1, fd2, fd3, fd4, fd5, fd6, if_neg h1]) (fun M1 hs => by simp (disch := omega) only [r179_0, r179_1, r179_2, r179_5, r179_8, r179_9, r179_12, r179_13, r179_14, r179_17, r179_18, r179_19, r179_20, r179_21, r179_22, r179_23, r179_24, r179_27, r179_28, r179_30, r179_33, Option.bind_some, vtl_some, vtl_none, s_isPart hs h.w, s_isHeir hs h.w, s_isSet6 hs h.w, s_isAny, s_isThing, s_isOne, b2_eq0, ite_not2, nz1, nz0, n1z, n0z, if_true, if_false, gd0, gd1, gd2, gd3, gd4, gd5, gd6, hs 1, hs 2, if_neg h1])
end SEA
