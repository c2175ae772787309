/-! The reference divides -/
/-- the tables from a place on -/
def LA (M : Nat → Nat → Int32) (t : Nat → Nat) (q : Nat) : Prop := (∀ p, q ≤ p → p < t 2 → LAv M t p) ∧ (∀ p, q ≤ p → p < t 2 → (p = 0 → t 2 = 1) → LAm M t p)
theorem s_fl_l {L : Nat} {t : Nat → Nat} (hw : wfT t) {M0 : Nat → Nat → Int32} (hs : rS M0 t) (hW : WO M0 t) : ∀ (q : Nat) (M : Nat → Nat → Int32) (v3 v4 : Value), q ≤ t 2 → frc 41 44 M0 M → LA M t q → ∃ M', R 161 11 [.ref 36, .int (nI (t 2 - 1)), .int (nI q + (-1)), v3, v4] [] (SH L, M) = some (none, (SH L, M')) ∧ frc 41 44 M0 M' ∧ LA M' t 0 := by
  have hp5 := pow_P hw
  have ha1 := allT_eq t
  have hH := hw.2.2.2.1
  have hP := Nat.two_pow_pos (t 1)
  intro q
  induction q with
  | zero =>
    intro M v3 v4 _ hf hla
    refine ⟨M, ?_, hf, hla⟩
    rw [r161_11, r161_12, if_pos (by rw [dn0]; trivial), r161_150]
  | succ q ih =>
    intro M v3 v4 hq hf hla
    have hs1 : rS M t := rS_frc hs hf (by omega)
    have hW1 : WO M t := fun h hh s hss => by rw [hf 45 (by omega)]; exact hW h hh s hss
    rw [nI_dec, r161_11, r161_12, if_neg (nI_nlt0 (by omega))]
    simp (disch := omega) only [r161_15, r161_18, r161_19, r161_22, r161_23, r161_24, r161_25, r161_26, r161_27, r161_28, r161_29, nI_add, hs1 (5 + q), pk_mul]
    obtain ⟨M1, e1, f1, i1⟩ := s_fl_a (L := L) hw hs1 hW1 (p := q) (by omega) (2 ^ t 1) 0 M (Nat.zero_add _) pfr_rf (fun s h => absurd h (Nat.not_lt_zero _))
    rw [e1]
    have hs2 : rS M1 t := rS_pfr hs1 f1
    have hv1 : LAv M1 t q := fun s h => (i1 s h).1
    have keep : ∀ p, q + 1 ≤ p → p < t 2 → LAv M1 t p ∧ ((p = 0 → t 2 = 1) → LAm M1 t p) := fun p h1 h2 => ⟨fun s h => by rw [f1 41 _ (Or.inr (by omega))]; exact hla.1 p h1 h2 s h, fun h0 s h => by rw [f1 42 _ (Or.inr (by omega)), f1 44 _ (Or.inr (by omega))]; exact hla.2 p h1 h2 h0 s h⟩
    simp only [r161_110, r161_111]
    by_cases hb : 0 < q ∧ q + 1 < t 2
    · obtain ⟨M2, e2, f2, v2, m2⟩ := s_fl_b (L := L) hw hs2 hb.1 hb.2 hv1 ((keep (q + 1) (by omega) (by omega)).2 (by omega)) (2 ^ t 1) 0 M1 (Nat.zero_add _) pfr_rf hv1 (fun s h => absurd h (Nat.not_lt_zero _))
      rw [e2, r161_144, r161_147]
      refine ih M2 _ _ (by omega) (frc_tr hf (frc_tr (pfr_frc f1) (pfr_frc f2))) ⟨fun p h1 h2 => ?_, fun p h1 h2 h0 => ?_⟩
      · by_cases e : p = q
        · subst e; exact v2
        · exact fun s h => by rw [f2 41 _ (Or.inr (by omega))]; exact (keep p (by omega) h2).1 s h
      · by_cases e : p = q
        · subst e; exact m2
        · exact fun s h => by rw [f2 42 _ (Or.inr (by omega)), f2 44 _ (Or.inr (by omega))]; exact (keep p (by omega) h2).2 h0 s h
    · have e2 : R 161 113 [.ref 36, .int (nI (t 2 - 1)), .int (nI q), .int (nI (512 * t (5 + q))), .int (nI 0)] [] (SH L, M1) = R 161 144 [.ref 36, .int (nI (t 2 - 1)), .int (nI q), .int (nI (512 * t (5 + q))), .int (nI 0)] [] (SH L, M1) := by
        rw [r161_113]
        simp (disch := omega) only [r161_115, r161_116, r161_119, r161_122, r161_123, r161_126, r161_127, r161_128, s_everything hs2 hw, Option.bind_some, vtl_some, nI_lt', show ¬ allT t < 0 from by omega, if_false, nI_le'']
        by_cases h0 : q = 0
        · subst h0; rw [if_pos (by rw [← nI_0]; exact Int32.le_refl _)]
        · rw [if_neg (by rw [← nI_0, nI_le'' (by omega) (by omega)]; omega), if_pos (by omega)]
      rw [e2, r161_144, r161_147]
      refine ih M1 _ _ (by omega) (frc_tr hf (pfr_frc f1)) ⟨fun p h1 h2 => ?_, fun p h1 h2 h0 => ?_⟩
      · by_cases e : p = q
        · subst e; exact hv1
        · exact (keep p (by omega) h2).1
      · by_cases e : p = q
        · subst e
          have el : p = t 2 - 1 := by omega
          intro s h
          obtain ⟨j1, j2⟩ := (i1 s h).2 el
          rw [j1, j2, ← el, Nat.sub_self]
          refine ⟨?_, rfl⟩
          show _ = nI (val t (t (5 + (t 2 - 1 - 0))) s)
          rw [Nat.sub_zero, ← el]
        · exact (keep p (by omega) h2).2 h0
theorem s_findLater {L : Nat} {t : Nat → Nat} (hw : wfT t) {M : Nat → Nat → Int32} (hs : rS M t) (hW : WO M t) : ∃ M', R 161 0 [.ref 36, .null, .null, .null, .null] [] (SH L, M) = some (none, (SH L, M')) ∧ frc 41 44 M M' ∧ LA M' t 0 := by
  have hH := hw.2.2.2.1
  have hH1 := hw.2.2.1
  simp (disch := omega) only [r161_0, r161_1, r161_4, r161_5, r161_6, r161_7, r161_8, r161_9, r161_10, hs 2]
  rw [pk_sub hH1]
  have := s_fl_l (L := L) hw hs hW (t 2) M .null .null (Nat.le_refl _) frc_rf ⟨fun p h1 h2 => absurd h2 (by omega), fun p h1 h2 => absurd h2 (by omega)⟩
  rw [show t 2 = t 2 - 1 + 1 by omega, nI_dec] at this
  rw [show t 2 - 1 + 1 - 1 = t 2 - 1 by omega] at this
  exact this
/-- the first one's cut of a set too -/
def LAf (M : Nat → Nat → Int32) (t : Nat → Nat) (s : Nat) : Prop := M 44 s = nI (kpR (val t) (rwT t) (t 2 - 1) s) ∧ (1 < t 2 → M 43 s = nI (fro (val t) (rwT t) (t 2 - 2) s))
theorem s_findFirst {L : Nat} {t : Nat → Nat} (hw : wfT t) {M : Nat → Nat → Int32} (hs : rS M t) (hla : LA M t 0) {s : Nat} (hss : s < 2 ^ t 1) : ∃ M', R 162 0 [.ref 36, .int (nI s)] [] (SH L, M) = some (none, (SH L, M')) ∧ frc 42 44 M M' ∧ LA M' t 0 ∧ LAf M' t s := by
  have hH := hw.2.2.2.1
  have hH1 := hw.2.2.1
  have hp5 := pow_P hw
  have hP := hw.2.1
  by_cases h1 : t 2 ≤ 1
  · refine ⟨M, ?_, frc_rf, hla, ?_, fun z => absurd z (by omega)⟩
    · simp (disch := omega) only [r162_0, r162_1, r162_4, r162_5, r162_6, r162_7, r162_10, r162_11, r162_12, r162_13, r162_16, hs 2, nI_le'', if_pos h1]
    · have := (hla.2 0 (Nat.le_refl _) (by omega) (fun _ => by omega) s hss).2
      rw [Nat.mul_zero, Nat.zero_add, Nat.sub_zero] at this
      exact this
  · have hg : ∀ a, a < 2 ^ t 1 → M 42 (512 * (0 + 1) + a) = nI (gn (val t) (rwT t) (t 2 - 2) a) := fun a ha => by
      rw [(hla.2 1 (by omega) (by omega) (by omega) a ha).1, show t 2 - 1 - 1 = t 2 - 2 by omega]
    have hB : ∀ a, a &&& s = a → a < 2 ^ t 1 := fun a ha => Nat.lt_of_le_of_lt (by rw [← ha]; exact Nat.and_le_right) hss
    have c := s_cuts (L := L) (pl := 0) (s := s) (B := 2 ^ t 1) (m := 1782) (M := M) (v := val t (t (5 + 0))) (g := gn (val t) (rwT t) (t 2 - 2)) (by omega) (by omega) hB hp5 (hla.1 0 (Nat.le_refl _) (by omega)) hg (fun a _ => val_le hw (hw.2.2.2.2.2.2 0 (by omega)) a) (fun a ha => gnT_le hw _ a ha) (by omega)
    have ek : t 2 - 1 = t 2 - 2 + 1 := by omega
    have er : rwT t (t 2 - 2 + 1) = t (5 + 0) := by
      show t (5 + (t 2 - 1 - (t 2 - 2 + 1))) = t (5 + 0)
      congr 1
      omega
    refine ⟨up3 M (512 * 0 + s) (nI ((bsS (fun f => val t (t (5 + 0)) (kp (gn (val t) (rwT t) (t 2 - 2)) s f)) s).1 - 1)) (nI (bsS (fun f => val t (t (5 + 0)) (kp (gn (val t) (rwT t) (t 2 - 2)) s f)) s).2) (nI (kp (gn (val t) (rwT t) (t 2 - 2)) s (bsS (fun f => val t (t (5 + 0)) (kp (gn (val t) (rwT t) (t 2 - 2)) s f)) s).2)), ?_, ?_, ⟨fun p h2 h3 a ha => ?_, fun p h2 h3 h4 a ha => ?_⟩, ?_, fun _ => ?_⟩
    · simp (disch := omega) only [r162_0, r162_1, r162_4, r162_5, r162_6, r162_7, r162_10, r162_11, r162_12, r162_13, r162_16, hs 2, nI_le'', if_neg h1, c, Option.bind_some, vtl_none]
    · exact fun k hk => by funext j; exact up3_o (by omega) (by omega) (by omega)
    · rw [up3_o (by omega) (by omega) (by omega)]; exact hla.1 p h2 h3 a ha
    · rw [up3_ne (by omega), up3_ne (by omega)]; exact hla.2 p h2 h3 h4 a ha
    · rw [ek, kpR, fro, er]; simp [up3]
    · rw [fro, er]; simp [up3]
/-- the shares: the first one's of a row of k + 1, and so on -/
def shN (V : Nat → Nat → Nat) (r : Nat → Nat) : Nat → Nat → (Nat → Nat) → Nat → Nat
  | 0, s, a => fun h => if h = r 0 then s else a h
  | k + 1, s, a => shN V r k (dif s (kpR V r (k + 1) s)) (fun h => if h = r (k + 1) then kpR V r (k + 1) s else a h)
theorem s_shareOut_l {L : Nat} {t : Nat → Nat} (hw : wfT t) {M0 : Nat → Nat → Int32} (hs : rS M0 t) (hla : LA M0 t 0) {s0 : Nat} (hs0 : s0 < 2 ^ t 1) (hf0 : LAf M0 t s0) : ∀ (k p s : Nat) (M : Nat → Nat → Int32) (a : Nat → Nat) (v4 : Value), p + k + 1 = t 2 → s < 2 ^ t 1 → (p = 0 → s = s0) → frc 47 47 M0 M → (∀ h, h < 4 → (∃ i, i < p ∧ h = t (5 + i)) → M 47 h = nI (a h)) → ∃ M', R 164 4 [.ref 36, .int (nI s0), .int (nI s), .int (nI p), v4] [] (SH L, M) = some (none, (SH L, M')) ∧ frc 47 47 M0 M' ∧ (∀ h, h < 4 → (∃ i, i < t 2 ∧ h = t (5 + i)) → M' 47 h = nI (shN (val t) (rwT t) k s a h)) := by
  have hH := hw.2.2.2.1
  have hp5 := pow_P hw
  intro k
  induction k with
  | zero =>
    intro p s M a v4 hk hss hsp hf hi
    have hs1 : rS M t := rS_frc hs hf (by omega)
    have ho : t (5 + p) < 4 := hw.2.2.2.2.2.2 p (by omega)
    have hke : M 44 (512 * p + s) = nI s := by
      rw [hf 44 (by omega)]
      rcases Nat.eq_zero_or_pos p with e | e
      · subst e
        have := hf0.1
        rw [show t 2 - 1 = 0 by omega, ← hsp rfl] at this
        rw [Nat.mul_zero, Nat.zero_add]
        exact this
      · have := (hla.2 p (Nat.zero_le _) (by omega) (by omega) s hss).2
        rw [show t 2 - 1 - p = 0 by omega] at this
        exact this
    rw [r164_4]
    simp (disch := omega) only [r164_5, r164_6, r164_9, r164_10, r164_11, r164_14, r164_15, r164_18, r164_21, r164_22, r164_23, r164_24, r164_25, r164_26, r164_28, r164_29, r164_32, r164_33, r164_36, r164_37, r164_38, r164_39, r164_40, r164_42, r164_43, r164_44, r164_46, r164_47, r164_48, r164_49, r164_50, r164_53, hs1 2, nI_le'', show ¬ t 2 ≤ p from by omega, if_false, pk_mul, nI_add, hke, hs1 (5 + p)]
    have e2 : upd2 M 47 (t (5 + p)) (nI s) 37 2 = nI (t 2) := by rw [upd2_ne (Or.inl (by omega))]; exact hs1 2 (by omega) (by omega)
    rw [r164_4]
    simp (disch := omega) only [r164_5, r164_6, r164_9, r164_10, r164_11, r164_14, r164_15, r164_18, r164_21, r164_22, r164_23, r164_24, r164_25, r164_26, r164_28, r164_29, r164_32, r164_33, r164_36, r164_37, r164_38, r164_39, r164_40, r164_42, r164_43, r164_44, r164_46, r164_47, r164_48, r164_49, r164_50, r164_53, r164_56, e2, nI_le'', show t 2 ≤ p + 1 from by omega, if_true]
    refine ⟨_, rfl, frc_up hf (by omega) (by omega), fun h h4 hi2 => ?_⟩
    show _ = nI (if h = t (5 + (t 2 - 1 - 0)) then s else a h)
    rw [show t 2 - 1 - 0 = p by omega]
    by_cases e : h = t (5 + p)
    · rw [if_pos e, e, upd2_eq]
    · rw [if_neg e, upd2_ne (Or.inr e)]
      obtain ⟨i, i1, i2⟩ := hi2
      exact hi h h4 ⟨i, by
        rcases Nat.lt_or_ge i p with z | z
        · exact z
        · exact absurd (by rw [i2, show i = p by omega]) e, i2⟩
  | succ k ih =>
    intro p s M a v4 hk hss hsp hf hi
    have hs1 : rS M t := rS_frc hs hf (by omega)
    have ho : t (5 + p) < 4 := hw.2.2.2.2.2.2 p (by omega)
    have hke : M 44 (512 * p + s) = nI (kpR (val t) (rwT t) (k + 1) s) := by
      rw [hf 44 (by omega)]
      rcases Nat.eq_zero_or_pos p with e | e
      · subst e
        have := hf0.1
        rw [show t 2 - 1 = k + 1 by omega, ← hsp rfl] at this
        rw [Nat.mul_zero, Nat.zero_add]
        exact this
      · have := (hla.2 p (Nat.zero_le _) (by omega) (by omega) s hss).2
        rw [show t 2 - 1 - p = k + 1 by omega] at this
        exact this
    rw [r164_4]
    simp (disch := omega) only [r164_5, r164_6, r164_9, r164_10, r164_11, r164_14, r164_15, r164_18, r164_21, r164_22, r164_23, r164_24, r164_25, r164_26, r164_28, r164_29, r164_32, r164_33, r164_36, r164_37, r164_38, r164_39, r164_40, r164_42, r164_43, r164_44, r164_46, r164_47, r164_48, r164_49, r164_50, r164_53, hs1 2, nI_le'', show ¬ t 2 ≤ p from by omega, if_false, pk_mul, nI_add, hke, hs1 (5 + p), nI_dif]
    refine ih (p + 1) _ _ (fun h => if h = rwT t (k + 1) then kpR (val t) (rwT t) (k + 1) s else a h) _ (by omega) (Nat.lt_of_le_of_lt (dif_le _ _) hss) (by omega) (frc_up hf (by omega) (by omega)) (fun h h4 hi2 => ?_)
    have er : rwT t (k + 1) = t (5 + p) := by
      show t (5 + (t 2 - 1 - (k + 1))) = t (5 + p)
      congr 1
      omega
    rw [er]
    by_cases e : h = t (5 + p)
    · rw [if_pos e, e, upd2_eq]
    · rw [if_neg e, upd2_ne (Or.inr e)]
      obtain ⟨i, i1, i2⟩ := hi2
      exact hi h h4 ⟨i, by
        rcases Nat.lt_or_ge i p with z | z
        · exact z
        · exact absurd (by rw [i2, show i = p by omega]) e, i2⟩
def sha (t : Nat → Nat) (s : Nat) : Nat → Nat := shN (val t) (rwT t) (t 2 - 1) s (fun _ => 0)
theorem ord4' : ∀ a b c d h : Fin 4, (a == b || a == c || a == d || b == c || b == d || c == d || h == a || h == b || h == c || h == d) = true := by decide +kernel
theorem ord4 (a : Nat) (ha : a < 4) (b : Nat) (hb : b < 4) (c : Nat) (hc : c < 4) (d : Nat) (hd : d < 4) (h1 : a ≠ b) (h2 : a ≠ c) (h3 : a ≠ d) (h4 : b ≠ c) (h5 : b ≠ d) (h6 : c ≠ d) (h : Nat) (hh : h < 4) : h = a ∨ h = b ∨ h = c ∨ h = d := by
  have := ord4' ⟨a, ha⟩ ⟨b, hb⟩ ⟨c, hc⟩ ⟨d, hd⟩ ⟨h, hh⟩
  simp only [Bool.or_eq_true, beq_iff_eq, Fin.mk.injEq] at this
  omega
theorem ord_all {t : Nat → Nat} (hw : wfT t) (hO : wfO t) {h : Nat} (hh : h < t 2) : ∃ i, i < t 2 ∧ h = t (5 + i) := by
  obtain ⟨-, -, h1, h4, -⟩ := hw
  obtain ⟨hr, hi⟩ := hO
  have hc : t 2 = 1 ∨ t 2 = 2 ∨ t 2 = 3 ∨ t 2 = 4 := by omega
  rcases hc with e | e | e | e
  · have a0 := hr 0 (by omega)
    exact ⟨0, by omega, by omega⟩
  · have a0 := hr 0 (by omega); have a1 := hr 1 (by omega)
    have b01 := hi 0 1 (by omega) (by omega)
    by_cases e0 : h = t (5 + 0)
    · exact ⟨0, by omega, e0⟩
    · refine ⟨1, by omega, ?_⟩
      have : t (5 + 0) ≠ t (5 + 1) := fun z => absurd (b01 z) (by decide)
      omega
  · have a0 := hr 0 (by omega); have a1 := hr 1 (by omega); have a2 := hr 2 (by omega)
    have b01 : t (5 + 0) ≠ t (5 + 1) := fun z => absurd (hi 0 1 (by omega) (by omega) z) (by decide)
    have b02 : t (5 + 0) ≠ t (5 + 2) := fun z => absurd (hi 0 2 (by omega) (by omega) z) (by decide)
    have b12 : t (5 + 1) ≠ t (5 + 2) := fun z => absurd (hi 1 2 (by omega) (by omega) z) (by decide)
    by_cases e0 : h = t (5 + 0)
    · exact ⟨0, by omega, e0⟩
    by_cases e1 : h = t (5 + 1)
    · exact ⟨1, by omega, e1⟩
    · exact ⟨2, by omega, by omega⟩
  · rw [e] at hr hi
    rcases ord4 _ (hr 0 (by omega)) _ (hr 1 (by omega)) _ (hr 2 (by omega)) _ (hr 3 (by omega)) (fun z => absurd (hi 0 1 (by omega) (by omega) z) (by decide)) (fun z => absurd (hi 0 2 (by omega) (by omega) z) (by decide)) (fun z => absurd (hi 0 3 (by omega) (by omega) z) (by decide)) (fun z => absurd (hi 1 2 (by omega) (by omega) z) (by decide)) (fun z => absurd (hi 1 3 (by omega) (by omega) z) (by decide)) (fun z => absurd (hi 2 3 (by omega) (by omega) z) (by decide)) h (by omega) with q | q | q | q
    · exact ⟨0, by omega, q⟩
    · exact ⟨1, by omega, q⟩
    · exact ⟨2, by omega, q⟩
    · exact ⟨3, by omega, q⟩
theorem s_shareOut {L : Nat} {t : Nat → Nat} (hw : wfT t) {M : Nat → Nat → Int32} (hs : rS M t) (hla : LA M t 0) {s : Nat} (hss : s < 2 ^ t 1) (hf : LAf M t s) : ∃ M', R 164 0 [.ref 36, .int (nI s), .null, .null, .null] [] (SH L, M) = some (none, (SH L, M')) ∧ frc 47 47 M M' ∧ ∀ h, h < 4 → (∃ i, i < t 2 ∧ h = t (5 + i)) → M' 47 h = nI (sha t s h) := by
  have hH := hw.2.2.2.1
  have hH1 := hw.2.2.1
  simp only [r164_0, r164_1, r164_2, r164_3]
  obtain ⟨M', e, f, i⟩ := s_shareOut_l (L := L) hw hs hla hss hf (t 2 - 1) 0 s M (fun _ => 0) .null (by omega) hss (fun _ => rfl) frc_rf (fun h h4 ⟨i, hi, _⟩ => absurd hi (Nat.not_lt_zero _))
  exact ⟨M', e, f, i⟩
theorem WO_of {t : Nat → Nat} (hO : wfO t) {M : Nat → Nat → Int32} (h : ∀ h', h' < t 2 → ∀ s, s < 2 ^ t 1 → M 45 (512 * h' + s) = nI (val t h' s)) : WO M t := fun p hp s hs => h _ (hO.1 p hp) s hs
theorem s_findCuts' {L : Nat} {t : Nat → Nat} (hw : wfT t) {M : Nat → Nat → Int32} (hs : rS M t) (hO : ∀ M1, Wk M M1 t → (∀ h', h' < t 2 → ∀ s, s < 2 ^ t 1 → M1 45 (512 * h' + s) = nI (val t h' s)) → WO M1 t) {s : Nat} (hss : s < 2 ^ t 1) : ∃ M', R 163 0 [.ref 36, .int (nI s)] [] (SH L, M) = some (none, (SH L, M')) ∧ frS M M' ∧ (Wk M M' t ∧ ∀ h', h' < t 2 → ∀ s, s < 2 ^ t 1 → M' 45 (512 * h' + s) = nI (val t h' s)) ∧ LA M' t 0 ∧ LAf M' t s := by
  obtain ⟨M1, e1, f1, k1, w1⟩ := s_findWorths (L := L) hw hs
  obtain ⟨M2, e2, f2, l2⟩ := s_findLater (L := L) hw (rS_fr hs f1) (hO M1 k1 w1)
  obtain ⟨M3, e3, f3, l3, c3⟩ := s_findFirst (L := L) hw (rS_frc (rS_fr hs f1) f2 (by omega)) l2 hss
  have e45 : M3 45 = M1 45 := by rw [f3 45 (by omega), f2 45 (by omega)]
  refine ⟨M3, ?_, frS_tr f1 (frc_tr (frc_mo f2 (c := 41) (d := 47) (by omega) (by omega)) (frc_mo f3 (by omega) (by omega))), ⟨fun j hj => by rw [e45]; exact k1 j hj, fun h' hh s hs => by rw [e45]; exact w1 h' hh s hs⟩, l3, c3⟩
  simp only [r163_0, r163_1, r163_4, r163_5, r163_8, r163_9, r163_10, r163_13, e1, e2, e3, Option.bind_some, vtl_none]
theorem s_findCuts {L : Nat} {t : Nat → Nat} (hw : wfT t) (hO : wfO t) {M : Nat → Nat → Int32} (hs : rS M t) {s : Nat} (hss : s < 2 ^ t 1) : ∃ M', R 163 0 [.ref 36, .int (nI s)] [] (SH L, M) = some (none, (SH L, M')) ∧ frS M M' ∧ LA M' t 0 ∧ LAf M' t s := by
  obtain ⟨M', e, f, -, l, g⟩ := s_findCuts' (L := L) hw hs (fun M1 _ h => WO_of hO h) hss
  exact ⟨M', e, f, l, g⟩
theorem s_divides' {L : Nat} {t : Nat → Nat} (hw : wfT t) {M : Nat → Nat → Int32} (hs : rS M t) (hO : ∀ M1, Wk M M1 t → (∀ h', h' < t 2 → ∀ s, s < 2 ^ t 1 → M1 45 (512 * h' + s) = nI (val t h' s)) → WO M1 t) {s : Nat} (hss : s < 2 ^ t 1) : ∃ M', R 165 0 [.ref 36, .int (nI s)] [] (SH L, M) = some (none, (SH L, M')) ∧ frS M M' ∧ (Wk M M' t ∧ ∀ h', h' < t 2 → ∀ s, s < 2 ^ t 1 → M' 45 (512 * h' + s) = nI (val t h' s)) ∧ ∀ h, h < 4 → (∃ i, i < t 2 ∧ h = t (5 + i)) → M' 47 h = nI (sha t s h) := by
  obtain ⟨M1, e1, f1, k1, l1, c1⟩ := s_findCuts' (L := L) hw hs hO hss
  obtain ⟨M2, e2, f2, i2⟩ := s_shareOut (L := L) hw (rS_fr hs f1) l1 hss c1
  have e45 : M2 45 = M1 45 := f2 45 (by omega)
  refine ⟨M2, ?_, frS_tr f1 (frc_mo f2 (c := 41) (d := 47) (by omega) (by omega)), ⟨fun j hj => by rw [e45]; exact k1.1 j hj, fun h' hh s hs => by rw [e45]; exact k1.2 h' hh s hs⟩, i2⟩
  simp only [r165_0, r165_1, r165_2, r165_5, r165_6, r165_7, r165_10, e1, e2, Option.bind_some, vtl_none]
theorem s_divides {L : Nat} {t : Nat → Nat} (hw : wfT t) (hO : wfO t) {M : Nat → Nat → Int32} (hs : rS M t) {s : Nat} (hss : s < 2 ^ t 1) : ∃ M', R 165 0 [.ref 36, .int (nI s)] [] (SH L, M) = some (none, (SH L, M')) ∧ frS M M' ∧ ∀ h, h < t 2 → M' 47 h = nI (sha t s h) := by
  have hH := hw.2.2.2.1
  obtain ⟨M', e, f, -, g⟩ := s_divides' (L := L) hw hs (fun M1 _ h => WO_of hO h) hss
  exact ⟨M', e, f, fun h hh => g h (by omega) (ord_all hw hO hh)⟩
theorem kpR_le (V : Nat → Nat → Nat) (r : Nat → Nat) {k s : Nat} (hs : s < 512) : kpR V r k s < 512 := by
  cases k with
  | zero => exact hs
  | succ k => exact kp_lt hs (bsN_front hs _ (Nat.le_refl _))
theorem shN_lt (V : Nat → Nat → Nat) (r : Nat → Nat) : ∀ (k s : Nat) (a : Nat → Nat), s < 512 → (∀ h, a h < 512) → ∀ h, shN V r k s a h < 512 := by
  intro k
  induction k with
  | zero =>
    intro s a hs ha h
    show (if h = r 0 then s else a h) < 512
    split
    · exact hs
    · exact ha h
  | succ k ih =>
    intro s a hs ha h
    rw [shN]
    refine ih _ _ (Nat.lt_of_le_of_lt (dif_le _ _) hs) (fun h => ?_) h
    show (if h = r (k + 1) then _ else _) < 512
    split
    · exact kpR_le V r hs
    · exact ha h
theorem sha_lt (t : Nat → Nat) {s : Nat} (hs : s < 512) (h : Nat) : sha t s h < 512 := shN_lt _ _ _ _ _ hs (fun _ => by decide) h
theorem s_getsOf' {L : Nat} {t : Nat → Nat} (hw : wfT t) {M : Nat → Nat → Int32} (hs : rS M t) (hO : ∀ M1, Wk M M1 t → (∀ h', h' < t 2 → ∀ s, s < 2 ^ t 1 → M1 45 (512 * h' + s) = nI (val t h' s)) → WO M1 t) {h s : Nat} (hh : h < 4) (hi : ∃ i, i < t 2 ∧ h = t (5 + i)) (hss : s < 2 ^ t 1) : ∃ M', R 167 0 [.ref 36, .int (nI h), .int (nI s)] [] (SH L, M) = some (some (.int (nI (val t h (sha t s h)))), (SH L, M')) ∧ frS M M' ∧ (Wk M M' t ∧ ∀ h', h' < t 2 → ∀ s, s < 2 ^ t 1 → M' 45 (512 * h' + s) = nI (val t h' s)) := by
  have hH := hw.2.2.2.1
  have hp5 := pow_P hw
  obtain ⟨M1, e1, f1, k1, i1⟩ := s_divides' (L := L) hw hs hO hss
  refine ⟨M1, ?_, f1, k1⟩
  simp (disch := omega) only [r167_0, r167_1, r167_2, r167_5, r167_6, r167_7, r167_8, r167_11, r167_12, r167_13, r167_16, e1, Option.bind_some, vtl_none, vtl_some, i1 h hh hi, s_valueOf (rS_fr hs f1) hw hh (sha_lt t (show s < 512 by omega) h)]
theorem s_getsOf {L : Nat} {t : Nat → Nat} (hw : wfT t) (hO : wfO t) {M : Nat → Nat → Int32} (hs : rS M t) {h s : Nat} (hh : h < t 2) (hss : s < 2 ^ t 1) : ∃ M', R 167 0 [.ref 36, .int (nI h), .int (nI s)] [] (SH L, M) = some (some (.int (nI (val t h (sha t s h)))), (SH L, M')) ∧ frS M M' := by
  have hH := hw.2.2.2.1
  obtain ⟨M', e, f, -⟩ := s_getsOf' (L := L) hw hs (fun M1 _ h => WO_of hO h) (show h < 4 by omega) (ord_all hw hO hh) hss
  exact ⟨M', e, f⟩
