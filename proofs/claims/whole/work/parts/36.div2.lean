/-! The reference's tables of the later ones, and the shares -/
theorem nI_dec {n : Nat} : nI (n + 1) + (-1) = nI n := by
  rw [m1_lit, ← nI_add, show nI 0 - nI 1 = -(nI 1) from by decide +kernel, Int32.add_assoc, Int32.add_right_neg, Int32.add_zero]
theorem dn0 : (nI 0 + (-1) < 0) = True := by decide +kernel
theorem nI_nlt0 {a : Nat} (ha : a < 2 ^ 31) : ¬ (nI a < 0) := nI_pos ha
/-- what a place keeps of a set, with so many behind -/
def kpR (V : Nat → Nat → Nat) (r : Nat → Nat) : Nat → Nat → Nat
  | 0, s => s
  | k + 1, s => kp (gn V r k) s (fro V r k s)
/-- the order of the first n, from its end -/
def rw_ (o : Nat → Nat) (n : Nat) : Nat → Nat := fun i => o (n - 1 - i)
abbrev od (t : Nat → Nat) : Nat → Nat := fun i => t (5 + i)
abbrev rwT (t : Nat → Nat) : Nat → Nat := rw_ (od t) (t 2)
def WO (M : Nat → Nat → Int32) (t : Nat → Nat) : Prop := ∀ p, p < t 2 → ∀ s, s < 2 ^ t 1 → M 45 (512 * t (5 + p) + s) = nI (val t (t (5 + p)) s)
def LAv (M : Nat → Nat → Int32) (t : Nat → Nat) (p : Nat) : Prop := ∀ s, s < 2 ^ t 1 → M 41 (512 * p + s) = nI (val t (t (5 + p)) s)
def LAm (M : Nat → Nat → Int32) (t : Nat → Nat) (p : Nat) : Prop := ∀ s, s < 2 ^ t 1 → M 42 (512 * p + s) = nI (gn (val t) (rwT t) (t 2 - 1 - p) s) ∧ M 44 (512 * p + s) = nI (kpR (val t) (rwT t) (t 2 - 1 - p) s)
/-- what is outside the tables' rows of a place stays -/
def pfr (p : Nat) (M M' : Nat → Nat → Int32) : Prop := ∀ k j, ((k < 41 ∨ 44 < k) ∨ (j < 512 * p ∨ 512 * p + 512 ≤ j)) → M' k j = M k j
theorem pfr_rf {p : Nat} {M : Nat → Nat → Int32} : pfr p M M := fun _ _ _ => rfl
theorem pfr_tr {p : Nat} {M M1 M2 : Nat → Nat → Int32} (h1 : pfr p M M1) (h2 : pfr p M1 M2) : pfr p M M2 := fun k j h => (h2 k j h).trans (h1 k j h)
theorem pfr_up {p : Nat} {M M1 : Nat → Nat → Int32} (h1 : pfr p M M1) {a k : Nat} {x : Int32} (ha : 41 ≤ a ∧ a ≤ 44) (hb : 512 * p ≤ k ∧ k < 512 * p + 512) : pfr p M (upd2 M1 a k x) := fun b j h => by
  rw [upd2_ne (by omega)]
  exact h1 b j h
theorem pfr_up3 {p : Nat} {M M1 : Nat → Nat → Int32} (h1 : pfr p M M1) {w : Nat} {a b c : Int32} (hb : 512 * p ≤ w ∧ w < 512 * p + 512) : pfr p M (up3 M1 w a b c) := fun k j h => by
  rw [← h1 k j h]
  by_cases e : j = w
  · exact up3_o (by omega) (by omega) (by omega)
  · exact up3_ne e
theorem rS_pfr {p : Nat} {M M' : Nat → Nat → Int32} {t : Nat → Nat} (h : rS M t) (hf : pfr p M M') : rS M' t := fun k h1 h2 => by rw [hf 37 k (Or.inl (Or.inl (by omega)))]; exact h k h1 h2
/-- cells outside a..b stay -/
def frc (a b : Nat) (M M' : Nat → Nat → Int32) : Prop := ∀ k, (k < a ∨ b < k) → M' k = M k
theorem frc_rf {a b : Nat} {M : Nat → Nat → Int32} : frc a b M M := fun _ _ => rfl
theorem frc_tr {a b : Nat} {M M1 M2 : Nat → Nat → Int32} (h1 : frc a b M M1) (h2 : frc a b M1 M2) : frc a b M M2 := fun k h => (h2 k h).trans (h1 k h)
theorem frc_mo {a b c d : Nat} {M M' : Nat → Nat → Int32} (h : frc a b M M') (h1 : c ≤ a) (h2 : b ≤ d) : frc c d M M' := fun k hk => h k (by omega)
theorem frc_up {a b : Nat} {M M1 : Nat → Nat → Int32} (h1 : frc a b M M1) {c k : Nat} {x : Int32} (ha : a ≤ c) (hb : c ≤ b) : frc a b M (upd2 M1 c k x) := fun i hi => by
  rw [← h1 i hi]
  funext j
  exact upd2_ne (Or.inl (by omega))
theorem pfr_frc {p : Nat} {M M1 : Nat → Nat → Int32} (h : pfr p M M1) : frc 41 44 M M1 := fun k hk => by
  funext j
  exact h k j (Or.inl hk)
theorem rS_frc {a b : Nat} {M M' : Nat → Nat → Int32} {t : Nat → Nat} (h : rS M t) (hf : frc a b M M') (ha : 37 < a ∨ b < 37) : rS M' t := fun k h1 h2 => by rw [hf 37 (by omega)]; exact h k h1 h2
theorem val_r {t : Nat → Nat} (hw : wfT t) (k : Nat) (s : Nat) : val t (rwT t k) s ≤ 1782 := by
  have h := hw.2.2.2.2.2.2 (t 2 - 1 - k) (by have := hw.2.2.2.1; have := hw.2.2.1; omega)
  exact val_le hw h s
theorem gnT_le {t : Nat → Nat} (hw : wfT t) (k s : Nat) (hs : s < 512) : gn (val t) (rwT t) k s ≤ 1782 := gn_le (fun k s _ => val_r hw k s) k s hs
theorem s_fl_a {L : Nat} {t : Nat → Nat} (hw : wfT t) {M0 : Nat → Nat → Int32} (hs : rS M0 t) (hW : WO M0 t) {p : Nat} (hp : p < t 2) : ∀ (k n : Nat) (M : Nat → Nat → Int32), n + k = 2 ^ t 1 → pfr p M0 M → (∀ s, s < n → M 41 (512 * p + s) = nI (val t (t (5 + p)) s) ∧ (p = t 2 - 1 → M 42 (512 * p + s) = nI (val t (t (5 + p)) s) ∧ M 44 (512 * p + s) = nI s)) → ∃ M', R 161 31 [.ref 36, .int (nI (t 2 - 1)), .int (nI p), .int (nI (512 * t (5 + p))), .int (nI n)] [] (SH L, M) = R 161 110 [.ref 36, .int (nI (t 2 - 1)), .int (nI p), .int (nI (512 * t (5 + p))), .int (nI (2 ^ t 1))] [] (SH L, M') ∧ pfr p M0 M' ∧ (∀ s, s < 2 ^ t 1 → M' 41 (512 * p + s) = nI (val t (t (5 + p)) s) ∧ (p = t 2 - 1 → M' 42 (512 * p + s) = nI (val t (t (5 + p)) s) ∧ M' 44 (512 * p + s) = nI s)) := by
  have hp5 := pow_P hw
  have ha1 := allT_eq t
  have hH := hw.2.2.2.1
  have hh : t (5 + p) < 4 := hw.2.2.2.2.2.2 p (by omega)
  intro k
  induction k with
  | zero =>
    intro n M hn hf hi
    refine ⟨M, ?_, hf, fun s h => hi s (by omega)⟩
    rw [r161_31]
    simp (disch := omega) only [r161_33, r161_34, r161_37, s_everything (rS_pfr hs hf) hw, Option.bind_some, vtl_some, nI_lt', show allT t < n from by omega, if_true]
    rw [show n = 2 ^ t 1 by omega]
  | succ k ih =>
    intro n M hn hf hi
    have hwo : M 45 (512 * t (5 + p) + n) = nI (val t (t (5 + p)) n) := by rw [hf 45 _ (Or.inl (Or.inr (by omega)))]; exact hW p hp n (by omega)
    rw [r161_31]
    simp (disch := omega) only [r161_33, r161_34, r161_37, r161_40, r161_41, r161_44, r161_47, r161_48, r161_49, r161_51, r161_52, r161_53, r161_56, r161_57, r161_59, r161_60, r161_61, r161_62, r161_63, r161_64, s_everything (rS_pfr hs hf) hw, Option.bind_some, vtl_some, nI_lt', show ¬ allT t < n from by omega, if_false, pk_mul, nI_add, hwo, nI_eq']
    by_cases hl : p = t 2 - 1
    · rw [if_pos hl]
      have hwo2 : upd2 M 41 (512 * p + n) (nI (val t (t (5 + p)) n)) 45 (512 * t (5 + p) + n) = nI (val t (t (5 + p)) n) := by rw [upd2_ne (Or.inl (by omega))]; exact hwo
      simp (disch := omega) only [r161_67, r161_68, r161_71, r161_74, r161_75, r161_76, r161_78, r161_79, r161_80, r161_83, r161_84, r161_86, r161_87, r161_88, r161_89, r161_90, r161_93, r161_96, r161_97, r161_98, r161_100, r161_101, r161_103, r161_104, r161_107, pk_mul, nI_add, hwo2]
      refine ih (n + 1) _ (by omega) (pfr_up (pfr_up (pfr_up hf (by omega) (by omega)) (by omega) (by omega)) (by omega) (by omega)) (fun s h => ?_)
      by_cases e : s = n
      · subst e
        refine ⟨?_, fun _ => ⟨?_, ?_⟩⟩
        · rw [upd2_ne (Or.inl (by omega)), upd2_ne (Or.inl (by omega)), upd2_eq]
        · rw [upd2_ne (Or.inl (by omega)), upd2_eq]
        · rw [upd2_eq]
      · rw [upd2_ne (Or.inr (by omega)), upd2_ne (Or.inr (by omega)), upd2_ne (Or.inr (by omega)), upd2_ne (Or.inr (by omega)), upd2_ne (Or.inr (by omega)), upd2_ne (Or.inr (by omega)), upd2_ne (Or.inr (by omega)), upd2_ne (Or.inr (by omega)), upd2_ne (Or.inr (by omega))]
        exact hi s (by omega)
    · rw [if_neg hl]
      simp (disch := omega) only [r161_104, r161_107, nI_add]
      refine ih (n + 1) _ (by omega) (pfr_up hf (by omega) (by omega)) (fun s h => ?_)
      refine ⟨?_, fun z => absurd z hl⟩
      by_cases e : s = n
      · subst e; rw [upd2_eq]
      · rw [upd2_ne (Or.inr (by omega))]; exact (hi s (by omega)).1
theorem s_fl_b {L : Nat} {t : Nat → Nat} (hw : wfT t) {M0 : Nat → Nat → Int32} (hs : rS M0 t) {p : Nat} (hp0 : 0 < p) (hp : p + 1 < t 2) (hv : LAv M0 t p) (hg : LAm M0 t (p + 1)) : ∀ (k n : Nat) (M : Nat → Nat → Int32), n + k = 2 ^ t 1 → pfr p M0 M → LAv M t p → (∀ s, s < n → M 42 (512 * p + s) = nI (gn (val t) (rwT t) (t 2 - 1 - p) s) ∧ M 44 (512 * p + s) = nI (kpR (val t) (rwT t) (t 2 - 1 - p) s)) → ∃ M', R 161 113 [.ref 36, .int (nI (t 2 - 1)), .int (nI p), .int (nI (512 * t (5 + p))), .int (nI n)] [] (SH L, M) = R 161 144 [.ref 36, .int (nI (t 2 - 1)), .int (nI p), .int (nI (512 * t (5 + p))), .int (nI (2 ^ t 1))] [] (SH L, M') ∧ pfr p M0 M' ∧ LAv M' t p ∧ LAm M' t p := by
  have hp5 := pow_P hw
  have ha1 := allT_eq t
  have hH := hw.2.2.2.1
  intro k
  induction k with
  | zero =>
    intro n M hn hf hv hi
    refine ⟨M, ?_, hf, hv, fun s h => hi s (by omega)⟩
    rw [r161_113]
    simp (disch := omega) only [r161_115, r161_116, r161_119, s_everything (rS_pfr hs hf) hw, Option.bind_some, vtl_some, nI_lt', show allT t < n from by omega, if_true]
    rw [show n = 2 ^ t 1 by omega]
  | succ k ih =>
    intro n M hn hf hv hi
    have hg' : ∀ a, a < 2 ^ t 1 → M 42 (512 * (p + 1) + a) = nI (gn (val t) (rwT t) (t 2 - 1 - p - 1) a) := fun a ha => by
      rw [hf 42 _ (Or.inr (by omega)), (hg a ha).1, show t 2 - 1 - (p + 1) = t 2 - 1 - p - 1 by omega]
    have hB : ∀ a, a &&& n = a → a < 2 ^ t 1 := fun a ha => Nat.lt_of_le_of_lt (by rw [← ha]; exact Nat.and_le_right) (show n < 2 ^ t 1 by omega)
    have c := s_cuts (L := L) (pl := p) (s := n) (B := 2 ^ t 1) (m := 1782) (M := M) (v := val t (t (5 + p))) (g := gn (val t) (rwT t) (t 2 - 1 - p - 1)) (by omega) (by omega) hB hp5 hv hg' (fun a _ => val_le hw (hw.2.2.2.2.2.2 p (by omega)) a) (fun a ha => gnT_le hw _ a ha) (by omega)
    rw [r161_113]
    simp (disch := omega) only [r161_115, r161_116, r161_119, r161_122, r161_123, r161_126, r161_127, r161_128, r161_131, r161_132, r161_133, r161_135, r161_138, r161_141, s_everything (rS_pfr hs hf) hw, Option.bind_some, vtl_some, vtl_none, nI_lt', show ¬ allT t < n from by omega, if_false, nI_le'', show ¬ t 2 - 1 ≤ p from by omega, show ¬ nI p ≤ 0 from by rw [← nI_0, nI_le'' (by omega) (by omega)]; omega, c, nI_add]
    have ek : t 2 - 1 - p = t 2 - 1 - p - 1 + 1 := by omega
    have er : rwT t (t 2 - 1 - p - 1 + 1) = t (5 + p) := by
      show t (5 + (t 2 - 1 - (t 2 - 1 - p - 1 + 1))) = t (5 + p)
      congr 1
      omega
    refine ih (n + 1) _ (by omega) (pfr_up3 hf (by omega)) (fun s h => ?_) (fun s h => ?_)
    · rw [up3_o (by omega) (by omega) (by omega)]; exact hv s h
    · by_cases e : s = n
      · subst e
        rw [ek, gn, kpR, fro, er]
        refine ⟨up3_at, ?_⟩
        simp [up3]
      · rw [up3_ne (by omega), up3_ne (by omega)]; exact hi s (by omega)
