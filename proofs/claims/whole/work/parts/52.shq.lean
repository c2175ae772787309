/-! Acts over the shares -/
theorem xor_lt {a b : Nat} (ha : a < 512) (hb : b < 512) : a ^^^ b < 512 := Nat.xor_lt_two_pow (n := 9) ha hb
theorem p2_lt {p : Nat} (hp : p < 9) : 2 ^ p < 512 := (Nat.pow_lt_pow_right (by decide) hp : 2 ^ p < 2 ^ 9)
/-- the heirs that envy -/
def enI (t sh : Nat → Nat) (h e : Nat) : Nat → Nat
  | 0 => e
  | n + 1 => if val t h (sh n) ≤ val t h (sh h) then enI t sh h e n else enI t sh h e n ||| 2 ^ h
def enO (t sh : Nat → Nat) : Nat → Nat
  | 0 => 0
  | h + 1 => enI t sh h (enO t sh h) (t 2)
/-- the things that are whole -/
def woI (t sh : Nat → Nat) (x e : Nat) : Nat → Nat
  | 0 => e
  | n + 1 => if mem t x = 0 then woI t sh x e n else if dif (mem t x) (sh n) = 0 then woI t sh x e n ||| 2 ^ x else woI t sh x e n
def woO (t sh : Nat → Nat) : Nat → Nat
  | 0 => 0
  | x + 1 => woI t sh x (woO t sh x) (t 2)
theorem woI_0 {t sh : Nat → Nat} {x e : Nat} (h : mem t x = 0) : ∀ n, woI t sh x e n = e := by
  intro n
  induction n with
  | zero => rfl
  | succ n ih => rw [woI, if_pos h, ih]
/-- the sum of what all get -/
def suN (t sh : Nat → Nat) : Nat → Nat
  | 0 => 0
  | n + 1 => suN t sh n + val t n (sh n)
theorem suN_le {t sh : Nat → Nat} (hw : wfT t) : ∀ n, n ≤ 4 → suN t sh n ≤ 1782 * n := by
  intro n
  induction n with
  | zero => intro _; exact Nat.le_refl _
  | succ n ih => intro hn; have := ih (by omega); have := val_le hw (h := n) (by omega) (sh n); rw [suN]; omega
/-- the most parts of a set that one has -/
def mxN (sh : Nat → Nat) (m : Nat) : Nat → Nat
  | 0 => 0
  | n + 1 => if pop (m &&& sh n) ≤ mxN sh m n then mxN sh m n else pop (m &&& sh n)
theorem mxN_le (sh : Nat → Nat) (m n : Nat) : mxN sh m n ≤ 9 := by
  induction n with
  | zero => exact Nat.zero_le _
  | succ n ih => rw [mxN]; split; exact ih; exact pop_le _
/-- who has a part -/
def owL (sh : Nat → Nat) (p : Nat) : Nat → Nat
  | 0 => 0
  | n + 1 => if (sh n).testBit p = true then n else owL sh p n
def ow1 (sh : Nat → Nat) (p h n : Nat) : Prop := ∀ a, a < n → ∀ b, b < n → (sh a).testBit p = true → (sh b).testBit p = true → a = b
theorem owL_eq {sh : Nat → Nat} {p : Nat} : ∀ n, ow1 sh p 0 n → ∀ a, a < n → (sh a).testBit p = true → owL sh p n = a := by
  intro n
  induction n with
  | zero => intro _ a ha; exact absurd ha (Nat.not_lt_zero _)
  | succ n ih =>
    intro h1 a ha hb
    rw [owL]
    by_cases q : (sh n).testBit p = true
    · rw [if_pos q]; exact h1 n (by omega) a ha q hb
    · rw [if_neg q]
      refine ih (fun x hx y hy => h1 x (by omega) y (by omega)) a ?_ hb
      rcases Nat.lt_or_ge a n with z | z
      · exact z
      · exact absurd (by rw [show n = a by omega]; exact hb) q
theorem owL_0 {sh : Nat → Nat} {p : Nat} : ∀ n, (∀ a, a < n → ¬ (sh a).testBit p = true) → owL sh p n = 0 := by
  intro n
  induction n with
  | zero => intro _; rfl
  | succ n ih => intro h; rw [owL, if_neg (h n (by omega))]; exact ih (fun a ha => h a (by omega))
theorem owL_lt {sh : Nat → Nat} {p : Nat} : ∀ n, 0 < n → owL sh p n < n := by
  intro n
  induction n with
  | zero => intro h; exact absurd h (Nat.lt_irrefl _)
  | succ n ih =>
    intro _
    rw [owL]
    split
    · omega
    · rcases Nat.eq_zero_or_pos n with q | q
      · subst q; exact Nat.one_pos
      · have := ih q; omega
section SHC
variable {L : Nat} {M : Nat → Nat → Int32} {t sh : Nat → Nat} {z : Int32} {sp : Nat → Int32}
theorem k_envI (hE : rE M 2 t z sp) (hw : wfT t) (hg : ∀ x, x < 4 → M 21 x = nI (sh x)) (gs : ∀ x, sh x < 512) {h e : Nat} {v1 : Value} (hh : h < t 2) : ∀ (k n : Nat), n + k = t 2 → R 76 56 [.ref 1, v1, .ref 21, .int (nI (enI t sh h e n)), .int (nI h), .int (nI (val t h (sh h))), .int (nI n)] [] (SH L, M) = R 76 99 [.ref 1, v1, .ref 21, .int (nI (enI t sh h e (t 2))), .int (nI h), .int (nI (val t h (sh h))), .int (nI (t 2))] [] (SH L, M) := by
  have hH := hw.2.2.2.1
  have v1 := val_le hw (h := h) (by omega) (sh h)
  intro k
  induction k with
  | zero =>
    intro n hn
    rw [r76_56]
    simp (disch := omega) only [r76_58, r76_59, r76_62, r76_65, Option.bind_some, vtl_some, vtl_none, hE.p, hE.h, b2_eq0, ite_not2, nz1, nz0, n1z, n0z, if_true, if_false, nI_le'', show t 2 ≤ n from by omega]
    rw [show n = t 2 by omega]
  | succ k ih =>
    intro n hn
    have v2 := val_le hw (h := h) (by omega) (sh n)
    rw [r76_56]
    simp (disch := omega) only [r76_58, r76_59, r76_62, r76_65, r76_68, r76_69, r76_72, r76_74, r76_75, r76_77, r76_78, r76_81, r76_83, Option.bind_some, vtl_some, vtl_none, hE.p, hE.h, b2_eq0, ite_not2, nz1, nz0, n1z, n0z, if_true, if_false, nI_le'', show ¬ t 2 ≤ n from by omega, hg n, s_vto isE_2 hE hw (show h < 4 by omega) (gs n)]
    have := ih (n + 1) (by omega)
    rw [enI] at this
    by_cases q : val t h (sh n) ≤ val t h (sh h)
    · rw [if_pos q] at this
      simp (disch := omega) only [r76_93, r76_96, if_pos q, nI_add]
      exact this
    · rw [if_neg q] at this
      simp (disch := omega) only [r76_86, r76_87, r76_88, r76_90, r76_91, r76_92, r76_93, r76_96, if_neg q, nI_add, nI_shl1, nI_or]
      exact this
theorem k_envO (hE : rE M 2 t z sp) (hw : wfT t) (hg : ∀ x, x < 4 → M 21 x = nI (sh x)) (gs : ∀ x, sh x < 512) {v1 : Value} : ∀ (k n : Nat) (v5 v6 : Value), n + k = t 2 → R 76 26 [.ref 1, v1, .ref 21, .int (nI (enO t sh n)), .int (nI n), v5, v6] [] (SH L, M) = some (some (.int (nI (enO t sh (t 2)))), (SH L, M)) := by
  have hH := hw.2.2.2.1
  intro k
  induction k with
  | zero =>
    intro n v5 v6 hn
    rw [r76_26]
    simp (disch := omega) only [r76_28, r76_29, r76_32, r76_35, r76_105, r76_106, Option.bind_some, vtl_some, vtl_none, hE.p, hE.h, b2_eq0, ite_not2, nz1, nz0, n1z, n0z, if_true, if_false, nI_le'', show t 2 ≤ n from by omega]
    rw [show n = t 2 by omega]
  | succ k ih =>
    intro n v5 v6 hn
    rw [r76_26]
    simp (disch := omega) only [r76_28, r76_29, r76_32, r76_35, r76_38, r76_39, r76_42, r76_44, r76_45, r76_47, r76_48, r76_51, r76_53, r76_54, Option.bind_some, vtl_some, vtl_none, hE.p, hE.h, b2_eq0, ite_not2, nz1, nz0, n1z, n0z, if_true, if_false, nI_le'', show ¬ t 2 ≤ n from by omega, hg n, s_vto isE_2 hE hw (show n < 4 by omega) (gs n)]
    have ii := k_envI (L := L) hE hw hg gs (e := enO t sh n) (v1 := v1) (show n < t 2 by omega) (t 2) 0 (Nat.zero_add _)
    rw [enI] at ii
    rw [ii]
    simp (disch := omega) only [r76_99, r76_102, nI_add]
    exact ih (n + 1) _ _ (by omega)
theorem q_envI (hs : rS M t) (hw : wfT t) (hg : ∀ x, x < t 2 → M 47 x = nI (sh x)) (gs : ∀ x, sh x < 512) {h e : Nat} {v1 : Value} (hh : h < t 2) : ∀ (k n : Nat), n + k = t 2 → R 173 37 [.ref 36, v1, .int (nI (enI t sh h e n)), .int (nI h), .int (nI n)] [] (SH L, M) = R 173 90 [.ref 36, v1, .int (nI (enI t sh h e (t 2))), .int (nI h), .int (nI (t 2))] [] (SH L, M) := by
  have hH := hw.2.2.2.1
  have v1 := val_le hw (h := h) (by omega) (sh h)
  intro k
  induction k with
  | zero =>
    intro n hn
    rw [r173_37]
    simp (disch := omega) only [r173_39, r173_40, r173_43, r173_44, r173_45, Option.bind_some, vtl_some, vtl_none, hs 1, hs 2, b2_eq0, ite_not2, nz1, nz0, n1z, n0z, if_true, if_false, nI_le'', show t 2 ≤ n from by omega]
    rw [show n = t 2 by omega]
  | succ k ih =>
    intro n hn
    have v2 := val_le hw (h := h) (by omega) (sh n)
    rw [r173_37]
    simp (disch := omega) only [r173_39, r173_40, r173_43, r173_44, r173_45, r173_48, r173_49, r173_50, r173_51, r173_52, r173_55, r173_57, r173_58, r173_61, r173_62, r173_63, r173_64, r173_67, r173_68, r173_69, r173_72, r173_75, r173_76, r173_77, r173_78, r173_81, Option.bind_some, vtl_some, vtl_none, hs 1, hs 2, b2_eq0, ite_not2, nz1, nz0, n1z, n0z, if_true, if_false, nI_le'', show ¬ t 2 ≤ n from by omega, hg n, hg h, s_valueOf hs hw (show h < 4 by omega) (gs n), s_valueOf hs hw (show h < 4 by omega) (gs h), nI_shl1]
    have := ih (n + 1) (by omega)
    rw [enI] at this
    by_cases q : val t h (sh n) ≤ val t h (sh h)
    · rw [if_pos q] at this
      simp (disch := omega) only [r173_82, r173_83, r173_84, r173_87, if_pos q, nI_add, nI_or, Nat.or_zero]
      exact this
    · rw [if_neg q] at this
      simp (disch := omega) only [r173_82, r173_83, r173_84, r173_87, if_neg q, nI_add, nI_or]
      exact this
theorem q_envO (hs : rS M t) (hw : wfT t) (hg : ∀ x, x < t 2 → M 47 x = nI (sh x)) (gs : ∀ x, sh x < 512) {v1 : Value} : ∀ (k n : Nat) (v4 : Value), n + k = t 2 → R 173 24 [.ref 36, v1, .int (nI (enO t sh n)), .int (nI n), v4] [] (SH L, M) = some (some (.int (nI (enO t sh (t 2)))), (SH L, M)) := by
  have hH := hw.2.2.2.1
  intro k
  induction k with
  | zero =>
    intro n v4 hn
    rw [r173_24]
    simp (disch := omega) only [r173_25, r173_26, r173_29, r173_30, r173_31, r173_96, r173_97, Option.bind_some, vtl_some, vtl_none, hs 1, hs 2, b2_eq0, ite_not2, nz1, nz0, n1z, n0z, if_true, if_false, nI_le'', show t 2 ≤ n from by omega]
    rw [show n = t 2 by omega]
  | succ k ih =>
    intro n v4 hn
    rw [r173_24]
    simp (disch := omega) only [r173_25, r173_26, r173_29, r173_30, r173_31, r173_34, r173_35, Option.bind_some, vtl_some, vtl_none, hs 1, hs 2, b2_eq0, ite_not2, nz1, nz0, n1z, n0z, if_true, if_false, nI_le'', show ¬ t 2 ≤ n from by omega]
    have ii := q_envI (L := L) hs hw hg gs (e := enO t sh n) (v1 := v1) (show n < t 2 by omega) (t 2) 0 (Nat.zero_add _)
    rw [enI] at ii
    rw [ii]
    simp (disch := omega) only [r173_90, r173_93, nI_add]
    exact ih (n + 1) _ (by omega)
theorem k_woI (hE : rE M 2 t z sp) (hw : wfT t) (hg : ∀ x, x < 4 → M 21 x = nI (sh x)) (gs : ∀ x, sh x < 512) {x e : Nat} {v1 : Value} (hx : x < 5) : ∀ (k n : Nat), n + k = t 2 → R 77 47 [.ref 1, v1, .ref 21, .int (nI (woI t sh x e n)), .int (nI x), .int (nI (mem t x)), .int (nI n)] [] (SH L, M) = R 77 89 [.ref 1, v1, .ref 21, .int (nI (woI t sh x e (t 2))), .int (nI x), .int (nI (mem t x)), .int (nI (t 2))] [] (SH L, M) := by
  have hH := hw.2.2.2.1
  have hm := mem_lt x hw.2.1
  intro k
  induction k with
  | zero =>
    intro n hn
    rw [r77_47]
    simp (disch := omega) only [r77_49, r77_50, r77_53, r77_56, Option.bind_some, vtl_some, vtl_none, hE.p, hE.h, b2_eq0, ite_not2, nz1, nz0, n1z, n0z, if_true, if_false, nI_le'', show t 2 ≤ n from by omega]
    rw [show n = t 2 by omega]
  | succ k ih =>
    intro n hn
    have d1 : dif (mem t x) (sh n) < 2 ^ 31 := Nat.lt_of_le_of_lt (dif_le _ _) (by omega)
    rw [r77_47]
    simp (disch := omega) only [r77_49, r77_50, r77_53, r77_56, r77_59, r77_61, r77_64, r77_66, r77_67, r77_69, r77_70, r77_71, r77_72, r77_73, Option.bind_some, vtl_some, vtl_none, hE.p, hE.h, b2_eq0, ite_not2, nz1, nz0, n1z, n0z, if_true, if_false, nI_le'', show ¬ t 2 ≤ n from by omega, hg n, nI_dif, nI_eq0]
    have := ih (n + 1) (by omega)
    rw [woI] at this
    by_cases q : mem t x = 0
    · rw [if_pos q] at this ⊢
      simp (disch := omega) only [r77_83, r77_86, nI_add]
      exact this
    · rw [if_neg q] at this ⊢
      by_cases q2 : dif (mem t x) (sh n) = 0
      · rw [if_pos q2] at this ⊢
        simp (disch := omega) only [r77_76, r77_77, r77_78, r77_80, r77_81, r77_82, r77_83, r77_86, nI_add, nI_shl1, nI_or]
        exact this
      · rw [if_neg q2] at this ⊢
        simp (disch := omega) only [r77_83, r77_86, nI_add]
        exact this
theorem k_woO (hE : rE M 2 t z sp) (hw : wfT t) (hg : ∀ x, x < 4 → M 21 x = nI (sh x)) (gs : ∀ x, sh x < 512) {v1 : Value} : ∀ (k n : Nat) (v5 v6 : Value), n + k = 5 → R 77 26 [.ref 1, v1, .ref 21, .int (nI (woO t sh n)), .int (nI n), v5, v6] [] (SH L, M) = some (some (.int (nI (woO t sh 5))), (SH L, M)) := by
  have hme : ∀ x, x < 5 → M 4 x = nI (mem t x) := hE.me
  intro k
  induction k with
  | zero =>
    intro n v5 v6 hn
    rw [r77_26]
    simp (disch := omega) only [r77_28, r77_29, r77_95, r77_96, Option.bind_some, vtl_some, vtl_none, hE.p, hE.h, b2_eq0, ite_not2, nz1, nz0, n1z, n0z, if_true, if_false, nI_le'', show 5 ≤ n from by omega]
    rw [show n = 5 by omega]
  | succ k ih =>
    intro n v5 v6 hn
    rw [r77_26]
    simp (disch := omega) only [r77_28, r77_29, r77_32, r77_33, r77_36, r77_39, r77_41, r77_42, r77_44, r77_45, Option.bind_some, vtl_some, vtl_none, hE.p, hE.h, b2_eq0, ite_not2, nz1, nz0, n1z, n0z, if_true, if_false, nI_le'', show ¬ 5 ≤ n from by omega, hme n]
    have ii := k_woI (L := L) hE hw hg gs (e := woO t sh n) (v1 := v1) (show n < 5 by omega) (t 2) 0 (Nat.zero_add _)
    rw [woI] at ii
    rw [ii]
    simp (disch := omega) only [r77_89, r77_92, nI_add]
    exact ih (n + 1) _ _ (by omega)
theorem q_woI (hs : rS M t) (hw : wfT t) (hg : ∀ x, x < t 2 → M 47 x = nI (sh x)) (gs : ∀ x, sh x < 512) {x e : Nat} {v1 : Value} (hx : x < 5) : ∀ (k n : Nat), n + k = t 2 → ∃ v, R 174 39 [.ref 36, v1, .int (nI (woI t sh x e n)), .int (nI x), .int (nI (mem t x)), .int (nI n)] [] (SH L, M) = R 174 86 [.ref 36, v1, .int (nI (woI t sh x e (t 2))), .int (nI x), .int (nI (mem t x)), v] [] (SH L, M) := by
  have hH := hw.2.2.2.1
  have hm := mem_lt x hw.2.1
  intro k
  induction k with
  | zero =>
    intro n hn
    refine ⟨.int (nI n), ?_⟩
    rw [r174_39]
    simp (disch := omega) only [r174_41, r174_42, r174_45, r174_46, r174_47, Option.bind_some, vtl_some, vtl_none, hs 1, hs 2, b2_eq0, ite_not2, nz1, nz0, n1z, n0z, if_true, if_false, nI_le'', show t 2 ≤ n from by omega]
    rw [show n = t 2 by omega]
  | succ k ih =>
    intro n hn
    have d1 : dif (mem t x) (sh n) < 2 ^ 31 := Nat.lt_of_le_of_lt (dif_le _ _) (by omega)
    rw [r174_39]
    simp (disch := omega) only [r174_41, r174_42, r174_45, r174_46, r174_47, r174_50, r174_52, r174_55, r174_56, r174_58, r174_59, r174_62, r174_64, r174_65, r174_66, r174_67, r174_68, r174_71, r174_72, r174_73, r174_74, r174_77, Option.bind_some, vtl_some, vtl_none, hs 1, hs 2, b2_eq0, ite_not2, nz1, nz0, n1z, n0z, if_true, if_false, nI_le'', show ¬ t 2 ≤ n from by omega, hg n, nI_dif, nI_eq0, nI_shl1]
    have := ih (n + 1) (by omega)
    by_cases q : mem t x = 0
    · rw [if_pos q]
      exact ⟨.int (nI n), by rw [woI_0 q, woI_0 q]⟩
    · rw [woI, if_neg q] at this
      rw [if_neg q]
      by_cases q2 : dif (mem t x) (sh n) = 0
      · rw [if_pos q2] at this ⊢
        simp (disch := omega) only [r174_78, r174_79, r174_80, r174_83, nI_add, nI_or]
        exact this
      · rw [if_neg q2] at this ⊢
        simp (disch := omega) only [r174_78, r174_79, r174_80, r174_83, nI_add, nI_or, Nat.or_zero]
        exact this
theorem q_woO (hs : rS M t) (hw : wfT t) (hg : ∀ x, x < t 2 → M 47 x = nI (sh x)) (gs : ∀ x, sh x < 512) {v1 : Value} : ∀ (k n : Nat) (v4 v5 : Value), n + k = 5 → R 174 24 [.ref 36, v1, .int (nI (woO t sh n)), .int (nI n), v4, v5] [] (SH L, M) = some (some (.int (nI (woO t sh 5))), (SH L, M)) := by
  intro k
  induction k with
  | zero =>
    intro n v4 v5 hn
    rw [r174_24]
    simp (disch := omega) only [r174_25, r174_26, r174_92, r174_93, Option.bind_some, vtl_some, vtl_none, hs 1, hs 2, b2_eq0, ite_not2, nz1, nz0, n1z, n0z, if_true, if_false, nI_le'', show 5 ≤ n from by omega]
    rw [show n = 5 by omega]
  | succ k ih =>
    intro n v4 v5 hn
    rw [r174_24]
    simp (disch := omega) only [r174_25, r174_26, r174_29, r174_30, r174_31, r174_34, r174_36, r174_37, Option.bind_some, vtl_some, vtl_none, hs 1, hs 2, b2_eq0, ite_not2, nz1, nz0, n1z, n0z, if_true, if_false, nI_le'', show ¬ 5 ≤ n from by omega, s_partsOf hs hw (show n < 5 by omega)]
    obtain ⟨v, ii⟩ := q_woI (L := L) hs hw hg gs (e := woO t sh n) (v1 := v1) (show n < 5 by omega) (t 2) 0 (Nat.zero_add _)
    rw [woI] at ii
    rw [ii]
    simp (disch := omega) only [r174_86, r174_89, nI_add]
    exact ih (n + 1) _ _ (by omega)
theorem k_sum_l (hE : rE M 2 t z sp) (hw : wfT t) (hg : ∀ x, x < 4 → M 21 x = nI (sh x)) (gs : ∀ x, sh x < 512) : ∀ (k n : Nat), n + k = t 2 → R 115 4 [.ref 1, .int (nI (suN t sh n)), .int (nI n)] [] (SH L, M) = some (some (.int (nI (suN t sh (t 2)))), (SH L, M)) := by
  have hH := hw.2.2.2.1
  intro k
  induction k with
  | zero =>
    intro n hn
    rw [r115_4]
    simp (disch := omega) only [r115_0, r115_1, r115_2, r115_3, r115_5, r115_6, r115_9, r115_12, r115_15, r115_16, r115_17, r115_20, r115_21, r115_22, r115_25, r115_28, r115_29, r115_30, r115_33, r115_34, r115_35, r115_38, r115_41, r115_42, Option.bind_some, vtl_some, vtl_none, hE.p, hE.h, b2_eq0, ite_not2, nz1, nz0, n1z, n0z, if_true, if_false, nI_le'', show t 2 ≤ n from by omega]
    rw [show n = t 2 by omega]
  | succ k ih =>
    intro n hn
    rw [r115_4]
    simp (disch := omega) only [r115_0, r115_1, r115_2, r115_3, r115_5, r115_6, r115_9, r115_12, r115_15, r115_16, r115_17, r115_20, r115_21, r115_22, r115_25, r115_28, r115_29, r115_30, r115_33, r115_34, r115_35, r115_38, r115_41, r115_42, Option.bind_some, vtl_some, vtl_none, hE.p, hE.h, b2_eq0, ite_not2, nz1, nz0, n1z, n0z, if_true, if_false, nI_le'', show ¬ t 2 ≤ n from by omega, hg n, s_vto isE_2 hE hw (show n < 4 by omega) (gs n), nI_add]
    exact ih (n + 1) (by omega)
theorem k_sum (hE : rE M 2 t z sp) (hw : wfT t) (hg : ∀ x, x < 4 → M 21 x = nI (sh x)) (gs : ∀ x, sh x < 512) : R 115 0 [.ref 1, .null, .null] [] (SH L, M) = some (some (.int (nI (suN t sh (t 2)))), (SH L, M)) := by
  simp only [r115_0, r115_1, r115_2, r115_3, r115_5, r115_6, r115_9, r115_12, r115_15, r115_16, r115_17, r115_20, r115_21, r115_22, r115_25, r115_28, r115_29, r115_30, r115_33, r115_34, r115_35, r115_38, r115_41, r115_42]
  exact k_sum_l hE hw hg gs (t 2) 0 (Nat.zero_add _)
theorem sub_2 (x : Int32) (a b : Nat) : x - nI a - nI b = x - nI (a + b) := by
  rw [← nI_add, Int32.sub_eq_add_neg, Int32.sub_eq_add_neg, Int32.sub_eq_add_neg, Int32.neg_add, Int32.sub_eq_add_neg, ← Int32.add_assoc]
theorem q_lost_l (hs : rS M t) (hw : wfT t) (hg : ∀ x, x < t 2 → M 47 x = nI (sh x)) (gs : ∀ x, sh x < 512) {v1 : Value} {x : Int32} : ∀ (k n : Nat), n + k = t 2 → R 176 13 [.ref 36, v1, .int (x - nI (suN t sh n)), .int (nI n)] [] (SH L, M) = some (some (.int (x - nI (suN t sh (t 2)))), (SH L, M)) := by
  have hH := hw.2.2.2.1
  intro k
  induction k with
  | zero =>
    intro n hn
    rw [r176_13]
    simp (disch := omega) only [r176_0, r176_1, r176_2, r176_3, r176_6, r176_7, r176_10, r176_11, r176_12, r176_14, r176_15, r176_18, r176_19, r176_20, r176_23, r176_24, r176_25, r176_26, r176_27, r176_30, r176_31, r176_32, r176_35, r176_36, r176_37, r176_40, r176_43, r176_44, Option.bind_some, vtl_some, vtl_none, hs 1, hs 2, b2_eq0, ite_not2, nz1, nz0, n1z, n0z, if_true, if_false, nI_le'', show t 2 ≤ n from by omega]
    rw [show n = t 2 by omega]
  | succ k ih =>
    intro n hn
    rw [r176_13]
    simp (disch := omega) only [r176_0, r176_1, r176_2, r176_3, r176_6, r176_7, r176_10, r176_11, r176_12, r176_14, r176_15, r176_18, r176_19, r176_20, r176_23, r176_24, r176_25, r176_26, r176_27, r176_30, r176_31, r176_32, r176_35, r176_36, r176_37, r176_40, r176_43, r176_44, Option.bind_some, vtl_some, vtl_none, hs 1, hs 2, b2_eq0, ite_not2, nz1, nz0, n1z, n0z, if_true, if_false, nI_le'', show ¬ t 2 ≤ n from by omega, hg n, s_valueOf hs hw (show n < 4 by omega) (gs n), nI_add, sub_2]
    exact ih (n + 1) (by omega)
theorem q_lostNow (hs : rS M t) (hw : wfT t) (hg : ∀ x, x < t 2 → M 47 x = nI (sh x)) (gs : ∀ x, sh x < 512) {s : Nat} (hss : s < 512) : R 176 0 [.ref 36, .int (nI s), .null, .null] [] (SH L, M) = some (some (.int (nI (val t (dea t s) s) - nI (suN t sh (t 2)))), (SH L, M)) := by
  have hH := hw.2.2.2.1
  have hH1 := hw.2.2.1
  have hd : dea t s < 4 := by have := deaN_le t s (t 2 - 1); unfold dea; omega
  simp (disch := omega) only [r176_0, r176_1, r176_2, r176_3, r176_6, r176_7, r176_10, r176_11, r176_12, r176_14, r176_15, r176_18, r176_19, r176_20, r176_23, r176_24, r176_25, r176_26, r176_27, r176_30, r176_31, r176_32, r176_35, r176_36, r176_37, r176_40, r176_43, r176_44, Option.bind_some, vtl_some, vtl_none, hs 1, hs 2, b2_eq0, ite_not2, nz1, nz0, n1z, n0z, if_true, if_false, s_dearestOf hs hw hss, s_valueOf hs hw hd hss]
  have := q_lost_l (L := L) hs hw hg gs (v1 := .int (nI s)) (x := nI (val t (dea t s) s)) (t 2) 0 (Nat.zero_add _)
  rw [suN, nI_0, Int32.sub_zero] at this
  exact this
theorem k_bri_l (hE : rE M 2 t z sp) (hw : wfT t) (hg : ∀ x, x < 4 → M 21 x = nI (sh x)) (gs : ∀ x, sh x < 512) {m : Nat} {v1 : Value} (hm : m < 512) : ∀ (k n : Nat), n + k = t 2 → R 85 54 [.ref 1, v1, .int (nI m), .ref 21, .int (nI (mxN sh m n)), .int (nI n)] [] (SH L, M) = some (some (.int (nI (pop m) - nI (mxN sh m (t 2)))), (SH L, M)) := by
  have hH := hw.2.2.2.1
  intro k
  induction k with
  | zero =>
    intro n hn
    rw [r85_54]
    simp (disch := omega) only [r85_56, r85_57, r85_60, r85_63, r85_88, r85_89, r85_92, r85_94, r85_95, Option.bind_some, vtl_some, vtl_none, hE.p, hE.h, b2_eq0, ite_not2, nz1, nz0, n1z, n0z, if_true, if_false, nI_le'', show t 2 ≤ n from by omega, s_bitCount hm]
    rw [show n = t 2 by omega]
  | succ k ih =>
    intro n hn
    have x1 := mxN_le sh m n
    have x2 := pop_le (m &&& sh n)
    have x3 : m &&& sh n < 512 := Nat.lt_of_le_of_lt Nat.and_le_left hm
    rw [r85_54]
    simp (disch := omega) only [r85_56, r85_57, r85_60, r85_63, r85_66, r85_68, r85_69, r85_70, r85_72, r85_73, r85_74, r85_77, Option.bind_some, vtl_some, vtl_none, hE.p, hE.h, b2_eq0, ite_not2, nz1, nz0, n1z, n0z, if_true, if_false, nI_le'', show ¬ t 2 ≤ n from by omega, hg n, nI_and, s_bitCount x3, r232_0, r232_1, r232_2, r232_5, r232_6, r232_9, r232_10, nI_lt', mg_R]
    have e : (if mxN sh m n < pop (m &&& sh n) then nI (pop (m &&& sh n)) else nI (mxN sh m n)) = nI (mxN sh m (n + 1)) := by
      rw [mg_n, mxN]
      by_cases q : pop (m &&& sh n) ≤ mxN sh m n
      · rw [if_pos q, if_neg (by omega)]
      · rw [if_neg q, if_pos (by omega)]
    simp (disch := omega) only [r85_80, r85_82, r85_85, r232_0, r232_1, r232_2, r232_5, r232_6, r232_9, r232_10, Option.bind_some, vtl_some, vtl_none, hE.p, hE.h, b2_eq0, ite_not2, nz1, nz0, n1z, n0z, if_true, if_false, e, nI_add]
    exact ih (n + 1) (by omega)
theorem q_bri_l (hs : rS M t) (hw : wfT t) (hg : ∀ x, x < t 2 → M 47 x = nI (sh x)) (gs : ∀ x, sh x < 512) {m : Nat} {v1 : Value} (hm : m < 512) : ∀ (k n : Nat) (v5 : Value), n + k = t 2 → R 186 44 [.ref 36, v1, .int (nI m), .int (nI (mxN sh m n)), .int (nI n), v5] [] (SH L, M) = some (some (.int (nI (pop m) - nI (mxN sh m (t 2)))), (SH L, M)) := by
  have hH := hw.2.2.2.1
  intro k
  induction k with
  | zero =>
    intro n v5 hn
    rw [r186_44]
    simp (disch := omega) only [r186_46, r186_47, r186_50, r186_51, r186_52, r186_88, r186_89, r186_92, r186_93, r186_94, Option.bind_some, vtl_some, vtl_none, hs 1, hs 2, b2_eq0, ite_not2, nz1, nz0, n1z, n0z, if_true, if_false, nI_le'', show t 2 ≤ n from by omega, s_ones hm]
    rw [show n = t 2 by omega]
  | succ k ih =>
    intro n v5 hn
    have x1 := mxN_le sh m n
    have x2 := pop_le (m &&& sh n)
    have x3 : m &&& sh n < 512 := Nat.lt_of_le_of_lt Nat.and_le_left hm
    rw [r186_44]
    simp (disch := omega) only [r186_46, r186_47, r186_50, r186_51, r186_52, r186_55, r186_56, r186_57, r186_60, r186_62, r186_63, r186_64, r186_67, r186_69, r186_71, r186_72, r186_75, r186_77, r186_80, Option.bind_some, vtl_some, vtl_none, hs 1, hs 2, b2_eq0, ite_not2, nz1, nz0, n1z, n0z, if_true, if_false, nI_le'', show ¬ t 2 ≤ n from by omega, hg n, nI_and, s_ones x3, mg_R]
    have e : (if pop (m &&& sh n) ≤ mxN sh m n then nI (mxN sh m n) else nI (pop (m &&& sh n))) = nI (mxN sh m (n + 1)) := by rw [mg_n, mxN]
    rw [e]
    simp (disch := omega) only [r186_81, r186_82, r186_85, nI_add]
    exact ih (n + 1) _ (by omega)
theorem k_own_l (hE : rE M 2 t z sp) (hw : wfT t) (hg : ∀ x, x < 4 → M 21 x = nI (sh x)) (gs : ∀ x, sh x < 512) {p : Nat} (hp : p < 9) (h1 : ow1 sh p 0 (t 2)) : ∀ (k n : Nat), n + k = t 2 → (∀ a, a < n → ¬ (sh a).testBit p = true) → R 119 2 [.ref 1, .ref 21, .int (nI p), .int (nI n)] [] (SH L, M) = some (some (.int (nI (owL sh p (t 2)))), (SH L, M)) := by
  have hH := hw.2.2.2.1
  intro k
  induction k with
  | zero =>
    intro n hn hb
    rw [r119_2]
    simp (disch := omega) only [r119_0, r119_1, r119_3, r119_4, r119_7, r119_10, r119_13, r119_14, r119_15, r119_16, r119_17, r119_18, r119_19, r119_20, r119_21, r119_24, r119_25, r119_26, r119_29, r119_32, r119_33, Option.bind_some, vtl_some, vtl_none, hE.p, hE.h, b2_eq0, ite_not2, nz1, nz0, n1z, n0z, if_true, if_false, nI_le'', show t 2 ≤ n from by omega]
    rw [owL_0 (t 2) (fun a ha => hb a (by omega))]
  | succ k ih =>
    intro n hn hb
    have := gs n
    rw [r119_2]
    simp (disch := omega) only [r119_3, r119_4, r119_7, r119_10, r119_13, r119_14, r119_15, r119_16, r119_17, r119_18, r119_19, r119_20, r119_21, Option.bind_some, vtl_some, vtl_none, hE.p, hE.h, b2_eq0, ite_not2, nz1, nz0, n1z, n0z, if_true, if_false, nI_le'', show ¬ t 2 ≤ n from by omega, hg n, nI_bit]
    by_cases q : (sh n).testBit p = true
    · rw [if_pos q]
      simp only [r119_24, r119_25]
      rw [owL_eq (t 2) h1 n (by omega) q]
    · rw [if_neg q]
      simp only [r119_26, r119_29, nI_add]
      refine ih (n + 1) (by omega) (fun a ha => ?_)
      rcases Nat.lt_or_ge a n with y | y
      · exact hb a y
      · rw [show a = n by omega]; exact q
theorem k_own (hE : rE M 2 t z sp) (hw : wfT t) (hg : ∀ x, x < 4 → M 21 x = nI (sh x)) (gs : ∀ x, sh x < 512) {p : Nat} (hp : p < 9) (h1 : ow1 sh p 0 (t 2)) : R 119 0 [.ref 1, .ref 21, .int (nI p), .null] [] (SH L, M) = some (some (.int (nI (owL sh p (t 2)))), (SH L, M)) := by
  simp only [r119_0, r119_1]
  exact k_own_l hE hw hg gs hp h1 (t 2) 0 (Nat.zero_add _) (fun a ha => absurd ha (Nat.not_lt_zero _))
theorem q_own_l (hs : rS M t) (hw : wfT t) (hg : ∀ x, x < t 2 → M 47 x = nI (sh x)) (gs : ∀ x, sh x < 512) {p : Nat} (hp : p < 9) : ∀ (k n : Nat), n + k = t 2 → R 183 4 [.ref 36, .int (nI p), .int (nI (owL sh p n)), .int (nI n)] [] (SH L, M) = some (some (.int (nI (owL sh p (t 2)))), (SH L, M)) := by
  have hH := hw.2.2.2.1
  intro k
  induction k with
  | zero =>
    intro n hn
    rw [r183_4]
    simp (disch := omega) only [r183_0, r183_1, r183_2, r183_3, r183_5, r183_6, r183_9, r183_10, r183_11, r183_14, r183_15, r183_18, r183_19, r183_20, r183_21, r183_24, r183_27, r183_28, r183_31, r183_32, r183_33, r183_36, r183_39, r183_40, Option.bind_some, vtl_some, vtl_none, hs 1, hs 2, b2_eq0, ite_not2, nz1, nz0, n1z, n0z, if_true, if_false, nI_le'', show t 2 ≤ n from by omega]
    rw [show n = t 2 by omega]
  | succ k ih =>
    intro n hn
    have := gs n
    rw [r183_4]
    simp (disch := omega) only [r183_5, r183_6, r183_9, r183_10, r183_11, r183_14, r183_15, r183_18, r183_19, r183_20, r183_21, r183_24, r183_27, r183_28, r183_31, Option.bind_some, vtl_some, vtl_none, hs 1, hs 2, b2_eq0, ite_not2, nz1, nz0, n1z, n0z, if_true, if_false, nI_le'', show ¬ t 2 ≤ n from by omega, hg n, s_has, mg_R]
    have e : (if (sh n).testBit p = true then nI n else nI (owL sh p n)) = nI (owL sh p (n + 1)) := by rw [mg_n, owL]
    rw [e]
    simp only [r183_32, r183_33, r183_36, nI_add]
    exact ih (n + 1) (by omega)
theorem q_own (hs : rS M t) (hw : wfT t) (hg : ∀ x, x < t 2 → M 47 x = nI (sh x)) (gs : ∀ x, sh x < 512) {p : Nat} (hp : p < 9) : R 183 0 [.ref 36, .int (nI p), .null, .null] [] (SH L, M) = some (some (.int (nI (owL sh p (t 2)))), (SH L, M)) := by
  simp only [r183_0, r183_1, r183_2, r183_3]
  exact q_own_l hs hw hg gs hp (t 2) 0 (Nat.zero_add _)
end SHC
