/-! The reference's cuts -/
theorem cmp_mo {v m : Nat} (hv : v < 2 ^ 30) (hm : m < 2 ^ 30) : (nI v ≤ nI m - nI 1) = (v + 1 ≤ m) := by
  apply propext
  rw [Int32.le_iff_toInt_le, pk_sub_toInt hm (by decide), nI_toInt (by omega)]
  omega
theorem m1_lit : (-1 : Int32) = nI 0 - nI 1 := by decide +kernel
theorem s_isFrontTaken {L : Nat} {M : Nat → Nat → Int32} {pl f b x y : Nat} (hx : M 42 (512 * pl + f) = nI x) (hy : M 42 (512 * pl + b) = nI y) (h1 : 512 * pl + f < 2048) (h2 : 512 * pl + b < 2048) (hx2 : x < 2 ^ 31) (hy2 : y < 2 ^ 31) : R 158 0 [.ref 36, .int (nI pl), .int (nI f), .int (nI b)] [] (SH L, M) = some (some (.int (if y ≤ x then nI 1 else nI 0)), (SH L, M)) := by
  simp (disch := omega) only [r158_0, r158_1, r158_4, r158_7, r158_8, r158_9, r158_10, r158_11, r158_12, r158_13, r158_16, r158_19, r158_20, r158_21, r158_22, r158_23, r158_24, r158_27, r158_28, r158_31, r158_32_0, r158_32_1, pk_mul, nI_add, hx, hy, nI_lt', mg_s]
  congr 3
  by_cases h : x < y
  · rw [if_pos h, if_neg (by omega)]
  · rw [if_neg h, if_pos (by omega)]
def up3 (M : Nat → Nat → Int32) (w : Nat) (a b c : Int32) : Nat → Nat → Int32 := fun k j => if j = w then (if k = 42 then a else if k = 43 then b else if k = 44 then c else M k j) else M k j
theorem up3_ne {M : Nat → Nat → Int32} {w : Nat} {a b c : Int32} {k j : Nat} (h : j ≠ w) : up3 M w a b c k j = M k j := if_neg h
theorem up3_at {M : Nat → Nat → Int32} {w : Nat} {a b c : Int32} : up3 M w a b c 42 w = a := by simp [up3]
theorem up3_o {M : Nat → Nat → Int32} {w : Nat} {a b c : Int32} {k j : Nat} (h1 : k ≠ 42) (h2 : k ≠ 43) (h3 : k ≠ 44) : up3 M w a b c k j = M k j := by simp [up3, h1, h2, h3]
theorem up3_42 {M : Nat → Nat → Int32} {w : Nat} {a b c x : Int32} : upd2 (up3 M w a b c) 42 w x = up3 M w x b c := by
  funext k j
  unfold upd2 up3
  by_cases h : k = 42 <;> by_cases h2 : j = w <;> simp [h, h2]
theorem up3_43 {M : Nat → Nat → Int32} {w : Nat} {a b c x : Int32} : upd2 (up3 M w a b c) 43 w x = up3 M w a x c := by
  funext k j
  unfold upd2 up3
  by_cases h : k = 43 <;> by_cases h2 : j = w <;> simp [h, h2]
theorem up3_44 {M : Nat → Nat → Int32} {w : Nat} {a b c x : Int32} : upd2 (up3 M w a b c) 44 w x = up3 M w a b x := by
  funext k j
  unfold upd2 up3
  by_cases h : k = 44 <;> by_cases h2 : j = w <;> simp [h, h2]
theorem up3_0 {M : Nat → Nat → Int32} {w : Nat} {x : Int32} : upd2 M 42 w x = up3 M w x (M 43 w) (M 44 w) := by
  funext k j
  unfold upd2 up3
  by_cases h : k = 42 <;> by_cases h2 : j = w <;> by_cases h3 : k = 43 <;> by_cases h4 : k = 44 <;> simp [h, h2, h3, h4]
theorem pop512 (b : Nat) : 2 ^ pop b ≤ 512 := (Nat.pow_le_pow_right (by decide) (pop_le b) : 2 ^ pop b ≤ 2 ^ 9)
theorem dif_sub (s f : Nat) : dif s f &&& s = dif s f := by
  apply Nat.eq_of_testBit_eq
  intro i
  rw [Nat.testBit_and, dif_test]
  cases s.testBit i <;> cases f.testBit i <;> rfl
theorem s_cuts_l {L : Nat} {M : Nat → Nat → Int32} {pl s B m : Nat} {v g : Nat → Nat} (hpl : pl < 3) (hs : s < 512) (hB : ∀ a, a &&& s = a → a < B) (hB5 : B ≤ 512) (hv : ∀ a, a < B → M 41 (512 * pl + a) = nI (v a)) (hg : ∀ a, a < B → M 42 (512 * (pl + 1) + a) = nI (g a)) (hvm : ∀ a, a < 512 → v a ≤ m) (hgm : ∀ a, a < 512 → g a ≤ m) (hm : m < 100000) :
    ∀ (k j : Nat), j + k = 2 ^ pop (rst s) → ∀ (b c : Int32) (v8 v9 v10 v11 : Value), (0 < j → b = nI (bsN (fun f => v (kp g s f)) (lowb s) (rst s) j).2 ∧ c = nI (kp g s (bsN (fun f => v (kp g s f)) (lowb s) (rst s) j).2)) →
    R 159 34 [.ref 36, .int (nI pl), .int (nI s), .int (nI (512 * pl + s)), .int (nI (lowb s)), .int (nI (rst s)), .int (if k = 0 then nI 0 else nI 1), .int (nI (itn (rst s) j)), v8, v9, v10, v11] [] (SH L, up3 M (512 * pl + s) (nI (bsN (fun f => v (kp g s f)) (lowb s) (rst s) j).1 - nI 1) b c) = some (none, (SH L, up3 M (512 * pl + s) (nI (bsS (fun f => v (kp g s f)) s).1 - nI 1) (nI (bsS (fun f => v (kp g s f)) s).2) (nI (kp g s (bsS (fun f => v (kp g s f)) s).2)))) := by
  obtain ⟨l1, l2, l3, l4, l5⟩ := lowb_facts s hs
  have hn := pop512 (rst s)
  have hn0 : 0 < 2 ^ pop (rst s) := Nat.two_pow_pos _
  obtain ⟨-, f2, f3⟩ := it_facts l4
  intro k
  induction k with
  | zero =>
    intro j hj b c v8 v9 v10 v11 hbc
    obtain ⟨rfl, rfl⟩ := hbc (by omega)
    rw [if_pos rfl, r159_34, r159_36, if_pos nI_0, r159_152]
    rw [show j = 2 ^ pop (rst s) by omega]
    rfl
  | succ k ih =>
    intro j hj b c v8 v9 v10 v11 hbc
    have hj2 : j < 2 ^ pop (rst s) := by omega
    obtain ⟨i1, i2⟩ := it_sub l4 hj2
    have fs : (lowb s ||| itn (rst s) j) &&& s = lowb s ||| itn (rst s) j := by
      rw [Nat.and_or_distrib_right, l3]
      congr 1
      rw [← i1, Nat.and_assoc]
      exact congrArg (fun z => itn (rst s) j &&& z) (dif_sub s (lowb s))
    have fB := hB _ fs
    generalize hf : lowb s ||| itn (rst s) j = f at fs fB
    have bs := dif_sub s f
    have bB := hB _ bs
    have kB : kp g s f < B := by unfold kp; split <;> assumption
    have bv := (bsN_val hs (v := fun f => v (kp g s f)) (m := m) (fun a ha => hvm _ (kp_lt hs ha)) j (by omega)).1
    have vm := hvm (kp g s f) (by omega)
    have g1 := hgm f (by omega)
    have g2 := hgm (dif s f) (by omega)
    rw [if_neg (by omega), r159_34, r159_36, if_neg (by decide +kernel)]
    have r1 : up3 M (512 * pl + s) (nI (bsN (fun f => v (kp g s f)) (lowb s) (rst s) j).1 - nI 1) b c 42 (512 * (pl + 1) + f) = nI (g f) := by rw [up3_ne (by omega), hg f fB]
    have r2 : up3 M (512 * pl + s) (nI (bsN (fun f => v (kp g s f)) (lowb s) (rst s) j).1 - nI 1) b c 42 (512 * (pl + 1) + dif s f) = nI (g (dif s f)) := by rw [up3_ne (by omega), hg _ bB]
    simp (disch := omega) only [r159_39, r159_41, r159_43, r159_44, r159_46, r159_47, r159_49, r159_50, r159_51, r159_52, r159_54, r159_55, r159_56, r159_57, r159_58, r159_60, r159_62, r159_65, r159_68, r159_70, r159_73, nI_or, hf, nI_dif, nI_add, s_isFrontTaken r1 r2, Option.bind_some, vtl_some, b2_eq0, ite_not2, mg_R]
    have e1 : (if g (dif s f) ≤ g f then nI (dif s f) else nI f) = nI (kp g s f) := mg_n
    rw [e1]
    have nx : nI (itn (rst s) j) - nI (rst s) &&& nI (rst s) = nI (itn (rst s) (j + 1)) := nI_nxt (by omega)
    have more : (if nI (itn (rst s) (j + 1)) = 0 then nI 0 else nI 1) = if k = 0 then nI 0 else nI 1 := by
      by_cases hk : k = 0
      · rw [if_pos hk, show j + 1 = 2 ^ pop (rst s) by omega, f2, if_pos nI_0]
      · have h3 := f3 (j + 1) (by omega) (by omega)
        have h4 := (it_sub l4 (show j + 1 < 2 ^ pop (rst s) by omega)).2
        rw [if_neg hk, if_neg (by rw [nI_eq0 (by omega)]; exact h3)]
    simp (disch := omega) only [r159_75, r159_77, r159_78, r159_81, r159_84, r159_85, r159_86, r159_88, r159_89, r159_90, r159_92, r159_94, r159_95, r159_98, r159_99, r159_100, r159_103, r159_104, r159_107, r159_108, r159_110, r159_111, r159_112, r159_115, r159_116, r159_118, r159_119, r159_120, r159_123, r159_124, r159_126, pk_mul, nI_add, up3_o (k := 41), hv _ kB, up3_at, up3_42, up3_43, up3_44, cmp_mo]
    simp only [r159_127, r159_129, r159_131, r159_132, r159_134, r159_135, r159_137, r159_139, r159_142, r159_143, r159_146, nx, mg_R, more]
    simp only [r159_147, r159_149]
    by_cases hc : v (kp g s f) + 1 ≤ (bsN (fun f => v (kp g s f)) (lowb s) (rst s) j).1
    · rw [if_pos hc]
      have e2 : bsN (fun f => v (kp g s f)) (lowb s) (rst s) (j + 1) = bsN (fun f => v (kp g s f)) (lowb s) (rst s) j := by
        rw [bsN, hf, if_neg (by omega)]
      have hj0 : 0 < j := by
        rcases Nat.eq_zero_or_pos j with q | q
        · subst q
          have : (bsN (fun f => v (kp g s f)) (lowb s) (rst s) 0).1 = 0 := rfl
          omega
        · exact q
      have := ih (j + 1) (by omega) b c (.int (nI f)) (.int (nI (dif s f))) (.int (nI (kp g s f))) (.int (nI (v (kp g s f)))) (fun _ => by rw [e2]; exact hbc hj0)
      rw [e2] at this
      exact this
    · rw [if_neg hc]
      have e2 : bsN (fun f => v (kp g s f)) (lowb s) (rst s) (j + 1) = (v (kp g s f) + 1, f) := by
        rw [bsN, hf, if_pos (by omega)]
      have := ih (j + 1) (by omega) (nI f) (nI (kp g s f)) (.int (nI f)) (.int (nI (dif s f))) (.int (nI (kp g s f))) (.int (nI (v (kp g s f)))) (fun _ => by rw [e2]; exact ⟨rfl, rfl⟩)
      rw [e2] at this
      simp only at this
      rw [show nI (v (kp g s f) + 1) - nI 1 = nI (v (kp g s f)) from pk_sub (by omega)] at this
      exact this
theorem s_cuts {L : Nat} {M : Nat → Nat → Int32} {pl s B m : Nat} {v g : Nat → Nat} (hpl : pl < 3) (hs : s < 512) (hB : ∀ a, a &&& s = a → a < B) (hB5 : B ≤ 512) (hv : ∀ a, a < B → M 41 (512 * pl + a) = nI (v a)) (hg : ∀ a, a < B → M 42 (512 * (pl + 1) + a) = nI (g a)) (hvm : ∀ a, a < 512 → v a ≤ m) (hgm : ∀ a, a < 512 → g a ≤ m) (hm : m < 100000) :
    R 159 0 [.ref 36, .int (nI pl), .int (nI s), .null, .null, .null, .null, .null, .null, .null, .null, .null] [] (SH L, M) = some (none, (SH L, up3 M (512 * pl + s) (nI ((bsS (fun f => v (kp g s f)) s).1 - 1)) (nI (bsS (fun f => v (kp g s f)) s).2) (nI (kp g s (bsS (fun f => v (kp g s f)) s).2)))) := by
  obtain ⟨l1, l2, l3, l4, l5⟩ := lowb_facts s hs
  have hn0 : 0 < 2 ^ pop (rst s) := Nat.two_pow_pos _
  have bv := (bsN_val hs (v := fun f => v (kp g s f)) (m := m) (fun a ha => hvm _ (kp_lt hs ha)) (2 ^ pop (rst s)) (Nat.le_refl _)).2 hn0
  simp (disch := omega) only [r159_0, r159_3, r159_4, r159_5, r159_6, r159_7, r159_8, r159_9, r159_12, r159_13, r159_14, r159_15, r159_16, r159_17, r159_18, r159_19, r159_20, r159_22, r159_23, r159_25, r159_26, r159_28, r159_29, r159_31, r159_32, pk_mul, nI_add, low_sub, m1_lit, up3_0]
  rw [pk_sub l1, l2]
  have k := s_cuts_l (L := L) hpl hs hB hB5 hv hg hvm hgm hm (2 ^ pop (rst s)) 0 (Nat.zero_add _) (M 43 (512 * pl + s)) (M 44 (512 * pl + s)) .null .null .null .null (fun h => absurd h (Nat.lt_irrefl _))
  rw [if_neg (by omega)] at k
  refine k.trans ?_
  rw [pk_sub (show 1 ≤ (bsS (fun f => v (kp g s f)) s).1 from bv)]
