/-! The class divides: the best front, the tables -/
theorem sub_tr {a b c : Nat} (h1 : a &&& b = a) (h2 : b &&& c = b) : a &&& c = a := by rw [← h1, Nat.and_assoc, h2]
theorem sub_le {a b : Nat} (h : a &&& b = a) : a ≤ b := by rw [← h]; exact Nat.and_le_right
theorem sub_or {a b c : Nat} (h1 : a &&& c = a) (h2 : b &&& c = b) : (a ||| b) &&& c = a ||| b := by rw [Nat.and_or_distrib_right, h1, h2]
theorem rst_sub (s : Nat) : rst s &&& s = rst s := dif_sub s (lowb s)
theorem kp_sub {g : Nat → Nat} {s f : Nat} (hf : f &&& s = f) : kp g s f &&& s = kp g s f := by
  unfold kp
  split
  · exact dif_sub s f
  · exact hf
theorem bsN_sub {v : Nat → Nat} {s : Nat} (hs : s < 512) : ∀ j, j ≤ 2 ^ pop (rst s) → (bsN v (lowb s) (rst s) j).2 &&& s = (bsN v (lowb s) (rst s) j).2 := by
  obtain ⟨h1, h2, h3, h4, h5⟩ := lowb_facts s hs
  intro j
  induction j with
  | zero => intro _; exact h3
  | succ j ih =>
    intro hj
    rw [bsN]
    have hi := (it_sub h4 (show j < 2 ^ pop (rst s) by omega)).1
    split
    · exact sub_or h3 (sub_tr hi (rst_sub s))
    · exact ih (by omega)
theorem bsN_at {v : Nat → Nat} {lo re : Nat} : ∀ j, 0 < j → (bsN v lo re j).1 = v (bsN v lo re j).2 + 1 := by
  intro j
  induction j with
  | zero => intro h; exact absurd h (Nat.lt_irrefl _)
  | succ j ih =>
    intro _
    rw [bsN]
    split
    · rfl
    · rename_i h
      rcases Nat.eq_zero_or_pos j with q | q
      · subst q
        exfalso
        apply h
        show 0 < _
        omega
      · exact ih q
theorem bsS_at {v : Nat → Nat} {s : Nat} : (bsS v s).1 = v (bsS v s).2 + 1 := bsN_at _ (Nat.two_pow_pos _)
section CDIV
variable {L : Nat} {M : Nat → Nat → Int32}
theorem s_nextWithin {a b : Nat} {w : vW} (hb : b < 2 ^ 31) : R 11 0 [.int (nI a), .int (nI b)] [] w = some (some (.int (nI (nxt a b))), w) := by
  simp only [r11_0, r11_1, r11_2, r11_3, r11_4, r11_5, nI_nxt hb]
theorem s_prefersBack {k f b x y : Nat} (hx : M 19 (k * 512 + f) = nI x) (hy : M 19 (k * 512 + b) = nI y) (h1 : k * 512 + f < 2048) (h2 : k * 512 + b < 2048) (hx2 : x < 2 ^ 31) (hy2 : y < 2 ^ 31) : R 14 0 [.ref 17, .int (nI k), .int (nI f), .int (nI b)] [] (SH L, M) = some (some (.int (if y ≤ x then nI 0 else nI 1)), (SH L, M)) := by
  simp (disch := omega) only [r14_0, r14_1, r14_4, r14_5, r14_8, r14_9, r14_10, r14_11, r14_12, r14_13, r14_16, r14_17, r14_20, r14_21, r14_22, r14_23, r14_24, r14_27, r14_28, r14_31, r14_32_0, r14_32_1, pk_mul, nI_add, hx, hy, nI_le'', mg_s]
theorem s_valueLeft {k s f o m : Nat} {v g : Nat → Nat} (hk : k < 3) (hs : s < 512) (hf : f &&& s = f) (ho : o < 4) (hr : M 20 (k + 1) = nI o) (hv : ∀ a, a &&& s = a → M 18 (o * 512 + a) = nI (v a)) (hg : ∀ a, a &&& s = a → M 19 (k * 512 + a) = nI (g a)) (hgm : ∀ a, a < 512 → g a ≤ m) (hm : m < 100000) : R 13 0 [.ref 17, .int (nI (k + 1)), .int (nI s), .int (nI f), .null, .null] [] (SH L, M) = some (some (.int (nI (v (kp g s f)))), (SH L, M)) := by
  have f1 := sub_le hf
  have b1 := dif_le s f
  have g1 := hgm f (by omega)
  have g2 := hgm (dif s f) (by omega)
  have k1 : kp g s f ≤ s := sub_le (kp_sub hf)
  simp (disch := omega) only [r13_0, r13_1, r13_2, r13_3, r13_4, r13_5, r13_7, r13_8, r13_9, r13_10, r13_11, r13_12, r13_14, r13_17, r13_20, r13_21, r13_24, nI_dif, pk_sub (show 1 ≤ k + 1 by omega), Nat.add_sub_cancel, s_prefersBack (hg f hf) (hg _ (dif_sub s f)), Option.bind_some, vtl_some, c2_eq0, mg_R]
  have e1 : (if g (dif s f) ≤ g f then nI (dif s f) else nI f) = nI (kp g s f) := mg_n
  rw [e1]
  simp (disch := omega) only [r13_26, r13_28, r13_29, r13_32, r13_33, r13_36, r13_37, r13_38, r13_41, r13_42, r13_44, r13_45, r13_46, hr, pk_mul, nI_add, hv _ (kp_sub hf)]
theorem s_bestFront_l {k s o m : Nat} {v g : Nat → Nat} (hk : k < 3) (hs : s < 512) (ho : o < 4) (hv : ∀ a, a &&& s = a → M 18 (o * 512 + a) = nI (v a)) (hg : ∀ a, a &&& s = a → M 19 (k * 512 + a) = nI (g a)) (hvm : ∀ a, a < 512 → v a ≤ m) (hgm : ∀ a, a < 512 → g a ≤ m) (hm : m < 100000) :
    ∀ (n j : Nat), j + n = 2 ^ pop (rst s) → ∀ (v12 v13 v14 : Value), R 12 56 [.ref 17, .int (nI (k + 1)), .int (nI s), .int (nI (o * 512)), .int (nI (k * 512)), .int (nI (lowb s)), .int (nI (rst s)), .int (nI (2 ^ pop (rst s))), .int (nI (bsN (fun f => v (kp g s f)) (lowb s) (rst s) j).1 - nI 1), .int (nI (bsN (fun f => v (kp g s f)) (lowb s) (rst s) j).2), .int (nI (itn (rst s) j)), .int (nI j), v12, v13, v14] [] (SH L, M) = some (some (.int (nI (bsS (fun f => v (kp g s f)) s).2)), (SH L, M)) := by
  obtain ⟨l1, l2, l3, l4, l5⟩ := lowb_facts s hs
  have hn := pop512 (rst s)
  intro n
  induction n with
  | zero =>
    intro j hj v12 v13 v14
    rw [r12_56]
    simp (disch := omega) only [r12_58, r12_60, r12_148, r12_150, nI_le'', show 2 ^ pop (rst s) ≤ j from by omega, if_true]
    rw [show j = 2 ^ pop (rst s) by omega]
    rfl
  | succ n ih =>
    intro j hj v12 v13 v14
    have hj2 : j < 2 ^ pop (rst s) := by omega
    obtain ⟨i1, i2⟩ := it_sub l4 hj2
    have fs : (lowb s ||| itn (rst s) j) &&& s = lowb s ||| itn (rst s) j := sub_or l3 (sub_tr i1 (rst_sub s))
    have eb : dif (rst s) (itn (rst s) j) = dif s (lowb s ||| itn (rst s) j) := dif_or _ _ _
    generalize hf : lowb s ||| itn (rst s) j = f at fs eb
    have bs := dif_sub s f
    have f1 := sub_le fs
    have b1 := sub_le bs
    have k1 := sub_le (kp_sub (g := g) fs)
    have bv := (bsN_val hs (v := fun f => v (kp g s f)) (m := m) (fun a ha => hvm _ (kp_lt hs ha)) j (by omega)).1
    have vm := hvm (kp g s f) (by omega)
    have g1 := hgm f (by omega)
    have g2 := hgm (dif s f) (by omega)
    rw [r12_56]
    simp (disch := omega) only [r12_58, r12_60, nI_le'', show ¬ 2 ^ pop (rst s) ≤ j from by omega, if_false]
    simp (disch := omega) only [r12_63, r12_65, r12_67, r12_68, r12_70, r12_72, r12_74, r12_75, r12_76, r12_77, r12_79, r12_80, r12_83, r12_84, r12_85, r12_88, r12_90, r12_92, r12_93, r12_94, r12_95, r12_98, r12_100, r12_102, r12_103, r12_104, r12_107, r12_109, r12_112, nI_or, hf, nI_dif, eb, nI_add, hg f fs, hg _ bs, nI_le'', mg_R]
    have e1 : (if g (dif s f) ≤ g f then nI (dif s f) else nI f) = nI (kp g s f) := mg_n
    rw [e1]
    simp (disch := omega) only [r12_114, r12_115, r12_116, r12_118, r12_120, r12_122, nI_add, hv _ (kp_sub fs), cmp_mo]
    have nx : itn (rst s) (j + 1) = nxt (itn (rst s) j) (rst s) := rfl
    by_cases hc : v (kp g s f) + 1 ≤ (bsN (fun f => v (kp g s f)) (lowb s) (rst s) j).1
    · rw [if_pos hc]
      have e2 : bsN (fun f => v (kp g s f)) (lowb s) (rst s) (j + 1) = bsN (fun f => v (kp g s f)) (lowb s) (rst s) j := by
        rw [bsN, hf, if_neg (by omega)]
      simp (disch := omega) only [r12_133, r12_135, r12_137, r12_140, r12_142, r12_145, s_nextWithin, Option.bind_some, vtl_some, nI_add]
      have := ih (j + 1) (by omega) (.int (nI f)) (.int (nI (dif s f))) (.int (nI (v (kp g s f))))
      rw [e2, nx] at this
      exact this
    · rw [if_neg hc]
      have e2 : bsN (fun f => v (kp g s f)) (lowb s) (rst s) (j + 1) = (v (kp g s f) + 1, f) := by
        rw [bsN, hf, if_pos (by omega)]
      simp (disch := omega) only [r12_125, r12_127, r12_129, r12_131, r12_133, r12_135, r12_137, r12_140, r12_142, r12_145, s_nextWithin, Option.bind_some, vtl_some, nI_add]
      have := ih (j + 1) (by omega) (.int (nI f)) (.int (nI (dif s f))) (.int (nI (v (kp g s f))))
      rw [e2, nx] at this
      simp only at this
      rw [show nI (v (kp g s f) + 1) - nI 1 = nI (v (kp g s f)) from pk_sub (by omega)] at this
      exact this
theorem s_bestFront {k s o m : Nat} {v g : Nat → Nat} (hk : k < 3) (hs : s < 512) (ho : o < 4) (hr : M 20 (k + 1) = nI o) (hv : ∀ a, a &&& s = a → M 18 (o * 512 + a) = nI (v a)) (hg : ∀ a, a &&& s = a → M 19 (k * 512 + a) = nI (g a)) (hvm : ∀ a, a < 512 → v a ≤ m) (hgm : ∀ a, a < 512 → g a ≤ m) (hm : m < 100000) :
    R 12 0 [.ref 17, .int (nI (k + 1)), .int (nI s), .null, .null, .null, .null, .null, .null, .null, .null, .null, .null, .null, .null] [] (SH L, M) = some (some (.int (nI (bsS (fun f => v (kp g s f)) s).2)), (SH L, M)) := by
  obtain ⟨l1, l2, l3, l4, l5⟩ := lowb_facts s hs
  have hpo := pop_le (rst s)
  simp (disch := omega) only [r12_0, r12_1, r12_4, r12_5, r12_6, r12_9, r12_10, r12_11, r12_12, r12_13, r12_14, r12_17, r12_18, r12_20, r12_21, r12_22, r12_23, r12_24, r12_26, r12_27, r12_29, r12_30, r12_31, r12_32, r12_34, r12_35, r12_37, r12_40, r12_41, r12_43, r12_44, r12_46, r12_48, r12_50, r12_51, r12_53, r12_54, hr, pk_mul, nI_add, pk_sub (show 1 ≤ k + 1 by omega), Nat.add_sub_cancel, low_neg, nI_dif, show dif s (lowb s) = rst s from rfl, s_bitCount l4, Option.bind_some, vtl_some, nI_shl1]
  rw [m1_lit]
  exact s_bestFront_l hk hs ho hv hg hvm hgm hm _ 0 (Nat.zero_add _) .null .null .null
/-- the values' table, the gains' table of a row -/
def TV (M : Nat → Nat → Int32) (V : Nat → Nat → Nat) (H cv : Nat) : Prop := ∀ h, h < H → ∀ s, s &&& cv = s → M 18 (h * 512 + s) = nI (V h s)
def TG (M : Nat → Nat → Int32) (V : Nat → Nat → Nat) (r : Nat → Nat) (cv k : Nat) : Prop := ∀ s, s &&& cv = s → M 19 (k * 512 + s) = nI (gn V r k s)
theorem s_tellGains_l {V : Nat → Nat → Nat} {r : Nat → Nat} {H cv m k : Nat} (hcv : cv < 512) (hk : k < 4) (hH : H ≤ 4) (hr : ∀ i, i ≤ k → M 20 i = nI (r i) ∧ r i < H) (hc : M 17 6 = nI cv) (hV : TV M V H cv) (hVm : ∀ i s, i ≤ k → s < 512 → V (r i) s ≤ m) (hm : m < 100000) (hG : ∀ j, j < k → TG M V r cv j) (hgm : ∀ j s, j < k → s < 512 → gn V r j s ≤ m) :
    ∀ (n j : Nat) (M1 : Nat → Nat → Int32), j + n = 2 ^ pop cv → (∀ b i, (b ≠ 19 ∨ (i < k * 512 ∨ k * 512 + 512 ≤ i)) → M1 b i = M b i) → (∀ i, i < j → M1 19 (k * 512 + itn cv i) = nI (gn V r k (itn cv i))) → ∃ M', R 10 15 [.ref 17, .int (nI k), .int (nI (2 ^ pop cv)), .int (nI (itn cv j)), .int (nI j)] [] (SH L, M1) = some (none, (SH L, M')) ∧ (∀ b i, (b ≠ 19 ∨ (i < k * 512 ∨ k * 512 + 512 ≤ i)) → M' b i = M b i) ∧ TG M' V r cv k := by
  have hn := pop512 cv
  intro n
  induction n with
  | zero =>
    intro j M1 hj hf hi
    refine ⟨M1, ?_, hf, fun s hs => ?_⟩
    · rw [r10_15]
      simp (disch := omega) only [r10_17, r10_18, r10_84, nI_le'', show 2 ^ pop cv ≤ j from by omega, if_true]
    · obtain ⟨i, i1, i2⟩ := it_all hcv hs
      have := hi i (by omega)
      rw [i2] at this
      exact this
  | succ n ih =>
    intro j M1 hj hf hi
    obtain ⟨i1, i2⟩ := it_sub hcv (show j < 2 ^ pop cv by omega)
    have hc1 : M1 17 6 = nI cv := by rw [hf 17 6 (Or.inl (by omega))]; exact hc
    have nx : itn cv (j + 1) = nxt (itn cv j) cv := rfl
    generalize hs : itn cv j = s at i1 i2 nx
    have key : R 10 32 [.ref 17, .int (nI k), .int (nI (2 ^ pop cv)), .int (nI s), .int (nI j)] [.int (nI (k * 512 + s)), .ref 19] (SH L, M1) = R 10 68 [.ref 17, .int (nI k), .int (nI (2 ^ pop cv)), .int (nI s), .int (nI j)] [.int (nI (gn V r k s)), .int (nI (k * 512 + s)), .ref 19] (SH L, M1) := by
      rcases Nat.eq_zero_or_pos k with q | q
      · subst q
        have e1 : M1 20 0 = nI (r 0) := by rw [hf 20 0 (Or.inl (by omega))]; exact (hr 0 (Nat.le_refl _)).1
        have e2 := (hr 0 (Nat.le_refl _)).2
        have e3 : M1 18 (r 0 * 512 + s) = nI (V (r 0) s) := by rw [hf 18 _ (Or.inl (by omega))]; exact hV _ e2 s i1
        simp (disch := omega) only [r10_32, r10_33, r10_36, r10_37, r10_40, r10_41, r10_44, r10_45, r10_46, r10_49, r10_50, r10_51, r10_52, r10_53, nI_eq0, if_true, e1, pk_mul, nI_add, e3]
        rfl
      · obtain ⟨q', rfl⟩ : ∃ q', k = q' + 1 := ⟨k - 1, by omega⟩
        have e1 : M1 20 (q' + 1) = nI (r (q' + 1)) := by rw [hf 20 _ (Or.inl (by omega))]; exact (hr _ (Nat.le_refl _)).1
        have e2 := (hr (q' + 1) (Nat.le_refl _)).2
        have e3 : ∀ a, a &&& s = a → M1 18 (r (q' + 1) * 512 + a) = nI (V (r (q' + 1)) a) := fun a ha => by rw [hf 18 _ (Or.inl (by omega))]; exact hV _ e2 a (sub_tr ha i1)
        have e4 : ∀ a, a &&& s = a → M1 19 (q' * 512 + a) = nI (gn V r q' a) := fun a ha => by
          have := sub_le ha
          rw [hf 19 _ (Or.inr (by omega))]; exact hG q' (by omega) a (sub_tr ha i1)
        have bf := s_bestFront (L := L) (k := q') (s := s) (by omega) (by omega) (by omega) e1 e3 e4 (fun a ha => hVm _ a (Nat.le_refl _) ha) (fun a ha => hgm q' a (by omega) ha) hm
        have fs := bsN_sub (v := fun f => V (r (q' + 1)) (kp (gn V r q') s f)) (show s < 512 by omega) (2 ^ pop (rst s)) (Nat.le_refl _)
        have vl := s_valueLeft (L := L) (M := M1) (k := q') (s := s) (by omega) (by omega) fs (show r (q' + 1) < 4 by omega) e1 e3 e4 (fun a ha => hgm q' a (by omega) ha) hm
        have bf' : R 12 0 [.ref 17, .int (nI (q' + 1)), .int (nI s), .null, .null, .null, .null, .null, .null, .null, .null, .null, .null, .null, .null] [] (SH L, M1) = some (some (.int (nI (bsN (fun f => V (r (q' + 1)) (kp (gn V r q') s f)) (lowb s) (rst s) (2 ^ pop (rst s))).2)), (SH L, M1)) := bf
        simp (disch := omega) only [r10_32, r10_33, r10_56, r10_57, r10_58, r10_59, r10_60, r10_61, r10_62, r10_65, nI_eq0, show ¬ (q' + 1 = 0) from by omega, if_false, bf', vl, Option.bind_some, vtl_some]
        have := bsS_at (v := fun f => V (r (q' + 1)) (kp (gn V r q') s f)) (s := s)
        have e9 : gn V r (q' + 1) s = V (r (q' + 1)) (kp (gn V r q') s (bsS (fun f => V (r (q' + 1)) (kp (gn V r q') s f)) s).2) := by
          show (bsS (fun f => V (r (q' + 1)) (kp (gn V r q') s f)) s).1 - 1 = _
          rw [this]
          rfl
        rw [e9]
        rfl
    rw [r10_15]
    simp (disch := omega) only [r10_17, r10_18, r10_21, r10_22, r10_25, r10_26, r10_29, r10_30, r10_31, nI_le'', show ¬ 2 ^ pop cv ≤ j from by omega, if_false, pk_mul, nI_add]
    rw [key]
    have hc2 : upd2 M1 19 (k * 512 + s) (nI (gn V r k s)) 17 6 = nI cv := by rw [upd2_ne (Or.inl (by omega))]; exact hc1
    simp (disch := omega) only [r10_68, r10_69, r10_70, r10_71, r10_74, r10_77, r10_78, r10_81, hc2, s_nextWithin, Option.bind_some, vtl_some, nI_add]
    have := ih (j + 1) (upd2 M1 19 (k * 512 + s) (nI (gn V r k s))) (by omega) (fun b i h => by rw [upd2_ne (by omega)]; exact hf b i h) (fun i h => by
      by_cases e : itn cv i = s
      · rw [e, upd2_eq]
      · rw [upd2_ne (Or.inr (by omega))]
        rcases Nat.lt_or_ge i j with z | z
        · exact hi i z
        · exact absurd (by rw [show i = j by omega]; exact hs) e)
    rw [nx] at this
    exact this
theorem s_tellGains {V : Nat → Nat → Nat} {r : Nat → Nat} {H cv m k : Nat} (hcv : cv < 512) (hk : k < 4) (hH : H ≤ 4) (hr : ∀ i, i ≤ k → M 20 i = nI (r i) ∧ r i < H) (hc : M 17 6 = nI cv) (hV : TV M V H cv) (hVm : ∀ i s, i ≤ k → s < 512 → V (r i) s ≤ m) (hm : m < 100000) (hG : ∀ j, j < k → TG M V r cv j) (hgm : ∀ j s, j < k → s < 512 → gn V r j s ≤ m) :
    ∃ M', R 10 0 [.ref 17, .int (nI k), .null, .null, .null] [] (SH L, M) = some (none, (SH L, M')) ∧ (∀ b i, (b ≠ 19 ∨ (i < k * 512 ∨ k * 512 + 512 ≤ i)) → M' b i = M b i) ∧ TG M' V r cv k := by
  have hpo := pop_le cv
  simp (disch := omega) only [r10_0, r10_1, r10_2, r10_5, r10_8, r10_9, r10_10, r10_11, r10_12, r10_13, hc, s_bitCount hcv, Option.bind_some, vtl_some, nI_shl1]
  exact s_tellGains_l hcv hk hH hr hc hV hVm hm hG hgm _ 0 M (Nat.zero_add _) (fun _ _ _ => rfl) (fun i h => absurd h (Nat.not_lt_zero _))
end CDIV
