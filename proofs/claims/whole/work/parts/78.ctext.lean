/-! text, whole -/
section CTX
variable {L : Nat} {M : Nat → Nat → Int32} {n : Nat} {b : Nat → Nat} {t : Nat → Nat} {z : Int32} {sp : Nat → Int32} {c : Nat}
theorem IV_text (h : IV M t z sp c) {N : Nat → Nat → Int32} {t' : Nat → Nat} {c' : Nat} (g : ∀ k, (k = 1 ∨ (7 ≤ k ∧ k ≤ 11) ∨ (31 ≤ k ∧ k ≤ 34) ∨ k = 38 ∨ k = 40 ∨ (51 ≤ k ∧ k ≤ 53)) → N k = M k) (g4 : N 36 4 = M 36 4) (hw' : wfT t') (hO' : wfO t') (le : t 1 ≤ t' 1) (E : rE N 2 t' z sp) (Q : rQ N 37 t' z sp) (h9 : N 2 9 = nI c') (hb : c' < 50000000) (hD : DI N t' c') (t1 : N 24 1 = nI 0) (t2 : N 36 14 = nI 0) : IV N t' z sp c' := by
  obtain ⟨hw, hsp, hE, hQ, -, hF, hK, hT, hH⟩ := h
  refine ⟨⟨hw', hO'⟩, fun i hi => ?_, E, Q, ⟨h9, hb, hD⟩, fun i hi => by rw [g 34 (by omega), g 40 (by omega)]; exact hF i hi, RK_eq hK (g 1 (by omega)) g4 (fun k hk => g k (by omega)) (g 38 (by omega)), ⟨0, fun _ => 0, Nat.zero_le _, t1, t2, fun i hi => absurd hi (Nat.not_lt_zero _)⟩, RH_eq hH (g 31 (by omega)) (g 32 (by omega)) (g 33 (by omega)) (g 51 (by omega)) (g 52 (by omega)) (g 53 (by omega))⟩
  rcases hsp i hi with y | ⟨k, hk, e⟩
  · exact Or.inl y
  · exact Or.inr ⟨k, by omega, e⟩
theorem neg_lt : ∀ p, p < 121 → (((-1 : Int32) - nI p < 0) = True) := by
  have : ∀ p, p < 121 → ((-1 : Int32) - nI p < 0) := by decide +kernel
  exact fun p hp => eq_true (this p hp)
theorem q_text_0 {N : Nat → Nat → Int32} (hB : BT N 49 n b) (h14 : N 36 14 = nI n) (hq : rQ N 37 t z sp) (hw : wfT t) (hO : wfO t) : ∃ N', R 212 0 [.ref 36, .null] [] (SH L, N) = some (some (.int (if (pT n b 120 0 (skp n b 0) t).1 = true then nI (pT n b 120 0 (skp n b 0) t).2.2.1 else (-1) - nI (pT n b 120 0 (skp n b 0) t).2.1)), (SH L, N')) ∧ (∀ k i, k ≠ 37 → k ≠ 39 → k ≠ 50 → (k ≠ 36 ∨ i < 14 ∨ 18 < i) → N' k i = N k i) ∧ N' 36 14 = nI 0 ∧ rQ N' 37 (if (pT n b 120 0 (skp n b 0) t).1 = true then (pT n b 120 0 (skp n b 0) t).2.2.2 else t) z sp := by
  have s0 := skp_b (n := n) (b := b) (p := 0) (Nat.zero_le _)
  have sv := q_saves (L := L) (M := N)
  have fs : ∀ k, k ≠ 39 → cpN N 39 37 91 k = N k := fun k hk => cpN_o hk
  have q39 : rQ (cpN N 39 37 91) 39 t z sp := rQ_cp hq
  have q37 : rQ (cpN N 39 37 91) 37 t z sp := by unfold rQ; rw [fs 37 (by omega)]; exact hq
  generalize cpN N 39 37 91 = N1 at sv fs q39 q37
  have g3 : ∀ k i, (k ≠ 36 ∨ (i ≠ 16 ∧ i ≠ 18)) → upd2 (upd2 N1 36 16 (nI 0)) 36 18 (nI 0) k i = N1 k i := fun k i hk => by rw [upd2_ne (by omega), upd2_ne (by omega)]
  have g16 : upd2 (upd2 N1 36 16 (nI 0)) 36 18 (nI 0) 36 16 = nI 0 := by rw [upd2_ne (by omega), upd2_eq]
  have g18 : upd2 (upd2 N1 36 16 (nI 0)) 36 18 (nI 0) 36 18 = nI 0 := upd2_eq
  have B3 : BT (upd2 (upd2 N1 36 16 (nI 0)) 36 18 (nI 0)) 49 n b := ⟨hB.1, fun i hi => by rw [g3 49 i (by omega), fs 49 (by omega)]; exact hB.2 i hi⟩
  have h3 : upd2 (upd2 N1 36 16 (nI 0)) 36 18 (nI 0) 36 14 = nI n := by rw [g3 36 14 (by omega), fs 36 (by omega)]; exact h14
  have tk0 := q_token (L := L) B3 h3 (Nat.zero_le n) g16
  have x4 : RX (upd2 (upd2 (upd2 (upd2 N1 36 16 (nI 0)) 36 18 (nI 0)) 36 15 (nI (skp n b 0))) 36 16 (nI (toE n b (skp n b 0)))) n b 0 (skp n b 0) := ⟨⟨hB.1, fun i hi => by rw [upd2_ne (by omega), upd2_ne (by omega)]; exact B3.2 i hi⟩, by rw [upd2_ne (by omega), upd2_ne (by omega)]; exact h3, by rw [upd2_ne (by omega), upd2_eq], upd2_eq, by rw [upd2_ne (by omega), upd2_ne (by omega)]; exact g18, s0.2.1, by omega⟩
  have f4 : f50 N1 (upd2 (upd2 (upd2 (upd2 N1 36 16 (nI 0)) 36 18 (nI 0)) 36 15 (nI (skp n b 0))) 36 16 (nI (toE n b (skp n b 0)))) := fun k i _ hk => by rw [upd2_ne (by omega), upd2_ne (by omega)]; exact g3 k i (by omega)
  generalize upd2 (upd2 (upd2 (upd2 N1 36 16 (nI 0)) 36 18 (nI 0)) 36 15 (nI (skp n b 0))) 36 16 (nI (toE n b (skp n b 0))) = N4 at tk0 x4 f4
  obtain ⟨N5, x, e5, f5, y5, w5⟩ := q_text_l (L := L) 120 0 (skp n b 0) t N4 (by omega) (Nat.zero_le _) x4 (rQ_50 q37 f4 (Or.inl rfl)) hw hO
  have e0 : R 212 0 [.ref 36, .null] [] (SH L, N) = R 212 74 [.ref 36, .int (nI x)] [] (SH L, N5) := by
    rw [← e5]
    simp only [r212_0, r212_1, r212_4, r212_5, r212_6, r212_9, r212_10, r212_11_0, r212_11_1, r212_14, r212_15, r212_18, r212_19, r212_20, r212_21, sv, Option.bind_some, vtl_none, tk0, Nat.zero_add]
  rw [e0]
  generalize pT n b 120 0 (skp n b 0) t = r at y5 w5 ⊢
  have g6 : ∀ k i, k ≠ 37 → k ≠ 39 → k ≠ 50 → (k ≠ 36 ∨ i < 14 ∨ 18 < i) → upd2 N5 36 14 (nI 0) k i = N k i := fun k i a1 a2 a3 a4 => by
    rw [upd2_ne (by omega), f5 k i a1 a3 (by omega), f4 k i a3 (by omega), fs k a2]
  by_cases q : r.1 = true
  · rw [if_pos q, if_pos q]
    obtain ⟨y1, y2, y3⟩ := y5 q
    have z18 : upd2 N5 36 14 (nI 0) 36 18 = nI 0 := by rw [upd2_ne (by omega)]; exact RX_18 y2
    refine ⟨upd2 N5 36 14 (nI 0), ?_, g6, upd2_eq, ?_⟩
    · rw [y1]
      simp (disch := omega) only [r212_74, r212_75, r212_76, r212_79, r212_80, r212_83, r212_86, r212_87, r212_90, r212_91, r212_92, r212_95, r212_96, r212_97, r212_98, z18, nz0, if_true]
    · unfold rQ
      rw [show upd2 N5 36 14 (nI 0) 37 = N5 37 from by funext i; exact upd2_ne (by omega)]
      exact y3
  · rw [if_neg q, if_neg q]
    have y2 := w5 q
    have z18 : upd2 N5 36 14 (nI 0) 36 18 = nI 1 := by rw [upd2_ne (by omega)]; exact RX_18 y2
    have z15 : cpN (upd2 N5 36 14 (nI 0)) 37 39 91 36 15 = nI r.2.1 := by rw [cpN_o (by omega), upd2_ne (by omega)]; exact y2.2.2.1
    refine ⟨cpN (upd2 N5 36 14 (nI 0)) 37 39 91, ?_, fun k i a1 a2 a3 a4 => by rw [cpN_o a1]; exact g6 k i a1 a2 a3 a4, by rw [cpN_o (by omega), upd2_eq], rQ_cp ?_⟩
    · simp (disch := omega) only [r212_74, r212_75, r212_76, r212_79, r212_80, r212_83, r212_86, r212_87, r212_90, r212_91, r212_92, r212_95, r212_96, z18, nz1, if_false, q_putsBack, Option.bind_some, vtl_none, z15]
    · have q5 : ∀ i, upd2 N5 36 14 (nI 0) 39 i = N1 39 i := fun i => by rw [upd2_ne (by omega), f5 39 i (by omega) (by omega) (by omega), f4 39 i (by omega) (by omega)]
      unfold rQ
      rw [show upd2 N5 36 14 (nI 0) 39 = N1 39 from by funext i; exact q5 i]
      exact q39
theorem c_text (h : IV M t z sp c) (hcb : c < 49000000) : OK L M c (fun M => R 95 0 [.ref 1, .null] [] (SH L, M)) (fun M => R 212 0 [.ref 36, .null] [] (SH L, M)) := by
  obtain ⟨⟨hw, hO⟩, hsp, hE, hQ, ⟨hc, hcc, hd⟩, hF, hK, hT, hH⟩ := id h
  obtain ⟨n, b, hn, n1, n2, hk⟩ := hT
  obtain ⟨A1, e1, f1, E1, -⟩ := s_become (L := L) (M := M) isE_12 isE_2 (by omega) hw hE
  have B1 : BT A1 25 n b := ⟨hn, fun i hi => ⟨(hk i hi).1, by rw [f1 25 (by omega)]; exact (hk i hi).2.1⟩⟩
  obtain ⟨A2, m, e2, f2, T2⟩ := s_split (L := L) B1 (by rw [f1 24 (by omega)]; exact n1)
  have C3 : CS (upd2 A2 24 6 (nI 0)) n b m (skp n b 0) := ⟨hn, ⟨T2.1, T2.2.1, T2.2.2.1, fun k hk => by rw [upd2_ne (by omega), upd2_ne (by omega), upd2_ne (by omega)]; exact T2.2.2.2 k hk⟩, 0, Nat.zero_le _, upd2_eq, rfl⟩
  obtain ⟨A4, e4, f4, E4, l4⟩ := k_read_l (L := L) 120 0 (skp n b 0) t (upd2 A2 24 6 (nI 0)) (by omega) C3 (rE_eq E1 (fun k hk => by funext i; rw [upd2_ne (by omega), f2 _ (by omega)])) hw hO
  have po := (pT_ok (n := n) (b := b) 120 0 (skp n b 0) t hw hO).2
  have pl := (pT_ok (n := n) (b := b) 120 0 (skp n b 0) t hw hO).1
  have eR : R 43 0 [.ref 24, .ref 12, .null] [] (SH L, A1) = some (some (.int (if (pT n b 120 0 (skp n b 0) t).1 = true then nI (pT n b 120 0 (skp n b 0) t).2.2.1 else (-1) - nI (pT n b 120 0 (skp n b 0) t).2.1)), (SH L, A4)) := by
    rw [← e4]
    simp only [r43_0, r43_1, r43_4, r43_5, r43_6, r43_9, r43_10, e2, Option.bind_some, vtl_none]
  have F5 : ∀ k i, (k < 12 ∨ 16 < k) → (k < 26 ∨ 29 < k) → (k ≠ 24 ∨ (i ≠ 6 ∧ i ≠ 1)) → upd2 A4 24 1 (nI 0) k i = M k i := fun k i a1 a2 a3 => by
    rw [upd2_ne (by omega), f4 k i (by omega) a1 (by omega), upd2_ne (by omega), f2 k (by omega), f1 k (by omega)]
  have F5' : ∀ k, (k < 12 ∨ 16 < k) → (k < 24 ∨ k = 25 ∨ 29 < k) → upd2 A4 24 1 (nI 0) k = M k := fun k a1 a2 => by funext i; exact F5 k i a1 (by omega) (by omega)
  have B5 : BT (upd2 A4 24 1 (nI 0)) 49 n b := ⟨hn, fun i hi => ⟨(hk i hi).1, by rw [F5' 49 (by omega) (by omega)]; exact (hk i hi).2.2⟩⟩
  have h5 : upd2 A4 24 1 (nI 0) 24 1 = nI 0 := upd2_eq
  have E5 : (pT n b 120 0 (skp n b 0) t).1 = true → rE (upd2 A4 24 1 (nI 0)) 12 (pT n b 120 0 (skp n b 0) t).2.2.2 z sp := fun q => rE_eq (E4 q) (fun k hk => by funext i; exact upd2_ne (by omega))
  have e0 : R 95 0 [.ref 1, .null] [] (SH L, M) = if (if (pT n b 120 0 (skp n b 0) t).1 = true then nI (pT n b 120 0 (skp n b 0) t).2.2.1 else (-1) - nI (pT n b 120 0 (skp n b 0) t).2.1) < 0 then some (some (.int (if (pT n b 120 0 (skp n b 0) t).1 = true then nI (pT n b 120 0 (skp n b 0) t).2.2.1 else (-1) - nI (pT n b 120 0 (skp n b 0) t).2.1)), (SH L, upd2 A4 24 1 (nI 0))) else (R 19 0 [.ref 2, .ref 12] [] (SH L, upd2 A4 24 1 (nI 0))).bind (fun r => R 95 45 [.ref 1, .int (if (pT n b 120 0 (skp n b 0) t).1 = true then nI (pT n b 120 0 (skp n b 0) t).2.2.1 else (-1) - nI (pT n b 120 0 (skp n b 0) t).2.1)] (vtl r.1 []) r.2) := by
    simp only [r95_0, r95_1, r95_4, r95_5, r95_8, r95_11, r95_12, r95_15, r95_16, r95_19, r95_22, r95_23, r95_24, r95_27, r95_30, r95_31, r95_34, r95_35, r95_38, r95_39, r95_42, e1, eR, Option.bind_some, vtl_none, vtl_some, r42_0, r42_1, r42_2, r42_5]
    (repeat' split) <;> simp only [r95_45, r95_46]
  generalize hr : pT n b 120 0 (skp n b 0) t = r at *
  generalize upd2 A4 24 1 (nI 0) = A5 at *
  by_cases q : r.1 = true
  · simp only [if_pos q] at e0
    obtain ⟨w', o', le⟩ := po q
    obtain ⟨A6, e6, f6, E6, n6⟩ := s_become (L := L) (M := A5) isE_2 isE_12 (by omega) w' (E5 q)
    rw [F5' 2 (by omega) (by omega), hc, nI_add] at n6
    obtain ⟨N', e7, f7, g7, q7⟩ := q_text_0 (L := L) (N := A6) (n := n) (b := b) (t := t) (z := z) (sp := sp) ⟨hn, fun i hi => by rw [f6 49 (by omega)]; exact B5.2 i hi⟩ (by rw [f6 36 (by omega), F5' 36 (by omega) (by omega)]; exact n2) (by unfold rQ; rw [f6 37 (by omega), F5' 37 (by omega) (by omega)]; exact hQ) hw hO
    rw [hr, if_pos q] at e7 q7
    have G : ∀ k i, k ≠ 37 → k ≠ 39 → k ≠ 50 → (k ≠ 36 ∨ i < 14 ∨ 18 < i) → N' k i = A6 k i := f7
    have g : ∀ k, (k = 1 ∨ (7 ≤ k ∧ k ≤ 11) ∨ (17 ≤ k ∧ k ≤ 20) ∨ (31 ≤ k ∧ k ≤ 34) ∨ k = 38 ∨ k = 40 ∨ (51 ≤ k ∧ k ≤ 53)) → N' k = M k := fun k hk => by
      funext i
      rw [f7 k i (by omega) (by omega) (by omega) (by omega), f6 k (by omega), F5' k (by omega) (by omega)]
    refine okG (r := nI r.2.2.1) (M1 := A6) (M2 := N') ?_ e7 (IV_text (c' := c + 1) h (fun k hk => g k (by omega)) ?_ w' o' le (rE_eq E6 (fun k hk => by funext i; exact f7 _ i (by omega) (by omega) (by omega) (by omega))) q7 ?_ (by omega) (DI_bump hd (fun k hk => g k (by omega)) (by omega)) ?_ g7) (by omega)
    · show R 95 0 _ _ _ = _
      rw [e0]
      simp (disch := omega) only [nI_lt0, if_false, e6, Option.bind_some, vtl_none, r95_45, r95_46]
    · rw [f7 36 4 (by omega) (by omega) (by omega) (by omega), f6 36 (by omega), F5' 36 (by omega) (by omega)]
    · rw [f7 2 9 (by omega) (by omega) (by omega) (by omega)]; exact n6
    · rw [f7 24 1 (by omega) (by omega) (by omega) (by omega), f6 24 (by omega)]; exact h5
  · simp only [if_neg q] at e0
    obtain ⟨N', e7, f7, g7, q7⟩ := q_text_0 (L := L) (N := A5) (n := n) (b := b) (t := t) (z := z) (sp := sp) B5 (by rw [F5' 36 (by omega) (by omega)]; exact n2) (by unfold rQ; rw [F5' 37 (by omega) (by omega)]; exact hQ) hw hO
    rw [hr, if_neg q] at e7 q7
    have g : ∀ k, ((1 ≤ k ∧ k ≤ 11) ∨ (17 ≤ k ∧ k ≤ 20) ∨ (31 ≤ k ∧ k ≤ 34) ∨ k = 38 ∨ k = 40 ∨ (51 ≤ k ∧ k ≤ 53)) → N' k = M k := fun k hk => by
      funext i
      rw [f7 k i (by omega) (by omega) (by omega) (by omega), F5' k (by omega) (by omega)]
    refine okG (r := (-1) - nI r.2.1) (M1 := A5) (M2 := N') ?_ e7 (IV_text (c' := c) h (fun k hk => g k (by omega)) ?_ hw hO (Nat.le_refl _) (rE_eq hE (fun k hk => g _ (by omega))) q7 ?_ hcc (DI_4 hd (g 17 (by omega)) (g 18 (by omega)) (g 19 (by omega)) (g 20 (by omega))) ?_ g7) (Nat.le_add_right _ _)
    · show R 95 0 _ _ _ = _
      rw [e0]
      simp only [neg_lt r.2.1 (by omega), if_true]
    · rw [f7 36 4 (by omega) (by omega) (by omega) (by omega), F5' 36 (by omega) (by omega)]
    · rw [g 2 (by omega)]; exact hc
    · rw [f7 24 1 (by omega) (by omega) (by omega) (by omega)]; exact h5
end CTX
