/-! The law's whole run -/
theorem R_nw {m pc idx ci : Nat} {fs : List (Option Value)} {ls st : List Value} {w : vW} (d : decode (mB m) pc = .ok (.new idx, 3)) (e : vlk nTab (mO m) idx = some ci) (f : nFs[ci]? = some fs) (h1 : w.1.length < 1000) (h0 : w.1.length ≠ 0) : R m pc ls st w = R m (pc + 3) ls (.ref w.1.length :: st) (w.1 ++ [.inr (ci, fs)], vzero w.2 w.1.length) :=
  R_s (pc + 3, ls, .ref w.1.length :: st, (w.1 ++ [.inr (ci, fs)], vzero w.2 w.1.length)) d (by
    show vnew (mO m) idx (pc + 3) ls st w = _
    unfold vnew
    rw [e]
    dsimp only
    rw [f]
    dsimp only
    rw [if_neg (by omega)]
    rfl)
theorem R_ci {m pc idx t n q ci rr : Nat} {g : Bool} {ls st ent rest as' : List Value} {w : vW} {fs : List (Option Value)} (d : decode (mB m) pc = .ok (.invokespecial idx, 3)) (hk : vlk cTab (mO m) idx = some (4, t) ∧ mC t = ci ∧ ci ≠ 99 ∧ mA t = n ∧ mL t = q ∧ mF t + 1 ≤ mF m ∧ 19 + mL t + mW t ≤ mW m ∧ mG t = g)
    (hw : w.1[rr]? = some (.inr (ci, fs))) (h0 : rr ≠ 0) (h1 : (st.take n).reverse = .ref rr :: as') (h2 : st.drop n = rest) (h3 : (Value.ref rr :: as').length = n) (h4 : vcats rest ≤ 8) (h5 : g = true ∨ (Value.ref rr :: as').all (fun v => !vlong v) = true) (h6 : vcats (.ref rr :: as') ≤ q) (he : vntq q (.ref rr :: as') = ent) : R m pc ls st w = (R t 0 ent [] w).bind (fun r => R m (pc + 3) ls (vtl r.1 rest) r.2) := by
  obtain ⟨k1, k3, k9, k4, k5, k6, k7, k8⟩ := hk
  refine R_c t (.ref rr :: as') ent (pc + 3, ls, rest, w) d ?_ (by rw [← he, ← k5]; rfl)
  show vinvi m idx (pc + 3) ls st w = _
  unfold vinvi
  rw [k1]
  simp only
  rw [if_pos trivial]
  unfold vcall
  simp only [k4, h1, h2]
  rw [if_pos ⟨h3, h4, k6, k7, by rw [k8]; exact h5, by rw [k5]; exact h6⟩, if_neg (by rw [k3]; exact k9)]
  simp only [hw]
  rw [if_pos ⟨k3.symm, h0⟩]
theorem IV_cg {M N : Nat → Nat → Int32} {t : Nat → Nat} {z : Int32} {sp : Nat → Int32} {c : Nat} (h : IV N t z sp c) (e : ∀ b, b ≠ 0 → b < 55 → M b = N b) : IV M t z sp c := by
  obtain ⟨hw, hsp, hE, hQ, ⟨hc, hcb, hd⟩, hF, hK, hT, hH⟩ := h
  refine ⟨hw, hsp, rE_eq hE (fun k hk => e _ (by omega) (by omega)), ?_, ⟨by rw [e 2 (by omega) (by omega)]; exact hc, hcb, DI_4 hd (e 17 (by omega) (by omega)) (e 18 (by omega) (by omega)) (e 19 (by omega) (by omega)) (e 20 (by omega) (by omega))⟩, fun i hi => by rw [e 34 (by omega) (by omega), e 40 (by omega) (by omega)]; exact hF i hi, RK_eq hK (e 1 (by omega) (by omega)) (by rw [e 36 (by omega) (by omega)]) (fun k hk => e k (by omega) (by omega)) (e 38 (by omega) (by omega)), RT_eq hT (by rw [e 24 (by omega) (by omega)]) (by rw [e 36 (by omega) (by omega)]) (e 25 (by omega) (by omega)) (e 49 (by omega) (by omega)), RH_eq hH (e 31 (by omega) (by omega)) (e 32 (by omega) (by omega)) (e 33 (by omega) (by omega)) (e 51 (by omega) (by omega)) (e 52 (by omega) (by omega)) (e 53 (by omega) (by omega))⟩
  unfold rQ
  rw [e 37 (by omega) (by omega)]
  exact hQ
theorem wf_00 : wfT t00 ∧ wfO t00 := by
  refine ⟨?_, ?_, ?_⟩
  · unfold wfT
    decide +kernel
  · intro i hi
    have : ∀ i, i < 2 → t00 (5 + i) < 2 := by decide +kernel
    exact this i hi
  · intro i j hi hj
    have : ∀ i, i < 2 → ∀ j, j < 2 → t00 (5 + i) = t00 (5 + j) → i = j := by decide +kernel
    exact this i hi j hj
theorem iniF_IV {N : Nat → Nat → Int32} (h : iniF N = true) : IV N t00 (nI 1) (fun _ => -1) 1 := by
  unfold iniF at h
  simp only [Bool.and_eq_true, decide_eq_true_eq] at h
  obtain ⟨⟨⟨⟨⟨⟨⟨⟨⟨⟨⟨⟨⟨e4, e5, e6, e7, e8, e9⟩, b1⟩, b2⟩, b3⟩, b4⟩, q4⟩, b5⟩, d5, d6, d7⟩, b6⟩, b7⟩, k9, k4, p1, p14⟩, b8⟩, b9⟩ := h
  have g1 := fun x hx => of_decide_eq_true (allN_get 5 b1 x hx)
  have g2 := fun x hx => of_decide_eq_true (allN_get 4 b2 x hx)
  have g3 := fun x hx => of_decide_eq_true (allN_get 10 b3 x hx)
  have g4 := fun x hx => allN_get 81 b4 x hx
  have g5 := fun x hx => of_decide_eq_true (allN_get 10 b5 x hx)
  have g6 := fun x hx => of_decide_eq_true (allN_get 4 b6 x hx)
  have g7 := fun x hx => of_decide_eq_true (allN_get 7 b7 x hx)
  have g8 := fun x hx => of_decide_eq_true (allN_get 160 b8 x hx)
  have g9 := fun x hx => of_decide_eq_true (allN_get 4 b9 x hx)
  refine ⟨wf_00, fun i hi => Or.inl rfl, ⟨e4, e5, e6, e7, e8, fun p hp => absurd hp (Nat.not_lt_zero _), g1, g2, g3⟩, ⟨fun k hk k4 => ?_, q4, g5⟩, ⟨e9, by omega, 0, 0, 0, fun _ => 0, d5, by omega, d6, by omega, d7, by omega, fun _ => by show 0 < 4; omega, g6, fun q => absurd q (by omega)⟩, g7, ⟨0, by omega, k9, k4, fun q => absurd q (by omega)⟩, ⟨0, fun _ => 0, Nat.zero_le _, p1, p14, fun i hi => absurd hi (Nat.not_lt_zero _)⟩, g8, fun s hs => ⟨⟨0, Or.inl rfl, (g9 s hs).1, (g9 s hs).2.1⟩, 0, Nat.zero_le _, (g9 s hs).2.2.1, (g9 s hs).2.2.2⟩⟩
  have := g4 k hk
  rw [Bool.or_eq_true, beq_iff_eq, decide_eq_true_eq] at this
  exact this.resolve_left k4
theorem ini_run (L : Nat) (xs : Nat → Int32) : ∃ M, R 230 0 [.ref 0, .null, .null, .null] [] ([.inl L], fun _ => xs) = R 230 16 [.ref 0, .ref 1, .ref 36, .null] [] (SH L, M) ∧ IV M t00 (nI 1) (fun _ => -1) 1 ∧ M 0 = xs := by
  have hC := ini_true
  unfold iniC at hC
  split at hC
  · rename_i w e58
    rw [Bool.and_eq_true, decide_eq_true_eq] at hC
    obtain ⟨l36, hC⟩ := hC
    rw [l36] at hC
    split at hC
    · rename_i w2 e121
      rw [Bool.and_eq_true, decide_eq_true_eq] at hC
      obtain ⟨sh2, hF⟩ := hC
      have s1 : wsim L ([.inr (99, []), iniA], fun _ _ => 0) ([.inl L, iniA], vzero (fun _ => xs) 1) := ⟨[iniA], rfl, rfl, fun b hb hl => by
        have hl2 : b < 2 := hl
        obtain rfl : b = 1 := by omega
        funext j
        show (if 1 = 1 then (0 : Int32) else xs j) = 0
        exact if_pos rfl⟩
      obtain ⟨⟨S1, M1⟩, r58, s2⟩ := R_par s1 e58
      have l1 : S1.length = 36 := (ws_len s2).trans l36
      have s3 := ws_push s2 iniB
      rw [l36] at s3
      obtain ⟨⟨S2, M2⟩, r121, s4⟩ := R_par s3 e121
      obtain ⟨T, t1, t2, t3⟩ := s4
      have hS : S2 = SH L := by
        rw [sh2] at t1
        cases t1
        exact t2
      subst hS
      have z1 : M1 0 = xs := (R_0 r58).trans (vzero_z (by omega))
      have z2 : M2 0 = xs := ((R_0 r121).trans (vzero_z (by omega))).trans z1
      refine ⟨M2, ?_, IV_cg (iniF_IV hF) (fun b hb hl => t3 b hb (by rw [sh2]; exact hl)), z2⟩
      rw [R_nw (ci := 5) (fs := nFs.getD 5 []) (show decode (mB 230) 0 = .ok (.new 7, 3) by decide +kernel) (by decide +kernel) (by decide +kernel) (by show 1 < 1000; omega) (by show 1 ≠ 0; omega)]
      rw [show R 230 (0 + 3) [.ref 0, .null, .null, .null] (.ref ([.inl L] : List vSh).length :: []) (([.inl L] : List vSh) ++ [.inr (5, nFs.getD 5 [])], vzero (fun _ => xs) ([.inl L] : List vSh).length) = R 230 4 [.ref 0, .null, .null, .null] [.ref 1, .ref 1] ([.inl L, iniA], vzero (fun _ => xs) 1) from R_s (4, [.ref 0, .null, .null, .null], [.ref 1, .ref 1], ([.inl L, iniA], vzero (fun _ => xs) 1)) (show decode (mB 230) 3 = .ok (.dup, 1) by decide +kernel) rfl]
      rw [R_ci (t := 58) (n := 1) (q := 1) (ci := 5) (rr := 1) (g := mG 58) (as' := []) (ent := [.ref 1]) (rest := [.ref 1]) (fs := nFs.getD 5 []) (show decode (mB 230) 4 = .ok (.invokespecial 9, 3) by decide +kernel) (by decide +kernel) rfl (by omega) rfl rfl rfl (Nat.le_of_ble_eq_true rfl) (Or.inr rfl) (Nat.le_of_ble_eq_true rfl) rfl, r58, Option.bind_some, vtl_none]
      rw [show R 230 (4 + 3) [.ref 0, .null, .null, .null] [.ref 1] (S1, M1) = R 230 8 [.ref 0, .ref 1, .null, .null] [] (S1, M1) from R_s (8, [.ref 0, .ref 1, .null, .null], [], (S1, M1)) (show decode (mB 230) 7 = .ok (.astore_n 1, 1) by decide +kernel) rfl]
      rw [R_nw (ci := 6) (fs := nFs.getD 6 []) (show decode (mB 230) 8 = .ok (.new 10, 3) by decide +kernel) (by decide +kernel) (by decide +kernel) (by show S1.length < 1000; omega) (by show S1.length ≠ 0; omega)]
      dsimp only
      rw [l1]
      rw [show R 230 (8 + 3) [.ref 0, .ref 1, .null, .null] [.ref 36] (S1 ++ [.inr (6, nFs.getD 6 [])], vzero M1 36) = R 230 12 [.ref 0, .ref 1, .null, .null] [.ref 36, .ref 36] (S1 ++ [iniB], vzero M1 36) from R_s (12, [.ref 0, .ref 1, .null, .null], [.ref 36, .ref 36], (S1 ++ [iniB], vzero M1 36)) (show decode (mB 230) 11 = .ok (.dup, 1) by decide +kernel) rfl]
      have g36 : (S1 ++ [iniB])[36]? = some iniB := by
        rw [List.getElem?_append_right (by omega), l1]
        rfl
      rw [R_ci (t := 121) (n := 1) (q := 2) (ci := 6) (rr := 36) (g := mG 121) (as' := []) (ent := [.ref 36, .null]) (rest := [.ref 36]) (fs := nFs.getD 6 []) (show decode (mB 230) 12 = .ok (.invokespecial 12, 3) by decide +kernel) (by decide +kernel) g36 (by omega) rfl rfl rfl (Nat.le_of_ble_eq_true rfl) (Or.inr rfl) (Nat.le_of_ble_eq_true rfl) rfl, r121, Option.bind_some, vtl_none]
      exact R_s (16, [.ref 0, .ref 1, .ref 36, .null], [], (SH L, M2)) (show decode (mB 230) 15 = .ok (.astore_n 2, 1) by decide +kernel) rfl
    · cases hC
  · cases hC
theorem law_true (L : Nat) (xs : Nat → Int32) (hL : L ≤ 3072) : ∃ M, R 230 0 [.ref 0, .null, .null, .null] [] ([.inl L], fun _ => xs) = some (some (.int 1), (SH L, M)) := by
  obtain ⟨M, e, h, h0⟩ := ini_run L xs
  obtain ⟨M', e'⟩ := law_l hL 600 0 1 M t00 (nI 1) (fun _ => -1) h h0 (by omega) (by omega) (by omega)
  refine ⟨M', ?_⟩
  rw [e, r230_16, r230_17]
  exact e'
