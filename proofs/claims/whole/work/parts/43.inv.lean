/-! What holds between the calls; guards; findings -/
theorem m1_64 {k : Nat} (hk : k < 2 ^ 30) : (nI k - nI 1).toInt64 = lN k - 1 := by
  apply Int64.toInt_inj.mp
  rw [Int32.toInt_toInt64, pk_sub_toInt hk (by decide), Int64.toInt_sub, lN_toInt (by omega)]
  simp only [Int64.toInt_one]
  have e : ((k : Int) - 1).bmod (2 ^ 64) = (k : Int) - 1 := by
    apply Int.bmod_eq_of_le <;> omega
  rw [e]
  rfl
theorem um_R {c : Prop} {d : Decidable c} {m pc : Nat} {ls st : List Value} {w : vW} {a b : Int32} : R m pc ls (.int (@ite _ c d a b) :: st) w = (@ite _ c d (R m pc ls (.int a :: st) w) (R m pc ls (.int b :: st) w)) := mg_R.symm
theorem n_64 {k : Nat} (hk : k < 2 ^ 29) : (nI k).toInt64 = lN (k + 1) - 1 := by
  have hk2 : k + 1 < 2 ^ 30 := by omega
  have h := m1_64 hk2
  rw [pk_sub (by omega), Nat.add_sub_cancel] at h
  exact h
theorem n1z : ((1 : Nat) = 0) = False := by decide
theorem n0z : ((0 : Nat) = 0) = True := by decide
theorem nz1 : (nI 1 = (0 : Int32)) = False := by decide +kernel
theorem nz0 : (nI 0 = (0 : Int32)) = True := by decide +kernel
theorem s_in32 {v lo hi : Int32} {lo' hi' : Int64} {w : vW} (h1 : lo' = lo.toInt64) (h2 : hi' = hi.toInt64) : R 123 0 [.long v.toInt64, .null, .long lo', .null, .long hi', .null] [] w = some (some (.int (if lo ≤ v ∧ v ≤ hi then nI 1 else nI 0)), w) := by
  subst h1 h2
  rw [s_in]
  simp only [Int64.le_iff_toInt_le, Int32.toInt_toInt64, Int32.le_iff_toInt_le]
theorem s_inr {x : Int32} {n : Nat} {hi : Int64} {w : vW} (hn : n < 2 ^ 31) (h : hi = lN n - 1) : R 123 0 [.long x.toInt64, .null, .long 0, .null, .long hi, .null] [] w = some (some (.int (if rng x n then nI 1 else nI 0)), w) := by
  rw [s_in]
  simp only [in_rng hn h]
theorem s_within {x : Int32} {n : Nat} {w : vW} (hn : n < 2 ^ 31) : R 109 0 [.int x, .int (nI n)] [] w = some (some (.int (if rng x n then nI 1 else nI 0)), w) := by
  simp only [r109_0, r109_1, r109_4, r109_5, r109_6, r109_9, r109_10, r109_13, r109_14_0, r109_14_1, mg_R]
  by_cases h1 : x < 0
  · rw [if_pos h1, if_neg]
    rw [← rng_lt hn]
    exact fun z => absurd z.1 (Int32.not_le.mpr h1)
  · rw [if_neg h1]
    by_cases h2 : nI n ≤ x
    · rw [if_pos h2, if_neg]
      rw [← rng_lt hn]
      exact fun z => absurd z.2 (Int32.not_lt.mpr h2)
    · rw [if_neg h2, if_pos]
      rw [← rng_lt hn]
      exact ⟨Int32.not_lt.mp h1, Int32.not_le.mp h2⟩
theorem set_rng {x : Int32} {p : Nat} (hp : p ≤ 9) : (x &&& (nI (2 ^ p - 1) ^^^ (-1)) = 0) = rng x (2 ^ p) := by
  have h5 : 2 ^ p ≤ 512 := (Nat.pow_le_pow_right (by decide) hp : 2 ^ p ≤ 2 ^ 9)
  have h1 : 0 < 2 ^ p := Nat.two_pow_pos p
  apply propext
  constructor
  · intro h
    have e : x = x &&& nI (2 ^ p - 1) := by
      apply Int32.toBitVec_inj.mp
      have h' : x.toBitVec &&& ((nI (2 ^ p - 1)).toBitVec ^^^ BitVec.allOnes 32) = 0#32 := congrArg Int32.toBitVec h
      show x.toBitVec = x.toBitVec &&& (nI (2 ^ p - 1)).toBitVec
      ext i hi
      have := congrArg (fun z => z.getLsbD i) h'
      simp only [BitVec.getLsbD_and, BitVec.getLsbD_xor, BitVec.getLsbD_allOnes, BitVec.getLsbD_zero, hi, decide_true] at this
      simp only [BitVec.getElem_and, ← BitVec.getLsbD_eq_getElem]
      cases q1 : x.toBitVec.getLsbD i <;> cases q2 : (nI (2 ^ p - 1)).toBitVec.getLsbD i <;> simp_all
    have e2 : x = nI (x.toBitVec.toNat &&& (2 ^ p - 1)) := by
      rw [e]
      apply Int32.toBitVec_inj.mp
      apply BitVec.eq_of_toNat_eq
      show (x.toBitVec &&& BitVec.ofNat 32 (2 ^ p - 1)).toNat = (BitVec.ofNat 32 ((x &&& nI (2 ^ p - 1)).toBitVec.toNat &&& (2 ^ p - 1))).toNat
      have e3 : (x &&& nI (2 ^ p - 1)).toBitVec.toNat = x.toBitVec.toNat &&& (2 ^ p - 1) := by
        show (x.toBitVec &&& BitVec.ofNat 32 (2 ^ p - 1)).toNat = _
        rw [BitVec.toNat_and, BitVec.toNat_ofNat, Nat.mod_eq_of_lt (by omega)]
      rw [e3, BitVec.toNat_and, BitVec.toNat_ofNat, BitVec.toNat_ofNat, Nat.mod_eq_of_lt (show 2 ^ p - 1 < 2 ^ 32 by omega), Nat.and_assoc, Nat.and_self]
      have : x.toBitVec.toNat &&& (2 ^ p - 1) ≤ 2 ^ p - 1 := Nat.and_le_right
      rw [Nat.mod_eq_of_lt (by omega)]
    have : x.toBitVec.toNat &&& (2 ^ p - 1) ≤ 2 ^ p - 1 := Nat.and_le_right
    rw [e2, rng_nI (by omega)]
    omega
  · intro h
    obtain ⟨k, hk, rfl⟩ := rng_of (by omega) h
    rw [nI_dif]
    have : dif k (2 ^ p - 1) = 0 := by
      apply Nat.eq_of_testBit_eq
      intro i
      rw [dif_test, Nat.testBit_two_pow_sub_one, Nat.zero_testBit]
      by_cases q : i < p
      · simp [q]
      · rw [Nat.testBit_lt_two_pow (Nat.lt_of_lt_of_le hk (Nat.pow_le_pow_right (by decide) (by omega)))]
        rfl
    rw [this, nI_0]
section FND
variable {L : Nat} {M : Nat → Nat → Int32}
theorem s_finding {x : Int32} {k : Nat} (hx : (-1000001 : Int32) - x = nI k) (hk : k < 7) : R 108 0 [.ref 1, .int x, .null] [] (SH L, M) = some (some (.int x), (SH L, upd2 M 34 k (M 34 k + nI 1))) := by
  simp (disch := omega) only [r108_0, r108_2, r108_3, r108_4, r108_5, r108_6, r108_7, r108_10, r108_11, r108_14, r108_17, r108_18, r108_21, r108_22, r108_23, r108_24, r108_25, r108_26, r108_27, r108_28, hx, s_within, Option.bind_some, vtl_some, rng_nI (show k < 2 ^ 31 by omega), if_pos hk, nz1, if_false]
theorem s_finds {x : Int32} {k : Nat} (hx : (-1000001 : Int32) - x = nI k) (hk : k < 7) : R 124 0 [.ref 36, .int x] [] (SH L, M) = some (some (.int x), (SH L, upd2 M 40 k (M 40 k + nI 1))) := by
  simp (disch := omega) only [r124_0, r124_1, r124_4, r124_6, r124_7, r124_8, r124_9, r124_10, r124_11, r124_12, r124_13, r124_14, hx]
theorem fd0 : R 108 0 [.ref 1, .int (-1000001), .null] [] (SH L, M) = some (some (.int (-1000001)), (SH L, upd2 M 34 0 (M 34 0 + nI 1))) := s_finding (by decide +kernel) (by decide)
theorem gd0 : R 124 0 [.ref 36, .int (-1000001)] [] (SH L, M) = some (some (.int (-1000001)), (SH L, upd2 M 40 0 (M 40 0 + nI 1))) := s_finds (by decide +kernel) (by decide)
theorem fd1 : R 108 0 [.ref 1, .int (-1000002), .null] [] (SH L, M) = some (some (.int (-1000002)), (SH L, upd2 M 34 1 (M 34 1 + nI 1))) := s_finding (by decide +kernel) (by decide)
theorem gd1 : R 124 0 [.ref 36, .int (-1000002)] [] (SH L, M) = some (some (.int (-1000002)), (SH L, upd2 M 40 1 (M 40 1 + nI 1))) := s_finds (by decide +kernel) (by decide)
theorem fd2 : R 108 0 [.ref 1, .int (-1000003), .null] [] (SH L, M) = some (some (.int (-1000003)), (SH L, upd2 M 34 2 (M 34 2 + nI 1))) := s_finding (by decide +kernel) (by decide)
theorem gd2 : R 124 0 [.ref 36, .int (-1000003)] [] (SH L, M) = some (some (.int (-1000003)), (SH L, upd2 M 40 2 (M 40 2 + nI 1))) := s_finds (by decide +kernel) (by decide)
theorem fd3 : R 108 0 [.ref 1, .int (-1000004), .null] [] (SH L, M) = some (some (.int (-1000004)), (SH L, upd2 M 34 3 (M 34 3 + nI 1))) := s_finding (by decide +kernel) (by decide)
theorem gd3 : R 124 0 [.ref 36, .int (-1000004)] [] (SH L, M) = some (some (.int (-1000004)), (SH L, upd2 M 40 3 (M 40 3 + nI 1))) := s_finds (by decide +kernel) (by decide)
theorem fd4 : R 108 0 [.ref 1, .int (-1000005), .null] [] (SH L, M) = some (some (.int (-1000005)), (SH L, upd2 M 34 4 (M 34 4 + nI 1))) := s_finding (by decide +kernel) (by decide)
theorem gd4 : R 124 0 [.ref 36, .int (-1000005)] [] (SH L, M) = some (some (.int (-1000005)), (SH L, upd2 M 40 4 (M 40 4 + nI 1))) := s_finds (by decide +kernel) (by decide)
theorem fd5 : R 108 0 [.ref 1, .int (-1000006), .null] [] (SH L, M) = some (some (.int (-1000006)), (SH L, upd2 M 34 5 (M 34 5 + nI 1))) := s_finding (by decide +kernel) (by decide)
theorem gd5 : R 124 0 [.ref 36, .int (-1000006)] [] (SH L, M) = some (some (.int (-1000006)), (SH L, upd2 M 40 5 (M 40 5 + nI 1))) := s_finds (by decide +kernel) (by decide)
theorem fd6 : R 108 0 [.ref 1, .int (-1000007), .null] [] (SH L, M) = some (some (.int (-1000007)), (SH L, upd2 M 34 6 (M 34 6 + nI 1))) := s_finding (by decide +kernel) (by decide)
theorem gd6 : R 124 0 [.ref 36, .int (-1000007)] [] (SH L, M) = some (some (.int (-1000007)), (SH L, upd2 M 40 6 (M 40 6 + nI 1))) := s_finds (by decide +kernel) (by decide)
end FND
section GRD
variable {L : Nat} {M : Nat → Nat → Int32} {t : Nat → Nat} {z : Int32} {sp : Nat → Int32} {x : Int32}
theorem s_isPart (hs : rS M t) (hw : wfT t) : R 125 0 [.ref 36, .int x] [] (SH L, M) = some (some (.int (if rng x (t 1) then nI 1 else nI 0)), (SH L, M)) := by
  have hP := hw.2.1
  simp (disch := omega) only [r125_0, r125_1, r125_2, r125_3, r125_4, r125_7, r125_8, r125_9, r125_10, r125_11, r125_12, r125_15_0, r125_15_1, hs 1, m1_64 (show t 1 < 2 ^ 30 by omega), s_inr (show t 1 < 2 ^ 31 by omega) rfl, Option.bind_some, vtl_some]
  simp only [um_R, r125_15_0, r125_15_1, mg_s]
theorem s_isHeir (hs : rS M t) (hw : wfT t) : R 128 0 [.ref 36, .int x] [] (SH L, M) = some (some (.int (if rng x (t 2) then nI 1 else nI 0)), (SH L, M)) := by
  have hP := hw.2.2.2.1
  simp (disch := omega) only [r128_0, r128_1, r128_2, r128_3, r128_4, r128_7, r128_8, r128_9, r128_10, r128_11, r128_12, r128_15_0, r128_15_1, hs 2, m1_64 (show t 2 < 2 ^ 30 by omega), s_inr (show t 2 < 2 ^ 31 by omega) rfl, Option.bind_some, vtl_some]
  simp only [um_R, r128_15_0, r128_15_1, mg_s]
theorem s_isThing {w : vW} : R 126 0 [.int x] [] w = some (some (.int (if rng x 5 then nI 1 else nI 0)), w) := by
  simp only [r126_0, r126_1, r126_2, r126_3, r126_6, r126_9_0, r126_9_1, s_inr (show 5 < 2 ^ 31 by decide) (show (4 : Int64) = lN 5 - 1 by decide +kernel), Option.bind_some, vtl_some]
  simp only [um_R, r126_9_0, r126_9_1, mg_s]
theorem s_isAny {w : vW} : R 127 0 [.int x] [] w = some (some (.int (if rng x 4 then nI 1 else nI 0)), w) := by
  simp only [r127_0, r127_1, r127_2, r127_3, r127_6, r127_9_0, r127_9_1, s_inr (show 4 < 2 ^ 31 by decide) (show (3 : Int64) = lN 4 - 1 by decide +kernel), Option.bind_some, vtl_some]
  simp only [um_R, r127_9_0, r127_9_1, mg_s]
theorem s_isOne {w : vW} : R 215 0 [.int x] [] w = some (some (.int (if rng x 4 then nI 1 else nI 0)), w) := by
  simp only [r215_0, r215_1, r215_2, r215_3, r215_6, r215_9_0, r215_9_1, s_inr (show 4 < 2 ^ 31 by decide) (show (3 : Int64) = lN 4 - 1 by decide +kernel), Option.bind_some, vtl_some]
  simp only [um_R, r215_9_0, r215_9_1, mg_s]
theorem s_isSet6 (hs : rS M t) (hw : wfT t) : R 130 0 [.ref 36, .int x] [] (SH L, M) = some (some (.int (if rng x (2 ^ t 1) then nI 1 else nI 0)), (SH L, M)) := by
  have h5 := pow_P hw
  have ha := allT_eq t
  simp (disch := omega) only [r130_0, r130_1, r130_2, r130_3, r130_4, r130_7, r130_8, r130_11_0, r130_11_1, s_everything hs hw, Option.bind_some, vtl_some, n_64 (show allT t < 2 ^ 29 by omega), s_inr (show allT t + 1 < 2 ^ 31 by omega) rfl]
  simp only [um_R, r130_11_0, r130_11_1, mg_s, ha]
theorem s_isSet5 (hE : rE M 2 t z sp) (hw : wfT t) : R 110 0 [.ref 1, .int x] [] (SH L, M) = some (some (.int (if rng x (2 ^ t 1) then nI 1 else nI 0)), (SH L, M)) := by
  have hP := hw.2.1
  simp (disch := omega) only [r110_0, r110_1, r110_2, r110_5, r110_8, r110_9, r110_10, r110_11, r110_14, r110_15, r110_18, r110_19_0, r110_19_1, s_all isE_2 hE hw, Option.bind_some, vtl_some]
  simp only [allT, set_rng hP, mg_s]
end GRD
def wfSp (t : Nat → Nat) (sp : Nat → Int32) : Prop := ∀ i, i < 10 → sp i = -1 ∨ ∃ k, k < t 1 ∧ sp i = nI k
def rQ (M : Nat → Nat → Int32) (a : Nat) (t : Nat → Nat) (z : Int32) (sp : Nat → Int32) : Prop := (∀ k, k < 81 → k ≠ 4 → M a k = nI (t k)) ∧ M a 4 = z ∧ ∀ i, i < 10 → M a (81 + i) = sp i
def RF (M : Nat → Nat → Int32) : Prop := ∀ i, i < 7 → M 34 i = M 40 i
def RK (M : Nat → Nat → Int32) : Prop := ∃ k, k < 2 ∧ M 1 9 = nI k ∧ M 36 4 = nI k ∧ (k = 1 → ∃ t z sp, (wfT t ∧ wfO t) ∧ wfSp t sp ∧ rE M 7 t z sp ∧ rQ M 38 t z sp)
def RT (M : Nat → Nat → Int32) : Prop := ∃ (n : Nat) (b : Nat → Nat), n ≤ 120 ∧ M 24 1 = nI n ∧ M 36 14 = nI n ∧ ∀ i, i < n → b i < 256 ∧ M 25 i = nI (b i) ∧ M 49 i = nI (b i)
def RH (M : Nat → Nat → Int32) : Prop := (∀ i, i < 160 → M 31 i = M 53 i) ∧ ∀ s, s < 4 → (∃ b, (b = 0 ∨ b = 8 ∨ b = 16 ∨ b = 32) ∧ M 32 s = nI b ∧ M 51 s = nI b) ∧ ∃ n, n ≤ 40 ∧ M 33 s = nI n ∧ M 52 s = nI n
def IV (M : Nat → Nat → Int32) (t : Nat → Nat) (z : Int32) (sp : Nat → Int32) (c : Nat) : Prop := (wfT t ∧ wfO t) ∧ wfSp t sp ∧ rE M 2 t z sp ∧ rQ M 37 t z sp ∧ (M 2 9 = nI c ∧ c < 50000000 ∧ DI M t c) ∧ RF M ∧ RK M ∧ RT M ∧ RH M
/-- frames of an act that changes no state but scratch and statuses -/
def fC (M M' : Nat → Nat → Int32) : Prop := ∀ b, (b < 17 ∨ b = 22 ∨ (24 ≤ b ∧ b ≤ 33) ∨ 36 ≤ b) → M' b = M b
def fR (M M' : Nat → Nat → Int32) : Prop := ∀ b, (b < 39 ∨ 48 < b) → M' b = M b
theorem fC_rf {M : Nat → Nat → Int32} : fC M M := fun _ _ => rfl
theorem fC_tr {M M1 M2 : Nat → Nat → Int32} (h1 : fC M M1) (h2 : fC M1 M2) : fC M M2 := fun b h => (h2 b h).trans (h1 b h)
theorem fC_of {M M' : Nat → Nat → Int32} {a b : Nat} (h : frc a b M M') (hd : 17 ≤ a ∧ b ≤ 21) : fC M M' := fun k hk => h k (by omega)
theorem fC_1 {M M' : Nat → Nat → Int32} {a : Nat} (h : frc a a M M') (hd : a = 23 ∨ a = 34 ∨ a = 35) : fC M M' := fun k hk => h k (by omega)
theorem fR_of {M M' : Nat → Nat → Int32} {a b : Nat} (h : frc a b M M') (hd : 39 ≤ a ∧ b ≤ 48) : fR M M' := fun k hk => h k (by omega)
theorem fR_S {M M' : Nat → Nat → Int32} (h : frS M M') : fR M M' := fun k hk => h k (by omega)
theorem fR_rf {M : Nat → Nat → Int32} : fR M M := fun _ _ => rfl
theorem fR_tr {M M1 M2 : Nat → Nat → Int32} (h1 : fR M M1) (h2 : fR M1 M2) : fR M M2 := fun b h => (h2 b h).trans (h1 b h)
theorem rS_fC {M M' : Nat → Nat → Int32} {t : Nat → Nat} (h : rS M t) (hf : fC M M') : rS M' t := fun k h1 h2 => by rw [hf 37 (by omega)]; exact h k h1 h2
theorem rS_fR {M M' : Nat → Nat → Int32} {t : Nat → Nat} (h : rS M t) (hf : fR M M') : rS M' t := fun k h1 h2 => by rw [hf 37 (by omega)]; exact h k h1 h2
theorem rE_eq {M M' : Nat → Nat → Int32} {e : Nat} {t : Nat → Nat} {z : Int32} {sp : Nat → Int32} (h : rE M e t z sp) (hf : ∀ k, k < 5 → M' (e + k) = M (e + k)) : rE M' e t z sp := by
  have g0 : M' e = M e := hf 0 (by omega)
  exact ⟨by rw [g0]; exact h.p, by rw [g0]; exact h.k, by rw [g0]; exact h.y, by rw [g0]; exact h.h, by rw [g0]; exact h.zz, by rw [hf 1 (by omega)]; exact h.tr, by rw [hf 2 (by omega)]; exact h.me, by rw [hf 3 (by omega)]; exact h.od, by rw [hf 4 (by omega)]; exact h.so⟩
theorem rE_fC {M M' : Nat → Nat → Int32} {e : Nat} {t : Nat → Nat} {z : Int32} {sp : Nat → Int32} (h : rE M e t z sp) (he : e ≤ 12) (hf : fC M M') : rE M' e t z sp := rE_eq h (fun k hk => hf (e + k) (by omega))
theorem RK_eq {M M' : Nat → Nat → Int32} (h : RK M) (h1 : M' 1 = M 1) (h2 : M' 36 4 = M 36 4) (h3 : ∀ b, 7 ≤ b ∧ b ≤ 11 → M' b = M b) (h4 : M' 38 = M 38) : RK M' := by
  obtain ⟨k, k2, e1, e2, hk⟩ := h
  refine ⟨k, k2, by rw [h1]; exact e1, by rw [h2]; exact e2, fun q => ?_⟩
  obtain ⟨t, z, sp, a, b, c, d⟩ := hk q
  exact ⟨t, z, sp, a, b, rE_eq c (fun k hk => h3 (7 + k) (by omega)), by unfold rQ; rw [h4]; exact d⟩
theorem RT_eq {M M' : Nat → Nat → Int32} (h : RT M) (h1 : M' 24 1 = M 24 1) (h2 : M' 36 14 = M 36 14) (h3 : M' 25 = M 25) (h4 : M' 49 = M 49) : RT M' := by
  obtain ⟨n, b, hn, e1, e2, hk⟩ := h
  exact ⟨n, b, hn, by rw [h1]; exact e1, by rw [h2]; exact e2, fun i hi => by rw [h3, h4]; exact hk i hi⟩
theorem RH_eq {M M' : Nat → Nat → Int32} (h : RH M) (h1 : M' 31 = M 31) (h2 : M' 32 = M 32) (h3 : M' 33 = M 33) (h4 : M' 51 = M 51) (h5 : M' 52 = M 52) (h6 : M' 53 = M 53) : RH M' := by
  unfold RH
  rw [h1, h2, h3, h4, h5, h6]
  exact h
def OK (L : Nat) (M : Nat → Nat → Int32) (c : Nat) (C Q : (Nat → Nat → Int32) → RES) : Prop := ∃ r M1 M2, C M = some (some (.int r), (SH L, M1)) ∧ Q M1 = some (some (.int r), (SH L, M2)) ∧ ∃ t z sp c', IV M2 t z sp c' ∧ c' ≤ c + 12
section OKS
variable {L : Nat} {M : Nat → Nat → Int32} {t : Nat → Nat} {z : Int32} {sp : Nat → Int32} {c : Nat}
theorem IV_q (h : IV M t z sp c) {M1 M2 : Nat → Nat → Int32} (f1 : fC M M1) (d : DI M1 t c) (f2 : fR M1 M2) (hs : ∀ i, i < 7 → M2 34 i = M2 40 i) : IV M2 t z sp c := by
  obtain ⟨hw, hsp, hE, hQ, ⟨hc, hcb, -⟩, hF, hK, hT, hH⟩ := h
  have g : ∀ b, (b < 17 ∨ b = 22 ∨ (24 ≤ b ∧ b ≤ 33) ∨ (36 ≤ b ∧ b < 39) ∨ 48 < b) → M2 b = M b := fun b hb => (f2 b (by omega)).trans (f1 b (by omega))
  refine ⟨hw, hsp, rE_eq hE (fun k hk => g _ (by omega)), ?_, ⟨by rw [g 2 (by omega)]; exact hc, hcb, DI_frc d (a := 39) (b := 48) (fun b hb => f2 b hb) (by omega)⟩, hs, RK_eq hK (g _ (by omega)) (by rw [g 36 (by omega)]) (fun b hb => g b (by omega)) (g _ (by omega)), RT_eq hT (by rw [g 24 (by omega)]) (by rw [g 36 (by omega)]) (g _ (by omega)) (g _ (by omega)), RH_eq hH (g _ (by omega)) (g _ (by omega)) (g _ (by omega)) (g _ (by omega)) (g _ (by omega)) (g _ (by omega))⟩
  unfold rQ
  rw [g 37 (by omega)]
  exact hQ
theorem IV.w (h : IV M t z sp c) : wfT t := h.1.1
theorem IV.o (h : IV M t z sp c) : wfO t := h.1.2
theorem IV.e (h : IV M t z sp c) : rE M 2 t z sp := h.2.2.1
theorem IV.q (h : IV M t z sp c) : rQ M 37 t z sp := h.2.2.2.1
theorem IV.s (h : IV M t z sp c) : rS M t := h.2.2.2.1.1
theorem IV.cc (h : IV M t z sp c) : M 2 9 = nI c := h.2.2.2.2.1.1
theorem IV.cb (h : IV M t z sp c) : c < 50000000 := h.2.2.2.2.1.2.1
theorem IV.d (h : IV M t z sp c) : DI M t c := h.2.2.2.2.1.2.2
theorem IV.f (h : IV M t z sp c) : RF M := h.2.2.2.2.2.1
theorem okV (h : IV M t z sp c) {C Q : (Nat → Nat → Int32) → RES} {r : Int32} {M1 : Nat → Nat → Int32} (hC : C M = some (some (.int r), (SH L, M1))) (f1 : fC M M1) (d : DI M1 t c) (s1 : M1 34 = M 34) (hQ : ∀ M1, rS M1 t → ∃ M2, Q M1 = some (some (.int r), (SH L, M2)) ∧ fR M1 M2 ∧ M2 40 = M1 40) : OK L M c C Q := by
  obtain ⟨M2, e2, f2, s2⟩ := hQ M1 (rS_fC h.s f1)
  refine ⟨r, M1, M2, hC, e2, t, z, sp, c, IV_q h f1 d f2 (fun i hi => ?_), by omega⟩
  rw [s2, f2 34 (by omega), f1 40 (by omega), s1]
  exact h.f i hi
theorem okF (h : IV M t z sp c) {C Q : (Nat → Nat → Int32) → RES} {x : Int32} {k : Nat} {M1 : Nat → Nat → Int32} (hC : C M = some (some (.int x), (SH L, upd2 M1 34 k (M1 34 k + nI 1)))) (f1 : fC M M1) (d : DI M1 t c) (s1 : M1 34 = M 34) (hQ : ∀ M1, rS M1 t → ∃ M2, Q M1 = some (some (.int x), (SH L, upd2 M2 40 k (M2 40 k + nI 1))) ∧ fR M1 M2 ∧ M2 40 = M1 40) : OK L M c C Q := by
  have f1' : fC M (upd2 M1 34 k (M1 34 k + nI 1)) := fC_tr f1 (fC_1 (frc_up frc_rf (by omega) (by omega)) (a := 34) (by omega))
  obtain ⟨M2, e2, f2, s2⟩ := hQ _ (rS_fC h.s f1')
  have f2' : fR (upd2 M1 34 k (M1 34 k + nI 1)) (upd2 M2 40 k (M2 40 k + nI 1)) := fR_tr f2 (fR_of (frc_up frc_rf (by omega) (by omega)) (a := 40) (b := 40) (by omega))
  refine ⟨x, _, _, hC, e2, t, z, sp, c, IV_q h f1' (DI_frc d (frc_up frc_rf (Nat.le_refl _) (Nat.le_refl _)) (a := 34) (b := 34) (by omega)) f2' (fun i hi => ?_), by omega⟩
  have e40 : M2 40 = M 40 := by rw [s2, f1' 40 (by omega)]
  have e34 : M2 34 = upd2 M1 34 k (M1 34 k + nI 1) 34 := f2 34 (by omega)
  by_cases q : i = k
  · subst q
    rw [upd2_ne (Or.inl (by omega)), upd2_eq, e34, upd2_eq, e40, s1, h.f i hi]
  · rw [upd2_ne (Or.inl (by omega)), upd2_ne (Or.inr q), e34, upd2_ne (Or.inr q), e40, s1]
    exact h.f i hi
theorem okF0 (h : IV M t z sp c) {C Q : (Nat → Nat → Int32) → RES} {x : Int32} {k : Nat} (hC : C M = some (some (.int x), (SH L, upd2 M 34 k (M 34 k + nI 1)))) (hQ : ∀ M1, rS M1 t → Q M1 = some (some (.int x), (SH L, upd2 M1 40 k (M1 40 k + nI 1)))) : OK L M c C Q :=
  okF h hC fC_rf h.d rfl (fun M1 h1 => ⟨M1, hQ M1 h1, fR_rf, rfl⟩)
theorem okV0 (h : IV M t z sp c) {C Q : (Nat → Nat → Int32) → RES} {r : Int32} (hC : C M = some (some (.int r), (SH L, M))) (hQ : ∀ M1, rS M1 t → Q M1 = some (some (.int r), (SH L, M1))) : OK L M c C Q :=
  okV h hC fC_rf h.d rfl (fun M1 h1 => ⟨M1, hQ M1 h1, fR_rf, rfl⟩)
end OKS
