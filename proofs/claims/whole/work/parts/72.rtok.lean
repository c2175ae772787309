/-! The reference reads tokens -/
theorem upd2_id {M : Nat → Nat → Int32} {a k : Nat} {x : Int32} (h : M a k = x) : upd2 M a k x = M := by
  funext c j
  unfold upd2
  by_cases q : c = a
  · rw [if_pos q]
    by_cases q2 : j = k
    · rw [if_pos q2, q, q2, h]
    · rw [if_neg q2]
  · rw [if_neg q]
theorem upd2_2 {M : Nat → Nat → Int32} {a k : Nat} {x y : Int32} : upd2 (upd2 M a k x) a k y = upd2 M a k y := by
  funext c j
  unfold upd2
  by_cases q : c = a
  · rw [if_pos q, if_pos q, if_pos q]
    by_cases q2 : j = k
    · rw [if_pos q2, if_pos q2]
    · rw [if_neg q2, if_neg q2, if_neg q2]
  · rw [if_neg q, if_neg q, if_neg q]
def byI (n : Nat) (b : Nat → Nat) (p : Nat) : Int32 := if p < n then nI (b p) else -1
section RTK
variable {L : Nat} {M : Nat → Nat → Int32} {n : Nat} {b : Nat → Nat}
theorem q_byteAt (hB : BT M 49 n b) (h14 : M 36 14 = nI n) {p : Nat} (hp : p < 1000) : R 198 0 [.ref 36, .int (nI p)] [] (SH L, M) = some (some (.int (byI n b p)), (SH L, M)) := by
  obtain ⟨h120, hb⟩ := hB
  unfold byI
  by_cases q : p < n
  · rw [if_pos q]
    simp (disch := omega) only [r198_0, r198_1, r198_2, r198_5, r198_8, r198_9, r198_12, r198_13, r198_14, r198_17, r198_18, h14, nI_le'', show ¬ n ≤ p from by omega, if_false, (hb p q).2]
  · rw [if_neg q]
    simp (disch := omega) only [r198_0, r198_1, r198_2, r198_5, r198_8, r198_9, r198_12, r198_13, r198_14, r198_17, r198_18, h14, nI_le'', show n ≤ p from by omega, if_true]
theorem m1_toInt : ((-1 : Int32)).toInt = -1 := by decide +kernel
theorem by_rng (hB : BT M 49 n b) {p lo hi : Nat} (hlo : lo < 1000) (hhi : hi < 1000) : (nI lo ≤ byI n b p ∧ byI n b p ≤ nI hi) = (p < n ∧ lo ≤ b p ∧ b p ≤ hi) := by
  unfold byI
  apply propext
  by_cases q : p < n
  · have := (hB.2 p q).1
    rw [if_pos q, nI_le'' (by omega) (by omega), nI_le'' (by omega) (by omega)]
    exact ⟨fun z => ⟨q, z⟩, fun z => z.2⟩
  · rw [if_neg q, Int32.le_iff_toInt_le, nI_toInt (by omega), m1_toInt]
    exact ⟨fun z => by omega, fun z => absurd z.1 q⟩
theorem so_1 {p : Nat} : (p < n ∧ 97 ≤ b p ∧ b p ≤ 122) = (soN n b p = 1) := by
  unfold soN
  apply propext
  by_cases q : p < n
  · rw [if_pos q, srt_1]; exact ⟨fun z => z.2, fun z => ⟨q, z⟩⟩
  · rw [if_neg q]; exact ⟨fun z => absurd z.1 q, fun z => by omega⟩
theorem so_2 {p : Nat} : (p < n ∧ 48 ≤ b p ∧ b p ≤ 57) = (soN n b p = 2) := by
  unfold soN
  apply propext
  by_cases q : p < n
  · rw [if_pos q, srt_2]; exact ⟨fun z => z.2, fun z => ⟨q, z⟩⟩
  · rw [if_neg q]; exact ⟨fun z => absurd z.1 q, fun z => by omega⟩
theorem q_isLetter (hB : BT M 49 n b) {p : Nat} {w : vW} : R 199 0 [.int (byI n b p)] [] w = some (some (.int (if soN n b p = 1 then nI 1 else nI 0)), w) := by
  simp only [r199_0, r199_1, r199_2, r199_5, r199_8, s_in32 (lo := nI 97) (hi := nI 122) (show (97 : Int64) = (nI 97).toInt64 from by decide +kernel) (show (122 : Int64) = (nI 122).toInt64 from by decide +kernel), by_rng hB (show 97 < 1000 by decide) (show 122 < 1000 by decide), so_1, Option.bind_some, vtl_some]
  simp only [um_R, r199_11_0, r199_11_1, mg_s]
theorem q_isDigit (hB : BT M 49 n b) {p : Nat} {w : vW} : R 200 0 [.int (byI n b p)] [] w = some (some (.int (if soN n b p = 2 then nI 1 else nI 0)), w) := by
  simp only [r200_0, r200_1, r200_2, r200_5, r200_8, s_in32 (lo := nI 48) (hi := nI 57) (show (48 : Int64) = (nI 48).toInt64 from by decide +kernel) (show (57 : Int64) = (nI 57).toInt64 from by decide +kernel), by_rng hB (show 48 < 1000 by decide) (show 57 < 1000 by decide), so_2, Option.bind_some, vtl_some]
  simp only [um_R, r200_11_0, r200_11_1, mg_s]
theorem by_eq (hB : BT M 49 n b) {p x : Nat} (hx : x < 1000) : (byI n b p = nI x) = (p < n ∧ b p = x) := by
  unfold byI
  apply propext
  by_cases q : p < n
  · have := (hB.2 p q).1
    rw [if_pos q, nI_eq' (by omega) (by omega)]
    exact ⟨fun z => ⟨q, z⟩, fun z => z.2⟩
  · rw [if_neg q, ← Int32.toInt_inj, nI_toInt (by omega), m1_toInt]
    exact ⟨fun z => by omega, fun z => absurd z.1 q⟩
theorem q_tok_1 (hB0 : BT M 49 n b) {v1 v2 : Value} : ∀ (f p : Nat) (M : Nat → Nat → Int32), BT M 49 n b → n - p ≤ f → p ≤ n → M 36 14 = nI n → M 36 15 = nI p → R 201 8 [.ref 36, v1, v2] [] (SH L, M) = R 201 34 [.ref 36, v1, v2] [] (SH L, upd2 M 36 15 (nI (skp n b p))) := by
  have h120 := hB0.1
  intro f
  induction f with
  | zero =>
    intro p M hB hf hp h14 h15
    have e : skp n b p = p := skp_o (fun z => by omega)
    rw [e, upd2_id h15, r201_8]
    simp (disch := omega) only [r201_9, r201_10, r201_13, r201_16, r201_18, h15, q_byteAt hB h14, Option.bind_some, vtl_some, by_eq hB, show ¬ (p < n ∧ b p = 32) from by omega, if_false]
  | succ f ih =>
    intro p M hB hf hp h14 h15
    rw [r201_8]
    simp (disch := omega) only [r201_9, r201_10, r201_13, r201_16, r201_18, h15, q_byteAt hB h14, Option.bind_some, vtl_some, by_eq hB]
    by_cases q : p < n ∧ b p = 32
    · rw [if_pos q]
      simp (disch := omega) only [r201_21, r201_22, r201_23, r201_26, r201_27, r201_28, r201_31, h15, nI_add]
      rw [ih (p + 1) (upd2 M 36 15 (nI (p + 1))) ⟨hB.1, fun i hi => by rw [upd2_ne (Or.inl (by omega))]; exact hB.2 i hi⟩ (by omega) (by omega) (by rw [upd2_ne (Or.inr (by omega))]; exact h14) upd2_eq, upd2_2, skp_s q.1 q.2]
    · rw [if_neg q, skp_o q, upd2_id h15]
theorem q_tok_2 {c : Nat} (hc : c = 1 ∨ c = 2) (h120 : n ≤ 120) : ∀ (k e : Nat) (M : Nat → Nat → Int32), BT M 49 n b → e + k = n → M 36 14 = nI n → M 36 16 = nI e → R 201 86 [.ref 36, .int (nI (if c = 1 then 1 else 0)), .int (nI (if c = 2 then 1 else 0))] [] (SH L, M) = some (none, (SH L, upd2 M 36 16 (nI (enF b c k e)))) := by
  intro k
  induction k with
  | zero =>
    intro e M hB he h14 h16
    have so : soN n b e = 0 := if_neg (by omega)
    rw [enF, upd2_id h16, r201_86]
    rcases hc with rfl | rfl
    · simp (disch := omega) only [r201_87, r201_90, r201_91, r201_92, r201_95, r201_98, r201_101, r201_104, r201_105, r201_108, r201_109, r201_110, r201_113, r201_116, r201_119, h16, q_byteAt hB h14, q_isLetter hB, so, if_true, if_false, Nat.reduceEqDiff, nz0, nz1, Option.bind_some, vtl_some, show ¬ (0 : Nat) = 1 from by decide, r201_135]
    · simp (disch := omega) only [r201_87, r201_90, r201_91, r201_92, r201_95, r201_98, r201_101, r201_104, r201_105, r201_108, r201_109, r201_110, r201_113, r201_116, r201_119, h16, q_byteAt hB h14, q_isDigit hB, so, if_true, if_false, Nat.reduceEqDiff, nz0, nz1, Option.bind_some, vtl_some, show ¬ (0 : Nat) = 2 from by decide, r201_135]
  | succ k ih =>
    intro e M hB he h14 h16
    have so : soN n b e = srt (b e) := if_pos (by omega)
    have iH := fun M' hB' => ih (e + 1) M' hB' (by omega)
    rw [enF, r201_86]
    rcases hc with rfl | rfl
    · simp (disch := omega) only [r201_87, r201_90, r201_91, r201_92, r201_95, r201_98, r201_101, h16, q_byteAt hB h14, q_isLetter hB, so, if_true, if_false, Nat.reduceEqDiff, nz0, nz1, Option.bind_some, vtl_some, b2_eq0, ite_not2]
      by_cases q : srt (b e) = 1
      · rw [if_pos q, if_pos q]
        simp (disch := omega) only [r201_122, r201_123, r201_124, r201_127, r201_128, r201_129, r201_132, h16, nI_add]
        have := iH (upd2 M 36 16 (nI (e + 1))) ⟨hB.1, fun i hi => by rw [upd2_ne (Or.inl (by omega))]; exact hB.2 i hi⟩ (by rw [upd2_ne (Or.inr (by omega))]; exact h14) upd2_eq
        simp only [if_true, Nat.reduceEqDiff, if_false] at this
        rw [this, upd2_2]
      · rw [if_neg q, if_neg q]
        simp (disch := omega) only [r201_104, r201_105, r201_135, nz0, if_true]
        rw [upd2_id h16]
    · simp (disch := omega) only [r201_87, r201_90, r201_91, r201_92, r201_95, r201_98, r201_101, r201_104, r201_105, r201_108, r201_109, r201_110, r201_113, r201_116, r201_119, h16, q_byteAt hB h14, q_isDigit hB, so, if_true, if_false, Nat.reduceEqDiff, nz0, nz1, Option.bind_some, vtl_some, b2_eq0, ite_not2]
      by_cases q : srt (b e) = 2
      · rw [if_pos q, if_pos q]
        simp (disch := omega) only [r201_122, r201_123, r201_124, r201_127, r201_128, r201_129, r201_132, h16, nI_add]
        have := iH (upd2 M 36 16 (nI (e + 1))) ⟨hB.1, fun i hi => by rw [upd2_ne (Or.inl (by omega))]; exact hB.2 i hi⟩ (by rw [upd2_ne (Or.inr (by omega))]; exact h14) upd2_eq
        simp only [if_true, Nat.reduceEqDiff, if_false] at this
        rw [this, upd2_2]
      · rw [if_neg q, if_neg q]
        simp (disch := omega) only [r201_135]
        rw [upd2_id h16]
theorem q_token (hB : BT M 49 n b) (h14 : M 36 14 = nI n) {p : Nat} (hp : p ≤ n) (h16 : M 36 16 = nI p) : R 201 0 [.ref 36, .null, .null] [] (SH L, M) = some (none, (SH L, upd2 (upd2 M 36 15 (nI (skp n b p))) 36 16 (nI (toE n b (skp n b p))))) := by
  have h120 := hB.1
  obtain ⟨s1, s2, s3⟩ := skp_b (b := b) hp
  have hB1 : BT (upd2 M 36 15 (nI p)) 49 n b := ⟨h120, fun i hi => by rw [upd2_ne (Or.inl (by omega))]; exact hB.2 i hi⟩
  have t1 := q_tok_1 (L := L) hB (v1 := .null) (v2 := .null) n p (upd2 M 36 15 (nI p)) hB1 (by omega) hp (by rw [upd2_ne (Or.inr (by omega))]; exact h14) upd2_eq
  rw [upd2_2] at t1
  simp only [r201_0, r201_1, r201_2, r201_5, h16]
  rw [t1]
  generalize hq : skp n b p = q at s1 s2 s3
  have hB2 : BT (upd2 M 36 15 (nI q)) 49 n b := ⟨h120, fun i hi => by rw [upd2_ne (Or.inl (by omega))]; exact hB.2 i hi⟩
  have a14 : upd2 M 36 15 (nI q) 36 14 = nI n := by rw [upd2_ne (Or.inr (by omega))]; exact h14
  have a15 : upd2 M 36 15 (nI q) 36 15 = nI q := upd2_eq
  have mid : R 201 34 [.ref 36, .null, .null] [] (SH L, upd2 M 36 15 (nI q)) = R 201 86 [.ref 36, .int (nI (if soN n b q = 1 then 1 else 0)), .int (nI (if soN n b q = 2 then 1 else 0))] [] (SH L, upd2 (upd2 M 36 15 (nI q)) 36 16 (nI (if q < n then q + 1 else q))) := by
    simp (disch := omega) only [r201_34, r201_35, r201_36, r201_39, r201_42, r201_45, r201_46, r201_47, r201_48, r201_51, r201_54, r201_57, r201_58, r201_59, r201_60, r201_63, r201_64, r201_67, a15, q_byteAt hB2 a14, q_isLetter hB2, q_isDigit hB2, a14, nI_le'', Option.bind_some, vtl_some, mg_n]
    by_cases y : n ≤ q
    · rw [if_pos y, if_neg (show ¬ q < n by omega)]
      simp (disch := omega) only [r201_79, r201_80, r201_83, a15]
    · rw [if_neg y, if_pos (show q < n by omega)]
      simp (disch := omega) only [r201_70, r201_71, r201_74, r201_75, r201_76, r201_83, a15, nI_add]
  rw [mid]
  have u16 : ∀ e, upd2 (upd2 M 36 15 (nI q)) 36 16 (nI e) 36 16 = nI e := fun e => upd2_eq
  have hB3 : ∀ e, BT (upd2 (upd2 M 36 15 (nI q)) 36 16 (nI e)) 49 n b := fun e => ⟨h120, fun i hi => by rw [upd2_ne (Or.inl (by omega))]; exact hB2.2 i hi⟩
  have u14 : ∀ e, upd2 (upd2 M 36 15 (nI q)) 36 16 (nI e) 36 14 = nI n := fun e => by rw [upd2_ne (Or.inr (by omega))]; exact a14
  by_cases y : q < n
  · have so : soN n b q = srt (b q) := if_pos y
    rw [if_pos y, so]
    unfold toE
    rw [if_pos y]
    unfold ten
    by_cases c1 : srt (b q) = 1 ∨ srt (b q) = 2
    · rw [if_pos c1]
      have := q_tok_2 (L := L) c1 h120 (n - (q + 1)) (q + 1) _ (hB3 (q + 1)) (by omega) (u14 _) (u16 _)
      rw [this, upd2_2]
    · rw [if_neg c1, if_neg (fun z => c1 (Or.inl z)), if_neg (fun z => c1 (Or.inr z)), r201_86]
      simp (disch := omega) only [r201_87, r201_90, r201_91, r201_92, r201_95, r201_98, r201_101, r201_104, r201_105, r201_135, nz0, if_true]
  · have so : soN n b q = 0 := if_neg y
    rw [if_neg y, so]
    unfold toE
    rw [if_neg y, if_neg (by decide), if_neg (by decide), r201_86]
    simp (disch := omega) only [r201_87, r201_90, r201_91, r201_92, r201_95, r201_98, r201_101, r201_104, r201_105, r201_135, nz0, if_true]
/-- the reference stands at a token; wrong or not -/
def RX (M : Nat → Nat → Int32) (n : Nat) (b : Nat → Nat) (W p : Nat) : Prop := BT M 49 n b ∧ M 36 14 = nI n ∧ M 36 15 = nI p ∧ M 36 16 = nI (toE n b p) ∧ M 36 18 = nI W ∧ p ≤ n ∧ W < 2
def fX (M M' : Nat → Nat → Int32) : Prop := ∀ k i, (k ≠ 36 ∨ i < 15 ∨ 18 < i) → M' k i = M k i
theorem fX_rf {M : Nat → Nat → Int32} : fX M M := fun _ _ _ => rfl
theorem fX_tr {M M1 M2 : Nat → Nat → Int32} (h1 : fX M M1) (h2 : fX M1 M2) : fX M M2 := fun k i h => (h2 k i h).trans (h1 k i h)
theorem fX_up {M M1 : Nat → Nat → Int32} (h : fX M M1) {i : Nat} {x : Int32} (hi : 15 ≤ i ∧ i ≤ 18) : fX M (upd2 M1 36 i x) := fun k j hk => by rw [upd2_ne (by omega)]; exact h k j hk
theorem RX_o {W p : Nat} {M' : Nat → Nat → Int32} (h : RX M n b W p) (h49 : ∀ i, M' 49 i = M 49 i) (h36 : ∀ i, 14 ≤ i → i ≤ 18 → i ≠ 17 → M' 36 i = M 36 i) : RX M' n b W p := ⟨⟨h.1.1, fun i hi => by rw [h49]; exact h.1.2 i hi⟩, by rw [h36 14 (by omega) (by omega) (by omega)]; exact h.2.1, by rw [h36 15 (by omega) (by omega) (by omega)]; exact h.2.2.1, by rw [h36 16 (by omega) (by omega) (by omega)]; exact h.2.2.2.1, by rw [h36 18 (by omega) (by omega) (by omega)]; exact h.2.2.2.2.1, h.2.2.2.2.2⟩
theorem q_needs {W p : Nat} (h : RX M n b W p) {c : Nat} (hc : c < 2) : ∃ M', R 202 0 [.ref 36, .int (nI c)] [] (SH L, M) = some (none, (SH L, M')) ∧ fX M M' ∧ M' 36 17 = M 36 17 ∧ (W = 0 ∧ c = 1 → RX M' n b 0 (nxp n b p)) ∧ (¬ (W = 0 ∧ c = 1) → RX M' n b 1 p) := by
  obtain ⟨hB, h14, h15, h16, h18, hp, hW⟩ := id h
  have h120 := hB.1
  have te := toE_b (b := b) hp
  by_cases q : W = 0 ∧ c = 1
  · obtain ⟨rfl, rfl⟩ := q
    have hB1 : BT (upd2 M 36 18 (nI 0)) 49 n b := ⟨h120, fun i hi => by rw [upd2_ne (Or.inl (by omega))]; exact hB.2 i hi⟩
    have tok := q_token (L := L) hB1 (by rw [upd2_ne (Or.inr (by omega))]; exact h14) te.2 (by rw [upd2_ne (Or.inr (by omega))]; exact h16)
    have u18 : upd2 M 36 18 (nI 0) 36 18 = nI 0 := upd2_eq
    refine ⟨upd2 (upd2 (upd2 M 36 18 (nI 0)) 36 15 (nI (skp n b (toE n b p)))) 36 16 (nI (toE n b (skp n b (toE n b p)))), ?_, fX_up (fX_up (fX_up fX_rf (by omega)) (by omega)) (by omega), ?_, fun _ => ⟨⟨h120, fun i hi => ?_⟩, ?_, ?_, ?_, ?_, ?_, by omega⟩, fun z => absurd ⟨rfl, rfl⟩ z⟩
    · simp (disch := omega) only [r202_0, r202_1, r202_2, r202_5, r202_8, r202_9, r202_12, r202_13, r202_16, r202_17_0, r202_17_1, r202_20, r202_21, r202_24, r202_27, r202_28, r202_31, h18, nz0, nz1, if_true, if_false, u18, tok, Option.bind_some, vtl_none]
    · simp (disch := omega) only [upd2_ne]
    · simp (disch := omega) only [upd2_ne]; exact hB.2 i hi
    · simp (disch := omega) only [upd2_ne]; exact h14
    · rw [nxp_eq hp]; simp (disch := omega) only [upd2_ne, upd2_eq]
    · rw [nxp_eq hp]; simp (disch := omega) only [upd2_eq]
    · simp (disch := omega) only [upd2_ne, upd2_eq]
    · exact (nxp_b hp).2.1
  · refine ⟨upd2 M 36 18 (nI 1), ?_, fX_up fX_rf (by omega), upd2_ne (Or.inr (by omega)), fun z => absurd z q, fun _ => ⟨⟨h120, fun i hi => by rw [upd2_ne (Or.inl (by omega))]; exact hB.2 i hi⟩, by rw [upd2_ne (Or.inr (by omega))]; exact h14, by rw [upd2_ne (Or.inr (by omega))]; exact h15, by rw [upd2_ne (Or.inr (by omega))]; exact h16, upd2_eq, hp, by omega⟩⟩
    have u18 : upd2 M 36 18 (nI 1) 36 18 = nI 1 := upd2_eq
    have cW : W = 0 ∨ W = 1 := by omega
    have cc : c = 0 ∨ c = 1 := by omega
    rcases cW with rfl | rfl <;> rcases cc with rfl | rfl
    · simp (disch := omega) only [r202_0, r202_1, r202_2, r202_5, r202_8, r202_9, r202_12, r202_13, r202_16, r202_17_0, r202_17_1, r202_20, r202_21, r202_24, r202_27, r202_28, r202_31, h18, nz0, nz1, if_true, if_false, u18]
    · exact absurd ⟨rfl, rfl⟩ q
    · simp (disch := omega) only [r202_0, r202_1, r202_2, r202_5, r202_8, r202_9, r202_12, r202_13, r202_16, r202_17_0, r202_17_1, r202_20, r202_21, r202_24, r202_27, r202_28, r202_31, h18, nz0, nz1, if_true, if_false, u18]
    · simp (disch := omega) only [r202_0, r202_1, r202_2, r202_5, r202_8, r202_9, r202_12, r202_13, r202_16, r202_17_0, r202_17_1, r202_20, r202_21, r202_24, r202_27, r202_28, r202_31, h18, nz0, nz1, if_true, if_false, u18]
theorem q_word_1 {W p : Nat} (h : RX M n b W p) : ∀ (k j : Nat) (v : Int64), p + j + k = toE n b p → ∃ v', R 203 7 [.ref 36, .long v, .null, .int (nI (p + j))] [] (SH L, M) = R 203 50 [.ref 36, .long v', .null, .int (nI (toE n b p))] [] (SH L, M) := by
  obtain ⟨hB, h14, h15, h16, h18, hp, hW⟩ := id h
  have h120 := hB.1
  have te := toE_b (b := b) hp
  intro k
  induction k with
  | zero =>
    intro j v hj
    refine ⟨v, ?_⟩
    rw [r203_7]
    simp (disch := omega) only [r203_8, r203_9, r203_12, h16, nI_le'', show toE n b p ≤ p + j from by omega, if_true]
    rw [show p + j = toE n b p by omega]
  | succ k ih =>
    intro j v hj
    have b2 := (hB.2 (p + j) (by omega)).2
    by_cases q : lg_cmp v 36028797018963967 ≤ 0
    · obtain ⟨v', e⟩ := ih (j + 1) (32 * v + (nI (b (p + j)) - nI 96).toInt64) (by omega)
      refine ⟨v', ?_⟩
      rw [← e, r203_7]
      simp (disch := omega) only [r203_8, r203_9, r203_12, r203_15, r203_16, r203_19, r203_20, r203_23, r203_24, r203_27, r203_30, r203_31, r203_32, r203_33, r203_36, r203_37, r203_38, r203_40, r203_41, r203_42, h16, nI_le'', show ¬ toE n b p ≤ p + j from by omega, if_false, if_pos q, b2]
      simp only [r203_43, r203_44, r203_47, nI_add, Nat.add_assoc]
    · obtain ⟨v', e⟩ := ih (j + 1) v (by omega)
      refine ⟨v', ?_⟩
      rw [← e, r203_7]
      simp (disch := omega) only [r203_8, r203_9, r203_12, r203_15, r203_16, r203_19, r203_20, r203_23, r203_24, r203_27, r203_30, r203_31, r203_32, r203_33, r203_36, r203_37, r203_38, r203_40, r203_41, r203_42, h16, nI_le'', show ¬ toE n b p ≤ p + j from by omega, if_false, if_neg q]
      simp only [r203_43, r203_44, r203_47, nI_add, Nat.add_assoc]
theorem q_word_2 {W p : Nat} (h : RX M n b W p) (h1 : p < n) (hs : srt (b p) = 1) : ∀ (k j : Nat), p + j + k = toE n b p → R 203 7 [.ref 36, .long (lN (woV b p j)), .null, .int (nI (p + j))] [] (SH L, M) = R 203 50 [.ref 36, .long (lN (woV b p (toE n b p - p))), .null, .int (nI (toE n b p))] [] (SH L, M) := by
  obtain ⟨hB, h14, h15, h16, h18, hp, hW⟩ := id h
  have h120 := hB.1
  have te := toE_b (b := b) hp
  have et : toE n b p = ten n b p := if_pos h1
  have lt := (ten_b (b := b) h1).2.2 (Or.inl hs)
  intro k
  induction k with
  | zero =>
    intro j hj
    rw [r203_7]
    simp (disch := omega) only [r203_8, r203_9, r203_12, h16, nI_le'', show toE n b p ≤ p + j from by omega, if_true]
    rw [show p + j = toE n b p by omega, show toE n b p - p = j by omega]
  | succ k ih =>
    intro j hj
    have b2 := (hB.2 (p + j) (by omega)).2
    have b1 := srt_1.mp ((lt (p + j) (by omega) (by omega)).trans hs)
    have wl := woV_le (b := b) (p := p) j (fun i hi => by have := (hB.2 (p + i) (by omega)).1; omega)
    have e := ih (j + 1) (by omega)
    rw [woV] at e
    have cg : (lg_cmp (lN (woV b p j)) 36028797018963967 ≤ 0) = ¬ (36028797018963967 < woV b p j) := by
      rw [show (36028797018963967 : Int64) = lN 36028797018963967 from by decide +kernel]
      apply propext
      rw [lg_cmp_le, pk_lLE (by omega) (by omega)]
      omega
    rw [← e, r203_7]
    by_cases q : 36028797018963967 < woV b p j
    · rw [if_pos q]
      simp (disch := omega) only [r203_8, r203_9, r203_12, r203_15, r203_16, r203_19, r203_20, r203_23, r203_24, r203_27, r203_30, r203_31, r203_32, r203_33, r203_36, r203_37, r203_38, r203_40, r203_41, r203_42, h16, nI_le'', show ¬ toE n b p ≤ p + j from by omega, if_false, if_neg (show ¬ lg_cmp (lN (woV b p j)) 36028797018963967 ≤ 0 from by rw [cg]; exact fun z => z q)]
      simp only [r203_43, r203_44, r203_47, nI_add, Nat.add_assoc]
    · rw [if_neg q]
      have l32 : (32 : Int64) = lN 32 := by decide +kernel
      simp (disch := omega) only [r203_8, r203_9, r203_12, r203_15, r203_16, r203_19, r203_20, r203_23, r203_24, r203_27, r203_30, r203_31, r203_32, r203_33, r203_36, r203_37, r203_38, r203_40, r203_41, r203_42, h16, nI_le'', show ¬ toE n b p ≤ p + j from by omega, if_false, if_pos (show lg_cmp (lN (woV b p j)) 36028797018963967 ≤ 0 from by rw [cg]; exact q), b2, pk_sub (show 96 ≤ b (p + j) by omega), nI_l, l32, lN_mul, lN_add]
      simp only [r203_43, r203_44, r203_47, nI_add, Nat.add_assoc]
def wrd (n : Nat) (b : Nat → Nat) (W p : Nat) : Nat := if W = 0 ∧ soN n b p = 1 then woV b p (ten n b p - p) else 0
theorem wrd_lt {W p : Nat} (h : RX M n b W p) : wrd n b W p < 2 ^ 62 := by
  obtain ⟨hB, h14, h15, h16, h18, hp, hW⟩ := id h
  unfold wrd
  by_cases q : W = 0 ∧ soN n b p = 1
  · rw [if_pos q]
    have h1 : p < n := by
      rcases Nat.lt_or_ge p n with y | y
      · exact y
      · have := q.2; unfold soN at this; rw [if_neg (by omega)] at this; omega
    have te := ten_b (b := b) h1
    have := woV_le (b := b) (p := p) (ten n b p - p) (fun i hi => by have := (hB.2 (p + i) (by omega)).1; omega)
    omega
  · rw [if_neg q]; omega
theorem q_word {W p : Nat} (h : RX M n b W p) : R 203 0 [.ref 36, .null, .null, .null] [] (SH L, M) = some (some (.long (lN (wrd n b W p))), (SH L, M)) := by
  obtain ⟨hB, h14, h15, h16, h18, hp, hW⟩ := id h
  have h120 := hB.1
  have te := toE_b (b := b) hp
  have l0 : (0 : Int64) = lN 0 := by decide +kernel
  unfold wrd
  by_cases q : soN n b p = 1
  · have h1 : p < n := by
      rcases Nat.lt_or_ge p n with y | y
      · exact y
      · unfold soN at q; rw [if_neg (by omega)] at q; omega
    have hs : srt (b p) = 1 := by unfold soN at q; rw [if_pos h1] at q; exact q
    have et : toE n b p = ten n b p := if_pos h1
    have e := q_word_2 (L := L) h h1 hs (toE n b p - p) 0 (by omega)
    rw [woV, Nat.add_zero] at e
    simp only [r203_0, r203_1, r203_2, r203_3, r203_6, h15, l0]
    rw [e]
    have cW : W = 0 ∨ W = 1 := by omega
    rcases cW with rfl | rfl
    · rw [if_pos ⟨rfl, q⟩, ← et]
      simp (disch := omega) only [r203_50, r203_51, r203_54, r203_57, r203_58, r203_59, r203_62, r203_65, r203_68, r203_71, r203_72, r203_75, r203_76, h18, nz0, if_true, h15, q_byteAt hB h14, q_isLetter hB, if_pos q, nz1, if_false, Option.bind_some, vtl_some]
    · rw [if_neg (fun z => absurd z.1 (by decide))]
      simp (disch := omega) only [r203_50, r203_51, r203_54, r203_57, r203_58, r203_59, r203_62, r203_65, r203_68, r203_71, r203_72, r203_75, r203_76, h18, nz1, if_false, l0]
  · obtain ⟨v', e⟩ := q_word_1 (L := L) h (toE n b p - p) 0 0 (by omega)
    rw [Nat.add_zero] at e
    simp only [r203_0, r203_1, r203_2, r203_3, r203_6, h15]
    rw [e, if_neg (fun z => q z.2)]
    have cW : W = 0 ∨ W = 1 := by omega
    rcases cW with rfl | rfl
    · simp (disch := omega) only [r203_50, r203_51, r203_54, r203_57, r203_58, r203_59, r203_62, r203_65, r203_68, r203_71, r203_72, r203_75, r203_76, h18, nz0, if_true, h15, q_byteAt hB h14, q_isLetter hB, if_neg q, Option.bind_some, vtl_some, l0]
    · simp (disch := omega) only [r203_50, r203_51, r203_54, r203_57, r203_58, r203_59, r203_62, r203_65, r203_68, r203_71, r203_72, r203_75, r203_76, h18, nz1, if_false, l0]
end RTK
