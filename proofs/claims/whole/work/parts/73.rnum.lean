/-! What a text tells, as a function; the reference's numbers and words -/
def nxI (n : Nat) (b : Nat → Nat) (p : Nat) : Nat → Nat
  | 0 => p
  | k + 1 => nxp n b (nxI n b p k)
abbrev vaN (n : Nat) (b : Nat → Nat) (p : Nat) : Nat → Nat := fun j => nuN n b (nxI n b p j)
def isW (n : Nat) (b : Nat → Nat) (w p : Nat) : Bool := soN n b p == 1 && nuN n b p == w
def isM (n : Nat) (b : Nat → Nat) (m p : Nat) : Bool := soN n b p == 2 && decide (nuN n b p ≤ m)
def trM (n : Nat) (b : Nat → Nat) (first p : Nat) : Nat → Nat → Bool × Nat
  | 0, m => (true, m)
  | k + 1, m => if soN n b (nxI n b p m) = 2 then (if nuN n b (nxI n b p m) ≤ bmo (first + m) then trM n b first p k (m + 1) else (false, m)) else (true, m)
def setW (t : Nat → Nat) (base m : Nat) (f : Nat → Nat) : Nat → Nat := fun i => if base ≤ i ∧ i < base + m then f (i - base) else t i
abbrev PR : Type := Bool × Nat × (Nat → Nat)
def pE (n : Nat) (b : Nat → Nat) (base p : Nat) (t : Nat → Nat) : PR :=
  if isW n b 9 p = true then ((trM n b 2 (nxp n b p) 2 0).1 && decide (2 ≤ (trM n b 2 (nxp n b p) 2 0).2), nxI n b (nxp n b p) (trM n b 2 (nxp n b p) 2 0).2, setW t (base + 2) (trM n b 2 (nxp n b p) 2 0).2 (vaN n b (nxp n b p))) else (true, p, t)
def pWs (n : Nat) (b : Nat → Nat) (base p : Nat) (t : Nat → Nat) : PR :=
  if isW n b 8 p = true then (if ((trM n b 4 (nxp n b p) 4 0).1 && decide (1 ≤ (trM n b 4 (nxp n b p) 4 0).2)) = true then pE n b base (nxI n b (nxp n b p) (trM n b 4 (nxp n b p) 4 0).2) (setW t (base + 4) (trM n b 4 (nxp n b p) 4 0).2 (vaN n b (nxp n b p))) else (false, nxI n b (nxp n b p) (trM n b 4 (nxp n b p) 4 0).2, t)) else pE n b base p t
def pPart (n : Nat) (b : Nat → Nat) (p : Nat) (t : Nat → Nat) : PR :=
  if 9 ≤ t 1 then (false, p, t) else if isW n b 7 (nxp n b p) = true then (if isM n b 4 (nxp n b (nxp n b p)) = true then pWs n b (9 + 8 * t 1) (nxp n b (nxp n b (nxp n b p))) (addT t (nuN n b p) (nuN n b (nxp n b (nxp n b p)))) else (false, nxp n b (nxp n b p), t)) else (false, nxp n b p, t)
def heM (n : Nat) (b : Nat → Nat) (p : Nat) : Nat → Nat → Nat → Bool × Nat × Nat
  | 0, m, s => (true, m, s)
  | k + 1, m, s => if soN n b (nxI n b p m) = 2 then (if nuN n b (nxI n b p m) ≤ 3 ∧ ¬ s.testBit (nuN n b (nxI n b p m)) = true then heM n b p k (m + 1) (s ||| 2 ^ nuN n b (nxI n b p m)) else (false, m, s)) else (true, m, s)
def hoT (t : Nat → Nat) (m : Nat) (f : Nat → Nat) : Nat → Nat := fun k => if k = 2 then m else if 5 ≤ k ∧ k < 5 + m then f (k - 5) else if 5 ≤ k ∧ k < 9 then k - 5 else t k
def pHeirs (n : Nat) (b : Nat → Nat) (p : Nat) (t : Nat → Nat) : PR :=
  ((heM n b (nxp n b p) 4 0 0).1 && decide ((heM n b (nxp n b p) 4 0 0).2.1 ≠ 0) && decide ((heM n b (nxp n b p) 4 0 0).2.2 = 2 ^ (heM n b (nxp n b p) 4 0 0).2.1 - 1), nxI n b (nxp n b p) (heM n b (nxp n b p) 4 0 0).2.1, hoT t (heM n b (nxp n b p) 4 0 0).2.1 (vaN n b (nxp n b p)))
def pKnows (n : Nat) (b : Nat → Nat) (p : Nat) (t : Nat → Nat) : PR :=
  if isM n b 3 (nxp n b p) = true then (true, nxp n b (nxp n b p), ut t 3 (t 3 ||| 2 ^ nuN n b (nxp n b p))) else (false, nxp n b p, t)
def pItem (n : Nat) (b : Nat → Nat) (p : Nat) (t : Nat → Nat) : PR :=
  if soN n b p = 1 then (if nuN n b p < 7 then pPart n b p t else if nuN n b p = 10 then pHeirs n b p t else if nuN n b p = 11 then pKnows n b p t else (false, p, t)) else (false, p, t)
section PUR
variable {n : Nat} {b : Nat → Nat}
theorem isW_iff {w p : Nat} : isW n b w p = true ↔ soN n b p = 1 ∧ nuN n b p = w := by
  unfold isW
  rw [Bool.and_eq_true, beq_iff_eq, beq_iff_eq]
theorem isM_iff {m p : Nat} : isM n b m p = true ↔ soN n b p = 2 ∧ nuN n b p ≤ m := by
  unfold isM
  rw [Bool.and_eq_true, beq_iff_eq, decide_eq_true_eq]
theorem nxI_b {p : Nat} (h : p ≤ n) : ∀ k, p ≤ nxI n b p k ∧ nxI n b p k ≤ n := by
  intro k
  induction k with
  | zero => exact ⟨Nat.le_refl _, h⟩
  | succ k ih =>
    have := nxp_b (b := b) ih.2
    show p ≤ nxp n b (nxI n b p k) ∧ nxp n b (nxI n b p k) ≤ n
    omega
theorem so_lt {p c : Nat} (h : soN n b p = c) (hc : 0 < c) : p < n := by
  rcases Nat.lt_or_ge p n with y | y
  · exact y
  · unfold soN at h; rw [if_neg (by omega)] at h; omega
theorem so_le (p : Nat) : soN n b p ≤ 4 := by
  unfold soN
  split
  · exact (srt_le _).2
  · omega
theorem woN_le (v : Nat) : woN v ≤ 12 := by
  unfold woN
  repeat' split
  all_goals omega
theorem nu_le (p : Nat) : nuN n b p ≤ 1000 := by
  unfold nuN
  have := woN_le (woV b p (ten n b p - p))
  have := nuV_le b p (ten n b p - p)
  split
  · split
    · omega
    · split <;> omega
  · omega
theorem nu_w {p : Nat} (h : soN n b p = 1) : nuN n b p = woN (woV b p (ten n b p - p)) := by
  have hp := so_lt h (by decide)
  have hs : srt (b p) = 1 := by unfold soN at h; rw [if_pos hp] at h; exact h
  unfold nuN
  rw [if_pos hp, if_pos hs]
theorem nu_n {p : Nat} (h : soN n b p = 2) : nuN n b p = nuV b p (ten n b p - p) := by
  have hp := so_lt h (by decide)
  have hs : srt (b p) = 2 := by unfold soN at h; rw [if_pos hp] at h; exact h
  unfold nuN
  rw [if_pos hp, if_neg (by omega), if_pos hs]
theorem trM_le {first p : Nat} : ∀ k m, m ≤ (trM n b first p k m).2 ∧ (trM n b first p k m).2 ≤ m + k := by
  intro k
  induction k with
  | zero => intro m; exact ⟨Nat.le_refl _, Nat.le_refl _⟩
  | succ k ih =>
    intro m
    rw [trM]
    split
    · split
      · have := ih (m + 1); omega
      · exact ⟨Nat.le_refl _, by show m ≤ m + (k + 1); omega⟩
    · exact ⟨Nat.le_refl _, by show m ≤ m + (k + 1); omega⟩
theorem trM_v {first p : Nat} : ∀ k m, ∀ j, m ≤ j → j < (trM n b first p k m).2 → soN n b (nxI n b p j) = 2 ∧ nuN n b (nxI n b p j) ≤ bmo (first + j) := by
  intro k
  induction k with
  | zero => intro m j h1 h2; exact absurd h2 (by show ¬ j < m; omega)
  | succ k ih =>
    intro m j h1 h2
    rw [trM] at h2
    by_cases q : soN n b (nxI n b p m) = 2
    · rw [if_pos q] at h2
      by_cases q2 : nuN n b (nxI n b p m) ≤ bmo (first + m)
      · rw [if_pos q2] at h2
        by_cases e : j = m
        · subst e; exact ⟨q, q2⟩
        · exact ih (m + 1) j (by omega) h2
      · rw [if_neg q2] at h2; exact absurd h2 (by show ¬ j < m; omega)
    · rw [if_neg q] at h2; exact absurd h2 (by show ¬ j < m; omega)
theorem setW_0 {t : Nat → Nat} {base : Nat} {f : Nat → Nat} : setW t base 0 f = t := by
  funext i
  unfold setW
  rw [if_neg (by omega)]
theorem setW_s {t : Nat → Nat} {base m : Nat} {f : Nat → Nat} : ut (setW t base m f) (base + m) (f m) = setW t base (m + 1) f := by
  funext i
  show (if i = base + m then f m else (if base ≤ i ∧ i < base + m then f (i - base) else t i)) = (if base ≤ i ∧ i < base + (m + 1) then f (i - base) else t i)
  by_cases q : i = base + m
  · rw [if_pos q, if_pos (by omega), show i - base = m by omega]
  · rw [if_neg q]
    by_cases q2 : base ≤ i ∧ i < base + m
    · rw [if_pos q2, if_pos (by omega)]
    · rw [if_neg q2, if_neg (by omega)]
theorem setW_o {t : Nat → Nat} {base m i : Nat} {f : Nat → Nat} (h : i < base ∨ base + m ≤ i) : setW t base m f i = t i := if_neg (by omega)
theorem setW_i {t : Nat → Nat} {base m j : Nat} {f : Nat → Nat} (h : j < m) : setW t base m f (base + j) = f j := by
  unfold setW
  rw [if_pos (by omega), Nat.add_sub_cancel_left]
theorem setW_wf {t : Nat → Nat} {f : Nat → Nat} {part first : Nat} (hp : part < 9) : ∀ m, first + m ≤ 8 → (∀ j, j < m → f j ≤ bmo (first + j)) → wfT t → wfT (setW t (9 + 8 * part + first) m f) := by
  intro m
  induction m with
  | zero => intro _ _ h; rw [setW_0]; exact h
  | succ m ih =>
    intro hm hf h
    rw [← setW_s, show 9 + 8 * part + first + m = 9 + 8 * part + (first + m) by omega]
    exact ut_wf (ih (by omega) (fun j hj => hf j (by omega)) h) hp (by omega) (hf m (by omega))
end PUR
section RNM
variable {L : Nat} {M : Nat → Nat → Int32} {n : Nat} {b : Nat → Nat}
theorem q_isNumberHere {W p : Nat} (h : RX M n b W p) : R 206 0 [.ref 36] [] (SH L, M) = some (some (.int (if W = 0 ∧ soN n b p = 2 then nI 1 else nI 0)), (SH L, M)) := by
  obtain ⟨hB, h14, h15, h16, h18, hp, hW⟩ := id h
  have h120 := hB.1
  have cW : W = 0 ∨ W = 1 := by omega
  rcases cW with rfl | rfl
  · by_cases q : soN n b p = 2
    · rw [if_pos ⟨rfl, q⟩]
      simp (disch := omega) only [r206_0, r206_1, r206_4, r206_7, r206_8, r206_9, r206_12, r206_15, r206_18, r206_21, r206_22, r206_25, r206_26_0, r206_26_1, h18, nz0, nz1, if_true, if_false, h15, q_byteAt hB h14, q_isDigit hB, Option.bind_some, vtl_some, if_pos q]
    · rw [if_neg (fun z => q z.2)]
      simp (disch := omega) only [r206_0, r206_1, r206_4, r206_7, r206_8, r206_9, r206_12, r206_15, r206_18, r206_21, r206_22, r206_25, r206_26_0, r206_26_1, h18, nz0, nz1, if_true, if_false, h15, q_byteAt hB h14, q_isDigit hB, Option.bind_some, vtl_some, if_neg q]
  · rw [if_neg (fun z => absurd z.1 (by decide))]
    simp (disch := omega) only [r206_0, r206_1, r206_4, r206_7, r206_8, r206_9, r206_12, r206_15, r206_18, r206_21, r206_22, r206_25, r206_26_0, r206_26_1, h18, nz1, if_false]
theorem q_num_1 {W p : Nat} (h : RX M n b W p) (hs : soN n b p = 2) {v1 v2 : Value} : ∀ (k j : Nat), p + j + k = toE n b p → R 204 29 [.ref 36, v1, v2, .int (nI 1), .int (nI (nrV b p j)), .int (nI (p + j))] [] (SH L, M) = R 204 79 [.ref 36, v1, v2, .int (nI 1), .int (nI (nrV b p (toE n b p - p))), .int (nI (toE n b p))] [] (SH L, M) := by
  obtain ⟨hB, h14, h15, h16, h18, hp, hW⟩ := id h
  have h120 := hB.1
  have h1 := so_lt hs (by decide)
  have hs' : srt (b p) = 2 := by unfold soN at hs; rw [if_pos h1] at hs; exact hs
  have te := toE_b (b := b) hp
  have et : toE n b p = ten n b p := if_pos h1
  have lt := (ten_b (b := b) h1).2.2 (Or.inr hs')
  intro k
  induction k with
  | zero =>
    intro j hj
    rw [r204_29]
    simp (disch := omega) only [r204_31, r204_32, r204_35, h16, nI_le'', show toE n b p ≤ p + j from by omega, if_true]
    rw [show p + j = toE n b p by omega, show toE n b p - p = j by omega]
  | succ k ih =>
    intro j hj
    have b2 := (hB.2 (p + j) (by omega)).2
    have b1 := srt_2.mp ((lt (p + j) (by omega) (by omega)).trans hs')
    have nl := nrV_le (b := b) (p := p) j (fun i hi => srt_2.mp ((lt (p + i) (by omega) (by omega)).trans hs'))
    have e := ih (j + 1) (by omega)
    rw [nrV] at e
    rw [← e, r204_29]
    by_cases q : 999 < nrV b p j
    · rw [if_pos q]
      simp (disch := omega) only [r204_31, r204_32, r204_35, r204_38, r204_39, r204_42, r204_44, r204_47, r204_50, r204_52, h16, nI_le'', show ¬ toE n b p ≤ p + j from by omega, if_false, nz1, show ¬ nrV b p j ≤ 999 from by omega]
      simp only [r204_71, r204_73, r204_76, nI_add, Nat.add_assoc]
    · rw [if_neg q]
      simp (disch := omega) only [r204_31, r204_32, r204_35, r204_38, r204_39, r204_42, r204_44, r204_47, r204_50, r204_52, r204_55, r204_57, r204_59, r204_60, r204_61, r204_64, r204_66, r204_67, r204_68, r204_70, h16, nI_le'', show ¬ toE n b p ≤ p + j from by omega, if_false, nz1, show nrV b p j ≤ 999 from by omega, if_true, b2, pk_mul, nI_add, pk_sub (show 48 ≤ 10 * nrV b p j + b (p + j) by omega)]
      simp only [r204_71, r204_73, r204_76, nI_add, Nat.add_assoc]
theorem nr_nu {p : Nat} (h : p < n) (hs : soN n b p = 2) {m : Nat} (hm : m < 1000) : (nrV b p (toE n b p - p) ≤ m ↔ nuN n b p ≤ m) ∧ (nuN n b p ≤ m → nrV b p (toE n b p - p) = nuN n b p) ∧ nrV b p (toE n b p - p) ≤ 9999 := by
  have hs' : srt (b p) = 2 := by unfold soN at hs; rw [if_pos h] at hs; exact hs
  have et : toE n b p = ten n b p := if_pos h
  have lt := (ten_b (b := b) h).2.2 (Or.inr hs')
  have dg : ∀ j, j < ten n b p - p → 48 ≤ b (p + j) ∧ b (p + j) ≤ 57 := fun j hj => srt_2.mp ((lt (p + j) (by omega) (by omega)).trans hs')
  have e := nu_nr (b := b) (p := p) (ten n b p - p) dg
  have e9 := nrV_le (b := b) (p := p) (ten n b p - p) dg
  rw [nu_n hs, et, e]
  refine ⟨?_, ?_, e9⟩
  · split <;> omega
  · intro hle
    by_cases y : nrV b p (ten n b p - p) < 1000
    · rw [if_pos y]
    · rw [if_neg y] at hle; omega
theorem q_number1 {p hi : Nat} (h : RX M n b 1 p) : R 204 0 [.ref 36, .int (nI 0), .int (nI hi), .null, .null, .null] [] (SH L, M) = some (none, (SH L, M)) := by
  obtain ⟨hB, h14, h15, h16, h18, hp, hW⟩ := id h
  simp (disch := omega) only [r204_0, r204_1, r204_4, r204_7, h18, nz1, if_false]
theorem q_number {p hi : Nat} (h : RX M n b 0 p) (hh : hi < 1000) : ∃ M', R 204 0 [.ref 36, .int (nI 0), .int (nI hi), .null, .null, .null] [] (SH L, M) = some (none, (SH L, M')) ∧ fX M M' ∧ (isM n b hi p = true → RX M' n b 0 (nxp n b p) ∧ M' 36 17 = nI (nuN n b p)) ∧ (¬ isM n b hi p = true → RX M' n b 1 p) := by
  obtain ⟨hB, h14, h15, h16, h18, hp, hW⟩ := id h
  have h120 := hB.1
  have te := toE_b (b := b) hp
  have st : R 204 0 [.ref 36, .int (nI 0), .int (nI hi), .null, .null, .null] [] (SH L, M) = R 204 29 [.ref 36, .int (nI 0), .int (nI hi), .int (if soN n b p = 2 then nI 1 else nI 0), .int (nI 0), .int (nI p)] [] (SH L, M) := by
    simp (disch := omega) only [r204_0, r204_1, r204_4, r204_7, r204_8, r204_9, r204_10, r204_13, r204_16, r204_19, r204_20, r204_21, r204_23, r204_24, r204_27, h18, nz0, if_true, h15, q_byteAt hB h14, q_isDigit hB, Option.bind_some, vtl_some]
  rw [st]
  have hx : ∀ v, RX (upd2 M 36 17 v) n b 0 p := fun v => RX_o h (fun i => upd2_ne (Or.inl (by omega))) (fun i h1 h2 h3 => upd2_ne (Or.inr h3))
  by_cases q : soN n b p = 2
  · have h1 := so_lt q (by decide)
    obtain ⟨n1, n2, n3⟩ := nr_nu (b := b) h1 q hh
    have e := q_num_1 (L := L) h q (v1 := .int (nI 0)) (v2 := .int (nI hi)) (toE n b p - p) 0 (by omega)
    rw [nrV, Nat.add_zero] at e
    rw [if_pos q, e]
    generalize hv : nrV b p (toE n b p - p) = v at n1 n2 n3
    have ir : ∀ w : vW, R 123 0 [.long (nI v).toInt64, .null, .long (nI 0).toInt64, .null, .long (nI hi).toInt64, .null] [] w = some (some (.int (if v ≤ hi then nI 1 else nI 0)), w) := fun w => by
      rw [s_in32 rfl rfl]
      have : (nI 0 ≤ nI v ∧ nI v ≤ nI hi) = (v ≤ hi) := by
        rw [nI_le'' (by omega) (by omega), nI_le'' (by omega) (by omega)]
        exact propext ⟨fun z => z.2, fun z => ⟨Nat.zero_le _, z⟩⟩
      simp only [this]
    by_cases q2 : v ≤ hi
    · obtain ⟨M', e1, f1, o1, y1, -⟩ := q_needs (L := L) (hx (nI v)) (c := 1) (by omega)
      have m1 : isM n b hi p = true := isM_iff.mpr ⟨q, n1.mp q2⟩
      refine ⟨M', ?_, fX_tr (fX_up fX_rf (by omega)) f1, fun _ => ⟨y1 ⟨rfl, rfl⟩, ?_⟩, fun z => absurd m1 z⟩
      · simp (disch := omega) only [r204_79, r204_80, r204_82, r204_85, r204_86, r204_87, r204_90, r204_92, r204_93, r204_94, r204_95, r204_96, r204_97, nz1, if_false, ir, if_pos q2, Option.bind_some, vtl_some]
        simp (disch := omega) only [r204_100, r204_103, r204_104, r204_107, nz1, if_false]
        simp (disch := omega) only [r204_108, r204_111, e1, Option.bind_some, vtl_none]
      · rw [o1, upd2_eq, n2 (n1.mp q2)]
    · obtain ⟨M', e1, f1, o1, -, y1⟩ := q_needs (L := L) (hx (nI v)) (c := 0) (by omega)
      refine ⟨M', ?_, fX_tr (fX_up fX_rf (by omega)) f1, fun z => absurd (n1.mpr (isM_iff.mp z).2) q2, fun _ => y1 (fun z => absurd z.2 (by decide))⟩
      simp (disch := omega) only [r204_79, r204_80, r204_82, r204_85, r204_86, r204_87, r204_90, r204_92, r204_93, r204_94, r204_95, r204_96, r204_97, nz1, if_false, ir, if_neg q2, Option.bind_some, vtl_some]
      simp (disch := omega) only [r204_100, r204_103, r204_104, r204_107, nz0, if_true]
      simp (disch := omega) only [r204_108, r204_111, e1, Option.bind_some, vtl_none]
  · obtain ⟨M', e1, f1, o1, -, y1⟩ := q_needs (L := L) (hx (nI 0)) (c := 0) (by omega)
    refine ⟨M', ?_, fX_tr (fX_up fX_rf (by omega)) f1, fun z => absurd (isM_iff.mp z).1 q, fun _ => y1 (fun z => absurd z.2 (by decide))⟩
    have e79 : R 204 29 [.ref 36, .int (nI 0), .int (nI hi), .int (nI 0), .int (nI 0), .int (nI p)] [] (SH L, M) = R 204 79 [.ref 36, .int (nI 0), .int (nI hi), .int (nI 0), .int (nI 0), .int (nI p)] [] (SH L, M) := by
      rw [r204_29]
      simp (disch := omega) only [r204_31, r204_32, r204_35, r204_38, r204_39, h16, nI_le'', nz0, if_true, ite_self]
    rw [if_neg q, e79]
    simp (disch := omega) only [r204_79, r204_80, r204_82, r204_85, r204_86, r204_87, r204_107, nz0, if_true]
    simp (disch := omega) only [r204_108, r204_111, e1, Option.bind_some, vtl_none]
theorem q_nh_1 {W p : Nat} (h : RX M n b W p) (hs : soN n b p = 2) : ∀ (k j : Nat), p + j + k = toE n b p → R 209 7 [.ref 36, .int (nI (nrV b p j)), .int (nI (p + j))] [] (SH L, M) = some (some (.int (nI (nrV b p (toE n b p - p)))), (SH L, M)) := by
  obtain ⟨hB, h14, h15, h16, h18, hp, hW⟩ := id h
  have h120 := hB.1
  have h1 := so_lt hs (by decide)
  have hs' : srt (b p) = 2 := by unfold soN at hs; rw [if_pos h1] at hs; exact hs
  have te := toE_b (b := b) hp
  have et : toE n b p = ten n b p := if_pos h1
  have lt := (ten_b (b := b) h1).2.2 (Or.inr hs')
  intro k
  induction k with
  | zero =>
    intro j hj
    rw [r209_7]
    simp (disch := omega) only [r209_8, r209_9, r209_12, r209_47, r209_48, h16, nI_le'', show toE n b p ≤ p + j from by omega, if_true]
    rw [show toE n b p - p = j by omega]
  | succ k ih =>
    intro j hj
    have b2 := (hB.2 (p + j) (by omega)).2
    have b1 := srt_2.mp ((lt (p + j) (by omega) (by omega)).trans hs')
    have nl := nrV_le (b := b) (p := p) j (fun i hi => srt_2.mp ((lt (p + i) (by omega) (by omega)).trans hs'))
    have e := ih (j + 1) (by omega)
    rw [nrV] at e
    rw [← e, r209_7]
    by_cases q : 999 < nrV b p j
    · rw [if_pos q]
      simp (disch := omega) only [r209_8, r209_9, r209_12, r209_15, r209_16, r209_19, r209_22, r209_23, h16, nI_le'', show ¬ toE n b p ≤ p + j from by omega, if_false, show ¬ nrV b p j ≤ 999 from by omega]
      simp only [r209_40, r209_41, r209_44, nI_add, Nat.add_assoc]
    · rw [if_neg q]
      simp (disch := omega) only [r209_8, r209_9, r209_12, r209_15, r209_16, r209_19, r209_22, r209_23, r209_26, r209_28, r209_29, r209_30, r209_31, r209_34, r209_35, r209_36, r209_37, r209_39, h16, nI_le'', show ¬ toE n b p ≤ p + j from by omega, if_false, show nrV b p j ≤ 999 from by omega, if_true, b2, pk_mul, nI_add, pk_sub (show 48 ≤ 10 * nrV b p j + b (p + j) by omega)]
      simp only [r209_40, r209_41, r209_44, nI_add, Nat.add_assoc]
theorem q_numberHere {W p : Nat} (h : RX M n b W p) (hs : soN n b p = 2) : R 209 0 [.ref 36, .null, .null] [] (SH L, M) = some (some (.int (nI (nrV b p (toE n b p - p)))), (SH L, M)) := by
  have te := toE_b (b := b) h.2.2.2.2.2.1
  have e := q_nh_1 (L := L) h hs (toE n b p - p) 0 (by omega)
  rw [nrV, Nat.add_zero] at e
  simp only [r209_0, r209_1, r209_2, r209_3, r209_6, h.2.2.1]
  exact e
theorem lgq {V k : Nat} (hV : V < 2 ^ 62) (hk : k < 2 ^ 62) : (lg_cmp (lN V) (lN k) = 0) = (V = k) := by
  apply propext
  rw [lg_cmp_eq, pk_lEQ (by omega) (by omega)]
theorem wrd_nu {W p : Nat} (h : W = 0 ∧ soN n b p = 1) : woN (wrd n b W p) = nuN n b p := by
  unfold wrd
  rw [if_pos h, nu_w h.2]
theorem wrd_0 {W p : Nat} (h : ¬ (W = 0 ∧ soN n b p = 1)) : wrd n b W p = 0 := if_neg h
theorem woN_7 {v : Nat} : woN v = 7 ↔ v = 486 := by unfold woN; (repeat' split) <;> omega
theorem woN_8 {v : Nat} : woN v = 8 ↔ v = 24627848 := by unfold woN; (repeat' split) <;> omega
theorem woN_9 {v : Nat} : woN v = 9 ↔ v = 5381299 := by unfold woN; (repeat' split) <;> omega
theorem woN_10 {v : Nat} : woN v = 10 ↔ v = 8562259 := by unfold woN; (repeat' split) <;> omega
theorem woN_11 {v : Nat} : woN v = 11 ↔ v = 12009203 := by unfold woN; (repeat' split) <;> omega
theorem wrd_is {W p w code : Nat} (hc : ∀ v, woN v = w ↔ v = code) (h0 : code ≠ 0) : (wrd n b W p = code) = (W = 0 ∧ isW n b w p = true) := by
  apply propext
  rw [isW_iff]
  by_cases q : W = 0 ∧ soN n b p = 1
  · rw [← hc, wrd_nu q]
    exact ⟨fun z => ⟨q.1, q.2, z⟩, fun z => z.2.2⟩
  · rw [wrd_0 q]
    exact ⟨fun z => absurd z.symm h0, fun z => absurd ⟨z.1, z.2.1⟩ q⟩
theorem q_kindHere {W p : Nat} (h : RX M n b W p) : R 205 0 [.ref 36, .null, .null] [] (SH L, M) = some (some (.int (if W = 0 ∧ soN n b p = 1 ∧ nuN n b p < 7 then nI (nuN n b p) else -1)), (SH L, M)) := by
  have wl := wrd_lt h
  have qw := q_word (L := L) h
  have key : R 205 0 [.ref 36, .null, .null] [] (SH L, M) = some (some (.int (if woN (wrd n b W p) < 7 then nI (woN (wrd n b W p)) else -1)), (SH L, M)) := by
    generalize wrd n b W p = V at wl qw
    simp only [r205_0, r205_1, r205_4, qw, Option.bind_some, vtl_some]
    have l0 : (525908 : Int64) = lN 525908 := by decide +kernel
    have l1 : (525618 : Int64) = lN 525618 := by decide +kernel
    have l2 : (412820935 : Int64) = lN 412820935 := by decide +kernel
    have l3 : (24395141 : Int64) = lN 24395141 := by decide +kernel
    have l4 : (284871065 : Int64) = lN 284871065 := by decide +kernel
    have l5 : (6619904164 : Int64) = lN 6619904164 := by decide +kernel
    have l6 : (7754916 : Int64) = lN 7754916 := by decide +kernel
    unfold woN
    by_cases c0 : V = 525908
    · subst c0
      simp (disch := omega) only [r205_5, r205_6, r205_9, r205_10, r205_13, r205_14, r205_17, r205_18, r205_21, r205_22, r205_25, r205_26, r205_29, r205_30, r205_33, r205_34, r205_37, r205_38, r205_41, r205_42, r205_45, r205_46, r205_49, r205_50, r205_53, r205_54, r205_57, r205_58, r205_61, r205_62, r205_65, r205_66, r205_69, r205_70, r205_73, r205_74, r205_77, r205_78, r205_81, r205_82, r205_85, r205_87, r205_90, r205_91, l0, l1, l2, l3, l4, l5, l6, lgq, Nat.reduceEqDiff, if_true, if_false, Nat.reduceLT, Nat.reduceLeDiff]
    by_cases c1 : V = 525618
    · subst c1
      simp (disch := omega) only [r205_5, r205_6, r205_9, r205_10, r205_13, r205_14, r205_17, r205_18, r205_21, r205_22, r205_25, r205_26, r205_29, r205_30, r205_33, r205_34, r205_37, r205_38, r205_41, r205_42, r205_45, r205_46, r205_49, r205_50, r205_53, r205_54, r205_57, r205_58, r205_61, r205_62, r205_65, r205_66, r205_69, r205_70, r205_73, r205_74, r205_77, r205_78, r205_81, r205_82, r205_85, r205_87, r205_90, r205_91, l0, l1, l2, l3, l4, l5, l6, lgq, Nat.reduceEqDiff, if_true, if_false, Nat.reduceLT, Nat.reduceLeDiff]
    by_cases c2 : V = 412820935
    · subst c2
      simp (disch := omega) only [r205_5, r205_6, r205_9, r205_10, r205_13, r205_14, r205_17, r205_18, r205_21, r205_22, r205_25, r205_26, r205_29, r205_30, r205_33, r205_34, r205_37, r205_38, r205_41, r205_42, r205_45, r205_46, r205_49, r205_50, r205_53, r205_54, r205_57, r205_58, r205_61, r205_62, r205_65, r205_66, r205_69, r205_70, r205_73, r205_74, r205_77, r205_78, r205_81, r205_82, r205_85, r205_87, r205_90, r205_91, l0, l1, l2, l3, l4, l5, l6, lgq, Nat.reduceEqDiff, if_true, if_false, Nat.reduceLT, Nat.reduceLeDiff]
    by_cases c3 : V = 24395141
    · subst c3
      simp (disch := omega) only [r205_5, r205_6, r205_9, r205_10, r205_13, r205_14, r205_17, r205_18, r205_21, r205_22, r205_25, r205_26, r205_29, r205_30, r205_33, r205_34, r205_37, r205_38, r205_41, r205_42, r205_45, r205_46, r205_49, r205_50, r205_53, r205_54, r205_57, r205_58, r205_61, r205_62, r205_65, r205_66, r205_69, r205_70, r205_73, r205_74, r205_77, r205_78, r205_81, r205_82, r205_85, r205_87, r205_90, r205_91, l0, l1, l2, l3, l4, l5, l6, lgq, Nat.reduceEqDiff, if_true, if_false, Nat.reduceLT, Nat.reduceLeDiff]
    by_cases c4 : V = 284871065
    · subst c4
      simp (disch := omega) only [r205_5, r205_6, r205_9, r205_10, r205_13, r205_14, r205_17, r205_18, r205_21, r205_22, r205_25, r205_26, r205_29, r205_30, r205_33, r205_34, r205_37, r205_38, r205_41, r205_42, r205_45, r205_46, r205_49, r205_50, r205_53, r205_54, r205_57, r205_58, r205_61, r205_62, r205_65, r205_66, r205_69, r205_70, r205_73, r205_74, r205_77, r205_78, r205_81, r205_82, r205_85, r205_87, r205_90, r205_91, l0, l1, l2, l3, l4, l5, l6, lgq, Nat.reduceEqDiff, if_true, if_false, Nat.reduceLT, Nat.reduceLeDiff]
    by_cases c5 : V = 6619904164
    · subst c5
      simp (disch := omega) only [r205_5, r205_6, r205_9, r205_10, r205_13, r205_14, r205_17, r205_18, r205_21, r205_22, r205_25, r205_26, r205_29, r205_30, r205_33, r205_34, r205_37, r205_38, r205_41, r205_42, r205_45, r205_46, r205_49, r205_50, r205_53, r205_54, r205_57, r205_58, r205_61, r205_62, r205_65, r205_66, r205_69, r205_70, r205_73, r205_74, r205_77, r205_78, r205_81, r205_82, r205_85, r205_87, r205_90, r205_91, l0, l1, l2, l3, l4, l5, l6, lgq, Nat.reduceEqDiff, if_true, if_false, Nat.reduceLT, Nat.reduceLeDiff]
    by_cases c6 : V = 7754916
    · subst c6
      simp (disch := omega) only [r205_5, r205_6, r205_9, r205_10, r205_13, r205_14, r205_17, r205_18, r205_21, r205_22, r205_25, r205_26, r205_29, r205_30, r205_33, r205_34, r205_37, r205_38, r205_41, r205_42, r205_45, r205_46, r205_49, r205_50, r205_53, r205_54, r205_57, r205_58, r205_61, r205_62, r205_65, r205_66, r205_69, r205_70, r205_73, r205_74, r205_77, r205_78, r205_81, r205_82, r205_85, r205_87, r205_90, r205_91, l0, l1, l2, l3, l4, l5, l6, lgq, Nat.reduceEqDiff, if_true, if_false, Nat.reduceLT, Nat.reduceLeDiff]
    have z : ¬ (if V = 525908 then 0 else if V = 525618 then 1 else if V = 412820935 then 2 else if V = 24395141 then 3 else if V = 284871065 then 4 else if V = 6619904164 then 5 else if V = 7754916 then 6 else if V = 486 then 7 else if V = 24627848 then 8 else if V = 5381299 then 9 else if V = 8562259 then 10 else if V = 12009203 then 11 else 12) < 7 := by
      rw [if_neg c0, if_neg c1, if_neg c2, if_neg c3, if_neg c4, if_neg c5, if_neg c6]
      repeat' split
      all_goals omega
    rw [if_neg z]
    simp (disch := omega) only [r205_5, r205_6, r205_9, r205_10, r205_13, r205_14, r205_17, r205_18, r205_21, r205_22, r205_25, r205_26, r205_29, r205_30, r205_33, r205_34, r205_37, r205_38, r205_41, r205_42, r205_45, r205_46, r205_49, r205_50, r205_53, r205_54, r205_57, r205_58, r205_61, r205_62, r205_65, r205_66, r205_69, r205_70, r205_73, r205_74, r205_77, r205_78, r205_81, r205_82, r205_85, r205_87, r205_90, r205_91, l0, l1, l2, l3, l4, l5, l6, lgq, c0, c1, c2, c3, c4, c5, c6, if_false]
  rw [key]
  by_cases q : W = 0 ∧ soN n b p = 1
  · rw [wrd_nu q]
    by_cases q2 : nuN n b p < 7
    · rw [if_pos q2, if_pos ⟨q.1, q.2, q2⟩]
    · rw [if_neg q2, if_neg (fun z => q2 z.2.2)]
  · rw [wrd_0 q, if_neg (by decide), if_neg (fun z => q ⟨z.1, z.2.1⟩)]
end RNM
