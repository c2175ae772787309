/-! Rows of R: an instruction, an equation -/
theorem R_s {m pc n : Nat} {i : Instr} {ls st : List Value} {w : vW} (q : vS) (d : decode (mB m) pc = .ok (i, n)) (h : vinst m pc i n ls st w = some (.inl q)) : R m pc ls st w = R m q.1 q.2.1 q.2.2.1 q.2.2.2 := R_nx (by unfold vstep; rw [d]; exact h)
theorem R_const {m pc n : Nat} {i : Instr} {ls st : List Value} {w : vW} (pc' : Nat) (u v : Value) (d : decode (mB m) pc = .ok (i, n)) (h : vinst m pc i n ls st w = some (.inl (pc', ls, u :: st, w))) (e : u = v) : R m pc ls st w = R m pc' ls (v :: st) w := by
  subst e
  exact R_s _ d h
theorem R_if {m pc : Nat} {c : Jvm.ClassFile.Cond} {off : Int} {ls st : List Value} {w : vW} {x : Int32} (t : Nat) (d : decode (mB m) pc = .ok (.ifCond c off, 3)) (ht : (pc : Int) + off = (t : Int)) : R m pc ls (.int x :: st) w = if vcmp0 c x = true then R m t ls st w else R m (pc + 3) ls st w := by
  by_cases h : vcmp0 c x = true
  · rw [if_pos h]
    refine R_s (t, ls, st, w) d ?_
    show vbr (vcmp0 c x) pc off ls st w = _
    unfold vbr
    rw [if_pos (by omega), if_pos h, show ((pc : Int) + off).toNat = t by omega]
    rfl
  · rw [if_neg h]
    refine R_s (pc + 3, ls, st, w) d ?_
    show vbr (vcmp0 c x) pc off ls st w = _
    unfold vbr
    rw [if_pos (by omega), if_neg h]
    rfl
theorem R_ic {m pc : Nat} {c : Jvm.ClassFile.Cond} {off : Int} {ls st : List Value} {w : vW} {x y : Int32} (t : Nat) (d : decode (mB m) pc = .ok (.if_icmp c off, 3)) (ht : (pc : Int) + off = (t : Int)) : R m pc ls (.int y :: .int x :: st) w = if vcmp c x y = true then R m t ls st w else R m (pc + 3) ls st w := by
  by_cases h : vcmp c x y = true
  · rw [if_pos h]
    refine R_s (t, ls, st, w) d ?_
    show vbr (vcmp c x y) pc off ls st w = _
    unfold vbr
    rw [if_pos (by omega), if_pos h, show ((pc : Int) + off).toNat = t by omega]
    rfl
  · rw [if_neg h]
    refine R_s (pc + 3, ls, st, w) d ?_
    show vbr (vcmp c x y) pc off ls st w = _
    unfold vbr
    rw [if_pos (by omega), if_neg h]
    rfl
theorem ite_dec {α : Type} {p : Prop} {d : Decidable p} {a b : α} : (if decide p = true then a else b) = @ite _ p d a b := by
  by_cases h : p
  · rw [if_pos h, if_pos (decide_eq_true h)]
  · rw [if_neg h, if_neg (by simpa using h)]
theorem ite_not' {α : Type} {p : Prop} {d : Decidable p} {a b : α} : (if decide (¬ p) = true then a else b) = @ite _ p d b a := by
  by_cases h : p
  · rw [if_pos h, if_neg (by simpa using h)]
  · rw [if_neg h, if_pos (by simpa using h)]
section RROWS
variable {m pc : Nat} {off : Int} {ls st : List Value} {w : vW} {x y : Int32} (t : Nat)
theorem R_if_eq (d : decode (mB m) pc = .ok (.ifCond .eq off, 3)) (ht : (pc : Int) + off = (t : Int)) : R m pc ls (.int x :: st) w = if x = 0 then R m t ls st w else R m (pc + 3) ls st w := (R_if t d ht).trans ite_dec
theorem R_if_ne (d : decode (mB m) pc = .ok (.ifCond .ne off, 3)) (ht : (pc : Int) + off = (t : Int)) : R m pc ls (.int x :: st) w = if x = 0 then R m (pc + 3) ls st w else R m t ls st w := (R_if t d ht).trans ite_not'
theorem R_if_lt (d : decode (mB m) pc = .ok (.ifCond .lt off, 3)) (ht : (pc : Int) + off = (t : Int)) : R m pc ls (.int x :: st) w = if x < 0 then R m t ls st w else R m (pc + 3) ls st w := (R_if t d ht).trans ite_dec
theorem R_if_ge (d : decode (mB m) pc = .ok (.ifCond .ge off, 3)) (ht : (pc : Int) + off = (t : Int)) : R m pc ls (.int x :: st) w = if 0 ≤ x then R m t ls st w else R m (pc + 3) ls st w := (R_if t d ht).trans ite_dec
theorem R_if_gt (d : decode (mB m) pc = .ok (.ifCond .gt off, 3)) (ht : (pc : Int) + off = (t : Int)) : R m pc ls (.int x :: st) w = if 0 < x then R m t ls st w else R m (pc + 3) ls st w := (R_if t d ht).trans ite_dec
theorem R_if_le (d : decode (mB m) pc = .ok (.ifCond .le off, 3)) (ht : (pc : Int) + off = (t : Int)) : R m pc ls (.int x :: st) w = if x ≤ 0 then R m t ls st w else R m (pc + 3) ls st w := (R_if t d ht).trans ite_dec
theorem R_ic_eq (d : decode (mB m) pc = .ok (.if_icmp .eq off, 3)) (ht : (pc : Int) + off = (t : Int)) : R m pc ls (.int y :: .int x :: st) w = if x = y then R m t ls st w else R m (pc + 3) ls st w := (R_ic t d ht).trans ite_dec
theorem R_ic_ne (d : decode (mB m) pc = .ok (.if_icmp .ne off, 3)) (ht : (pc : Int) + off = (t : Int)) : R m pc ls (.int y :: .int x :: st) w = if x = y then R m (pc + 3) ls st w else R m t ls st w := (R_ic t d ht).trans ite_not'
theorem R_ic_lt (d : decode (mB m) pc = .ok (.if_icmp .lt off, 3)) (ht : (pc : Int) + off = (t : Int)) : R m pc ls (.int y :: .int x :: st) w = if x < y then R m t ls st w else R m (pc + 3) ls st w := (R_ic t d ht).trans ite_dec
theorem R_ic_ge (d : decode (mB m) pc = .ok (.if_icmp .ge off, 3)) (ht : (pc : Int) + off = (t : Int)) : R m pc ls (.int y :: .int x :: st) w = if y ≤ x then R m t ls st w else R m (pc + 3) ls st w := (R_ic t d ht).trans ite_dec
theorem R_ic_gt (d : decode (mB m) pc = .ok (.if_icmp .gt off, 3)) (ht : (pc : Int) + off = (t : Int)) : R m pc ls (.int y :: .int x :: st) w = if y < x then R m t ls st w else R m (pc + 3) ls st w := (R_ic t d ht).trans ite_dec
theorem R_ic_le (d : decode (mB m) pc = .ok (.if_icmp .le off, 3)) (ht : (pc : Int) + off = (t : Int)) : R m pc ls (.int y :: .int x :: st) w = if x ≤ y then R m t ls st w else R m (pc + 3) ls st w := (R_ic t d ht).trans ite_dec
end RROWS
theorem R_c {m pc n : Nat} {i : Instr} {ls st : List Value} {w : vW} (t : Nat) (as ent : List Value) (q : vS) (d : decode (mB m) pc = .ok (i, n)) (h : vinst m pc i n ls st w = some (.inr (.inl (t, as, q)))) (he : vent t as = ent) : R m pc ls st w = (R t 0 ent [] q.2.2.2).bind (fun r => R m q.1 q.2.1 (vtl r.1 q.2.2.1) r.2) := by
  subst he
  exact R_cl (by unfold vstep; rw [d]; exact h)
theorem R_r {m pc n : Nat} {i : Instr} {ls st : List Value} {w : vW} {v : Option Value} (d : decode (mB m) pc = .ok (i, n)) (h : vinst m pc i n ls st w = some (.inr (.inr v))) : R m pc ls st w = some (v, w) := R_rt (by unfold vstep; rw [d]; exact h)
/-- the cells' shapes when both objects stand -/
def SHt : List vSh := [.inr (5, [some (.ref 2), some (.ref 7), some (.ref 12), some (.ref 17), some (.ref 22), some (.ref 24), some (.ref 30), some (.ref 34), some (.ref 35), none]), .inr (2, [some (.ref 3), some (.ref 4), some (.ref 5), some (.ref 6), none, none, none, none, none, none]), .inl 72, .inl 5, .inl 4, .inl 10, .inr (2, [some (.ref 8), some (.ref 9), some (.ref 10), some (.ref 11), none, none, none, none, none, none]), .inl 72, .inl 5, .inl 4, .inl 10, .inr (2, [some (.ref 13), some (.ref 14), some (.ref 15), some (.ref 16), none, none, none, none, none, none]), .inl 72, .inl 5, .inl 4, .inl 10, .inr (1, [some (.ref 2), some (.ref 18), some (.ref 19), some (.ref 20), some (.ref 21), none, none, none]), .inl 2048, .inl 2048, .inl 4, .inl 4, .inr (0, [some (.ref 2), some (.ref 23)]), .inl 4608, .inr (4, [some (.ref 25), none, some (.ref 26), some (.ref 27), some (.ref 28), some (.ref 29), none]), .inl 120, .inl 121, .inl 121, .inl 121, .inl 4, .inr (3, [some (.ref 31), some (.ref 32), some (.ref 33)]), .inl 160, .inl 4, .inl 4, .inl 7, .inl 4, .inr (6, [some (.ref 37), some (.ref 38), some (.ref 39), some (.ref 40), none, some (.ref 41), some (.ref 42), some (.ref 43), some (.ref 44), some (.ref 45), some (.ref 46), some (.ref 47), some (.ref 48), some (.ref 49), none, none, none, none, none, some (.ref 50), some (.ref 51), some (.ref 52), some (.ref 53), some (.ref 54)]), .inl 91, .inl 91, .inl 91, .inl 7, .inl 2048, .inl 2048, .inl 2048, .inl 2048, .inl 2048, .inl 5, .inl 4, .inl 4608, .inl 120, .inl 4, .inl 4, .inl 4, .inl 160, .inl 40]
def SH (L : Nat) : List vSh := .inl L :: SHt
def isE (e : Nat) : Prop := e = 2 ∨ e = 7 ∨ e = 12
def isO (a : Nat) : Prop := a = 5 ∨ a = 35
theorem isE_2 : isE 2 := Or.inl rfl
theorem isE_7 : isE 7 := Or.inr (Or.inl rfl)
theorem isE_12 : isE 12 := Or.inr (Or.inr rfl)
theorem isO_5 : isO 5 := Or.inl rfl
theorem isO_35 : isO 35 := Or.inr rfl
theorem R_al {m pc a n k : Nat} {ls st : List Value} {L : Nat} {M : Nat → Nat → Int32} {j : Nat} (d : decode (mB m) pc = .ok (.iaload, k)) (hk : k = 1) (ha : (SH L)[a]? = some (.inl n)) (hn : n < 2 ^ 31) (hj : j < n) : R m pc ls (.int (nI j) :: .ref a :: st) (SH L, M) = R m (pc + 1) ls (.int (M a j) :: st) (SH L, M) := by
  subst hk
  refine R_s (pc + 1, ls, .int (M a j) :: st, (SH L, M)) d ?_
  show viald (pc + 1) ls (.int (nI j) :: .ref a :: st) (SH L, M) = _
  unfold viald
  simp only [ha]
  rw [if_neg (nI_in hj hn), nI_clamp (by omega)]
  rfl
theorem R_as {m pc a n k : Nat} {ls st : List Value} {L : Nat} {M : Nat → Nat → Int32} {j : Nat} {x : Int32} (d : decode (mB m) pc = .ok (.iastore, k)) (hk : k = 1) (ha : (SH L)[a]? = some (.inl n)) (h0 : a ≠ 0) (hn : n < 2 ^ 31) (hj : j < n) : R m pc ls (.int x :: .int (nI j) :: .ref a :: st) (SH L, M) = R m (pc + 1) ls st (SH L, upd2 M a j x) := by
  subst hk
  refine R_s (pc + 1, ls, st, (SH L, upd2 M a j x)) d ?_
  show viast (pc + 1) ls (.int x :: .int (nI j) :: .ref a :: st) (SH L, M) = _
  unfold viast
  simp only [ha]
  rw [if_neg (fun z => by
    rcases z with z | z | z
    · exact nI_in hj hn (Or.inl z)
    · exact nI_in hj hn (Or.inr z)
    · exact h0 z), nI_clamp (by omega)]
  rfl
/-- what a copy leaves -/
def cp2 (M : Nat → Nat → Int32) (a0 sp a dp n : Nat) : Nat → Nat → Int32 := fun b j => if b = a then va_cpy (M a0) (M a) sp dp n j else M b j
theorem R_cp {m pc idx t a0 a n0 n1 sp dp n : Nat} {ls st : List Value} {L : Nat} {M : Nat → Nat → Int32} (d : decode (mB m) pc = .ok (.invokestatic idx, 3)) (hk : vlk cTab (mO m) idx = some (7, t)) (h0 : (SH L)[a0]? = some (.inl n0)) (h1 : (SH L)[a]? = some (.inl n1)) (z0 : a0 ≠ 0) (z1 : a ≠ 0) (hn0 : n0 < 2 ^ 30) (hn1 : n1 < 2 ^ 30) (c0 : sp + n ≤ n0) (c1 : dp + n ≤ n1) (hf : 1 ≤ mF m) (hw : 40 ≤ mW m) (hc : vcats st ≤ 8) :
    R m pc ls (.int (nI n) :: .int (nI dp) :: .ref a :: .int (nI sp) :: .ref a0 :: st) (SH L, M) = R m (pc + 3) ls st (SH L, cp2 M a0 sp a dp n) := by
  refine R_s (pc + 3, ls, st, (SH L, cp2 M a0 sp a dp n)) d ?_
  show vinvs m idx (pc + 3) ls (.int (nI n) :: .int (nI dp) :: .ref a :: .int (nI sp) :: .ref a0 :: st) (SH L, M) = _
  unfold vinvs
  rw [hk]
  simp only
  rw [if_neg (by decide), if_pos trivial]
  unfold vacopy
  simp only [h0, h1]
  rw [if_neg ?_, nI_clamp (by omega), nI_clamp (by omega), nI_clamp (by omega)]
  · rfl
  · rw [nI_clamp (by omega), nI_clamp (by omega), nI_clamp (by omega)]
    rintro (z | z | z | z | z | z | z | z | z | z)
    · exact nI_pos (by omega) z
    · exact nI_pos (by omega) z
    · exact nI_pos (by omega) z
    · omega
    · omega
    · exact z1 z
    · exact z0 z
    · omega
    · omega
    · omega
theorem R_gf {m pc idx ci k r : Nat} {nest : Bool} {fs : List (Option Value)} {ls st : List Value} {L : Nat} {M : Nat → Nat → Int32} (d : decode (mB m) pc = .ok (.getfield idx, 3)) (hk : vlk fTab (mO m) idx = some (ci, k, nest)) (hw : (SH L)[r]? = some (.inr (ci, fs))) (h0 : r ≠ 0) (hf : fs[k]? = some none) : R m pc ls (.ref r :: st) (SH L, M) = R m (pc + 3) ls (.int (M r k) :: st) (SH L, M) := by
  refine R_s (pc + 3, ls, .int (M r k) :: st, (SH L, M)) d ?_
  show vget (mO m) idx (pc + 3) ls (.ref r :: st) (SH L, M) = _
  unfold vget
  simp only [hk, hw]
  rw [if_pos ⟨trivial, h0⟩]
  simp only [hf]
  rfl
theorem R_gr {m pc idx ci k r : Nat} {nest : Bool} {v : Value} {fs : List (Option Value)} {ls st : List Value} {L : Nat} {M : Nat → Nat → Int32} (d : decode (mB m) pc = .ok (.getfield idx, 3)) (hk : vlk fTab (mO m) idx = some (ci, k, nest)) (hw : (SH L)[r]? = some (.inr (ci, fs))) (h0 : r ≠ 0) (hf : fs[k]? = some (some v)) : R m pc ls (.ref r :: st) (SH L, M) = R m (pc + 3) ls (v :: st) (SH L, M) := by
  refine R_s (pc + 3, ls, v :: st, (SH L, M)) d ?_
  show vget (mO m) idx (pc + 3) ls (.ref r :: st) (SH L, M) = _
  unfold vget
  simp only [hk, hw]
  rw [if_pos ⟨trivial, h0⟩]
  simp only [hf]
  rfl
theorem R_pf {m pc idx ci k r : Nat} {nest : Bool} {fs : List (Option Value)} {ls st : List Value} {L : Nat} {M : Nat → Nat → Int32} {x : Int32} (d : decode (mB m) pc = .ok (.putfield idx, 3)) (hk : vlk fTab (mO m) idx = some (ci, k, nest)) (hb : fBool ci k = false ∧ fInt ci k = true) (hw : (SH L)[r]? = some (.inr (ci, fs))) (h0 : r ≠ 0) (hf : fs[k]? = some none) : R m pc ls (.int x :: .ref r :: st) (SH L, M) = R m (pc + 3) ls st (SH L, upd2 M r k x) := by
  refine R_s (pc + 3, ls, st, (SH L, upd2 M r k x)) d ?_
  show vput ((mN m).name == "<init>") (mO m) idx (pc + 3) ls (.int x :: .ref r :: st) (SH L, M) = _
  unfold vput
  simp only [hk, hw]
  rw [if_pos ⟨trivial, h0, hb.2⟩]
  simp only [hf]
  rw [if_neg (by rw [hb.1]; decide)]
  rfl
theorem R_pb {m pc idx ci k r : Nat} {nest : Bool} {fs : List (Option Value)} {ls st : List Value} {L : Nat} {M : Nat → Nat → Int32} {x : Int32} (d : decode (mB m) pc = .ok (.putfield idx, 3)) (hk : vlk fTab (mO m) idx = some (ci, k, nest)) (hb : fBool ci k = true ∧ fInt ci k = true) (hx : x = 0 ∨ x = 1) (hw : (SH L)[r]? = some (.inr (ci, fs))) (h0 : r ≠ 0) (hf : fs[k]? = some none) : R m pc ls (.int x :: .ref r :: st) (SH L, M) = R m (pc + 3) ls st (SH L, upd2 M r k x) := by
  refine R_s (pc + 3, ls, st, (SH L, upd2 M r k x)) d ?_
  show vput ((mN m).name == "<init>") (mO m) idx (pc + 3) ls (.int x :: .ref r :: st) (SH L, M) = _
  unfold vput
  simp only [hk, hw]
  rw [if_pos ⟨trivial, h0, hb.2⟩]
  simp only [hf]
  rw [if_pos hb.1]
  rcases hx with rfl | rfl
  · rw [if_pos rfl]
    rfl
  · rw [if_neg (by decide), if_pos rfl]
    rfl
def vntq (q : Nat) (as : List Value) : List Value :=
  let l := as.flatMap (fun v => if vlong v then [v, .null] else [v])
  l ++ List.replicate (q - l.length) .null
theorem R_cs {m pc idx k t n q : Nat} {g : Bool} {ls st ent rest : List Value} {w : vW} (as : List Value) (d : decode (mB m) pc = .ok (.invokestatic idx, 3)) (hk : vlk cTab (mO m) idx = some (k, t) ∧ (k = 0 ∨ k = 1) ∧ mC t = 99 ∧ mA t = n ∧ mL t = q ∧ mF t + 1 ≤ mF m ∧ 19 + mL t + mW t ≤ mW m ∧ mG t = g)
    (h1 : (st.take n).reverse = as) (h2 : st.drop n = rest) (h3 : as.length = n) (h4 : vcats rest ≤ 8) (h5 : g = true ∨ as.all (fun v => !vlong v) = true) (h6 : vcats as ≤ q) (he : vntq q as = ent) : R m pc ls st w = (R t 0 ent [] w).bind (fun r => R m (pc + 3) ls (vtl r.1 rest) r.2) := by
  obtain ⟨k1, k2, k3, k4, k5, k6, k7, k8⟩ := hk
  refine R_c t as ent (pc + 3, ls, rest, w) d ?_ (by rw [← he, ← k5]; rfl)
  show vinvs m idx (pc + 3) ls st w = _
  unfold vinvs
  rw [k1]
  simp only
  rw [if_pos k2]
  unfold vcall
  simp only [k4, h1, h2]
  rw [if_pos ⟨h3, h4, k6, k7, by rw [k8]; exact h5, by rw [k5]; exact h6⟩, if_pos k3]
theorem R_cv {m pc idx k t n q ci rr : Nat} {g : Bool} {ls st ent rest as' : List Value} {L : Nat} {M : Nat → Nat → Int32} {fs : List (Option Value)} (d : decode (mB m) pc = .ok (.invokevirtual idx, 3)) (hk : vlk cTab (mO m) idx = some (k, t) ∧ (k = 2 ∨ k = 3) ∧ mC t = ci ∧ ci ≠ 99 ∧ mA t = n ∧ mL t = q ∧ mF t + 1 ≤ mF m ∧ 19 + mL t + mW t ≤ mW m ∧ mG t = g)
    (hw : (SH L)[rr]? = some (.inr (ci, fs))) (h0 : rr ≠ 0) (h1 : (st.take n).reverse = .ref rr :: as') (h2 : st.drop n = rest) (h3 : (Value.ref rr :: as').length = n) (h4 : vcats rest ≤ 8) (h5 : g = true ∨ (Value.ref rr :: as').all (fun v => !vlong v) = true) (h6 : vcats (.ref rr :: as') ≤ q) (he : vntq q (.ref rr :: as') = ent) : R m pc ls st (SH L, M) = (R t 0 ent [] (SH L, M)).bind (fun r => R m (pc + 3) ls (vtl r.1 rest) r.2) := by
  obtain ⟨k1, k2, k3, k9, k4, k5, k6, k7, k8⟩ := hk
  refine R_c t (.ref rr :: as') ent (pc + 3, ls, rest, (SH L, M)) d ?_ (by rw [← he, ← k5]; rfl)
  show vinvv m idx (pc + 3) ls st (SH L, M) = _
  unfold vinvv
  rw [k1]
  simp only
  rw [if_pos k2]
  unfold vcall
  simp only [k4, h1, h2]
  rw [if_pos ⟨h3, h4, k6, k7, by rw [k8]; exact h5, by rw [k5]; exact h6⟩, if_neg (by rw [k3]; exact k9)]
  simp only [hw]
  rw [if_pos ⟨k3.symm, h0⟩]
theorem R_len {m pc a n k : Nat} {ls st : List Value} {L : Nat} {M : Nat → Nat → Int32} (d : decode (mB m) pc = .ok (.arraylength, k)) (hk : k = 1) (ha : (SH L)[a]? = some (.inl n)) : R m pc ls (.ref a :: st) (SH L, M) = R m (pc + 1) ls (.int (nI n) :: st) (SH L, M) := by
  subst hk
  refine R_s (pc + 1, ls, .int (nI n) :: st, (SH L, M)) d ?_
  show valen (pc + 1) ls (.ref a :: st) (SH L, M) = _
  unfold valen
  simp only [ha]
  rfl
theorem R_dv {m pc k : Nat} {ls st : List Value} {w : vW} {x y : Int32} (d : decode (mB m) pc = .ok (.idiv, k)) (hk : k = 1) (hy : ¬ y = 0) : R m pc ls (.int y :: .int x :: st) w = R m (pc + 1) ls (.int (x / y) :: st) w := by
  subst hk
  refine R_s (pc + 1, ls, .int (x / y) :: st, w) d ?_
  show (if y = 0 then none else _) = _
  rw [if_neg hy]
  rfl
theorem R_rm {m pc k : Nat} {ls st : List Value} {w : vW} {x y : Int32} (d : decode (mB m) pc = .ok (.irem, k)) (hk : k = 1) (hy : ¬ y = 0) : R m pc ls (.int y :: .int x :: st) w = R m (pc + 1) ls (.int (x - x / y * y) :: st) w := by
  subst hk
  refine R_s (pc + 1, ls, .int (x - x / y * y) :: st, w) d ?_
  show (if y = 0 then none else _) = _
  rw [if_neg hy]
  rfl
theorem R_td {m pc k t : Nat} {dd lo hi : Int} {offs : Array Int} {ls st : List Value} {w : vW} {x : Int32} (d : decode (mB m) pc = .ok (.tableswitch dd lo hi offs, k)) (ht : (pc : Int) + dd = (t : Int)) (hx : x.toInt < lo ∨ hi < x.toInt) : R m pc ls (.int x :: st) w = R m t ls st w := by
  refine R_s (t, ls, st, w) d ?_
  show (if x.toInt < lo ∨ hi < x.toInt then vjmp pc dd ls st w else _) = _
  rw [if_pos hx]
  unfold vjmp
  rw [if_pos (by omega), show ((pc : Int) + dd).toNat = t by omega]
  rfl
theorem R_ldi {m pc idx : Nat} {ls st : List Value} {w : vW} {v u : Int32} (d : decode (mB m) pc = .ok (.ldc idx, 2)) (hk : vlk kTab (mO m) idx = some (.int v) ∧ v = u) : R m pc ls st w = R m (pc + 2) ls (.int u :: st) w := by
  obtain ⟨hk, rfl⟩ := hk
  refine R_s (pc + 2, ls, .int v :: st, w) d ?_
  show vldc (mO m) idx (pc + 2) 0 ls st w = _
  unfold vldc
  rw [hk]
  rfl
theorem R_ldw {m pc idx : Nat} {ls st : List Value} {w : vW} {v u : Int32} (d : decode (mB m) pc = .ok (.ldc_w idx, 3)) (hk : vlk kTab (mO m) idx = some (.int v) ∧ v = u) : R m pc ls st w = R m (pc + 3) ls (.int u :: st) w := by
  obtain ⟨hk, rfl⟩ := hk
  refine R_s (pc + 3, ls, .int v :: st, w) d ?_
  show vldc (mO m) idx (pc + 3) 1 ls st w = _
  unfold vldc
  rw [hk]
  rfl
theorem R_ldl {m pc idx : Nat} {ls st : List Value} {w : vW} {v u : Int64} (d : decode (mB m) pc = .ok (.ldc2_w idx, 3)) (hk : vlk kTab (mO m) idx = some (.long v) ∧ v = u) : R m pc ls st w = R m (pc + 3) ls (.long u :: st) w := by
  obtain ⟨hk, rfl⟩ := hk
  refine R_s (pc + 3, ls, .long v :: st, w) d ?_
  show vldc (mO m) idx (pc + 3) 2 ls st w = _
  unfold vldc
  rw [hk]
  rfl
theorem R_ldr {m pc idx q : Nat} {ls st : List Value} {w : vW} (d : decode (mB m) pc = .ok (.ldc idx, 2)) (hk : vlk kTab (mO m) idx = some (.ref q)) : R m pc ls st w = R m (pc + 2) ls (.ref q :: st) w := by
  refine R_s (pc + 2, ls, .ref q :: st, w) d ?_
  show vldc (mO m) idx (pc + 2) 0 ls st w = _
  unfold vldc
  rw [hk]
  rfl
theorem R_max {m pc idx t : Nat} {ls st : List Value} {w : vW} {x y : Int32} (d : decode (mB m) pc = .ok (.invokestatic idx, 3)) (hk : vlk cTab (mO m) idx = some (10, t) ∧ 1 ≤ mF m ∧ 21 ≤ mW m) (hc : vcats st ≤ 8) : R m pc ls (.int y :: .int x :: st) w = R m (pc + 3) ls (.int (if x < y then y else x) :: st) w := by
  refine R_s (pc + 3, ls, .int (if x < y then y else x) :: st, w) d ?_
  show vinvs m idx (pc + 3) ls (.int y :: .int x :: st) w = _
  unfold vinvs
  rw [hk.1]
  simp only
  rw [if_neg (by decide), if_neg (by decide), if_pos trivial]
  unfold vmm
  simp only
  rw [if_neg (by omega)]
  rfl
theorem R_min {m pc idx t : Nat} {ls st : List Value} {w : vW} {x y : Int32} (d : decode (mB m) pc = .ok (.invokestatic idx, 3)) (hk : vlk cTab (mO m) idx = some (11, t) ∧ 1 ≤ mF m ∧ 21 ≤ mW m) (hc : vcats st ≤ 8) : R m pc ls (.int y :: .int x :: st) w = R m (pc + 3) ls (.int (if y < x then y else x) :: st) w := by
  refine R_s (pc + 3, ls, .int (if y < x then y else x) :: st, w) d ?_
  show vinvs m idx (pc + 3) ls (.int y :: .int x :: st) w = _
  unfold vinvs
  rw [hk.1]
  simp only
  rw [if_neg (by decide), if_neg (by decide), if_neg (by decide), if_pos trivial]
  unfold vmm
  simp only
  rw [if_neg (by omega)]
  rfl
theorem R_sl {m pc idx t i n : Nat} {ls st : List Value} {w : vW} (d : decode (mB m) pc = .ok (.invokevirtual idx, 3)) (hk : vlk cTab (mO m) idx = some (8, t) ∧ 2 ≤ mF m ∧ 40 ≤ mW m ∧ i < 12 ∧ sLens.getD i 0 = n) (hc : vcats st ≤ 8) : R m pc ls (.ref (1000 + i) :: st) w = R m (pc + 3) ls (.int (nI n) :: st) w := by
  obtain ⟨k1, k2, k3, k4, rfl⟩ := hk
  refine R_s (pc + 3, ls, .int (nI (sLens.getD i 0)) :: st, w) d ?_
  show vinvv m idx (pc + 3) ls (.ref (1000 + i) :: st) w = _
  unfold vinvv
  rw [k1]
  simp only
  rw [if_neg (by decide), if_pos trivial]
  unfold vslen
  simp only
  have z1 : ¬ (1000 + i : Nat) < 1000 := by omega
  have z2 : ¬ (1012 : Nat) ≤ 1000 + i := by omega
  rw [if_neg (fun z => by
    rcases z with z | z | z | z | z
    · exact z1 z
    · exact z2 z
    · omega
    · omega
    · omega), Nat.add_sub_cancel_left]
  rfl
theorem R_sc {m pc idx t i j n : Nat} {ls st : List Value} {w : vW} (d : decode (mB m) pc = .ok (.invokevirtual idx, 3)) (hk : vlk cTab (mO m) idx = some (9, t) ∧ 4 ≤ mF m ∧ 85 ≤ mW m ∧ i < 12 ∧ j < sLens.getD i 0 ∧ j < 2 ^ 31 ∧ (sByts.getD i []).getD j 0 = nI n) (hc : vcats st ≤ 8) : R m pc ls (.int (nI j) :: .ref (1000 + i) :: st) w = R m (pc + 3) ls (.int (nI n) :: st) w := by
  obtain ⟨k1, k2, k3, k4, k5, k6, k7⟩ := hk
  rw [← k7]
  refine R_s (pc + 3, ls, .int ((sByts.getD i []).getD j 0) :: st, w) d ?_
  show vinvv m idx (pc + 3) ls (.int (nI j) :: .ref (1000 + i) :: st) w = _
  unfold vinvv
  rw [k1]
  simp only
  rw [if_neg (by decide), if_neg (by decide), if_pos trivial]
  unfold vsch
  simp only
  rw [nI_clamp k6, Nat.add_sub_cancel_left, if_neg ?_]
  · rfl
  · have z1 : ¬ (1000 + i : Nat) < 1000 := by omega
    have z2 : ¬ (1012 : Nat) ≤ 1000 + i := by omega
    rintro (z | z | z | z | z | z | z)
    · exact z1 z
    · exact z2 z
    · exact nI_pos k6 z
    · omega
    · omega
    · omega
    · omega
