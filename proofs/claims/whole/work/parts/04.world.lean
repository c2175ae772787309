/-! The small machine's world over the heap -/
def vcv (ad : Nat → Nat) (v : Value) : Value := match v with | .ref k => .ref (ad k) | v => v
theorem vcv_cat (ad : Nat → Nat) (v : Value) : (vcv ad v).category = v.category := by cases v <;> rfl
theorem vcv_cats (ad : Nat → Nat) (st : List Value) : ((st.map (vcv ad)).map fun v => v.category).sum = vcats st := by
  unfold vcats
  rw [List.map_map]
  congr 1
  exact List.map_congr_left fun v _ => vcv_cat ad v
def vfv (ad : Nat → Nat) (f : Nat → Int32) (q : Option Value × Nat) : Value := match q.1 with | none => .int (f q.2) | some v => vcv ad v
def vfs (ad : Nat → Nat) (f : Nat → Int32) (fs : List (Option Value)) : List Value := fs.zipIdx.map (vfv ad f)
theorem vfs_len (ad : Nat → Nat) (f : Nat → Int32) (fs : List (Option Value)) : (vfs ad f fs).length = fs.length := by simp [vfs]
theorem vfs_at (ad : Nat → Nat) (f : Nat → Int32) (fs : List (Option Value)) (k : Nat) : (vfs ad f fs)[k]? = (fs[k]?).map (fun x => vfv ad f (x, k)) := by
  simp [vfs, List.getElem?_map, List.getElem?_zipIdx]
  cases fs[k]? <;> rfl
def vel (ad : Nat → Nat) (cI : ClassId) (M : Nat → Nat → Int32) (k : Nat) (s : vSh) : va_E := match s with
  | .inl n => .inl (cI, n, .inl (M k))
  | .inr o => .inr (o.1, vfs ad (M k) o.2)
def vws (ad : Nat → Nat) (cI : ClassId) (w : vW) : va_W := (w.1.zipIdx.drop 1).map fun q => (ad q.2, vel ad cI w.2 q.2 q.1)
theorem vws_at (ad : Nat → Nat) (cI : ClassId) (w : vW) (i : Nat) : (vws ad cI w)[i]? = (w.1[i + 1]?).map (fun s => (ad (i + 1), vel ad cI w.2 (i + 1) s)) := by
  simp only [vws, List.getElem?_map, List.getElem?_drop, List.getElem?_zipIdx]
  rw [show 1 + i = i + 1 from Nat.add_comm 1 i]
  cases w.1[i + 1]? with
  | none => rfl
  | some s => simp
theorem vws_get {ad : Nat → Nat} {cI : ClassId} {w : vW} {r : Nat} {s : vSh} (h0 : r ≠ 0) (h : w.1[r]? = some s) : (vws ad cI w)[r - 1]? = some (ad r, vel ad cI w.2 r s) := by
  rw [vws_at, show r - 1 + 1 = r by omega, h]
  rfl
theorem vws_len (ad : Nat → Nat) (cI : ClassId) (w : vW) : (vws ad cI w).length = w.1.length - 1 := by simp [vws]
theorem vws_set {ad : Nat → Nat} {cI : ClassId} {w w' : vW} {r : Nat} {s' : vSh} (h0 : r ≠ 0) (hl : r < w.1.length) (h1 : w'.1 = w.1.set r s') (h2 : ∀ b, b ≠ r → w'.2 b = w.2 b) :
    (vws ad cI w).set (r - 1) (ad r, vel ad cI w'.2 r s') = vws ad cI w' := by
  apply List.ext_getElem?
  intro i
  rw [vws_at, h1, List.getElem?_set, List.getElem?_set, vws_len]
  by_cases e : r - 1 = i
  · subst e
    rw [if_pos rfl, if_pos (by omega), if_pos (by omega), if_pos (by omega), show r - 1 + 1 = r by omega]
    rfl
  · rw [if_neg e, if_neg (by omega), vws_at]
    cases w.1[i + 1]? with
    | none => rfl
    | some s =>
      have := h2 (i + 1) (by omega)
      cases s <;> simp [vel, this]
theorem vws_push {ad : Nat → Nat} {cI : ClassId} {w : vW} {s : vSh} (h0 : w.1.length ≠ 0) :
    vws ad cI w ++ [(ad w.1.length, vel ad cI (fun _ _ => 0) w.1.length s)] = vws ad cI (w.1 ++ [s], vzero w.2 w.1.length) := by
  apply List.ext_getElem?
  intro i
  rw [vws_at, List.getElem?_append, List.getElem?_append, vws_len]
  by_cases h : i + 1 < w.1.length
  · rw [if_pos (by omega), if_pos (by omega), vws_at]
    cases w.1[i + 1]? with
    | none => rfl
    | some s1 =>
      have : vzero w.2 w.1.length (i + 1) = w.2 (i + 1) := by funext j; simp [vzero]; omega
      cases s1 <;> simp [vel, this]
  · rw [if_neg (by omega), if_neg (by omega)]
    by_cases e : i + 1 = w.1.length
    · rw [show i - (w.1.length - 1) = 0 by omega, show i + 1 - w.1.length = 0 by omega]
      have : vzero w.2 w.1.length w.1.length = fun _ => 0 := by funext j; simp [vzero]
      cases s <;> simp [vel, this, e]
    · rw [List.getElem?_eq_none (by simp; omega), List.getElem?_eq_none (by simp; omega)]
      rfl
/-- the numbers of slots of the cells behind the first -/
def vsz1 (s : vSh) : Nat := match s with | .inl n => n | .inr o => o.2.length
def vssz (sh : List vSh) : Nat := ((sh.drop 1).map vsz1).sum
theorem vssz_push (sh : List vSh) (s : vSh) (h : sh.length ≠ 0) : vssz (sh ++ [s]) = vssz sh + vsz1 s := by
  cases sh with
  | nil => exact absurd rfl h
  | cons a t => simp [vssz]
theorem vssz_set (sh : List vSh) (r : Nat) (s s' : vSh) (h : sh[r]? = some s) (e : vsz1 s' = vsz1 s) (h0 : r ≠ 0) : vssz (sh.set r s') = vssz sh := by
  cases sh with
  | nil => rfl
  | cons a t =>
    cases r with
    | zero => exact absurd rfl h0
    | succ r =>
      simp only [vssz, List.set_cons_succ, List.drop_succ_cons, List.drop_zero, List.map_set]
      congr 1
      apply List.ext_getElem?
      intro i
      rw [List.getElem?_set]
      by_cases q : r = i
      · subst q
        simp only [List.getElem?_cons_succ] at h
        simp only [if_true, List.length_map, List.getElem?_map, h, Option.map_some, e]
        rw [if_pos ((List.getElem?_eq_some_iff.mp h).1)]
      · rw [if_neg q]
/-- the locals -/
def vlv (ad : Nat → Nat) (ls : List Value) : List (Nat × Value) := (List.range ls.length).filterMap (fun i => (ls[i]?).bind (fun v => if v = Value.null then none else some (i, vcv ad v)))
theorem vlv_mem {ad : Nat → Nat} {ls : List Value} {q : Nat × Value} : q ∈ vlv ad ls ↔ ∃ v, ls[q.1]? = some v ∧ v ≠ Value.null ∧ q.2 = vcv ad v := by
  obtain ⟨i, u⟩ := q
  unfold vlv
  rw [List.mem_filterMap]
  constructor
  · rintro ⟨j, hj, h⟩
    obtain ⟨v, hv, h2⟩ := Option.bind_eq_some_iff.mp h
    by_cases e : v = Value.null
    · rw [if_pos e] at h2; cases h2
    · rw [if_neg e] at h2; cases h2; exact ⟨v, hv, e, rfl⟩
  · rintro ⟨v, hv, hn, hu⟩
    refine ⟨i, List.mem_range.mpr (List.getElem?_eq_some_iff.mp hv).1, ?_⟩
    simp only at hv hu
    rw [hv, hu, Option.bind_some, if_neg hn]
def vLk (m : Nat) (ad : Nat → Nat) (lsC : Array Slot) (ls : List Value) : Prop := lv_has lsC (mL m) (vlv ad ls) ∧ ls.length = mL m ∧ (mG m = true ∨ ls.all (fun v => !vlong v) = true)
theorem vLk.at {m : Nat} {ad : Nat → Nat} {lsC : Array Slot} {ls : List Value} (h : vLk m ad lsC ls) {i : Nat} {v : Value} (hv : ls[i]? = some v) (hn : v ≠ Value.null) : lsC[i]? = some (.val (vcv ad v)) := h.1.2.2 (i, vcv ad v) (vlv_mem.mpr ⟨v, hv, hn, rfl⟩)
theorem vLk.idx {m : Nat} {ad : Nat → Nat} {lsC : Array Slot} {ls : List Value} (h : vLk m ad lsC ls) {i : Nat} {v : Value} (hv : ls[i]? = some v) (hn : v ≠ Value.null) : ∃ k : Nat, (vlv ad ls)[k]? = some (i, vcv ad v) := List.getElem?_of_mem (vlv_mem.mpr ⟨v, hv, hn, rfl⟩)
theorem lv_more {ls : Array Slot} {nL : Nat} {l l' : List (Nat × Value)} (h : lv_has ls nL l) (hs : ∀ q ∈ l', q ∈ l) : lv_has ls nL l' := ⟨h.1, h.2.1, fun q hq => h.2.2 q (hs q hq)⟩
theorem vlong_iff {v : Value} : vlong v = true ↔ v.category = 2 := by simp [vlong]
theorem vLk.st1 {m : Nat} {ad : Nat → Nat} {lsC lsC' : Array Slot} {ls ls' : List Value} {i : Nat} {v : Value} (h : vLk m ad lsC ls) (hs : vst1 (mG m) ls i v = some ls') (hv : v.category = 1)
    (hl : lv_has lsC' (mL m) ((i, vcv ad v) :: (vlv ad ls).filter (fun q => !(q.1 == i) && !(q.1 + 1 == i && q.2.category == 2)))) : vLk m ad lsC' ls' := by
  unfold vst1 at hs
  have hx : ls' = ls.set i v ∧ i < ls.length ∧ ∀ j, j + 1 = i → vlong (ls.getD j .null) = false := by
    by_cases hi : i < ls.length
    · rw [if_pos hi] at hs
      by_cases hg : mG m = true
      · rw [if_pos hg] at hs
        cases i with
        | zero => cases hs; exact ⟨rfl, hi, fun j hj => by omega⟩
        | succ j =>
          simp only at hs
          by_cases hq : vlong (ls.getD j .null) = true
          · rw [if_pos hq] at hs; cases hs
          · rw [if_neg hq] at hs
            cases hs
            exact ⟨rfl, hi, fun j' hj => by rw [show j' = j by omega]; simpa using hq⟩
      · rw [if_neg hg] at hs
        cases hs
        refine ⟨rfl, hi, fun j hj => ?_⟩
        rcases h.2.2 with q | q
        · exact absurd q hg
        · have hj2 : j < ls.length := by omega
          have := List.all_eq_true.mp q (ls.getD j .null) (by rw [List.getD_eq_getElem?_getD, List.getElem?_eq_getElem hj2]; exact List.getElem_mem hj2)
          simpa using this
    · rw [if_neg hi] at hs; cases hs
  obtain ⟨rfl, hi, hj⟩ := hx
  refine ⟨lv_more hl ?_, by rw [List.length_set]; exact h.2.1, ?_⟩
  · rintro ⟨k, u⟩ hq
    obtain ⟨v1, h1, h2, h3⟩ := vlv_mem.mp hq
    simp only at h1 h3
    rw [List.getElem?_set] at h1
    by_cases e : i = k
    · subst e
      rw [if_pos rfl, if_pos hi] at h1
      cases h1
      rw [h3]
      exact List.mem_cons_self
    · rw [if_neg e] at h1
      refine List.mem_cons_of_mem _ (List.mem_filter.mpr ⟨vlv_mem.mpr ⟨v1, h1, h2, h3⟩, ?_⟩)
      have e1 : (k == i) = false := by simpa using fun q => e q.symm
      simp only [e1, Bool.not_false, Bool.true_and]
      by_cases e2 : k + 1 = i
      · have := hj k e2
        rw [List.getD_eq_getElem?_getD, h1, Option.getD_some] at this
        have h4 : ¬ v1.category = 2 := fun q => by rw [vlong_iff.mpr q] at this; cases this
        rw [h3, vcv_cat]
        simp [h4]
      · simp [e2]
  · rcases h.2.2 with q | q
    · exact Or.inl q
    · refine Or.inr (List.all_eq_true.mpr fun x hx => ?_)
      rcases List.mem_or_eq_of_mem_set hx with hx | hx
      · exact List.all_eq_true.mp q x hx
      · rw [hx]
        simp [vlong, hv]
theorem vLk.st2 {m : Nat} {ad : Nat → Nat} {lsC lsC' : Array Slot} {ls ls' : List Value} {i : Nat} {v : Value} (h : vLk m ad lsC ls) (hs : vst2 (mG m) ls i v = some ls')
    (hl : lv_has lsC' (mL m) ((i, vcv ad v) :: (vlv ad ls).filter (fun q => !(q.1 == i) && (!(q.1 == i + 1) && !(q.1 + 1 == i && q.2.category == 2))))) : vLk m ad lsC' ls' ∧ i + 1 < mL m := by
  unfold vst2 at hs
  have hx : ls' = (ls.set i v).set (i + 1) .null ∧ i + 1 < ls.length ∧ mG m = true ∧ ∀ j, j + 1 = i → vlong (ls.getD j .null) = false := by
    by_cases hi : i + 1 < ls.length
    · rw [if_pos hi] at hs
      by_cases hg : mG m = true
      · rw [if_pos hg] at hs
        cases i with
        | zero => cases hs; exact ⟨rfl, hi, hg, fun j hj => by omega⟩
        | succ j =>
          simp only at hs
          by_cases hq : vlong (ls.getD j .null) = true
          · rw [if_pos hq] at hs; cases hs
          · rw [if_neg hq] at hs
            cases hs
            exact ⟨rfl, hi, hg, fun j' hj => by rw [show j' = j by omega]; simpa using hq⟩
      · rw [if_neg hg] at hs; cases hs
    · rw [if_neg hi] at hs; cases hs
  obtain ⟨rfl, hi, hg, hj⟩ := hx
  refine ⟨⟨lv_more hl ?_, by rw [List.length_set, List.length_set]; exact h.2.1, Or.inl hg⟩, by rw [← h.2.1]; exact hi⟩
  rintro ⟨k, u⟩ hq
  obtain ⟨v1, h1, h2, h3⟩ := vlv_mem.mp hq
  simp only at h1 h3
  rw [List.getElem?_set] at h1
  by_cases e0 : i + 1 = k
  · subst e0
    rw [if_pos rfl, if_pos (by rw [List.length_set]; exact hi)] at h1
    cases h1
    exact absurd rfl h2
  · rw [if_neg e0, List.getElem?_set] at h1
    by_cases e : i = k
    · subst e
      rw [if_pos rfl, if_pos (by omega)] at h1
      cases h1
      rw [h3]
      exact List.mem_cons_self
    · rw [if_neg e] at h1
      refine List.mem_cons_of_mem _ (List.mem_filter.mpr ⟨vlv_mem.mpr ⟨v1, h1, h2, h3⟩, ?_⟩)
      have e1 : (k == i) = false := by simpa using fun q => e q.symm
      have e3 : (k == i + 1) = false := by simpa using fun q => e0 q.symm
      simp only [e1, e3, Bool.not_false, Bool.true_and]
      by_cases e2 : k + 1 = i
      · have := hj k e2
        rw [List.getD_eq_getElem?_getD, h1, Option.getD_some] at this
        have h4 : ¬ v1.category = 2 := fun q => by rw [vlong_iff.mpr q] at this; cases this
        rw [h3, vcv_cat]
        simp [h4]
      · simp [e2]
/-- the locals with which a method begins -/
theorem vent_args (ad : Nat → Nat) : ∀ (as : List Value) (i : Nat) (pre : List Value), pre.length = i → ∀ q ∈ vlv ad (pre ++ as.flatMap (fun v => if vlong v then [v, .null] else [v])), i ≤ q.1 → q ∈ lv_args i (as.map (vcv ad)) := by
  intro as
  induction as with
  | nil =>
    intro i pre hp q hq hi
    obtain ⟨v, h1, -, -⟩ := vlv_mem.mp hq
    simp at h1
    have := (List.getElem?_eq_some_iff.mp h1).1
    omega
  | cons a as ih =>
    intro i pre hp q hq hi
    obtain ⟨v, h1, h2, h3⟩ := vlv_mem.mp hq
    rw [List.map_cons, lv_args]
    by_cases e : q.1 = i
    · have : v = a := by
        rw [e, List.getElem?_append_right (by omega), hp, Nat.sub_self] at h1
        rw [List.flatMap_cons] at h1
        by_cases hl : vlong a = true
        · rw [if_pos hl] at h1; simpa using h1.symm
        · rw [if_neg hl] at h1; simpa using h1.symm
      subst this
      obtain ⟨k, u⟩ := q
      simp only at e h3
      subst e; subst h3
      exact List.mem_cons_self
    · refine List.mem_cons_of_mem _ ?_
      rw [vcv_cat]
      by_cases hl : vlong a = true
      · rw [if_pos (vlong_iff.mp hl)]
        have h5 : q.1 ≠ i + 1 := by
          intro z
          rw [z, List.getElem?_append_right (by omega), hp, Nat.add_sub_cancel_left, List.flatMap_cons, if_pos hl] at h1
          simp at h1
          exact h2 h1.symm
        refine ih (i + 2) (pre ++ [a, .null]) (by simp [hp]) q ?_ (by omega)
        rw [List.append_assoc]
        rw [List.flatMap_cons, if_pos hl] at hq
        exact hq
      · rw [if_neg (fun z => hl (vlong_iff.mpr z))]
        refine ih (i + 1) (pre ++ [a]) (by simp [hp]) q ?_ (by omega)
        rw [List.append_assoc]
        rw [List.flatMap_cons, if_neg hl] at hq
        exact hq
theorem vlv_pad (ad : Nat → Nat) (l : List Value) (n : Nat) : ∀ q ∈ vlv ad (l ++ List.replicate n .null), q ∈ vlv ad l := by
  intro q hq
  obtain ⟨v, h1, h2, h3⟩ := vlv_mem.mp hq
  refine vlv_mem.mpr ⟨v, ?_, h2, h3⟩
  rw [List.getElem?_append] at h1
  split at h1
  · exact h1
  · rw [List.getElem?_replicate] at h1
    split at h1
    · cases h1; exact absurd rfl h2
    · cases h1
theorem vflat_len (as : List Value) : (as.flatMap (fun v => if vlong v then [v, .null] else [v])).length = vcats as := by
  induction as with
  | nil => rfl
  | cons a as ih =>
    rw [List.flatMap_cons, List.length_append, ih]
    unfold vcats
    rw [List.map_cons, List.sum_cons]
    cases a <;> simp [vlong, Value.category]
theorem lg_sl_len (vs : List Value) : (lg_sl vs).length = vcats vs := by
  induction vs with
  | nil => rfl
  | cons a as ih =>
    have : lg_sl (a :: as) = (if a.category = 2 then [.val a, .second] else [.val a]) ++ lg_sl as := by simp [lg_sl]
    rw [this, List.length_append, ih]
    unfold vcats
    rw [List.map_cons, List.sum_cons]
    cases a <;> simp [Value.category]
theorem vent_ok (t : Nat) (ad : Nat → Nat) (as : List Value) (h1 : mG t = true ∨ as.all (fun v => !vlong v) = true) (h2 : vcats as ≤ mL t) :
    vLk t ad ((lg_sl (as.map (vcv ad)) ++ List.replicate (mL t - (lg_sl (as.map (vcv ad))).length) Slot.unset).toArray) (vent t as) := by
  have hc : vcats (as.map (vcv ad)) = vcats as := vcv_cats ad as
  refine ⟨lv_more (lv_entry (as.map (vcv ad)) (n := mL t) (by rw [lg_sl_len, hc]; exact h2)) fun q hq => ?_, ?_, ?_⟩
  · have := vent_args ad as 0 [] rfl q (vlv_pad ad _ _ q hq) (Nat.zero_le _)
    exact this
  · unfold vent
    simp only [List.length_append, List.length_replicate, vflat_len]
    omega
  · rcases h1 with h1 | h1
    · exact Or.inl h1
    · refine Or.inr (List.all_eq_true.mpr fun x hx => ?_)
      unfold vent at hx
      simp only at hx
      rcases List.mem_append.mp hx with hx | hx
      · obtain ⟨a, ha, hx⟩ := List.mem_flatMap.mp hx
        have hq := List.all_eq_true.mp h1 a ha
        have hq2 : vlong a = false := by simpa using hq
        rw [if_neg (by rw [hq2]; decide)] at hx
        rw [List.mem_singleton.mp hx]
        exact hq
      · rw [(List.mem_replicate.mp hx).2]
        rfl
