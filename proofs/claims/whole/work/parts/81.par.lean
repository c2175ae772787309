/-! A run that never looks at the script is the same whatever the script -/
def wsim (L : Nat) (w w0 : vW) : Prop := ∃ T, w.1 = .inr (99, []) :: T ∧ w0.1 = .inl L :: T ∧ ∀ b, b ≠ 0 → b < w.1.length → w0.2 b = w.2 b
def vRs (L : Nat) : vR → vR → Prop
  | .inl q, .inl q0 => q0.1 = q.1 ∧ q0.2.1 = q.2.1 ∧ q0.2.2.1 = q.2.2.1 ∧ wsim L q.2.2.2 q0.2.2.2
  | .inr (.inl q), .inr (.inl q0) => q0.1 = q.1 ∧ q0.2.1 = q.2.1 ∧ q0.2.2.1 = q.2.2.1 ∧ q0.2.2.2.1 = q.2.2.2.1 ∧ q0.2.2.2.2.1 = q.2.2.2.2.1 ∧ wsim L q.2.2.2.2.2 q0.2.2.2.2.2
  | .inr (.inr v), .inr (.inr v0) => v0 = v
  | _, _ => False
def vPar (L : Nat) (o o0 : Option vR) : Prop := ∀ q, o = some q → ∃ q0, o0 = some q0 ∧ vRs L q q0
theorem vPar_no {L : Nat} {o0 : Option vR} : vPar L none o0 := fun q h => by cases h
theorem vPar_so {L : Nat} {q q0 : vR} (h : vRs L q q0) : vPar L (some q) (some q0) := fun q1 h1 => by
  cases h1
  exact ⟨q0, rfl, h⟩
theorem vPar_nx {L pc : Nat} {ls st : List Value} {w w0 : vW} (h : wsim L w w0) : vPar L (vnx pc ls st w) (vnx pc ls st w0) := vPar_so ⟨rfl, rfl, rfl, h⟩
theorem vPar_rt {L : Nat} {v : Option Value} : vPar L (some (.inr (.inr v))) (some (.inr (.inr v))) := vPar_so rfl
theorem vPar_if {L : Nat} {c : Prop} {d : Decidable c} {a b a0 b0 : Option vR} (ha : c → vPar L a a0) (hb : ¬ c → vPar L b b0) : vPar L (@ite _ c d a b) (@ite _ c d a0 b0) := by
  by_cases h : c
  · rw [if_pos h, if_pos h]; exact ha h
  · rw [if_neg h, if_neg h]; exact hb h
section PAR
variable {L : Nat} {w w0 : vW}
theorem ws_len (hw : wsim L w w0) : w0.1.length = w.1.length := by
  obtain ⟨T, h1, h2, -⟩ := hw
  rw [h1, h2]
  rfl
theorem ws_get (hw : wsim L w w0) {r : Nat} (hr : r ≠ 0) : w0.1[r]? = w.1[r]? := by
  obtain ⟨T, h1, h2, -⟩ := hw
  rw [h1, h2]
  cases r with
  | zero => exact absurd rfl hr
  | succ r => rfl
theorem ws_0 (hw : wsim L w w0) : w.1[0]? = some (.inr (99, [])) := by
  obtain ⟨T, h1, -, -⟩ := hw
  rw [h1]
  rfl
theorem ws_m (hw : wsim L w w0) {b : Nat} (hb : b ≠ 0) (hl : b < w.1.length) : w0.2 b = w.2 b := by
  obtain ⟨T, -, -, h3⟩ := hw
  exact h3 b hb hl
theorem ws_lt {l : List vSh} {r : Nat} {x : vSh} (h : l[r]? = some x) : r < l.length := (List.getElem?_eq_some_iff.mp h).1
theorem ws_push (hw : wsim L w w0) (x : vSh) : wsim L (w.1 ++ [x], vzero w.2 w.1.length) (w0.1 ++ [x], vzero w0.2 w.1.length) := by
  obtain ⟨T, h1, h2, h3⟩ := id hw
  refine ⟨T ++ [x], by show w.1 ++ [x] = _; rw [h1]; rfl, by show w0.1 ++ [x] = _; rw [h2]; rfl, fun b hb hl => ?_⟩
  have hl' : b < w.1.length + 1 := by
    have : (w.1 ++ [x]).length = w.1.length + 1 := by rw [List.length_append]; rfl
    rw [← this]
    exact hl
  funext j
  show (if b = w.1.length then 0 else w0.2 b j) = (if b = w.1.length then 0 else w.2 b j)
  by_cases q : b = w.1.length
  · rw [if_pos q, if_pos q]
  · rw [if_neg q, if_neg q, h3 b hb (by omega)]
theorem ws_keep (hw : wsim L w w0) {M M0 : Nat → Nat → Int32} (h : ∀ b, b ≠ 0 → b < w.1.length → M0 b = M b) : wsim L (w.1, M) (w0.1, M0) := by
  obtain ⟨T, h1, h2, -⟩ := hw
  exact ⟨T, h1, h2, h⟩
theorem ws_set (hw : wsim L w w0) {r : Nat} (hr : r ≠ 0) (x : vSh) : wsim L (w.1.set r x, w.2) (w0.1.set r x, w0.2) := by
  obtain ⟨T, h1, h2, h3⟩ := hw
  cases r with
  | zero => exact absurd rfl hr
  | succ r => exact ⟨T.set r x, by show w.1.set _ x = _; rw [h1]; rfl, by show w0.1.set _ x = _; rw [h2]; rfl, fun b hb hl => h3 b hb (by rw [← List.length_set (as := w.1) (i := r + 1) (a := x)]; exact hl)⟩
theorem ws_upd (hw : wsim L w w0) (r k : Nat) (x : Int32) : wsim L (w.1, upd2 w.2 r k x) (w0.1, upd2 w0.2 r k x) := ws_keep hw (fun b hb hl => by
  funext j
  show (if b = r then (if j = k then x else w0.2 b j) else w0.2 b j) = (if b = r then (if j = k then x else w.2 b j) else w.2 b j)
  rw [ws_m hw hb hl])
theorem vPar_jmp (hw : wsim L w w0) {pc : Nat} {off : Int} {ls st : List Value} : vPar L (vjmp pc off ls st w) (vjmp pc off ls st w0) := by
  unfold vjmp
  exact vPar_if (fun _ => vPar_nx hw) (fun _ => vPar_no)
theorem vPar_br (hw : wsim L w w0) {b : Bool} {pc : Nat} {off : Int} {ls st : List Value} : vPar L (vbr b pc off ls st w) (vbr b pc off ls st w0) := by
  unfold vbr
  exact vPar_if (fun _ => vPar_if (fun _ => vPar_nx hw) (fun _ => vPar_nx hw)) (fun _ => vPar_no)
theorem vPar_call (hw : wsim L w w0) {m t pc : Nat} {ls st : List Value} : vPar L (vcall m t pc ls st w) (vcall m t pc ls st w0) := by
  unfold vcall
  dsimp only
  refine vPar_if (fun _ => vPar_if (fun _ => vPar_so ⟨rfl, rfl, rfl, rfl, rfl, hw⟩) (fun _ => ?_)) (fun _ => vPar_no)
  split
  · rename_i r _ _
    by_cases hr : r = 0
    · subst hr
      rw [ws_0 hw]
      dsimp only
      rw [if_neg (fun z => z.2 rfl)]
      exact vPar_no
    · rw [ws_get hw hr]
      cases w.1[r]? with
      | none => exact vPar_no
      | some y =>
        cases y with
        | inl n => exact vPar_no
        | inr p => exact vPar_if (fun _ => vPar_so ⟨rfl, rfl, rfl, rfl, rfl, hw⟩) (fun _ => vPar_no)
  · exact vPar_no
theorem vPar_new (hw : wsim L w w0) {o idx pc : Nat} {ls st : List Value} : vPar L (vnew o idx pc ls st w) (vnew o idx pc ls st w0) := by
  unfold vnew
  rw [ws_len hw]
  cases vlk nTab o idx with
  | none => exact vPar_no
  | some ci =>
    dsimp only
    cases nFs[ci]? with
    | none => exact vPar_no
    | some fs => exact vPar_if (fun _ => vPar_no) (fun _ => vPar_nx (ws_push hw _))
theorem vPar_newa (hw : wsim L w w0) {pc : Nat} {ls st : List Value} : vPar L (vnewa pc ls st w) (vnewa pc ls st w0) := by
  unfold vnewa
  rw [ws_len hw]
  split
  · exact vPar_if (fun _ => vPar_no) (fun _ => vPar_nx (ws_push hw _))
  · exact vPar_no
theorem vPar_put (hw : wsim L w w0) {ini : Bool} {o idx pc : Nat} {ls st : List Value} : vPar L (vput ini o idx pc ls st w) (vput ini o idx pc ls st w0) := by
  unfold vput
  split
  · rename_i x r rest
    cases vlk fTab o idx with
    | none => exact vPar_no
    | some p =>
      obtain ⟨ci, k, nest⟩ := p
      dsimp only
      by_cases hr : r = 0
      · subst hr
        rw [ws_0 hw]
        dsimp only
        rw [if_neg (fun z => z.2.1 rfl)]
        exact vPar_no
      · rw [ws_get hw hr]
        cases w.1[r]? with
        | none => exact vPar_no
        | some y =>
          cases y with
          | inl n => exact vPar_no
          | inr p =>
            obtain ⟨c, fs⟩ := p
            refine vPar_if (fun _ => ?_) (fun _ => vPar_no)
            cases fs[k]? with
            | none => exact vPar_no
            | some v =>
              cases v with
              | some v => exact vPar_no
              | none => exact vPar_if (fun _ => vPar_if (fun _ => vPar_nx (ws_upd hw _ _ _)) (fun _ => vPar_if (fun _ => vPar_nx (ws_upd hw _ _ _)) (fun _ => vPar_no))) (fun _ => vPar_nx (ws_upd hw _ _ _))
  · rename_i q r rest
    cases vlk fTab o idx with
    | none => exact vPar_no
    | some p =>
      obtain ⟨ci, k, nest⟩ := p
      dsimp only
      by_cases hr : r = 0
      · subst hr
        rw [ws_0 hw]
        dsimp only
        rw [if_neg (fun z => z.2.1 rfl)]
        exact vPar_no
      · rw [ws_get hw hr]
        cases w.1[r]? with
        | none => exact vPar_no
        | some y =>
          cases y with
          | inl n => exact vPar_no
          | inr p =>
            obtain ⟨c, fs⟩ := p
            refine vPar_if (fun _ => ?_) (fun _ => vPar_no)
            cases fs[k]? with
            | none => exact vPar_no
            | some v =>
              cases v with
              | none => exact vPar_no
              | some v => exact vPar_nx (ws_set hw hr _)
  · exact vPar_no
theorem vPar_get (hw : wsim L w w0) {o idx pc : Nat} {ls st : List Value} : vPar L (vget o idx pc ls st w) (vget o idx pc ls st w0) := by
  unfold vget
  split
  · rename_i r rest
    cases vlk fTab o idx with
    | none => exact vPar_no
    | some p =>
      obtain ⟨ci, k, nest⟩ := p
      dsimp only
      by_cases hr : r = 0
      · subst hr
        rw [ws_0 hw]
        dsimp only
        rw [if_neg (fun z => z.2 rfl)]
        exact vPar_no
      · rw [ws_get hw hr]
        cases hg : w.1[r]? with
        | none => exact vPar_no
        | some y =>
          rw [ws_m hw hr (ws_lt hg)]
          cases y with
          | inl n => exact vPar_no
          | inr p =>
            obtain ⟨c, fs⟩ := p
            refine vPar_if (fun _ => ?_) (fun _ => vPar_no)
            cases fs[k]? with
            | none => exact vPar_no
            | some v =>
              cases v with
              | none => exact vPar_nx hw
              | some v => exact vPar_nx hw
  · exact vPar_no
theorem vPar_iald (hw : wsim L w w0) {pc : Nat} {ls st : List Value} : vPar L (viald pc ls st w) (viald pc ls st w0) := by
  unfold viald
  split
  · rename_i i r rest
    by_cases hr : r = 0
    · subst hr
      rw [ws_0 hw]
      exact vPar_no
    · rw [ws_get hw hr]
      cases hg : w.1[r]? with
      | none => exact vPar_no
      | some y =>
        rw [ws_m hw hr (ws_lt hg)]
        cases y with
        | inr p => exact vPar_no
        | inl n => exact vPar_if (fun _ => vPar_no) (fun _ => vPar_nx hw)
  · exact vPar_no
theorem vPar_iast (hw : wsim L w w0) {pc : Nat} {ls st : List Value} : vPar L (viast pc ls st w) (viast pc ls st w0) := by
  unfold viast
  split
  · rename_i x i r rest
    by_cases hr : r = 0
    · subst hr
      rw [ws_0 hw]
      exact vPar_no
    · rw [ws_get hw hr]
      cases w.1[r]? with
      | none => exact vPar_no
      | some y =>
        cases y with
        | inr p => exact vPar_no
        | inl n => exact vPar_if (fun _ => vPar_no) (fun _ => vPar_nx (ws_upd hw _ _ _))
  · exact vPar_no
theorem vPar_len (hw : wsim L w w0) {pc : Nat} {ls st : List Value} : vPar L (valen pc ls st w) (valen pc ls st w0) := by
  unfold valen
  split
  · rename_i r rest
    by_cases hr : r = 0
    · subst hr
      rw [ws_0 hw]
      exact vPar_no
    · rw [ws_get hw hr]
      cases w.1[r]? with
      | none => exact vPar_no
      | some y =>
        cases y with
        | inr p => exact vPar_no
        | inl n => exact vPar_nx hw
  · exact vPar_no
theorem vPar_copy (hw : wsim L w w0) {m pc : Nat} {ls st : List Value} : vPar L (vacopy m pc ls st w) (vacopy m pc ls st w0) := by
  unfold vacopy
  split
  · rename_i n dp a sp a0 rest
    by_cases h0 : a0 = 0
    · subst h0
      rw [ws_0 hw]
      exact vPar_no
    · by_cases h1 : a = 0
      · subst h1
        rw [ws_0 hw]
        cases w.1[a0]? with
        | none => exact vPar_no
        | some y => cases y <;> exact vPar_no
      · rw [ws_get hw h0, ws_get hw h1]
        cases hg : w.1[a0]? with
        | none => exact vPar_no
        | some y =>
          cases y with
          | inr p => exact vPar_no
          | inl n0 =>
            cases hh : w.1[a]? with
            | none => exact vPar_no
            | some y =>
              cases y with
              | inr p => exact vPar_no
              | inl n1 =>
                refine vPar_if (fun _ => vPar_no) (fun _ => vPar_nx (ws_keep hw (fun b hb hl => ?_)))
                funext j
                rw [ws_m hw h0 (ws_lt hg), ws_m hw h1 (ws_lt hh), ws_m hw hb hl]
  · exact vPar_no
end PAR
theorem vPar_all {L m pc n : Nat} {i : Instr} {ls st : List Value} {w w0 : vW} (hw : wsim L w w0) : vPar L (vinst m pc i n ls st w) (vinst m pc i n ls st w0) := by
  cases i
  case new idx => exact vPar_if (fun _ => vPar_new hw) (fun _ => vPar_no)
  case newarray t => exact vPar_if (fun _ => vPar_newa hw) (fun _ => vPar_no)
  case putfield idx => exact vPar_if (fun _ => vPar_put hw) (fun _ => vPar_no)
  case ifCond cd off => exact vPar_if (fun _ => by split <;> first | exact (vPar_br hw) | exact vPar_no) (fun _ => vPar_no)
  case if_icmp cd off => exact vPar_if (fun _ => by split <;> first | exact (vPar_br hw) | exact vPar_no) (fun _ => vPar_no)
  case goto off => exact vPar_if (fun _ => (vPar_jmp hw)) (fun _ => vPar_no)
  case tableswitch d lo hi offs =>
    show vPar L (vtab pc d lo hi offs ls st w) (vtab pc d lo hi offs ls st w0)
    unfold vtab
    split
    · refine vPar_if (fun _ => (vPar_jmp hw)) (fun _ => ?_)
      split
      · exact (vPar_jmp hw)
      · exact vPar_no
    · exact vPar_no
  case invokestatic idx =>
    refine vPar_if (fun _ => ?_) (fun _ => vPar_no)
    unfold vinvs
    split
    · refine vPar_if (fun _ => (vPar_call hw)) (fun _ => vPar_if (fun _ => ?_) (fun _ => vPar_if (fun _ => ?_) (fun _ => vPar_if (fun _ => ?_) (fun _ => vPar_no))))
      · exact vPar_copy hw
      · unfold vmm
        split <;> first | exact vPar_if (fun _ => vPar_no) (fun _ => (vPar_nx hw)) | exact vPar_no
      · unfold vmm
        split <;> first | exact vPar_if (fun _ => vPar_no) (fun _ => (vPar_nx hw)) | exact vPar_no
    · exact vPar_no
  case invokevirtual idx =>
    refine vPar_if (fun _ => ?_) (fun _ => vPar_no)
    unfold vinvv
    split
    · refine vPar_if (fun _ => (vPar_call hw)) (fun _ => vPar_if (fun _ => ?_) (fun _ => vPar_if (fun _ => ?_) (fun _ => vPar_no)))
      · unfold vslen
        split <;> first | exact vPar_if (fun _ => vPar_no) (fun _ => (vPar_nx hw)) | exact vPar_no
      · unfold vsch
        split <;> first | exact vPar_if (fun _ => vPar_no) (fun _ => (vPar_nx hw)) | exact vPar_no
    · exact vPar_no
  case invokespecial idx =>
    refine vPar_if (fun _ => ?_) (fun _ => vPar_no)
    unfold vinvi
    split
    · refine vPar_if (fun _ => (vPar_call hw)) (fun _ => vPar_if (fun _ => ?_) (fun _ => vPar_no))
      unfold vobj
      split <;> first | exact vPar_if (fun _ => vPar_no) (fun _ => (vPar_nx hw)) | exact vPar_no
    · exact vPar_no
  case ireturn => exact vPar_if (fun _ => by split <;> first | exact vPar_if (fun _ => vPar_rt) (fun _ => vPar_no) | exact vPar_no) (fun _ => vPar_no)
  case lreturn => exact vPar_if (fun _ => by split <;> first | exact vPar_if (fun _ => vPar_rt) (fun _ => vPar_no) | exact vPar_no) (fun _ => vPar_no)
  case areturn => exact vPar_if (fun _ => by split <;> first | exact vPar_if (fun _ => vPar_rt) (fun _ => vPar_no) | exact vPar_no) (fun _ => vPar_no)
  case return_ => exact vPar_if (fun _ => by split <;> first | exact vPar_if (fun _ => vPar_rt) (fun _ => vPar_no) | exact vPar_no) (fun _ => vPar_no)
  case iastore => exact vPar_if (fun _ => vPar_iast hw) (fun _ => vPar_no)
  case getfield idx => exact vPar_if (fun _ => vPar_get hw) (fun _ => vPar_no)
  case ldc idx => exact vPar_if (fun _ => by unfold vldc; split <;> first | exact vPar_if (fun _ => (vPar_nx hw)) (fun _ => vPar_if (fun _ => (vPar_nx hw)) (fun _ => vPar_no)) | exact vPar_if (fun _ => (vPar_nx hw)) (fun _ => vPar_no) | exact vPar_no) (fun _ => vPar_no)
  case ldc_w idx => exact vPar_if (fun _ => by unfold vldc; split <;> first | exact vPar_if (fun _ => (vPar_nx hw)) (fun _ => vPar_if (fun _ => (vPar_nx hw)) (fun _ => vPar_no)) | exact vPar_if (fun _ => (vPar_nx hw)) (fun _ => vPar_no) | exact vPar_no) (fun _ => vPar_no)
  case ldc2_w idx => exact vPar_if (fun _ => by unfold vldc; split <;> first | exact vPar_if (fun _ => (vPar_nx hw)) (fun _ => vPar_if (fun _ => (vPar_nx hw)) (fun _ => vPar_no)) | exact vPar_if (fun _ => (vPar_nx hw)) (fun _ => vPar_no) | exact vPar_no) (fun _ => vPar_no)
  case iadd => exact vPar_if (fun _ => by unfold vbin; split <;> first | exact (vPar_nx hw) | exact vPar_no) (fun _ => vPar_no)
  case isub => exact vPar_if (fun _ => by unfold vbin; split <;> first | exact (vPar_nx hw) | exact vPar_no) (fun _ => vPar_no)
  case imul => exact vPar_if (fun _ => by unfold vbin; split <;> first | exact (vPar_nx hw) | exact vPar_no) (fun _ => vPar_no)
  case iand => exact vPar_if (fun _ => by unfold vbin; split <;> first | exact (vPar_nx hw) | exact vPar_no) (fun _ => vPar_no)
  case ior => exact vPar_if (fun _ => by unfold vbin; split <;> first | exact (vPar_nx hw) | exact vPar_no) (fun _ => vPar_no)
  case ixor => exact vPar_if (fun _ => by unfold vbin; split <;> first | exact (vPar_nx hw) | exact vPar_no) (fun _ => vPar_no)
  case ishl => exact vPar_if (fun _ => by unfold vbin; split <;> first | exact (vPar_nx hw) | exact vPar_no) (fun _ => vPar_no)
  case ishr => exact vPar_if (fun _ => by unfold vbin; split <;> first | exact (vPar_nx hw) | exact vPar_no) (fun _ => vPar_no)
  case iushr => exact vPar_if (fun _ => by unfold vbin; split <;> first | exact (vPar_nx hw) | exact vPar_no) (fun _ => vPar_no)
  case idiv => exact vPar_if (fun _ => by unfold vdiv; split <;> first | exact vPar_if (fun _ => vPar_no) (fun _ => (vPar_nx hw)) | exact vPar_no) (fun _ => vPar_no)
  case irem => exact vPar_if (fun _ => by unfold vdiv; split <;> first | exact vPar_if (fun _ => vPar_no) (fun _ => (vPar_nx hw)) | exact vPar_no) (fun _ => vPar_no)
  case ineg => exact vPar_if (fun _ => by unfold vun; split <;> first | exact (vPar_nx hw) | exact vPar_no) (fun _ => vPar_no)
  case i2b => exact vPar_if (fun _ => by unfold vun; split <;> first | exact (vPar_nx hw) | exact vPar_no) (fun _ => vPar_no)
  case i2s => exact vPar_if (fun _ => by unfold vun; split <;> first | exact (vPar_nx hw) | exact vPar_no) (fun _ => vPar_no)
  case i2l => exact vPar_if (fun _ => by split <;> first | exact (vPar_nx hw) | exact vPar_no) (fun _ => vPar_no)
  case lcmp => exact vPar_if (fun _ => by split <;> first | exact (vPar_nx hw) | exact vPar_no) (fun _ => vPar_no)
  case ladd => exact vPar_if (fun _ => by unfold vlbin; split <;> first | exact (vPar_nx hw) | exact vPar_no) (fun _ => vPar_no)
  case lmul => exact vPar_if (fun _ => by unfold vlbin; split <;> first | exact (vPar_nx hw) | exact vPar_no) (fun _ => vPar_no)
  case dup => exact vPar_if (fun _ => by split <;> first | exact vPar_if (fun _ => (vPar_nx hw)) (fun _ => vPar_no) | exact vPar_no) (fun _ => vPar_no)
  case dup2 => exact vPar_if (fun _ => by split <;> first | exact vPar_if (fun _ => (vPar_nx hw)) (fun _ => vPar_no) | exact vPar_no) (fun _ => vPar_no)
  case iconst k => exact vPar_if (fun _ => (vPar_nx hw)) (fun _ => vPar_no)
  case bipush k => exact vPar_if (fun _ => (vPar_nx hw)) (fun _ => vPar_no)
  case sipush k => exact vPar_if (fun _ => (vPar_nx hw)) (fun _ => vPar_no)
  case lconst k => exact vPar_if (fun _ => (vPar_nx hw)) (fun _ => vPar_no)
  case iload_n k => exact vPar_if (fun _ => by unfold vild; split <;> first | exact (vPar_nx hw) | exact vPar_no) (fun _ => vPar_no)
  case iload k => exact vPar_if (fun _ => by unfold vild; split <;> first | exact (vPar_nx hw) | exact vPar_no) (fun _ => vPar_no)
  case lload_n k => exact vPar_if (fun _ => by unfold vlld; split <;> first | exact (vPar_nx hw) | exact vPar_no) (fun _ => vPar_no)
  case lload k => exact vPar_if (fun _ => by unfold vlld; split <;> first | exact (vPar_nx hw) | exact vPar_no) (fun _ => vPar_no)
  case aload_n k => exact vPar_if (fun _ => by unfold vald; split <;> first | exact (vPar_nx hw) | exact vPar_no) (fun _ => vPar_no)
  case istore_n k => exact vPar_if (fun _ => by unfold vist; split <;> first | (split <;> first | exact (vPar_nx hw) | exact vPar_no) | exact vPar_no) (fun _ => vPar_no)
  case istore k => exact vPar_if (fun _ => by unfold vist; split <;> first | (split <;> first | exact (vPar_nx hw) | exact vPar_no) | exact vPar_no) (fun _ => vPar_no)
  case lstore_n k => exact vPar_if (fun _ => by unfold vlst; split <;> first | (split <;> first | exact (vPar_nx hw) | exact vPar_no) | exact vPar_no) (fun _ => vPar_no)
  case astore_n k => exact vPar_if (fun _ => by unfold vast; split <;> first | (split <;> first | exact (vPar_nx hw) | exact vPar_no) | exact vPar_no) (fun _ => vPar_no)
  case iinc k n => exact vPar_if (fun _ => by unfold vinc; split <;> first | (split <;> first | exact (vPar_nx hw) | exact vPar_no) | exact vPar_no) (fun _ => vPar_no)
  case iaload => exact vPar_if (fun _ => vPar_iald hw) (fun _ => vPar_no)
  case arraylength => exact vPar_if (fun _ => vPar_len hw) (fun _ => vPar_no)
  all_goals exact vPar_no
theorem exec_par {L : Nat} : ∀ (f m pc : Nat) (ls st : List Value) (w w0 : vW) (r : Option Value × vW), wsim L w w0 → exec f m pc ls st w = some r → ∃ w1, exec f m pc ls st w0 = some (r.1, w1) ∧ wsim L r.2 w1 := by
  intro f
  induction f with
  | zero => intro m pc ls st w w0 r hw h; cases h
  | succ f ih =>
    intro m pc ls st w w0 r hw h
    rw [exec] at h ⊢
    have hp : vPar L (vstep m pc ls st w) (vstep m pc ls st w0) := by
      unfold vstep
      cases decode (mB m) pc with
      | error e => exact vPar_no
      | ok z => exact vPar_all hw
    cases hs : vstep m pc ls st w with
    | none => rw [hs] at h; cases h
    | some q =>
      rw [hs] at h
      obtain ⟨q0, e0, hq⟩ := hp q hs
      rw [e0]
      rcases q with ⟨p1, p2, p3, p4⟩ | ⟨p1, p2, p3, p4, p5, p6⟩ | v <;> rcases q0 with ⟨s1, s2, s3, s4⟩ | ⟨s1, s2, s3, s4, s5, s6⟩ | v0
      · obtain ⟨a1, a2, a3, a4⟩ := hq
        dsimp only at a1 a2 a3 a4 h ⊢
        subst a1 a2 a3
        exact ih _ _ _ _ _ _ _ a4 h
      · exact absurd hq id
      · exact absurd hq id
      · exact absurd hq id
      · obtain ⟨a1, a2, a3, a4, a5, a6⟩ := hq
        dsimp only at a1 a2 a3 a4 a5 a6 h ⊢
        subst a1 a2 a3 a4 a5
        cases he : exec f s1 0 (vent s1 s2) [] p6 with
        | none => rw [he] at h; cases h
        | some r1 =>
          rw [he] at h
          obtain ⟨w1, e1, h1⟩ := ih _ _ _ _ _ _ _ a6 he
          rw [e1]
          exact ih _ _ _ _ _ _ _ h1 h
      · exact absurd hq id
      · exact absurd hq id
      · exact absurd hq id
      · cases hq
        cases h
        exact ⟨w0, rfl, hw⟩
theorem R_par {L f m pc : Nat} {ls st : List Value} {w w0 w' : vW} {v : Option Value} (hw : wsim L w w0) (h : exec f m pc ls st w = some (v, w')) : ∃ w1, R m pc ls st w0 = some (v, w1) ∧ wsim L w' w1 := by
  obtain ⟨w1, e, h1⟩ := exec_par _ _ _ _ _ _ _ _ hw h
  exact ⟨w1, R_iff.mpr ⟨_, e⟩, h1⟩
