/-! Nothing ever writes the script -/
def vSam (o : Option vR) (w : vW) : Prop := ∀ q : vS, o = some (.inl q) → q.2.2.2.2 0 = w.2 0
theorem vSam_no {w : vW} : vSam none w := fun q h => by cases h
theorem vSam_nx {pc : Nat} {ls st : List Value} {w w' : vW} (h1 : w'.2 0 = w.2 0) : vSam (vnx pc ls st w') w := fun q h => by
  rw [vnx_eq h]
  exact h1
theorem vSam_id {pc : Nat} {ls st : List Value} {w : vW} : vSam (vnx pc ls st w) w := vSam_nx rfl
theorem vSam_if {c : Prop} {d : Decidable c} {a b : Option vR} {w : vW} (ha : c → vSam a w) (hb : ¬ c → vSam b w) : vSam (@ite _ c d a b) w := by
  by_cases h : c
  · rw [if_pos h]; exact ha h
  · rw [if_neg h]; exact hb h
theorem vSam_jmp {pc : Nat} {off : Int} {ls st : List Value} {w : vW} : vSam (vjmp pc off ls st w) w := by
  unfold vjmp
  exact vSam_if (fun _ => vSam_id) (fun _ => vSam_no)
theorem vSam_br {b : Bool} {pc : Nat} {off : Int} {ls st : List Value} {w : vW} : vSam (vbr b pc off ls st w) w := by
  unfold vbr
  exact vSam_if (fun _ => vSam_if (fun _ => vSam_id) (fun _ => vSam_id)) (fun _ => vSam_no)
theorem vSam_call {m t pc : Nat} {ls st : List Value} {w : vW} : vSam (vcall m t pc ls st w) w := by
  intro q h
  unfold vcall at h
  simp only at h
  split at h
  · split at h
    · cases h
    · split at h
      · split at h
        · split at h <;> cases h
        · cases h
      · cases h
  · cases h
theorem upd2_z {M : Nat → Nat → Int32} {a k : Nat} {x : Int32} (h : a ≠ 0) : upd2 M a k x 0 = M 0 := by
  funext j
  exact if_neg (fun z => h z.symm)
theorem vzero_z {M : Nat → Nat → Int32} {a : Nat} (h : a ≠ 0) : vzero M a 0 = M 0 := by
  funext j
  exact if_neg (fun z => h z.symm)
theorem vSam_new {o idx pc : Nat} {ls st : List Value} {w : vW} : vSam (vnew o idx pc ls st w) w := by
  unfold vnew
  split
  · split
    · exact vSam_if (fun _ => vSam_no) (fun h => vSam_nx (vzero_z (fun z => h (Or.inr z))))
    · exact vSam_no
  · exact vSam_no
theorem vSam_newa {pc : Nat} {ls st : List Value} {w : vW} : vSam (vnewa pc ls st w) w := by
  unfold vnewa
  split
  · exact vSam_if (fun _ => vSam_no) (fun h => vSam_nx (vzero_z (fun z => h (Or.inr (Or.inr (Or.inr z))))))
  · exact vSam_no
theorem vSam_put {ini : Bool} {o idx pc : Nat} {ls st : List Value} {w : vW} : vSam (vput ini o idx pc ls st w) w := by
  unfold vput
  split
  · split
    · split
      · refine vSam_if (fun hc => ?_) (fun _ => vSam_no)
        split
        · exact vSam_if (fun _ => vSam_if (fun _ => vSam_nx (upd2_z hc.2.1)) (fun _ => vSam_if (fun _ => vSam_nx (upd2_z hc.2.1)) (fun _ => vSam_no))) (fun _ => vSam_nx (upd2_z hc.2.1))
        · exact vSam_no
      · exact vSam_no
    · exact vSam_no
  · split
    · split
      · rename_i c fs hw
        refine vSam_if (fun hc => ?_) (fun _ => vSam_no)
        split
        · exact vSam_nx rfl
        · exact vSam_no
      · exact vSam_no
    · exact vSam_no
  · exact vSam_no
theorem vSam_all {m pc n : Nat} {i : Instr} {ls st : List Value} {w : vW} : vSam (vinst m pc i n ls st w) w := by
  cases i
  case new idx => exact vSam_if (fun _ => vSam_new) (fun _ => vSam_no)
  case newarray t => exact vSam_if (fun _ => vSam_newa) (fun _ => vSam_no)
  case putfield idx => exact vSam_if (fun _ => vSam_put) (fun _ => vSam_no)
  case ifCond cd off => exact vSam_if (fun _ => by split <;> first | exact vSam_br | exact vSam_no) (fun _ => vSam_no)
  case if_icmp cd off => exact vSam_if (fun _ => by split <;> first | exact vSam_br | exact vSam_no) (fun _ => vSam_no)
  case goto off => exact vSam_if (fun _ => vSam_jmp) (fun _ => vSam_no)
  case tableswitch d lo hi offs =>
    show vSam (vtab pc d lo hi offs ls st w) w
    unfold vtab
    split
    · refine vSam_if (fun _ => vSam_jmp) (fun _ => ?_)
      split
      · exact vSam_jmp
      · exact vSam_no
    · exact vSam_no
  case invokestatic idx =>
    refine vSam_if (fun _ => ?_) (fun _ => vSam_no)
    unfold vinvs
    split
    · refine vSam_if (fun _ => vSam_call) (fun _ => vSam_if (fun _ => ?_) (fun _ => vSam_if (fun _ => ?_) (fun _ => vSam_if (fun _ => ?_) (fun _ => vSam_no))))
      · unfold vacopy
        split
        · split
          · refine vSam_if (fun _ => vSam_no) (fun h => vSam_nx ?_)
            funext j
            exact if_neg (fun z => h (Or.inr (Or.inr (Or.inr (Or.inr (Or.inr (Or.inl z.symm)))))))
          · exact vSam_no
        · exact vSam_no
      · unfold vmm
        split <;> first | exact vSam_if (fun _ => vSam_no) (fun _ => vSam_id) | exact vSam_no
      · unfold vmm
        split <;> first | exact vSam_if (fun _ => vSam_no) (fun _ => vSam_id) | exact vSam_no
    · exact vSam_no
  case invokevirtual idx =>
    refine vSam_if (fun _ => ?_) (fun _ => vSam_no)
    unfold vinvv
    split
    · refine vSam_if (fun _ => vSam_call) (fun _ => vSam_if (fun _ => ?_) (fun _ => vSam_if (fun _ => ?_) (fun _ => vSam_no)))
      · unfold vslen
        split <;> first | exact vSam_if (fun _ => vSam_no) (fun _ => vSam_id) | exact vSam_no
      · unfold vsch
        split <;> first | exact vSam_if (fun _ => vSam_no) (fun _ => vSam_id) | exact vSam_no
    · exact vSam_no
  case invokespecial idx =>
    refine vSam_if (fun _ => ?_) (fun _ => vSam_no)
    unfold vinvi
    split
    · refine vSam_if (fun _ => vSam_call) (fun _ => vSam_if (fun _ => ?_) (fun _ => vSam_no))
      unfold vobj
      split <;> first | exact vSam_if (fun _ => vSam_no) (fun _ => vSam_id) | exact vSam_no
    · exact vSam_no
  case ireturn => exact vSam_if (fun _ => by split <;> first | exact vSam_if (fun _ q h => by cases h) (fun _ => vSam_no) | exact vSam_no) (fun _ => vSam_no)
  case lreturn => exact vSam_if (fun _ => by split <;> first | exact vSam_if (fun _ q h => by cases h) (fun _ => vSam_no) | exact vSam_no) (fun _ => vSam_no)
  case areturn => exact vSam_if (fun _ => by split <;> first | exact vSam_if (fun _ q h => by cases h) (fun _ => vSam_no) | exact vSam_no) (fun _ => vSam_no)
  case return_ => exact vSam_if (fun _ => by split <;> first | exact vSam_if (fun _ q h => by cases h) (fun _ => vSam_no) | exact vSam_no) (fun _ => vSam_no)
  case iastore =>
    refine vSam_if (fun _ => ?_) (fun _ => vSam_no)
    unfold viast
    split
    · split
      · exact vSam_if (fun _ => vSam_no) (fun h => vSam_nx (upd2_z (fun z => h (Or.inr (Or.inr z)))))
      · exact vSam_no
    · exact vSam_no
  case getfield idx =>
    refine vSam_if (fun _ => ?_) (fun _ => vSam_no)
    unfold vget
    split
    · split
      · split
        · refine vSam_if (fun _ => ?_) (fun _ => vSam_no)
          split <;> first | exact vSam_id | exact vSam_no
        · exact vSam_no
      · exact vSam_no
    · exact vSam_no
  case ldc idx => exact vSam_if (fun _ => by unfold vldc; split <;> first | exact vSam_if (fun _ => vSam_id) (fun _ => vSam_if (fun _ => vSam_id) (fun _ => vSam_no)) | exact vSam_if (fun _ => vSam_id) (fun _ => vSam_no) | exact vSam_no) (fun _ => vSam_no)
  case ldc_w idx => exact vSam_if (fun _ => by unfold vldc; split <;> first | exact vSam_if (fun _ => vSam_id) (fun _ => vSam_if (fun _ => vSam_id) (fun _ => vSam_no)) | exact vSam_if (fun _ => vSam_id) (fun _ => vSam_no) | exact vSam_no) (fun _ => vSam_no)
  case ldc2_w idx => exact vSam_if (fun _ => by unfold vldc; split <;> first | exact vSam_if (fun _ => vSam_id) (fun _ => vSam_if (fun _ => vSam_id) (fun _ => vSam_no)) | exact vSam_if (fun _ => vSam_id) (fun _ => vSam_no) | exact vSam_no) (fun _ => vSam_no)
  case iadd => exact vSam_if (fun _ => by unfold vbin; split <;> first | exact vSam_id | exact vSam_no) (fun _ => vSam_no)
  case isub => exact vSam_if (fun _ => by unfold vbin; split <;> first | exact vSam_id | exact vSam_no) (fun _ => vSam_no)
  case imul => exact vSam_if (fun _ => by unfold vbin; split <;> first | exact vSam_id | exact vSam_no) (fun _ => vSam_no)
  case iand => exact vSam_if (fun _ => by unfold vbin; split <;> first | exact vSam_id | exact vSam_no) (fun _ => vSam_no)
  case ior => exact vSam_if (fun _ => by unfold vbin; split <;> first | exact vSam_id | exact vSam_no) (fun _ => vSam_no)
  case ixor => exact vSam_if (fun _ => by unfold vbin; split <;> first | exact vSam_id | exact vSam_no) (fun _ => vSam_no)
  case ishl => exact vSam_if (fun _ => by unfold vbin; split <;> first | exact vSam_id | exact vSam_no) (fun _ => vSam_no)
  case ishr => exact vSam_if (fun _ => by unfold vbin; split <;> first | exact vSam_id | exact vSam_no) (fun _ => vSam_no)
  case iushr => exact vSam_if (fun _ => by unfold vbin; split <;> first | exact vSam_id | exact vSam_no) (fun _ => vSam_no)
  case idiv => exact vSam_if (fun _ => by unfold vdiv; split <;> first | exact vSam_if (fun _ => vSam_no) (fun _ => vSam_id) | exact vSam_no) (fun _ => vSam_no)
  case irem => exact vSam_if (fun _ => by unfold vdiv; split <;> first | exact vSam_if (fun _ => vSam_no) (fun _ => vSam_id) | exact vSam_no) (fun _ => vSam_no)
  case ineg => exact vSam_if (fun _ => by unfold vun; split <;> first | exact vSam_id | exact vSam_no) (fun _ => vSam_no)
  case i2b => exact vSam_if (fun _ => by unfold vun; split <;> first | exact vSam_id | exact vSam_no) (fun _ => vSam_no)
  case i2s => exact vSam_if (fun _ => by unfold vun; split <;> first | exact vSam_id | exact vSam_no) (fun _ => vSam_no)
  case i2l => exact vSam_if (fun _ => by split <;> first | exact vSam_id | exact vSam_no) (fun _ => vSam_no)
  case lcmp => exact vSam_if (fun _ => by split <;> first | exact vSam_id | exact vSam_no) (fun _ => vSam_no)
  case ladd => exact vSam_if (fun _ => by unfold vlbin; split <;> first | exact vSam_id | exact vSam_no) (fun _ => vSam_no)
  case lmul => exact vSam_if (fun _ => by unfold vlbin; split <;> first | exact vSam_id | exact vSam_no) (fun _ => vSam_no)
  case dup => exact vSam_if (fun _ => by split <;> first | exact vSam_if (fun _ => vSam_id) (fun _ => vSam_no) | exact vSam_no) (fun _ => vSam_no)
  case dup2 => exact vSam_if (fun _ => by split <;> first | exact vSam_if (fun _ => vSam_id) (fun _ => vSam_no) | exact vSam_no) (fun _ => vSam_no)
  case iconst k => exact vSam_if (fun _ => vSam_id) (fun _ => vSam_no)
  case bipush k => exact vSam_if (fun _ => vSam_id) (fun _ => vSam_no)
  case sipush k => exact vSam_if (fun _ => vSam_id) (fun _ => vSam_no)
  case lconst k => exact vSam_if (fun _ => vSam_id) (fun _ => vSam_no)
  case iload_n k => exact vSam_if (fun _ => by unfold vild; split <;> first | exact vSam_id | exact vSam_no) (fun _ => vSam_no)
  case iload k => exact vSam_if (fun _ => by unfold vild; split <;> first | exact vSam_id | exact vSam_no) (fun _ => vSam_no)
  case lload_n k => exact vSam_if (fun _ => by unfold vlld; split <;> first | exact vSam_id | exact vSam_no) (fun _ => vSam_no)
  case lload k => exact vSam_if (fun _ => by unfold vlld; split <;> first | exact vSam_id | exact vSam_no) (fun _ => vSam_no)
  case aload_n k => exact vSam_if (fun _ => by unfold vald; split <;> first | exact vSam_id | exact vSam_no) (fun _ => vSam_no)
  case istore_n k => exact vSam_if (fun _ => by unfold vist; split <;> first | (split <;> first | exact vSam_id | exact vSam_no) | exact vSam_no) (fun _ => vSam_no)
  case istore k => exact vSam_if (fun _ => by unfold vist; split <;> first | (split <;> first | exact vSam_id | exact vSam_no) | exact vSam_no) (fun _ => vSam_no)
  case lstore_n k => exact vSam_if (fun _ => by unfold vlst; split <;> first | (split <;> first | exact vSam_id | exact vSam_no) | exact vSam_no) (fun _ => vSam_no)
  case astore_n k => exact vSam_if (fun _ => by unfold vast; split <;> first | (split <;> first | exact vSam_id | exact vSam_no) | exact vSam_no) (fun _ => vSam_no)
  case iinc k n => exact vSam_if (fun _ => by unfold vinc; split <;> first | (split <;> first | exact vSam_id | exact vSam_no) | exact vSam_no) (fun _ => vSam_no)
  case iaload => exact vSam_if (fun _ => by unfold viald; split <;> first | (split <;> first | exact vSam_if (fun _ => vSam_no) (fun _ => vSam_id) | exact vSam_no) | exact vSam_no) (fun _ => vSam_no)
  case arraylength => exact vSam_if (fun _ => by unfold valen; split <;> first | (split <;> first | exact vSam_id | exact vSam_no) | exact vSam_no) (fun _ => vSam_no)
  all_goals exact vSam_no
theorem exec_0 : ∀ (f m pc : Nat) (ls st : List Value) (w : vW) (r : Option Value × vW), exec f m pc ls st w = some r → r.2.2 0 = w.2 0 := by
  intro f
  induction f with
  | zero => intro m pc ls st w r h; cases h
  | succ f ih =>
    intro m pc ls st w r h
    rw [exec] at h
    cases hs : vstep m pc ls st w with
    | none => rw [hs] at h; cases h
    | some q =>
      rw [hs] at h
      have hs2 := hs
      unfold vstep at hs2
      cases hd : decode (mB m) pc with
      | error e => rw [hd] at hs2; cases hs2
      | ok z =>
        obtain ⟨i, n⟩ := z
        rw [hd] at hs2
        rcases q with q | q | q
        · exact (ih _ _ _ _ _ _ h).trans (vSam_all q hs2)
        · obtain ⟨t', as, q⟩ := q
          have hk := vKind_all hd hs2
          rcases hk with ⟨x, hx⟩ | ⟨t, idx, hc, hv⟩ | ⟨v, hv, -⟩
          · cases hx
          · obtain ⟨rfl, has, rfl, -⟩ := vcall_eq hv
            simp only at h
            cases he : exec f t' 0 (vent t' as) [] w with
            | none => rw [he] at h; cases h
            | some r1 =>
              rw [he] at h
              exact (ih _ _ _ _ _ _ h).trans (ih _ _ _ _ _ _ he)
          · cases hv
        · cases h
          rfl
theorem R_0 {m pc : Nat} {ls st : List Value} {s s' : List vSh} {M M' : Nat → Nat → Int32} {v : Option Value} (h : R m pc ls st (s, M) = some (v, (s', M'))) : M' 0 = M 0 := by
  obtain ⟨f, hf⟩ := R_iff.mp h
  exact exec_0 f _ _ _ _ _ _ hf
