/-! The whole step, and the whole run -/
def vMono (o : Option vR) (w : vW) : Prop := ∀ q : vS, o = some (.inl q) → w.1.length ≤ q.2.2.2.1.length ∧ vssz w.1 ≤ vssz q.2.2.2.1
theorem vMono_no {w : vW} : vMono none w := fun q h => by cases h
theorem vMono_nx {pc : Nat} {ls st : List Value} {w w' : vW} (h1 : w.1.length ≤ w'.1.length) (h2 : vssz w.1 ≤ vssz w'.1) : vMono (vnx pc ls st w') w := fun q h => by
  rw [vnx_eq h]
  exact ⟨h1, h2⟩
theorem vMono_id {pc : Nat} {ls st : List Value} {w : vW} : vMono (vnx pc ls st w) w := vMono_nx (Nat.le_refl _) (Nat.le_refl _)
theorem vMono_if {c : Prop} {d : Decidable c} {a b : Option vR} {w : vW} (ha : c → vMono a w) (hb : ¬ c → vMono b w) : vMono (@ite _ c d a b) w := by
  by_cases h : c
  · rw [if_pos h]; exact ha h
  · rw [if_neg h]; exact hb h
theorem vMono_jmp {pc : Nat} {off : Int} {ls st : List Value} {w : vW} : vMono (vjmp pc off ls st w) w := by
  unfold vjmp
  exact vMono_if (fun _ => vMono_id) (fun _ => vMono_no)
theorem vMono_br {b : Bool} {pc : Nat} {off : Int} {ls st : List Value} {w : vW} : vMono (vbr b pc off ls st w) w := by
  unfold vbr
  exact vMono_if (fun _ => vMono_if (fun _ => vMono_id) (fun _ => vMono_id)) (fun _ => vMono_no)
theorem vMono_call {m t pc : Nat} {ls st : List Value} {w : vW} : vMono (vcall m t pc ls st w) w := by
  intro q h
  unfold vcall at h
  simp only at h
  split at h
  · split at h
    · cases h
    · split at h
      · split at h
        · split at h <;> cases h
        · cases h
      · cases h
  · cases h
theorem vMono_new {o idx pc : Nat} {ls st : List Value} {w : vW} : vMono (vnew o idx pc ls st w) w := by
  unfold vnew
  split
  · split
    · refine vMono_if (fun _ => vMono_no) (fun h => vMono_nx (by simp) ?_)
      show vssz w.1 ≤ vssz (w.1 ++ [_])
      rw [vssz_push _ _ (fun z => h (Or.inr z))]
      omega
    · exact vMono_no
  · exact vMono_no
theorem vMono_newa {pc : Nat} {ls st : List Value} {w : vW} : vMono (vnewa pc ls st w) w := by
  unfold vnewa
  split
  · refine vMono_if (fun _ => vMono_no) (fun h => vMono_nx (by simp) ?_)
    show vssz w.1 ≤ vssz (w.1 ++ [_])
    rw [vssz_push _ _ (fun z => h (Or.inr (Or.inr (Or.inr z))))]
    omega
  · exact vMono_no
theorem vMono_put {ini : Bool} {o idx pc : Nat} {ls st : List Value} {w : vW} : vMono (vput ini o idx pc ls st w) w := by
  unfold vput
  split
  · split
    · split
      · refine vMono_if (fun _ => ?_) (fun _ => vMono_no)
        split
        · exact vMono_if (fun _ => vMono_if (fun _ => vMono_nx (Nat.le_refl _) (Nat.le_refl _)) (fun _ => vMono_if (fun _ => vMono_nx (Nat.le_refl _) (Nat.le_refl _)) (fun _ => vMono_no))) (fun _ => vMono_nx (Nat.le_refl _) (Nat.le_refl _))
        · exact vMono_no
      · exact vMono_no
    · exact vMono_no
  · split
    · split
      · rename_i c fs hw
        refine vMono_if (fun hc => ?_) (fun _ => vMono_no)
        split
        · refine vMono_nx (by simp) (Nat.le_of_eq (vssz_set _ _ _ _ hw (by simp [vsz1]) hc.2.1).symm)
        · exact vMono_no
      · exact vMono_no
    · exact vMono_no
  · exact vMono_no
theorem vMono_all {m pc n : Nat} {i : Instr} {ls st : List Value} {w : vW} : vMono (vinst m pc i n ls st w) w := by
  cases i
  case new idx => exact vMono_if (fun _ => vMono_new) (fun _ => vMono_no)
  case newarray t => exact vMono_if (fun _ => vMono_newa) (fun _ => vMono_no)
  case putfield idx => exact vMono_if (fun _ => vMono_put) (fun _ => vMono_no)
  case ifCond cd off => exact vMono_if (fun _ => by split <;> first | exact vMono_br | exact vMono_no) (fun _ => vMono_no)
  case if_icmp cd off => exact vMono_if (fun _ => by split <;> first | exact vMono_br | exact vMono_no) (fun _ => vMono_no)
  case goto off => exact vMono_if (fun _ => vMono_jmp) (fun _ => vMono_no)
  case tableswitch d lo hi offs =>
    show vMono (vtab pc d lo hi offs ls st w) w
    unfold vtab
    split
    · refine vMono_if (fun _ => vMono_jmp) (fun _ => ?_)
      split
      · exact vMono_jmp
      · exact vMono_no
    · exact vMono_no
  case invokestatic idx =>
    refine vMono_if (fun _ => ?_) (fun _ => vMono_no)
    unfold vinvs
    split
    · refine vMono_if (fun _ => vMono_call) (fun _ => vMono_if (fun _ => ?_) (fun _ => vMono_if (fun _ => ?_) (fun _ => vMono_if (fun _ => ?_) (fun _ => vMono_no))))
      · unfold vacopy
        split
        · split
          · exact vMono_if (fun _ => vMono_no) (fun _ => vMono_nx (Nat.le_refl _) (Nat.le_refl _))
          · exact vMono_no
        · exact vMono_no
      · unfold vmm
        split <;> first | exact vMono_if (fun _ => vMono_no) (fun _ => vMono_id) | exact vMono_no
      · unfold vmm
        split <;> first | exact vMono_if (fun _ => vMono_no) (fun _ => vMono_id) | exact vMono_no
    · exact vMono_no
  case invokevirtual idx =>
    refine vMono_if (fun _ => ?_) (fun _ => vMono_no)
    unfold vinvv
    split
    · refine vMono_if (fun _ => vMono_call) (fun _ => vMono_if (fun _ => ?_) (fun _ => vMono_if (fun _ => ?_) (fun _ => vMono_no)))
      · unfold vslen
        split <;> first | exact vMono_if (fun _ => vMono_no) (fun _ => vMono_id) | exact vMono_no
      · unfold vsch
        split <;> first | exact vMono_if (fun _ => vMono_no) (fun _ => vMono_id) | exact vMono_no
    · exact vMono_no
  case invokespecial idx =>
    refine vMono_if (fun _ => ?_) (fun _ => vMono_no)
    unfold vinvi
    split
    · refine vMono_if (fun _ => vMono_call) (fun _ => vMono_if (fun _ => ?_) (fun _ => vMono_no))
      unfold vobj
      split <;> first | exact vMono_if (fun _ => vMono_no) (fun _ => vMono_id) | exact vMono_no
    · exact vMono_no
  case ireturn => exact vMono_if (fun _ => by split <;> first | exact vMono_if (fun _ q h => by cases h) (fun _ => vMono_no) | exact vMono_no) (fun _ => vMono_no)
  case lreturn => exact vMono_if (fun _ => by split <;> first | exact vMono_if (fun _ q h => by cases h) (fun _ => vMono_no) | exact vMono_no) (fun _ => vMono_no)
  case areturn => exact vMono_if (fun _ => by split <;> first | exact vMono_if (fun _ q h => by cases h) (fun _ => vMono_no) | exact vMono_no) (fun _ => vMono_no)
  case return_ => exact vMono_if (fun _ => by split <;> first | exact vMono_if (fun _ q h => by cases h) (fun _ => vMono_no) | exact vMono_no) (fun _ => vMono_no)
  case iastore =>
    refine vMono_if (fun _ => ?_) (fun _ => vMono_no)
    unfold viast
    split
    · split
      · exact vMono_if (fun _ => vMono_no) (fun _ => vMono_nx (Nat.le_refl _) (Nat.le_refl _))
      · exact vMono_no
    · exact vMono_no
  case getfield idx =>
    refine vMono_if (fun _ => ?_) (fun _ => vMono_no)
    unfold vget
    split
    · split
      · split
        · refine vMono_if (fun _ => ?_) (fun _ => vMono_no)
          split <;> first | exact vMono_id | exact vMono_no
        · exact vMono_no
      · exact vMono_no
    · exact vMono_no
  case ldc idx => exact vMono_if (fun _ => by unfold vldc; split <;> first | exact vMono_if (fun _ => vMono_id) (fun _ => vMono_if (fun _ => vMono_id) (fun _ => vMono_no)) | exact vMono_if (fun _ => vMono_id) (fun _ => vMono_no) | exact vMono_no) (fun _ => vMono_no)
  case ldc_w idx => exact vMono_if (fun _ => by unfold vldc; split <;> first | exact vMono_if (fun _ => vMono_id) (fun _ => vMono_if (fun _ => vMono_id) (fun _ => vMono_no)) | exact vMono_if (fun _ => vMono_id) (fun _ => vMono_no) | exact vMono_no) (fun _ => vMono_no)
  case ldc2_w idx => exact vMono_if (fun _ => by unfold vldc; split <;> first | exact vMono_if (fun _ => vMono_id) (fun _ => vMono_if (fun _ => vMono_id) (fun _ => vMono_no)) | exact vMono_if (fun _ => vMono_id) (fun _ => vMono_no) | exact vMono_no) (fun _ => vMono_no)
  case iadd => exact vMono_if (fun _ => by unfold vbin; split <;> first | exact vMono_id | exact vMono_no) (fun _ => vMono_no)
  case isub => exact vMono_if (fun _ => by unfold vbin; split <;> first | exact vMono_id | exact vMono_no) (fun _ => vMono_no)
  case imul => exact vMono_if (fun _ => by unfold vbin; split <;> first | exact vMono_id | exact vMono_no) (fun _ => vMono_no)
  case iand => exact vMono_if (fun _ => by unfold vbin; split <;> first | exact vMono_id | exact vMono_no) (fun _ => vMono_no)
  case ior => exact vMono_if (fun _ => by unfold vbin; split <;> first | exact vMono_id | exact vMono_no) (fun _ => vMono_no)
  case ixor => exact vMono_if (fun _ => by unfold vbin; split <;> first | exact vMono_id | exact vMono_no) (fun _ => vMono_no)
  case ishl => exact vMono_if (fun _ => by unfold vbin; split <;> first | exact vMono_id | exact vMono_no) (fun _ => vMono_no)
  case ishr => exact vMono_if (fun _ => by unfold vbin; split <;> first | exact vMono_id | exact vMono_no) (fun _ => vMono_no)
  case iushr => exact vMono_if (fun _ => by unfold vbin; split <;> first | exact vMono_id | exact vMono_no) (fun _ => vMono_no)
  case idiv => exact vMono_if (fun _ => by unfold vdiv; split <;> first | exact vMono_if (fun _ => vMono_no) (fun _ => vMono_id) | exact vMono_no) (fun _ => vMono_no)
  case irem => exact vMono_if (fun _ => by unfold vdiv; split <;> first | exact vMono_if (fun _ => vMono_no) (fun _ => vMono_id) | exact vMono_no) (fun _ => vMono_no)
  case ineg => exact vMono_if (fun _ => by unfold vun; split <;> first | exact vMono_id | exact vMono_no) (fun _ => vMono_no)
  case i2b => exact vMono_if (fun _ => by unfold vun; split <;> first | exact vMono_id | exact vMono_no) (fun _ => vMono_no)
  case i2s => exact vMono_if (fun _ => by unfold vun; split <;> first | exact vMono_id | exact vMono_no) (fun _ => vMono_no)
  case i2l => exact vMono_if (fun _ => by split <;> first | exact vMono_id | exact vMono_no) (fun _ => vMono_no)
  case lcmp => exact vMono_if (fun _ => by split <;> first | exact vMono_id | exact vMono_no) (fun _ => vMono_no)
  case ladd => exact vMono_if (fun _ => by unfold vlbin; split <;> first | exact vMono_id | exact vMono_no) (fun _ => vMono_no)
  case lmul => exact vMono_if (fun _ => by unfold vlbin; split <;> first | exact vMono_id | exact vMono_no) (fun _ => vMono_no)
  case dup => exact vMono_if (fun _ => by split <;> first | exact vMono_if (fun _ => vMono_id) (fun _ => vMono_no) | exact vMono_no) (fun _ => vMono_no)
  case dup2 => exact vMono_if (fun _ => by split <;> first | exact vMono_if (fun _ => vMono_id) (fun _ => vMono_no) | exact vMono_no) (fun _ => vMono_no)
  case iconst k => exact vMono_if (fun _ => vMono_id) (fun _ => vMono_no)
  case bipush k => exact vMono_if (fun _ => vMono_id) (fun _ => vMono_no)
  case sipush k => exact vMono_if (fun _ => vMono_id) (fun _ => vMono_no)
  case lconst k => exact vMono_if (fun _ => vMono_id) (fun _ => vMono_no)
  case iload_n k => exact vMono_if (fun _ => by unfold vild; split <;> first | exact vMono_id | exact vMono_no) (fun _ => vMono_no)
  case iload k => exact vMono_if (fun _ => by unfold vild; split <;> first | exact vMono_id | exact vMono_no) (fun _ => vMono_no)
  case lload_n k => exact vMono_if (fun _ => by unfold vlld; split <;> first | exact vMono_id | exact vMono_no) (fun _ => vMono_no)
  case lload k => exact vMono_if (fun _ => by unfold vlld; split <;> first | exact vMono_id | exact vMono_no) (fun _ => vMono_no)
  case aload_n k => exact vMono_if (fun _ => by unfold vald; split <;> first | exact vMono_id | exact vMono_no) (fun _ => vMono_no)
  case istore_n k => exact vMono_if (fun _ => by unfold vist; split <;> first | (split <;> first | exact vMono_id | exact vMono_no) | exact vMono_no) (fun _ => vMono_no)
  case istore k => exact vMono_if (fun _ => by unfold vist; split <;> first | (split <;> first | exact vMono_id | exact vMono_no) | exact vMono_no) (fun _ => vMono_no)
  case lstore_n k => exact vMono_if (fun _ => by unfold vlst; split <;> first | (split <;> first | exact vMono_id | exact vMono_no) | exact vMono_no) (fun _ => vMono_no)
  case astore_n k => exact vMono_if (fun _ => by unfold vast; split <;> first | (split <;> first | exact vMono_id | exact vMono_no) | exact vMono_no) (fun _ => vMono_no)
  case iinc k n => exact vMono_if (fun _ => by unfold vinc; split <;> first | (split <;> first | exact vMono_id | exact vMono_no) | exact vMono_no) (fun _ => vMono_no)
  case iaload => exact vMono_if (fun _ => by unfold viald; split <;> first | (split <;> first | exact vMono_if (fun _ => vMono_no) (fun _ => vMono_id) | exact vMono_no) | exact vMono_no) (fun _ => vMono_no)
  case arraylength => exact vMono_if (fun _ => by unfold valen; split <;> first | (split <;> first | exact vMono_id | exact vMono_no) | exact vMono_no) (fun _ => vMono_no)
  all_goals exact vMono_no
