/-! What a step is: a next state, a call, an end; and a run of the small machine is a run of the machine -/
def vOn (o : Option vR) : Prop := ∀ q : vR, o = some q → ∃ x, q = .inl x
theorem vOn_no : vOn none := fun q h => by cases h
theorem vOn_nx {pc : Nat} {ls st : List Value} {w : vW} : vOn (vnx pc ls st w) := fun q h => ⟨_, (Option.some.inj h).symm⟩
theorem vOn_if {c : Prop} {d : Decidable c} {a b : Option vR} (ha : c → vOn a) (hb : ¬ c → vOn b) : vOn (@ite _ c d a b) := by
  by_cases h : c
  · rw [if_pos h]; exact ha h
  · rw [if_neg h]; exact hb h
theorem vOn_jmp {pc : Nat} {off : Int} {ls st : List Value} {w : vW} : vOn (vjmp pc off ls st w) := by
  unfold vjmp
  exact vOn_if (fun _ => vOn_nx) (fun _ => vOn_no)
theorem vOn_br {b : Bool} {pc : Nat} {off : Int} {ls st : List Value} {w : vW} : vOn (vbr b pc off ls st w) := by
  unfold vbr
  exact vOn_if (fun _ => vOn_if (fun _ => vOn_nx) (fun _ => vOn_nx)) (fun _ => vOn_no)
theorem vOn_new {o idx pc : Nat} {ls st : List Value} {w : vW} : vOn (vnew o idx pc ls st w) := by
  unfold vnew
  split
  · split
    · exact vOn_if (fun _ => vOn_no) (fun h => vOn_nx)
    · exact vOn_no
  · exact vOn_no
theorem vOn_newa {pc : Nat} {ls st : List Value} {w : vW} : vOn (vnewa pc ls st w) := by
  unfold vnewa
  split
  · exact vOn_if (fun _ => vOn_no) (fun h => vOn_nx)
  · exact vOn_no
theorem vOn_put {ini : Bool} {o idx pc : Nat} {ls st : List Value} {w : vW} : vOn (vput ini o idx pc ls st w) := by
  unfold vput
  split
  · split
    · split
      · refine vOn_if (fun _ => ?_) (fun _ => vOn_no)
        split
        · exact vOn_if (fun _ => vOn_if (fun _ => vOn_nx) (fun _ => vOn_if (fun _ => vOn_nx) (fun _ => vOn_no))) (fun _ => vOn_nx)
        · exact vOn_no
      · exact vOn_no
    · exact vOn_no
  · split
    · split
      · refine vOn_if (fun hc => ?_) (fun _ => vOn_no)
        split
        · exact vOn_nx
        · exact vOn_no
      · exact vOn_no
    · exact vOn_no
  · exact vOn_no
theorem vOn_acopy {m pc : Nat} {ls st : List Value} {w : vW} : vOn (vacopy m pc ls st w) := by
  unfold vacopy
  split
  · split
    · exact vOn_if (fun _ => vOn_no) (fun _ => vOn_nx)
    · exact vOn_no
  · exact vOn_no
theorem vOn_mm {mx : Bool} {m pc : Nat} {ls st : List Value} {w : vW} : vOn (vmm mx m pc ls st w) := by
  unfold vmm
  split <;> first | exact vOn_if (fun _ => vOn_no) (fun _ => vOn_nx) | exact vOn_no
theorem vOn_slen {m pc : Nat} {ls st : List Value} {w : vW} : vOn (vslen m pc ls st w) := by
  unfold vslen
  split <;> first | exact vOn_if (fun _ => vOn_no) (fun _ => vOn_nx) | exact vOn_no
theorem vOn_sch {m pc : Nat} {ls st : List Value} {w : vW} : vOn (vsch m pc ls st w) := by
  unfold vsch
  split <;> first | exact vOn_if (fun _ => vOn_no) (fun _ => vOn_nx) | exact vOn_no
theorem vOn_obj {m pc : Nat} {ls st : List Value} {w : vW} : vOn (vobj m pc ls st w) := by
  unfold vobj
  split <;> first | exact vOn_if (fun _ => vOn_no) (fun _ => vOn_nx) | exact vOn_no
def vRet (m pc : Nat) (r : Option Value) : Prop :=
  (∃ v, r = some (.int v) ∧ decode (mB m) pc = .ok (.ireturn, 1) ∧ (mR m = some .int ∨ (mR m = some .boolean ∧ (v = 0 ∨ v = 1)))) ∨ (∃ v, r = some (.long v) ∧ decode (mB m) pc = .ok (.lreturn, 1) ∧ mR m = some .long) ∨ (∃ v, r = some (.ref v) ∧ decode (mB m) pc = .ok (.areturn, 1) ∧ mR m = some (.array .int)) ∨ (r = none ∧ decode (mB m) pc = .ok (.return_, 1) ∧ mR m = none)
/-- a call's place -/
def vCal (m pc t idx : Nat) : Prop := tFact t ∧
  ((decode (mB m) pc = .ok (.invokestatic idx, 3) ∧ mC t = 99 ∧ ((Cond.methodLink (oN (mO m)) idx (mN t) ∈ vgood ∧ Cond.static (mN t) ∈ vgood) ∨ (Cond.methodLinkNest (oN (mO m)) idx (mN t) "HeirHalves" ∈ vnest ∧ Cond.static (mN t) ∈ vgood))) ∨
   (mC t ≠ 99 ∧ ((decode (mB m) pc = .ok (.invokevirtual idx, 3) ∧ Cond.methodLink (oN (mO m)) idx (mN t) ∈ vgood ∧ Cond.instanceMethod (mN t) ∈ vgood ∧ Cond.selects (mN t).cls (mN t) (mN t) ∈ vgood) ∨ (decode (mB m) pc = .ok (.invokevirtual idx, 3) ∧ Cond.methodLinkNest (oN (mO m)) idx (mN t) "HeirHalves" ∈ vnest ∧ Cond.instanceMethod (mN t) ∈ vgood ∧ Cond.selects (mN t).cls (mN t) (mN t) ∈ vgood) ∨ (decode (mB m) pc = .ok (.invokespecial idx, 3) ∧ Cond.methodLink (oN (mO m)) idx (mN t) ∈ vgood ∧ Cond.instanceMethod (mN t) ∈ vgood ∧ (mN t).name = "<init>" ∧ mR t = none))))
def vKind (m pc : Nat) (ls st : List Value) (w : vW) (q : vR) : Prop := (∃ x, q = .inl x) ∨ (∃ t idx, vCal m pc t idx ∧ vcall m t (pc + 3) ls st w = some q) ∨ (∃ v, q = .inr (.inr v) ∧ st = v.toList ∧ vRet m pc v)
theorem vKind_all {m pc n : Nat} {i : Instr} {ls st : List Value} {w : vW} {q : vR} (hd : decode (mB m) pc = .ok (i, n)) (h : vinst m pc i n ls st w = some q) : vKind m pc ls st w q := by
  have on : vOn (vinst m pc i n ls st w) → vKind m pc ls st w q := fun o => Or.inl (o q h)
  cases i
  case invokestatic idx =>
    obtain ⟨rfl, g⟩ := vif h
    unfold vinvs at g
    split at g
    · rename_i kd t hf
      obtain ⟨hm, ho, hi⟩ := vlk_mem hf
      obtain ⟨f0, f1, f2, f3, f4, f5, f6, f7, f8, f9, f10, f11⟩ := c_all _ hm
      simp only [ho, hi] at f0 f1 f2 f3 f4 f5
      split at g
      · rename_i hk
        refine Or.inr (Or.inl ⟨t, idx, ⟨f0 (by omega), Or.inl ⟨hd, ?_⟩⟩, g⟩)
        rcases hk with hk | hk
        · exact ⟨(f1 hk).1, Or.inl (f1 hk).2⟩
        · exact ⟨(f2 hk).1, Or.inr (f2 hk).2⟩
      · split at g
        · exact Or.inl (vOn_acopy q g)
        · split at g
          · exact Or.inl (vOn_mm q g)
          · split at g
            · exact Or.inl (vOn_mm q g)
            · cases g
    · cases g
  case invokevirtual idx =>
    obtain ⟨rfl, g⟩ := vif h
    unfold vinvv at g
    split at g
    · rename_i kd t hf
      obtain ⟨hm, ho, hi⟩ := vlk_mem hf
      obtain ⟨f0, f1, f2, f3, f4, f5, f6, f7, f8, f9, f10, f11⟩ := c_all _ hm
      simp only [ho, hi] at f0 f1 f2 f3 f4 f5
      split at g
      · rename_i hk
        refine Or.inr (Or.inl ⟨t, idx, ⟨f0 (by omega), Or.inr ?_⟩, g⟩)
        rcases hk with hk | hk
        · exact ⟨(f3 hk).1, Or.inl ⟨hd, (f3 hk).2⟩⟩
        · exact ⟨(f4 hk).1, Or.inr (Or.inl ⟨hd, (f4 hk).2⟩)⟩
      · split at g
        · exact Or.inl (vOn_slen q g)
        · split at g
          · exact Or.inl (vOn_sch q g)
          · cases g
    · cases g
  case invokespecial idx =>
    obtain ⟨rfl, g⟩ := vif h
    unfold vinvi at g
    split at g
    · rename_i kd t hf
      obtain ⟨hm, ho, hi⟩ := vlk_mem hf
      obtain ⟨f0, f1, f2, f3, f4, f5, f6, f7, f8, f9, f10, f11⟩ := c_all _ hm
      simp only [ho, hi] at f0 f1 f2 f3 f4 f5
      split at g
      · rename_i hk
        exact Or.inr (Or.inl ⟨t, idx, ⟨f0 (by omega), Or.inr ⟨(f5 hk).1, Or.inr (Or.inr ⟨hd, (f5 hk).2⟩)⟩⟩, g⟩)
      · split at g
        · exact Or.inl (vOn_obj q g)
        · cases g
    · cases g
  case ireturn =>
    obtain ⟨rfl, g⟩ := vif h
    split at g
    · obtain ⟨g1, g2⟩ := vif g
      cases g2
      exact Or.inr (Or.inr ⟨_, rfl, rfl, Or.inl ⟨_, rfl, hd, g1⟩⟩)
    · cases g
  case lreturn =>
    obtain ⟨rfl, g⟩ := vif h
    split at g
    · obtain ⟨g1, g2⟩ := vif g
      cases g2
      exact Or.inr (Or.inr ⟨_, rfl, rfl, Or.inr (Or.inl ⟨_, rfl, hd, g1⟩)⟩)
    · cases g
  case areturn =>
    obtain ⟨rfl, g⟩ := vif h
    split at g
    · obtain ⟨g1, g2⟩ := vif g
      cases g2
      exact Or.inr (Or.inr ⟨_, rfl, rfl, Or.inr (Or.inr (Or.inl ⟨_, rfl, hd, g1⟩))⟩)
    · cases g
  case return_ =>
    obtain ⟨rfl, g⟩ := vif h
    split at g
    · obtain ⟨g1, g2⟩ := vif g
      cases g2
      exact Or.inr (Or.inr ⟨_, rfl, rfl, Or.inr (Or.inr (Or.inr ⟨rfl, hd, g1⟩))⟩)
    · cases g
  all_goals refine on ?_
  case new idx => exact vOn_if (fun _ => vOn_new) (fun _ => vOn_no)
  case newarray t => exact vOn_if (fun _ => vOn_newa) (fun _ => vOn_no)
  case putfield idx => exact vOn_if (fun _ => vOn_put) (fun _ => vOn_no)
  case ifCond cd off => exact vOn_if (fun _ => by split <;> first | exact vOn_br | exact vOn_no) (fun _ => vOn_no)
  case if_icmp cd off => exact vOn_if (fun _ => by split <;> first | exact vOn_br | exact vOn_no) (fun _ => vOn_no)
  case goto off => exact vOn_if (fun _ => vOn_jmp) (fun _ => vOn_no)
  case tableswitch d lo hi offs =>
    show vOn (vtab pc d lo hi offs ls st w)
    unfold vtab
    split
    · refine vOn_if (fun _ => vOn_jmp) (fun _ => ?_)
      split
      · exact vOn_jmp
      · exact vOn_no
    · exact vOn_no
  case iastore =>
    refine vOn_if (fun _ => ?_) (fun _ => vOn_no)
    unfold viast
    split
    · split
      · exact vOn_if (fun _ => vOn_no) (fun _ => vOn_nx)
      · exact vOn_no
    · exact vOn_no
  case getfield idx =>
    refine vOn_if (fun _ => ?_) (fun _ => vOn_no)
    unfold vget
    split
    · split
      · split
        · refine vOn_if (fun _ => ?_) (fun _ => vOn_no)
          split <;> first | exact vOn_nx | exact vOn_no
        · exact vOn_no
      · exact vOn_no
    · exact vOn_no
  case ldc idx => exact vOn_if (fun _ => by unfold vldc; split <;> first | exact vOn_if (fun _ => vOn_nx) (fun _ => vOn_if (fun _ => vOn_nx) (fun _ => vOn_no)) | exact vOn_if (fun _ => vOn_nx) (fun _ => vOn_no) | exact vOn_no) (fun _ => vOn_no)
  case ldc_w idx => exact vOn_if (fun _ => by unfold vldc; split <;> first | exact vOn_if (fun _ => vOn_nx) (fun _ => vOn_if (fun _ => vOn_nx) (fun _ => vOn_no)) | exact vOn_if (fun _ => vOn_nx) (fun _ => vOn_no) | exact vOn_no) (fun _ => vOn_no)
  case ldc2_w idx => exact vOn_if (fun _ => by unfold vldc; split <;> first | exact vOn_if (fun _ => vOn_nx) (fun _ => vOn_if (fun _ => vOn_nx) (fun _ => vOn_no)) | exact vOn_if (fun _ => vOn_nx) (fun _ => vOn_no) | exact vOn_no) (fun _ => vOn_no)
  case iadd => exact vOn_if (fun _ => by unfold vbin; split <;> first | exact vOn_nx | exact vOn_no) (fun _ => vOn_no)
  case isub => exact vOn_if (fun _ => by unfold vbin; split <;> first | exact vOn_nx | exact vOn_no) (fun _ => vOn_no)
  case imul => exact vOn_if (fun _ => by unfold vbin; split <;> first | exact vOn_nx | exact vOn_no) (fun _ => vOn_no)
  case iand => exact vOn_if (fun _ => by unfold vbin; split <;> first | exact vOn_nx | exact vOn_no) (fun _ => vOn_no)
  case ior => exact vOn_if (fun _ => by unfold vbin; split <;> first | exact vOn_nx | exact vOn_no) (fun _ => vOn_no)
  case ixor => exact vOn_if (fun _ => by unfold vbin; split <;> first | exact vOn_nx | exact vOn_no) (fun _ => vOn_no)
  case ishl => exact vOn_if (fun _ => by unfold vbin; split <;> first | exact vOn_nx | exact vOn_no) (fun _ => vOn_no)
  case ishr => exact vOn_if (fun _ => by unfold vbin; split <;> first | exact vOn_nx | exact vOn_no) (fun _ => vOn_no)
  case iushr => exact vOn_if (fun _ => by unfold vbin; split <;> first | exact vOn_nx | exact vOn_no) (fun _ => vOn_no)
  case idiv => exact vOn_if (fun _ => by unfold vdiv; split <;> first | exact vOn_if (fun _ => vOn_no) (fun _ => vOn_nx) | exact vOn_no) (fun _ => vOn_no)
  case irem => exact vOn_if (fun _ => by unfold vdiv; split <;> first | exact vOn_if (fun _ => vOn_no) (fun _ => vOn_nx) | exact vOn_no) (fun _ => vOn_no)
  case ineg => exact vOn_if (fun _ => by unfold vun; split <;> first | exact vOn_nx | exact vOn_no) (fun _ => vOn_no)
  case i2b => exact vOn_if (fun _ => by unfold vun; split <;> first | exact vOn_nx | exact vOn_no) (fun _ => vOn_no)
  case i2s => exact vOn_if (fun _ => by unfold vun; split <;> first | exact vOn_nx | exact vOn_no) (fun _ => vOn_no)
  case i2l => exact vOn_if (fun _ => by split <;> first | exact vOn_nx | exact vOn_no) (fun _ => vOn_no)
  case lcmp => exact vOn_if (fun _ => by split <;> first | exact vOn_nx | exact vOn_no) (fun _ => vOn_no)
  case ladd => exact vOn_if (fun _ => by unfold vlbin; split <;> first | exact vOn_nx | exact vOn_no) (fun _ => vOn_no)
  case lmul => exact vOn_if (fun _ => by unfold vlbin; split <;> first | exact vOn_nx | exact vOn_no) (fun _ => vOn_no)
  case dup => exact vOn_if (fun _ => by split <;> first | exact vOn_if (fun _ => vOn_nx) (fun _ => vOn_no) | exact vOn_no) (fun _ => vOn_no)
  case dup2 => exact vOn_if (fun _ => by split <;> first | exact vOn_if (fun _ => vOn_nx) (fun _ => vOn_no) | exact vOn_no) (fun _ => vOn_no)
  case iconst k => exact vOn_if (fun _ => vOn_nx) (fun _ => vOn_no)
  case bipush k => exact vOn_if (fun _ => vOn_nx) (fun _ => vOn_no)
  case sipush k => exact vOn_if (fun _ => vOn_nx) (fun _ => vOn_no)
  case lconst k => exact vOn_if (fun _ => vOn_nx) (fun _ => vOn_no)
  case iload_n k => exact vOn_if (fun _ => by unfold vild; split <;> first | exact vOn_nx | exact vOn_no) (fun _ => vOn_no)
  case iload k => exact vOn_if (fun _ => by unfold vild; split <;> first | exact vOn_nx | exact vOn_no) (fun _ => vOn_no)
  case lload_n k => exact vOn_if (fun _ => by unfold vlld; split <;> first | exact vOn_nx | exact vOn_no) (fun _ => vOn_no)
  case lload k => exact vOn_if (fun _ => by unfold vlld; split <;> first | exact vOn_nx | exact vOn_no) (fun _ => vOn_no)
  case aload_n k => exact vOn_if (fun _ => by unfold vald; split <;> first | exact vOn_nx | exact vOn_no) (fun _ => vOn_no)
  case istore_n k => exact vOn_if (fun _ => by unfold vist; split <;> first | (split <;> first | exact vOn_nx | exact vOn_no) | exact vOn_no) (fun _ => vOn_no)
  case istore k => exact vOn_if (fun _ => by unfold vist; split <;> first | (split <;> first | exact vOn_nx | exact vOn_no) | exact vOn_no) (fun _ => vOn_no)
  case lstore_n k => exact vOn_if (fun _ => by unfold vlst; split <;> first | (split <;> first | exact vOn_nx | exact vOn_no) | exact vOn_no) (fun _ => vOn_no)
  case astore_n k => exact vOn_if (fun _ => by unfold vast; split <;> first | (split <;> first | exact vOn_nx | exact vOn_no) | exact vOn_no) (fun _ => vOn_no)
  case iinc k n => exact vOn_if (fun _ => by unfold vinc; split <;> first | (split <;> first | exact vOn_nx | exact vOn_no) | exact vOn_no) (fun _ => vOn_no)
  case iaload => exact vOn_if (fun _ => by unfold viald; split <;> first | (split <;> first | exact vOn_if (fun _ => vOn_no) (fun _ => vOn_nx) | exact vOn_no) | exact vOn_no) (fun _ => vOn_no)
  case arraylength => exact vOn_if (fun _ => by unfold valen; split <;> first | (split <;> first | exact vOn_nx | exact vOn_no) | exact vOn_no) (fun _ => vOn_no)
  all_goals exact vOn_no
