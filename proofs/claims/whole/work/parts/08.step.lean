/-! One step of the small machine is one step of the machine; a run is a run -/
theorem vif {α : Type} {c : Prop} {d : Decidable c} {o : Option α} {r : α} (h : @ite _ c d o none = some r) : c ∧ o = some r := by
  by_cases hc : c
  · rw [if_pos hc] at h; exact ⟨hc, h⟩
  · rw [if_neg hc] at h; cases h
def yLen : MethodName := ⟨"java/lang/String", "length", "()I"⟩
def yCh : MethodName := ⟨"java/lang/String", "charAt", "(I)C"⟩
def vPs (E : vEv) (i : Nat) (ex : List Value) : Array Value → State → Prop := va_Pc (.ref (eAd E (1000 + i)) :: ex) (fun U => ∃ A, vStr E A U U.heap)
def vSL (l : Launch) : Prop := ∀ (E : vEv) (i : Nat), i < 12 → Met l yLen (.code yLen prog_11_method_54_code 1 (some .int) :: vgood) { frames := 1, cells := 0, slots := 0, locals := 20 } (vPs E i []) (QcRead (nI (sLens.getD i 0))) 0 0 (fun _ => False)
def vSC (l : Launch) : Prop := ∀ (E : vEv) (i k : Nat), i < 12 → k < sLens.getD i 0 → Met l yCh (.code yCh prog_11_method_56_code 2 (some .char) :: vgood) { frames := 3, cells := 0, slots := 0, locals := 64 } (vPs E i [.int (nI k)]) (QcRead ((sByts.getD i []).getD k 0)) 0 0 (fun _ => False)
theorem vPs_blind (E : vEv) (i : Nat) (ex : List Value) : FrameBlind (vPs E i ex) := fun a U g mk h => by
  obtain ⟨h1, A, h2⟩ := h
  exact ⟨h1, A, vStr_same (u := U) (U := U.calling g mk a) rfl h2⟩
theorem vw_sc1 : Cond.code yLen prog_11_method_54_code 1 (some .int) ∈ vgood := vgood_of (List.mem_of_getElem? (i := 679) (by decide +kernel)) rfl
theorem vw_sc2 : Cond.code yCh prog_11_method_56_code 2 (some .char) ∈ vgood := vgood_of (List.mem_of_getElem? (i := 689) (by decide +kernel)) rfl
theorem vw_si1 : Cond.instanceMethod yLen ∈ vgood := vgood_of (List.mem_of_getElem? (i := 677) (by decide +kernel)) rfl
theorem vw_si2 : Cond.instanceMethod yCh ∈ vgood := vgood_of (List.mem_of_getElem? (i := 687) (by decide +kernel)) rfl
theorem vw_ss1 : Cond.selects "java/lang/String" yLen yLen ∈ vgood := vgood_of (List.mem_of_getElem? (i := 678) (by decide +kernel)) rfl
theorem vw_ss2 : Cond.selects "java/lang/String" yCh yCh ∈ vgood := vgood_of (List.mem_of_getElem? (i := 688) (by decide +kernel)) rfl
theorem vw_sin : Cond.initialized "java/lang/String" ∈ vgood := vgood_of (List.mem_of_getElem? (i := 119) (by decide +kernel)) rfl
theorem goodIn_code {c : Cond} (h : c ∈ vgood) : GoodIn vgood (c :: vgood) := fun x hx => by
  rcases List.mem_cons.mp hx with rfl | hx
  · exact ⟨h, good_of_word (vgood_good _ h)⟩
  · exact vgood_self _ hx
section VSTEP
variable {p : Program} {l : Launch} {e : Env} {Rm : Room} {s : State} {mid : MethodId} {args : Array Value} {below : List Frame} {meth : Method} {c : Code} {Q : State → Prop} {E : vEv} {A : Nat → Prop} {l0 n0 m pc : Nat} {ls st : List Value} {w : vW} {q : vS}
theorem vs_slen {idx : Nat} (SL : vSL l) (C : vCtx p s mid args meth c E A l0 m) (hd : decode (mB m) pc = .ok (.invokevirtual idx, 3)) (ho : mO m = 4) (hw : Cond.methodLink "HeirHalves$Tape" idx yLen ∈ vgood) (hR : mF m ≤ Rm.frames ∧ mW m ≤ Rm.locals) (hc1 : w.1.length - l0 ≤ Rm.cells) (hc2 : vssz w.1 - n0 ≤ Rm.slots) (h : vslen m (pc + 3) ls st w = some (.inl q)) (k : vGo p l e Rm s mid args below meth c Q E A l0 n0 m q.1 q.2.1 q.2.2.1 q.2.2.2) : vGo p l e Rm s mid args below meth c Q E A l0 n0 m pc ls st w := by
  obtain ⟨hx, hb, hml, hown, hts, hK, hX, hbl, hbA, hA, hSt, hN, hnm, hlay, hs0, hl0⟩ := C
  unfold vslen at h
  split at h
  · rename_i a rest
    obtain ⟨a, rfl⟩ : ∃ a' : Nat, a' = a := ⟨a, rfl⟩
    by_cases hi : a < 1000 ∨ 1012 ≤ a ∨ mF m < 2 ∨ mW m < 40 ∨ 8 < vcats rest
    · rw [if_pos hi] at h; cases h
    · rw [if_neg hi] at h
      rw [vnx_eq h] at k
      intro lsC H locs hl hr
      obtain ⟨hP, hD, hS, hz⟩ := hr
      have ha : 1000 ≤ a := by omega
      have ha2 : a - 1000 < 12 := by omega
      have e1 : 1000 + (a - 1000) = a := by omega
      rw [ho] at hown
      have fix : CallFix p mid c (mB m) (mL m) s args vgood "HeirHalves$Tape" := ⟨hx, hb, hml, hown, hts⟩
      have hp : PreV s H "java/lang/String" (eAd E a) (vPs E (a - 1000) []) [] := by
        refine ⟨vPs_blind _ _ _, ?_, fun U hU hW => ⟨by rw [e1], A, ⟨?_, fun i hi => (hSt.2.1 i hi).warm hW, ?_, ?_⟩⟩⟩
        · have := vk_recv hSt.1 ha2 hS
          simp only [e1] at this
          exact this
        · rw [hU]
          exact vk_S.moved hW.alike (vk_S.kept hSt.1 hS.2.1)
        · rw [hU]
          exact va_Z.moved hW.alike (va_Z.kept hSt.2.2.1 hS.2.1)
        · rw [hU]
          exact va_Zq.moved hW.alike (va_Zq.kept hSt.2.2.2 hS.2.1)
      have cw : CallW Rm s args "HeirHalves$Tape" "java/lang/String" idx yLen prog_11_method_54_code 1 (some .int) (.code yLen prog_11_method_54_code 1 (some .int) :: vgood) { frames := 1, cells := 0, slots := 0, locals := 20 } 0 0 0 :=
        ⟨callB_of (Ts := vgood) (ws' := vgood) 0 hts (goodIn_code vw_sc1) rfl rfl rfl (hts _ vw_sin) (hts _ hw) ⟨by decide +kernel, by decide +kernel, by decide +kernel⟩ ⟨by show 1 + 1 ≤ _; omega, by show 8 + (1 + 11) + 20 ≤ _; omega⟩, hts _ vw_si1, hts _ vw_ss1⟩
      refine W.callR (W.runV (g := F0 mid pc lsC (.ref (eAd E a) :: rest.map (vcv (eAd E)))) fix (SL E (a - 1000) ha2) cw hp rfl rfl hl.1.1 rfl ?_ hd ⟨hc1, hc2⟩) (k lsC H locs hl ⟨hP, hD, hS, hz⟩)
      rw [F0_mon, vcv_cats]
      omega
  · cases h
theorem vs_sch {idx : Nat} (SC : vSC l) (C : vCtx p s mid args meth c E A l0 m) (hd : decode (mB m) pc = .ok (.invokevirtual idx, 3)) (ho : mO m = 4) (hw : Cond.methodLink "HeirHalves$Tape" idx yCh ∈ vgood) (hR : mF m ≤ Rm.frames ∧ mW m ≤ Rm.locals) (hc1 : w.1.length - l0 ≤ Rm.cells) (hc2 : vssz w.1 - n0 ≤ Rm.slots) (h : vsch m (pc + 3) ls st w = some (.inl q)) (k : vGo p l e Rm s mid args below meth c Q E A l0 n0 m q.1 q.2.1 q.2.2.1 q.2.2.2) : vGo p l e Rm s mid args below meth c Q E A l0 n0 m pc ls st w := by
  obtain ⟨hx, hb, hml, hown, hts, hK, hX, hbl, hbA, hA, hSt, hN, hnm, hlay, hs0, hl0⟩ := C
  unfold vsch at h
  split at h
  · rename_i i a rest
    obtain ⟨a, rfl⟩ : ∃ a' : Nat, a' = a := ⟨a, rfl⟩
    by_cases hi : a < 1000 ∨ 1012 ≤ a ∨ i < 0 ∨ sLens.getD (a - 1000) 0 ≤ i.toNatClampNeg ∨ mF m < 4 ∨ mW m < 85 ∨ 8 < vcats rest
    · rw [if_pos hi] at h; cases h
    · rw [if_neg hi] at h
      rw [vnx_eq h] at k
      intro lsC H locs hl hr
      obtain ⟨hP, hD, hS, hz⟩ := hr
      have ha : 1000 ≤ a := by omega
      have ha2 : a - 1000 < 12 := by omega
      have e1 : 1000 + (a - 1000) = a := by omega
      obtain ⟨j, hj, rfl⟩ := nI_of (x := i) (fun z => hi (Or.inr (Or.inr (Or.inl z))))
      rw [nI_clamp hj] at hi k
      have hj2 : j < sLens.getD (a - 1000) 0 := by omega
      rw [ho] at hown
      have fix : CallFix p mid c (mB m) (mL m) s args vgood "HeirHalves$Tape" := ⟨hx, hb, hml, hown, hts⟩
      have hp : PreV s H "java/lang/String" (eAd E a) (vPs E (a - 1000) [.int (nI j)]) [.int (nI j)] := by
        refine ⟨vPs_blind _ _ _, ?_, fun U hU hW => ⟨by rw [e1], A, ⟨?_, fun i hi => (hSt.2.1 i hi).warm hW, ?_, ?_⟩⟩⟩
        · have := vk_recv hSt.1 ha2 hS
          simp only [e1] at this
          exact this
        · rw [hU]
          exact vk_S.moved hW.alike (vk_S.kept hSt.1 hS.2.1)
        · rw [hU]
          exact va_Z.moved hW.alike (va_Z.kept hSt.2.2.1 hS.2.1)
        · rw [hU]
          exact va_Zq.moved hW.alike (va_Zq.kept hSt.2.2.2 hS.2.1)
      have cw : CallW Rm s args "HeirHalves$Tape" "java/lang/String" idx yCh prog_11_method_56_code 2 (some .char) (.code yCh prog_11_method_56_code 2 (some .char) :: vgood) { frames := 3, cells := 0, slots := 0, locals := 64 } 0 0 1 :=
        ⟨callB_of (Ts := vgood) (ws' := vgood) 1 hts (goodIn_code vw_sc2) rfl rfl rfl (hts _ vw_sin) (hts _ hw) ⟨by decide +kernel, by decide +kernel, by decide +kernel⟩ ⟨by show 3 + 1 ≤ _; omega, by show 8 + (2 + 11) + 64 ≤ _; omega⟩, hts _ vw_si2, hts _ vw_ss2⟩
      refine W.callR (W.runV (g := F0 mid pc lsC (.int (nI j) :: .ref (eAd E a) :: rest.map (vcv (eAd E)))) fix (SC E (a - 1000) j ha2 hj2) cw hp rfl rfl hl.1.1 rfl ?_ hd ⟨hc1, hc2⟩) (k lsC H locs hl ⟨hP, hD, hS, hz⟩)
      rw [F0_mon, vcv_cats]
      omega
  · cases h
theorem vcall_notl {t pc' : Nat} (h : vcall m t pc' ls st w = some (.inl q)) : False := by
  have := vMono_call (m := m) (t := t) (pc := pc') (ls := ls) (st := st) (w := w)
  unfold vcall at h
  simp only at h
  split at h
  · split at h
    · cases h
    · split at h
      · split at h
        · split at h <;> cases h
        · cases h
      · cases h
  · cases h
theorem vs_all {i : Instr} {n : Nat} (SL : vSL l) (SC : vSC l) (C : vCtx p s mid args meth c E A l0 m) (hR : mF m ≤ Rm.frames ∧ mW m ≤ Rm.locals) (hw1 : w.1.length - l0 ≤ Rm.cells) (hw2 : vssz w.1 - n0 ≤ Rm.slots) (hc1 : q.2.2.2.1.length - l0 ≤ Rm.cells) (hc2 : vssz q.2.2.2.1 - n0 ≤ Rm.slots)
    (hd : decode (mB m) pc = .ok (i, n)) (h : vinst m pc i n ls st w = some (.inl q)) (k : vGo p l e Rm s mid args below meth c Q E A l0 n0 m q.1 q.2.1 q.2.2.1 q.2.2.2) : vGo p l e Rm s mid args below meth c Q E A l0 n0 m pc ls st w := by
  have hx := C.1
  have hb := C.2.1
  cases i
  case iconst kk => obtain ⟨rfl, g⟩ := vif h; rw [vnx_eq g] at k; exact vs_st k fun lsC H locs cells slots z => lv_iconst hx hb hd rfl z
  case bipush kk => obtain ⟨rfl, g⟩ := vif h; rw [vnx_eq g] at k; exact vs_st k fun lsC H locs cells slots z => lv_bipush hx hb hd rfl z
  case sipush kk => obtain ⟨rfl, g⟩ := vif h; rw [vnx_eq g] at k; exact vs_st k fun lsC H locs cells slots z => lv_sipush hx hb hd rfl z
  case lconst kk => obtain ⟨rfl, g⟩ := vif h; rw [vnx_eq g] at k; exact vs_st k fun lsC H locs cells slots z => lv_lconst hx hb hd rfl z
  case iload_n kk => obtain ⟨rfl, g⟩ := vif h; exact vs_ild g k fun x lsC H locs cells slots rest hl z => lv_iload_n hx hb hd rfl hl z
  case iload kk => obtain ⟨rfl, g⟩ := vif h; exact vs_ild g k fun x lsC H locs cells slots rest hl z => lv_iload hx hb hd hl z
  case lload_n kk => obtain ⟨rfl, g⟩ := vif h; exact vs_lld g k fun x lsC H locs cells slots rest hl z => lv_lload_n hx hb hd rfl hl z
  case lload kk => obtain ⟨rfl, g⟩ := vif h; exact vs_lld g k fun x lsC H locs cells slots rest hl z => lv_lload hx hb hd hl z
  case aload_n kk => obtain ⟨rfl, g⟩ := vif h; exact vs_ald g k fun x lsC H locs cells slots rest hl z => lv_aload_n hx hb hd rfl hl z
  case istore_n kk => obtain ⟨rfl, g⟩ := vif h; exact vs_ist g k fun x lsC H locs cells slots rest lv lv' h1 h2 h3 z => lv_istore_n hx hb hd rfl h1 h2 h3 z
  case istore kk => obtain ⟨rfl, g⟩ := vif h; exact vs_ist g k fun x lsC H locs cells slots rest lv lv' h1 h2 h3 z => lv_istore hx hb hd h1 h2 h3 z
  case lstore_n kk => obtain ⟨rfl, g⟩ := vif h; exact vs_lst g k fun x lsC H locs cells slots rest lv lv' h1 h2 h3 z => lv_lstore_n hx hb hd rfl h1 h2 h3 z
  case astore_n kk => obtain ⟨rfl, g⟩ := vif h; exact vs_ast g k fun x lsC H locs cells slots rest lv lv' h1 h2 h3 z => lv_astore_n hx hb hd rfl h1 h2 h3 z
  case iinc kk nn => obtain ⟨rfl, g⟩ := vif h; exact vs_inc g k fun x lsC H locs cells slots rest lv lv' k0 h1 h2 h3 h4 z => lv_iinc hx hb hd h1 h2 rfl h3 h4 z
  case iadd => obtain ⟨rfl, g⟩ := vif h; exact vs_bin g k fun x y lsC H locs cells slots rest z => lv_iadd hx hb hd z
  case isub => obtain ⟨rfl, g⟩ := vif h; exact vs_bin g k fun x y lsC H locs cells slots rest z => lv_isub hx hb hd z
  case imul => obtain ⟨rfl, g⟩ := vif h; exact vs_bin g k fun x y lsC H locs cells slots rest z => lv_imul hx hb hd z
  case iand => obtain ⟨rfl, g⟩ := vif h; exact vs_bin g k fun x y lsC H locs cells slots rest z => lv_iand hx hb hd z
  case ior => obtain ⟨rfl, g⟩ := vif h; exact vs_bin g k fun x y lsC H locs cells slots rest z => lv_ior hx hb hd z
  case ixor => obtain ⟨rfl, g⟩ := vif h; exact vs_bin g k fun x y lsC H locs cells slots rest z => lv_ixor hx hb hd z
  case ishl => obtain ⟨rfl, g⟩ := vif h; exact vs_bin g k fun x y lsC H locs cells slots rest z => lv_ishl hx hb hd z
  case ishr => obtain ⟨rfl, g⟩ := vif h; exact vs_bin g k fun x y lsC H locs cells slots rest z => lv_ishr hx hb hd z
  case iushr => obtain ⟨rfl, g⟩ := vif h; exact vs_bin g k fun x y lsC H locs cells slots rest z => lv_iushr hx hb hd rfl z
  case idiv => obtain ⟨rfl, g⟩ := vif h; exact vs_div g k fun x y lsC H locs cells slots rest h1 z => lv_idiv hx hb hd h1 z
  case irem => obtain ⟨rfl, g⟩ := vif h; exact vs_div g k fun x y lsC H locs cells slots rest h1 z => lv_irem hx hb hd h1 z
  case ineg => obtain ⟨rfl, g⟩ := vif h; exact vs_un g k fun x lsC H locs cells slots rest z => lv_ineg hx hb hd z
  case i2b => obtain ⟨rfl, g⟩ := vif h; exact vs_un g k fun x lsC H locs cells slots rest z => lv_i2b hx hb hd rfl z
  case i2s => obtain ⟨rfl, g⟩ := vif h; exact vs_un g k fun x lsC H locs cells slots rest z => lv_i2s hx hb hd rfl z
  case i2l =>
    obtain ⟨rfl, g⟩ := vif h
    split at g
    · rw [vnx_eq g] at k
      exact vs_st k fun lsC H locs cells slots z => lv_i2l hx hb hd rfl z
    · cases g
  case ladd => obtain ⟨rfl, g⟩ := vif h; exact vs_lbin g k fun x y lsC H locs cells slots rest z => lv_ladd hx hb hd z
  case lmul => obtain ⟨rfl, g⟩ := vif h; exact vs_lbin g k fun x y lsC H locs cells slots rest z => lv_lmul hx hb hd z
  case lcmp =>
    obtain ⟨rfl, g⟩ := vif h
    split at g
    · rw [vnx_eq g] at k
      exact vs_st k fun lsC H locs cells slots z => W.lcmp hx hb hd z
    · cases g
  case dup =>
    obtain ⟨rfl, g⟩ := vif h
    split at g
    · obtain ⟨hv, g⟩ := vif g
      rw [vnx_eq g] at k
      exact vs_st k fun lsC H locs cells slots z => lv_dup hx hb hd (by rw [vcv_cat]; exact hv) z
    · cases g
  case dup2 =>
    obtain ⟨rfl, g⟩ := vif h
    split at g
    · obtain ⟨hv, g⟩ := vif g
      rw [vnx_eq g] at k
      exact vs_st k fun lsC H locs cells slots z => lv_dup2_11 hx hb hd (by rw [vcv_cat]; exact hv.1) (by rw [vcv_cat]; exact hv.2) z
    · cases g
  case ifCond cd off =>
    obtain ⟨rfl, g⟩ := vif h
    split at g
    · exact vs_if C hd g k
    · cases g
  case if_icmp cd off =>
    obtain ⟨rfl, g⟩ := vif h
    split at g
    · exact vs_ic C hd g k
    · cases g
  case goto off =>
    obtain ⟨rfl, g⟩ := vif h
    obtain ⟨tgt, ht, hq⟩ := vjmp_eq g
    rw [hq] at k
    exact vs_st k fun lsC H locs cells slots z => lv_goto hx hb hd ht z
  case tableswitch d lo hi offs => exact vs_tab C hd h k
  case getfield idx => obtain ⟨rfl, g⟩ := vif h; exact vs_get C hd g k
  case putfield idx => obtain ⟨rfl, g⟩ := vif h; exact vs_put C hd g k
  case iaload => obtain ⟨rfl, g⟩ := vif h; exact vs_iald C hd g k
  case iastore => obtain ⟨rfl, g⟩ := vif h; exact vs_iast C hd g k
  case arraylength => obtain ⟨rfl, g⟩ := vif h; exact vs_alen C hd g k
  case newarray t => obtain ⟨⟨rfl, rfl⟩, g⟩ := vif h; exact vs_newa C hd g k hc1 hc2
  case new idx => obtain ⟨rfl, g⟩ := vif h; exact vs_new C hd g k hc1 hc2
  case ldc idx => obtain ⟨rfl, g⟩ := vif h; exact vs_ldc C g k (fun _ => ⟨rfl, hd⟩) (fun z => by cases z) (fun z => by cases z)
  case ldc_w idx => obtain ⟨rfl, g⟩ := vif h; exact vs_ldc C g k (fun z => by cases z) (fun _ => ⟨rfl, hd⟩) (fun z => by cases z)
  case ldc2_w idx => obtain ⟨rfl, g⟩ := vif h; exact vs_ldc C g k (fun z => by cases z) (fun z => by cases z) (fun _ => ⟨rfl, hd⟩)
  case invokestatic idx =>
    obtain ⟨rfl, g⟩ := vif h
    unfold vinvs at g
    split at g
    · rename_i kd t hf
      obtain ⟨hm, ho, hi⟩ := vlk_mem hf
      obtain ⟨f0, f1, f2, f3, f4, f5, f6, f7, f8, f9, f10, f11⟩ := c_all _ hm
      simp only [ho, hi] at f1 f2 f3 f4 f5 f6 f7 f8 f9 f10 f11
      split at g
      · exact (vcall_notl g).elim
      · split at g
        · rename_i h7
          exact vs_acopy C hd (f7 h7) hR g k
        · split at g
          · rename_i h10
            exact vs_mm (mx := true) C hd (by rw [if_pos rfl]; exact f10 h10) hR hw1 hw2 g k
          · split at g
            · rename_i h11
              exact vs_mm (mx := false) C hd (by rw [if_neg (by decide)]; exact f11 h11) hR hw1 hw2 g k
            · cases g
    · cases g
  case invokevirtual idx =>
    obtain ⟨rfl, g⟩ := vif h
    unfold vinvv at g
    split at g
    · rename_i kd t hf
      obtain ⟨hm, ho, hi⟩ := vlk_mem hf
      obtain ⟨f0, f1, f2, f3, f4, f5, f6, f7, f8, f9, f10, f11⟩ := c_all _ hm
      simp only [ho, hi] at f8 f9
      split at g
      · exact (vcall_notl g).elim
      · split at g
        · rename_i h8
          exact vs_slen SL C hd (f8 h8).1 (f8 h8).2 hR hw1 hw2 g k
        · split at g
          · rename_i h9
            exact vs_sch SC C hd (f9 h9).1 (f9 h9).2 hR hw1 hw2 g k
          · cases g
    · cases g
  case invokespecial idx =>
    obtain ⟨rfl, g⟩ := vif h
    unfold vinvi at g
    split at g
    · rename_i kd t hf
      obtain ⟨hm, ho, hi⟩ := vlk_mem hf
      obtain ⟨f0, f1, f2, f3, f4, f5, f6, f7, f8, f9, f10, f11⟩ := c_all _ hm
      simp only [ho, hi] at f6
      split at g
      · exact (vcall_notl g).elim
      · split at g
        · rename_i h6
          exact vs_obj C hd (f6 h6) hR g k
        · cases g
    · cases g
  case ireturn =>
    obtain ⟨rfl, g⟩ := vif h
    split at g
    · have g2 := (vif g).2
      cases g2
    · cases g
  case lreturn =>
    obtain ⟨rfl, g⟩ := vif h
    split at g
    · have g2 := (vif g).2
      cases g2
    · cases g
  case areturn =>
    obtain ⟨rfl, g⟩ := vif h
    split at g
    · have g2 := (vif g).2
      cases g2
    · cases g
  case return_ =>
    obtain ⟨rfl, g⟩ := vif h
    split at g
    · have g2 := (vif g).2
      cases g2
    · cases g
  all_goals cases h
end VSTEP
