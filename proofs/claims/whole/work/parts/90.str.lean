/-! String.length and String.charAt of the constants -/
def yCoder : MethodName := ⟨"java/lang/String", "coder", "()B"⟩
abbrev b_yCoder : ByteArray := prog_11_method_152_code
theorem kc_yCoder : Cond.code yCoder b_yCoder 1 (some .byte) ∈ vgood := vgood_of (List.mem_of_getElem? (i := 683) (by decide +kernel)) rfl
theorem ki_yCoder : Cond.instanceMethod yCoder ∈ vgood := vgood_of (List.mem_of_getElem? (i := 681) (by decide +kernel)) rfl
theorem ke_yCoder : Cond.selects "java/lang/String" yCoder yCoder ∈ vgood := vgood_of (List.mem_of_getElem? (i := 682) (by decide +kernel)) rfl
abbrev b_yLen : ByteArray := prog_11_method_54_code
theorem kc_yLen : Cond.code yLen b_yLen 1 (some .int) ∈ vgood := vgood_of (List.mem_of_getElem? (i := 679) (by decide +kernel)) rfl
theorem ki_yLen : Cond.instanceMethod yLen ∈ vgood := vgood_of (List.mem_of_getElem? (i := 677) (by decide +kernel)) rfl
theorem ke_yLen : Cond.selects "java/lang/String" yLen yLen ∈ vgood := vgood_of (List.mem_of_getElem? (i := 678) (by decide +kernel)) rfl
abbrev b_yCh : ByteArray := prog_11_method_56_code
theorem kc_yCh : Cond.code yCh b_yCh 2 (some .char) ∈ vgood := vgood_of (List.mem_of_getElem? (i := 689) (by decide +kernel)) rfl
theorem ki_yCh : Cond.instanceMethod yCh ∈ vgood := vgood_of (List.mem_of_getElem? (i := 687) (by decide +kernel)) rfl
theorem ke_yCh : Cond.selects "java/lang/String" yCh yCh ∈ vgood := vgood_of (List.mem_of_getElem? (i := 688) (by decide +kernel)) rfl
def yIsL : MethodName := ⟨"java/lang/String", "isLatin1", "()Z"⟩
abbrev b_yIsL : ByteArray := prog_11_method_154_code
theorem kc_yIsL : Cond.code yIsL b_yIsL 1 (some .boolean) ∈ vgood := vgood_of (List.mem_of_getElem? (i := 693) (by decide +kernel)) rfl
theorem ki_yIsL : Cond.instanceMethod yIsL ∈ vgood := vgood_of (List.mem_of_getElem? (i := 691) (by decide +kernel)) rfl
theorem ke_yIsL : Cond.selects "java/lang/String" yIsL yIsL ∈ vgood := vgood_of (List.mem_of_getElem? (i := 692) (by decide +kernel)) rfl
def yCk : MethodName := ⟨"java/lang/String", "checkIndex", "(II)V"⟩
abbrev b_yCk : ByteArray := prog_11_method_155_code
theorem kc_yCk : Cond.code yCk b_yCk 2 (none) ∈ vgood := vgood_of (List.mem_of_getElem? (i := 699) (by decide +kernel)) rfl
theorem ks_yCk : Cond.static yCk ∈ vgood := vgood_of (List.mem_of_getElem? (i := 698) (by decide +kernel)) rfl
def yPck : MethodName := ⟨"jdk/internal/util/Preconditions", "checkIndex", "(IILjava/util/function/BiFunction;)I"⟩
abbrev b_yPck : ByteArray := prog_16_method_11_code
theorem kc_yPck : Cond.code yPck b_yPck 3 (some .int) ∈ vgood := vgood_of (List.mem_of_getElem? (i := 704) (by decide +kernel)) rfl
theorem ks_yPck : Cond.static yPck ∈ vgood := vgood_of (List.mem_of_getElem? (i := 703) (by decide +kernel)) rfl
def yLch : MethodName := ⟨"java/lang/StringLatin1", "charAt", "([BI)C"⟩
abbrev b_yLch : ByteArray := prog_12_method_2_code
theorem kc_yLch : Cond.code yLch b_yLch 2 (some .char) ∈ vgood := vgood_of (List.mem_of_getElem? (i := 696) (by decide +kernel)) rfl
theorem ks_yLch : Cond.static yLch ∈ vgood := vgood_of (List.mem_of_getElem? (i := 695) (by decide +kernel)) rfl
theorem kn_String : Cond.initialized "java/lang/String" ∈ vgood := vgood_of (List.mem_of_getElem? (i := 119) (by decide +kernel)) rfl
theorem kn_StringLatin1 : Cond.initialized "java/lang/StringLatin1" ∈ vgood := vgood_of (List.mem_of_getElem? (i := 120) (by decide +kernel)) rfl
theorem kn_Preconditions : Cond.initialized "jdk/internal/util/Preconditions" ∈ vgood := vgood_of (List.mem_of_getElem? (i := 121) (by decide +kernel)) rfl
theorem kl_yCoder_335 : Cond.methodLink "java/lang/String" 335 yCoder ∈ vgood := vgood_of (List.mem_of_getElem? (i := 680) (by decide +kernel)) rfl
theorem kf_38 : Cond.fieldLink "java/lang/String" 38 "java/lang/String" "COMPACT_STRINGS" "Z" ∈ vgood := vgood_of (List.mem_of_getElem? (i := 684) (by decide +kernel)) rfl
theorem kl_yIsL_492 : Cond.methodLink "java/lang/String" 492 yIsL ∈ vgood := vgood_of (List.mem_of_getElem? (i := 690) (by decide +kernel)) rfl
theorem kl_yLch_495 : Cond.methodLink "java/lang/String" 495 yLch ∈ vgood := vgood_of (List.mem_of_getElem? (i := 694) (by decide +kernel)) rfl
theorem kl_yCk_9 : Cond.methodLink "java/lang/StringLatin1" 9 yCk ∈ vgood := vgood_of (List.mem_of_getElem? (i := 697) (by decide +kernel)) rfl
theorem kf_1053 : Cond.fieldLink "java/lang/String" 1053 "jdk/internal/util/Preconditions" "SIOOBE_FORMATTER" "Ljava/util/function/BiFunction;" ∈ vgood := vgood_of (List.mem_of_getElem? (i := 700) (by decide +kernel)) rfl
theorem kl_yPck_1059 : Cond.methodLink "java/lang/String" 1059 yPck ∈ vgood := vgood_of (List.mem_of_getElem? (i := 702) (by decide +kernel)) rfl
theorem kf_9 : Cond.fieldLink "java/lang/String" 9 "java/lang/String" "value" "[B" ∈ vgood := vgood_of (List.mem_of_getElem? (i := 1404) (by decide +kernel)) rfl
theorem kf_15 : Cond.fieldLink "java/lang/String" 15 "java/lang/String" "coder" "B" ∈ vgood := vgood_of (List.mem_of_getElem? (i := 1405) (by decide +kernel)) rfl
theorem d_yCoder_0 : decode b_yCoder 0 = .ok (.getstatic 38, 3) := by decide +kernel
theorem d_yCoder_3 : decode b_yCoder 3 = .ok (.ifCond .eq 10, 3) := by decide +kernel
theorem d_yCoder_6 : decode b_yCoder 6 = .ok (.aload_n 0, 1) := by decide +kernel
theorem d_yCoder_7 : decode b_yCoder 7 = .ok (.getfield 15, 3) := by decide +kernel
theorem d_yCoder_10 : decode b_yCoder 10 = .ok (.goto 4, 3) := by decide +kernel
theorem d_yCoder_13 : decode b_yCoder 13 = .ok (.iconst 1, 1) := by decide +kernel
theorem d_yCoder_14 : decode b_yCoder 14 = .ok (.ireturn, 1) := by decide +kernel
theorem d_yLen_0 : decode b_yLen 0 = .ok (.aload_n 0, 1) := by decide +kernel
theorem d_yLen_1 : decode b_yLen 1 = .ok (.getfield 9, 3) := by decide +kernel
theorem d_yLen_4 : decode b_yLen 4 = .ok (.arraylength, 1) := by decide +kernel
theorem d_yLen_5 : decode b_yLen 5 = .ok (.aload_n 0, 1) := by decide +kernel
theorem d_yLen_6 : decode b_yLen 6 = .ok (.invokevirtual 335, 3) := by decide +kernel
theorem d_yLen_9 : decode b_yLen 9 = .ok (.ishr, 1) := by decide +kernel
theorem d_yLen_10 : decode b_yLen 10 = .ok (.ireturn, 1) := by decide +kernel
theorem d_yIsL_0 : decode b_yIsL 0 = .ok (.getstatic 38, 3) := by decide +kernel
theorem d_yIsL_3 : decode b_yIsL 3 = .ok (.ifCond .eq 14, 3) := by decide +kernel
theorem d_yIsL_6 : decode b_yIsL 6 = .ok (.aload_n 0, 1) := by decide +kernel
theorem d_yIsL_7 : decode b_yIsL 7 = .ok (.getfield 15, 3) := by decide +kernel
theorem d_yIsL_10 : decode b_yIsL 10 = .ok (.ifCond .ne 7, 3) := by decide +kernel
theorem d_yIsL_13 : decode b_yIsL 13 = .ok (.iconst 1, 1) := by decide +kernel
theorem d_yIsL_14 : decode b_yIsL 14 = .ok (.goto 4, 3) := by decide +kernel
theorem d_yIsL_17 : decode b_yIsL 17 = .ok (.iconst 0, 1) := by decide +kernel
theorem d_yIsL_18 : decode b_yIsL 18 = .ok (.ireturn, 1) := by decide +kernel
theorem d_yPck_0 : decode b_yPck 0 = .ok (.iload_n 0, 1) := by decide +kernel
theorem d_yPck_1 : decode b_yPck 1 = .ok (.ifCond .lt 8, 3) := by decide +kernel
theorem d_yPck_4 : decode b_yPck 4 = .ok (.iload_n 0, 1) := by decide +kernel
theorem d_yPck_5 : decode b_yPck 5 = .ok (.iload_n 1, 1) := by decide +kernel
theorem d_yPck_6 : decode b_yPck 6 = .ok (.if_icmp .lt 10, 3) := by decide +kernel
theorem d_yPck_9 : decode b_yPck 9 = .ok (.aload_n 2, 1) := by decide +kernel
theorem d_yPck_10 : decode b_yPck 10 = .ok (.iload_n 0, 1) := by decide +kernel
theorem d_yPck_11 : decode b_yPck 11 = .ok (.iload_n 1, 1) := by decide +kernel
theorem d_yPck_12 : decode b_yPck 12 = .ok (.invokestatic 95, 3) := by decide +kernel
theorem d_yPck_15 : decode b_yPck 15 = .ok (.athrow, 1) := by decide +kernel
theorem d_yPck_16 : decode b_yPck 16 = .ok (.iload_n 0, 1) := by decide +kernel
theorem d_yPck_17 : decode b_yPck 17 = .ok (.ireturn, 1) := by decide +kernel
theorem d_yCk_0 : decode b_yCk 0 = .ok (.iload_n 0, 1) := by decide +kernel
theorem d_yCk_1 : decode b_yCk 1 = .ok (.iload_n 1, 1) := by decide +kernel
theorem d_yCk_2 : decode b_yCk 2 = .ok (.getstatic 1053, 3) := by decide +kernel
theorem d_yCk_5 : decode b_yCk 5 = .ok (.invokestatic 1059, 3) := by decide +kernel
theorem d_yCk_8 : decode b_yCk 8 = .ok (.pop, 1) := by decide +kernel
theorem d_yCk_9 : decode b_yCk 9 = .ok (.return_, 1) := by decide +kernel
theorem d_yLch_0 : decode b_yLch 0 = .ok (.iload_n 1, 1) := by decide +kernel
theorem d_yLch_1 : decode b_yLch 1 = .ok (.aload_n 0, 1) := by decide +kernel
theorem d_yLch_2 : decode b_yLch 2 = .ok (.arraylength, 1) := by decide +kernel
theorem d_yLch_3 : decode b_yLch 3 = .ok (.invokestatic 9, 3) := by decide +kernel
theorem d_yLch_6 : decode b_yLch 6 = .ok (.aload_n 0, 1) := by decide +kernel
theorem d_yLch_7 : decode b_yLch 7 = .ok (.iload_n 1, 1) := by decide +kernel
theorem d_yLch_8 : decode b_yLch 8 = .ok (.baload, 1) := by decide +kernel
theorem d_yLch_9 : decode b_yLch 9 = .ok (.sipush 255, 3) := by decide +kernel
theorem d_yLch_12 : decode b_yLch 12 = .ok (.iand, 1) := by decide +kernel
theorem d_yLch_13 : decode b_yLch 13 = .ok (.i2c, 1) := by decide +kernel
theorem d_yLch_14 : decode b_yLch 14 = .ok (.ireturn, 1) := by decide +kernel
theorem d_yCh_0 : decode b_yCh 0 = .ok (.aload_n 0, 1) := by decide +kernel
theorem d_yCh_1 : decode b_yCh 1 = .ok (.invokevirtual 492, 3) := by decide +kernel
theorem d_yCh_4 : decode b_yCh 4 = .ok (.ifCond .eq 12, 3) := by decide +kernel
theorem d_yCh_7 : decode b_yCh 7 = .ok (.aload_n 0, 1) := by decide +kernel
theorem d_yCh_8 : decode b_yCh 8 = .ok (.getfield 9, 3) := by decide +kernel
theorem d_yCh_11 : decode b_yCh 11 = .ok (.iload_n 1, 1) := by decide +kernel
theorem d_yCh_12 : decode b_yCh 12 = .ok (.invokestatic 495, 3) := by decide +kernel
theorem d_yCh_15 : decode b_yCh 15 = .ok (.ireturn, 1) := by decide +kernel
theorem d_yCh_16 : decode b_yCh 16 = .ok (.aload_n 0, 1) := by decide +kernel
theorem d_yCh_17 : decode b_yCh 17 = .ok (.getfield 9, 3) := by decide +kernel
theorem d_yCh_20 : decode b_yCh 20 = .ok (.iload_n 1, 1) := by decide +kernel
theorem d_yCh_21 : decode b_yCh 21 = .ok (.invokestatic 498, 3) := by decide +kernel
theorem d_yCh_24 : decode b_yCh 24 = .ok (.ireturn, 1) := by decide +kernel
theorem sb_ok : ∀ i, i < 12 → ∀ k, k < sLens.getD i 0 → (((sByts.getD i []).getD k 0 &&& 255).toUInt32 % 65536).toInt32 = (sByts.getD i []).getD k 0 ∧ narrow .char (.int ((sByts.getD i []).getD k 0)) = .int ((sByts.getD i []).getD k 0) := by decide +kernel
theorem sl_ok : ∀ i, i < 12 → sLens.getD i 0 < 1000 ∧ nI (sLens.getD i 0) >>> ((0 : Int32) &&& 31) = nI (sLens.getD i 0) := by decide +kernel
def vPa (as : List Value) : Array Value → State → Prop := va_Pc as (fun _ => True)
theorem vPa_blind (as : List Value) : FrameBlind (vPa as) := fun a U g mk h => ⟨h.1, trivial⟩
def QcN : Array Value → State → Outcome → State → Prop := fun _ st o t => o = .returned none ∧ t.heap = st.heap
def rmS (f lo : Nat) : Room := { frames := f, cells := 0, slots := 0, locals := lo }
set_option maxRecDepth 20000 in
theorem c_yPck (l : Launch) (k n : Nat) (f : Value) (hf : f = .null ∨ ∃ t, f = .ref t) (hk : k < n) (hn : n < 2 ^ 31) : Met l yPck (.code yPck b_yPck 3 (some .int) :: vgood) (rmS 0 0) (vPa [.int (nI k), .int (nI n), f]) (QcRead (nI k)) 0 0 (fun _ => False) := by
  refine Met.ofW (cc := b_yPck) (maxL := 3) (ret := some .int) (by decide +kernel) rfl ?_
  intro p e s m args below meth c s₁ B hml hv
  obtain ⟨rfl, -⟩ := hv
  have hx := B.exec
  have hb := B.bytes
  have hl := lv_entry ([.int (nI k), .int (nI n), f]) (n := 3) (by rcases hf with rfl | ⟨t, rfl⟩ <;> exact Nat.le_of_ble_eq_true rfl)
  rw [lg_entry_eq]
  generalize (lg_sl [.int (nI k), .int (nI n), f] ++ List.replicate (3 - (lg_sl [.int (nI k), .int (nI n), f]).length) Slot.unset).toArray = ls at hl ⊢
  refine lv_iload_n hx hb d_yPck_0 rfl (lv_at hl 0 rfl) ?_
  refine lv_if_lt (tgt := 9) hx hb d_yPck_1 (by decide) (fun z => absurd z (nI_pos (by omega))) (fun _ => ?_)
  refine lv_iload_n hx hb d_yPck_4 rfl (lv_at hl 0 rfl) ?_
  refine lv_iload_n hx hb d_yPck_5 rfl (lv_at hl 1 rfl) ?_
  refine lv_icmp_lt (tgt := 16) hx hb d_yPck_6 (by decide) (fun _ => ?_) (fun z => absurd (nI_lt hk hn) z)
  refine lv_iload_n hx hb d_yPck_16 rfl (lv_at hl 0 rfl) ?_
  exact W.iret (v := nI k) hx hb B.returns (fun t ht hW => ⟨rfl, ht⟩) (fun q h => absurd h List.not_mem_nil) d_yPck_17 B.notSynchronized
set_option maxRecDepth 20000 in
theorem c_yCk (l : Launch) (E : vEv) (A : Nat → Prop) (k n : Nat) (hk : k < n) (hn : n < 2 ^ 31) : Met l yCk (.code yCk b_yCk 2 none :: vgood) (rmS 1 22) (va_Pc [.int (nI k), .int (nI n)] (fun U => vStr E A U U.heap)) QcN 0 0 (fun _ => False) := by
  refine Met.ofW (cc := b_yCk) (maxL := 2) (ret := none) (by decide +kernel) rfl ?_
  intro p e s m args below meth c s₁ B hml hv
  obtain ⟨rfl, hSt⟩ := hv
  have hx := B.exec
  have hb := B.bytes
  have hts0 := atoms_spec (ws := .code yCk b_yCk 2 none :: vgood) B.pre
  have hts : ∀ x ∈ vgood, x.before (#[.int (nI k), .int (nI n)] : Array Value) s = true := fun x hx => hts0 x (List.mem_cons_of_mem _ hx)
  have hown : s.vm.findClass "java/lang/String" = some m.cls := findClass_of_methodNamed B.named
  have hl := lv_entry ([.int (nI k), .int (nI n)]) (n := 2) (Nat.le_of_ble_eq_true rfl)
  rw [lg_entry_eq]
  generalize (lg_sl ([.int (nI k), .int (nI n)] : List Value) ++ List.replicate (2 - (lg_sl ([.int (nI k), .int (nI n)] : List Value)).length) Slot.unset).toArray = ls at hl ⊢
  have main : ∀ f : Value, (f = .null ∨ ∃ t, f = .ref t) → va_Z "jdk/internal/util/Preconditions" "SIOOBE_FORMATTER" "Ljava/util/function/BiFunction;" f A s s.heap → W p l e (headSpec (.code yCk b_yCk 2 none :: vgood) (rmS 1 22)).room s m #[.int (nI k), .int (nI n)] below meth c s.heap [] 0 0 (MQ below QcN #[.int (nI k), .int (nI n)] s 0 0 (fun _ => False)) (F0 m 0 ls []) := by
    intro f hf hZ
    refine lv_iload_n hx hb d_yCk_0 rfl (lv_at hl 0 rfl) ?_
    refine lv_iload_n hx hb d_yCk_1 rfl (lv_at hl 1 rfl) ?_
    refine va_gets (own := "java/lang/String") hx hb hZ va_S.rf hown (hts _ kf_1053) (fun _ h => h) d_yCk_2 ?_
    have cw : CallB (headSpec (.code yCk b_yCk 2 none :: vgood) (rmS 1 22)).room s (#[.int (nI k), .int (nI n)] : Array Value) "java/lang/String" 1059 yPck b_yPck 3 (some .int) (.code yPck b_yPck 3 (some .int) :: vgood) (rmS 0 0) 0 0 3 :=
      callB_of (Ts := vgood) (ws' := vgood) 3 hts (goodIn_code kc_yPck) rfl rfl rfl (hts _ kn_Preconditions) (hts _ kl_yPck_1059) ⟨by decide +kernel, by decide +kernel, by decide +kernel⟩ ⟨Nat.le_of_ble_eq_true rfl, Nat.le_of_ble_eq_true rfl⟩
    refine W.callR (W.runS (g := F0 m 5 ls [f, .int (nI n), .int (nI k)]) ⟨hx, hb, hml, hown, hts⟩ (c_yPck l k n f hf hk hn) ⟨cw, hts _ ks_yPck⟩ ⟨vPa_blind _, fun U hU hW => ⟨rfl, trivial⟩⟩ rfl rfl hl.1 rfl ?_ d_yCk_5 ⟨Nat.le_refl _, Nat.le_refl _⟩) ?_
    · exact Nat.le_of_ble_eq_true rfl
    refine lv_pop hx hb d_yCk_8 rfl ?_
    exact W.vret hx hb B.returns (fun t ht hW => ⟨rfl, ht⟩) (fun q h => absurd h List.not_mem_nil) d_yCk_9 B.notSynchronized
  rcases hSt.2.2.2 with hZ | ⟨t, hZ⟩
  · exact main .null (Or.inl rfl) hZ
  · exact main (.ref t) (Or.inr ⟨t, rfl⟩) hZ
theorem vStrB (E : vEv) (A : Nat → Prop) (as : List Value) : FrameBlind (va_Pc as (fun U => vStr E A U U.heap)) := fun a U g mk h => ⟨h.1, vStr_same (u := U) (U := U.calling g mk a) rfl h.2⟩
theorem vStr_go {E : vEv} {A : Nat → Prop} {s U : State} (h : vStr E A s s.heap) (hU : U.heap = s.heap) (hW : s.WarmedH U.vm) : vStr E A U U.heap := by
  refine ⟨?_, fun i hi => (h.2.1 i hi).warm hW, ?_, ?_⟩
  · rw [hU]; exact vk_S.moved hW.alike h.1
  · rw [hU]; exact va_Z.moved hW.alike h.2.2.1
  · rw [hU]; exact va_Zq.moved hW.alike h.2.2.2
set_option maxRecDepth 20000 in
theorem c_yLch (l : Launch) (E : vEv) (A : Nat → Prop) (i k : Nat) (hi : i < 12) (hk : k < sLens.getD i 0) : Met l yLch (.code yLch b_yLch 2 (some .char) :: vgood) (rmS 2 43) (va_Pc [.ref (eV E i), .int (nI k)] (fun U => vStr E A U U.heap)) (QcRead ((sByts.getD i []).getD k 0)) 0 0 (fun _ => False) := by
  refine Met.ofW (cc := b_yLch) (maxL := 2) (ret := some .char) (by decide +kernel) rfl ?_
  intro p e s m args below meth c s₁ B hml hv
  obtain ⟨rfl, hSt⟩ := hv
  have hx := B.exec
  have hb := B.bytes
  have hts0 := atoms_spec (ws := .code yLch b_yLch 2 (some .char) :: vgood) B.pre
  have hts : ∀ x ∈ vgood, x.before (#[.ref (eV E i), .int (nI k)] : Array Value) s = true := fun x hx => hts0 x (List.mem_cons_of_mem _ hx)
  have hown : s.vm.findClass "java/lang/StringLatin1" = some m.cls := findClass_of_methodNamed B.named
  have hl := lv_entry ([.ref (eV E i), .int (nI k)]) (n := 2) (Nat.le_of_ble_eq_true rfl)
  rw [lg_entry_eq]
  generalize (lg_sl ([.ref (eV E i), .int (nI k)] : List Value) ++ List.replicate (2 - (lg_sl ([.ref (eV E i), .int (nI k)] : List Value)).length) Slot.unset).toArray = ls at hl ⊢
  have hT := (hSt.1.1 i hi).2.2.2
  obtain ⟨hlen, -⟩ := sl_ok i hi
  refine lv_iload_n hx hb d_yLch_0 rfl (lv_at hl 1 rfl) ?_
  refine lv_aload_n hx hb d_yLch_1 rfl (lv_at hl 0 rfl) ?_
  refine va_tlen hx hb hT va_S.rf (v := nI (sLens.getD i 0)) rfl d_yLch_2 ?_
  have cw : CallB (headSpec (.code yLch b_yLch 2 (some .char) :: vgood) (rmS 2 43)).room s (#[.ref (eV E i), .int (nI k)] : Array Value) "java/lang/StringLatin1" 9 yCk b_yCk 2 none (.code yCk b_yCk 2 none :: vgood) (rmS 1 22) 0 0 2 :=
    callB_of (Ts := vgood) (ws' := vgood) 2 hts (goodIn_code kc_yCk) rfl rfl rfl (hts _ kn_String) (hts _ kl_yCk_9) ⟨by decide +kernel, by decide +kernel, by decide +kernel⟩ ⟨Nat.le_of_ble_eq_true rfl, Nat.le_of_ble_eq_true rfl⟩
  refine t_callN (W.runS (g := F0 m 3 ls [.int (nI (sLens.getD i 0)), .int (nI k)]) ⟨hx, hb, hml, hown, hts⟩ (c_yCk l E A k (sLens.getD i 0) hk (by omega)) ⟨cw, hts _ ks_yCk⟩ ⟨vStrB E A _, fun U hU hW => ⟨rfl, vStr_go hSt hU hW⟩⟩ rfl rfl hl.1 rfl (rest := []) ?_ d_yLch_3 ⟨Nat.le_refl _, Nat.le_refl _⟩) (fun st v t h => Outcome.returned.inj h.1) ?_
  · exact Nat.le_of_ble_eq_true rfl
  intro st₀ t L hL h0 hq
  obtain rfl : L = [] := List.eq_nil_iff_forall_not_mem.mpr fun q hq => hL q hq
  rw [hq.2, h0]
  refine lv_aload_n hx hb d_yLch_6 rfl (lv_at hl 0 rfl) ?_
  refine lv_iload_n hx hb d_yLch_7 rfl (lv_at hl 1 rfl) ?_
  refine va_tb hx hb hT va_S.rf (vp_in_nI hk (by omega)) (v := .int ((sByts.getD i []).getD k 0)) (by rw [nI_clamp (by omega)]) d_yLch_8 ?_
  refine lv_sipush (v := 255) hx hb d_yLch_9 (by decide +kernel) ?_
  refine lv_iand hx hb d_yLch_12 ?_
  refine lv_i2c (v := (sByts.getD i []).getD k 0) hx hb d_yLch_13 (sb_ok i hi k hk).1 ?_
  exact W.zret (ty := .char) hx hb B.returns (sb_ok i hi k hk).2 (fun t ht hW => ⟨rfl, ht⟩) (fun q h => absurd h List.not_mem_nil) d_yLch_14 B.notSynchronized
set_option maxRecDepth 20000 in
theorem c_yCoder (l : Launch) (E : vEv) (A : Nat → Prop) (i : Nat) (hi : i < 12) : Met l yCoder (.code yCoder b_yCoder 1 (some .byte) :: vgood) (rmS 0 0) (va_Pc [.ref (eAd E (1000 + i))] (fun U => vStr E A U U.heap)) (QcRead 0) 0 0 (fun _ => False) := by
  refine Met.ofW (cc := b_yCoder) (maxL := 1) (ret := some .byte) (by decide +kernel) rfl ?_
  intro p e s m args below meth c s₁ B hml hv
  obtain ⟨rfl, hSt⟩ := hv
  have hx := B.exec
  have hb := B.bytes
  have hts0 := atoms_spec (ws := .code yCoder b_yCoder 1 (some .byte) :: vgood) B.pre
  have hts : ∀ x ∈ vgood, x.before (#[.ref (eAd E (1000 + i))] : Array Value) s = true := fun x hx => hts0 x (List.mem_cons_of_mem _ hx)
  have hown : s.vm.findClass "java/lang/String" = some m.cls := findClass_of_methodNamed B.named
  have hl := lv_entry ([.ref (eAd E (1000 + i))]) (n := 1) (Nat.le_of_ble_eq_true rfl)
  rw [lg_entry_eq]
  generalize (lg_sl ([.ref (eAd E (1000 + i))] : List Value) ++ List.replicate (1 - (lg_sl ([.ref (eAd E (1000 + i))] : List Value)).length) Slot.unset).toArray = ls at hl ⊢
  refine va_gets (own := "java/lang/String") (v := .int 1) hx hb hSt.2.2.1 va_S.rf hown (hts _ kf_38) (fun _ h => h) d_yCoder_0 ?_
  refine lv_if_eq (tgt := 13) hx hb d_yCoder_3 (by decide) (fun z => absurd z (by decide)) (fun _ => ?_)
  refine lv_aload_n hx hb d_yCoder_6 rfl (lv_at hl 0 rfl) ?_
  refine vk_getf (own := "java/lang/String") hx hb (hSt.1.1 i hi).2.1 va_S.rf hown (hts _ kf_15) (fun _ h => h) d_yCoder_7 ?_
  refine lv_goto (tgt := 14) hx hb d_yCoder_10 (by decide) ?_
  exact W.zret (ty := .byte) hx hb B.returns rfl (fun t ht hW => ⟨rfl, ht⟩) (fun q h => absurd h List.not_mem_nil) d_yCoder_14 B.notSynchronized
set_option maxRecDepth 20000 in
theorem c_yIsL (l : Launch) (E : vEv) (A : Nat → Prop) (i : Nat) (hi : i < 12) : Met l yIsL (.code yIsL b_yIsL 1 (some .boolean) :: vgood) (rmS 0 0) (va_Pc [.ref (eAd E (1000 + i))] (fun U => vStr E A U U.heap)) (QcRead 1) 0 0 (fun _ => False) := by
  refine Met.ofW (cc := b_yIsL) (maxL := 1) (ret := some .boolean) (by decide +kernel) rfl ?_
  intro p e s m args below meth c s₁ B hml hv
  obtain ⟨rfl, hSt⟩ := hv
  have hx := B.exec
  have hb := B.bytes
  have hts0 := atoms_spec (ws := .code yIsL b_yIsL 1 (some .boolean) :: vgood) B.pre
  have hts : ∀ x ∈ vgood, x.before (#[.ref (eAd E (1000 + i))] : Array Value) s = true := fun x hx => hts0 x (List.mem_cons_of_mem _ hx)
  have hown : s.vm.findClass "java/lang/String" = some m.cls := findClass_of_methodNamed B.named
  have hl := lv_entry ([.ref (eAd E (1000 + i))]) (n := 1) (Nat.le_of_ble_eq_true rfl)
  rw [lg_entry_eq]
  generalize (lg_sl ([.ref (eAd E (1000 + i))] : List Value) ++ List.replicate (1 - (lg_sl ([.ref (eAd E (1000 + i))] : List Value)).length) Slot.unset).toArray = ls at hl ⊢
  refine va_gets (own := "java/lang/String") (v := .int 1) hx hb hSt.2.2.1 va_S.rf hown (hts _ kf_38) (fun _ h => h) d_yIsL_0 ?_
  refine lv_if_eq (tgt := 17) hx hb d_yIsL_3 (by decide) (fun z => absurd z (by decide)) (fun _ => ?_)
  refine lv_aload_n hx hb d_yIsL_6 rfl (lv_at hl 0 rfl) ?_
  refine vk_getf (own := "java/lang/String") hx hb (hSt.1.1 i hi).2.1 va_S.rf hown (hts _ kf_15) (fun _ h => h) d_yIsL_7 ?_
  refine lv_if_ne (tgt := 17) hx hb d_yIsL_10 (by decide) (fun z => absurd rfl z) (fun _ => ?_)
  refine lv_iconst (v := 1) hx hb d_yIsL_13 (by decide) ?_
  refine lv_goto (tgt := 18) hx hb d_yIsL_14 (by decide) ?_
  exact W.zret (ty := .boolean) hx hb B.returns rfl (fun t ht hW => ⟨rfl, ht⟩) (fun q h => absurd h List.not_mem_nil) d_yIsL_18 B.notSynchronized
theorem vStr_recv {E : vEv} {A : Nat → Prop} {s : State} {i : Nat} (h : vStr E A s s.heap) (hi : i < 12) : ∃ cell : Cell, s.heap[eAd E (1000 + i)]? = some cell ∧ cell.vm.isStatics = false ∧ s.vm.findClass "java/lang/String" = some cell.cls := by
  have z := vk_recv h.1 hi va_S.rf
  exact z
set_option maxRecDepth 20000 in
theorem c_yLen (l : Launch) : vSL l := by
  intro E i hi
  refine Met.ofW (cc := b_yLen) (maxL := 1) (ret := some .int) (by decide +kernel) rfl ?_
  intro p e s m args below meth c s₁ B hml hv
  obtain ⟨rfl, A, hSt⟩ := hv
  have hx := B.exec
  have hb := B.bytes
  have hts0 := atoms_spec (ws := .code yLen b_yLen 1 (some .int) :: vgood) B.pre
  have hts : ∀ x ∈ vgood, x.before (#[.ref (eAd E (1000 + i))] : Array Value) s = true := fun x hx => hts0 x (List.mem_cons_of_mem _ hx)
  have hown : s.vm.findClass "java/lang/String" = some m.cls := findClass_of_methodNamed B.named
  have hl := lv_entry ([.ref (eAd E (1000 + i))]) (n := 1) (Nat.le_of_ble_eq_true rfl)
  rw [lg_entry_eq]
  generalize (lg_sl ([.ref (eAd E (1000 + i))] : List Value) ++ List.replicate (1 - (lg_sl ([.ref (eAd E (1000 + i))] : List Value)).length) Slot.unset).toArray = ls at hl ⊢
  refine lv_aload_n hx hb d_yLen_0 rfl (lv_at hl 0 rfl) ?_
  refine vk_getf (own := "java/lang/String") hx hb (hSt.1.1 i hi).2.2.1 va_S.rf hown (hts _ kf_9) (fun _ h => h) d_yLen_1 ?_
  refine va_tlen hx hb (hSt.1.1 i hi).2.2.2 va_S.rf (v := nI (sLens.getD i 0)) rfl d_yLen_4 ?_
  refine lv_aload_n hx hb d_yLen_5 rfl (lv_at hl 0 rfl) ?_
  have cw : CallW (headSpec (.code yLen b_yLen 1 (some .int) :: vgood) (rmS 1 20)).room s (#[.ref (eAd E (1000 + i))] : Array Value) "java/lang/String" "java/lang/String" 335 yCoder b_yCoder 1 (some .byte) (.code yCoder b_yCoder 1 (some .byte) :: vgood) (rmS 0 0) 0 0 0 :=
    ⟨callB_of (Ts := vgood) (ws' := vgood) 0 hts (goodIn_code kc_yCoder) rfl rfl rfl (hts _ kn_String) (hts _ kl_yCoder_335) ⟨by decide +kernel, by decide +kernel, by decide +kernel⟩ ⟨Nat.le_of_ble_eq_true rfl, Nat.le_of_ble_eq_true rfl⟩, hts _ ki_yCoder, hts _ ke_yCoder⟩
  refine W.callR (W.runV (g := F0 m 6 ls [.ref (eAd E (1000 + i)), .int (nI (sLens.getD i 0))]) ⟨hx, hb, hml, hown, hts⟩ (c_yCoder l E A i hi) cw ⟨vStrB E A _, vStr_recv hSt hi, fun U hU hW => ⟨rfl, vStr_go hSt hU hW⟩⟩ rfl rfl hl.1 rfl (rest := [.int (nI (sLens.getD i 0))]) ?_ d_yLen_6 ⟨Nat.le_refl _, Nat.le_refl _⟩) ?_
  · exact Nat.le_of_ble_eq_true rfl
  refine lv_ishr hx hb d_yLen_9 ?_
  rw [(sl_ok i hi).2]
  exact W.iret hx hb B.returns (fun t ht hW => ⟨rfl, ht⟩) (fun q h => absurd h List.not_mem_nil) d_yLen_10 B.notSynchronized
set_option maxRecDepth 20000 in
theorem c_yCh (l : Launch) : vSC l := by
  intro E i k hi hk
  refine Met.ofW (cc := b_yCh) (maxL := 2) (ret := some .char) (by decide +kernel) rfl ?_
  intro p e s m args below meth c s₁ B hml hv
  obtain ⟨rfl, A, hSt⟩ := hv
  have hx := B.exec
  have hb := B.bytes
  have hts0 := atoms_spec (ws := .code yCh b_yCh 2 (some .char) :: vgood) B.pre
  have hts : ∀ x ∈ vgood, x.before (#[.ref (eAd E (1000 + i)), .int (nI k)] : Array Value) s = true := fun x hx => hts0 x (List.mem_cons_of_mem _ hx)
  have hown : s.vm.findClass "java/lang/String" = some m.cls := findClass_of_methodNamed B.named
  have hl := lv_entry ([.ref (eAd E (1000 + i)), .int (nI k)]) (n := 2) (Nat.le_of_ble_eq_true rfl)
  rw [lg_entry_eq]
  generalize (lg_sl ([.ref (eAd E (1000 + i)), .int (nI k)] : List Value) ++ List.replicate (2 - (lg_sl ([.ref (eAd E (1000 + i)), .int (nI k)] : List Value)).length) Slot.unset).toArray = ls at hl ⊢
  refine lv_aload_n hx hb d_yCh_0 rfl (lv_at hl 0 rfl) ?_
  have cw : CallW (headSpec (.code yCh b_yCh 2 (some .char) :: vgood) (rmS 3 64)).room s (#[.ref (eAd E (1000 + i)), .int (nI k)] : Array Value) "java/lang/String" "java/lang/String" 492 yIsL b_yIsL 1 (some .boolean) (.code yIsL b_yIsL 1 (some .boolean) :: vgood) (rmS 0 0) 0 0 0 :=
    ⟨callB_of (Ts := vgood) (ws' := vgood) 0 hts (goodIn_code kc_yIsL) rfl rfl rfl (hts _ kn_String) (hts _ kl_yIsL_492) ⟨by decide +kernel, by decide +kernel, by decide +kernel⟩ ⟨Nat.le_of_ble_eq_true rfl, Nat.le_of_ble_eq_true rfl⟩, hts _ ki_yIsL, hts _ ke_yIsL⟩
  refine W.callR (W.runV (g := F0 m 1 ls [.ref (eAd E (1000 + i))]) ⟨hx, hb, hml, hown, hts⟩ (c_yIsL l E A i hi) cw ⟨vStrB E A _, vStr_recv hSt hi, fun U hU hW => ⟨rfl, vStr_go hSt hU hW⟩⟩ rfl rfl hl.1 rfl (rest := []) ?_ d_yCh_1 ⟨Nat.le_refl _, Nat.le_refl _⟩) ?_
  · exact Nat.le_of_ble_eq_true rfl
  refine W.eq (g2 := F0 m 4 ls [.int 1]) rfl ?_
  refine lv_if_eq (tgt := 16) hx hb d_yCh_4 (by decide) (fun z => absurd z (by decide)) (fun _ => ?_)
  refine lv_aload_n hx hb d_yCh_7 rfl (lv_at hl 0 rfl) ?_
  refine vk_getf (own := "java/lang/String") hx hb (hSt.1.1 i hi).2.2.1 va_S.rf hown (hts _ kf_9) (fun _ h => h) d_yCh_8 ?_
  refine lv_iload_n hx hb d_yCh_11 rfl (lv_at hl 1 rfl) ?_
  have cw2 : CallB (headSpec (.code yCh b_yCh 2 (some .char) :: vgood) (rmS 3 64)).room s (#[.ref (eAd E (1000 + i)), .int (nI k)] : Array Value) "java/lang/String" 495 yLch b_yLch 2 (some .char) (.code yLch b_yLch 2 (some .char) :: vgood) (rmS 2 43) 0 0 2 :=
    callB_of (Ts := vgood) (ws' := vgood) 2 hts (goodIn_code kc_yLch) rfl rfl rfl (hts _ kn_StringLatin1) (hts _ kl_yLch_495) ⟨by decide +kernel, by decide +kernel, by decide +kernel⟩ ⟨Nat.le_of_ble_eq_true rfl, Nat.le_of_ble_eq_true rfl⟩
  refine W.callR (W.runS (g := F0 m 12 ls [.int (nI k), .ref (eV E i)]) ⟨hx, hb, hml, hown, hts⟩ (c_yLch l E A i k hi hk) ⟨cw2, hts _ ks_yLch⟩ ⟨vStrB E A _, fun U hU hW => ⟨rfl, vStr_go hSt hU hW⟩⟩ rfl rfl hl.1 rfl (rest := []) ?_ d_yCh_12 ⟨Nat.le_refl _, Nat.le_refl _⟩) ?_
  · exact Nat.le_of_ble_eq_true rfl
  exact W.zret (ty := .char) hx hb B.returns (sb_ok i hi k hk).2 (fun t ht hW => ⟨rfl, ht⟩) (fun q h => absurd h List.not_mem_nil) d_yCh_15 B.notSynchronized
