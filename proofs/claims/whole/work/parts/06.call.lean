/-! Calls, and the whole step -/
def vPc (E : vEv) (w : vW) (vs : List Value) : Array Value → State → Prop := va_Pc (vs.map (vcv (eAd E))) (fun U => va_P (eD E) vwCl (vws (eAd E) (eI E) w) U.heap ∧ va_D (fun _ => True) (vws (eAd E) (eI E) w) ∧ va_K (eD E) vwCl [(eI E, .int)] U ∧ U.heap.size + 1 = eS E + w.1.length ∧ va_X (eAd E 0) (eL E) (eX E) U U.heap ∧ eAd E 0 < U.heap.size ∧ ¬ va_A (vws (eAd E) (eI E) w) U.heap.size (eAd E 0) ∧ vStr E (va_A (vws (eAd E) (eI E) w) U.heap.size) U U.heap ∧ vNst U ∧ w.1[0]? = some (.inl (eL E)) ∧ w.2 0 = eX E ∧ 1 ≤ w.1.length ∧ ∀ k, 0 < k → k < 1000 → eAd E k + 1 = eS E + k)
def vA1 (E : vEv) (w : vW) : Nat → Prop := va_A (vws (eAd E) (eI E) w) (eS E + w.1.length - 1)
def vQc (E : vEv) (w w' : vW) (r : Option Value) : Array Value → State → Outcome → State → Prop := fun _ st oc t => oc = .returned (r.map (vcv (eAd E))) ∧ va_P (eD E) vwCl (vws (eAd E) (eI E) w') t.heap ∧ va_D (vA1 E w) (vws (eAd E) (eI E) w') ∧ va_F (vA1 E w) st t ∧ w'.1[0]? = some (.inl (eL E)) ∧ w'.2 0 = eX E ∧ w.1.length ≤ w'.1.length ∧ vssz w.1 ≤ vssz w'.1
def vRm (t : Nat) (w w' : vW) : Room := { frames := mF t, cells := w'.1.length - w.1.length, slots := vssz w'.1 - vssz w.1, locals := mW t }
def vMet (l : Launch) (E : vEv) (t : Nat) (as : List Value) (w w' : vW) (r : Option Value) : Prop :=
  Met l (mN t) (.code (mN t) (mB t) (mL t) (mR t) :: vgood) (vRm t w w') (vPc E w as) (vQc E w w' r) (w'.1.length - w.1.length) (vssz w'.1 - vssz w.1) (vA1 E w)
theorem vStr_same {E : vEv} {A : Nat → Prop} {u U : State} {H : Heap} (hv : U.vm = u.vm) (h : vStr E A u H) : vStr E A U H := ⟨vk_S.moved (by rw [hv]; exact Vm.Alike.refl _) h.1, fun i hi => vk_R.same hv (h.2.1 i hi), va_Z.moved (by rw [hv]; exact Vm.Alike.refl _) h.2.2.1, va_Zq.moved (by rw [hv]; exact Vm.Alike.refl _) h.2.2.2⟩
theorem vNst_same {u U : State} (hv : U.vm = u.vm) (h : vNst u) : vNst U := fun x hx => va_Nw.same (by
  have := (List.mem_filter.mp hx).2
  cases x <;> first | rfl | cases this) hv.symm (h x hx)
theorem vNst_warm {s U : State} (hW : s.WarmedH U.vm) (h : vNst s) : vNst U := fun x hx => by
  have hn := (List.mem_filter.mp hx).2
  have hz := h x hx
  cases x <;> first | exact va_Nw.warmF hW hz | exact va_Nw.warmM hW hz | cases hn
theorem vPc_blind (E : vEv) (w : vW) (vs : List Value) : FrameBlind (vPc E w vs) := fun a U g mk h => by
  obtain ⟨h1, hP, hD, hK, hs, hX, hb, hA, hS, hN, hz⟩ := h
  exact ⟨h1, hP, hD, va_K.moved (u := U) (U := U.calling g mk a) (Vm.Alike.refl U.vm) hK, hs, va_X.moved (u := U) (U := U.calling g mk a) (Vm.Alike.refl U.vm) hX, hb, hA, vStr_same (u := U) (U := U.calling g mk a) rfl hS, vNst_same (u := U) (U := U.calling g mk a) rfl hN, hz⟩
section VCALL
variable {p : Program} {l : Launch} {e : Env} {Rm : Room} {s : State} {mid : MethodId} {args : Array Value} {below : List Frame} {meth : Method} {c : Code} {Q : State → Prop} {E : vEv} {A : Nat → Prop} {l0 n0 m pc : Nat} {ls st : List Value} {w : vW}
theorem vRun_go {H : Heap} {locs : List Loc} {cells slots mc ms : Nat} {lsC : Array Slot} {st0 rest : List Value} {Qa : State → Outcome → State → Prop} {free : Addr → Prop} (hr : va_Run p l e Rm s mid args below meth c H locs cells slots mc ms (F0 mid pc lsC st0) rest Qa free)
    (kk : ∀ (v : Option Value) (st₀ t : State) (H1 : Heap) (L : List Loc), st₀.heap = H → t.heap = H1 → Qa st₀ (.returned v) t → (∀ q ∈ L, free q.base) → W p l e Rm s mid args below meth c H1 (locs ++ L) (cells + mc) (slots + ms) Q (F0 mid (pc + 3) lsC (v.toList ++ rest))) : W p l e Rm s mid args below meth c H locs cells slots Q (F0 mid pc lsC st0) := by
  intro T hT X
  obtain ⟨v, st₀, t, T', L, h0, X', hL, e1, e2, hQ, st⟩ := hr T hT X
  obtain ⟨t2, a1, b1⟩ := kk v st₀ t T'.heap L h0 e1.symm hQ hL T' rfl X'
  exact ⟨t2, st t2 a1, b1⟩
/-- what a call asks -/
theorem vPre {H : Heap} {locs : List Loc} (C : vCtx p s mid args meth c E A l0 m) (hr : vRp E A s.heap l0 n0 w H locs) (hsz : H.size + 1 = eS E + w.1.length) (as : List Value) (U : State) (hU : U.heap = H) (hW : s.WarmedH U.vm) : vPc E w as (as.map (vcv (eAd E))).toArray U := by
  obtain ⟨hx, hb, hml, hown, hts, hK, hX, hbl, hbA, hA, hSt, hN, hnm, hlay, hs0, hl0⟩ := C
  obtain ⟨hP, hD, hS, hz0, hz1, hz2, hz3⟩ := hr
  have hfree : ∀ q, va_A (vws (eAd E) (eI E) w) U.heap.size q → A q := by
    rintro q (⟨k, e, hk⟩ | hq)
    · exact hD.2 k _ hk
    · exact hA q (Nat.le_trans hS.1 (by rw [← hU]; exact hq))
  refine ⟨rfl, by rw [hU]; exact hP, hD.weaken (fun _ _ _ _ => trivial), va_K.moved hW.alike hK, by rw [hU]; exact hsz, ?_, by rw [hU]; exact Nat.lt_of_lt_of_le hbl hS.1, fun z => hbA (hfree _ z), ⟨?_, fun i hi => (hSt.2.1 i hi).warm hW, ?_, ?_⟩, vNst_warm hW hN, hz0, hz1, by omega, hlay⟩
  · rw [hU]
    exact va_X.moved hW.alike (hX.kept (hS.2.1 _ hbl hbA))
  · refine vk_S.narrow ?_ hfree
    rw [hU]
    exact vk_S.moved hW.alike (vk_S.kept hSt.1 hS.2.1)
  · refine va_Z.narrow ?_ hfree
    rw [hU]
    exact va_Z.moved hW.alike (va_Z.kept hSt.2.2.1 hS.2.1)
  · refine va_Zq.narrow ?_ hfree
    rw [hU]
    exact va_Zq.moved hW.alike (va_Zq.kept hSt.2.2.2 hS.2.1)
theorem vBack {lsC : Array Slot} {H : Heap} {locs : List Loc} {w' : vW} {r : Option Value} {rest : List Value} (C : vCtx p s mid args meth c E A l0 m) (hl : vLk m (eAd E) lsC ls) (hr : vRp E A s.heap l0 n0 w H locs) (hsz : H.size + 1 = eS E + w.1.length) {a : Array Value} {st0 : List Value}
    (hrun : va_Run p l e Rm s mid args below meth c H locs (w.1.length - l0) (vssz w.1 - n0) (w'.1.length - w.1.length) (vssz w'.1 - vssz w.1) (F0 mid pc lsC st0) (rest.map (vcv (eAd E))) (vQc E w w' r a) (vA1 E w)) (k : vGo p l e Rm s mid args below meth c Q E A l0 n0 m (pc + 3) ls (vtl r rest) w') :
    W p l e Rm s mid args below meth c H locs (w.1.length - l0) (vssz w.1 - n0) Q (F0 mid pc lsC st0) := by
  obtain ⟨hx, hb, hml, hown, hts, hK, hX, hbl, hbA, hA, hSt, hN, hnm, hlay, hs0, hl0⟩ := C
  obtain ⟨hP, hD, hS, hz0, hz1, hz2, hz3⟩ := hr
  have hfree : ∀ q, vA1 E w q → A q := by
    rintro q (⟨k, e, hk⟩ | hq)
    · exact hD.2 k _ hk
    · exact hA q (Nat.le_trans hS.1 (by omega))
  refine vRun_go hrun fun v st₀ t H1 L h0 h1 hq hL => ?_
  obtain ⟨q1, q2, q3, ⟨q4, q5⟩, q6, q7, q8, q9⟩ := hq
  cases q1
  rw [h0, h1] at q4 q5
  rw [h1] at q2
  have k2 := k lsC H1 (locs ++ L) hl ⟨q2, q3.weaken (fun _ q _ z => hfree _ z), ⟨Nat.le_trans hS.1 q4, fun q g1 g2 => by
      rw [q5 q (Nat.lt_of_lt_of_le g1 hS.1) (fun z => g2 (hfree q z))]
      exact hS.2.1 q g1 g2, fun q hq => by
      rcases List.mem_append.mp hq with h | h
      · exact hS.2.2 q h
      · exact hfree _ (hL q h)⟩, q6, q7, by omega, by omega⟩
  have e1 : (Option.map (vcv (eAd E)) r).toList ++ rest.map (vcv (eAd E)) = (vtl r rest).map (vcv (eAd E)) := by cases r <;> rfl
  rw [e1]
  exact W.cs (by omega) (by omega) k2
theorem vcall_eq {t pc' t' : Nat} {as : List Value} {q : vS} (h : vcall m t pc' ls st w = some (.inr (.inl (t', as, q)))) : t' = t ∧ as = (st.take (mA t)).reverse ∧ q = (pc', ls, st.drop (mA t), w) ∧ as.length = mA t ∧ vcats (st.drop (mA t)) ≤ 8 ∧ mF t + 1 ≤ mF m ∧ 19 + mL t + mW t ≤ mW m ∧ (mG t = true ∨ as.all (fun v => !vlong v) = true) ∧ vcats as ≤ mL t ∧ (mC t = 99 ∨ ∃ r as' fs, as = .ref r :: as' ∧ r ≠ 0 ∧ w.1[r]? = some (.inr (mC t, fs))) := by
  unfold vcall at h
  simp only at h
  split at h
  · rename_i hc
    obtain ⟨c1, c2, c3, c4, c5, c6⟩ := hc
    split at h
    · rename_i h99
      have hh := Sum.inl.inj (Sum.inr.inj (Option.some.inj h))
      obtain ⟨rfl, hh2⟩ := Prod.mk.inj hh
      obtain ⟨rfl, rfl⟩ := Prod.mk.inj hh2
      exact ⟨rfl, rfl, rfl, c1, c2, c3, c4, c5, c6, Or.inl h99⟩
    · split at h
      · rename_i r as' has
        split at h
        · rename_i c1' fs hw
          split at h
          · rename_i hcc
            have hh := Sum.inl.inj (Sum.inr.inj (Option.some.inj h))
            obtain ⟨rfl, hh2⟩ := Prod.mk.inj hh
            obtain ⟨hh3, rfl⟩ := Prod.mk.inj hh2
            subst hh3
            exact ⟨rfl, rfl, rfl, c1, c2, c3, c4, c5, c6, Or.inr ⟨r, as', fs, has, hcc.2, by rw [← hcc.1]; exact hw⟩⟩
          · cases h
        · cases h
      · cases h
  · cases h
theorem vcallB {o idx t n : Nat} {w' : vW} (C : vCtx p s mid args meth c E A l0 m) (F : tFact t) (hl : Cond.methodLink (oN (mO m)) idx (mN t) ∈ vgood) (hn : (parseMethodDescriptor (mN t).desc).map (fun d => d.parameters.length) = some n) (h1 : mF t + 1 ≤ Rm.frames) (h2 : 19 + mL t + mW t ≤ Rm.locals) :
    CallB Rm s args (oN (mO m)) idx (mN t) (mB t) (mL t) (mR t) (.code (mN t) (mB t) (mL t) (mR t) :: vgood) (vRm t w w') (w'.1.length - w.1.length) (vssz w'.1 - vssz w.1) n := by
  obtain ⟨hx, hb, hml, hown, hts, -⟩ := C
  obtain ⟨f1, f2, ⟨f3, f4, f5⟩, f6, f7, f8⟩ := F
  refine callB_of (Ts := vgood) (ws' := vgood) n hts (fun x hx => ?_) rfl rfl rfl (hts _ f2) (hts _ hl) ⟨f3, f4, hn⟩ ⟨h1, by show 8 + (mL t + 11) + mW t ≤ _; omega⟩
  rcases List.mem_cons.mp hx with rfl | hx
  · exact ⟨f1, good_of_word (vgood_good _ f1)⟩
  · exact vgood_self _ hx
theorem vcallN {idx t n : Nat} {w' : vW} (C : vCtx p s mid args meth c E A l0 m) (F : tFact t) (hl : Cond.methodLinkNest (oN (mO m)) idx (mN t) "HeirHalves" ∈ vnest) (hn : (parseMethodDescriptor (mN t).desc).map (fun d => d.parameters.length) = some n) (h1 : mF t + 1 ≤ Rm.frames) (h2 : 19 + mL t + mW t ≤ Rm.locals) :
    va_CN Rm s args (oN (mO m)) idx (mN t) "HeirHalves" (mB t) (mL t) (mR t) (.code (mN t) (mB t) (mL t) (mR t) :: vgood) (vRm t w w') (w'.1.length - w.1.length) (vssz w'.1 - vssz w.1) n := by
  obtain ⟨hx, hb, hml, hown, hts, hK, hX, hbl, hbA, hA, hSt, hN, hnm, hlay, hs0, hl0⟩ := C
  obtain ⟨f1, f2, ⟨f3, f4, f5⟩, f6, f7, f8⟩ := F
  refine va_cnB (Ts := vgood) (ws' := vgood) n hts (fun x hx => ?_) rfl rfl rfl (hN _ hl) (hts _ f2) ⟨f3, f4, hn⟩ ⟨h1, by show 8 + (mL t + 11) + mW t ≤ _; omega⟩
  rcases List.mem_cons.mp hx with rfl | hx
  · exact ⟨f1, good_of_word (vgood_good _ f1)⟩
  · exact vgood_self _ hx
theorem take_stack (st : List Value) (n : Nat) (ad : Nat → Nat) : st.map (vcv ad) = (((st.take n).reverse).map (vcv ad)).reverse ++ (st.drop n).map (vcv ad) := by
  rw [← List.map_reverse, List.reverse_reverse, ← List.map_append, List.take_append_drop]
theorem vs_callS {idx t : Nat} {w' : vW} {r : Option Value} {as rest : List Value} (C : vCtx p s mid args meth c E A l0 m) (hd : decode (mB m) pc = .ok (.invokestatic idx, 3)) (F : tFact t) (h99 : mC t = 99)
    (hk : (Cond.methodLink (oN (mO m)) idx (mN t) ∈ vgood ∧ Cond.static (mN t) ∈ vgood) ∨ (Cond.methodLinkNest (oN (mO m)) idx (mN t) "HeirHalves" ∈ vnest ∧ Cond.static (mN t) ∈ vgood))
    (has : as = (st.take (mA t)).reverse) (hal : as.length = mA t) (hrest : rest = st.drop (mA t)) (hcr : vcats rest ≤ 8) (h1 : mF t + 1 ≤ Rm.frames) (h2 : 19 + mL t + mW t ≤ Rm.locals)
    (hc1 : w.1.length - l0 + (w'.1.length - w.1.length) ≤ Rm.cells) (hc2 : vssz w.1 - n0 + (vssz w'.1 - vssz w.1) ≤ Rm.slots) (hlen : w.1.length ≤ 1000) (M : vMet l E t as w w' r) (k : vGo p l e Rm s mid args below meth c Q E A l0 n0 m (pc + 3) ls (vtl r rest) w') : vGo p l e Rm s mid args below meth c Q E A l0 n0 m pc ls st w := by
  intro lsC H locs hl hr
  refine W_size fun hH => ?_
  have hsz := vRp_size C hr hlen hH
  have C0 := C
  obtain ⟨hx, hb, hml, hown, hts, hK, hX, hbl, hbA, hA, hSt, hN, hnm, hlay, hs0, hl0⟩ := C
  have fix : CallFix p mid c (mB m) (mL m) s args vgood (oN (mO m)) := ⟨hx, hb, hml, hown, hts⟩
  have hn : (parseMethodDescriptor (mN t).desc).map (fun d => d.parameters.length) = some (mA t) := by
    have := F.2.2.1.2.2
    rw [if_pos h99] at this
    exact this
  have hp : PreS s H (vPc E w as) (as.map (vcv (eAd E))) := ⟨vPc_blind E w as, fun U hU hW => vPre C0 hr hsz as U hU hW⟩
  have hst : st.map (vcv (eAd E)) = (as.map (vcv (eAd E))).reverse ++ rest.map (vcv (eAd E)) := by rw [has, hrest]; exact take_stack st (mA t) (eAd E)
  have hroom : 2 * (F0 mid pc lsC (st.map (vcv (eAd E)))).monitorRoom + ((rest.map (vcv (eAd E))).map fun v => v.category).sum ≤ 8 := by
    rw [F0_mon, vcv_cats]
    omega
  rcases hk with ⟨k1, k2⟩ | ⟨k1, k2⟩
  · exact vBack C0 hl hr hsz (va_runS fix M ⟨vcallB (o := 0) C0 F k1 hn h1 h2, hts _ k2⟩ hp rfl (by rw [List.length_map]; exact hal) hl.1.1 hst hroom hd ⟨hc1, hc2⟩) k
  · exact vBack C0 hl hr hsz (va_runSN fix M ⟨vcallN C0 F k1 hn h1 h2, hts _ k2, trivial⟩ hp rfl (by rw [List.length_map]; exact hal) hl.1.1 hst hroom hd ⟨hc1, hc2⟩) k
theorem vs_callV {idx t : Nat} {w' : vW} {r : Option Value} {as as' rest : List Value} {rr : Nat} {fs : List (Option Value)} (C : vCtx p s mid args meth c E A l0 m) (F : tFact t) (h99 : mC t ≠ 99)
    (hk : (decode (mB m) pc = .ok (.invokevirtual idx, 3) ∧ Cond.methodLink (oN (mO m)) idx (mN t) ∈ vgood ∧ Cond.instanceMethod (mN t) ∈ vgood ∧ Cond.selects (mN t).cls (mN t) (mN t) ∈ vgood) ∨ (decode (mB m) pc = .ok (.invokevirtual idx, 3) ∧ Cond.methodLinkNest (oN (mO m)) idx (mN t) "HeirHalves" ∈ vnest ∧ Cond.instanceMethod (mN t) ∈ vgood ∧ Cond.selects (mN t).cls (mN t) (mN t) ∈ vgood) ∨ (decode (mB m) pc = .ok (.invokespecial idx, 3) ∧ Cond.methodLink (oN (mO m)) idx (mN t) ∈ vgood ∧ Cond.instanceMethod (mN t) ∈ vgood ∧ (mN t).name = "<init>" ∧ mR t = none))
    (has : as = (st.take (mA t)).reverse) (hal : as.length = mA t) (hrest : rest = st.drop (mA t)) (hcr : vcats rest ≤ 8) (h1 : mF t + 1 ≤ Rm.frames) (h2 : 19 + mL t + mW t ≤ Rm.locals) (hrr : as = .ref rr :: as') (h0 : rr ≠ 0) (hw : w.1[rr]? = some (.inr (mC t, fs)))
    (hc1 : w.1.length - l0 + (w'.1.length - w.1.length) ≤ Rm.cells) (hc2 : vssz w.1 - n0 + (vssz w'.1 - vssz w.1) ≤ Rm.slots) (hlen : w.1.length ≤ 1000) (M : vMet l E t as w w' r) (k : vGo p l e Rm s mid args below meth c Q E A l0 n0 m (pc + 3) ls (vtl r rest) w') : vGo p l e Rm s mid args below meth c Q E A l0 n0 m pc ls st w := by
  intro lsC H locs hl hr
  refine W_size fun hH => ?_
  have hsz := vRp_size C hr hlen hH
  have C0 := C
  obtain ⟨hx, hb, hml, hown, hts, hK, hX, hbl, hbA, hA, hSt, hN, hnm, hlay, hs0, hl0⟩ := C
  have fix : CallFix p mid c (mB m) (mL m) s args vgood (oN (mO m)) := ⟨hx, hb, hml, hown, hts⟩
  obtain ⟨hpos, T, N, hcl⟩ := F.2.2.2.2.2 h99
  have hn : (parseMethodDescriptor (mN t).desc).map (fun d => d.parameters.length) = some (mA t - 1) := by
    have := F.2.2.1.2.2
    rw [if_neg h99] at this
    exact this
  have hmap : as.map (vcv (eAd E)) = .ref (eAd E rr) :: as'.map (vcv (eAd E)) := by rw [hrr]; rfl
  have hpre := fun U hU hW => vPre C0 hr hsz as U hU hW
  rw [hmap] at hpre
  have hp : PreV s H (mN t).cls (eAd E rr) (vPc E w as) (as'.map (vcv (eAd E))) := ⟨vPc_blind E w as, va_recv hK hr.1 hcl (vws_get (ad := eAd E) (cI := eI E) (w := w) h0 hw), hpre⟩
  have hpS : PreS s H (vPc E w as) (.ref (eAd E rr) :: as'.map (vcv (eAd E))) := ⟨vPc_blind E w as, hpre⟩
  have hst : st.map (vcv (eAd E)) = (as'.map (vcv (eAd E))).reverse ++ .ref (eAd E rr) :: rest.map (vcv (eAd E)) := by
    have := take_stack st (mA t) (eAd E)
    rw [← has, ← hrest, hmap] at this
    rw [this]
    simp
  have hlen1 : (as'.map (vcv (eAd E))).length = mA t - 1 := by
    rw [List.length_map]
    have : as.length = as'.length + 1 := by rw [hrr]; rfl
    omega
  have hroom : 2 * (F0 mid pc lsC (st.map (vcv (eAd E)))).monitorRoom + ((rest.map (vcv (eAd E))).map fun v => v.category).sum ≤ 8 := by
    rw [F0_mon, vcv_cats]
    omega
  rcases hk with ⟨hd, k1, k2, k3⟩ | ⟨hd, k1, k2, k3⟩ | ⟨hd, k1, k2, k3, k4⟩
  · exact vBack C0 hl hr hsz (va_runV fix M ⟨vcallB (o := 0) C0 F k1 hn h1 h2, hts _ k2, hts _ k3⟩ hp rfl hlen1 hl.1.1 hst hroom hd ⟨hc1, hc2⟩) k
  · exact vBack C0 hl hr hsz (va_runVN fix M ⟨vcallN C0 F k1 hn h1 h2, hts _ k2, hts _ k3⟩ hp rfl hlen1 hl.1.1 hst hroom hd ⟨hc1, hc2⟩) k
  · have cb := vcallB (Rm := Rm) (args := args) (o := 0) (w := w) (w' := w') C0 F k1 hn h1 h2
    have M2 := M
    unfold vMet at M2
    rw [k4] at cb M2
    exact vBack C0 hl hr hsz (va_runI fix M2 ⟨cb, k3, hts _ k2⟩ hpS rfl hlen1 hl.1.1 hst hroom hd ⟨hc1, hc2⟩) k
end VCALL
