/-! The small machine is the machine: an instruction at a time -/
abbrev vEv : Type := (Nat → Nat) × (Nat → Nat) × ClassId × va_G × Nat × Nat × (Nat → Int32)
def eAd (E : vEv) : Nat → Nat := E.1
def eV (E : vEv) : Nat → Nat := E.2.1
def eI (E : vEv) : ClassId := E.2.2.1
def eD (E : vEv) : va_G := E.2.2.2.1
def eS (E : vEv) : Nat := E.2.2.2.2.1
def eL (E : vEv) : Nat := E.2.2.2.2.2.1
def eX (E : vEv) : Nat → Int32 := E.2.2.2.2.2.2
def vStr (E : vEv) (A : Nat → Prop) (s : State) (H : Heap) : Prop := vk_S 12 sLens sByts (fun i => eAd E (1000 + i)) (eV E) A s H ∧ (∀ i, i < 12 → vk_R "HeirHalves$Tape" (sTab.getD i (0, "")).1 (sTab.getD i (0, "")).2 (eAd E (1000 + i)) s) ∧ va_Z "java/lang/String" "COMPACT_STRINGS" "Z" (.int 1) A s H ∧ va_Zq "jdk/internal/util/Preconditions" "SIOOBE_FORMATTER" "Ljava/util/function/BiFunction;" A s H
def vNst (U : State) : Prop := ∀ w ∈ vnest, va_Nw w U
def vCtx (p : Program) (s : State) (mid : MethodId) (args : Array Value) (meth : Method) (c : Code) (E : vEv) (A : Nat → Prop) (l0 m : Nat) : Prop :=
  p.tables.exec = Jvm.exec ∧ c.code = mB m ∧ c.maxLocals = mL m ∧ s.vm.findClass (oN (mO m)) = some mid.cls ∧ (∀ w ∈ vgood, w.before args s = true) ∧ va_K (eD E) vwCl [(eI E, .int)] s ∧ va_X (eAd E 0) (eL E) (eX E) s s.heap ∧ eAd E 0 < s.heap.size ∧ ¬ A (eAd E 0) ∧ (∀ q, s.heap.size ≤ q → A q) ∧ vStr E A s s.heap ∧ vNst s ∧ meth.name = (mN m).name ∧ (∀ k, 0 < k → k < 1000 → eAd E k + 1 = eS E + k) ∧ s.heap.size + 1 = eS E + l0 ∧ 1 ≤ l0
def vRp (E : vEv) (A : Nat → Prop) (H0 : Heap) (l0 n0 : Nat) (w : vW) (H : Heap) (locs : List Loc) : Prop :=
  va_P (eD E) vwCl (vws (eAd E) (eI E) w) H ∧ va_D A (vws (eAd E) (eI E) w) ∧ va_S A H0 H locs ∧ w.1[0]? = some (.inl (eL E)) ∧ w.2 0 = eX E ∧ l0 ≤ w.1.length ∧ n0 ≤ vssz w.1
def vGo (p : Program) (l : Launch) (e : Env) (Rm : Room) (s : State) (mid : MethodId) (args : Array Value) (below : List Frame) (meth : Method) (c : Code) (Q : State → Prop) (E : vEv) (A : Nat → Prop) (l0 n0 m pc : Nat) (ls st : List Value) (w : vW) : Prop :=
  ∀ (lsC : Array Slot) (H : Heap) (locs : List Loc), vLk m (eAd E) lsC ls → vRp E A s.heap l0 n0 w H locs → W p l e Rm s mid args below meth c H locs (w.1.length - l0) (vssz w.1 - n0) Q (F0 mid pc lsC (st.map (vcv (eAd E))))
section VSIM
variable {p : Program} {l : Launch} {e : Env} {Rm : Room} {s : State} {mid : MethodId} {args : Array Value} {below : List Frame} {meth : Method} {c : Code} {Q : State → Prop} {E : vEv} {A : Nat → Prop} {l0 n0 m pc : Nat} {ls st : List Value} {w : vW} {q : vS}
theorem vnx_eq {pc' : Nat} {ls' st' : List Value} {w' : vW} (h : vnx pc' ls' st' w' = some (.inl q)) : q = (pc', ls', st', w') := by
  unfold vnx at h
  exact (Sum.inl.inj (Option.some.inj h)).symm
theorem vjmp_eq {off : Int} {ls' st' : List Value} {w' : vW} (h : vjmp pc off ls' st' w' = some (.inl q)) : ∃ tgt : Nat, (pc : Int) + off = (tgt : Int) ∧ q = (tgt, ls', st', w') := by
  unfold vjmp at h
  by_cases hz : 0 ≤ (pc : Int) + off
  · rw [if_pos hz] at h
    exact ⟨((pc : Int) + off).toNat, (Int.toNat_of_nonneg hz).symm, vnx_eq h⟩
  · rw [if_neg hz] at h; cases h
/-- a step with the same world and locals -/
theorem vs_st {st st' : List Value} {pc' : Nat} (k : vGo p l e Rm s mid args below meth c Q E A l0 n0 m pc' ls st' w) (row : ∀ (lsC : Array Slot) (H : Heap) (locs : List Loc) (cells slots : Nat), W p l e Rm s mid args below meth c H locs cells slots Q (F0 mid pc' lsC (st'.map (vcv (eAd E)))) → W p l e Rm s mid args below meth c H locs cells slots Q (F0 mid pc lsC (st.map (vcv (eAd E))))) : vGo p l e Rm s mid args below meth c Q E A l0 n0 m pc ls st w :=
  fun lsC H locs hl hr => row lsC H locs _ _ (k lsC H locs hl hr)
theorem vs_bin {f : Int32 → Int32 → Int32} (h : vbin f pc ls st w = some (.inl q)) (k : vGo p l e Rm s mid args below meth c Q E A l0 n0 m q.1 q.2.1 q.2.2.1 q.2.2.2) (row : ∀ (x y : Int32) (lsC : Array Slot) (H : Heap) (locs : List Loc) (cells slots : Nat) (rest : List Value), W p l e Rm s mid args below meth c H locs cells slots Q (F0 mid (pc + 1) lsC (.int (f x y) :: rest)) → W p l e Rm s mid args below meth c H locs cells slots Q (F0 mid pc lsC (.int y :: .int x :: rest))) : vGo p l e Rm s mid args below meth c Q E A l0 n0 m pc ls st w := by
  unfold vbin at h
  split at h
  · rename_i y x r
    rw [vnx_eq h] at k
    exact vs_st k fun lsC H locs cells slots kk => row x y lsC H locs cells slots _ kk
  · cases h
theorem vs_div {f : Int32 → Int32 → Int32} (h : vdiv f pc ls st w = some (.inl q)) (k : vGo p l e Rm s mid args below meth c Q E A l0 n0 m q.1 q.2.1 q.2.2.1 q.2.2.2) (row : ∀ (x y : Int32) (lsC : Array Slot) (H : Heap) (locs : List Loc) (cells slots : Nat) (rest : List Value), ¬ y = 0 → W p l e Rm s mid args below meth c H locs cells slots Q (F0 mid (pc + 1) lsC (.int (f x y) :: rest)) → W p l e Rm s mid args below meth c H locs cells slots Q (F0 mid pc lsC (.int y :: .int x :: rest))) : vGo p l e Rm s mid args below meth c Q E A l0 n0 m pc ls st w := by
  unfold vdiv at h
  split at h
  · rename_i y x r
    by_cases hy : y = 0
    · rw [if_pos hy] at h; cases h
    · rw [if_neg hy] at h
      rw [vnx_eq h] at k
      exact vs_st k fun lsC H locs cells slots kk => row x y lsC H locs cells slots _ hy kk
  · cases h
theorem vs_un {f : Int32 → Int32} (h : vun f pc ls st w = some (.inl q)) (k : vGo p l e Rm s mid args below meth c Q E A l0 n0 m q.1 q.2.1 q.2.2.1 q.2.2.2) (row : ∀ (x : Int32) (lsC : Array Slot) (H : Heap) (locs : List Loc) (cells slots : Nat) (rest : List Value), W p l e Rm s mid args below meth c H locs cells slots Q (F0 mid (pc + 1) lsC (.int (f x) :: rest)) → W p l e Rm s mid args below meth c H locs cells slots Q (F0 mid pc lsC (.int x :: rest))) : vGo p l e Rm s mid args below meth c Q E A l0 n0 m pc ls st w := by
  unfold vun at h
  split at h
  · rename_i x r
    rw [vnx_eq h] at k
    exact vs_st k fun lsC H locs cells slots kk => row x lsC H locs cells slots _ kk
  · cases h
theorem vs_lbin {f : Int64 → Int64 → Int64} (h : vlbin f pc ls st w = some (.inl q)) (k : vGo p l e Rm s mid args below meth c Q E A l0 n0 m q.1 q.2.1 q.2.2.1 q.2.2.2) (row : ∀ (x y : Int64) (lsC : Array Slot) (H : Heap) (locs : List Loc) (cells slots : Nat) (rest : List Value), W p l e Rm s mid args below meth c H locs cells slots Q (F0 mid (pc + 1) lsC (.long (f x y) :: rest)) → W p l e Rm s mid args below meth c H locs cells slots Q (F0 mid pc lsC (.long y :: .long x :: rest))) : vGo p l e Rm s mid args below meth c Q E A l0 n0 m pc ls st w := by
  unfold vlbin at h
  split at h
  · rename_i y x r
    rw [vnx_eq h] at k
    exact vs_st k fun lsC H locs cells slots kk => row x y lsC H locs cells slots _ kk
  · cases h
theorem vs_ild {i pc' : Nat} (h : vild pc' i ls st w = some (.inl q)) (k : vGo p l e Rm s mid args below meth c Q E A l0 n0 m q.1 q.2.1 q.2.2.1 q.2.2.2) (row : ∀ (x : Int32) (lsC : Array Slot) (H : Heap) (locs : List Loc) (cells slots : Nat) (rest : List Value), lsC[i]? = some (.val (.int x)) → W p l e Rm s mid args below meth c H locs cells slots Q (F0 mid pc' lsC (.int x :: rest)) → W p l e Rm s mid args below meth c H locs cells slots Q (F0 mid pc lsC rest)) : vGo p l e Rm s mid args below meth c Q E A l0 n0 m pc ls st w := by
  unfold vild at h
  split at h
  · rename_i x hx
    rw [vnx_eq h] at k
    exact fun lsC H locs hl hr => row x lsC H locs _ _ _ (hl.at hx (by simp)) (k lsC H locs hl hr)
  · cases h
theorem vs_lld {i pc' : Nat} (h : vlld pc' i ls st w = some (.inl q)) (k : vGo p l e Rm s mid args below meth c Q E A l0 n0 m q.1 q.2.1 q.2.2.1 q.2.2.2) (row : ∀ (x : Int64) (lsC : Array Slot) (H : Heap) (locs : List Loc) (cells slots : Nat) (rest : List Value), lsC[i]? = some (.val (.long x)) → W p l e Rm s mid args below meth c H locs cells slots Q (F0 mid pc' lsC (.long x :: rest)) → W p l e Rm s mid args below meth c H locs cells slots Q (F0 mid pc lsC rest)) : vGo p l e Rm s mid args below meth c Q E A l0 n0 m pc ls st w := by
  unfold vlld at h
  split at h
  · rename_i x hx
    rw [vnx_eq h] at k
    exact fun lsC H locs hl hr => row x lsC H locs _ _ _ (hl.at hx (by simp)) (k lsC H locs hl hr)
  · cases h
theorem vs_ald {i pc' : Nat} (h : vald pc' i ls st w = some (.inl q)) (k : vGo p l e Rm s mid args below meth c Q E A l0 n0 m q.1 q.2.1 q.2.2.1 q.2.2.2) (row : ∀ (x : Nat) (lsC : Array Slot) (H : Heap) (locs : List Loc) (cells slots : Nat) (rest : List Value), lsC[i]? = some (.val (.ref x)) → W p l e Rm s mid args below meth c H locs cells slots Q (F0 mid pc' lsC (.ref x :: rest)) → W p l e Rm s mid args below meth c H locs cells slots Q (F0 mid pc lsC rest)) : vGo p l e Rm s mid args below meth c Q E A l0 n0 m pc ls st w := by
  unfold vald at h
  split at h
  · rename_i x hx
    rw [vnx_eq h] at k
    exact fun lsC H locs hl hr => row _ lsC H locs _ _ _ (hl.at hx (by simp)) (k lsC H locs hl hr)
  · cases h
theorem vst1_lt {ml : Bool} {ls ls' : List Value} {i : Nat} {v : Value} (h : vst1 ml ls i v = some ls') : i < ls.length := by
  unfold vst1 at h
  by_cases hi : i < ls.length
  · exact hi
  · rw [if_neg hi] at h; cases h
theorem vs_ist {i pc' : Nat} (h : vist (mG m) pc' i ls st w = some (.inl q)) (k : vGo p l e Rm s mid args below meth c Q E A l0 n0 m q.1 q.2.1 q.2.2.1 q.2.2.2) (row : ∀ (x : Int32) (lsC : Array Slot) (H : Heap) (locs : List Loc) (cells slots : Nat) (rest : List Value) (lv lv' : List (Nat × Value)), lv_has lsC (mL m) lv → i < mL m → (i, Value.int x) :: lv.filter (fun q => !(q.1 == i) && !(q.1 + 1 == i && q.2.category == 2)) = lv' → (∀ ls' : Array Slot, lv_has ls' (mL m) lv' → W p l e Rm s mid args below meth c H locs cells slots Q (F0 mid pc' ls' rest)) → W p l e Rm s mid args below meth c H locs cells slots Q (F0 mid pc lsC (.int x :: rest))) : vGo p l e Rm s mid args below meth c Q E A l0 n0 m pc ls st w := by
  unfold vist at h
  split at h
  · rename_i x r
    split at h
    · rename_i l hs
      rw [vnx_eq h] at k
      exact fun lsC H locs hl hr => row x lsC H locs _ _ _ _ _ hl.1 (by rw [← hl.2.1]; exact vst1_lt hs) rfl fun ls' h' => k ls' H locs (hl.st1 hs rfl h') hr
    · cases h
  · cases h
theorem vs_ast {i pc' : Nat} (h : vast (mG m) pc' i ls st w = some (.inl q)) (k : vGo p l e Rm s mid args below meth c Q E A l0 n0 m q.1 q.2.1 q.2.2.1 q.2.2.2) (row : ∀ (x : Nat) (lsC : Array Slot) (H : Heap) (locs : List Loc) (cells slots : Nat) (rest : List Value) (lv lv' : List (Nat × Value)), lv_has lsC (mL m) lv → i < mL m → (i, Value.ref x) :: lv.filter (fun q => !(q.1 == i) && !(q.1 + 1 == i && q.2.category == 2)) = lv' → (∀ ls' : Array Slot, lv_has ls' (mL m) lv' → W p l e Rm s mid args below meth c H locs cells slots Q (F0 mid pc' ls' rest)) → W p l e Rm s mid args below meth c H locs cells slots Q (F0 mid pc lsC (.ref x :: rest))) : vGo p l e Rm s mid args below meth c Q E A l0 n0 m pc ls st w := by
  unfold vast at h
  split at h
  · rename_i x r
    split at h
    · rename_i l hs
      rw [vnx_eq h] at k
      exact fun lsC H locs hl hr => row _ lsC H locs _ _ _ _ _ hl.1 (by rw [← hl.2.1]; exact vst1_lt hs) rfl fun ls' h' => k ls' H locs (hl.st1 hs rfl h') hr
    · cases h
  · cases h
theorem vs_lst {i pc' : Nat} (h : vlst (mG m) pc' i ls st w = some (.inl q)) (k : vGo p l e Rm s mid args below meth c Q E A l0 n0 m q.1 q.2.1 q.2.2.1 q.2.2.2) (row : ∀ (x : Int64) (lsC : Array Slot) (H : Heap) (locs : List Loc) (cells slots : Nat) (rest : List Value) (lv lv' : List (Nat × Value)), lv_has lsC (mL m) lv → i + 1 < mL m → (i, Value.long x) :: lv.filter (fun q => !(q.1 == i) && (!(q.1 == i + 1) && !(q.1 + 1 == i && q.2.category == 2))) = lv' → (∀ ls' : Array Slot, lv_has ls' (mL m) lv' → W p l e Rm s mid args below meth c H locs cells slots Q (F0 mid pc' ls' rest)) → W p l e Rm s mid args below meth c H locs cells slots Q (F0 mid pc lsC (.long x :: rest))) : vGo p l e Rm s mid args below meth c Q E A l0 n0 m pc ls st w := by
  unfold vlst at h
  split at h
  · rename_i x r
    split at h
    · rename_i l hs
      rw [vnx_eq h] at k
      intro lsC H locs hl hr
      have hi : i + 1 < mL m := by
        unfold vst2 at hs
        by_cases hi : i + 1 < ls.length
        · rw [← hl.2.1]; exact hi
        · rw [if_neg hi] at hs; cases hs
      exact row x lsC H locs _ _ _ _ _ hl.1 hi rfl fun ls' h' => k ls' H locs (hl.st2 hs h').1 hr
    · cases h
  · cases h
theorem vs_inc {i pc' : Nat} {n : Int} (h : vinc (mG m) pc' i n ls st w = some (.inl q)) (k : vGo p l e Rm s mid args below meth c Q E A l0 n0 m q.1 q.2.1 q.2.2.1 q.2.2.2) (row : ∀ (x : Int32) (lsC : Array Slot) (H : Heap) (locs : List Loc) (cells slots : Nat) (rest : List Value) (lv lv' : List (Nat × Value)) (k : Nat), lv_has lsC (mL m) lv → lv[k]? = some (i, .int x) → i < mL m → (i, Value.int (x + Int32.ofInt n)) :: lv.filter (fun q => !(q.1 == i) && !(q.1 + 1 == i && q.2.category == 2)) = lv' → (∀ ls' : Array Slot, lv_has ls' (mL m) lv' → W p l e Rm s mid args below meth c H locs cells slots Q (F0 mid pc' ls' rest)) → W p l e Rm s mid args below meth c H locs cells slots Q (F0 mid pc lsC rest)) : vGo p l e Rm s mid args below meth c Q E A l0 n0 m pc ls st w := by
  unfold vinc at h
  split at h
  · rename_i x hx
    split at h
    · rename_i l hs
      rw [vnx_eq h] at k
      intro lsC H locs hl hr
      obtain ⟨k0, hk0⟩ := hl.idx hx (by simp)
      exact row x lsC H locs _ _ _ _ _ k0 hl.1 hk0 (by rw [← hl.2.1]; exact vst1_lt hs) rfl fun ls' h' => k ls' H locs (hl.st1 hs rfl h') hr
    · cases h
  · cases h
/-- fields -/
theorem vs_get {idx : Nat} (C : vCtx p s mid args meth c E A l0 m) (hd : decode (mB m) pc = .ok (.getfield idx, 3)) (h : vget (mO m) idx (pc + 3) ls st w = some (.inl q)) (k : vGo p l e Rm s mid args below meth c Q E A l0 n0 m q.1 q.2.1 q.2.2.1 q.2.2.2) : vGo p l e Rm s mid args below meth c Q E A l0 n0 m pc ls st w := by
  obtain ⟨hx, hb, hml, hown, hts, hK, hX, hbl, hbA, hA, hSt, hN, hnm, hlay, hsz, hl0⟩ := C
  unfold vget at h
  split at h
  · rename_i r rest
    split at h
    · rename_i ci kk nest hf
      split at h
      · rename_i c1 fs hw
        by_cases hc : c1 = ci ∧ r ≠ 0
        · rw [if_pos hc] at h
          obtain ⟨rfl, h0⟩ := hc
          obtain ⟨hm, ho, hi⟩ := vlk_mem hf
          obtain ⟨C, T, N, ty, ⟨g1, g2, g3, g4⟩, g5, g6, g7, g8, -, -⟩ := f_all _ hm
          simp only [ho, hi] at g1 g5 g6 g7 g8
          have fin : ∀ v v' : Value, (vfs (eAd E) (w.2 r) fs)[kk]? = some (vcv (eAd E) v) → v' = v → vGo p l e Rm s mid args below meth c Q E A l0 n0 m (pc + 3) ls (v :: rest) w → vGo p l e Rm s mid args below meth c Q E A l0 n0 m pc ls (.ref r :: rest) w := by
            intro v v' hv _ k lsC H locs hl hr
            obtain ⟨hP, hD, hS, hz⟩ := hr
            have he := vws_get (ad := eAd E) (cI := eI E) (w := w) h0 hw
            cases nest with
            | false =>
              exact va_get (own := oN (mO m)) (ref := C) (C := C) (T := T) (N := N) (ci := c1) (index := idx) (Ts := vgood) hx hb hts g2 hown hK hP (r - 1) he g1 kk g5 (hts _ (g7 rfl)) (fun _ h => by rw [g6] at h; exact h) hv hd (k lsC H locs hl ⟨hP, hD, hS, hz⟩)
            | true =>
              exact va_getN (own := oN (mO m)) (ref := C) (host := "HeirHalves") (C := C) (T := T) (N := N) (ci := c1) (index := idx) (Ts := vgood) hx hb hts g2 hown hK hP (r - 1) he g1 kk g5 (va_Nw.use (by rfl) (hN _ (g8 rfl))) (fun _ h => by rw [g6] at h; exact h) hv hd (k lsC H locs hl ⟨hP, hD, hS, hz⟩)
          split at h
          · rename_i hk
            rw [vnx_eq h] at k
            exact fin (.int (w.2 r kk)) _ (by rw [vfs_at, hk]; rfl) rfl k
          · rename_i v hk
            rw [vnx_eq h] at k
            exact fin v _ (by rw [vfs_at, hk]; rfl) rfl k
          · cases h
        · rw [if_neg hc] at h; cases h
      · cases h
    · cases h
  · cases h
theorem W_size {H : Heap} {locs : List Loc} {cells slots : Nat} {g : JFrame} (k : H.size ≤ s.heap.size + cells → W p l e Rm s mid args below meth c H locs cells slots Q g) : W p l e Rm s mid args below meth c H locs cells slots Q g :=
  fun T hT X => k (by rw [← hT]; exact X.heapSize) T hT X
theorem vRp_size {H : Heap} {locs : List Loc} (C : vCtx p s mid args meth c E A l0 m) (hr : vRp E A s.heap l0 n0 w H locs) (hw : w.1.length ≤ 1000) (h : H.size ≤ s.heap.size + (w.1.length - l0)) : H.size + 1 = eS E + w.1.length := by
  obtain ⟨hx, hb, hml, hown, hts, hK, hX, hbl, hbA, hA, hSt, hN, hnm, hlay, hsz, hl0⟩ := C
  obtain ⟨hP, hD, hS, h0, h00, hl, hn⟩ := hr
  by_cases e : w.1.length = l0
  · have := hS.1
    omega
  · have h1 : w.1.length - 1 < w.1.length := by omega
    have h2 := (hP _ _ (vws_get (ad := eAd E) (cI := eI E) (w := w) (r := w.1.length - 1) (by omega) (List.getElem?_eq_getElem h1))).lt
    have h3 := hlay (w.1.length - 1) (by omega) (by omega)
    simp only at h2
    omega
theorem set_same {α : Type} {l : List α} {i : Nat} {a : α} (h : l[i]? = some a) : l.set i a = l := by
  apply List.ext_getElem?
  intro j
  rw [List.getElem?_set]
  by_cases e : i = j
  · subst e
    rw [if_pos rfl, if_pos (List.getElem?_eq_some_iff.mp h).1, h]
  · rw [if_neg e]
theorem vfs_set {ad : Nat → Nat} {f g : Nat → Int32} {fs fs' : List (Option Value)} {k : Nat} {x : Option Value} {v : Value} (hk : k < fs.length) (hf : fs' = fs.set k x) (hv : vfv ad g (x, k) = v) (hg : ∀ j, j ≠ k → g j = f j) : vfs ad g fs' = (vfs ad f fs).set k v := by
  subst hf
  apply List.ext_getElem?
  intro j
  rw [vfs_at, List.getElem?_set, List.getElem?_set, vfs_len]
  by_cases e : k = j
  · subst e
    rw [if_pos rfl, if_pos hk, if_pos rfl, if_pos hk, ← hv]
    rfl
  · rw [if_neg e, if_neg e, vfs_at]
    cases fs[j]? with
    | none => rfl
    | some y =>
      cases y with
      | none => simp [vfv, hg j (fun q => e q.symm)]
      | some y => rfl
theorem vs_put {idx : Nat} (C : vCtx p s mid args meth c E A l0 m) (hd : decode (mB m) pc = .ok (.putfield idx, 3)) (h : vput ((mN m).name == "<init>") (mO m) idx (pc + 3) ls st w = some (.inl q)) (k : vGo p l e Rm s mid args below meth c Q E A l0 n0 m q.1 q.2.1 q.2.2.1 q.2.2.2) : vGo p l e Rm s mid args below meth c Q E A l0 n0 m pc ls st w := by
  obtain ⟨hx, hb, hml, hown, hts, hK, hX, hbl, hbA, hA, hSt, hN, hnm, hlay, hsz, hl0⟩ := C
  unfold vput at h
  split at h
  · rename_i x r rest
    split at h
    · rename_i ci kk nest hf
      split at h
      · rename_i c1 fs hw
        by_cases hc : c1 = ci ∧ r ≠ 0 ∧ fInt ci kk = true
        · rw [if_pos hc] at h
          obtain ⟨rfl, h0, hfi⟩ := hc
          obtain ⟨hm, ho, hi⟩ := vlk_mem hf
          obtain ⟨C, T, N, ty, ⟨g1, g2, g3, g4⟩, g5, g6, g7, g8, g9, -⟩ := f_all _ hm
          simp only [ho, hi] at g1 g5 g6 g7 g8 g9
          obtain ⟨gf, gt⟩ := g9 hfi
          have fin : fs[kk]? = some none → narrow (ty kk) (.int x) = .int x → fits (ty kk) (.int x) = true → vGo p l e Rm s mid args below meth c Q E A l0 n0 m (pc + 3) ls rest (w.1, upd2 w.2 r kk x) → vGo p l e Rm s mid args below meth c Q E A l0 n0 m pc ls (.int x :: .ref r :: rest) w := by
            intro hk hn hfit k lsC H locs hl hr
            obtain ⟨hP, hD, hS, hz0, hz1, hz2⟩ := hr
            have he := vws_get (ad := eAd E) (cI := eI E) (w := w) h0 hw
            have hkl : kk < fs.length := (List.getElem?_eq_some_iff.mp hk).1
            have hv : vel (eAd E) (eI E) (upd2 w.2 r kk x) r (.inr (c1, fs)) = .inr (c1, (vfs (eAd E) (w.2 r) fs).set kk (.int x)) := congrArg (fun z => (Sum.inr (c1, z) : va_E)) (vfs_set (x := none) hkl (set_same hk).symm (by simp [vfv, upd2]) (fun j hj => by simp [upd2, hj]))
            have hws : (vws (eAd E) (eI E) w).set (r - 1) (eAd E r, .inr (c1, (vfs (eAd E) (w.2 r) fs).set kk (.int x))) = vws (eAd E) (eI E) (w.1, upd2 w.2 r kk x) := by
              rw [← hv]
              exact vws_set (w := w) (w' := (w.1, upd2 w.2 r kk x)) (s' := .inr (c1, fs)) h0 (List.getElem?_eq_some_iff.mp hw).1 (set_same hw).symm (fun b hb => by funext j; simp [upd2, hb])
            have go : ∀ (H1 : Heap) (locs1 : List Loc), va_P (eD E) vwCl ((vws (eAd E) (eI E) w).set (r - 1) (eAd E r, .inr (c1, (vfs (eAd E) (w.2 r) fs).set kk (.int x)))) H1 → va_D A ((vws (eAd E) (eI E) w).set (r - 1) (eAd E r, .inr (c1, (vfs (eAd E) (w.2 r) fs).set kk (.int x)))) → va_S A s.heap H1 locs1 → W p l e Rm s mid args below meth c H1 locs1 (w.1.length - l0) (vssz w.1 - n0) Q (F0 mid (pc + 3) lsC (rest.map (vcv (eAd E)))) := by
              intro H1 locs1 p1 p2 p3
              rw [hws] at p1 p2
              exact k lsC H1 locs1 hl ⟨p1, p2, p3, hz0, by rw [← hz1]; funext j; simp [upd2, Ne.symm h0], hz2⟩
            cases nest with
            | false => exact va_put (own := oN (mO m)) (ref := C) (C := C) (T := T) (N := N) (ci := c1) (index := idx) (Ts := vgood) hx hb hts g2 ty g3 g4 hown hK hP hD hS (r - 1) he g1 kk g5 (hts _ (g7 rfl)) (fun _ h => by rw [g6] at h; exact h) gf (g3 kk g5) hn hfit (by rw [vfs_len]; exact hkl) hd go
            | true => exact va_putN (own := oN (mO m)) (ref := C) (host := "HeirHalves") (C := C) (T := T) (N := N) (ci := c1) (index := idx) (Ts := vgood) hx hb hts g2 ty g3 g4 hown hK hP hD hS (r - 1) he g1 kk g5 (va_Nw.use (by rfl) (hN _ (g8 rfl))) (fun _ h => by rw [g6] at h; exact h) gf (g3 kk g5) hn hfit (by rw [vfs_len]; exact hkl) hd go
          split at h
          · rename_i hk
            by_cases hb : fBool c1 kk = true
            · rw [if_pos hb] at h
              rw [if_pos hb] at gt
              by_cases x0 : x = 0
              · rw [if_pos x0] at h
                subst x0
                rw [vnx_eq h] at k
                exact fin hk (by rw [gt]; rfl) (by rw [gt]; rfl) k
              · rw [if_neg x0] at h
                by_cases x1 : x = 1
                · rw [if_pos x1] at h
                  subst x1
                  rw [vnx_eq h] at k
                  exact fin hk (by rw [gt]; rfl) (by rw [gt]; rfl) k
                · rw [if_neg x1] at h; cases h
            · rw [if_neg hb] at h
              rw [if_neg hb] at gt
              rw [vnx_eq h] at k
              exact fin hk (by rw [gt]; rfl) (by rw [gt]; rfl) k
          · cases h
        · rw [if_neg hc] at h; cases h
      · cases h
    · cases h
  · rename_i y r rest
    split at h
    · rename_i ci kk nest hf
      split at h
      · rename_i c1 fs hw
        by_cases hc : c1 = ci ∧ r ≠ 0 ∧ nest = false ∧ ((mN m).name == "<init>") = true ∧ mO m = ci ∧ fInt ci kk = false
        · rw [if_pos hc] at h
          obtain ⟨rfl, h0, rfl, hini, hoc, hfi⟩ := hc
          obtain ⟨hm, ho, hi⟩ := vlk_mem hf
          obtain ⟨C, T, N, ty, ⟨g1, g2, g3, g4⟩, g5, g6, g7, -, -, g9⟩ := f_all _ hm
          simp only [ho, hi] at g1 g5 g6 g7 g9
          obtain ⟨gf, gc, gt⟩ := g9 hfi
          split at h
          · rename_i v0 hk
            rw [vnx_eq h] at k
            intro lsC H locs hl hr
            obtain ⟨hP, hD, hS, hz0, hz1, hz2, hz3⟩ := hr
            have he := vws_get (ad := eAd E) (cI := eI E) (w := w) h0 hw
            have hkl : kk < fs.length := (List.getElem?_eq_some_iff.mp hk).1
            have hv : vel (eAd E) (eI E) w.2 r (.inr (c1, fs.set kk (some (.ref y)))) = .inr (c1, (vfs (eAd E) (w.2 r) fs).set kk (.ref (eAd E y))) := congrArg (fun z => (Sum.inr (c1, z) : va_E)) (vfs_set (x := some (.ref y)) hkl rfl rfl (fun j hj => rfl))
            have hws : (vws (eAd E) (eI E) w).set (r - 1) (eAd E r, .inr (c1, (vfs (eAd E) (w.2 r) fs).set kk (.ref (eAd E y)))) = vws (eAd E) (eI E) (w.1.set r (.inr (c1, fs.set kk (some (.ref y)))), w.2) := by
              rw [← hv]
              exact vws_set (w := w) (w' := (w.1.set r (.inr (c1, fs.set kk (some (.ref y)))), w.2)) (s' := .inr (c1, fs.set kk (some (.ref y)))) h0 (List.getElem?_eq_some_iff.mp hw).1 rfl (fun b hb => rfl)
            have go : ∀ (H1 : Heap) (locs1 : List Loc), va_P (eD E) vwCl ((vws (eAd E) (eI E) w).set (r - 1) (eAd E r, .inr (c1, (vfs (eAd E) (w.2 r) fs).set kk (.ref (eAd E y))))) H1 → va_D A ((vws (eAd E) (eI E) w).set (r - 1) (eAd E r, .inr (c1, (vfs (eAd E) (w.2 r) fs).set kk (.ref (eAd E y))))) → va_S A s.heap H1 locs1 → W p l e Rm s mid args below meth c H1 locs1 (w.1.length - l0) (vssz w.1 - n0) Q (F0 mid (pc + 3) lsC (rest.map (vcv (eAd E)))) := by
              intro H1 locs1 p1 p2 p3
              rw [hws] at p1 p2
              have e1 : (w.1.set r (.inr (c1, fs.set kk (some (.ref y))))).length = w.1.length := List.length_set
              have e2 : vssz (w.1.set r (.inr (c1, fs.set kk (some (.ref y))))) = vssz w.1 := vssz_set _ _ _ _ hw (by simp [vsz1]) h0
              have k2 := k lsC H1 locs1 hl ⟨p1, p2, p3, by rw [List.getElem?_set, if_neg h0]; exact hz0, hz1, by rw [e1]; exact hz2, by rw [e2]; exact hz3⟩
              rw [e1, e2] at k2
              exact k2
            exact va_putF (own := oN (mO m)) (ref := C) (C := C) (T := T) (N := N) (ci := c1) (index := idx) (Ts := vgood) hx hb hts g2 ty g3 g4 hown hK hP hD hS (r - 1) he g1 kk g5 (hts _ (g7 (by first | rfl | trivial))) (fun _ h => by rw [g6] at h; exact h) gf (by rw [hnm]; simpa using hini) (by rw [g6, hoc, gc]) (g3 kk g5) (gt _).1 (gt _).2 (by rw [vfs_len]; exact hkl) hd go
          · cases h
        · rw [if_neg hc] at h; cases h
      · cases h
    · cases h
  · cases h
/-- arrays -/
theorem vs_iald (C : vCtx p s mid args meth c E A l0 m) (hd : decode (mB m) pc = .ok (.iaload, 1)) (h : viald (pc + 1) ls st w = some (.inl q)) (k : vGo p l e Rm s mid args below meth c Q E A l0 n0 m q.1 q.2.1 q.2.2.1 q.2.2.2) : vGo p l e Rm s mid args below meth c Q E A l0 n0 m pc ls st w := by
  obtain ⟨hx, hb, hml, hown, hts, hK, hX, hbl, hbA, hA, hSt, hN, hnm, hlay, hsz, hl0⟩ := C
  unfold viald at h
  split at h
  · rename_i i a rest
    split at h
    · rename_i n hw
      by_cases hi : i < 0 ∨ n ≤ i.toNatClampNeg
      · rw [if_pos hi] at h; cases h
      · rw [if_neg hi] at h
        rw [vnx_eq h] at k
        intro lsC H locs hl hr
        have hr2 := hr
        obtain ⟨hP, hD, hS, hz0, hz1, hz2⟩ := hr
        by_cases ha : a = 0
        · subst ha
          rw [hz0] at hw
          cases hw
          have k2 := k lsC H locs hl hr2
          simp only [hz1] at k2
          exact va_sld hx hb hX hbl hbA hS hi hd k2
        · exact va_iald hx hb hK hP (a - 1) 0 (vws_get ha hw) rfl hi hd (k lsC H locs hl hr2)
    · cases h
  · cases h
theorem vs_iast (C : vCtx p s mid args meth c E A l0 m) (hd : decode (mB m) pc = .ok (.iastore, 1)) (h : viast (pc + 1) ls st w = some (.inl q)) (k : vGo p l e Rm s mid args below meth c Q E A l0 n0 m q.1 q.2.1 q.2.2.1 q.2.2.2) : vGo p l e Rm s mid args below meth c Q E A l0 n0 m pc ls st w := by
  obtain ⟨hx, hb, hml, hown, hts, hK, hX, hbl, hbA, hA, hSt, hN, hnm, hlay, hsz, hl0⟩ := C
  unfold viast at h
  split at h
  · rename_i x i a rest
    split at h
    · rename_i n hw
      by_cases hi : i < 0 ∨ n ≤ i.toNatClampNeg ∨ a = 0
      · rw [if_pos hi] at h; cases h
      · rw [if_neg hi] at h
        rw [vnx_eq h] at k
        intro lsC H locs hl hr
        obtain ⟨hP, hD, hS, hz0, hz1, hz2⟩ := hr
        have ha : a ≠ 0 := fun q => hi (Or.inr (Or.inr q))
        have hi2 : vp_in i n := fun q => hi (q.elim Or.inl fun z => Or.inr (Or.inl z))
        refine va_iast (a := eAd E a) hx hb hK hP hD hS (a - 1) 0 (vws_get ha hw) rfl hi2 hd fun H1 locs1 p1 p2 p3 => ?_
        have hws : (vws (eAd E) (eI E) w).set (a - 1) (eAd E a, .inl (eI E, n, .inl (upd (w.2 a) i.toNatClampNeg x))) = vws (eAd E) (eI E) (w.1, upd2 w.2 a i.toNatClampNeg x) := by
          have hv : vel (eAd E) (eI E) (upd2 w.2 a i.toNatClampNeg x) a (.inl n) = .inl (eI E, n, .inl (upd (w.2 a) i.toNatClampNeg x)) := congrArg (fun f => (Sum.inl (eI E, n, Sum.inl f) : va_E)) (by funext j; simp [upd, upd2])
          rw [← hv]
          exact vws_set (w := w) (w' := (w.1, upd2 w.2 a i.toNatClampNeg x)) (s' := .inl n) ha (List.getElem?_eq_some_iff.mp hw).1 (set_same hw).symm (fun b hb => by funext j; simp [upd2, hb])
        rw [hws] at p1 p2
        exact k lsC H1 locs1 hl ⟨p1, p2, p3, hz0, by rw [← hz1]; funext j; simp [upd2, Ne.symm ha], hz2⟩
    · cases h
  · cases h
theorem vs_alen (C : vCtx p s mid args meth c E A l0 m) (hd : decode (mB m) pc = .ok (.arraylength, 1)) (h : valen (pc + 1) ls st w = some (.inl q)) (k : vGo p l e Rm s mid args below meth c Q E A l0 n0 m q.1 q.2.1 q.2.2.1 q.2.2.2) : vGo p l e Rm s mid args below meth c Q E A l0 n0 m pc ls st w := by
  obtain ⟨hx, hb, hml, hown, hts, hK, hX, hbl, hbA, hA, hSt, hN, hnm, hlay, hsz, hl0⟩ := C
  unfold valen at h
  split at h
  · rename_i a rest
    split at h
    · rename_i n hw
      rw [vnx_eq h] at k
      intro lsC H locs hl hr
      have hr2 := hr
      obtain ⟨hP, hD, hS, hz0, hz1, hz2⟩ := hr
      by_cases ha : a = 0
      · subst ha
        rw [hz0] at hw
        cases hw
        exact va_slen hx hb hX hbl hbA hS hd (k lsC H locs hl hr2)
      · exact va_alen hx hb hK hP (a - 1) 0 (vws_get ha hw) (ty := .int) rfl rfl hd (k lsC H locs hl hr2)
    · cases h
  · cases h
theorem vs_newa (C : vCtx p s mid args meth c E A l0 m) (hd : decode (mB m) pc = .ok (.newarray .int, 2)) (h : vnewa (pc + 2) ls st w = some (.inl q)) (k : vGo p l e Rm s mid args below meth c Q E A l0 n0 m q.1 q.2.1 q.2.2.1 q.2.2.2) (hc1 : q.2.2.2.1.length - l0 ≤ Rm.cells) (hc2 : vssz q.2.2.2.1 - n0 ≤ Rm.slots) : vGo p l e Rm s mid args below meth c Q E A l0 n0 m pc ls st w := by
  have C0 := C
  obtain ⟨hx, hb, hml, hown, hts, hK, hX, hbl, hbA, hA, hSt, hN, hnm, hlay, hsz, hl0⟩ := C
  unfold vnewa at h
  split at h
  · rename_i n rest
    by_cases hi : n < 0 ∨ 100000000 ≤ n.toNatClampNeg ∨ 1000 ≤ w.1.length ∨ w.1.length = 0
    · rw [if_pos hi] at h; cases h
    · rw [if_neg hi] at h
      rw [vnx_eq h] at k hc1 hc2
      intro lsC H locs hl hr
      have hr2 := hr
      obtain ⟨hP, hD, hS, hz0, hz1, hz2, hz3⟩ := hr
      have h1 : ¬ n < 0 := fun q => hi (Or.inl q)
      have h2 : n.toNatClampNeg < 100000000 := by omega
      have h3 : w.1.length < 1000 := by omega
      have h4 : w.1.length ≠ 0 := by omega
      refine W_size fun hH => ?_
      have hq := vRp_size C0 hr2 (by omega) hH
      have hlen : (w.1 ++ [Sum.inl n.toNatClampNeg]).length = w.1.length + 1 := by simp
      have hss := vssz_push w.1 (Sum.inl n.toNatClampNeg) h4
      simp only [hlen, hss, vsz1] at hc1 hc2
      refine va_newaK (g := F0 mid pc lsC (.int n :: rest.map (vcv (eAd E)))) hx hb (atype := .int) (hts _ vw_ar) rfl hd rfl h1 rfl ?_ (by omega) (by omega) rfl fun H1 cA e1 z1 o1 hAr hNm => ?_
      · show n.toNatClampNeg * 4 ≤ 536870912
        omega
      have hcA : cA = eI E := by
        have h5 := va_nm_int (hK.2 0 _ rfl).2
        exact Option.some.inj (hNm.symm.trans h5)
      have had : eAd E w.1.length = H.size := by
        have := hlay w.1.length (by omega) h3
        omega
      have hk : ∀ (k : Nat) (x : Nat × va_E), (vws (eAd E) (eI E) w)[k]? = some x → H1[x.1]? = H[x.1]? := fun k x hx => o1 x.1 ((hP k x hx).lt)
      have hnew : vel (eAd E) (eI E) (fun _ _ => 0) w.1.length (Sum.inl n.toNatClampNeg) = .inl (cA, n.toNatClampNeg, .inl (fun _ => 0)) := by rw [hcA]; rfl
      have p1 : va_P (eD E) vwCl (vws (eAd E) (eI E) w ++ [(eAd E w.1.length, vel (eAd E) (eI E) (fun _ _ => 0) w.1.length (Sum.inl n.toNatClampNeg))]) H1 := (hP.kept hk).app (fun k x hx => by
        have hz : k < 1 := (List.getElem?_eq_some_iff.mp hx).1
        rw [show k = 0 by omega] at hx
        cases hx
        rw [hnew, had]
        exact e1)
      have p2 : va_D A (vws (eAd E) (eI E) w ++ [(eAd E w.1.length, vel (eAd E) (eI E) (fun _ _ => 0) w.1.length (Sum.inl n.toNatClampNeg))]) := hD.push hP had (by rw [had]; exact hA _ hS.1)
      rw [vws_push h4] at p1 p2
      have k2 := k lsC H1 locs hl ⟨p1, p2, ⟨Nat.le_trans hS.1 (by omega), fun x h1 h2 => (o1 x (Nat.lt_of_lt_of_le h1 hS.1)).trans (hS.2.1 x h1 h2), hS.2.2⟩, by rw [List.getElem?_append_left (by omega)]; exact hz0, by rw [← hz1]; funext j; simp [vzero, Ne.symm h4], by rw [hlen]; omega, by rw [hss]; omega⟩
      rw [show H.size = eAd E w.1.length from had.symm]
      refine W.cs ?_ ?_ k2
      · show w.1.length - l0 + 1 = (w.1 ++ [Sum.inl n.toNatClampNeg]).length - l0
        omega
      · show vssz w.1 - n0 + n.toNatClampNeg = vssz (w.1 ++ [Sum.inl n.toNatClampNeg]) - n0
        rw [hss]
        simp only [vsz1]
        omega
  · cases h
theorem vs_new {idx : Nat} (C : vCtx p s mid args meth c E A l0 m) (hd : decode (mB m) pc = .ok (.new idx, 3)) (h : vnew (mO m) idx (pc + 3) ls st w = some (.inl q)) (k : vGo p l e Rm s mid args below meth c Q E A l0 n0 m q.1 q.2.1 q.2.2.1 q.2.2.2) (hc1 : q.2.2.2.1.length - l0 ≤ Rm.cells) (hc2 : vssz q.2.2.2.1 - n0 ≤ Rm.slots) : vGo p l e Rm s mid args below meth c Q E A l0 n0 m pc ls st w := by
  have C0 := C
  obtain ⟨hx, hb, hml, hown, hts, hK, hX, hbl, hbA, hA, hSt, hN, hnm, hlay, hsz, hl0⟩ := C
  unfold vnew at h
  split at h
  · rename_i ci hf
    split at h
    · rename_i fs hfs
      by_cases hi : 1000 ≤ w.1.length ∨ w.1.length = 0
      · rw [if_pos hi] at h; cases h
      · rw [if_neg hi] at h
        rw [vnx_eq h] at k hc1 hc2
        obtain ⟨hm, ho, hi2⟩ := vlk_mem hf
        obtain ⟨C, T, N, ty, ⟨g1, g2, g3, g4⟩, g5, g6, g7, g8, g9⟩ := n_all _ hm
        simp only [ho, hi2] at g1 g5 g8 g9
        have hfd : nFs.getD ci [] = fs := by rw [List.getD_eq_getElem?_getD, hfs]; rfl
        rw [hfd] at g8 g9
        intro lsC H locs hl hr
        have hr2 := hr
        obtain ⟨hP, hD, hS, hz0, hz1, hz2, hz3⟩ := hr
        have h3 : w.1.length < 1000 := by omega
        have h4 : w.1.length ≠ 0 := by omega
        refine W_size fun hH => ?_
        have hq := vRp_size C0 hr2 (by omega) hH
        have hlen : (w.1 ++ [Sum.inr (ci, fs)]).length = w.1.length + 1 := by simp
        have hss := vssz_push w.1 (Sum.inr (ci, fs)) h4
        simp only [hlen, hss, vsz1, g8] at hc1 hc2
        have had : eAd E w.1.length = H.size := by
          have := hlay w.1.length (by omega) h3
          omega
        have hKn := hK.1 ci _ g1
        refine W.newcK (g := F0 mid pc lsC (st.map (vcv (eAd E)))) hx hb hown (hts _ g5) (hts _ g6) (hts _ g7) rfl hd (by omega) (by omega) hKn.2.1 rfl fun H1 kC hkC e1 z1 o1 => ?_
        have hk : ∀ (k : Nat) (x : Nat × va_E), (vws (eAd E) (eI E) w)[k]? = some x → H1[x.1]? = H[x.1]? := fun k x hx => o1 x.1 ((hP k x hx).lt)
        have hV : ∀ j, j < N → defaultValue (ty j) = vp_V (vfs (eAd E) (fun _ => 0) fs) j := by
          intro j hj
          obtain ⟨u1, u2⟩ := g9 j hj
          rw [u1]
          have hj2 : j < fs.length := by omega
          show _ = (vfs (eAd E) (fun _ => 0) fs).getD j .null
          rw [show (vfs (eAd E) (fun _ => 0) fs).getD j .null = ((vfs (eAd E) (fun _ => 0) fs)[j]?).getD .null from List.getD_eq_getElem?_getD, vfs_at]
          rw [List.getD_eq_getElem?_getD, List.getElem?_eq_getElem hj2] at u2 ⊢
          simp only [Option.getD_some] at u2 ⊢
          rcases u2 with u2 | u2 <;> rw [u2] <;> rfl
        have p1 : va_P (eD E) vwCl (vws (eAd E) (eI E) w ++ [(eAd E w.1.length, vel (eAd E) (eI E) (fun _ _ => 0) w.1.length (Sum.inr (ci, fs)))]) H1 := (hP.kept hk).app (fun k x hx => by
          have hz : k < 1 := (List.getElem?_eq_some_iff.mp hx).1
          rw [show k = 0 by omega] at hx
          cases hx
          rw [had]
          exact ⟨_, g1, (u_born ty hts g2 hKn hkC e1 g3).to hV⟩)
        have p2 : va_D A (vws (eAd E) (eI E) w ++ [(eAd E w.1.length, vel (eAd E) (eI E) (fun _ _ => 0) w.1.length (Sum.inr (ci, fs)))]) := hD.push hP had (by rw [had]; exact hA _ hS.1)
        rw [vws_push h4] at p1 p2
        have k2 := k lsC H1 locs hl ⟨p1, p2, ⟨Nat.le_trans hS.1 (by omega), fun x h1 h2 => (o1 x (Nat.lt_of_lt_of_le h1 hS.1)).trans (hS.2.1 x h1 h2), hS.2.2⟩, by rw [List.getElem?_append_left (by omega)]; exact hz0, by rw [← hz1]; funext j; simp [vzero, Ne.symm h4], by rw [hlen]; omega, by rw [hss]; omega⟩
        rw [show H.size = eAd E w.1.length from had.symm]
        refine W.cs ?_ ?_ k2
        · show w.1.length - l0 + 1 = (w.1 ++ [Sum.inr (ci, fs)]).length - l0
          omega
        · show vssz w.1 - n0 + N = vssz (w.1 ++ [Sum.inr (ci, fs)]) - n0
          rw [hss]
          simp only [vsz1, g8]
          omega
    · cases h
  · cases h
/-- constants -/
theorem vs_ldc {idx pc' two : Nat} (C : vCtx p s mid args meth c E A l0 m) (h : vldc (mO m) idx pc' two ls st w = some (.inl q)) (k : vGo p l e Rm s mid args below meth c Q E A l0 n0 m q.1 q.2.1 q.2.2.1 q.2.2.2)
    (hd0 : two = 0 → pc' = pc + 2 ∧ decode (mB m) pc = .ok (.ldc idx, 2)) (hd1 : two = 1 → pc' = pc + 3 ∧ decode (mB m) pc = .ok (.ldc_w idx, 3)) (hd2 : two = 2 → pc' = pc + 3 ∧ decode (mB m) pc = .ok (.ldc2_w idx, 3)) : vGo p l e Rm s mid args below meth c Q E A l0 n0 m pc ls st w := by
  obtain ⟨hx, hb, hml, hown, hts, hK, hX, hbl, hbA, hA, hSt, hN, hnm, hlay, hsz, hl0⟩ := C
  unfold vldc at h
  split at h
  · rename_i x hf
    obtain ⟨hm, ho, hi2⟩ := vlk_mem hf
    have g := k_all _ hm
    simp only [kFact, ho, hi2] at g
    by_cases t0 : two = 0
    · rw [if_pos t0] at h
      rw [vnx_eq h] at k
      obtain ⟨rfl, hd⟩ := hd0 t0
      exact vs_st k fun lsC H locs cells slots kk => lv_ldc hx hb hown (hts _ g) hd kk
    · rw [if_neg t0] at h
      by_cases t1 : two = 1
      · rw [if_pos t1] at h
        rw [vnx_eq h] at k
        obtain ⟨rfl, hd⟩ := hd1 t1
        exact vs_st k fun lsC H locs cells slots kk => lv_ldcw hx hb hown (hts _ g) hd kk
      · rw [if_neg t1] at h; cases h
  · rename_i x hf
    obtain ⟨hm, ho, hi2⟩ := vlk_mem hf
    have g := k_all _ hm
    simp only [kFact, ho, hi2] at g
    by_cases t0 : two = 2
    · rw [if_pos t0] at h
      rw [vnx_eq h] at k
      obtain ⟨rfl, hd⟩ := hd2 t0
      exact vs_st k fun lsC H locs cells slots kk => lv_ldc2 hx hb hown (hts _ g) hd kk
    · rw [if_neg t0] at h; cases h
  · rename_i a hf
    obtain ⟨hm, ho, hi2⟩ := vlk_mem hf
    have g := k_all _ hm
    simp only [kFact, ho, hi2] at g
    obtain ⟨g1, g2, g3, g4⟩ := g
    by_cases t0 : two = 0
    · rw [if_pos t0] at h
      rw [vnx_eq h] at k
      obtain ⟨rfl, hd⟩ := hd0 t0
      have g5 : (1000 : Nat) ≤ a := g2
      have g6 : a < (1012 : Nat) := g3
      have hz := hSt.2.1 (a - 1000) (Nat.sub_lt_left_of_lt_add g5 g6)
      rw [Nat.add_sub_cancel' g5, ← g4] at hz
      refine vs_st k fun lsC H locs cells slots kk => va_ldcS (own := "HeirHalves$Tape") hx hb ?_ hz hd kk
      rw [g1] at hown
      exact hown
    · rw [if_neg t0] at h; cases h
  · cases h
theorem vs_acopy {idx : Nat} (C : vCtx p s mid args meth c E A l0 m) (hd : decode (mB m) pc = .ok (.invokestatic idx, 3)) (hw : Cond.methodLink (oN (mO m)) idx arraycopyName ∈ vgood) (hR : mF m ≤ Rm.frames ∧ mW m ≤ Rm.locals) (h : vacopy m (pc + 3) ls st w = some (.inl q)) (k : vGo p l e Rm s mid args below meth c Q E A l0 n0 m q.1 q.2.1 q.2.2.1 q.2.2.2) : vGo p l e Rm s mid args below meth c Q E A l0 n0 m pc ls st w := by
  obtain ⟨hx, hb, hml, hown, hts, hK, hX, hbl, hbA, hA, hSt, hN, hnm, hlay, hsz, hl0⟩ := C
  unfold vacopy at h
  split at h
  · rename_i n dp a sp a0 rest
    split at h
    · rename_i n0 n1 hw0 hw1
      by_cases hi : sp < 0 ∨ dp < 0 ∨ n < 0 ∨ n0 < sp.toNatClampNeg + n.toNatClampNeg ∨ n1 < dp.toNatClampNeg + n.toNatClampNeg ∨ a = 0 ∨ a0 = 0 ∨ mF m < 1 ∨ mW m < 40 ∨ 8 < vcats rest
      · rw [if_pos hi] at h; cases h
      · rw [if_neg hi] at h
        rw [vnx_eq h] at k
        intro lsC H locs hl hr
        obtain ⟨hP, hD, hS, hz0, hz1, hz2⟩ := hr
        have c1 : ¬ sp < 0 := fun q => hi (Or.inl q)
        have c2 : ¬ dp < 0 := fun q => hi (Or.inr (Or.inl q))
        have c3 : ¬ n < 0 := fun q => hi (Or.inr (Or.inr (Or.inl q)))
        have ha : a ≠ 0 := fun q => hi (Or.inr (Or.inr (Or.inr (Or.inr (Or.inr (Or.inl q))))))
        have ha0 : a0 ≠ 0 := fun q => hi (Or.inr (Or.inr (Or.inr (Or.inr (Or.inr (Or.inr (Or.inl q)))))))
        refine va_copyi (a := eAd E a) (a0 := eAd E a0) (n0 := n0) (n1 := n1) hx hb (by rw [hml]; exact hl.1.1.symm) hown (hts _ hw) (hts _ vw_an) (hts _ vw_as) (hts _ vw_ai) hK hP hD hS (a0 - 1) (a - 1) 0 0 (vws_get ha0 hw0) (vws_get ha hw1) rfl rfl rfl c1 c2 c3 (by omega) (by omega) (fun _ _ => rfl) (by omega) ?_ hd fun H1 locs1 p1 p2 p3 => ?_
        · rw [vcv_cats]
          have : nativeFrameWords "java/lang/System" "arraycopy" 5 + 11 ≤ 20 := by decide
          omega
        have hws : (vws (eAd E) (eI E) w).set (a - 1) (eAd E a, .inl (eI E, n1, .inl (va_cpy (w.2 a0) (w.2 a) sp.toNatClampNeg dp.toNatClampNeg n.toNatClampNeg))) = vws (eAd E) (eI E) (w.1, fun b j => if b = a then va_cpy (w.2 a0) (w.2 a) sp.toNatClampNeg dp.toNatClampNeg n.toNatClampNeg j else w.2 b j) := by
          have hv : vel (eAd E) (eI E) (fun b j => if b = a then va_cpy (w.2 a0) (w.2 a) sp.toNatClampNeg dp.toNatClampNeg n.toNatClampNeg j else w.2 b j) a (.inl n1) = .inl (eI E, n1, .inl (va_cpy (w.2 a0) (w.2 a) sp.toNatClampNeg dp.toNatClampNeg n.toNatClampNeg)) := congrArg (fun f => (Sum.inl (eI E, n1, Sum.inl f) : va_E)) (by funext j; simp)
          rw [← hv]
          exact vws_set (w := w) (w' := (w.1, fun b j => if b = a then va_cpy (w.2 a0) (w.2 a) sp.toNatClampNeg dp.toNatClampNeg n.toNatClampNeg j else w.2 b j)) (s' := .inl n1) ha (List.getElem?_eq_some_iff.mp hw1).1 (set_same hw1).symm (fun b hb => by funext j; simp [hb])
        rw [hws] at p1 p2
        exact k lsC H1 locs1 hl ⟨p1, p2, p3, hz0, by rw [← hz1]; funext j; simp [Ne.symm ha], hz2⟩
    · cases h
  · cases h
theorem vs_mm {idx : Nat} {mx : Bool} (C : vCtx p s mid args meth c E A l0 m) (hd : decode (mB m) pc = .ok (.invokestatic idx, 3)) (hw : Cond.methodLink (oN (mO m)) idx (if mx then Lib.Math.max.name else Lib.Math.min.name) ∈ vgood) (hR : mF m ≤ Rm.frames ∧ mW m ≤ Rm.locals) (hc1 : w.1.length - l0 ≤ Rm.cells) (hc2 : vssz w.1 - n0 ≤ Rm.slots) (h : vmm mx m (pc + 3) ls st w = some (.inl q)) (k : vGo p l e Rm s mid args below meth c Q E A l0 n0 m q.1 q.2.1 q.2.2.1 q.2.2.2) : vGo p l e Rm s mid args below meth c Q E A l0 n0 m pc ls st w := by
  obtain ⟨hx, hb, hml, hown, hts, hK, hX, hbl, hbA, hA, hSt, hN, hnm, hlay, hsz, hl0⟩ := C
  unfold vmm at h
  split at h
  · rename_i y x rest
    by_cases hi : mF m < 1 ∨ mW m < 21 ∨ 8 < vcats rest
    · rw [if_pos hi] at h; cases h
    · rw [if_neg hi] at h
      rw [vnx_eq h] at k
      intro lsC H locs hl hr
      have hs : c.maxLocals = lsC.size := by rw [hml]; exact hl.1.1.symm
      have k2 := k lsC H locs hl hr
      cases mx with
      | true => exact va_mmax hx hb hs hown (hts _ hw) (hts _ vw_mmaxs) (hts _ vw_mi) (hts _ vw_mmaxc) (by omega) (by rw [vcv_cats]; omega) hc1 hc2 hd k2
      | false => exact va_mmin hx hb hs hown (hts _ hw) (hts _ vw_mmins) (hts _ vw_mi) (hts _ vw_mminc) (by omega) (by rw [vcv_cats]; omega) hc1 hc2 hd k2
  · cases h
theorem F0_mon (lsC : Array Slot) (st : List Value) : (F0 mid pc lsC st).monitorRoom = 0 := rfl
theorem vs_obj {idx : Nat} (C : vCtx p s mid args meth c E A l0 m) (hd : decode (mB m) pc = .ok (.invokespecial idx, 3)) (hw : Cond.methodLink (oN (mO m)) idx objectInit ∈ vgood) (hR : mF m ≤ Rm.frames ∧ mW m ≤ Rm.locals) (h : vobj m (pc + 3) ls st w = some (.inl q)) (k : vGo p l e Rm s mid args below meth c Q E A l0 n0 m q.1 q.2.1 q.2.2.1 q.2.2.2) : vGo p l e Rm s mid args below meth c Q E A l0 n0 m pc ls st w := by
  obtain ⟨hx, hb, hml, hown, hts, hK, hX, hbl, hbA, hA, hSt, hN, hnm, hlay, hsz, hl0⟩ := C
  unfold vobj at h
  split at h
  · rename_i r rest
    by_cases hi : mF m < 1 ∨ mW m < 20 ∨ 8 < vcats rest
    · rw [if_pos hi] at h; cases h
    · rw [if_neg hi] at h
      rw [vnx_eq h] at k
      intro lsC H locs hl hr
      refine W.objInit (g := F0 mid pc lsC (.ref (eAd E r) :: rest.map (vcv (eAd E)))) hx hb hown (hts _ hw) (hts _ vw_oi) (hts _ vw_oc) rfl (by rw [hml]; exact hl.1.1) rfl hd (by omega) ?_ (k lsC H locs hl hr)
      rw [F0_mon, vcv_cats]
      omega
  · cases h
/-- jumps -/
theorem vs_tab {d lo hi : Int} {offs : Array Int} {len : Nat} (C : vCtx p s mid args meth c E A l0 m) (hd : decode (mB m) pc = .ok (.tableswitch d lo hi offs, len)) (h : vtab pc d lo hi offs ls st w = some (.inl q)) (k : vGo p l e Rm s mid args below meth c Q E A l0 n0 m q.1 q.2.1 q.2.2.1 q.2.2.2) : vGo p l e Rm s mid args below meth c Q E A l0 n0 m pc ls st w := by
  obtain ⟨hx, hb, -⟩ := C
  unfold vtab at h
  split at h
  · rename_i x rest
    by_cases hi : x.toInt < lo ∨ hi < x.toInt
    · rw [if_pos hi] at h
      obtain ⟨tgt, ht, hq⟩ := vjmp_eq h
      rw [hq] at k
      exact vs_st k fun lsC H locs cells slots kk => lv_tableOut hx hb hd hi ht kk
    · rw [if_neg hi] at h
      split at h
      · rename_i off ho
        obtain ⟨tgt, ht, hq⟩ := vjmp_eq h
        rw [hq] at k
        exact vs_st k fun lsC H locs cells slots kk => lv_tableIn hx hb hd (fun z => hi (Or.inl z)) (fun z => hi (Or.inr z)) ho ht kk
      · cases h
  · cases h
theorem vbr_eq {b : Bool} {off : Int} {ls' st' : List Value} {w' : vW} (h : vbr b pc off ls' st' w' = some (.inl q)) : ∃ tgt : Nat, (pc : Int) + off = (tgt : Int) ∧ (b = true → q = (tgt, ls', st', w')) ∧ (b = false → q = (pc + 3, ls', st', w')) := by
  unfold vbr at h
  by_cases hz : 0 ≤ (pc : Int) + off
  · rw [if_pos hz] at h
    refine ⟨((pc : Int) + off).toNat, (Int.toNat_of_nonneg hz).symm, fun hb => ?_, fun hb => ?_⟩
    · rw [if_pos hb] at h; exact vnx_eq h
    · rw [if_neg (by rw [hb]; decide)] at h; exact vnx_eq h
  · rw [if_neg hz] at h; cases h
theorem vs_if {cd : Jvm.ClassFile.Cond} {off : Int} (C : vCtx p s mid args meth c E A l0 m) (hd : decode (mB m) pc = .ok (.ifCond cd off, 3)) {x : Int32} {rest : List Value} (h : vbr (vcmp0 cd x) pc off ls rest w = some (.inl q)) (k : vGo p l e Rm s mid args below meth c Q E A l0 n0 m q.1 q.2.1 q.2.2.1 q.2.2.2) : vGo p l e Rm s mid args below meth c Q E A l0 n0 m pc ls (.int x :: rest) w := by
  obtain ⟨hx, hb, -⟩ := C
  obtain ⟨tgt, ht, h1, h2⟩ := vbr_eq h
  by_cases hc : vcmp0 cd x = true
  · rw [h1 hc] at k
    refine vs_st k fun lsC H locs cells slots kk => ?_
    cases cd <;> simp only [vcmp0, decide_eq_true_eq] at hc
    · exact lv_if_eq hx hb hd ht (fun _ => kk) (fun z => absurd hc z)
    · exact lv_if_ne hx hb hd ht (fun _ => kk) (fun z => absurd z hc)
    · exact lv_if_lt hx hb hd ht (fun _ => kk) (fun z => absurd hc z)
    · exact lv_if_ge hx hb hd ht (fun _ => kk) (fun z => absurd hc z)
    · exact lv_if_gt hx hb hd ht (fun _ => kk) (fun z => absurd hc z)
    · exact lv_if_le hx hb hd ht (fun _ => kk) (fun z => absurd hc z)
  · rw [h2 (by simpa using hc)] at k
    refine vs_st k fun lsC H locs cells slots kk => ?_
    cases cd <;> simp only [vcmp0, decide_eq_true_eq] at hc
    · exact lv_if_eq hx hb hd ht (fun z => absurd z hc) (fun _ => kk)
    · exact lv_if_ne hx hb hd ht (fun z => absurd z hc) (fun _ => kk)
    · exact lv_if_lt hx hb hd ht (fun z => absurd z hc) (fun _ => kk)
    · exact lv_if_ge hx hb hd ht (fun z => absurd z hc) (fun _ => kk)
    · exact lv_if_gt hx hb hd ht (fun z => absurd z hc) (fun _ => kk)
    · exact lv_if_le hx hb hd ht (fun z => absurd z hc) (fun _ => kk)
theorem vs_ic {cd : Jvm.ClassFile.Cond} {off : Int} (C : vCtx p s mid args meth c E A l0 m) (hd : decode (mB m) pc = .ok (.if_icmp cd off, 3)) {x y : Int32} {rest : List Value} (h : vbr (vcmp cd x y) pc off ls rest w = some (.inl q)) (k : vGo p l e Rm s mid args below meth c Q E A l0 n0 m q.1 q.2.1 q.2.2.1 q.2.2.2) : vGo p l e Rm s mid args below meth c Q E A l0 n0 m pc ls (.int y :: .int x :: rest) w := by
  obtain ⟨hx, hb, -⟩ := C
  obtain ⟨tgt, ht, h1, h2⟩ := vbr_eq h
  by_cases hc : vcmp cd x y = true
  · rw [h1 hc] at k
    refine vs_st k fun lsC H locs cells slots kk => ?_
    cases cd <;> simp only [vcmp, decide_eq_true_eq] at hc
    · exact lv_icmp_eq hx hb hd ht (fun _ => kk) (fun z => absurd hc z)
    · exact lv_icmp_ne hx hb hd ht (fun _ => kk) (fun z => absurd z hc)
    · exact lv_icmp_lt hx hb hd ht (fun _ => kk) (fun z => absurd hc z)
    · exact lv_icmp_ge hx hb hd ht (fun _ => kk) (fun z => absurd hc z)
    · exact lv_icmp_gt hx hb hd ht (fun _ => kk) (fun z => absurd hc z)
    · exact lv_icmp_le hx hb hd ht (fun _ => kk) (fun z => absurd hc z)
  · rw [h2 (by simpa using hc)] at k
    refine vs_st k fun lsC H locs cells slots kk => ?_
    cases cd <;> simp only [vcmp, decide_eq_true_eq] at hc
    · exact lv_icmp_eq hx hb hd ht (fun z => absurd z hc) (fun _ => kk)
    · exact lv_icmp_ne hx hb hd ht (fun z => absurd z hc) (fun _ => kk)
    · exact lv_icmp_lt hx hb hd ht (fun z => absurd z hc) (fun _ => kk)
    · exact lv_icmp_ge hx hb hd ht (fun z => absurd z hc) (fun _ => kk)
    · exact lv_icmp_gt hx hb hd ht (fun z => absurd z hc) (fun _ => kk)
    · exact lv_icmp_le hx hb hd ht (fun z => absurd z hc) (fun _ => kk)
end VSIM
