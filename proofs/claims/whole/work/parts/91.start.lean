/-! THE CLAIM OUT OF ONE WALK OF THE LAW'S BODY. Your part is whole_start (and what it stands on); all else here is the same for every law, but numbers. -/
def R_law : String := "HeirHalvesLaw"
def lw_P (b : Addr) (xs : List Int32) (args : Array Value) (s : State) : Prop := args = #[.ref b] ∧ s.IntsAt b xs ∧ xs.length ≤ 3072 ∧ (Jvm.Cond.and given_1 narrow_1).before args s = true
def lw_Q (_ : Array Value) (s : State) (o : Outcome) (t : State) : Prop := o = .returned (some (.int 1)) ∧ Framed s o t [] 54 25204
def lw_Z (below : List Frame) (a : Array Value) (s : State) : State → Prop := fun t => ∃ o, t.status = .running ∧ Ended t below o ∧ lw_Q a s o t
/-- the law's own end, with 1 on the stack, nothing written that was there before, its room as the claim has it -/
theorem lw_ret {p : Program} {l : Launch} {e : Env} {s : State} {m : MethodId} {below : List Frame} {meth : Method} {c : Code} {b : Nat} (hx : p.tables.exec = Jvm.exec) (hb : c.code = code) (hr : meth.sig.returnType = ret) (hlocks : meth.locks = false) {pc : Nat} {H : Heap} {ls : Array Slot} (hdg : decode code pc = .ok (.ireturn, 1)) : W p l e room_1 s m #[Value.ref b] below meth c H [] 54 25204 (lw_Z below #[Value.ref b] s) (F0 m pc ls [.int 1]) := by
  intro T hT X
  obtain ⟨fs, hret, hrun, hended, hW, hframe⟩ := X.leave (v := some (.int 1)) (hlocks := hlocks) (fun h => by rw [hr] at h; cases h)
  have hmeth' : T.vm.method? m = some meth := X.method'
  refine ⟨T.setFrames fs, ?_, .returned (some (.int 1)), hrun, hended, rfl, ⟨_, rfl⟩, hW, hframe⟩
  jvm_step X.here [X.here.top, hx, hb, hdg, hmeth', hr, ret, narrow_b1]
  (try refine ⟨rfl, ?_⟩); (try refine ⟨rfl, ?_⟩)
  first | (intro acts; rw [hret _ acts rfl rfl rfl]) | rw [hret _ _ rfl rfl rfl]
  exact Steps.refl _
/-- what holds at the law's entry: the machine, the code, the tables' words (any of lw_tbl by 'hts w (by decide +kernel)'), the script of L ints xs at the cell b, what the Statement gives of the start (any of its parts by flat_of_before) -/
def lw_At (p : Program) (s : State) (m : MethodId) (meth : Method) (c : Code) (b L : Nat) (xs : Nat → Int32) : Prop :=
  p.tables.exec = Jvm.exec ∧ c.code = code ∧ meth.sig.returnType = ret ∧ c.maxLocals = 4 ∧ s.vm.findClass R_law = some m.cls ∧ (∀ w ∈ lw_tbl, w.before #[Value.ref b] s = true) ∧ va_X b L xs s s.heap ∧ b < s.heap.size ∧ meth.locks = false ∧ (Jvm.Cond.and given_1 narrow_1).before #[Value.ref b] s = true ∧ meth.name = "law"
theorem law_ssz (L : Nat) : vssz (SH L) = 25204 := by
  show ((SHt.map vsz1)).sum = 25204
  decide +kernel
theorem law_len (L : Nat) : (SH L).length = 55 := by
  show (SHt.length + 1) = 55
  decide +kernel
def vad (b S : Nat) (adK : Nat → Nat) : Nat → Nat := fun k => if k = 0 then b else if k < 1000 then S + k - 1 else adK (k - 1000)
theorem fl_1 : ∀ i, i < 12 → Cond.exactly (.string "HeirHalves$Tape" (sTab.getD i (0, "")).1) "java/lang/String" ∈ flatC (Jvm.Cond.and given_1 narrow_1) := by decide +kernel
theorem fl_2 : ∀ i, i < 12 → Cond.eq (.field (.string "HeirHalves$Tape" (sTab.getD i (0, "")).1) "java/lang/String" "coder" "B") (.int 0) ∈ flatC (Jvm.Cond.and given_1 narrow_1) := by decide +kernel
theorem fl_3 : ∀ i, i < 12 → Cond.arrayOf (.field (.string "HeirHalves$Tape" (sTab.getD i (0, "")).1) "java/lang/String" "value" "[B") .byte ∈ flatC (Jvm.Cond.and given_1 narrow_1) := by decide +kernel
theorem fl_4 : ∀ i, i < 12 → Cond.eq (.length (.field (.string "HeirHalves$Tape" (sTab.getD i (0, "")).1) "java/lang/String" "value" "[B")) (.int (Int32.ofNat (sLens.getD i 0))) ∈ flatC (Jvm.Cond.and given_1 narrow_1) := by decide +kernel
theorem fl_5 : ∀ i, i < 12 → ∀ j, j < sLens.getD i 0 → Cond.eq (.elem (.field (.string "HeirHalves$Tape" (sTab.getD i (0, "")).1) "java/lang/String" "value" "[B") (.int (Int32.ofNat j))) (.int ((sByts.getD i []).getD j 0)) ∈ flatC (Jvm.Cond.and given_1 narrow_1) := by decide +kernel
theorem fl_6 : ∀ i, i < 12 → ∀ j, j < 12 → i ≠ j → Cond.not (Cond.eq (.string "HeirHalves$Tape" (sTab.getD i (0, "")).1) (.string "HeirHalves$Tape" (sTab.getD j (0, "")).1)) ∈ flatC (Jvm.Cond.and given_1 narrow_1) ∨ Cond.not (Cond.eq (.string "HeirHalves$Tape" (sTab.getD j (0, "")).1) (.string "HeirHalves$Tape" (sTab.getD i (0, "")).1)) ∈ flatC (Jvm.Cond.and given_1 narrow_1) := by decide +kernel
theorem fl_7 : Cond.eq (.static "java/lang/String" "COMPACT_STRINGS" "Z") (.int 1) ∈ flatC (Jvm.Cond.and given_1 narrow_1) := by decide +kernel
theorem fl_8 : Cond.isRef (.static "jdk/internal/util/Preconditions" "SIOOBE_FORMATTER" "Ljava/util/function/BiFunction;") ∈ flatC (Jvm.Cond.and given_1 narrow_1) := by decide +kernel
theorem fl_9 : ∀ i, i < 12 → Cond.stringRef "HeirHalves$Tape" (sTab.getD i (0, "")).1 (sTab.getD i (0, "")).2 ∈ tables_1 := by decide +kernel
theorem fl_a : Cond.laysStatic "java/lang/String" "COMPACT_STRINGS" "Z" ∈ tables_1 := by decide +kernel
theorem fl_b : Cond.laysStatic "jdk/internal/util/Preconditions" "SIOOBE_FORMATTER" "Ljava/util/function/BiFunction;" ∈ tables_1 := by decide +kernel
theorem in_tbl {w : Cond} (h : w ∈ tables_1) : w ∈ lw_tbl := List.mem_append_right _ h
theorem whole_start {p : Program} {e : Env} {s : State} {m : MethodId} {below : List Frame} {meth : Method} {c : Code} (l : Launch) (hflags : l.flags = flags0) {b L : Nat} {xs : Nat → Int32} (hL : L ≤ 3072) (C0 : lw_At p s m meth c b L xs) : W p l e room_1 s m #[Value.ref b] below meth c s.heap [] 0 0 (lw_Z below #[Value.ref b] s) (entryFrame m ([Value.ref b] : List Value).toArray 4) := by
  obtain ⟨hx, hb, hr, hml, hown, hts, hX, hbl, hlocks, hgv, hnm⟩ := id C0
  have hs := flat_of_before _ hgv
  have hg : ∀ w ∈ vgood, w.before #[Value.ref b] s = true := fun w hw => hts w (vgood_in w hw)
  have hA : ∀ q : Nat, s.heap.size ≤ q → (fun q : Nat => s.heap.size ≤ q) q := fun _ h => h
  have hA2 : ∀ a : Nat, a < s.heap.size → ¬ (fun q : Nat => s.heap.size ≤ q) a := fun a h z => Nat.not_le.mpr h z
  -- the classes
  have kn : ∀ (k : Nat) (q : vw_C), vwCl[k]? = some q → ∃ (cC : ClassId) (iS : Nat → Nat), u_Kn s q.1 q.2.1 q.2.2 cC iS := by
    intro k q hq
    match k, hq with
    | 0, hq => cases hq; exact u_known hg vlay0 (hg _ (show Cond.instantiable RX0 2 ∈ vgood from vgood_of (List.mem_of_getElem? (i := 222) (by decide +kernel)) rfl))
    | 1, hq => cases hq; exact u_known hg vlay1 (hg _ (show Cond.instantiable RX1 8 ∈ vgood from vgood_of (List.mem_of_getElem? (i := 190) (by decide +kernel)) rfl))
    | 2, hq => cases hq; exact u_known hg vlay2 (hg _ (show Cond.instantiable RX2 10 ∈ vgood from vgood_of (List.mem_of_getElem? (i := 132) (by decide +kernel)) rfl))
    | 3, hq => cases hq; exact u_known hg vlay3 (hg _ (show Cond.instantiable RX3 3 ∈ vgood from vgood_of (List.mem_of_getElem? (i := 264) (by decide +kernel)) rfl))
    | 4, hq => cases hq; exact u_known hg vlay4 (hg _ (show Cond.instantiable RX4 7 ∈ vgood from vgood_of (List.mem_of_getElem? (i := 235) (by decide +kernel)) rfl))
    | 5, hq => cases hq; exact u_known hg vlay5 (hg _ (show Cond.instantiable RX5 10 ∈ vgood from vgood_of (List.mem_of_getElem? (i := 124) (by decide +kernel)) rfl))
    | 6, hq => cases hq; exact u_known hg vlay6 (hg _ (show Cond.instantiable RX6 24 ∈ vgood from vgood_of (List.mem_of_getElem? (i := 869) (by decide +kernel)) rfl))
    | k + 7, hq => cases hq
  have kn2 : ∀ k : Nat, ∃ z : ClassId × (Nat → Nat), ∀ q : vw_C, vwCl[k]? = some q → u_Kn s q.1 q.2.1 q.2.2 z.1 z.2 := by
    intro k
    cases hq : vwCl[k]? with
    | none => exact ⟨(0, fun _ => 0), fun q h => by cases h⟩
    | some q =>
      obtain ⟨cC, iS, h⟩ := kn k q hq
      exact ⟨(cC, iS), fun q2 h2 => by cases h2; exact h⟩
  obtain ⟨dz, hdz⟩ := Classical.axiomOfChoice kn2
  obtain ⟨cI, kA, comp, a1, a2, a3⟩ := Cond.arrayClass_spec (hg _ vw_ar)
  have hK : va_K (fun k => (dz k).1, fun k => (dz k).2) vwCl [(cI, .int)] s := by
    refine ⟨fun k q hq => hdz k q hq, fun k q hq => ?_⟩
    cases k with
    | zero =>
      cases hq
      exact ⟨fun n z => ⟨fun k h => (by cases h), kA, a2, comp, a3⟩, a1⟩
    | succ k => cases hq
  -- the strings
  obtain ⟨adK, adV, hVS, hev⟩ := vk_Sof (args := #[Value.ref b]) (s := s) (N := 12) (tm := fun i => .string "HeirHalves$Tape" (sTab.getD i (0, "")).1) (len := sLens) (byt := sByts) (A := fun q : Nat => s.heap.size ≤ q) (fun i hi => Nat.lt_trans (sl_ok i hi).1 (by decide)) (fun i hi => hs _ (fl_1 i hi)) (fun i hi => hs _ (fl_2 i hi)) (fun i hi => hs _ (fl_3 i hi)) (fun i hi => hs _ (fl_4 i hi)) (fun i hi j hj => hs _ (fl_5 i hi j hj))
    (fun i j hi hj hij => (fl_6 i hi j hj hij).elim (fun h => Or.inl (hs _ h)) (fun h => Or.inr (hs _ h))) hA2
  have hadK : (fun i => vad b s.heap.size adK (1000 + i)) = adK := by
    funext i
    unfold vad
    rw [if_neg (by omega), if_neg (by omega), Nat.add_sub_cancel_left]
  let E : vEv := (vad b s.heap.size adK, adV, cI, (fun k => (dz k).1, fun k => (dz k).2), s.heap.size, L, xs)
  have hStr : vStr E (fun q : Nat => s.heap.size ≤ q) s s.heap := by
    refine ⟨?_, fun i hi => ?_, va_Zof (hts _ (in_tbl fl_a)) (hg _ kn_String) (va_eqi (hs _ fl_7)) hA2, va_Zqof (hts _ (in_tbl fl_b)) (hg _ kn_Preconditions) (hs _ fl_8) hA2⟩
    · show vk_S 12 sLens sByts (fun i => vad b s.heap.size adK (1000 + i)) adV _ s s.heap
      rw [hadK]
      exact hVS
    · have e1 : eAd E (1000 + i) = adK i := congrFun hadK i
      rw [e1]
      exact vk_R.of (hts _ (in_tbl (fl_9 i hi))) (hev i hi)
  have hNst : vNst s := fun w hw => by
    obtain ⟨h1, h2⟩ := List.mem_filter.mp hw
    exact va_Nw.of (A := #[Value.ref b]) (by cases w <;> first | rfl | cases h2) (hts w h1)
  have hlay : ∀ k, 0 < k → k < 1000 → eAd E k + 1 = eS E + k := by
    intro k h0 h1
    show vad b s.heap.size adK k + 1 = s.heap.size + k
    unfold vad
    rw [if_neg (by omega), if_pos h1]
    omega
  have C : vCtx p s m #[Value.ref b] meth c E (fun q : Nat => s.heap.size ≤ q) 1 230 := ⟨hx, hb, hml, hown, hg, hK, hX, hbl, Nat.not_le.mpr hbl, hA, hStr, hNst, hnm, hlay, rfl, Nat.le_refl _⟩
  obtain ⟨M, hR⟩ := law_true L xs hL
  obtain ⟨f, hf⟩ := R_iff.mp hR
  have go := vSim (c_yLen l) (c_yCh l) f 230 0 [.ref 0, .null, .null, .null] [] ([.inl L], fun _ => xs) (SH L, M) (some (.int 1)) hf (by rw [law_len]; decide) p e room_1 s m #[Value.ref b] below meth c (lw_Z below #[Value.ref b] s) E (fun q : Nat => s.heap.size ≤ q) 1 0 C (by decide +kernel) (by rw [law_len]; decide) (by rw [law_ssz]; decide) ?_
  · have hl := lv_entry ([.ref b]) (n := 4) (Nat.le_of_ble_eq_true rfl)
    rw [lg_entry_eq]
    generalize (lg_sl ([.ref b] : List Value) ++ List.replicate (4 - (lg_sl ([.ref b] : List Value)).length) Slot.unset).toArray = ls at hl ⊢
    refine go ls s.heap [] ⟨lv_more hl ?_, rfl, Or.inr rfl⟩ ⟨fun k q h => by simp [vws] at h, ⟨fun i j p q h => by simp [vws] at h, fun k q h => by simp [vws] at h⟩, va_S.rf, rfl, rfl, Nat.le_refl _, Nat.zero_le _⟩
    intro q hq
    obtain ⟨v, h1, h2, h3⟩ := vlv_mem.mp hq
    obtain ⟨k, u⟩ := q
    simp only at h1 h3
    match k, h1 with
    | 0, h1 =>
      cases h1
      rw [h3]
      exact List.mem_cons_self
    | 1, h1 => cases h1; exact absurd rfl h2
    | 2, h1 => cases h1; exact absurd rfl h2
    | 3, h1 => cases h1; exact absurd rfl h2
    | k + 4, h1 => cases h1
  · intro pc' lsC H locs hrp hret
    rcases hret with ⟨v, hv, hd, -⟩ | ⟨v, hv, -⟩ | ⟨v, hv, -⟩ | ⟨hv, -⟩
    · cases hv
      rw [law_len, law_ssz]
      refine va_forget hrp.2.2.1.2.2 ?_
      exact lw_ret hx hb hr hlocks hd
    · cases hv
    · cases hv
    · cases hv
-- ===== YOUR PART ENDS =====
set_option maxHeartbeats 4000000 in
theorem lw_walk (l : Launch) (hflags : l.flags = flags0) (b : Addr) (xs : List Int32) : MetFree l x (headSpec (Jvm.Cond.code x code maxLocals ret :: tables_1) room_1) (lw_P b xs) (fun _ _ _ _ _ => True) lw_Q := by
  refine MetFree.of_bodyS (code := code) (maxLocals := maxLocals) (ret := ret) (by decide) ?_ ?_
  · intro args s m h hn
    obtain ⟨meth, c, h1, h2, h3, h4, h5, h6, -, -⟩ := Cond.code_spec hn (atoms_spec (ws := Jvm.Cond.code x code maxLocals ret :: tables_1) h _ List.mem_cons_self)
    exact ⟨meth, c, h1, h2, h3, h4, h5, h6⟩
  · intro p e s m args below meth c s₁ B hml0 hP _
    obtain ⟨rfl, hx, hbd, hgv⟩ := hP
    obtain ⟨scr, harrAt, hlist, hof, hsmall⟩ := hx
    obtain ⟨hcb, hkn, -, -⟩ := State.arrayAt?_spec harrAt
    have hown : s.vm.findClass R_law = some m.cls := findClass_of_methodNamed B.named
    have hts0 : ∀ c ∈ (Jvm.Cond.code x code maxLocals ret :: tables_1), c.before #[Value.ref b] s = true := atoms_spec (ws := Jvm.Cond.code x code maxLocals ret :: tables_1) B.pre
    have hts : ∀ w ∈ lw_tbl, w.before #[Value.ref b] s = true := k2_hts_sels lw_privs (fun w hw => hts0 w (List.mem_cons_of_mem _ hw)) lw_privs_ok
    have hml : c.maxLocals = 4 := B.maxLocals_eq (hts0 _ List.mem_cons_self)
    have X₀ : Stand p l e room_1 s m #[Value.ref b] below meth c s₁ [] 0 0 := Stand.of_body B
    have hh0 : s₁.heap = s.heap := by rw [B.state]; rfl
    have hsz : scr.slots.size = xs.length := by rw [← Array.length_toList, hlist, List.length_map]
    have hval : ∀ j : Nat, j < xs.length → scr.slots[j]? = some (.int (xs.getD j 0)) := fun j hj => by
      rw [← Array.getElem?_toList, hlist]
      simp [hj]
    have hbl : b < s.heap.size := (Array.getElem?_eq_some_iff.mp hcb).1
    have hX : va_X b xs.length (fun j => xs.getD j 0) s s.heap := ⟨scr, hcb, hof, hkn, hsz, hval⟩
    have K : W p l e room_1 s m #[Value.ref b] below meth c s₁.heap [] 0 0 (lw_Z below #[Value.ref b] s) (entryFrame m ([Value.ref b] : List Value).toArray 4) := by
      rw [hh0]
      exact whole_start l hflags hbd ⟨B.exec, B.bytes, B.returns, hml, hown, hts, hX, hbl, B.notSynchronized, hgv, (name_of_methodNamed B.named B.method).1⟩
    obtain ⟨t, a1, o, b1, b2, b3⟩ := K s₁ rfl X₀
    exact ⟨t, o, a1, b1, b2, b3⟩
theorem lw_pre_spec {args : Array Value} {s : State} (h : (Jvm.Cond.and given_1 narrow_1).before args s = true) (hr : rest_1_c.before args s = true) : ∃ (b : Addr) (xs : List Int32), lw_P b xs args s := by
  have hs := flat_of_before _ h
  have hq := flat_of_before _ hr
  have hc : (Cond.count 1).before args s = true := hs _ (by decide +kernel)
  have harr : (Cond.arrayOf (.arg 0) .int).before args s = true := hs _ (by decide +kernel)
  have hle : (Cond.le (.length (.arg 0)) (.int 3072)).before args s = true := hs _ (by decide +kernel)
  have hlen : (Cond.isInt (.length (.arg 0))).before args s = true := hq _ (by decide +kernel)
  have hall : (Cond.all (.arg 0) (.isInt (.elem (.arg 0) (.index 0)))).before args s = true := hq _ (by decide +kernel)
  obtain ⟨b, xs, hb, hx⟩ := State.ints_of_pre rfl harr hlen hall
  have hsm : xs.length < 2 ^ 31 := hx.choose_spec.2.2.2
  have hev : (Term.length (.arg 0)).eval args s none [] s = some (.int xs.length.toInt32) := hx.length_eval hb
  have hv := Cond.le_ints hev (show (Term.int 3072).eval args s none [] s = some (.int 3072) from rfl)
  have hd : xs.length.toInt32 ≤ 3072 := by
    simpa [Cond.before, Cond.holds, hv] using hle
  have hN : xs.length ≤ 3072 := (Int32.ofNat_le_ofNat hsm (by decide)).mp (show Int32.ofNat xs.length ≤ Int32.ofNat 3072 from hd)
  exact ⟨b, xs, Cond.one_arg hc (show args[0]? = some (.ref b) from hb), hx, hN, h⟩
theorem lw_comes (l : Launch) (hflags : l.flags = flags0) : Comes l x (Jvm.Cond.code x code maxLocals ret :: tables_1) room_1 (fun tb e args s => Calls_1 tb e args s ∧ rest_1 tb e args s ∧ Pre_1 tb e args s)
    (fun _ _ args s o t => lw_Q args s o t) := by
  intro p e ha hc hk s m args below hf hfit hheap happ hpre
  obtain ⟨b, xs, hP⟩ := lw_pre_spec hpre.2.2 hpre.2.1
  obtain ⟨k, o, h1, h2, h3, hQ⟩ := lw_walk l hflags b xs p e ha hc hk s m args below hf ((Spec.applies_iff_loose hf).mp happ).1 hP trivial
  exact ⟨k, o, h1, h2, h3, hQ⟩
theorem lw_frame {s t : State} {o : Outcome} {args : Array Value} (h : Framed s o t [] 54 25204) :
    Framed s o t (fieldLocs frame_1_writes args s ++ arrayLocs frame_1_arrays args s ++ staticLocs frame_1_statics s) 54 25204 := h
theorem lw_limb (L : Cond) (hL : ∀ (args : Array Value) (s t : State), L.after args s (.returned (some (.int 1))) t = true) :
    ArmFor flags0 classFile x code maxLocals ret World_1 tables_1 room_1 Calls_1 rest_1 Pre_1
      (fun tb e a s o t => postC L tb e a s o t ∧ Framed s o t (fieldLocs frame_1_writes a s ++ arrayLocs frame_1_arrays a s ++ staticLocs frame_1_statics s) 54 25204) := by
  intro l hflags _ _ p e ha hc hk s m args below hf hfit hheap happ hpre
  obtain ⟨k, o, h1, h2, h3, rfl, hF⟩ := lw_comes l hflags p e ha hc hk s m args below hf hfit hheap happ hpre
  exact ⟨k, _, h1, h2, h3, hL args s _, lw_frame hF⟩
theorem i_vc : Claimed_1_1 ∧ Claimed_1_2 := ⟨lw_limb limb_1_1 (fun args s t => by simp [limb_1_1, Cond.after, Cond.holds, Cond.value]), lw_limb limb_1_2 (fun args s t => Cond.after_iff.mpr (by
  first | (rw [show limb_1_2 = Cond.eq .result (.int 1) from rfl, Cond.eq_ints (x := 1) (y := 1) rfl rfl]; simp; done) | (simp [limb_1_2, Cond.value, Term.eval]; done)))⟩
