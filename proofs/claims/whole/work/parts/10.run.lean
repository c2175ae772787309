/-! A run of the small machine is a run of the machine -/
theorem exec_len : ∀ (f m pc : Nat) (ls st : List Value) (w : vW) (r : Option Value × vW), exec f m pc ls st w = some r → w.1.length ≤ r.2.1.length ∧ vssz w.1 ≤ vssz r.2.1 := by
  intro f
  induction f with
  | zero => intro m pc ls st w r h; cases h
  | succ f ih =>
    intro m pc ls st w r h
    rw [exec] at h
    cases hs : vstep m pc ls st w with
    | none => rw [hs] at h; cases h
    | some q =>
      rw [hs] at h
      have hs2 := hs
      unfold vstep at hs2
      cases hd : decode (mB m) pc with
      | error e => rw [hd] at hs2; cases hs2
      | ok z =>
        obtain ⟨i, n⟩ := z
        rw [hd] at hs2
        rcases q with q | q | q
        · have h1 := vMono_all q hs2
          have h2 := ih _ _ _ _ _ _ h
          exact ⟨Nat.le_trans h1.1 h2.1, Nat.le_trans h1.2 h2.2⟩
        · obtain ⟨t', as, q⟩ := q
          have hk := vKind_all hd hs2
          rcases hk with ⟨x, hx⟩ | ⟨t, idx, hc, hv⟩ | ⟨v, hv, -⟩
          · cases hx
          · obtain ⟨rfl, has, rfl, -⟩ := vcall_eq hv
            simp only at h
            cases he : exec f t' 0 (vent t' as) [] w with
            | none => rw [he] at h; cases h
            | some r1 =>
              rw [he] at h
              have h1 := ih _ _ _ _ _ _ he
              have h2 := ih _ _ _ _ _ _ h
              exact ⟨Nat.le_trans h1.1 h2.1, Nat.le_trans h1.2 h2.2⟩
          · cases hv
        · cases h
          exact ⟨Nat.le_refl _, Nat.le_refl _⟩
def vSimAt (l : Launch) (f : Nat) : Prop := ∀ (m pc : Nat) (ls st : List Value) (w w' : vW) (r : Option Value), exec f m pc ls st w = some (r, w') → w'.1.length ≤ 1000 →
  ∀ (p : Program) (e : Env) (Rm : Room) (s : State) (mid : MethodId) (args : Array Value) (below : List Frame) (meth : Method) (c : Code) (Q : State → Prop) (E : vEv) (A : Nat → Prop) (l0 n0 : Nat), vCtx p s mid args meth c E A l0 m → (mF m ≤ Rm.frames ∧ mW m ≤ Rm.locals) → w'.1.length - l0 ≤ Rm.cells → vssz w'.1 - n0 ≤ Rm.slots →
  (∀ (pc' : Nat) (lsC : Array Slot) (H : Heap) (locs : List Loc), vRp E A s.heap l0 n0 w' H locs → vRet m pc' r → W p l e Rm s mid args below meth c H locs (w'.1.length - l0) (vssz w'.1 - n0) Q (F0 mid pc' lsC (r.toList.map (vcv (eAd E))))) → vGo p l e Rm s mid args below meth c Q E A l0 n0 m pc ls st w
theorem vMet_of {l : Launch} {f t : Nat} {as : List Value} {w w' : vW} {r : Option Value} (IH : vSimAt l f) (he : exec f t 0 (vent t as) [] w = some (r, w')) (hw : w'.1.length ≤ 1000) (F : tFact t) (hg : mG t = true ∨ as.all (fun v => !vlong v) = true) (hv : vcats as ≤ mL t) (E : vEv) : vMet l E t as w w' r := by
  have hmono := exec_len _ _ _ _ _ _ _ he
  obtain ⟨f1, f2, f3, f6, f7, f8⟩ := F
  refine Met.ofW (cc := mB t) (maxL := mL t) (ret := mR t) f6 rfl ?_
  intro p e s mid args below meth c s₁ B hml hpc
  obtain ⟨rfl, hP, hD0, hK, hsz, hX, hbl, hbA, hSt, hN, hz0, hz1, hl1, hlay⟩ := hpc
  have hts0 := atoms_spec (ws := .code (mN t) (mB t) (mL t) (mR t) :: vgood) B.pre
  have hts : ∀ x ∈ vgood, x.before (as.map (vcv (eAd E))).toArray s = true := fun x hx => hts0 x (List.mem_cons_of_mem _ hx)
  have hA1 : vA1 E w = va_A (vws (eAd E) (eI E) w) s.heap.size := by
    unfold vA1
    rw [← hsz, Nat.add_sub_cancel]
  have hA : ∀ q : Nat, s.heap.size ≤ q → vA1 E w q := fun q hq => by rw [hA1]; exact Or.inr hq
  have C : vCtx p s mid (as.map (vcv (eAd E))).toArray meth c E (vA1 E w) w.1.length t := ⟨B.exec, B.bytes, hml, by rw [f7]; exact findClass_of_methodNamed B.named, hts, hK, hX, hbl, by rw [hA1]; exact hbA, hA, by rw [hA1]; exact hSt, hN, (name_of_methodNamed B.named B.method).1, hlay, hsz, hl1⟩
  rw [lg_entry_eq]
  have hr0 : vRp E (vA1 E w) s.heap w.1.length (vssz w.1) w s.heap [] := ⟨hP, by rw [hA1]; exact hD0.self, va_S.rf, hz0, hz1, Nat.le_refl _, Nat.le_refl _⟩
  have go := IH t 0 (vent t as) [] w w' r he hw p e (headSpec (.code (mN t) (mB t) (mL t) (mR t) :: vgood) (vRm t w w')).room s mid (as.map (vcv (eAd E))).toArray below meth c (MQ below (vQc E w w' r) (as.map (vcv (eAd E))).toArray s (w'.1.length - w.1.length) (vssz w'.1 - vssz w.1) (vA1 E w)) E (vA1 E w) w.1.length (vssz w.1) C ⟨Nat.le_refl _, Nat.le_refl _⟩ (Nat.le_refl _) (Nat.le_refl _) ?_
  · have k := go _ s.heap [] (vent_ok t (eAd E) as hg hv) hr0
    rw [Nat.sub_self, Nat.sub_self] at k
    exact k
  · intro pc' lsC H locs hr hret
    obtain ⟨q1, q2, q3, q4, q5, q6, q7⟩ := hr
    have post : ∀ t' : State, t'.heap = H → vQc E w w' r (as.map (vcv (eAd E))).toArray s (.returned (r.map (vcv (eAd E)))) t' := fun t' ht => ⟨rfl, by rw [ht]; exact q1, q2, q3.F ht, q4, q5, hmono.1, hmono.2⟩
    rcases hret with ⟨v, rfl, hd, hm⟩ | ⟨v, rfl, hd, hm⟩ | ⟨v, rfl, hd, hm⟩ | ⟨rfl, hd, hm⟩
    · rcases hm with hm | ⟨hm, hv01⟩
      · exact W.iret B.exec B.bytes (by rw [B.returns, hm]) (fun t' ht _ => post t' ht) q3.2.2 hd B.notSynchronized
      · refine W.zret (ty := .boolean) B.exec B.bytes (by rw [B.returns, hm]) ?_ (fun t' ht _ => post t' ht) q3.2.2 hd B.notSynchronized
        rcases hv01 with rfl | rfl <;> rfl
    · exact W.lret B.exec B.bytes (by rw [B.returns, hm]) (fun t' ht _ => post t' ht) q3.2.2 hd B.notSynchronized
    · exact W.aret B.exec B.bytes (by rw [B.returns, hm]) (Or.inr ⟨_, rfl⟩) (Or.inr ⟨_, rfl⟩) (fun t' ht _ => post t' ht) q3.2.2 hd B.notSynchronized
    · exact W.vret B.exec B.bytes (by rw [B.returns, hm]) (fun t' ht _ => post t' ht) q3.2.2 hd B.notSynchronized
theorem vSim {l : Launch} (SL : vSL l) (SC : vSC l) : ∀ f, vSimAt l f := by
  intro f
  induction f with
  | zero => intro m pc ls st w w' r h; cases h
  | succ f ih =>
    intro m pc ls st w w' r h hw p e Rm s mid args below meth c Q E A l0 n0 C hR hc1 hc2 hret lsC H locs hl hr
    have hlen := exec_len _ _ _ _ _ _ _ h
    simp only at hlen
    have hl0 := hr.2.2.2.2.2
    rw [exec] at h
    cases hs : vstep m pc ls st w with
    | none => rw [hs] at h; cases h
    | some q =>
      rw [hs] at h
      have hs2 := hs
      unfold vstep at hs2
      cases hd : decode (mB m) pc with
      | error e => rw [hd] at hs2; cases hs2
      | ok z =>
        obtain ⟨i, n⟩ := z
        rw [hd] at hs2
        rcases q with q | q | q
        · have h1 := vMono_all q hs2
          have h2 := exec_len _ _ _ _ _ _ _ h
          simp only at h2
          exact vs_all SL SC C hR (by omega) (by omega) (by omega) (by omega) hd hs2 (ih _ _ _ _ _ _ _ h hw p e Rm s mid args below meth c Q E A l0 n0 C hR hc1 hc2 hret) lsC H locs hl hr
        · obtain ⟨t', as, q⟩ := q
          rcases vKind_all hd hs2 with ⟨x, hx⟩ | ⟨t, idx, ⟨F, hcal⟩, hv⟩ | ⟨v, hv, -⟩
          · cases hx
          · obtain ⟨rfl, has, rfl, g1, g2, g3, g4, g5, g6, g7⟩ := vcall_eq hv
            simp only at h
            cases he : exec f t' 0 (vent t' as) [] w with
            | none => rw [he] at h; cases h
            | some r1 =>
              rw [he] at h
              obtain ⟨r1, w1⟩ := r1
              have h1 := exec_len _ _ _ _ _ _ _ he
              have h2 := exec_len _ _ _ _ _ _ _ h
              simp only at h1 h2
              have M := vMet_of ih he (by omega) F g5 g6 E
              have k := ih _ _ _ _ _ _ _ h hw p e Rm s mid args below meth c Q E A l0 n0 C hR hc1 hc2 hret
              rcases hcal with ⟨hd2, h99, hk⟩ | ⟨h99, hk⟩
              · exact vs_callS C hd2 F h99 hk has g1 rfl g2 (by omega) (by omega) (by omega) (by omega) (by omega) M k lsC H locs hl hr
              · rcases g7 with g7 | ⟨rr, as', fs, e1, e2, e3⟩
                · exact absurd g7 h99
                · exact vs_callV C F h99 hk has g1 rfl g2 (by omega) (by omega) e1 e2 e3 (by omega) (by omega) (by omega) M k lsC H locs hl hr
          · cases hv
        · rcases vKind_all hd hs2 with ⟨x, hx⟩ | ⟨t, idx, hc, hv⟩ | ⟨v, hv, hst, hrt⟩
          · cases hx
          · exact absurd hv (fun z => by
              unfold vcall at z
              simp only at z
              split at z
              · split at z
                · cases z
                · split at z
                  · split at z
                    · split at z <;> cases z
                    · cases z
                  · cases z
              · cases z)
          · cases hv
            cases h
            rw [hst]
            exact hret pc lsC H locs hr hrt
