/-! A small machine over numbered cells: what the class, the reference and the law do, as a function. A value's reference is a cell's number (0: the script; from 1000 on: the String constants). -/
abbrev vSh : Type := Nat ⊕ (Nat × List (Option Value))
abbrev vW : Type := List vSh × (Nat → Nat → Int32)
abbrev vS : Type := Nat × List Value × List Value × vW
abbrev vR : Type := vS ⊕ ((Nat × List Value × vS) ⊕ Option Value)
def upd2 (M : Nat → Nat → Int32) (a k : Nat) (x : Int32) : Nat → Nat → Int32 := fun b j => if b = a then (if j = k then x else M b j) else M b j
def vzero (M : Nat → Nat → Int32) (a : Nat) : Nat → Nat → Int32 := fun b j => if b = a then 0 else M b j
def vnx (pc : Nat) (ls st : List Value) (w : vW) : Option vR := some (.inl (pc, ls, st, w))
def vjmp (pc : Nat) (off : Int) (ls st : List Value) (w : vW) : Option vR := if 0 ≤ (pc : Int) + off then vnx ((pc : Int) + off).toNat ls st w else none
def vbr (b : Bool) (pc : Nat) (off : Int) (ls st : List Value) (w : vW) : Option vR := if 0 ≤ (pc : Int) + off then (if b then vnx ((pc : Int) + off).toNat ls st w else vnx (pc + 3) ls st w) else none
def vlong (v : Value) : Bool := v.category == 2
def vst1 (ml : Bool) (ls : List Value) (i : Nat) (v : Value) : Option (List Value) :=
  if i < ls.length then (if ml then (match i with | 0 => some (ls.set i v) | j + 1 => if vlong (ls.getD j .null) then none else some (ls.set i v)) else some (ls.set i v)) else none
def vst2 (ml : Bool) (ls : List Value) (i : Nat) (v : Value) : Option (List Value) :=
  if i + 1 < ls.length then (if ml then (match i with | 0 => some ((ls.set i v).set (i + 1) .null) | j + 1 => if vlong (ls.getD j .null) then none else some ((ls.set i v).set (i + 1) .null)) else none) else none
def vcmp (c : Jvm.ClassFile.Cond) (x y : Int32) : Bool := match c with
  | .eq => decide (x = y) | .ne => decide (¬ x = y) | .lt => decide (x < y) | .ge => decide (y ≤ x) | .gt => decide (y < x) | .le => decide (x ≤ y)
def vcmp0 (c : Jvm.ClassFile.Cond) (x : Int32) : Bool := match c with
  | .eq => decide (x = 0) | .ne => decide (¬ x = 0) | .lt => decide (x < 0) | .ge => decide (0 ≤ x) | .gt => decide (0 < x) | .le => decide (x ≤ 0)
def vcats (st : List Value) : Nat := (st.map fun v => v.category).sum
def vbin (f : Int32 → Int32 → Int32) (pc : Nat) (ls st : List Value) (w : vW) : Option vR := match st with | .int y :: .int x :: r => vnx (pc + 1) ls (.int (f x y) :: r) w | _ => none
def vdiv (f : Int32 → Int32 → Int32) (pc : Nat) (ls st : List Value) (w : vW) : Option vR := match st with | .int y :: .int x :: r => if y = 0 then none else vnx (pc + 1) ls (.int (f x y) :: r) w | _ => none
def vun (f : Int32 → Int32) (pc : Nat) (ls st : List Value) (w : vW) : Option vR := match st with | .int x :: r => vnx (pc + 1) ls (.int (f x) :: r) w | _ => none
def vlbin (f : Int64 → Int64 → Int64) (pc : Nat) (ls st : List Value) (w : vW) : Option vR := match st with | .long y :: .long x :: r => vnx (pc + 1) ls (.long (f x y) :: r) w | _ => none
def vild (pc : Nat) (i : Nat) (ls st : List Value) (w : vW) : Option vR := match ls[i]? with | some (.int x) => vnx pc ls (.int x :: st) w | _ => none
def vlld (pc : Nat) (i : Nat) (ls st : List Value) (w : vW) : Option vR := match ls[i]? with | some (.long x) => vnx pc ls (.long x :: st) w | _ => none
def vald (pc : Nat) (i : Nat) (ls st : List Value) (w : vW) : Option vR := match ls[i]? with | some (.ref x) => vnx pc ls (.ref x :: st) w | _ => none
def vist (ml : Bool) (pc : Nat) (i : Nat) (ls st : List Value) (w : vW) : Option vR := match st with | .int x :: r => (match vst1 ml ls i (.int x) with | some l => vnx pc l r w | none => none) | _ => none
def vlst (ml : Bool) (pc : Nat) (i : Nat) (ls st : List Value) (w : vW) : Option vR := match st with | .long x :: r => (match vst2 ml ls i (.long x) with | some l => vnx pc l r w | none => none) | _ => none
def vast (ml : Bool) (pc : Nat) (i : Nat) (ls st : List Value) (w : vW) : Option vR := match st with | .ref x :: r => (match vst1 ml ls i (.ref x) with | some l => vnx pc l r w | none => none) | _ => none
def vinc (ml : Bool) (pc : Nat) (i : Nat) (n : Int) (ls st : List Value) (w : vW) : Option vR := match ls[i]? with | some (.int x) => (match vst1 ml ls i (.int (x + Int32.ofInt n)) with | some l => vnx pc l st w | none => none) | _ => none
def vget (o idx pc : Nat) (ls st : List Value) (w : vW) : Option vR := match st with
  | .ref r :: rest => (match vlk fTab o idx with
    | some (ci, k, _) => (match w.1[r]? with
      | some (.inr (c, fs)) => if c = ci ∧ r ≠ 0 then (match fs[k]? with | some none => vnx pc ls (.int (w.2 r k) :: rest) w | some (some v) => vnx pc ls (v :: rest) w | none => none) else none
      | _ => none)
    | none => none)
  | _ => none
def vput (ini : Bool) (o idx pc : Nat) (ls st : List Value) (w : vW) : Option vR := match st with
  | .int x :: .ref r :: rest => (match vlk fTab o idx with
    | some (ci, k, _) => (match w.1[r]? with
      | some (.inr (c, fs)) => if c = ci ∧ r ≠ 0 ∧ fInt ci k = true then (match fs[k]? with | some none => if fBool ci k then (if x = 0 then vnx pc ls rest (w.1, upd2 w.2 r k 0) else if x = 1 then vnx pc ls rest (w.1, upd2 w.2 r k 1) else none) else vnx pc ls rest (w.1, upd2 w.2 r k x) | _ => none) else none
      | _ => none)
    | none => none)
  | .ref q :: .ref r :: rest => (match vlk fTab o idx with
    | some (ci, k, nest) => (match w.1[r]? with
      | some (.inr (c, fs)) => if c = ci ∧ r ≠ 0 ∧ nest = false ∧ ini = true ∧ o = ci ∧ fInt ci k = false then (match fs[k]? with | some (some _) => vnx pc ls rest (w.1.set r (.inr (c, fs.set k (some (.ref q)))), w.2) | _ => none) else none
      | _ => none)
    | none => none)
  | _ => none
def viald (pc : Nat) (ls st : List Value) (w : vW) : Option vR := match st with
  | .int i :: .ref a :: rest => (match w.1[a]? with | some (.inl n) => if i < 0 ∨ n ≤ i.toNatClampNeg then none else vnx pc ls (.int (w.2 a i.toNatClampNeg) :: rest) w | _ => none)
  | _ => none
def viast (pc : Nat) (ls st : List Value) (w : vW) : Option vR := match st with
  | .int x :: .int i :: .ref a :: rest => (match w.1[a]? with | some (.inl n) => if i < 0 ∨ n ≤ i.toNatClampNeg ∨ a = 0 then none else vnx pc ls rest (w.1, upd2 w.2 a i.toNatClampNeg x) | _ => none)
  | _ => none
def valen (pc : Nat) (ls st : List Value) (w : vW) : Option vR := match st with
  | .ref a :: rest => (match w.1[a]? with | some (.inl n) => vnx pc ls (.int (Int32.ofNat n) :: rest) w | _ => none)
  | _ => none
def vnewa (pc : Nat) (ls st : List Value) (w : vW) : Option vR := match st with
  | .int n :: rest => if n < 0 ∨ 100000000 ≤ n.toNatClampNeg ∨ 1000 ≤ w.1.length ∨ w.1.length = 0 then none else vnx pc ls (.ref w.1.length :: rest) (w.1 ++ [.inl n.toNatClampNeg], vzero w.2 w.1.length)
  | _ => none
def vnew (o idx pc : Nat) (ls st : List Value) (w : vW) : Option vR := match vlk nTab o idx with
  | some ci => (match nFs[ci]? with | some fs => if 1000 ≤ w.1.length ∨ w.1.length = 0 then none else vnx pc ls (.ref w.1.length :: st) (w.1 ++ [.inr (ci, fs)], vzero w.2 w.1.length) | none => none)
  | none => none
def vldc (o idx pc : Nat) (two : Nat) (ls st : List Value) (w : vW) : Option vR := match vlk kTab o idx with
  | some (.int x) => if two = 0 then vnx pc ls (.int x :: st) w else if two = 1 then vnx pc ls (.int x :: st) w else none
  | some (.long x) => if two = 2 then vnx pc ls (.long x :: st) w else none
  | some (.ref q) => if two = 0 then vnx pc ls (.ref q :: st) w else none
  | _ => none
/-- a call of method t with n values: instance methods look at the receiver's class -/
def vcall (m t pc : Nat) (ls st : List Value) (w : vW) : Option vR :=
  let as := (st.take (mA t)).reverse
  let rest := st.drop (mA t)
  if as.length = mA t ∧ vcats rest ≤ 8 ∧ mF t + 1 ≤ mF m ∧ 19 + mL t + mW t ≤ mW m ∧ (mG t = true ∨ as.all (fun v => !vlong v) = true) ∧ vcats as ≤ mL t then
    (if mC t = 99 then some (.inr (.inl (t, as, (pc, ls, rest, w)))) else
      match as with
      | .ref r :: _ => (match w.1[r]? with | some (.inr (c, _)) => if c = mC t ∧ r ≠ 0 then some (.inr (.inl (t, as, (pc, ls, rest, w)))) else none | _ => none)
      | _ => none) else none
def vcpy (f g : Nat → Int32) (sp dp n : Nat) : Nat → Int32 := va_cpy f g sp dp n
def vacopy (m pc : Nat) (ls st : List Value) (w : vW) : Option vR := match st with
  | .int n :: .int dp :: .ref a :: .int sp :: .ref a0 :: rest => (match w.1[a0]?, w.1[a]? with
    | some (.inl n0), some (.inl n1) => if sp < 0 ∨ dp < 0 ∨ n < 0 ∨ n0 < sp.toNatClampNeg + n.toNatClampNeg ∨ n1 < dp.toNatClampNeg + n.toNatClampNeg ∨ a = 0 ∨ a0 = 0 ∨ mF m < 1 ∨ mW m < 40 ∨ 8 < vcats rest then none
      else vnx pc ls rest (w.1, fun b j => if b = a then va_cpy (w.2 a0) (w.2 a) sp.toNatClampNeg dp.toNatClampNeg n.toNatClampNeg j else w.2 b j)
    | _, _ => none)
  | _ => none
def sLens : List Nat := sTab.map (fun q => q.2.length)
def sByts : List (List Int32) := sTab.map (fun q => q.2.toList.map (fun c => Int32.ofNat c.toNat))
def vslen (m pc : Nat) (ls st : List Value) (w : vW) : Option vR := match st with
  | .ref q :: rest => if q < 1000 ∨ 1012 ≤ q ∨ mF m < 2 ∨ mW m < 40 ∨ 8 < vcats rest then none else vnx pc ls (.int (nI (sLens.getD (q - 1000) 0)) :: rest) w
  | _ => none
def vsch (m pc : Nat) (ls st : List Value) (w : vW) : Option vR := match st with
  | .int i :: .ref q :: rest => if q < 1000 ∨ 1012 ≤ q ∨ i < 0 ∨ sLens.getD (q - 1000) 0 ≤ i.toNatClampNeg ∨ mF m < 4 ∨ mW m < 85 ∨ 8 < vcats rest then none else vnx pc ls (.int ((sByts.getD (q - 1000) []).getD i.toNatClampNeg 0) :: rest) w
  | _ => none
def vmm (mx : Bool) (m pc : Nat) (ls st : List Value) (w : vW) : Option vR := match st with
  | .int y :: .int x :: rest => if mF m < 1 ∨ mW m < 21 ∨ 8 < vcats rest then none else vnx pc ls (.int (if mx then (if x < y then y else x) else (if y < x then y else x)) :: rest) w
  | _ => none
def vobj (m pc : Nat) (ls st : List Value) (w : vW) : Option vR := match st with
  | .ref _ :: rest => if mF m < 1 ∨ mW m < 20 ∨ 8 < vcats rest then none else vnx pc ls rest w
  | _ => none
def vinvs (m idx pc : Nat) (ls st : List Value) (w : vW) : Option vR := match vlk cTab (mO m) idx with
  | some (k, t) => if k = 0 ∨ k = 1 then vcall m t pc ls st w else if k = 7 then vacopy m pc ls st w else if k = 10 then vmm true m pc ls st w else if k = 11 then vmm false m pc ls st w else none
  | none => none
def vinvv (m idx pc : Nat) (ls st : List Value) (w : vW) : Option vR := match vlk cTab (mO m) idx with
  | some (k, t) => if k = 2 ∨ k = 3 then vcall m t pc ls st w else if k = 8 then vslen m pc ls st w else if k = 9 then vsch m pc ls st w else none
  | none => none
def vinvi (m idx pc : Nat) (ls st : List Value) (w : vW) : Option vR := match vlk cTab (mO m) idx with
  | some (k, t) => if k = 4 then vcall m t pc ls st w else if k = 6 then vobj m pc ls st w else none
  | none => none
def vtab (pc : Nat) (d lo hi : Int) (offs : Array Int) (ls st : List Value) (w : vW) : Option vR := match st with
  | .int x :: r => if x.toInt < lo ∨ hi < x.toInt then vjmp pc d ls r w else (match offs[(x.toInt - lo).toNat]? with | some off => vjmp pc off ls r w | none => none)
  | _ => none
def vinst (m pc : Nat) (i : Instr) (n : Nat) (ls st : List Value) (w : vW) : Option vR := match i with
  | .iconst k => if n = 1 then vnx (pc + 1) ls (.int (Int32.ofInt k) :: st) w else none
  | .bipush k => if n = 2 then vnx (pc + 2) ls (.int (Int8.ofInt k).toInt32 :: st) w else none
  | .sipush k => if n = 3 then vnx (pc + 3) ls (.int (Int16.ofInt k).toInt32 :: st) w else none
  | .lconst k => if n = 1 then vnx (pc + 1) ls (.long (Int64.ofNat (k : Nat)) :: st) w else none
  | .iload_n k => if n = 1 then vild (pc + 1) (k : Nat) ls st w else none
  | .iload k => if n = 2 then vild (pc + 2) k ls st w else none
  | .lload_n k => if n = 1 then vlld (pc + 1) (k : Nat) ls st w else none
  | .lload k => if n = 2 then vlld (pc + 2) k ls st w else none
  | .aload_n k => if n = 1 then vald (pc + 1) (k : Nat) ls st w else none
  | .istore_n k => if n = 1 then vist (mG m) (pc + 1) (k : Nat) ls st w else none
  | .istore k => if n = 2 then vist (mG m) (pc + 2) k ls st w else none
  | .lstore_n k => if n = 1 then vlst (mG m) (pc + 1) (k : Nat) ls st w else none
  | .astore_n k => if n = 1 then vast (mG m) (pc + 1) (k : Nat) ls st w else none
  | .iinc k c => if n = 3 then vinc (mG m) (pc + 3) k c ls st w else none
  | .iadd => if n = 1 then vbin (fun x y => x + y) pc ls st w else none
  | .isub => if n = 1 then vbin (fun x y => x - y) pc ls st w else none
  | .imul => if n = 1 then vbin (fun x y => x * y) pc ls st w else none
  | .iand => if n = 1 then vbin (fun x y => x &&& y) pc ls st w else none
  | .ior => if n = 1 then vbin (fun x y => x ||| y) pc ls st w else none
  | .ixor => if n = 1 then vbin (fun x y => x ^^^ y) pc ls st w else none
  | .ishl => if n = 1 then vbin (fun x y => x <<< (y &&& 31)) pc ls st w else none
  | .ishr => if n = 1 then vbin (fun x y => x >>> (y &&& 31)) pc ls st w else none
  | .iushr => if n = 1 then vbin (fun x y => (x.toUInt32 >>> (y.toUInt32 &&& Int32.toUInt32 31)).toInt32) pc ls st w else none
  | .idiv => if n = 1 then vdiv (fun x y => x / y) pc ls st w else none
  | .irem => if n = 1 then vdiv (fun x y => x - x / y * y) pc ls st w else none
  | .ineg => if n = 1 then vun (fun x => -x) pc ls st w else none
  | .i2b => if n = 1 then vun (fun x => x.toInt8.toInt32) pc ls st w else none
  | .i2s => if n = 1 then vun (fun x => x.toInt16.toInt32) pc ls st w else none
  | .i2l => if n = 1 then (match st with | .int x :: r => vnx (pc + 1) ls (.long x.toInt64 :: r) w | _ => none) else none
  | .ladd => if n = 1 then vlbin (fun x y => x + y) pc ls st w else none
  | .lmul => if n = 1 then vlbin (fun x y => x * y) pc ls st w else none
  | .lcmp => if n = 1 then (match st with | .long y :: .long x :: r => vnx (pc + 1) ls (.int (lg_cmp x y) :: r) w | _ => none) else none
  | .dup => if n = 1 then (match st with | v :: r => if v.category = 1 then vnx (pc + 1) ls (v :: v :: r) w else none | _ => none) else none
  | .dup2 => if n = 1 then (match st with | v :: u :: r => if v.category = 1 ∧ u.category = 1 then vnx (pc + 1) ls (v :: u :: v :: u :: r) w else none | _ => none) else none
  | .ifCond c off => if n = 3 then (match st with | .int x :: r => vbr (vcmp0 c x) pc off ls r w | _ => none) else none
  | .if_icmp c off => if n = 3 then (match st with | .int y :: .int x :: r => vbr (vcmp c x y) pc off ls r w | _ => none) else none
  | .goto off => if n = 3 then vjmp pc off ls st w else none
  | .tableswitch d lo hi offs => vtab pc d lo hi offs ls st w
  | .getfield idx => if n = 3 then vget (mO m) idx (pc + 3) ls st w else none
  | .putfield idx => if n = 3 then vput ((mN m).name == "<init>") (mO m) idx (pc + 3) ls st w else none
  | .iaload => if n = 1 then viald (pc + 1) ls st w else none
  | .iastore => if n = 1 then viast (pc + 1) ls st w else none
  | .arraylength => if n = 1 then valen (pc + 1) ls st w else none
  | .newarray t => if n = 2 ∧ t = .int then vnewa (pc + 2) ls st w else none
  | .new idx => if n = 3 then vnew (mO m) idx (pc + 3) ls st w else none
  | .ldc idx => if n = 2 then vldc (mO m) idx (pc + 2) 0 ls st w else none
  | .ldc_w idx => if n = 3 then vldc (mO m) idx (pc + 3) 1 ls st w else none
  | .ldc2_w idx => if n = 3 then vldc (mO m) idx (pc + 3) 2 ls st w else none
  | .invokestatic idx => if n = 3 then vinvs m idx (pc + 3) ls st w else none
  | .invokevirtual idx => if n = 3 then vinvv m idx (pc + 3) ls st w else none
  | .invokespecial idx => if n = 3 then vinvi m idx (pc + 3) ls st w else none
  | .ireturn => if n = 1 then (match st with | [.int v] => if mR m = some .int ∨ (mR m = some .boolean ∧ (v = 0 ∨ v = 1)) then some (.inr (.inr (some (.int v)))) else none | _ => none) else none
  | .lreturn => if n = 1 then (match st with | [.long v] => if mR m = some .long then some (.inr (.inr (some (.long v)))) else none | _ => none) else none
  | .areturn => if n = 1 then (match st with | [.ref v] => if mR m = some (.array .int) then some (.inr (.inr (some (.ref v)))) else none | _ => none) else none
  | .return_ => if n = 1 then (match st with | [] => if mR m = none then some (.inr (.inr none)) else none | _ => none) else none
  | _ => none
def vstep (m pc : Nat) (ls st : List Value) (w : vW) : Option vR := match decode (mB m) pc with
  | .ok (i, n) => vinst m pc i n ls st w
  | .error _ => none
def vtl (v : Option Value) (st : List Value) : List Value := match v with | some v => v :: st | none => st
def vent (t : Nat) (as : List Value) : List Value :=
  let l := as.flatMap (fun v => if vlong v then [v, .null] else [v])
  l ++ List.replicate (mL t - l.length) .null
def exec : Nat → Nat → Nat → List Value → List Value → vW → Option (Option Value × vW)
  | 0, _, _, _, _, _ => none
  | f + 1, m, pc, ls, st, w => match vstep m pc ls st w with
    | none => none
    | some (.inl q) => exec f m q.1 q.2.1 q.2.2.1 q.2.2.2
    | some (.inr (.inl q)) => (match exec f q.1 0 (vent q.1 q.2.1) [] q.2.2.2.2.2 with
      | none => none
      | some r => exec f m q.2.2.1 q.2.2.2.1 (vtl r.1 q.2.2.2.2.1) r.2)
    | some (.inr (.inr v)) => some (v, w)
theorem exec_mono : ∀ (f m pc : Nat) (ls st : List Value) (w : vW) (r : Option Value × vW), exec f m pc ls st w = some r → exec (f + 1) m pc ls st w = some r := by
  intro f
  induction f with
  | zero => intro m pc ls st w r h; cases h
  | succ f ih =>
    intro m pc ls st w r h
    rw [exec] at h ⊢
    cases hs : vstep m pc ls st w with
    | none => rw [hs] at h; cases h
    | some q =>
      rw [hs] at h
      rcases q with q | q | q
      · exact ih _ _ _ _ _ _ h
      · simp only at h ⊢
        cases he : exec f q.1 0 (vent q.1 q.2.1) [] q.2.2.2.2.2 with
        | none => rw [he] at h; cases h
        | some r1 =>
          rw [he] at h
          rw [ih _ _ _ _ _ _ he]
          exact ih _ _ _ _ _ _ h
      · exact h
theorem exec_le {f g m pc : Nat} {ls st : List Value} {w : vW} {r : Option Value × vW} (h : exec f m pc ls st w = some r) (hg : f ≤ g) : exec g m pc ls st w = some r := by
  obtain ⟨k, rfl⟩ := Nat.le.dest hg
  clear hg
  induction k with
  | zero => exact h
  | succ k ih => exact exec_mono _ _ _ _ _ _ _ ih
theorem R_ex (m pc : Nat) (ls st : List Value) (w : vW) : ∃ o : Option (Option Value × vW), ∀ r, o = some r ↔ ∃ f, exec f m pc ls st w = some r := by
  by_cases h : ∃ f r, exec f m pc ls st w = some r
  · obtain ⟨f, r, hf⟩ := h
    refine ⟨some r, fun r2 => ⟨fun e => ⟨f, by rw [← e]; exact hf⟩, ?_⟩⟩
    rintro ⟨g, hg⟩
    rcases Nat.le_total f g with q | q
    · rw [← exec_le hf q]; exact hg
    · rw [← hf]; exact exec_le hg q
  · exact ⟨none, fun r => ⟨fun e => (by cases e), fun q => absurd (q.elim fun f hf => ⟨f, r, hf⟩) h⟩⟩
noncomputable def R (m pc : Nat) (ls st : List Value) (w : vW) : Option (Option Value × vW) := Classical.choose (R_ex m pc ls st w)
theorem R_iff {m pc : Nat} {ls st : List Value} {w : vW} {r : Option Value × vW} : R m pc ls st w = some r ↔ ∃ f, exec f m pc ls st w = some r := Classical.choose_spec (R_ex m pc ls st w) r
theorem R_ext {o1 o2 : Option (Option Value × vW)} (h : ∀ r, o1 = some r ↔ o2 = some r) : o1 = o2 := by
  cases o1 with
  | none =>
    cases o2 with
    | none => rfl
    | some r => exact ((h r).mpr rfl)
  | some r => exact ((h r).mp rfl).symm
theorem R_nx {m pc pc' : Nat} {ls st ls' st' : List Value} {w w' : vW} (h : vstep m pc ls st w = some (.inl (pc', ls', st', w'))) : R m pc ls st w = R m pc' ls' st' w' := by
  refine R_ext fun r => ?_
  rw [R_iff, R_iff]
  constructor
  · rintro ⟨f, hf⟩
    cases f with
    | zero => cases hf
    | succ f => rw [exec, h] at hf; exact ⟨f, hf⟩
  · rintro ⟨f, hf⟩
    exact ⟨f + 1, by rw [exec, h]; exact hf⟩
theorem R_cl {m pc pc' t : Nat} {ls st ls' st' as : List Value} {w w' : vW} (h : vstep m pc ls st w = some (.inr (.inl (t, as, (pc', ls', st', w'))))) : R m pc ls st w = (R t 0 (vent t as) [] w').bind (fun q => R m pc' ls' (vtl q.1 st') q.2) := by
  refine R_ext fun r => ?_
  rw [R_iff]
  constructor
  · rintro ⟨f, hf⟩
    cases f with
    | zero => cases hf
    | succ f =>
      rw [exec, h] at hf
      simp only at hf
      cases he : exec f t 0 (vent t as) [] w' with
      | none => rw [he] at hf; cases hf
      | some r1 =>
        rw [he] at hf
        rw [R_iff.mpr ⟨f, he⟩]
        exact R_iff.mpr ⟨f, hf⟩
  · intro hb
    cases hr : R t 0 (vent t as) [] w' with
    | none => rw [hr] at hb; cases hb
    | some r1 =>
      rw [hr] at hb
      obtain ⟨f1, h1⟩ := R_iff.mp hr
      obtain ⟨f2, h2⟩ := R_iff.mp (show R m pc' ls' (vtl r1.1 st') r1.2 = some r from hb)
      refine ⟨max f1 f2 + 1, ?_⟩
      rw [exec, h]
      simp only
      rw [exec_le h1 (Nat.le_max_left f1 f2)]
      exact exec_le h2 (Nat.le_max_right f1 f2)
theorem R_rt {m pc : Nat} {ls st : List Value} {w : vW} {v : Option Value} (h : vstep m pc ls st w = some (.inr (.inr v))) : R m pc ls st w = some (v, w) := R_iff.mpr ⟨1, by rw [exec, h]⟩
