/-! The subsets of a set, in the order of their numbers; the best cut -/
def itn (b : Nat) : Nat → Nat
  | 0 => 0
  | j + 1 => nxt (itn b j) b
def itl (b : Nat) : Nat → Nat → List Nat
  | 0, _ => []
  | n + 1, a => a :: itl b n (nxt a b)
theorem itl_get (b : Nat) : ∀ (n i j : Nat), j < n → (itl b n (itn b i))[j]? = some (itn b (i + j)) := by
  intro n
  induction n with
  | zero => intro i j h; omega
  | succ n ih =>
    intro i j h
    rw [itl]
    cases j with
    | zero => rfl
    | succ j =>
      rw [List.getElem?_cons_succ]
      have := ih (i + 1) j (by omega)
      rw [show i + (j + 1) = i + 1 + j by omega]
      exact this
theorem itl_len (b : Nat) : ∀ (n a : Nat), (itl b n a).length = n := by
  intro n
  induction n with
  | zero => intro a; rfl
  | succ n ih => intro a; rw [itl, List.length_cons, ih]
def itc (b : Nat) : Bool := (itl b (2 ^ pop b) 0) == (List.range (b + 1)).filter (fun a => a &&& b == a) && (itl b (2 ^ pop b + 1) 0).getLast? == some 0 && ((itl b (2 ^ pop b) 0).tail).all (fun a => a != 0)
theorem itc_ok : ∀ b, b < 512 → itc b = true := by decide +kernel
theorem it_facts {b : Nat} (hb : b < 512) : itl b (2 ^ pop b) 0 = (List.range (b + 1)).filter (fun a => a &&& b == a) ∧ itn b (2 ^ pop b) = 0 ∧ ∀ j, 0 < j → j < 2 ^ pop b → itn b j ≠ 0 := by
  have h := itc_ok b hb
  unfold itc at h
  rw [Bool.and_eq_true, Bool.and_eq_true] at h
  obtain ⟨⟨h1, h2⟩, h3⟩ := h
  refine ⟨by simpa using h1, ?_, fun j hj hj2 => ?_⟩
  · have h4 : (itl b (2 ^ pop b + 1) 0).getLast? = some 0 := by simpa using h2
    rw [List.getLast?_eq_getElem?, itl_len, Nat.add_sub_cancel] at h4
    have h5 := itl_get b (2 ^ pop b + 1) 0 (2 ^ pop b) (by omega)
    rw [show itn b 0 = 0 from rfl, h4] at h5
    rw [Nat.zero_add] at h5
    exact (Option.some.inj h5).symm
  · have h5 := itl_get b (2 ^ pop b) 0 j hj2
    rw [show itn b 0 = 0 from rfl, Nat.zero_add] at h5
    have h6 : ((itl b (2 ^ pop b) 0).tail)[j - 1]? = some (itn b j) := by
      rw [List.getElem?_tail, show j - 1 + 1 = j by omega]
      exact h5
    have h7 := List.all_eq_true.mp h3 _ (List.mem_of_getElem? h6)
    simpa using h7
theorem it_sub {b j : Nat} (hb : b < 512) (hj : j < 2 ^ pop b) : itn b j &&& b = itn b j ∧ itn b j ≤ b := by
  obtain ⟨h1, -, -⟩ := it_facts hb
  have h5 := itl_get b (2 ^ pop b) 0 j hj
  rw [show itn b 0 = 0 from rfl, Nat.zero_add, h1] at h5
  have h6 := List.mem_filter.mp (List.mem_of_getElem? h5)
  have h7 : itn b j &&& b = itn b j := by simpa using h6.2
  exact ⟨h7, by rw [← h7]; exact Nat.and_le_right⟩
theorem it_all {b a : Nat} (hb : b < 512) (ha : a &&& b = a) : ∃ j, j < 2 ^ pop b ∧ itn b j = a := by
  obtain ⟨h1, -, -⟩ := it_facts hb
  have hab : a ≤ b := by rw [← ha]; exact Nat.and_le_right
  have hm : a ∈ itl b (2 ^ pop b) 0 := by
    rw [h1]
    exact List.mem_filter.mpr ⟨List.mem_range.mpr (by omega), by simpa using ha⟩
  obtain ⟨j, hj⟩ := List.getElem?_of_mem hm
  have hj2 : j < 2 ^ pop b := by
    have := (List.getElem?_eq_some_iff.mp hj).1
    rwa [itl_len] at this
  have h5 := itl_get b (2 ^ pop b) 0 j hj2
  rw [show itn b 0 = 0 from rfl, Nat.zero_add, hj] at h5
  exact ⟨j, hj2, (Option.some.inj h5).symm⟩
/-- the best of the cuts with the least part in front: its value and one more, its front -/
def bsN (v : Nat → Nat) (lo re : Nat) : Nat → Nat × Nat
  | 0 => (0, lo)
  | j + 1 => if (bsN v lo re j).1 < v (lo ||| itn re j) + 1 then (v (lo ||| itn re j) + 1, lo ||| itn re j) else bsN v lo re j
def rst (s : Nat) : Nat := dif s (lowb s)
def bsS (v : Nat → Nat) (s : Nat) : Nat × Nat := bsN v (lowb s) (rst s) (2 ^ pop (rst s))
/-- what the first of the row keeps of two halves, if the next one gets g of a set -/
def kp (g : Nat → Nat) (s f : Nat) : Nat := if g (dif s f) ≤ g f then dif s f else f
def gn (V : Nat → Nat → Nat) (r : Nat → Nat) : Nat → Nat → Nat
  | 0 => V (r 0)
  | k + 1 => fun s => (bsS (fun f => V (r (k + 1)) (kp (gn V r k) s f)) s).1 - 1
def fro (V : Nat → Nat → Nat) (r : Nat → Nat) (k s : Nat) : Nat := (bsS (fun f => V (r (k + 1)) (kp (gn V r k) s f)) s).2
theorem lowb_facts : ∀ s, s < 512 → lowb s ≤ s ∧ s - lowb s = rst s ∧ lowb s &&& s = lowb s ∧ rst s < 512 ∧ lowb s ||| rst s = s := by decide +kernel
theorem dif_or (s a b : Nat) : dif (dif s a) b = dif s (a ||| b) := by
  apply Nat.eq_of_testBit_eq
  intro i
  rw [dif_test, dif_test, dif_test, Nat.testBit_or]
  cases s.testBit i <;> cases a.testBit i <;> cases b.testBit i <;> rfl
theorem or_lt {a b : Nat} (ha : a < 512) (hb : b < 512) : a ||| b < 512 := Nat.or_lt_two_pow (n := 9) ha hb
theorem kp_lt {g : Nat → Nat} {s f : Nat} (hs : s < 512) (hf : f < 512) : kp g s f < 512 := by
  unfold kp
  split
  · exact Nat.lt_of_le_of_lt (dif_le _ _) hs
  · exact hf
theorem bsN_front {v : Nat → Nat} {s : Nat} (hs : s < 512) : ∀ j, j ≤ 2 ^ pop (rst s) → (bsN v (lowb s) (rst s) j).2 < 512 := by
  obtain ⟨h1, h2, h3, h4, h5⟩ := lowb_facts s hs
  intro j
  induction j with
  | zero => intro _; show lowb s < 512; omega
  | succ j ih =>
    intro hj
    rw [bsN]
    have hi := (it_sub h4 (show j < 2 ^ pop (rst s) by omega)).2
    split
    · exact or_lt (by omega) (by omega)
    · exact ih (by omega)
theorem bsN_val {v : Nat → Nat} {s m : Nat} (hs : s < 512) (hv : ∀ f, f < 512 → v f ≤ m) : ∀ j, j ≤ 2 ^ pop (rst s) → (bsN v (lowb s) (rst s) j).1 ≤ m + 1 ∧ (0 < j → 0 < (bsN v (lowb s) (rst s) j).1) := by
  obtain ⟨h1, h2, h3, h4, h5⟩ := lowb_facts s hs
  intro j
  induction j with
  | zero => intro _; exact ⟨Nat.zero_le _, fun h => absurd h (Nat.lt_irrefl _)⟩
  | succ j ih =>
    intro hj
    obtain ⟨i1, i2⟩ := ih (by omega)
    rw [bsN]
    have hi := (it_sub h4 (show j < 2 ^ pop (rst s) by omega)).2
    have h6 := hv (lowb s ||| itn (rst s) j) (or_lt (by omega) (by omega))
    split
    · exact ⟨by show v _ + 1 ≤ _; omega, fun _ => by show 0 < v _ + 1; omega⟩
    · rename_i h7
      exact ⟨i1, fun _ => by omega⟩
theorem gn_le {V : Nat → Nat → Nat} {r : Nat → Nat} {m : Nat} (hV : ∀ k s, s < 512 → V (r k) s ≤ m) : ∀ k s, s < 512 → gn V r k s ≤ m := by
  intro k
  cases k with
  | zero => intro s hs; exact hV 0 s hs
  | succ k =>
    intro s hs
    have := (bsN_val hs (v := fun f => V (r (k + 1)) (kp (gn V r k) s f)) (m := m) (fun f hf => hV _ _ (kp_lt hs hf)) _ (Nat.le_refl _)).1
    show (bsN _ _ _ _).1 - 1 ≤ m
    omega
