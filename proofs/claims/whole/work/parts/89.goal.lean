theorem law_true (L : Nat) (xs : Nat → Int32) (hL : L ≤ 3072) : ∃ M, R 230 0 [.ref 0, .null, .null, .null] [] ([.inl L], fun _ => xs) = some (some (.int 1), (SH L, M)) := sorry
