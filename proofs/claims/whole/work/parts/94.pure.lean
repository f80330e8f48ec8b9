/-- the little machine answers 1 on every script -/
theorem mm_pure (xs : List Int32) (h : xs.length ≤ 2048) : ∃ (f d : Nat) (M1 : MH) (c1 n1 : Nat), mm_run f 1 d 152 0 [(0, .ref 0)] [] [(99, xs.map Value.int)] 0 0 = some (.inl (some (.int 1)), M1, c1, n1) ∧ d ≤ 1312 ∧ c1 ≤ 645488 ∧ n1 ≤ 7159639 :=
  mm_whole h fun A x4 z0 z1 z2 z3 hI hs => mm_round A x4 z0 z1 z2 z3 hI hs
