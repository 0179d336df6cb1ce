/-- what is left: the law's function, over the start, for every script -/
theorem law_true (L : Nat) (xs : Nat → Int32) (hL : L ≤ 2560) : ∃ (n : Nat) (r : M2), fX9_init n = some r ∧ lL_law_18 n L xs n (0 : Int32) (finM r.1) r.2 = some () := by
  sorry
