/-! calls that are still to be proved -/
theorem B_longest_ok (n : Nat) (hn : 2400 < n) : B_longest Inv n := sorry
