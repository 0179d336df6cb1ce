/-! calls that are still to be proved -/
theorem B_lead_ok (n : Nat) (hn : 2400 < n) : B_lead Inv n := sorry
theorem B_longest_ok (n : Nat) (hn : 2400 < n) : B_longest Inv n := sorry
