/-! calls that are still to be proved -/
theorem B_tables_ok (n : Nat) (hn : 2400 < n) : B_tables Inv n := sorry
theorem B_table_ok (n : Nat) (hn : 2400 < n) : B_table Inv n := sorry
theorem B_set_ok (n : Nat) (hn : 2400 < n) : B_set Inv n := sorry
theorem B_move_ok (n : Nat) (hn : 2400 < n) : B_move Inv n := sorry
theorem B_swap_ok (n : Nat) (hn : 2400 < n) : B_swap Inv n := sorry
theorem B_smooth_ok (n : Nat) (hn : 2400 < n) : B_smooth Inv n := sorry
theorem B_cost_ok (n : Nat) (hn : 2400 < n) : B_cost Inv n := sorry
theorem B_wires_ok (n : Nat) (hn : 2400 < n) : B_wires Inv n := sorry
theorem B_lead_ok (n : Nat) (hn : 2400 < n) : B_lead Inv n := sorry
theorem B_longest_ok (n : Nat) (hn : 2400 < n) : B_longest Inv n := sorry
theorem B_frames_ok (n : Nat) (hn : 2400 < n) : B_frames Inv n := sorry
theorem B_back_ok (n : Nat) (hn : 2400 < n) : B_back Inv n := sorry
theorem B_clock_ok (n : Nat) (hn : 2400 < n) : B_clock Inv n := sorry
