/-- every call keeps the relation -/
theorem all_ok (n : Nat) (hn : 2400 < n) : AllB Inv n :=
  ⟨B_input_ok n (by omega), B_keeper_ok n (by omega), B_gate_ok n (by omega), B_source_ok n (by omega), B_out_ok n (by omega), B_cell_ok n, B_cuts_ok n (by omega), B_cut_ok n (by omega), B_depth_ok n (by omega), B_tables_ok n (by omega), B_table_ok n (by omega), B_cloth_ok n (by omega), B_broken_ok n, B_set_ok n (by omega), B_tile_ok n (by omega), B_move_ok n (by omega), B_swap_ok n (by omega), B_smooth_ok n (by omega), B_cost_ok n (by omega), B_wires_ok n (by omega), B_lead_ok n (by omega), B_joint_ok n (by omega), B_way_ok n (by omega), B_side_ok n (by omega), B_longest_ok n (by omega), B_frames_ok n (by omega), B_octet_ok n (by omega), B_bend_ok n (by omega), B_check_ok n (by omega), B_back_ok n (by omega), B_start_ok n (by omega), B_clock_ok n (by omega), B_told_ok n, B_lay_ok n (by omega), B_tear_ok n, B_row_ok n, B_copy_ok n (by omega), B_status_ok n⟩
/-- the law's function, over the start, for every script -/
theorem law_true (L : Nat) (xs : Nat → Int32) (hL : L ≤ 2560) : ∃ (n : Nat) (r : M2), fX9_init n = some r ∧ lL_law_18 n L xs n (0 : Int32) (finM r.1) r.2 = some () := by
  obtain ⟨n, hn⟩ : ∃ n : Nat, n = 2500 := ⟨_, rfl⟩
  obtain ⟨r, h0, hI⟩ := init_ok n (by omega)
  exact law_true_of Inv_dec n hn r h0 hI (all_ok n (by omega)) L xs hL
