/-! walks: X10_table X10_isThing X10_lettersOf X10_letter X10_tiles X10_joints X10_isTile X10_moved X10_unset X10_cloth X10_broken X10_roomLeft X10_things X10_set X10_whyNo X10_tile X10_move X10_swaps X10_endsOf X10_costOf X10_costs X10_swap -/
theorem dX10_table_0 : decode cX10_table 0 = .ok (.aload_n 0, 1) := by decide +kernel
theorem dX10_table_1 : decode cX10_table 1 = .ok (.iload_n 1, 1) := by decide +kernel
theorem dX10_table_2 : decode cX10_table 2 = .ok (.invokevirtual 172, 3) := by decide +kernel
theorem dX10_table_5 : decode cX10_table 5 = .ok (.ifCond .ne 10, 3) := by decide +kernel
theorem dX10_table_8 : decode cX10_table 8 = .ok (.aload_n 0, 1) := by decide +kernel
theorem dX10_table_9 : decode cX10_table 9 = .ok (.bipush (-3), 2) := by decide +kernel
theorem dX10_table_11 : decode cX10_table 11 = .ok (.invokevirtual 151, 3) := by decide +kernel
theorem dX10_table_14 : decode cX10_table 14 = .ok (.ireturn, 1) := by decide +kernel
theorem dX10_table_15 : decode cX10_table 15 = .ok (.aload_n 0, 1) := by decide +kernel
theorem dX10_table_16 : decode cX10_table 16 = .ok (.getfield 7, 3) := by decide +kernel
theorem dX10_table_19 : decode cX10_table 19 = .ok (.iload_n 1, 1) := by decide +kernel
theorem dX10_table_20 : decode cX10_table 20 = .ok (.iaload, 1) := by decide +kernel
theorem dX10_table_21 : decode cX10_table 21 = .ok (.iconst 2, 1) := by decide +kernel
theorem dX10_table_22 : decode cX10_table 22 = .ok (.if_icmp .eq 10, 3) := by decide +kernel
theorem dX10_table_25 : decode cX10_table 25 = .ok (.aload_n 0, 1) := by decide +kernel
theorem dX10_table_26 : decode cX10_table 26 = .ok (.bipush (-5), 2) := by decide +kernel
theorem dX10_table_28 : decode cX10_table 28 = .ok (.invokevirtual 151, 3) := by decide +kernel
theorem dX10_table_31 : decode cX10_table 31 = .ok (.ireturn, 1) := by decide +kernel
theorem dX10_table_32 : decode cX10_table 32 = .ok (.aload_n 0, 1) := by decide +kernel
theorem dX10_table_33 : decode cX10_table 33 = .ok (.getfield 126, 3) := by decide +kernel
theorem dX10_table_36 : decode cX10_table 36 = .ok (.ifCond .eq 12, 3) := by decide +kernel
theorem dX10_table_39 : decode cX10_table 39 = .ok (.aload_n 0, 1) := by decide +kernel
theorem dX10_table_40 : decode cX10_table 40 = .ok (.getfield 41, 3) := by decide +kernel
theorem dX10_table_43 : decode cX10_table 43 = .ok (.iload_n 1, 1) := by decide +kernel
theorem dX10_table_44 : decode cX10_table 44 = .ok (.baload, 1) := by decide +kernel
theorem dX10_table_45 : decode cX10_table 45 = .ok (.ifCond .ne 10, 3) := by decide +kernel
theorem dX10_table_48 : decode cX10_table 48 = .ok (.aload_n 0, 1) := by decide +kernel
theorem dX10_table_49 : decode cX10_table 49 = .ok (.bipush (-2), 2) := by decide +kernel
theorem dX10_table_51 : decode cX10_table 51 = .ok (.invokevirtual 151, 3) := by decide +kernel
theorem dX10_table_54 : decode cX10_table 54 = .ok (.ireturn, 1) := by decide +kernel
theorem dX10_table_55 : decode cX10_table 55 = .ok (.iload_n 2, 1) := by decide +kernel
theorem dX10_table_56 : decode cX10_table 56 = .ok (.i2l, 1) := by decide +kernel
theorem dX10_table_57 : decode cX10_table 57 = .ok (.lconst 0, 1) := by decide +kernel
theorem dX10_table_58 : decode cX10_table 58 = .ok (.ldc2_w 214, 3) := by decide +kernel
theorem dX10_table_61 : decode cX10_table 61 = .ok (.invokestatic 164, 3) := by decide +kernel
theorem dX10_table_64 : decode cX10_table 64 = .ok (.ifCond .ne 10, 3) := by decide +kernel
theorem dX10_table_67 : decode cX10_table 67 = .ok (.aload_n 0, 1) := by decide +kernel
theorem dX10_table_68 : decode cX10_table 68 = .ok (.bipush (-7), 2) := by decide +kernel
theorem dX10_table_70 : decode cX10_table 70 = .ok (.invokevirtual 151, 3) := by decide +kernel
theorem dX10_table_73 : decode cX10_table 73 = .ok (.ireturn, 1) := by decide +kernel
theorem dX10_table_74 : decode cX10_table 74 = .ok (.iload_n 2, 1) := by decide +kernel
theorem dX10_table_75 : decode cX10_table 75 = .ok (.ifCond .ne 10, 3) := by decide +kernel
theorem dX10_table_78 : decode cX10_table 78 = .ok (.aload_n 0, 1) := by decide +kernel
theorem dX10_table_79 : decode cX10_table 79 = .ok (.getfield 47, 3) := by decide +kernel
theorem dX10_table_82 : decode cX10_table 82 = .ok (.iload_n 1, 1) := by decide +kernel
theorem dX10_table_83 : decode cX10_table 83 = .ok (.iaload, 1) := by decide +kernel
theorem dX10_table_84 : decode cX10_table 84 = .ok (.ireturn, 1) := by decide +kernel
theorem dX10_table_85 : decode cX10_table 85 = .ok (.iload_n 2, 1) := by decide +kernel
theorem dX10_table_86 : decode cX10_table 86 = .ok (.iconst 1, 1) := by decide +kernel
theorem dX10_table_87 : decode cX10_table 87 = .ok (.if_icmp .ne 10, 3) := by decide +kernel
theorem dX10_table_90 : decode cX10_table 90 = .ok (.aload_n 0, 1) := by decide +kernel
theorem dX10_table_91 : decode cX10_table 91 = .ok (.getfield 50, 3) := by decide +kernel
theorem dX10_table_94 : decode cX10_table 94 = .ok (.iload_n 1, 1) := by decide +kernel
theorem dX10_table_95 : decode cX10_table 95 = .ok (.iaload, 1) := by decide +kernel
theorem dX10_table_96 : decode cX10_table 96 = .ok (.ireturn, 1) := by decide +kernel
theorem dX10_table_97 : decode cX10_table 97 = .ok (.iload_n 2, 1) := by decide +kernel
theorem dX10_table_98 : decode cX10_table 98 = .ok (.iconst 2, 1) := by decide +kernel
theorem dX10_table_99 : decode cX10_table 99 = .ok (.isub, 1) := by decide +kernel
theorem dX10_table_100 : decode cX10_table 100 = .ok (.aload_n 0, 1) := by decide +kernel
theorem dX10_table_101 : decode cX10_table 101 = .ok (.getfield 47, 3) := by decide +kernel
theorem dX10_table_104 : decode cX10_table 104 = .ok (.iload_n 1, 1) := by decide +kernel
theorem dX10_table_105 : decode cX10_table 105 = .ok (.iaload, 1) := by decide +kernel
theorem dX10_table_106 : decode cX10_table 106 = .ok (.if_icmp .ge 18, 3) := by decide +kernel
theorem dX10_table_109 : decode cX10_table 109 = .ok (.aload_n 0, 1) := by decide +kernel
theorem dX10_table_110 : decode cX10_table 110 = .ok (.getfield 44, 3) := by decide +kernel
theorem dX10_table_113 : decode cX10_table 113 = .ok (.iconst 4, 1) := by decide +kernel
theorem dX10_table_114 : decode cX10_table 114 = .ok (.iload_n 1, 1) := by decide +kernel
theorem dX10_table_115 : decode cX10_table 115 = .ok (.imul, 1) := by decide +kernel
theorem dX10_table_116 : decode cX10_table 116 = .ok (.iload_n 2, 1) := by decide +kernel
theorem dX10_table_117 : decode cX10_table 117 = .ok (.iadd, 1) := by decide +kernel
theorem dX10_table_118 : decode cX10_table 118 = .ok (.iconst 2, 1) := by decide +kernel
theorem dX10_table_119 : decode cX10_table 119 = .ok (.isub, 1) := by decide +kernel
theorem dX10_table_120 : decode cX10_table 120 = .ok (.iaload, 1) := by decide +kernel
theorem dX10_table_121 : decode cX10_table 121 = .ok (.goto 4, 3) := by decide +kernel
theorem dX10_table_124 : decode cX10_table 124 = .ok (.iconst (-1), 1) := by decide +kernel
theorem dX10_table_125 : decode cX10_table 125 = .ok (.ireturn, 1) := by decide +kernel
set_option maxHeartbeats 4000000 in
set_option maxRecDepth 100000 in
theorem wX10_table_48 {p : Program} {l : Launch} {e : Env} {s : State} {m : MethodId} {args : Array Value} {below : List Frame} {meth : Method} {c : Code} (bs : Nat) (D : va_G) (y : Y3) (n : Nat) (r : Int32 × M2) (Gc : Gx p s m args meth c cX10_table 3 RX10 bs D y (some .int) 76)  (I : MI) (J : MJ) (H : Heap) (locs : List Loc) (ls : Array Slot) (hP : va_P D vwCl (wl bs y I J) H) (hS : va_S (FA bs) s.heap H locs) (hl : lv_has ls 3 [(0, .ref (bs + 44))]) (h : fX10_table_48 n   I J = some r) : W p l e (rmm 1 25) s m args below meth c H locs 0 0 (QI below args s bs D y r) (F0 m 48 ls []) := by
  obtain ⟨hx, hb, hml, hown, hts, hK, hN, hL, hr, hlocks, hcb⟩ := id Gc
  unfold fX10_table_48 at h
  refine lv_aload_n hx hb dX10_table_48 rfl (lv_at hl 0 rfl) ?_
  refine lv_bipush (v := (-2 : Int32)) hx hb dX10_table_49 (by decide) ?_
  obtain ⟨r51, er51, h⟩ := bd_s1 h
  refine c_VI (k := 44) (ci := 10) (As := [.int (-2 : Int32)]) (rest := []) hx hb hml hown hts hK hN hL hP hS (cX10_no_ l bs D y hcb n (-2 : Int32) I J r51 er51) ok_X10_no ov_X10_no ml_118 ⟨Nat.le_of_ble_eq_true rfl, Nat.le_of_ble_eq_true rfl⟩ rfl hcb kd_44 hl.1 rfl rfl (Nat.le_of_ble_eq_true rfl) ⟨Nat.zero_le _, Nat.zero_le _⟩ dX10_table_51 (fun H locs hP hS => ?_)
  exact r_I hx hb hr hlocks hP hK hN hL hS h dX10_table_54
set_option maxHeartbeats 4000000 in
set_option maxRecDepth 100000 in
theorem cX10_table_ (l : Launch) (bs : Nat) (D : va_G) (y : Y3) (hcb : 76 ≤ y.2.2.2) (n : Nat) (x1 : Int32) (x2 : Int32) (I : MI) (J : MJ) (r : Int32 × M2) (h : fX10_table n x1 x2 I J = some r) : Met l yX10_table (.code yX10_table cX10_table 3 (some .int) :: gtb) (rmm 1 25) (va_Pc [.ref (bs + 44), .int x1, .int x2] (HB bs D y I J)) (QcI bs D y r) 0 0 (FA bs) := by
  refine Met.ofW (cc := cX10_table) (maxL := 3) (ret := (some .int)) (by decide) rfl ?_
  intro p e s m args below meth c s₁ B hml hv
  obtain ⟨rfl, hP, hK, hN, hL⟩ := hv
  have hx := B.exec
  have hb := B.bytes
  have hr := B.returns
  have hts0 := atoms_spec (ws := .code yX10_table cX10_table 3 (some .int) :: gtb) B.pre
  have hts : ∀ w ∈ gtb, w.before [.ref (bs + 44), .int x1, .int x2].toArray s = true := fun w hw => hts0 w (List.mem_cons_of_mem _ hw)
  have hown : s.vm.findClass RX10 = some m.cls := findClass_of_methodNamed B.named
  have hlocks := B.notSynchronized
  have hS : va_S (FA bs) s.heap s.heap [] := va_S.rf
  have Gc : Gx p s m [.ref (bs + 44), .int x1, .int x2].toArray meth c cX10_table 3 RX10 bs D y (some .int) 76 := ⟨hx, hb, hml, hown, hts, hK, hN, hL, hr, hlocks, hcb⟩
  have hl := lv_entry [.ref (bs + 44), .int x1, .int x2] (n := 3) (Nat.le_of_ble_eq_true rfl)
  rw [lg_entry_eq]
  generalize (lg_sl [.ref (bs + 44), .int x1, .int x2] ++ List.replicate (3 - (lg_sl [.ref (bs + 44), .int x1, .int x2]).length) Slot.unset).toArray = ls at hl ⊢
  have hl : lv_has ls 3 [(0, .ref (bs + 44)), (1, .int x1), (2, .int x2)] := hl
  change W p l e (rmm 1 25) s m [.ref (bs + 44), .int x1, .int x2].toArray below meth c s.heap [] 0 0 (QI below [.ref (bs + 44), .int x1, .int x2].toArray s bs D y r) (F0 m 0 ls [])
  unfold fX10_table at h
  refine lv_aload_n hx hb dX10_table_0 rfl (lv_at hl 0 rfl) ?_
  refine lv_iload_n hx hb dX10_table_1 rfl (lv_at hl 1 rfl) ?_
  obtain ⟨r2, er2, h⟩ := bd_s1 h
  refine c_VI (k := 44) (ci := 10) (As := [.int x1]) (rest := []) hx hb hml hown hts hK hN hL hP hS (cX10_isCell_ l bs D y hcb n x1 I J r2 er2) ok_X10_isCell ov_X10_isCell ml_122 ⟨Nat.le_of_ble_eq_true rfl, Nat.le_of_ble_eq_true rfl⟩ rfl hcb kd_44 hl.1 rfl rfl (Nat.le_of_ble_eq_true rfl) ⟨Nat.zero_le _, Nat.zero_le _⟩ dX10_table_2 (fun H locs hP hS => ?_)
  refine lv_if_ne (tgt := 15) hx hb dX10_table_5 (by decide) (fun c5 => ?_) (fun c5 => ?_)
  · replace h := if_f c5 h
    refine lv_aload_n hx hb dX10_table_15 rfl (lv_at hl 0 rfl) ?_
    refine g_R (C := RX10) (T := TX10) (N := 49) (ci := 10) 44 0 45 hx hb hts hown hK hP in_X10 rfl hcb okF_44_0 rfc_44_0 fl_146 dX10_table_16 ?_
    refine lv_iload_n hx hb dX10_table_19 rfl (lv_at hl 1 rfl) ?_
    obtain ⟨hi20, h⟩ := if_s1 h
    refine a_I 45 hx hb hK hP hcb aln_45 hi20 dX10_table_20 ?_
    refine lv_iconst (v := (2 : Int32)) hx hb dX10_table_21 (by decide) ?_
    refine lv_icmp_eq (tgt := 32) hx hb dX10_table_22 (by decide) (fun c22 => ?_) (fun c22 => ?_)
    · replace h := if_t c22 h
      refine lv_aload_n hx hb dX10_table_32 rfl (lv_at hl 0 rfl) ?_
      refine g_I (C := RX10) (T := TX10) (N := 49) (ci := 10) 44 11 hx hb hts hown hK hP in_X10 rfl hcb okF_44_11 fl_148 dX10_table_33 ?_
      refine lv_if_eq (tgt := 48) hx hb dX10_table_36 (by decide) (fun c36 => ?_) (fun c36 => ?_)
      · replace h := if_t c36 h
        exact wX10_table_48 bs D y n  r Gc   r2.2.1 r2.2.2 _ _ _ hP hS (lv_sub hl [0] rfl) h
      · replace h := if_f c36 h
        refine lv_aload_n hx hb dX10_table_39 rfl (lv_at hl 0 rfl) ?_
        refine g_R (C := RX10) (T := TX10) (N := 49) (ci := 10) 44 19 55 hx hb hts hown hK hP in_X10 rfl hcb okF_44_19 rfc_44_19 fl_167 dX10_table_40 ?_
        refine lv_iload_n hx hb dX10_table_43 rfl (lv_at hl 1 rfl) ?_
        obtain ⟨hi44, h⟩ := if_s1 h
        refine a_Z 55 hx hb hK hP hcb alZ_55 hi44 dX10_table_44 ?_
        refine lv_if_ne (tgt := 55) hx hb dX10_table_45 (by decide) (fun c45 => ?_) (fun c45 => ?_)
        · replace h := if_f c45 h
          refine lv_iload_n hx hb dX10_table_55 rfl (lv_at hl 2 rfl) ?_
          refine lv_i2l (v := (x2).toInt64) hx hb dX10_table_56 rfl ?_
          refine lv_lconst (v := (0 : Int64)) hx hb dX10_table_57 (by decide) ?_
          refine lv_ldc2 hx hb hown (hts _ cl_12) dX10_table_58 ?_
          obtain ⟨r61, er61, h⟩ := bd_s1 h
          refine c_SI (As := [.long (x2).toInt64, .long (0 : Int64), .long (5 : Int64)]) (rest := []) hx hb hml hown hts hK hN hL hP hS (cX10_isIn_ l bs D y hcb n (x2).toInt64 (0 : Int64) (5 : Int64) r2.2.1 r2.2.2 r61 er61) ok_X10_isIn ov_X10_isIn ml_120 ⟨Nat.le_of_ble_eq_true rfl, Nat.le_of_ble_eq_true rfl⟩ hl.1 rfl rfl (Nat.le_of_ble_eq_true rfl) ⟨Nat.zero_le _, Nat.zero_le _⟩ dX10_table_61 (fun H locs hP hS => ?_)
          refine lv_if_ne (tgt := 74) hx hb dX10_table_64 (by decide) (fun c64 => ?_) (fun c64 => ?_)
          · replace h := if_f c64 h
            refine lv_iload_n hx hb dX10_table_74 rfl (lv_at hl 2 rfl) ?_
            refine lv_if_ne (tgt := 85) hx hb dX10_table_75 (by decide) (fun c75 => ?_) (fun c75 => ?_)
            · replace h := if_f c75 h
              refine lv_iload_n hx hb dX10_table_85 rfl (lv_at hl 2 rfl) ?_
              refine lv_iconst (v := (1 : Int32)) hx hb dX10_table_86 (by decide) ?_
              refine lv_icmp_ne (tgt := 97) hx hb dX10_table_87 (by decide) (fun c87 => ?_) (fun c87 => ?_)
              · replace h := if_f c87 h
                refine lv_iload_n hx hb dX10_table_97 rfl (lv_at hl 2 rfl) ?_
                refine lv_iconst (v := (2 : Int32)) hx hb dX10_table_98 (by decide) ?_
                refine lv_isub hx hb dX10_table_99 ?_
                refine lv_aload_n hx hb dX10_table_100 rfl (lv_at hl 0 rfl) ?_
                refine g_R (C := RX10) (T := TX10) (N := 49) (ci := 10) 44 21 57 hx hb hts hown hK hP in_X10 rfl hcb okF_44_21 rfc_44_21 fl_164 dX10_table_101 ?_
                refine lv_iload_n hx hb dX10_table_104 rfl (lv_at hl 1 rfl) ?_
                obtain ⟨hi105, h⟩ := if_s1 h
                refine a_I 57 hx hb hK hP hcb aln_57 hi105 dX10_table_105 ?_
                refine lv_icmp_ge (tgt := 124) hx hb dX10_table_106 (by decide) (fun c106 => ?_) (fun c106 => ?_)
                · replace h := if_t c106 h
                  refine lv_iconst (v := (-1 : Int32)) hx hb dX10_table_124 (by decide) ?_
                  exact r_I hx hb hr hlocks hP hK hN hL hS h dX10_table_125
                · replace h := if_f c106 h
                  refine lv_aload_n hx hb dX10_table_109 rfl (lv_at hl 0 rfl) ?_
                  refine g_R (C := RX10) (T := TX10) (N := 49) (ci := 10) 44 20 56 hx hb hts hown hK hP in_X10 rfl hcb okF_44_20 rfc_44_20 fl_165 dX10_table_110 ?_
                  refine lv_iconst (v := (4 : Int32)) hx hb dX10_table_113 (by decide) ?_
                  refine lv_iload_n hx hb dX10_table_114 rfl (lv_at hl 1 rfl) ?_
                  refine lv_imul hx hb dX10_table_115 ?_
                  refine lv_iload_n hx hb dX10_table_116 rfl (lv_at hl 2 rfl) ?_
                  refine lv_iadd hx hb dX10_table_117 ?_
                  refine lv_iconst (v := (2 : Int32)) hx hb dX10_table_118 (by decide) ?_
                  refine lv_isub hx hb dX10_table_119 ?_
                  obtain ⟨hi120, h⟩ := if_s1 h
                  refine a_I 56 hx hb hK hP hcb aln_56 hi120 dX10_table_120 ?_
                  refine lv_goto (tgt := 125) hx hb dX10_table_121 (by decide) ?_
                  exact r_I hx hb hr hlocks hP hK hN hL hS h dX10_table_125
              · replace h := if_t c87 h
                refine lv_aload_n hx hb dX10_table_90 rfl (lv_at hl 0 rfl) ?_
                refine g_R (C := RX10) (T := TX10) (N := 49) (ci := 10) 44 22 58 hx hb hts hown hK hP in_X10 rfl hcb okF_44_22 rfc_44_22 fl_166 dX10_table_91 ?_
                refine lv_iload_n hx hb dX10_table_94 rfl (lv_at hl 1 rfl) ?_
                obtain ⟨hi95, h⟩ := if_s1 h
                refine a_I 58 hx hb hK hP hcb aln_58 hi95 dX10_table_95 ?_
                exact r_I hx hb hr hlocks hP hK hN hL hS h dX10_table_96
            · replace h := if_t c75 h
              refine lv_aload_n hx hb dX10_table_78 rfl (lv_at hl 0 rfl) ?_
              refine g_R (C := RX10) (T := TX10) (N := 49) (ci := 10) 44 21 57 hx hb hts hown hK hP in_X10 rfl hcb okF_44_21 rfc_44_21 fl_164 dX10_table_79 ?_
              refine lv_iload_n hx hb dX10_table_82 rfl (lv_at hl 1 rfl) ?_
              obtain ⟨hi83, h⟩ := if_s1 h
              refine a_I 57 hx hb hK hP hcb aln_57 hi83 dX10_table_83 ?_
              exact r_I hx hb hr hlocks hP hK hN hL hS h dX10_table_84
          · replace h := if_t c64 h
            refine lv_aload_n hx hb dX10_table_67 rfl (lv_at hl 0 rfl) ?_
            refine lv_bipush (v := (-7 : Int32)) hx hb dX10_table_68 (by decide) ?_
            obtain ⟨r70, er70, h⟩ := bd_s1 h
            refine c_VI (k := 44) (ci := 10) (As := [.int (-7 : Int32)]) (rest := []) hx hb hml hown hts hK hN hL hP hS (cX10_no_ l bs D y hcb n (-7 : Int32) r61.2.1 r61.2.2 r70 er70) ok_X10_no ov_X10_no ml_118 ⟨Nat.le_of_ble_eq_true rfl, Nat.le_of_ble_eq_true rfl⟩ rfl hcb kd_44 hl.1 rfl rfl (Nat.le_of_ble_eq_true rfl) ⟨Nat.zero_le _, Nat.zero_le _⟩ dX10_table_70 (fun H locs hP hS => ?_)
            exact r_I hx hb hr hlocks hP hK hN hL hS h dX10_table_73
        · replace h := if_t c45 h
          exact wX10_table_48 bs D y n  r Gc   r2.2.1 r2.2.2 _ _ _ hP hS (lv_sub hl [0] rfl) h
    · replace h := if_f c22 h
      refine lv_aload_n hx hb dX10_table_25 rfl (lv_at hl 0 rfl) ?_
      refine lv_bipush (v := (-5 : Int32)) hx hb dX10_table_26 (by decide) ?_
      obtain ⟨r28, er28, h⟩ := bd_s1 h
      refine c_VI (k := 44) (ci := 10) (As := [.int (-5 : Int32)]) (rest := []) hx hb hml hown hts hK hN hL hP hS (cX10_no_ l bs D y hcb n (-5 : Int32) r2.2.1 r2.2.2 r28 er28) ok_X10_no ov_X10_no ml_118 ⟨Nat.le_of_ble_eq_true rfl, Nat.le_of_ble_eq_true rfl⟩ rfl hcb kd_44 hl.1 rfl rfl (Nat.le_of_ble_eq_true rfl) ⟨Nat.zero_le _, Nat.zero_le _⟩ dX10_table_28 (fun H locs hP hS => ?_)
      exact r_I hx hb hr hlocks hP hK hN hL hS h dX10_table_31
  · replace h := if_t c5 h
    refine lv_aload_n hx hb dX10_table_8 rfl (lv_at hl 0 rfl) ?_
    refine lv_bipush (v := (-3 : Int32)) hx hb dX10_table_9 (by decide) ?_
    obtain ⟨r11, er11, h⟩ := bd_s1 h
    refine c_VI (k := 44) (ci := 10) (As := [.int (-3 : Int32)]) (rest := []) hx hb hml hown hts hK hN hL hP hS (cX10_no_ l bs D y hcb n (-3 : Int32) r2.2.1 r2.2.2 r11 er11) ok_X10_no ov_X10_no ml_118 ⟨Nat.le_of_ble_eq_true rfl, Nat.le_of_ble_eq_true rfl⟩ rfl hcb kd_44 hl.1 rfl rfl (Nat.le_of_ble_eq_true rfl) ⟨Nat.zero_le _, Nat.zero_le _⟩ dX10_table_11 (fun H locs hP hS => ?_)
    exact r_I hx hb hr hlocks hP hK hN hL hS h dX10_table_14
theorem dX10_isThing_0 : decode cX10_isThing 0 = .ok (.aload_n 0, 1) := by decide +kernel
theorem dX10_isThing_1 : decode cX10_isThing 1 = .ok (.getfield 7, 3) := by decide +kernel
theorem dX10_isThing_4 : decode cX10_isThing 4 = .ok (.iload_n 1, 1) := by decide +kernel
theorem dX10_isThing_5 : decode cX10_isThing 5 = .ok (.iaload, 1) := by decide +kernel
theorem dX10_isThing_6 : decode cX10_isThing 6 = .ok (.iconst 2, 1) := by decide +kernel
theorem dX10_isThing_7 : decode cX10_isThing 7 = .ok (.if_icmp .ne 12, 3) := by decide +kernel
theorem dX10_isThing_10 : decode cX10_isThing 10 = .ok (.aload_n 0, 1) := by decide +kernel
theorem dX10_isThing_11 : decode cX10_isThing 11 = .ok (.getfield 41, 3) := by decide +kernel
theorem dX10_isThing_14 : decode cX10_isThing 14 = .ok (.iload_n 1, 1) := by decide +kernel
theorem dX10_isThing_15 : decode cX10_isThing 15 = .ok (.baload, 1) := by decide +kernel
theorem dX10_isThing_16 : decode cX10_isThing 16 = .ok (.ifCond .eq 7, 3) := by decide +kernel
theorem dX10_isThing_19 : decode cX10_isThing 19 = .ok (.iconst 1, 1) := by decide +kernel
theorem dX10_isThing_20 : decode cX10_isThing 20 = .ok (.goto 4, 3) := by decide +kernel
theorem dX10_isThing_23 : decode cX10_isThing 23 = .ok (.iconst 0, 1) := by decide +kernel
theorem dX10_isThing_24 : decode cX10_isThing 24 = .ok (.ireturn, 1) := by decide +kernel
set_option maxHeartbeats 4000000 in
set_option maxRecDepth 100000 in
theorem wX10_isThing_19 {p : Program} {l : Launch} {e : Env} {s : State} {m : MethodId} {args : Array Value} {below : List Frame} {meth : Method} {c : Code} (bs : Nat) (D : va_G) (y : Y3) (n : Nat) (r : Int32 × M2) (Gc : Gx p s m args meth c cX10_isThing 2 RX10 bs D y (some .boolean) 76)  (I : MI) (J : MJ) (H : Heap) (locs : List Loc) (ls : Array Slot) (hP : va_P D vwCl (wl bs y I J) H) (hS : va_S (FA bs) s.heap H locs) (hl : lv_has ls 2 []) (h : fX10_isThing_19 n   I J = some r) : W p l e (rmm 0 0) s m args below meth c H locs 0 0 (QI below args s bs D y r) (F0 m 19 ls []) := by
  obtain ⟨hx, hb, hml, hown, hts, hK, hN, hL, hr, hlocks, hcb⟩ := id Gc
  unfold fX10_isThing_19 at h
  refine lv_iconst (v := (1 : Int32)) hx hb dX10_isThing_19 (by decide) ?_
  refine lv_goto (tgt := 24) hx hb dX10_isThing_20 (by decide) ?_
  exact r_Z hx hb hr hlocks hP hK hN hL hS (by decide) h dX10_isThing_24
set_option maxHeartbeats 4000000 in
set_option maxRecDepth 100000 in
theorem cX10_isThing_ (l : Launch) (bs : Nat) (D : va_G) (y : Y3) (hcb : 76 ≤ y.2.2.2) (n : Nat) (x1 : Int32) (I : MI) (J : MJ) (r : Int32 × M2) (h : fX10_isThing n x1 I J = some r) : Met l yX10_isThing (.code yX10_isThing cX10_isThing 2 (some .boolean) :: gtb) (rmm 0 0) (va_Pc [.ref (bs + 44), .int x1] (HB bs D y I J)) (QcI bs D y r) 0 0 (FA bs) := by
  refine Met.ofW (cc := cX10_isThing) (maxL := 2) (ret := (some .boolean)) (by decide) rfl ?_
  intro p e s m args below meth c s₁ B hml hv
  obtain ⟨rfl, hP, hK, hN, hL⟩ := hv
  have hx := B.exec
  have hb := B.bytes
  have hr := B.returns
  have hts0 := atoms_spec (ws := .code yX10_isThing cX10_isThing 2 (some .boolean) :: gtb) B.pre
  have hts : ∀ w ∈ gtb, w.before [.ref (bs + 44), .int x1].toArray s = true := fun w hw => hts0 w (List.mem_cons_of_mem _ hw)
  have hown : s.vm.findClass RX10 = some m.cls := findClass_of_methodNamed B.named
  have hlocks := B.notSynchronized
  have hS : va_S (FA bs) s.heap s.heap [] := va_S.rf
  have Gc : Gx p s m [.ref (bs + 44), .int x1].toArray meth c cX10_isThing 2 RX10 bs D y (some .boolean) 76 := ⟨hx, hb, hml, hown, hts, hK, hN, hL, hr, hlocks, hcb⟩
  have hl := lv_entry [.ref (bs + 44), .int x1] (n := 2) (Nat.le_of_ble_eq_true rfl)
  rw [lg_entry_eq]
  generalize (lg_sl [.ref (bs + 44), .int x1] ++ List.replicate (2 - (lg_sl [.ref (bs + 44), .int x1]).length) Slot.unset).toArray = ls at hl ⊢
  have hl : lv_has ls 2 [(0, .ref (bs + 44)), (1, .int x1)] := hl
  change W p l e (rmm 0 0) s m [.ref (bs + 44), .int x1].toArray below meth c s.heap [] 0 0 (QI below [.ref (bs + 44), .int x1].toArray s bs D y r) (F0 m 0 ls [])
  unfold fX10_isThing at h
  refine lv_aload_n hx hb dX10_isThing_0 rfl (lv_at hl 0 rfl) ?_
  refine g_R (C := RX10) (T := TX10) (N := 49) (ci := 10) 44 0 45 hx hb hts hown hK hP in_X10 rfl hcb okF_44_0 rfc_44_0 fl_146 dX10_isThing_1 ?_
  refine lv_iload_n hx hb dX10_isThing_4 rfl (lv_at hl 1 rfl) ?_
  obtain ⟨hi5, h⟩ := if_s1 h
  refine a_I 45 hx hb hK hP hcb aln_45 hi5 dX10_isThing_5 ?_
  refine lv_iconst (v := (2 : Int32)) hx hb dX10_isThing_6 (by decide) ?_
  refine lv_icmp_ne (tgt := 19) hx hb dX10_isThing_7 (by decide) (fun c7 => ?_) (fun c7 => ?_)
  · replace h := if_f c7 h
    exact wX10_isThing_19 bs D y n  r Gc   I J _ _ _ hP hS (lv_sub hl [] rfl) h
  · replace h := if_t c7 h
    refine lv_aload_n hx hb dX10_isThing_10 rfl (lv_at hl 0 rfl) ?_
    refine g_R (C := RX10) (T := TX10) (N := 49) (ci := 10) 44 19 55 hx hb hts hown hK hP in_X10 rfl hcb okF_44_19 rfc_44_19 fl_167 dX10_isThing_11 ?_
    refine lv_iload_n hx hb dX10_isThing_14 rfl (lv_at hl 1 rfl) ?_
    obtain ⟨hi15, h⟩ := if_s1 h
    refine a_Z 55 hx hb hK hP hcb alZ_55 hi15 dX10_isThing_15 ?_
    refine lv_if_eq (tgt := 23) hx hb dX10_isThing_16 (by decide) (fun c16 => ?_) (fun c16 => ?_)
    · replace h := if_t c16 h
      refine lv_iconst (v := (0 : Int32)) hx hb dX10_isThing_23 (by decide) ?_
      exact r_Z hx hb hr hlocks hP hK hN hL hS (by decide) h dX10_isThing_24
    · replace h := if_f c16 h
      exact wX10_isThing_19 bs D y n  r Gc   I J _ _ _ hP hS (lv_sub hl [] rfl) h
theorem dX10_lettersOf_0 : decode cX10_lettersOf 0 = .ok (.aload_n 0, 1) := by decide +kernel
theorem dX10_lettersOf_1 : decode cX10_lettersOf 1 = .ok (.getfield 7, 3) := by decide +kernel
theorem dX10_lettersOf_4 : decode cX10_lettersOf 4 = .ok (.iload_n 1, 1) := by decide +kernel
theorem dX10_lettersOf_5 : decode cX10_lettersOf 5 = .ok (.iaload, 1) := by decide +kernel
theorem dX10_lettersOf_6 : decode cX10_lettersOf 6 = .ok (.iconst 1, 1) := by decide +kernel
theorem dX10_lettersOf_7 : decode cX10_lettersOf 7 = .ok (.if_icmp .ne 7, 3) := by decide +kernel
theorem dX10_lettersOf_10 : decode cX10_lettersOf 10 = .ok (.iconst 1, 1) := by decide +kernel
theorem dX10_lettersOf_11 : decode cX10_lettersOf 11 = .ok (.goto 23, 3) := by decide +kernel
theorem dX10_lettersOf_14 : decode cX10_lettersOf 14 = .ok (.aload_n 0, 1) := by decide +kernel
theorem dX10_lettersOf_15 : decode cX10_lettersOf 15 = .ok (.getfield 7, 3) := by decide +kernel
theorem dX10_lettersOf_18 : decode cX10_lettersOf 18 = .ok (.iload_n 1, 1) := by decide +kernel
theorem dX10_lettersOf_19 : decode cX10_lettersOf 19 = .ok (.iaload, 1) := by decide +kernel
theorem dX10_lettersOf_20 : decode cX10_lettersOf 20 = .ok (.iconst 2, 1) := by decide +kernel
theorem dX10_lettersOf_21 : decode cX10_lettersOf 21 = .ok (.if_icmp .ne 12, 3) := by decide +kernel
theorem dX10_lettersOf_24 : decode cX10_lettersOf 24 = .ok (.aload_n 0, 1) := by decide +kernel
theorem dX10_lettersOf_25 : decode cX10_lettersOf 25 = .ok (.getfield 47, 3) := by decide +kernel
theorem dX10_lettersOf_28 : decode cX10_lettersOf 28 = .ok (.iload_n 1, 1) := by decide +kernel
theorem dX10_lettersOf_29 : decode cX10_lettersOf 29 = .ok (.iaload, 1) := by decide +kernel
theorem dX10_lettersOf_30 : decode cX10_lettersOf 30 = .ok (.goto 4, 3) := by decide +kernel
theorem dX10_lettersOf_33 : decode cX10_lettersOf 33 = .ok (.iconst 0, 1) := by decide +kernel
theorem dX10_lettersOf_34 : decode cX10_lettersOf 34 = .ok (.ireturn, 1) := by decide +kernel
set_option maxHeartbeats 4000000 in
set_option maxRecDepth 100000 in
theorem cX10_lettersOf_ (l : Launch) (bs : Nat) (D : va_G) (y : Y3) (hcb : 76 ≤ y.2.2.2) (n : Nat) (x1 : Int32) (I : MI) (J : MJ) (r : Int32 × M2) (h : fX10_lettersOf n x1 I J = some r) : Met l yX10_lettersOf (.code yX10_lettersOf cX10_lettersOf 2 (some .int) :: gtb) (rmm 0 0) (va_Pc [.ref (bs + 44), .int x1] (HB bs D y I J)) (QcI bs D y r) 0 0 (FA bs) := by
  refine Met.ofW (cc := cX10_lettersOf) (maxL := 2) (ret := (some .int)) (by decide) rfl ?_
  intro p e s m args below meth c s₁ B hml hv
  obtain ⟨rfl, hP, hK, hN, hL⟩ := hv
  have hx := B.exec
  have hb := B.bytes
  have hr := B.returns
  have hts0 := atoms_spec (ws := .code yX10_lettersOf cX10_lettersOf 2 (some .int) :: gtb) B.pre
  have hts : ∀ w ∈ gtb, w.before [.ref (bs + 44), .int x1].toArray s = true := fun w hw => hts0 w (List.mem_cons_of_mem _ hw)
  have hown : s.vm.findClass RX10 = some m.cls := findClass_of_methodNamed B.named
  have hlocks := B.notSynchronized
  have hS : va_S (FA bs) s.heap s.heap [] := va_S.rf
  have Gc : Gx p s m [.ref (bs + 44), .int x1].toArray meth c cX10_lettersOf 2 RX10 bs D y (some .int) 76 := ⟨hx, hb, hml, hown, hts, hK, hN, hL, hr, hlocks, hcb⟩
  have hl := lv_entry [.ref (bs + 44), .int x1] (n := 2) (Nat.le_of_ble_eq_true rfl)
  rw [lg_entry_eq]
  generalize (lg_sl [.ref (bs + 44), .int x1] ++ List.replicate (2 - (lg_sl [.ref (bs + 44), .int x1]).length) Slot.unset).toArray = ls at hl ⊢
  have hl : lv_has ls 2 [(0, .ref (bs + 44)), (1, .int x1)] := hl
  change W p l e (rmm 0 0) s m [.ref (bs + 44), .int x1].toArray below meth c s.heap [] 0 0 (QI below [.ref (bs + 44), .int x1].toArray s bs D y r) (F0 m 0 ls [])
  unfold fX10_lettersOf at h
  refine lv_aload_n hx hb dX10_lettersOf_0 rfl (lv_at hl 0 rfl) ?_
  refine g_R (C := RX10) (T := TX10) (N := 49) (ci := 10) 44 0 45 hx hb hts hown hK hP in_X10 rfl hcb okF_44_0 rfc_44_0 fl_146 dX10_lettersOf_1 ?_
  refine lv_iload_n hx hb dX10_lettersOf_4 rfl (lv_at hl 1 rfl) ?_
  obtain ⟨hi5, h⟩ := if_s1 h
  refine a_I 45 hx hb hK hP hcb aln_45 hi5 dX10_lettersOf_5 ?_
  refine lv_iconst (v := (1 : Int32)) hx hb dX10_lettersOf_6 (by decide) ?_
  refine lv_icmp_ne (tgt := 14) hx hb dX10_lettersOf_7 (by decide) (fun c7 => ?_) (fun c7 => ?_)
  · replace h := if_f c7 h
    refine lv_aload_n hx hb dX10_lettersOf_14 rfl (lv_at hl 0 rfl) ?_
    refine g_R (C := RX10) (T := TX10) (N := 49) (ci := 10) 44 0 45 hx hb hts hown hK hP in_X10 rfl hcb okF_44_0 rfc_44_0 fl_146 dX10_lettersOf_15 ?_
    refine lv_iload_n hx hb dX10_lettersOf_18 rfl (lv_at hl 1 rfl) ?_
    obtain ⟨hi19, h⟩ := if_s1 h
    refine a_I 45 hx hb hK hP hcb aln_45 hi19 dX10_lettersOf_19 ?_
    refine lv_iconst (v := (2 : Int32)) hx hb dX10_lettersOf_20 (by decide) ?_
    refine lv_icmp_ne (tgt := 33) hx hb dX10_lettersOf_21 (by decide) (fun c21 => ?_) (fun c21 => ?_)
    · replace h := if_f c21 h
      refine lv_iconst (v := (0 : Int32)) hx hb dX10_lettersOf_33 (by decide) ?_
      exact r_I hx hb hr hlocks hP hK hN hL hS h dX10_lettersOf_34
    · replace h := if_t c21 h
      refine lv_aload_n hx hb dX10_lettersOf_24 rfl (lv_at hl 0 rfl) ?_
      refine g_R (C := RX10) (T := TX10) (N := 49) (ci := 10) 44 21 57 hx hb hts hown hK hP in_X10 rfl hcb okF_44_21 rfc_44_21 fl_164 dX10_lettersOf_25 ?_
      refine lv_iload_n hx hb dX10_lettersOf_28 rfl (lv_at hl 1 rfl) ?_
      obtain ⟨hi29, h⟩ := if_s1 h
      refine a_I 57 hx hb hK hP hcb aln_57 hi29 dX10_lettersOf_29 ?_
      refine lv_goto (tgt := 34) hx hb dX10_lettersOf_30 (by decide) ?_
      exact r_I hx hb hr hlocks hP hK hN hL hS h dX10_lettersOf_34
  · replace h := if_t c7 h
    refine lv_iconst (v := (1 : Int32)) hx hb dX10_lettersOf_10 (by decide) ?_
    refine lv_goto (tgt := 34) hx hb dX10_lettersOf_11 (by decide) ?_
    exact r_I hx hb hr hlocks hP hK hN hL hS h dX10_lettersOf_34
theorem dX10_letter_0 : decode cX10_letter 0 = .ok (.aload_n 0, 1) := by decide +kernel
theorem dX10_letter_1 : decode cX10_letter 1 = .ok (.getfield 7, 3) := by decide +kernel
theorem dX10_letter_4 : decode cX10_letter 4 = .ok (.iload_n 1, 1) := by decide +kernel
theorem dX10_letter_5 : decode cX10_letter 5 = .ok (.iaload, 1) := by decide +kernel
theorem dX10_letter_6 : decode cX10_letter 6 = .ok (.iconst 1, 1) := by decide +kernel
theorem dX10_letter_7 : decode cX10_letter 7 = .ok (.if_icmp .ne 12, 3) := by decide +kernel
theorem dX10_letter_10 : decode cX10_letter 10 = .ok (.aload_n 0, 1) := by decide +kernel
theorem dX10_letter_11 : decode cX10_letter 11 = .ok (.getfield 13, 3) := by decide +kernel
theorem dX10_letter_14 : decode cX10_letter 14 = .ok (.iload_n 1, 1) := by decide +kernel
theorem dX10_letter_15 : decode cX10_letter 15 = .ok (.iaload, 1) := by decide +kernel
theorem dX10_letter_16 : decode cX10_letter 16 = .ok (.goto 13, 3) := by decide +kernel
theorem dX10_letter_19 : decode cX10_letter 19 = .ok (.aload_n 0, 1) := by decide +kernel
theorem dX10_letter_20 : decode cX10_letter 20 = .ok (.getfield 44, 3) := by decide +kernel
theorem dX10_letter_23 : decode cX10_letter 23 = .ok (.iconst 4, 1) := by decide +kernel
theorem dX10_letter_24 : decode cX10_letter 24 = .ok (.iload_n 1, 1) := by decide +kernel
theorem dX10_letter_25 : decode cX10_letter 25 = .ok (.imul, 1) := by decide +kernel
theorem dX10_letter_26 : decode cX10_letter 26 = .ok (.iload_n 2, 1) := by decide +kernel
theorem dX10_letter_27 : decode cX10_letter 27 = .ok (.iadd, 1) := by decide +kernel
theorem dX10_letter_28 : decode cX10_letter 28 = .ok (.iaload, 1) := by decide +kernel
theorem dX10_letter_29 : decode cX10_letter 29 = .ok (.ireturn, 1) := by decide +kernel
set_option maxHeartbeats 4000000 in
set_option maxRecDepth 100000 in
theorem cX10_letter_ (l : Launch) (bs : Nat) (D : va_G) (y : Y3) (hcb : 76 ≤ y.2.2.2) (n : Nat) (x1 : Int32) (x2 : Int32) (I : MI) (J : MJ) (r : Int32 × M2) (h : fX10_letter n x1 x2 I J = some r) : Met l yX10_letter (.code yX10_letter cX10_letter 3 (some .int) :: gtb) (rmm 0 0) (va_Pc [.ref (bs + 44), .int x1, .int x2] (HB bs D y I J)) (QcI bs D y r) 0 0 (FA bs) := by
  refine Met.ofW (cc := cX10_letter) (maxL := 3) (ret := (some .int)) (by decide) rfl ?_
  intro p e s m args below meth c s₁ B hml hv
  obtain ⟨rfl, hP, hK, hN, hL⟩ := hv
  have hx := B.exec
  have hb := B.bytes
  have hr := B.returns
  have hts0 := atoms_spec (ws := .code yX10_letter cX10_letter 3 (some .int) :: gtb) B.pre
  have hts : ∀ w ∈ gtb, w.before [.ref (bs + 44), .int x1, .int x2].toArray s = true := fun w hw => hts0 w (List.mem_cons_of_mem _ hw)
  have hown : s.vm.findClass RX10 = some m.cls := findClass_of_methodNamed B.named
  have hlocks := B.notSynchronized
  have hS : va_S (FA bs) s.heap s.heap [] := va_S.rf
  have Gc : Gx p s m [.ref (bs + 44), .int x1, .int x2].toArray meth c cX10_letter 3 RX10 bs D y (some .int) 76 := ⟨hx, hb, hml, hown, hts, hK, hN, hL, hr, hlocks, hcb⟩
  have hl := lv_entry [.ref (bs + 44), .int x1, .int x2] (n := 3) (Nat.le_of_ble_eq_true rfl)
  rw [lg_entry_eq]
  generalize (lg_sl [.ref (bs + 44), .int x1, .int x2] ++ List.replicate (3 - (lg_sl [.ref (bs + 44), .int x1, .int x2]).length) Slot.unset).toArray = ls at hl ⊢
  have hl : lv_has ls 3 [(0, .ref (bs + 44)), (1, .int x1), (2, .int x2)] := hl
  change W p l e (rmm 0 0) s m [.ref (bs + 44), .int x1, .int x2].toArray below meth c s.heap [] 0 0 (QI below [.ref (bs + 44), .int x1, .int x2].toArray s bs D y r) (F0 m 0 ls [])
  unfold fX10_letter at h
  refine lv_aload_n hx hb dX10_letter_0 rfl (lv_at hl 0 rfl) ?_
  refine g_R (C := RX10) (T := TX10) (N := 49) (ci := 10) 44 0 45 hx hb hts hown hK hP in_X10 rfl hcb okF_44_0 rfc_44_0 fl_146 dX10_letter_1 ?_
  refine lv_iload_n hx hb dX10_letter_4 rfl (lv_at hl 1 rfl) ?_
  obtain ⟨hi5, h⟩ := if_s1 h
  refine a_I 45 hx hb hK hP hcb aln_45 hi5 dX10_letter_5 ?_
  refine lv_iconst (v := (1 : Int32)) hx hb dX10_letter_6 (by decide) ?_
  refine lv_icmp_ne (tgt := 19) hx hb dX10_letter_7 (by decide) (fun c7 => ?_) (fun c7 => ?_)
  · replace h := if_f c7 h
    refine lv_aload_n hx hb dX10_letter_19 rfl (lv_at hl 0 rfl) ?_
    refine g_R (C := RX10) (T := TX10) (N := 49) (ci := 10) 44 20 56 hx hb hts hown hK hP in_X10 rfl hcb okF_44_20 rfc_44_20 fl_165 dX10_letter_20 ?_
    refine lv_iconst (v := (4 : Int32)) hx hb dX10_letter_23 (by decide) ?_
    refine lv_iload_n hx hb dX10_letter_24 rfl (lv_at hl 1 rfl) ?_
    refine lv_imul hx hb dX10_letter_25 ?_
    refine lv_iload_n hx hb dX10_letter_26 rfl (lv_at hl 2 rfl) ?_
    refine lv_iadd hx hb dX10_letter_27 ?_
    obtain ⟨hi28, h⟩ := if_s1 h
    refine a_I 56 hx hb hK hP hcb aln_56 hi28 dX10_letter_28 ?_
    exact r_I hx hb hr hlocks hP hK hN hL hS h dX10_letter_29
  · replace h := if_t c7 h
    refine lv_aload_n hx hb dX10_letter_10 rfl (lv_at hl 0 rfl) ?_
    refine g_R (C := RX10) (T := TX10) (N := 49) (ci := 10) 44 1 46 hx hb hts hown hK hP in_X10 rfl hcb okF_44_1 rfc_44_1 fl_153 dX10_letter_11 ?_
    refine lv_iload_n hx hb dX10_letter_14 rfl (lv_at hl 1 rfl) ?_
    obtain ⟨hi15, h⟩ := if_s1 h
    refine a_I 46 hx hb hK hP hcb aln_46 hi15 dX10_letter_15 ?_
    refine lv_goto (tgt := 29) hx hb dX10_letter_16 (by decide) ?_
    exact r_I hx hb hr hlocks hP hK hN hL hS h dX10_letter_29
theorem dX10_tiles_0 : decode cX10_tiles 0 = .ok (.aload_n 0, 1) := by decide +kernel
theorem dX10_tiles_1 : decode cX10_tiles 1 = .ok (.getfield 56, 3) := by decide +kernel
theorem dX10_tiles_4 : decode cX10_tiles 4 = .ok (.aload_n 0, 1) := by decide +kernel
theorem dX10_tiles_5 : decode cX10_tiles 5 = .ok (.getfield 60, 3) := by decide +kernel
theorem dX10_tiles_8 : decode cX10_tiles 8 = .ok (.imul, 1) := by decide +kernel
theorem dX10_tiles_9 : decode cX10_tiles 9 = .ok (.ireturn, 1) := by decide +kernel
set_option maxHeartbeats 4000000 in
set_option maxRecDepth 100000 in
theorem cX10_tiles_ (l : Launch) (bs : Nat) (D : va_G) (y : Y3) (hcb : 76 ≤ y.2.2.2) (n : Nat) (I : MI) (J : MJ) (r : Int32 × M2) (h : fX10_tiles n  I J = some r) : Met l yX10_tiles (.code yX10_tiles cX10_tiles 1 (some .int) :: gtb) (rmm 0 0) (va_Pc [.ref (bs + 44)] (HB bs D y I J)) (QcI bs D y r) 0 0 (FA bs) := by
  refine Met.ofW (cc := cX10_tiles) (maxL := 1) (ret := (some .int)) (by decide) rfl ?_
  intro p e s m args below meth c s₁ B hml hv
  obtain ⟨rfl, hP, hK, hN, hL⟩ := hv
  have hx := B.exec
  have hb := B.bytes
  have hr := B.returns
  have hts0 := atoms_spec (ws := .code yX10_tiles cX10_tiles 1 (some .int) :: gtb) B.pre
  have hts : ∀ w ∈ gtb, w.before [.ref (bs + 44)].toArray s = true := fun w hw => hts0 w (List.mem_cons_of_mem _ hw)
  have hown : s.vm.findClass RX10 = some m.cls := findClass_of_methodNamed B.named
  have hlocks := B.notSynchronized
  have hS : va_S (FA bs) s.heap s.heap [] := va_S.rf
  have Gc : Gx p s m [.ref (bs + 44)].toArray meth c cX10_tiles 1 RX10 bs D y (some .int) 76 := ⟨hx, hb, hml, hown, hts, hK, hN, hL, hr, hlocks, hcb⟩
  have hl := lv_entry [.ref (bs + 44)] (n := 1) (Nat.le_of_ble_eq_true rfl)
  rw [lg_entry_eq]
  generalize (lg_sl [.ref (bs + 44)] ++ List.replicate (1 - (lg_sl [.ref (bs + 44)]).length) Slot.unset).toArray = ls at hl ⊢
  have hl : lv_has ls 1 [(0, .ref (bs + 44))] := hl
  change W p l e (rmm 0 0) s m [.ref (bs + 44)].toArray below meth c s.heap [] 0 0 (QI below [.ref (bs + 44)].toArray s bs D y r) (F0 m 0 ls [])
  unfold fX10_tiles at h
  refine lv_aload_n hx hb dX10_tiles_0 rfl (lv_at hl 0 rfl) ?_
  refine g_I (C := RX10) (T := TX10) (N := 49) (ci := 10) 44 24 hx hb hts hown hK hP in_X10 rfl hcb okF_44_24 fl_168 dX10_tiles_1 ?_
  refine lv_aload_n hx hb dX10_tiles_4 rfl (lv_at hl 0 rfl) ?_
  refine g_I (C := RX10) (T := TX10) (N := 49) (ci := 10) 44 25 hx hb hts hown hK hP in_X10 rfl hcb okF_44_25 fl_169 dX10_tiles_5 ?_
  refine lv_imul hx hb dX10_tiles_8 ?_
  exact r_I hx hb hr hlocks hP hK hN hL hS h dX10_tiles_9
theorem dX10_joints_0 : decode cX10_joints 0 = .ok (.aload_n 0, 1) := by decide +kernel
theorem dX10_joints_1 : decode cX10_joints 1 = .ok (.getfield 60, 3) := by decide +kernel
theorem dX10_joints_4 : decode cX10_joints 4 = .ok (.aload_n 0, 1) := by decide +kernel
theorem dX10_joints_5 : decode cX10_joints 5 = .ok (.getfield 56, 3) := by decide +kernel
theorem dX10_joints_8 : decode cX10_joints 8 = .ok (.iconst 1, 1) := by decide +kernel
theorem dX10_joints_9 : decode cX10_joints 9 = .ok (.isub, 1) := by decide +kernel
theorem dX10_joints_10 : decode cX10_joints 10 = .ok (.imul, 1) := by decide +kernel
theorem dX10_joints_11 : decode cX10_joints 11 = .ok (.aload_n 0, 1) := by decide +kernel
theorem dX10_joints_12 : decode cX10_joints 12 = .ok (.getfield 56, 3) := by decide +kernel
theorem dX10_joints_15 : decode cX10_joints 15 = .ok (.aload_n 0, 1) := by decide +kernel
theorem dX10_joints_16 : decode cX10_joints 16 = .ok (.getfield 60, 3) := by decide +kernel
theorem dX10_joints_19 : decode cX10_joints 19 = .ok (.iconst 1, 1) := by decide +kernel
theorem dX10_joints_20 : decode cX10_joints 20 = .ok (.isub, 1) := by decide +kernel
theorem dX10_joints_21 : decode cX10_joints 21 = .ok (.imul, 1) := by decide +kernel
theorem dX10_joints_22 : decode cX10_joints 22 = .ok (.iadd, 1) := by decide +kernel
theorem dX10_joints_23 : decode cX10_joints 23 = .ok (.ireturn, 1) := by decide +kernel
set_option maxHeartbeats 4000000 in
set_option maxRecDepth 100000 in
theorem cX10_joints_ (l : Launch) (bs : Nat) (D : va_G) (y : Y3) (hcb : 76 ≤ y.2.2.2) (n : Nat) (I : MI) (J : MJ) (r : Int32 × M2) (h : fX10_joints n  I J = some r) : Met l yX10_joints (.code yX10_joints cX10_joints 1 (some .int) :: gtb) (rmm 0 0) (va_Pc [.ref (bs + 44)] (HB bs D y I J)) (QcI bs D y r) 0 0 (FA bs) := by
  refine Met.ofW (cc := cX10_joints) (maxL := 1) (ret := (some .int)) (by decide) rfl ?_
  intro p e s m args below meth c s₁ B hml hv
  obtain ⟨rfl, hP, hK, hN, hL⟩ := hv
  have hx := B.exec
  have hb := B.bytes
  have hr := B.returns
  have hts0 := atoms_spec (ws := .code yX10_joints cX10_joints 1 (some .int) :: gtb) B.pre
  have hts : ∀ w ∈ gtb, w.before [.ref (bs + 44)].toArray s = true := fun w hw => hts0 w (List.mem_cons_of_mem _ hw)
  have hown : s.vm.findClass RX10 = some m.cls := findClass_of_methodNamed B.named
  have hlocks := B.notSynchronized
  have hS : va_S (FA bs) s.heap s.heap [] := va_S.rf
  have Gc : Gx p s m [.ref (bs + 44)].toArray meth c cX10_joints 1 RX10 bs D y (some .int) 76 := ⟨hx, hb, hml, hown, hts, hK, hN, hL, hr, hlocks, hcb⟩
  have hl := lv_entry [.ref (bs + 44)] (n := 1) (Nat.le_of_ble_eq_true rfl)
  rw [lg_entry_eq]
  generalize (lg_sl [.ref (bs + 44)] ++ List.replicate (1 - (lg_sl [.ref (bs + 44)]).length) Slot.unset).toArray = ls at hl ⊢
  have hl : lv_has ls 1 [(0, .ref (bs + 44))] := hl
  change W p l e (rmm 0 0) s m [.ref (bs + 44)].toArray below meth c s.heap [] 0 0 (QI below [.ref (bs + 44)].toArray s bs D y r) (F0 m 0 ls [])
  unfold fX10_joints at h
  refine lv_aload_n hx hb dX10_joints_0 rfl (lv_at hl 0 rfl) ?_
  refine g_I (C := RX10) (T := TX10) (N := 49) (ci := 10) 44 25 hx hb hts hown hK hP in_X10 rfl hcb okF_44_25 fl_169 dX10_joints_1 ?_
  refine lv_aload_n hx hb dX10_joints_4 rfl (lv_at hl 0 rfl) ?_
  refine g_I (C := RX10) (T := TX10) (N := 49) (ci := 10) 44 24 hx hb hts hown hK hP in_X10 rfl hcb okF_44_24 fl_168 dX10_joints_5 ?_
  refine lv_iconst (v := (1 : Int32)) hx hb dX10_joints_8 (by decide) ?_
  refine lv_isub hx hb dX10_joints_9 ?_
  refine lv_imul hx hb dX10_joints_10 ?_
  refine lv_aload_n hx hb dX10_joints_11 rfl (lv_at hl 0 rfl) ?_
  refine g_I (C := RX10) (T := TX10) (N := 49) (ci := 10) 44 24 hx hb hts hown hK hP in_X10 rfl hcb okF_44_24 fl_168 dX10_joints_12 ?_
  refine lv_aload_n hx hb dX10_joints_15 rfl (lv_at hl 0 rfl) ?_
  refine g_I (C := RX10) (T := TX10) (N := 49) (ci := 10) 44 25 hx hb hts hown hK hP in_X10 rfl hcb okF_44_25 fl_169 dX10_joints_16 ?_
  refine lv_iconst (v := (1 : Int32)) hx hb dX10_joints_19 (by decide) ?_
  refine lv_isub hx hb dX10_joints_20 ?_
  refine lv_imul hx hb dX10_joints_21 ?_
  refine lv_iadd hx hb dX10_joints_22 ?_
  exact r_I hx hb hr hlocks hP hK hN hL hS h dX10_joints_23
theorem dX10_isTile_0 : decode cX10_isTile 0 = .ok (.iload_n 1, 1) := by decide +kernel
theorem dX10_isTile_1 : decode cX10_isTile 1 = .ok (.ifCond .lt 15, 3) := by decide +kernel
theorem dX10_isTile_4 : decode cX10_isTile 4 = .ok (.iload_n 1, 1) := by decide +kernel
theorem dX10_isTile_5 : decode cX10_isTile 5 = .ok (.aload_n 0, 1) := by decide +kernel
theorem dX10_isTile_6 : decode cX10_isTile 6 = .ok (.invokevirtual 216, 3) := by decide +kernel
theorem dX10_isTile_9 : decode cX10_isTile 9 = .ok (.if_icmp .ge 7, 3) := by decide +kernel
theorem dX10_isTile_12 : decode cX10_isTile 12 = .ok (.iconst 1, 1) := by decide +kernel
theorem dX10_isTile_13 : decode cX10_isTile 13 = .ok (.goto 4, 3) := by decide +kernel
theorem dX10_isTile_16 : decode cX10_isTile 16 = .ok (.iconst 0, 1) := by decide +kernel
theorem dX10_isTile_17 : decode cX10_isTile 17 = .ok (.ireturn, 1) := by decide +kernel
set_option maxHeartbeats 4000000 in
set_option maxRecDepth 100000 in
theorem cX10_isTile_ (l : Launch) (bs : Nat) (D : va_G) (y : Y3) (hcb : 76 ≤ y.2.2.2) (n : Nat) (x1 : Int32) (I : MI) (J : MJ) (r : Int32 × M2) (h : fX10_isTile n x1 I J = some r) : Met l yX10_isTile (.code yX10_isTile cX10_isTile 2 (some .boolean) :: gtb) (rmm 1 20) (va_Pc [.ref (bs + 44), .int x1] (HB bs D y I J)) (QcI bs D y r) 0 0 (FA bs) := by
  refine Met.ofW (cc := cX10_isTile) (maxL := 2) (ret := (some .boolean)) (by decide) rfl ?_
  intro p e s m args below meth c s₁ B hml hv
  obtain ⟨rfl, hP, hK, hN, hL⟩ := hv
  have hx := B.exec
  have hb := B.bytes
  have hr := B.returns
  have hts0 := atoms_spec (ws := .code yX10_isTile cX10_isTile 2 (some .boolean) :: gtb) B.pre
  have hts : ∀ w ∈ gtb, w.before [.ref (bs + 44), .int x1].toArray s = true := fun w hw => hts0 w (List.mem_cons_of_mem _ hw)
  have hown : s.vm.findClass RX10 = some m.cls := findClass_of_methodNamed B.named
  have hlocks := B.notSynchronized
  have hS : va_S (FA bs) s.heap s.heap [] := va_S.rf
  have Gc : Gx p s m [.ref (bs + 44), .int x1].toArray meth c cX10_isTile 2 RX10 bs D y (some .boolean) 76 := ⟨hx, hb, hml, hown, hts, hK, hN, hL, hr, hlocks, hcb⟩
  have hl := lv_entry [.ref (bs + 44), .int x1] (n := 2) (Nat.le_of_ble_eq_true rfl)
  rw [lg_entry_eq]
  generalize (lg_sl [.ref (bs + 44), .int x1] ++ List.replicate (2 - (lg_sl [.ref (bs + 44), .int x1]).length) Slot.unset).toArray = ls at hl ⊢
  have hl : lv_has ls 2 [(0, .ref (bs + 44)), (1, .int x1)] := hl
  change W p l e (rmm 1 20) s m [.ref (bs + 44), .int x1].toArray below meth c s.heap [] 0 0 (QI below [.ref (bs + 44), .int x1].toArray s bs D y r) (F0 m 0 ls [])
  unfold fX10_isTile at h
  refine lv_iload_n hx hb dX10_isTile_0 rfl (lv_at hl 1 rfl) ?_
  refine lv_if_lt (tgt := 16) hx hb dX10_isTile_1 (by decide) (fun c1 => ?_) (fun c1 => ?_)
  · replace h := if_t c1 h
    refine lv_iconst (v := (0 : Int32)) hx hb dX10_isTile_16 (by decide) ?_
    exact r_Z hx hb hr hlocks hP hK hN hL hS (by decide) h dX10_isTile_17
  · replace h := if_f c1 h
    refine lv_iload_n hx hb dX10_isTile_4 rfl (lv_at hl 1 rfl) ?_
    refine lv_aload_n hx hb dX10_isTile_5 rfl (lv_at hl 0 rfl) ?_
    obtain ⟨r6, er6, h⟩ := bd_s1 h
    refine c_VI (k := 44) (ci := 10) (As := []) (rest := [.int x1]) hx hb hml hown hts hK hN hL hP hS (cX10_tiles_ l bs D y hcb n  I J r6 er6) ok_X10_tiles ov_X10_tiles ml_132 ⟨Nat.le_of_ble_eq_true rfl, Nat.le_of_ble_eq_true rfl⟩ rfl hcb kd_44 hl.1 rfl rfl (Nat.le_of_ble_eq_true rfl) ⟨Nat.zero_le _, Nat.zero_le _⟩ dX10_isTile_6 (fun H locs hP hS => ?_)
    refine lv_icmp_ge (tgt := 16) hx hb dX10_isTile_9 (by decide) (fun c9 => ?_) (fun c9 => ?_)
    · replace h := if_t c9 h
      refine lv_iconst (v := (0 : Int32)) hx hb dX10_isTile_16 (by decide) ?_
      exact r_Z hx hb hr hlocks hP hK hN hL hS (by decide) h dX10_isTile_17
    · replace h := if_f c9 h
      refine lv_iconst (v := (1 : Int32)) hx hb dX10_isTile_12 (by decide) ?_
      refine lv_goto (tgt := 17) hx hb dX10_isTile_13 (by decide) ?_
      exact r_Z hx hb hr hlocks hP hK hN hL hS (by decide) h dX10_isTile_17
theorem dX10_moved_0 : decode cX10_moved 0 = .ok (.aload_n 0, 1) := by decide +kernel
theorem dX10_moved_1 : decode cX10_moved 1 = .ok (.iconst 0, 1) := by decide +kernel
theorem dX10_moved_2 : decode cX10_moved 2 = .ok (.putfield 133, 3) := by decide +kernel
theorem dX10_moved_5 : decode cX10_moved 5 = .ok (.aload_n 0, 1) := by decide +kernel
theorem dX10_moved_6 : decode cX10_moved 6 = .ok (.iconst 0, 1) := by decide +kernel
theorem dX10_moved_7 : decode cX10_moved 7 = .ok (.putfield 136, 3) := by decide +kernel
theorem dX10_moved_10 : decode cX10_moved 10 = .ok (.return_, 1) := by decide +kernel
set_option maxHeartbeats 4000000 in
set_option maxRecDepth 100000 in
theorem cX10_moved_ (l : Launch) (bs : Nat) (D : va_G) (y : Y3) (hcb : 76 ≤ y.2.2.2) (n : Nat) (I : MI) (J : MJ) (r : M2) (h : fX10_moved n  I J = some r) : Met l yX10_moved (.code yX10_moved cX10_moved 1 none :: gtb) (rmm 0 0) (va_Pc [.ref (bs + 44)] (HB bs D y I J)) (QcV bs D y r) 0 0 (FA bs) := by
  refine Met.ofW (cc := cX10_moved) (maxL := 1) (ret := none) (by decide) rfl ?_
  intro p e s m args below meth c s₁ B hml hv
  obtain ⟨rfl, hP, hK, hN, hL⟩ := hv
  have hx := B.exec
  have hb := B.bytes
  have hr := B.returns
  have hts0 := atoms_spec (ws := .code yX10_moved cX10_moved 1 none :: gtb) B.pre
  have hts : ∀ w ∈ gtb, w.before [.ref (bs + 44)].toArray s = true := fun w hw => hts0 w (List.mem_cons_of_mem _ hw)
  have hown : s.vm.findClass RX10 = some m.cls := findClass_of_methodNamed B.named
  have hlocks := B.notSynchronized
  have hS : va_S (FA bs) s.heap s.heap [] := va_S.rf
  have Gc : Gx p s m [.ref (bs + 44)].toArray meth c cX10_moved 1 RX10 bs D y none 76 := ⟨hx, hb, hml, hown, hts, hK, hN, hL, hr, hlocks, hcb⟩
  have hl := lv_entry [.ref (bs + 44)] (n := 1) (Nat.le_of_ble_eq_true rfl)
  rw [lg_entry_eq]
  generalize (lg_sl [.ref (bs + 44)] ++ List.replicate (1 - (lg_sl [.ref (bs + 44)]).length) Slot.unset).toArray = ls at hl ⊢
  have hl : lv_has ls 1 [(0, .ref (bs + 44))] := hl
  change W p l e (rmm 0 0) s m [.ref (bs + 44)].toArray below meth c s.heap [] 0 0 (QV below [.ref (bs + 44)].toArray s bs D y r) (F0 m 0 ls [])
  unfold fX10_moved at h
  refine lv_aload_n hx hb dX10_moved_0 rfl (lv_at hl 0 rfl) ?_
  refine lv_iconst (v := (0 : Int32)) hx hb dX10_moved_1 (by decide) ?_
  obtain ⟨I2, eI2, h⟩ := lt_s1 h
  refine s_I (C := RX10) (T := TX10) (N := 49) (ci := 10) (ty := .boolean) 44 13 eI2 tyX10 hx hb hts hown hK hP hS in_X10 tyX10_ok nmX10 rfl hcb okF_44_13 fl_150 rfl (by decide +kernel) (by decide) rfl dX10_moved_2 (fun H locs hP hS => ?_)
  refine lv_aload_n hx hb dX10_moved_5 rfl (lv_at hl 0 rfl) ?_
  refine lv_iconst (v := (0 : Int32)) hx hb dX10_moved_6 (by decide) ?_
  obtain ⟨I7, eI7, h⟩ := lt_s1 h
  refine s_I (C := RX10) (T := TX10) (N := 49) (ci := 10) (ty := .boolean) 44 14 eI7 tyX10 hx hb hts hown hK hP hS in_X10 tyX10_ok nmX10 rfl hcb okF_44_14 fl_151 rfl (by decide +kernel) (by decide) rfl dX10_moved_7 (fun H locs hP hS => ?_)
  exact r_V hx hb hr hlocks hP hK hN hL hS h dX10_moved_10
theorem dX10_unset_0 : decode cX10_unset 0 = .ok (.aload_n 0, 1) := by decide +kernel
theorem dX10_unset_1 : decode cX10_unset 1 = .ok (.iconst 0, 1) := by decide +kernel
theorem dX10_unset_2 : decode cX10_unset 2 = .ok (.putfield 130, 3) := by decide +kernel
theorem dX10_unset_5 : decode cX10_unset 5 = .ok (.aload_n 0, 1) := by decide +kernel
theorem dX10_unset_6 : decode cX10_unset 6 = .ok (.invokevirtual 220, 3) := by decide +kernel
theorem dX10_unset_9 : decode cX10_unset 9 = .ok (.return_, 1) := by decide +kernel
set_option maxHeartbeats 4000000 in
set_option maxRecDepth 100000 in
theorem cX10_unset_ (l : Launch) (bs : Nat) (D : va_G) (y : Y3) (hcb : 76 ≤ y.2.2.2) (n : Nat) (I : MI) (J : MJ) (r : M2) (h : fX10_unset n  I J = some r) : Met l yX10_unset (.code yX10_unset cX10_unset 1 none :: gtb) (rmm 1 20) (va_Pc [.ref (bs + 44)] (HB bs D y I J)) (QcV bs D y r) 0 0 (FA bs) := by
  refine Met.ofW (cc := cX10_unset) (maxL := 1) (ret := none) (by decide) rfl ?_
  intro p e s m args below meth c s₁ B hml hv
  obtain ⟨rfl, hP, hK, hN, hL⟩ := hv
  have hx := B.exec
  have hb := B.bytes
  have hr := B.returns
  have hts0 := atoms_spec (ws := .code yX10_unset cX10_unset 1 none :: gtb) B.pre
  have hts : ∀ w ∈ gtb, w.before [.ref (bs + 44)].toArray s = true := fun w hw => hts0 w (List.mem_cons_of_mem _ hw)
  have hown : s.vm.findClass RX10 = some m.cls := findClass_of_methodNamed B.named
  have hlocks := B.notSynchronized
  have hS : va_S (FA bs) s.heap s.heap [] := va_S.rf
  have Gc : Gx p s m [.ref (bs + 44)].toArray meth c cX10_unset 1 RX10 bs D y none 76 := ⟨hx, hb, hml, hown, hts, hK, hN, hL, hr, hlocks, hcb⟩
  have hl := lv_entry [.ref (bs + 44)] (n := 1) (Nat.le_of_ble_eq_true rfl)
  rw [lg_entry_eq]
  generalize (lg_sl [.ref (bs + 44)] ++ List.replicate (1 - (lg_sl [.ref (bs + 44)]).length) Slot.unset).toArray = ls at hl ⊢
  have hl : lv_has ls 1 [(0, .ref (bs + 44))] := hl
  change W p l e (rmm 1 20) s m [.ref (bs + 44)].toArray below meth c s.heap [] 0 0 (QV below [.ref (bs + 44)].toArray s bs D y r) (F0 m 0 ls [])
  unfold fX10_unset at h
  refine lv_aload_n hx hb dX10_unset_0 rfl (lv_at hl 0 rfl) ?_
  refine lv_iconst (v := (0 : Int32)) hx hb dX10_unset_1 (by decide) ?_
  obtain ⟨I2, eI2, h⟩ := lt_s1 h
  refine s_I (C := RX10) (T := TX10) (N := 49) (ci := 10) (ty := .boolean) 44 12 eI2 tyX10 hx hb hts hown hK hP hS in_X10 tyX10_ok nmX10 rfl hcb okF_44_12 fl_149 rfl (by decide +kernel) (by decide) rfl dX10_unset_2 (fun H locs hP hS => ?_)
  refine lv_aload_n hx hb dX10_unset_5 rfl (lv_at hl 0 rfl) ?_
  obtain ⟨r6, er6, h⟩ := bd_s1 h
  refine c_VV (k := 44) (ci := 10) (As := []) (rest := []) hx hb hml hown hts hK hN hL hP hS (cX10_moved_ l bs D y hcb n  I2 J r6 er6) ok_X10_moved ov_X10_moved ml_133 ⟨Nat.le_of_ble_eq_true rfl, Nat.le_of_ble_eq_true rfl⟩ rfl hcb kd_44 hl.1 rfl rfl (Nat.le_of_ble_eq_true rfl) ⟨Nat.zero_le _, Nat.zero_le _⟩ dX10_unset_6 (fun H locs hP hS => ?_)
  exact r_V hx hb hr hlocks hP hK hN hL hS h dX10_unset_9
theorem dX10_cloth_0 : decode cX10_cloth 0 = .ok (.iload_n 1, 1) := by decide +kernel
theorem dX10_cloth_1 : decode cX10_cloth 1 = .ok (.i2l, 1) := by decide +kernel
theorem dX10_cloth_2 : decode cX10_cloth 2 = .ok (.lconst 1, 1) := by decide +kernel
theorem dX10_cloth_3 : decode cX10_cloth 3 = .ok (.ldc2_w 223, 3) := by decide +kernel
theorem dX10_cloth_6 : decode cX10_cloth 6 = .ok (.invokestatic 164, 3) := by decide +kernel
theorem dX10_cloth_9 : decode cX10_cloth 9 = .ok (.ifCond .eq 40, 3) := by decide +kernel
theorem dX10_cloth_12 : decode cX10_cloth 12 = .ok (.iload_n 2, 1) := by decide +kernel
theorem dX10_cloth_13 : decode cX10_cloth 13 = .ok (.i2l, 1) := by decide +kernel
theorem dX10_cloth_14 : decode cX10_cloth 14 = .ok (.lconst 1, 1) := by decide +kernel
theorem dX10_cloth_15 : decode cX10_cloth 15 = .ok (.ldc2_w 223, 3) := by decide +kernel
theorem dX10_cloth_18 : decode cX10_cloth 18 = .ok (.invokestatic 164, 3) := by decide +kernel
theorem dX10_cloth_21 : decode cX10_cloth 21 = .ok (.ifCond .eq 28, 3) := by decide +kernel
theorem dX10_cloth_24 : decode cX10_cloth 24 = .ok (.iload_n 3, 1) := by decide +kernel
theorem dX10_cloth_25 : decode cX10_cloth 25 = .ok (.i2l, 1) := by decide +kernel
theorem dX10_cloth_26 : decode cX10_cloth 26 = .ok (.lconst 1, 1) := by decide +kernel
theorem dX10_cloth_27 : decode cX10_cloth 27 = .ok (.ldc2_w 225, 3) := by decide +kernel
theorem dX10_cloth_30 : decode cX10_cloth 30 = .ok (.invokestatic 164, 3) := by decide +kernel
theorem dX10_cloth_33 : decode cX10_cloth 33 = .ok (.ifCond .eq 16, 3) := by decide +kernel
theorem dX10_cloth_36 : decode cX10_cloth 36 = .ok (.iload 4, 2) := by decide +kernel
theorem dX10_cloth_38 : decode cX10_cloth 38 = .ok (.i2l, 1) := by decide +kernel
theorem dX10_cloth_39 : decode cX10_cloth 39 = .ok (.lconst 1, 1) := by decide +kernel
theorem dX10_cloth_40 : decode cX10_cloth 40 = .ok (.ldc2_w 225, 3) := by decide +kernel
theorem dX10_cloth_43 : decode cX10_cloth 43 = .ok (.invokestatic 164, 3) := by decide +kernel
theorem dX10_cloth_46 : decode cX10_cloth 46 = .ok (.ifCond .ne 10, 3) := by decide +kernel
theorem dX10_cloth_49 : decode cX10_cloth 49 = .ok (.aload_n 0, 1) := by decide +kernel
theorem dX10_cloth_50 : decode cX10_cloth 50 = .ok (.bipush (-7), 2) := by decide +kernel
theorem dX10_cloth_52 : decode cX10_cloth 52 = .ok (.invokevirtual 151, 3) := by decide +kernel
theorem dX10_cloth_55 : decode cX10_cloth 55 = .ok (.ireturn, 1) := by decide +kernel
theorem dX10_cloth_56 : decode cX10_cloth 56 = .ok (.aload_n 0, 1) := by decide +kernel
theorem dX10_cloth_57 : decode cX10_cloth 57 = .ok (.iload_n 1, 1) := by decide +kernel
theorem dX10_cloth_58 : decode cX10_cloth 58 = .ok (.putfield 56, 3) := by decide +kernel
theorem dX10_cloth_61 : decode cX10_cloth 61 = .ok (.aload_n 0, 1) := by decide +kernel
theorem dX10_cloth_62 : decode cX10_cloth 62 = .ok (.iload_n 2, 1) := by decide +kernel
theorem dX10_cloth_63 : decode cX10_cloth 63 = .ok (.putfield 60, 3) := by decide +kernel
theorem dX10_cloth_66 : decode cX10_cloth 66 = .ok (.aload_n 0, 1) := by decide +kernel
theorem dX10_cloth_67 : decode cX10_cloth 67 = .ok (.iload_n 3, 1) := by decide +kernel
theorem dX10_cloth_68 : decode cX10_cloth 68 = .ok (.putfield 63, 3) := by decide +kernel
theorem dX10_cloth_71 : decode cX10_cloth 71 = .ok (.aload_n 0, 1) := by decide +kernel
theorem dX10_cloth_72 : decode cX10_cloth 72 = .ok (.iload 4, 2) := by decide +kernel
theorem dX10_cloth_74 : decode cX10_cloth 74 = .ok (.putfield 66, 3) := by decide +kernel
theorem dX10_cloth_77 : decode cX10_cloth 77 = .ok (.iconst 0, 1) := by decide +kernel
theorem dX10_cloth_78 : decode cX10_cloth 78 = .ok (.istore 5, 2) := by decide +kernel
theorem dX10_cloth_80 : decode cX10_cloth 80 = .ok (.iload 5, 2) := by decide +kernel
theorem dX10_cloth_82 : decode cX10_cloth 82 = .ok (.bipush 36, 2) := by decide +kernel
theorem dX10_cloth_84 : decode cX10_cloth 84 = .ok (.if_icmp .ge 17, 3) := by decide +kernel
theorem dX10_cloth_87 : decode cX10_cloth 87 = .ok (.aload_n 0, 1) := by decide +kernel
theorem dX10_cloth_88 : decode cX10_cloth 88 = .ok (.getfield 69, 3) := by decide +kernel
theorem dX10_cloth_91 : decode cX10_cloth 91 = .ok (.iload 5, 2) := by decide +kernel
theorem dX10_cloth_93 : decode cX10_cloth 93 = .ok (.iconst 0, 1) := by decide +kernel
theorem dX10_cloth_94 : decode cX10_cloth 94 = .ok (.bastore, 1) := by decide +kernel
theorem dX10_cloth_95 : decode cX10_cloth 95 = .ok (.iinc 5 1, 3) := by decide +kernel
theorem dX10_cloth_98 : decode cX10_cloth 98 = .ok (.goto (-18), 3) := by decide +kernel
theorem dX10_cloth_101 : decode cX10_cloth 101 = .ok (.aload_n 0, 1) := by decide +kernel
theorem dX10_cloth_102 : decode cX10_cloth 102 = .ok (.invokevirtual 227, 3) := by decide +kernel
theorem dX10_cloth_105 : decode cX10_cloth 105 = .ok (.aload_n 0, 1) := by decide +kernel
theorem dX10_cloth_106 : decode cX10_cloth 106 = .ok (.invokevirtual 230, 3) := by decide +kernel
theorem dX10_cloth_109 : decode cX10_cloth 109 = .ok (.ireturn, 1) := by decide +kernel
set_option maxHeartbeats 4000000 in
set_option maxRecDepth 100000 in
theorem wX10_cloth_80 {p : Program} {l : Launch} {e : Env} {s : State} {m : MethodId} {args : Array Value} {below : List Frame} {meth : Method} {c : Code} (bs : Nat) (D : va_G) (y : Y3) (n : Nat) (k80_ : Int32 → MI → MJ → Option (Int32 × M2)) (r : Int32 × M2) (Gc : Gx p s m args meth c cX10_cloth 6 RX10 bs D y (some .int) 76) (hk80_ : ∀ (x5 : Int32) (I : MI) (J : MJ) (H : Heap) (locs : List Loc) (ls : Array Slot), va_P D vwCl (wl bs y I J) H → va_S (FA bs) s.heap H locs → lv_has ls 6 [(0, .ref (bs + 44)), (5, .int x5)] → k80_ x5 I J = some r → W p l e (rmm 2 40) s m args below meth c H locs 0 0 (QI below args s bs D y r) (F0 m 80 ls [])) (x5 : Int32) (I : MI) (J : MJ) (H : Heap) (locs : List Loc) (ls : Array Slot) (hP : va_P D vwCl (wl bs y I J) H) (hS : va_S (FA bs) s.heap H locs) (hl : lv_has ls 6 [(0, .ref (bs + 44)), (5, .int x5)]) (h : fX10_cloth_80 n k80_ x5 I J = some r) : W p l e (rmm 2 40) s m args below meth c H locs 0 0 (QI below args s bs D y r) (F0 m 80 ls []) := by
  obtain ⟨hx, hb, hml, hown, hts, hK, hN, hL, hr, hlocks, hcb⟩ := id Gc
  unfold fX10_cloth_80 at h
  refine lv_iload hx hb dX10_cloth_80 (lv_at hl 1 rfl) ?_
  refine lv_bipush (v := (36 : Int32)) hx hb dX10_cloth_82 (by decide) ?_
  refine lv_icmp_ge (tgt := 101) hx hb dX10_cloth_84 (by decide) (fun c84 => ?_) (fun c84 => ?_)
  · replace h := if_t c84 h
    refine lv_aload_n hx hb dX10_cloth_101 rfl (lv_at hl 0 rfl) ?_
    obtain ⟨r102, er102, h⟩ := bd_s1 h
    refine c_VV (k := 44) (ci := 10) (As := []) (rest := []) hx hb hml hown hts hK hN hL hP hS (cX10_unset_ l bs D y hcb n  I J r102 er102) ok_X10_unset ov_X10_unset ml_134 ⟨Nat.le_of_ble_eq_true rfl, Nat.le_of_ble_eq_true rfl⟩ rfl hcb kd_44 hl.1 rfl rfl (Nat.le_of_ble_eq_true rfl) ⟨Nat.zero_le _, Nat.zero_le _⟩ dX10_cloth_102 (fun H locs hP hS => ?_)
    refine lv_aload_n hx hb dX10_cloth_105 rfl (lv_at hl 0 rfl) ?_
    obtain ⟨r106, er106, h⟩ := bd_s1 h
    refine c_VI (k := 44) (ci := 10) (As := []) (rest := []) hx hb hml hown hts hK hN hL hP hS (cX10_joints_ l bs D y hcb n  r102.1 r102.2 r106 er106) ok_X10_joints ov_X10_joints ml_135 ⟨Nat.le_of_ble_eq_true rfl, Nat.le_of_ble_eq_true rfl⟩ rfl hcb kd_44 hl.1 rfl rfl (Nat.le_of_ble_eq_true rfl) ⟨Nat.zero_le _, Nat.zero_le _⟩ dX10_cloth_106 (fun H locs hP hS => ?_)
    exact r_I hx hb hr hlocks hP hK hN hL hS h dX10_cloth_109
  · replace h := if_f c84 h
    refine lv_aload_n hx hb dX10_cloth_87 rfl (lv_at hl 0 rfl) ?_
    refine g_R (C := RX10) (T := TX10) (N := 49) (ci := 10) 44 28 60 hx hb hts hown hK hP in_X10 rfl hcb okF_44_28 rfc_44_28 fl_170 dX10_cloth_88 ?_
    refine lv_iload hx hb dX10_cloth_91 (lv_at hl 1 rfl) ?_
    refine lv_iconst (v := (0 : Int32)) hx hb dX10_cloth_93 (by decide) ?_
    obtain ⟨hi94, h⟩ := if_s1 h
    obtain ⟨I94, eI94, h⟩ := lt_s1 h
    refine t_Z 60 eI94 hx hb hK hP hS hcb alZ_60 hi94 dX10_cloth_94 (fun H locs hP hS => ?_)
    refine lv_iinc (v := (x5 + (1 : Int32))) (lv' := [(5, .int (x5 + (1 : Int32))), (0, .ref (bs + 44))]) hx hb dX10_cloth_95 hl (k := 1) rfl rfl (by decide) rfl (fun ls hl => ?_)
    refine lv_goto (tgt := 80) hx hb dX10_cloth_98 (by decide) ?_
    exact hk80_ (x5 + (1 : Int32)) I94 J _ _ _ hP hS (lv_sub hl [1, 0] rfl) h
theorem vX10_cloth_80 {p : Program} {l : Launch} {e : Env} {s : State} {m : MethodId} {args : Array Value} {below : List Frame} {meth : Method} {c : Code} (bs : Nat) (D : va_G) (y : Y3) (n : Nat) (r : Int32 × M2) (Gc : Gx p s m args meth c cX10_cloth 6 RX10 bs D y (some .int) 76)  : ∀ (q : Nat) (x5 : Int32) (I : MI) (J : MJ) (H : Heap) (locs : List Loc) (ls : Array Slot), va_P D vwCl (wl bs y I J) H → va_S (FA bs) s.heap H locs → lv_has ls 6 [(0, .ref (bs + 44)), (5, .int x5)] → lX10_cloth_80 n  q x5 I J = some r → W p l e (rmm 2 40) s m args below meth c H locs 0 0 (QI below args s bs D y r) (F0 m 80 ls []) := by
  intro q
  induction q with
  | zero =>
    intro x5 I J H locs ls hP hS hl h
    have h : (none : Option (Int32 × M2)) = some r := h
    cases h
  | succ q ih =>
    intro x5 I J H locs ls hP hS hl h
    have h : fX10_cloth_80 n  (lX10_cloth_80 n  q) x5 I J = some r := h
    exact wX10_cloth_80 bs D y n  (lX10_cloth_80 n  q) r Gc  ih x5 I J H locs ls hP hS hl h
set_option maxHeartbeats 4000000 in
set_option maxRecDepth 100000 in
theorem wX10_cloth_49 {p : Program} {l : Launch} {e : Env} {s : State} {m : MethodId} {args : Array Value} {below : List Frame} {meth : Method} {c : Code} (bs : Nat) (D : va_G) (y : Y3) (n : Nat) (r : Int32 × M2) (Gc : Gx p s m args meth c cX10_cloth 6 RX10 bs D y (some .int) 76)  (I : MI) (J : MJ) (H : Heap) (locs : List Loc) (ls : Array Slot) (hP : va_P D vwCl (wl bs y I J) H) (hS : va_S (FA bs) s.heap H locs) (hl : lv_has ls 6 [(0, .ref (bs + 44))]) (h : fX10_cloth_49 n   I J = some r) : W p l e (rmm 2 40) s m args below meth c H locs 0 0 (QI below args s bs D y r) (F0 m 49 ls []) := by
  obtain ⟨hx, hb, hml, hown, hts, hK, hN, hL, hr, hlocks, hcb⟩ := id Gc
  unfold fX10_cloth_49 at h
  refine lv_aload_n hx hb dX10_cloth_49 rfl (lv_at hl 0 rfl) ?_
  refine lv_bipush (v := (-7 : Int32)) hx hb dX10_cloth_50 (by decide) ?_
  obtain ⟨r52, er52, h⟩ := bd_s1 h
  refine c_VI (k := 44) (ci := 10) (As := [.int (-7 : Int32)]) (rest := []) hx hb hml hown hts hK hN hL hP hS (cX10_no_ l bs D y hcb n (-7 : Int32) I J r52 er52) ok_X10_no ov_X10_no ml_118 ⟨Nat.le_of_ble_eq_true rfl, Nat.le_of_ble_eq_true rfl⟩ rfl hcb kd_44 hl.1 rfl rfl (Nat.le_of_ble_eq_true rfl) ⟨Nat.zero_le _, Nat.zero_le _⟩ dX10_cloth_52 (fun H locs hP hS => ?_)
  exact r_I hx hb hr hlocks hP hK hN hL hS h dX10_cloth_55
set_option maxHeartbeats 4000000 in
set_option maxRecDepth 100000 in
theorem cX10_cloth_ (l : Launch) (bs : Nat) (D : va_G) (y : Y3) (hcb : 76 ≤ y.2.2.2) (n : Nat) (x1 : Int32) (x2 : Int32) (x3 : Int32) (x4 : Int32) (I : MI) (J : MJ) (r : Int32 × M2) (h : fX10_cloth n x1 x2 x3 x4 I J = some r) : Met l yX10_cloth (.code yX10_cloth cX10_cloth 6 (some .int) :: gtb) (rmm 2 40) (va_Pc [.ref (bs + 44), .int x1, .int x2, .int x3, .int x4] (HB bs D y I J)) (QcI bs D y r) 0 0 (FA bs) := by
  refine Met.ofW (cc := cX10_cloth) (maxL := 6) (ret := (some .int)) (by decide) rfl ?_
  intro p e s m args below meth c s₁ B hml hv
  obtain ⟨rfl, hP, hK, hN, hL⟩ := hv
  have hx := B.exec
  have hb := B.bytes
  have hr := B.returns
  have hts0 := atoms_spec (ws := .code yX10_cloth cX10_cloth 6 (some .int) :: gtb) B.pre
  have hts : ∀ w ∈ gtb, w.before [.ref (bs + 44), .int x1, .int x2, .int x3, .int x4].toArray s = true := fun w hw => hts0 w (List.mem_cons_of_mem _ hw)
  have hown : s.vm.findClass RX10 = some m.cls := findClass_of_methodNamed B.named
  have hlocks := B.notSynchronized
  have hS : va_S (FA bs) s.heap s.heap [] := va_S.rf
  have Gc : Gx p s m [.ref (bs + 44), .int x1, .int x2, .int x3, .int x4].toArray meth c cX10_cloth 6 RX10 bs D y (some .int) 76 := ⟨hx, hb, hml, hown, hts, hK, hN, hL, hr, hlocks, hcb⟩
  have hl := lv_entry [.ref (bs + 44), .int x1, .int x2, .int x3, .int x4] (n := 6) (Nat.le_of_ble_eq_true rfl)
  rw [lg_entry_eq]
  generalize (lg_sl [.ref (bs + 44), .int x1, .int x2, .int x3, .int x4] ++ List.replicate (6 - (lg_sl [.ref (bs + 44), .int x1, .int x2, .int x3, .int x4]).length) Slot.unset).toArray = ls at hl ⊢
  have hl : lv_has ls 6 [(0, .ref (bs + 44)), (1, .int x1), (2, .int x2), (3, .int x3), (4, .int x4)] := hl
  change W p l e (rmm 2 40) s m [.ref (bs + 44), .int x1, .int x2, .int x3, .int x4].toArray below meth c s.heap [] 0 0 (QI below [.ref (bs + 44), .int x1, .int x2, .int x3, .int x4].toArray s bs D y r) (F0 m 0 ls [])
  unfold fX10_cloth at h
  refine lv_iload_n hx hb dX10_cloth_0 rfl (lv_at hl 1 rfl) ?_
  refine lv_i2l (v := (x1).toInt64) hx hb dX10_cloth_1 rfl ?_
  refine lv_lconst (v := (1 : Int64)) hx hb dX10_cloth_2 (by decide) ?_
  refine lv_ldc2 hx hb hown (hts _ cl_13) dX10_cloth_3 ?_
  obtain ⟨r6, er6, h⟩ := bd_s1 h
  refine c_SI (As := [.long (x1).toInt64, .long (1 : Int64), .long (6 : Int64)]) (rest := []) hx hb hml hown hts hK hN hL hP hS (cX10_isIn_ l bs D y hcb n (x1).toInt64 (1 : Int64) (6 : Int64) I J r6 er6) ok_X10_isIn ov_X10_isIn ml_120 ⟨Nat.le_of_ble_eq_true rfl, Nat.le_of_ble_eq_true rfl⟩ hl.1 rfl rfl (Nat.le_of_ble_eq_true rfl) ⟨Nat.zero_le _, Nat.zero_le _⟩ dX10_cloth_6 (fun H locs hP hS => ?_)
  refine lv_if_eq (tgt := 49) hx hb dX10_cloth_9 (by decide) (fun c9 => ?_) (fun c9 => ?_)
  · replace h := if_t c9 h
    exact wX10_cloth_49 bs D y n  r Gc   r6.2.1 r6.2.2 _ _ _ hP hS (lv_sub hl [0] rfl) h
  · replace h := if_f c9 h
    refine lv_iload_n hx hb dX10_cloth_12 rfl (lv_at hl 2 rfl) ?_
    refine lv_i2l (v := (x2).toInt64) hx hb dX10_cloth_13 rfl ?_
    refine lv_lconst (v := (1 : Int64)) hx hb dX10_cloth_14 (by decide) ?_
    refine lv_ldc2 hx hb hown (hts _ cl_13) dX10_cloth_15 ?_
    obtain ⟨r18, er18, h⟩ := bd_s1 h
    refine c_SI (As := [.long (x2).toInt64, .long (1 : Int64), .long (6 : Int64)]) (rest := []) hx hb hml hown hts hK hN hL hP hS (cX10_isIn_ l bs D y hcb n (x2).toInt64 (1 : Int64) (6 : Int64) r6.2.1 r6.2.2 r18 er18) ok_X10_isIn ov_X10_isIn ml_120 ⟨Nat.le_of_ble_eq_true rfl, Nat.le_of_ble_eq_true rfl⟩ hl.1 rfl rfl (Nat.le_of_ble_eq_true rfl) ⟨Nat.zero_le _, Nat.zero_le _⟩ dX10_cloth_18 (fun H locs hP hS => ?_)
    refine lv_if_eq (tgt := 49) hx hb dX10_cloth_21 (by decide) (fun c21 => ?_) (fun c21 => ?_)
    · replace h := if_t c21 h
      exact wX10_cloth_49 bs D y n  r Gc   r18.2.1 r18.2.2 _ _ _ hP hS (lv_sub hl [0] rfl) h
    · replace h := if_f c21 h
      refine lv_iload_n hx hb dX10_cloth_24 rfl (lv_at hl 3 rfl) ?_
      refine lv_i2l (v := (x3).toInt64) hx hb dX10_cloth_25 rfl ?_
      refine lv_lconst (v := (1 : Int64)) hx hb dX10_cloth_26 (by decide) ?_
      refine lv_ldc2 hx hb hown (hts _ cl_14) dX10_cloth_27 ?_
      obtain ⟨r30, er30, h⟩ := bd_s1 h
      refine c_SI (As := [.long (x3).toInt64, .long (1 : Int64), .long (4 : Int64)]) (rest := []) hx hb hml hown hts hK hN hL hP hS (cX10_isIn_ l bs D y hcb n (x3).toInt64 (1 : Int64) (4 : Int64) r18.2.1 r18.2.2 r30 er30) ok_X10_isIn ov_X10_isIn ml_120 ⟨Nat.le_of_ble_eq_true rfl, Nat.le_of_ble_eq_true rfl⟩ hl.1 rfl rfl (Nat.le_of_ble_eq_true rfl) ⟨Nat.zero_le _, Nat.zero_le _⟩ dX10_cloth_30 (fun H locs hP hS => ?_)
      refine lv_if_eq (tgt := 49) hx hb dX10_cloth_33 (by decide) (fun c33 => ?_) (fun c33 => ?_)
      · replace h := if_t c33 h
        exact wX10_cloth_49 bs D y n  r Gc   r30.2.1 r30.2.2 _ _ _ hP hS (lv_sub hl [0] rfl) h
      · replace h := if_f c33 h
        refine lv_iload hx hb dX10_cloth_36 (lv_at hl 4 rfl) ?_
        refine lv_i2l (v := (x4).toInt64) hx hb dX10_cloth_38 rfl ?_
        refine lv_lconst (v := (1 : Int64)) hx hb dX10_cloth_39 (by decide) ?_
        refine lv_ldc2 hx hb hown (hts _ cl_14) dX10_cloth_40 ?_
        obtain ⟨r43, er43, h⟩ := bd_s1 h
        refine c_SI (As := [.long (x4).toInt64, .long (1 : Int64), .long (4 : Int64)]) (rest := []) hx hb hml hown hts hK hN hL hP hS (cX10_isIn_ l bs D y hcb n (x4).toInt64 (1 : Int64) (4 : Int64) r30.2.1 r30.2.2 r43 er43) ok_X10_isIn ov_X10_isIn ml_120 ⟨Nat.le_of_ble_eq_true rfl, Nat.le_of_ble_eq_true rfl⟩ hl.1 rfl rfl (Nat.le_of_ble_eq_true rfl) ⟨Nat.zero_le _, Nat.zero_le _⟩ dX10_cloth_43 (fun H locs hP hS => ?_)
        refine lv_if_ne (tgt := 56) hx hb dX10_cloth_46 (by decide) (fun c46 => ?_) (fun c46 => ?_)
        · replace h := if_f c46 h
          refine lv_aload_n hx hb dX10_cloth_56 rfl (lv_at hl 0 rfl) ?_
          refine lv_iload_n hx hb dX10_cloth_57 rfl (lv_at hl 1 rfl) ?_
          obtain ⟨I58, eI58, h⟩ := lt_s1 h
          refine s_I (C := RX10) (T := TX10) (N := 49) (ci := 10) (ty := .int) 44 24 eI58 tyX10 hx hb hts hown hK hP hS in_X10 tyX10_ok nmX10 rfl hcb okF_44_24 fl_168 rfl (by decide +kernel) rfl rfl dX10_cloth_58 (fun H locs hP hS => ?_)
          refine lv_aload_n hx hb dX10_cloth_61 rfl (lv_at hl 0 rfl) ?_
          refine lv_iload_n hx hb dX10_cloth_62 rfl (lv_at hl 2 rfl) ?_
          obtain ⟨I63, eI63, h⟩ := lt_s1 h
          refine s_I (C := RX10) (T := TX10) (N := 49) (ci := 10) (ty := .int) 44 25 eI63 tyX10 hx hb hts hown hK hP hS in_X10 tyX10_ok nmX10 rfl hcb okF_44_25 fl_169 rfl (by decide +kernel) rfl rfl dX10_cloth_63 (fun H locs hP hS => ?_)
          refine lv_aload_n hx hb dX10_cloth_66 rfl (lv_at hl 0 rfl) ?_
          refine lv_iload_n hx hb dX10_cloth_67 rfl (lv_at hl 3 rfl) ?_
          obtain ⟨I68, eI68, h⟩ := lt_s1 h
          refine s_I (C := RX10) (T := TX10) (N := 49) (ci := 10) (ty := .int) 44 26 eI68 tyX10 hx hb hts hown hK hP hS in_X10 tyX10_ok nmX10 rfl hcb okF_44_26 fl_171 rfl (by decide +kernel) rfl rfl dX10_cloth_68 (fun H locs hP hS => ?_)
          refine lv_aload_n hx hb dX10_cloth_71 rfl (lv_at hl 0 rfl) ?_
          refine lv_iload hx hb dX10_cloth_72 (lv_at hl 4 rfl) ?_
          obtain ⟨I74, eI74, h⟩ := lt_s1 h
          refine s_I (C := RX10) (T := TX10) (N := 49) (ci := 10) (ty := .int) 44 27 eI74 tyX10 hx hb hts hown hK hP hS in_X10 tyX10_ok nmX10 rfl hcb okF_44_27 fl_172 rfl (by decide +kernel) rfl rfl dX10_cloth_74 (fun H locs hP hS => ?_)
          refine lv_iconst (v := (0 : Int32)) hx hb dX10_cloth_77 (by decide) ?_
          refine lv_istore (lv' := [(5, .int (0 : Int32)), (0, .ref (bs + 44)), (1, .int x1), (2, .int x2), (3, .int x3), (4, .int x4)]) hx hb dX10_cloth_78 hl (by decide) rfl (fun ls hl => ?_)
          exact vX10_cloth_80 bs D y n  r Gc  n (0 : Int32) I74 r43.2.2 _ _ _ hP hS (lv_sub hl [1, 0] rfl) h
        · replace h := if_t c46 h
          exact wX10_cloth_49 bs D y n  r Gc   r43.2.1 r43.2.2 _ _ _ hP hS (lv_sub hl [0] rfl) h
theorem dX10_broken_0 : decode cX10_broken 0 = .ok (.aload_n 0, 1) := by decide +kernel
theorem dX10_broken_1 : decode cX10_broken 1 = .ok (.iload_n 1, 1) := by decide +kernel
theorem dX10_broken_2 : decode cX10_broken 2 = .ok (.invokevirtual 233, 3) := by decide +kernel
theorem dX10_broken_5 : decode cX10_broken 5 = .ok (.ifCond .ne 10, 3) := by decide +kernel
theorem dX10_broken_8 : decode cX10_broken 8 = .ok (.aload_n 0, 1) := by decide +kernel
theorem dX10_broken_9 : decode cX10_broken 9 = .ok (.bipush (-3), 2) := by decide +kernel
theorem dX10_broken_11 : decode cX10_broken 11 = .ok (.invokevirtual 151, 3) := by decide +kernel
theorem dX10_broken_14 : decode cX10_broken 14 = .ok (.ireturn, 1) := by decide +kernel
theorem dX10_broken_15 : decode cX10_broken 15 = .ok (.aload_n 0, 1) := by decide +kernel
theorem dX10_broken_16 : decode cX10_broken 16 = .ok (.getfield 69, 3) := by decide +kernel
theorem dX10_broken_19 : decode cX10_broken 19 = .ok (.iload_n 1, 1) := by decide +kernel
theorem dX10_broken_20 : decode cX10_broken 20 = .ok (.baload, 1) := by decide +kernel
theorem dX10_broken_21 : decode cX10_broken 21 = .ok (.ifCond .eq 7, 3) := by decide +kernel
theorem dX10_broken_24 : decode cX10_broken 24 = .ok (.iconst 1, 1) := by decide +kernel
theorem dX10_broken_25 : decode cX10_broken 25 = .ok (.goto 4, 3) := by decide +kernel
theorem dX10_broken_28 : decode cX10_broken 28 = .ok (.iconst 0, 1) := by decide +kernel
theorem dX10_broken_29 : decode cX10_broken 29 = .ok (.istore_n 3, 1) := by decide +kernel
theorem dX10_broken_30 : decode cX10_broken 30 = .ok (.aload_n 0, 1) := by decide +kernel
theorem dX10_broken_31 : decode cX10_broken 31 = .ok (.getfield 69, 3) := by decide +kernel
theorem dX10_broken_34 : decode cX10_broken 34 = .ok (.iload_n 1, 1) := by decide +kernel
theorem dX10_broken_35 : decode cX10_broken 35 = .ok (.iload_n 2, 1) := by decide +kernel
theorem dX10_broken_36 : decode cX10_broken 36 = .ok (.bastore, 1) := by decide +kernel
theorem dX10_broken_37 : decode cX10_broken 37 = .ok (.aload_n 0, 1) := by decide +kernel
theorem dX10_broken_38 : decode cX10_broken 38 = .ok (.invokevirtual 227, 3) := by decide +kernel
theorem dX10_broken_41 : decode cX10_broken 41 = .ok (.iload_n 3, 1) := by decide +kernel
theorem dX10_broken_42 : decode cX10_broken 42 = .ok (.ireturn, 1) := by decide +kernel
set_option maxHeartbeats 4000000 in
set_option maxRecDepth 100000 in
theorem wX10_broken_29 {p : Program} {l : Launch} {e : Env} {s : State} {m : MethodId} {args : Array Value} {below : List Frame} {meth : Method} {c : Code} (bs : Nat) (D : va_G) (y : Y3) (n : Nat) (r : Int32 × M2) (Gc : Gx p s m args meth c cX10_broken 4 RX10 bs D y (some .int) 76)  (x1 : Int32) (x2 : Int32) (s0 : Int32) (I : MI) (J : MJ) (H : Heap) (locs : List Loc) (ls : Array Slot) (hP : va_P D vwCl (wl bs y I J) H) (hS : va_S (FA bs) s.heap H locs) (hl : lv_has ls 4 [(0, .ref (bs + 44)), (1, .int x1), (2, .int x2)]) (h : fX10_broken_29 n  x1 x2 s0 I J = some r) : W p l e (rmm 2 41) s m args below meth c H locs 0 0 (QI below args s bs D y r) (F0 m 29 ls [.int s0]) := by
  obtain ⟨hx, hb, hml, hown, hts, hK, hN, hL, hr, hlocks, hcb⟩ := id Gc
  unfold fX10_broken_29 at h
  refine lv_istore_n (lv' := [(3, .int s0), (0, .ref (bs + 44)), (1, .int x1), (2, .int x2)]) hx hb dX10_broken_29 rfl hl (by decide) rfl (fun ls hl => ?_)
  refine lv_aload_n hx hb dX10_broken_30 rfl (lv_at hl 1 rfl) ?_
  refine g_R (C := RX10) (T := TX10) (N := 49) (ci := 10) 44 28 60 hx hb hts hown hK hP in_X10 rfl hcb okF_44_28 rfc_44_28 fl_170 dX10_broken_31 ?_
  refine lv_iload_n hx hb dX10_broken_34 rfl (lv_at hl 2 rfl) ?_
  refine lv_iload_n hx hb dX10_broken_35 rfl (lv_at hl 3 rfl) ?_
  obtain ⟨hi36, h⟩ := if_s1 h
  obtain ⟨I36, eI36, h⟩ := lt_s1 h
  refine t_Z 60 eI36 hx hb hK hP hS hcb alZ_60 hi36 dX10_broken_36 (fun H locs hP hS => ?_)
  refine lv_aload_n hx hb dX10_broken_37 rfl (lv_at hl 1 rfl) ?_
  obtain ⟨r38, er38, h⟩ := bd_s1 h
  refine c_VV (k := 44) (ci := 10) (As := []) (rest := []) hx hb hml hown hts hK hN hL hP hS (cX10_unset_ l bs D y hcb n  I36 J r38 er38) ok_X10_unset ov_X10_unset ml_134 ⟨Nat.le_of_ble_eq_true rfl, Nat.le_of_ble_eq_true rfl⟩ rfl hcb kd_44 hl.1 rfl rfl (Nat.le_of_ble_eq_true rfl) ⟨Nat.zero_le _, Nat.zero_le _⟩ dX10_broken_38 (fun H locs hP hS => ?_)
  refine lv_iload_n hx hb dX10_broken_41 rfl (lv_at hl 0 rfl) ?_
  exact r_I hx hb hr hlocks hP hK hN hL hS h dX10_broken_42
set_option maxHeartbeats 4000000 in
set_option maxRecDepth 100000 in
theorem cX10_broken_ (l : Launch) (bs : Nat) (D : va_G) (y : Y3) (hcb : 76 ≤ y.2.2.2) (n : Nat) (x1 : Int32) (x2 : Int32) (I : MI) (J : MJ) (r : Int32 × M2) (h : fX10_broken n x1 x2 I J = some r) : Met l yX10_broken (.code yX10_broken cX10_broken 4 (some .int) :: gtb) (rmm 2 41) (va_Pc [.ref (bs + 44), .int x1, .int x2] (HB bs D y I J)) (QcI bs D y r) 0 0 (FA bs) := by
  refine Met.ofW (cc := cX10_broken) (maxL := 4) (ret := (some .int)) (by decide) rfl ?_
  intro p e s m args below meth c s₁ B hml hv
  obtain ⟨rfl, hP, hK, hN, hL⟩ := hv
  have hx := B.exec
  have hb := B.bytes
  have hr := B.returns
  have hts0 := atoms_spec (ws := .code yX10_broken cX10_broken 4 (some .int) :: gtb) B.pre
  have hts : ∀ w ∈ gtb, w.before [.ref (bs + 44), .int x1, .int x2].toArray s = true := fun w hw => hts0 w (List.mem_cons_of_mem _ hw)
  have hown : s.vm.findClass RX10 = some m.cls := findClass_of_methodNamed B.named
  have hlocks := B.notSynchronized
  have hS : va_S (FA bs) s.heap s.heap [] := va_S.rf
  have Gc : Gx p s m [.ref (bs + 44), .int x1, .int x2].toArray meth c cX10_broken 4 RX10 bs D y (some .int) 76 := ⟨hx, hb, hml, hown, hts, hK, hN, hL, hr, hlocks, hcb⟩
  have hl := lv_entry [.ref (bs + 44), .int x1, .int x2] (n := 4) (Nat.le_of_ble_eq_true rfl)
  rw [lg_entry_eq]
  generalize (lg_sl [.ref (bs + 44), .int x1, .int x2] ++ List.replicate (4 - (lg_sl [.ref (bs + 44), .int x1, .int x2]).length) Slot.unset).toArray = ls at hl ⊢
  have hl : lv_has ls 4 [(0, .ref (bs + 44)), (1, .int x1), (2, .int x2)] := hl
  change W p l e (rmm 2 41) s m [.ref (bs + 44), .int x1, .int x2].toArray below meth c s.heap [] 0 0 (QI below [.ref (bs + 44), .int x1, .int x2].toArray s bs D y r) (F0 m 0 ls [])
  unfold fX10_broken at h
  refine lv_aload_n hx hb dX10_broken_0 rfl (lv_at hl 0 rfl) ?_
  refine lv_iload_n hx hb dX10_broken_1 rfl (lv_at hl 1 rfl) ?_
  obtain ⟨r2, er2, h⟩ := bd_s1 h
  refine c_VI (k := 44) (ci := 10) (As := [.int x1]) (rest := []) hx hb hml hown hts hK hN hL hP hS (cX10_isTile_ l bs D y hcb n x1 I J r2 er2) ok_X10_isTile ov_X10_isTile ml_136 ⟨Nat.le_of_ble_eq_true rfl, Nat.le_of_ble_eq_true rfl⟩ rfl hcb kd_44 hl.1 rfl rfl (Nat.le_of_ble_eq_true rfl) ⟨Nat.zero_le _, Nat.zero_le _⟩ dX10_broken_2 (fun H locs hP hS => ?_)
  refine lv_if_ne (tgt := 15) hx hb dX10_broken_5 (by decide) (fun c5 => ?_) (fun c5 => ?_)
  · replace h := if_f c5 h
    refine lv_aload_n hx hb dX10_broken_15 rfl (lv_at hl 0 rfl) ?_
    refine g_R (C := RX10) (T := TX10) (N := 49) (ci := 10) 44 28 60 hx hb hts hown hK hP in_X10 rfl hcb okF_44_28 rfc_44_28 fl_170 dX10_broken_16 ?_
    refine lv_iload_n hx hb dX10_broken_19 rfl (lv_at hl 1 rfl) ?_
    obtain ⟨hi20, h⟩ := if_s1 h
    refine a_Z 60 hx hb hK hP hcb alZ_60 hi20 dX10_broken_20 ?_
    refine lv_if_eq (tgt := 28) hx hb dX10_broken_21 (by decide) (fun c21 => ?_) (fun c21 => ?_)
    · replace h := if_t c21 h
      refine lv_iconst (v := (0 : Int32)) hx hb dX10_broken_28 (by decide) ?_
      exact wX10_broken_29 bs D y n  r Gc  x1 x2 (0 : Int32) r2.2.1 r2.2.2 _ _ _ hP hS (lv_sub hl [0, 1, 2] rfl) h
    · replace h := if_f c21 h
      refine lv_iconst (v := (1 : Int32)) hx hb dX10_broken_24 (by decide) ?_
      refine lv_goto (tgt := 29) hx hb dX10_broken_25 (by decide) ?_
      exact wX10_broken_29 bs D y n  r Gc  x1 x2 (1 : Int32) r2.2.1 r2.2.2 _ _ _ hP hS (lv_sub hl [0, 1, 2] rfl) h
  · replace h := if_t c5 h
    refine lv_aload_n hx hb dX10_broken_8 rfl (lv_at hl 0 rfl) ?_
    refine lv_bipush (v := (-3 : Int32)) hx hb dX10_broken_9 (by decide) ?_
    obtain ⟨r11, er11, h⟩ := bd_s1 h
    refine c_VI (k := 44) (ci := 10) (As := [.int (-3 : Int32)]) (rest := []) hx hb hml hown hts hK hN hL hP hS (cX10_no_ l bs D y hcb n (-3 : Int32) r2.2.1 r2.2.2 r11 er11) ok_X10_no ov_X10_no ml_118 ⟨Nat.le_of_ble_eq_true rfl, Nat.le_of_ble_eq_true rfl⟩ rfl hcb kd_44 hl.1 rfl rfl (Nat.le_of_ble_eq_true rfl) ⟨Nat.zero_le _, Nat.zero_le _⟩ dX10_broken_11 (fun H locs hP hS => ?_)
    exact r_I hx hb hr hlocks hP hK hN hL hS h dX10_broken_14
theorem dX10_roomLeft_0 : decode cX10_roomLeft 0 = .ok (.aload_n 0, 1) := by decide +kernel
theorem dX10_roomLeft_1 : decode cX10_roomLeft 1 = .ok (.getfield 69, 3) := by decide +kernel
theorem dX10_roomLeft_4 : decode cX10_roomLeft 4 = .ok (.iload_n 1, 1) := by decide +kernel
theorem dX10_roomLeft_5 : decode cX10_roomLeft 5 = .ok (.baload, 1) := by decide +kernel
theorem dX10_roomLeft_6 : decode cX10_roomLeft 6 = .ok (.ifCond .eq 7, 3) := by decide +kernel
theorem dX10_roomLeft_9 : decode cX10_roomLeft 9 = .ok (.iconst 0, 1) := by decide +kernel
theorem dX10_roomLeft_10 : decode cX10_roomLeft 10 = .ok (.goto 7, 3) := by decide +kernel
theorem dX10_roomLeft_13 : decode cX10_roomLeft 13 = .ok (.aload_n 0, 1) := by decide +kernel
theorem dX10_roomLeft_14 : decode cX10_roomLeft 14 = .ok (.getfield 63, 3) := by decide +kernel
theorem dX10_roomLeft_17 : decode cX10_roomLeft 17 = .ok (.istore_n 3, 1) := by decide +kernel
theorem dX10_roomLeft_18 : decode cX10_roomLeft 18 = .ok (.iconst 0, 1) := by decide +kernel
theorem dX10_roomLeft_19 : decode cX10_roomLeft 19 = .ok (.istore 4, 2) := by decide +kernel
theorem dX10_roomLeft_21 : decode cX10_roomLeft 21 = .ok (.iload 4, 2) := by decide +kernel
theorem dX10_roomLeft_23 : decode cX10_roomLeft 23 = .ok (.iload_n 2, 1) := by decide +kernel
theorem dX10_roomLeft_24 : decode cX10_roomLeft 24 = .ok (.if_icmp .ge 46, 3) := by decide +kernel
theorem dX10_roomLeft_27 : decode cX10_roomLeft 27 = .ok (.iload_n 3, 1) := by decide +kernel
theorem dX10_roomLeft_28 : decode cX10_roomLeft 28 = .ok (.aload_n 0, 1) := by decide +kernel
theorem dX10_roomLeft_29 : decode cX10_roomLeft 29 = .ok (.iload 4, 2) := by decide +kernel
theorem dX10_roomLeft_31 : decode cX10_roomLeft 31 = .ok (.invokevirtual 236, 3) := by decide +kernel
theorem dX10_roomLeft_34 : decode cX10_roomLeft 34 = .ok (.ifCond .eq 27, 3) := by decide +kernel
theorem dX10_roomLeft_37 : decode cX10_roomLeft 37 = .ok (.aload_n 0, 1) := by decide +kernel
theorem dX10_roomLeft_38 : decode cX10_roomLeft 38 = .ok (.getfield 72, 3) := by decide +kernel
theorem dX10_roomLeft_41 : decode cX10_roomLeft 41 = .ok (.iload 4, 2) := by decide +kernel
theorem dX10_roomLeft_43 : decode cX10_roomLeft 43 = .ok (.iaload, 1) := by decide +kernel
theorem dX10_roomLeft_44 : decode cX10_roomLeft 44 = .ok (.iload_n 1, 1) := by decide +kernel
theorem dX10_roomLeft_45 : decode cX10_roomLeft 45 = .ok (.if_icmp .ne 16, 3) := by decide +kernel
theorem dX10_roomLeft_48 : decode cX10_roomLeft 48 = .ok (.aload_n 0, 1) := by decide +kernel
theorem dX10_roomLeft_49 : decode cX10_roomLeft 49 = .ok (.getfield 69, 3) := by decide +kernel
theorem dX10_roomLeft_52 : decode cX10_roomLeft 52 = .ok (.iload_n 1, 1) := by decide +kernel
theorem dX10_roomLeft_53 : decode cX10_roomLeft 53 = .ok (.baload, 1) := by decide +kernel
theorem dX10_roomLeft_54 : decode cX10_roomLeft 54 = .ok (.ifCond .ne 7, 3) := by decide +kernel
theorem dX10_roomLeft_57 : decode cX10_roomLeft 57 = .ok (.iconst 1, 1) := by decide +kernel
theorem dX10_roomLeft_58 : decode cX10_roomLeft 58 = .ok (.goto 4, 3) := by decide +kernel
theorem dX10_roomLeft_61 : decode cX10_roomLeft 61 = .ok (.iconst 0, 1) := by decide +kernel
theorem dX10_roomLeft_62 : decode cX10_roomLeft 62 = .ok (.isub, 1) := by decide +kernel
theorem dX10_roomLeft_63 : decode cX10_roomLeft 63 = .ok (.istore_n 3, 1) := by decide +kernel
theorem dX10_roomLeft_64 : decode cX10_roomLeft 64 = .ok (.iinc 4 1, 3) := by decide +kernel
theorem dX10_roomLeft_67 : decode cX10_roomLeft 67 = .ok (.goto (-46), 3) := by decide +kernel
theorem dX10_roomLeft_70 : decode cX10_roomLeft 70 = .ok (.iload_n 3, 1) := by decide +kernel
theorem dX10_roomLeft_71 : decode cX10_roomLeft 71 = .ok (.ireturn, 1) := by decide +kernel
set_option maxHeartbeats 4000000 in
set_option maxRecDepth 100000 in
theorem wX10_roomLeft_62 {p : Program} {l : Launch} {e : Env} {s : State} {m : MethodId} {args : Array Value} {below : List Frame} {meth : Method} {c : Code} (bs : Nat) (D : va_G) (y : Y3) (n : Nat) (k21_ : Int32 → Int32 → Int32 → Int32 → MI → MJ → Option (Int32 × M2)) (r : Int32 × M2) (Gc : Gx p s m args meth c cX10_roomLeft 5 RX10 bs D y (some .int) 76) (hk21_ : ∀ (x1 : Int32) (x2 : Int32) (x3 : Int32) (x4 : Int32) (I : MI) (J : MJ) (H : Heap) (locs : List Loc) (ls : Array Slot), va_P D vwCl (wl bs y I J) H → va_S (FA bs) s.heap H locs → lv_has ls 5 [(0, .ref (bs + 44)), (1, .int x1), (2, .int x2), (3, .int x3), (4, .int x4)] → k21_ x1 x2 x3 x4 I J = some r → W p l e (rmm 1 21) s m args below meth c H locs 0 0 (QI below args s bs D y r) (F0 m 21 ls [])) (x1 : Int32) (x2 : Int32) (x4 : Int32) (s0 : Int32) (s1 : Int32) (I : MI) (J : MJ) (H : Heap) (locs : List Loc) (ls : Array Slot) (hP : va_P D vwCl (wl bs y I J) H) (hS : va_S (FA bs) s.heap H locs) (hl : lv_has ls 5 [(0, .ref (bs + 44)), (1, .int x1), (2, .int x2), (4, .int x4)]) (h : fX10_roomLeft_62 n k21_ x1 x2 x4 s0 s1 I J = some r) : W p l e (rmm 1 21) s m args below meth c H locs 0 0 (QI below args s bs D y r) (F0 m 62 ls [.int s1, .int s0]) := by
  obtain ⟨hx, hb, hml, hown, hts, hK, hN, hL, hr, hlocks, hcb⟩ := id Gc
  unfold fX10_roomLeft_62 at h
  refine lv_isub hx hb dX10_roomLeft_62 ?_
  obtain ⟨v63, ev63, h⟩ := lt_s1 h
  refine top_i ev63 ?_
  refine lv_istore_n (lv' := [(3, .int v63), (0, .ref (bs + 44)), (1, .int x1), (2, .int x2), (4, .int x4)]) hx hb dX10_roomLeft_63 rfl hl (by decide) rfl (fun ls hl => ?_)
  refine lv_iinc (v := (x4 + (1 : Int32))) (lv' := [(4, .int (x4 + (1 : Int32))), (3, .int v63), (0, .ref (bs + 44)), (1, .int x1), (2, .int x2)]) hx hb dX10_roomLeft_64 hl (k := 4) rfl rfl (by decide) rfl (fun ls hl => ?_)
  refine lv_goto (tgt := 21) hx hb dX10_roomLeft_67 (by decide) ?_
  exact hk21_ x1 x2 v63 (x4 + (1 : Int32)) I J _ _ _ hP hS (lv_sub hl [2, 3, 4, 1, 0] rfl) h
set_option maxHeartbeats 4000000 in
set_option maxRecDepth 100000 in
theorem wX10_roomLeft_61 {p : Program} {l : Launch} {e : Env} {s : State} {m : MethodId} {args : Array Value} {below : List Frame} {meth : Method} {c : Code} (bs : Nat) (D : va_G) (y : Y3) (n : Nat) (k21_ : Int32 → Int32 → Int32 → Int32 → MI → MJ → Option (Int32 × M2)) (r : Int32 × M2) (Gc : Gx p s m args meth c cX10_roomLeft 5 RX10 bs D y (some .int) 76) (hk21_ : ∀ (x1 : Int32) (x2 : Int32) (x3 : Int32) (x4 : Int32) (I : MI) (J : MJ) (H : Heap) (locs : List Loc) (ls : Array Slot), va_P D vwCl (wl bs y I J) H → va_S (FA bs) s.heap H locs → lv_has ls 5 [(0, .ref (bs + 44)), (1, .int x1), (2, .int x2), (3, .int x3), (4, .int x4)] → k21_ x1 x2 x3 x4 I J = some r → W p l e (rmm 1 21) s m args below meth c H locs 0 0 (QI below args s bs D y r) (F0 m 21 ls [])) (x1 : Int32) (x2 : Int32) (x4 : Int32) (s0 : Int32) (I : MI) (J : MJ) (H : Heap) (locs : List Loc) (ls : Array Slot) (hP : va_P D vwCl (wl bs y I J) H) (hS : va_S (FA bs) s.heap H locs) (hl : lv_has ls 5 [(0, .ref (bs + 44)), (1, .int x1), (2, .int x2), (4, .int x4)]) (h : fX10_roomLeft_61 n k21_ x1 x2 x4 s0 I J = some r) : W p l e (rmm 1 21) s m args below meth c H locs 0 0 (QI below args s bs D y r) (F0 m 61 ls [.int s0]) := by
  obtain ⟨hx, hb, hml, hown, hts, hK, hN, hL, hr, hlocks, hcb⟩ := id Gc
  unfold fX10_roomLeft_61 at h
  refine lv_iconst (v := (0 : Int32)) hx hb dX10_roomLeft_61 (by decide) ?_
  exact wX10_roomLeft_62 bs D y n k21_ r Gc hk21_ x1 x2 x4 s0 (0 : Int32) I J _ _ _ hP hS (lv_sub hl [0, 1, 2, 3] rfl) h
set_option maxHeartbeats 4000000 in
set_option maxRecDepth 100000 in
theorem wX10_roomLeft_21 {p : Program} {l : Launch} {e : Env} {s : State} {m : MethodId} {args : Array Value} {below : List Frame} {meth : Method} {c : Code} (bs : Nat) (D : va_G) (y : Y3) (n : Nat) (k21_ : Int32 → Int32 → Int32 → Int32 → MI → MJ → Option (Int32 × M2)) (r : Int32 × M2) (Gc : Gx p s m args meth c cX10_roomLeft 5 RX10 bs D y (some .int) 76) (hk21_ : ∀ (x1 : Int32) (x2 : Int32) (x3 : Int32) (x4 : Int32) (I : MI) (J : MJ) (H : Heap) (locs : List Loc) (ls : Array Slot), va_P D vwCl (wl bs y I J) H → va_S (FA bs) s.heap H locs → lv_has ls 5 [(0, .ref (bs + 44)), (1, .int x1), (2, .int x2), (3, .int x3), (4, .int x4)] → k21_ x1 x2 x3 x4 I J = some r → W p l e (rmm 1 21) s m args below meth c H locs 0 0 (QI below args s bs D y r) (F0 m 21 ls [])) (x1 : Int32) (x2 : Int32) (x3 : Int32) (x4 : Int32) (I : MI) (J : MJ) (H : Heap) (locs : List Loc) (ls : Array Slot) (hP : va_P D vwCl (wl bs y I J) H) (hS : va_S (FA bs) s.heap H locs) (hl : lv_has ls 5 [(0, .ref (bs + 44)), (1, .int x1), (2, .int x2), (3, .int x3), (4, .int x4)]) (h : fX10_roomLeft_21 n k21_ x1 x2 x3 x4 I J = some r) : W p l e (rmm 1 21) s m args below meth c H locs 0 0 (QI below args s bs D y r) (F0 m 21 ls []) := by
  obtain ⟨hx, hb, hml, hown, hts, hK, hN, hL, hr, hlocks, hcb⟩ := id Gc
  unfold fX10_roomLeft_21 at h
  refine lv_iload hx hb dX10_roomLeft_21 (lv_at hl 4 rfl) ?_
  refine lv_iload_n hx hb dX10_roomLeft_23 rfl (lv_at hl 2 rfl) ?_
  refine lv_icmp_ge (tgt := 70) hx hb dX10_roomLeft_24 (by decide) (fun c24 => ?_) (fun c24 => ?_)
  · replace h := if_t c24 h
    refine lv_iload_n hx hb dX10_roomLeft_70 rfl (lv_at hl 3 rfl) ?_
    exact r_I hx hb hr hlocks hP hK hN hL hS h dX10_roomLeft_71
  · replace h := if_f c24 h
    refine lv_iload_n hx hb dX10_roomLeft_27 rfl (lv_at hl 3 rfl) ?_
    refine lv_aload_n hx hb dX10_roomLeft_28 rfl (lv_at hl 0 rfl) ?_
    refine lv_iload hx hb dX10_roomLeft_29 (lv_at hl 4 rfl) ?_
    obtain ⟨r31, er31, h⟩ := bd_s1 h
    refine c_VI (k := 44) (ci := 10) (As := [.int x4]) (rest := [.int x3]) hx hb hml hown hts hK hN hL hP hS (cX10_isThing_ l bs D y hcb n x4 I J r31 er31) ok_X10_isThing ov_X10_isThing ml_137 ⟨Nat.le_of_ble_eq_true rfl, Nat.le_of_ble_eq_true rfl⟩ rfl hcb kd_44 hl.1 rfl rfl (Nat.le_of_ble_eq_true rfl) ⟨Nat.zero_le _, Nat.zero_le _⟩ dX10_roomLeft_31 (fun H locs hP hS => ?_)
    refine lv_if_eq (tgt := 61) hx hb dX10_roomLeft_34 (by decide) (fun c34 => ?_) (fun c34 => ?_)
    · replace h := if_t c34 h
      exact wX10_roomLeft_61 bs D y n k21_ r Gc hk21_ x1 x2 x4 x3 r31.2.1 r31.2.2 _ _ _ hP hS (lv_sub hl [0, 1, 2, 4] rfl) h
    · replace h := if_f c34 h
      refine lv_aload_n hx hb dX10_roomLeft_37 rfl (lv_at hl 0 rfl) ?_
      refine g_R (C := RX10) (T := TX10) (N := 49) (ci := 10) 44 29 61 hx hb hts hown hK hP in_X10 rfl hcb okF_44_29 rfc_44_29 fl_173 dX10_roomLeft_38 ?_
      refine lv_iload hx hb dX10_roomLeft_41 (lv_at hl 4 rfl) ?_
      obtain ⟨hi43, h⟩ := if_s1 h
      refine a_I 61 hx hb hK hP hcb aln_61 hi43 dX10_roomLeft_43 ?_
      refine lv_iload_n hx hb dX10_roomLeft_44 rfl (lv_at hl 1 rfl) ?_
      refine lv_icmp_ne (tgt := 61) hx hb dX10_roomLeft_45 (by decide) (fun c45 => ?_) (fun c45 => ?_)
      · replace h := if_f c45 h
        exact wX10_roomLeft_61 bs D y n k21_ r Gc hk21_ x1 x2 x4 x3 r31.2.1 r31.2.2 _ _ _ hP hS (lv_sub hl [0, 1, 2, 4] rfl) h
      · replace h := if_t c45 h
        refine lv_aload_n hx hb dX10_roomLeft_48 rfl (lv_at hl 0 rfl) ?_
        refine g_R (C := RX10) (T := TX10) (N := 49) (ci := 10) 44 28 60 hx hb hts hown hK hP in_X10 rfl hcb okF_44_28 rfc_44_28 fl_170 dX10_roomLeft_49 ?_
        refine lv_iload_n hx hb dX10_roomLeft_52 rfl (lv_at hl 1 rfl) ?_
        obtain ⟨hi53, h⟩ := if_s1 h
        refine a_Z 60 hx hb hK hP hcb alZ_60 hi53 dX10_roomLeft_53 ?_
        refine lv_if_ne (tgt := 61) hx hb dX10_roomLeft_54 (by decide) (fun c54 => ?_) (fun c54 => ?_)
        · replace h := if_f c54 h
          exact wX10_roomLeft_61 bs D y n k21_ r Gc hk21_ x1 x2 x4 x3 r31.2.1 r31.2.2 _ _ _ hP hS (lv_sub hl [0, 1, 2, 4] rfl) h
        · replace h := if_t c54 h
          refine lv_iconst (v := (1 : Int32)) hx hb dX10_roomLeft_57 (by decide) ?_
          refine lv_goto (tgt := 62) hx hb dX10_roomLeft_58 (by decide) ?_
          exact wX10_roomLeft_62 bs D y n k21_ r Gc hk21_ x1 x2 x4 x3 (1 : Int32) r31.2.1 r31.2.2 _ _ _ hP hS (lv_sub hl [0, 1, 2, 4] rfl) h
theorem vX10_roomLeft_21 {p : Program} {l : Launch} {e : Env} {s : State} {m : MethodId} {args : Array Value} {below : List Frame} {meth : Method} {c : Code} (bs : Nat) (D : va_G) (y : Y3) (n : Nat) (r : Int32 × M2) (Gc : Gx p s m args meth c cX10_roomLeft 5 RX10 bs D y (some .int) 76)  : ∀ (q : Nat) (x1 : Int32) (x2 : Int32) (x3 : Int32) (x4 : Int32) (I : MI) (J : MJ) (H : Heap) (locs : List Loc) (ls : Array Slot), va_P D vwCl (wl bs y I J) H → va_S (FA bs) s.heap H locs → lv_has ls 5 [(0, .ref (bs + 44)), (1, .int x1), (2, .int x2), (3, .int x3), (4, .int x4)] → lX10_roomLeft_21 n  q x1 x2 x3 x4 I J = some r → W p l e (rmm 1 21) s m args below meth c H locs 0 0 (QI below args s bs D y r) (F0 m 21 ls []) := by
  intro q
  induction q with
  | zero =>
    intro x1 x2 x3 x4 I J H locs ls hP hS hl h
    have h : (none : Option (Int32 × M2)) = some r := h
    cases h
  | succ q ih =>
    intro x1 x2 x3 x4 I J H locs ls hP hS hl h
    have h : fX10_roomLeft_21 n  (lX10_roomLeft_21 n  q) x1 x2 x3 x4 I J = some r := h
    exact wX10_roomLeft_21 bs D y n  (lX10_roomLeft_21 n  q) r Gc  ih x1 x2 x3 x4 I J H locs ls hP hS hl h
set_option maxHeartbeats 4000000 in
set_option maxRecDepth 100000 in
theorem wX10_roomLeft_17 {p : Program} {l : Launch} {e : Env} {s : State} {m : MethodId} {args : Array Value} {below : List Frame} {meth : Method} {c : Code} (bs : Nat) (D : va_G) (y : Y3) (n : Nat) (r : Int32 × M2) (Gc : Gx p s m args meth c cX10_roomLeft 5 RX10 bs D y (some .int) 76)  (x1 : Int32) (x2 : Int32) (s0 : Int32) (I : MI) (J : MJ) (H : Heap) (locs : List Loc) (ls : Array Slot) (hP : va_P D vwCl (wl bs y I J) H) (hS : va_S (FA bs) s.heap H locs) (hl : lv_has ls 5 [(0, .ref (bs + 44)), (1, .int x1), (2, .int x2)]) (h : fX10_roomLeft_17 n  x1 x2 s0 I J = some r) : W p l e (rmm 1 21) s m args below meth c H locs 0 0 (QI below args s bs D y r) (F0 m 17 ls [.int s0]) := by
  obtain ⟨hx, hb, hml, hown, hts, hK, hN, hL, hr, hlocks, hcb⟩ := id Gc
  unfold fX10_roomLeft_17 at h
  refine lv_istore_n (lv' := [(3, .int s0), (0, .ref (bs + 44)), (1, .int x1), (2, .int x2)]) hx hb dX10_roomLeft_17 rfl hl (by decide) rfl (fun ls hl => ?_)
  refine lv_iconst (v := (0 : Int32)) hx hb dX10_roomLeft_18 (by decide) ?_
  refine lv_istore (lv' := [(4, .int (0 : Int32)), (3, .int s0), (0, .ref (bs + 44)), (1, .int x1), (2, .int x2)]) hx hb dX10_roomLeft_19 hl (by decide) rfl (fun ls hl => ?_)
  exact vX10_roomLeft_21 bs D y n  r Gc  n x1 x2 s0 (0 : Int32) I J _ _ _ hP hS (lv_sub hl [2, 3, 4, 1, 0] rfl) h
set_option maxHeartbeats 4000000 in
set_option maxRecDepth 100000 in
theorem cX10_roomLeft_ (l : Launch) (bs : Nat) (D : va_G) (y : Y3) (hcb : 76 ≤ y.2.2.2) (n : Nat) (x1 : Int32) (x2 : Int32) (I : MI) (J : MJ) (r : Int32 × M2) (h : fX10_roomLeft n x1 x2 I J = some r) : Met l yX10_roomLeft (.code yX10_roomLeft cX10_roomLeft 5 (some .int) :: gtb) (rmm 1 21) (va_Pc [.ref (bs + 44), .int x1, .int x2] (HB bs D y I J)) (QcI bs D y r) 0 0 (FA bs) := by
  refine Met.ofW (cc := cX10_roomLeft) (maxL := 5) (ret := (some .int)) (by decide) rfl ?_
  intro p e s m args below meth c s₁ B hml hv
  obtain ⟨rfl, hP, hK, hN, hL⟩ := hv
  have hx := B.exec
  have hb := B.bytes
  have hr := B.returns
  have hts0 := atoms_spec (ws := .code yX10_roomLeft cX10_roomLeft 5 (some .int) :: gtb) B.pre
  have hts : ∀ w ∈ gtb, w.before [.ref (bs + 44), .int x1, .int x2].toArray s = true := fun w hw => hts0 w (List.mem_cons_of_mem _ hw)
  have hown : s.vm.findClass RX10 = some m.cls := findClass_of_methodNamed B.named
  have hlocks := B.notSynchronized
  have hS : va_S (FA bs) s.heap s.heap [] := va_S.rf
  have Gc : Gx p s m [.ref (bs + 44), .int x1, .int x2].toArray meth c cX10_roomLeft 5 RX10 bs D y (some .int) 76 := ⟨hx, hb, hml, hown, hts, hK, hN, hL, hr, hlocks, hcb⟩
  have hl := lv_entry [.ref (bs + 44), .int x1, .int x2] (n := 5) (Nat.le_of_ble_eq_true rfl)
  rw [lg_entry_eq]
  generalize (lg_sl [.ref (bs + 44), .int x1, .int x2] ++ List.replicate (5 - (lg_sl [.ref (bs + 44), .int x1, .int x2]).length) Slot.unset).toArray = ls at hl ⊢
  have hl : lv_has ls 5 [(0, .ref (bs + 44)), (1, .int x1), (2, .int x2)] := hl
  change W p l e (rmm 1 21) s m [.ref (bs + 44), .int x1, .int x2].toArray below meth c s.heap [] 0 0 (QI below [.ref (bs + 44), .int x1, .int x2].toArray s bs D y r) (F0 m 0 ls [])
  unfold fX10_roomLeft at h
  refine lv_aload_n hx hb dX10_roomLeft_0 rfl (lv_at hl 0 rfl) ?_
  refine g_R (C := RX10) (T := TX10) (N := 49) (ci := 10) 44 28 60 hx hb hts hown hK hP in_X10 rfl hcb okF_44_28 rfc_44_28 fl_170 dX10_roomLeft_1 ?_
  refine lv_iload_n hx hb dX10_roomLeft_4 rfl (lv_at hl 1 rfl) ?_
  obtain ⟨hi5, h⟩ := if_s1 h
  refine a_Z 60 hx hb hK hP hcb alZ_60 hi5 dX10_roomLeft_5 ?_
  refine lv_if_eq (tgt := 13) hx hb dX10_roomLeft_6 (by decide) (fun c6 => ?_) (fun c6 => ?_)
  · replace h := if_t c6 h
    refine lv_aload_n hx hb dX10_roomLeft_13 rfl (lv_at hl 0 rfl) ?_
    refine g_I (C := RX10) (T := TX10) (N := 49) (ci := 10) 44 26 hx hb hts hown hK hP in_X10 rfl hcb okF_44_26 fl_171 dX10_roomLeft_14 ?_
    exact wX10_roomLeft_17 bs D y n  r Gc  x1 x2 (I 44 26) I J _ _ _ hP hS (lv_sub hl [0, 1, 2] rfl) h
  · replace h := if_f c6 h
    refine lv_iconst (v := (0 : Int32)) hx hb dX10_roomLeft_9 (by decide) ?_
    refine lv_goto (tgt := 17) hx hb dX10_roomLeft_10 (by decide) ?_
    exact wX10_roomLeft_17 bs D y n  r Gc  x1 x2 (0 : Int32) I J _ _ _ hP hS (lv_sub hl [0, 1, 2] rfl) h
theorem dX10_things_0 : decode cX10_things 0 = .ok (.iconst 0, 1) := by decide +kernel
theorem dX10_things_1 : decode cX10_things 1 = .ok (.istore_n 1, 1) := by decide +kernel
theorem dX10_things_2 : decode cX10_things 2 = .ok (.iconst 0, 1) := by decide +kernel
theorem dX10_things_3 : decode cX10_things 3 = .ok (.istore_n 2, 1) := by decide +kernel
theorem dX10_things_4 : decode cX10_things 4 = .ok (.iload_n 2, 1) := by decide +kernel
theorem dX10_things_5 : decode cX10_things 5 = .ok (.aload_n 0, 1) := by decide +kernel
theorem dX10_things_6 : decode cX10_things 6 = .ok (.getfield 123, 3) := by decide +kernel
theorem dX10_things_9 : decode cX10_things 9 = .ok (.if_icmp .ge 25, 3) := by decide +kernel
theorem dX10_things_12 : decode cX10_things 12 = .ok (.iload_n 1, 1) := by decide +kernel
theorem dX10_things_13 : decode cX10_things 13 = .ok (.aload_n 0, 1) := by decide +kernel
theorem dX10_things_14 : decode cX10_things 14 = .ok (.iload_n 2, 1) := by decide +kernel
theorem dX10_things_15 : decode cX10_things 15 = .ok (.invokevirtual 236, 3) := by decide +kernel
theorem dX10_things_18 : decode cX10_things 18 = .ok (.ifCond .eq 7, 3) := by decide +kernel
theorem dX10_things_21 : decode cX10_things 21 = .ok (.iconst 1, 1) := by decide +kernel
theorem dX10_things_22 : decode cX10_things 22 = .ok (.goto 4, 3) := by decide +kernel
theorem dX10_things_25 : decode cX10_things 25 = .ok (.iconst 0, 1) := by decide +kernel
theorem dX10_things_26 : decode cX10_things 26 = .ok (.iadd, 1) := by decide +kernel
theorem dX10_things_27 : decode cX10_things 27 = .ok (.istore_n 1, 1) := by decide +kernel
theorem dX10_things_28 : decode cX10_things 28 = .ok (.iinc 2 1, 3) := by decide +kernel
theorem dX10_things_31 : decode cX10_things 31 = .ok (.goto (-27), 3) := by decide +kernel
theorem dX10_things_34 : decode cX10_things 34 = .ok (.iload_n 1, 1) := by decide +kernel
theorem dX10_things_35 : decode cX10_things 35 = .ok (.ireturn, 1) := by decide +kernel
set_option maxHeartbeats 4000000 in
set_option maxRecDepth 100000 in
theorem wX10_things_26 {p : Program} {l : Launch} {e : Env} {s : State} {m : MethodId} {args : Array Value} {below : List Frame} {meth : Method} {c : Code} (bs : Nat) (D : va_G) (y : Y3) (n : Nat) (k4_ : Int32 → Int32 → MI → MJ → Option (Int32 × M2)) (r : Int32 × M2) (Gc : Gx p s m args meth c cX10_things 3 RX10 bs D y (some .int) 76) (hk4_ : ∀ (x1 : Int32) (x2 : Int32) (I : MI) (J : MJ) (H : Heap) (locs : List Loc) (ls : Array Slot), va_P D vwCl (wl bs y I J) H → va_S (FA bs) s.heap H locs → lv_has ls 3 [(0, .ref (bs + 44)), (1, .int x1), (2, .int x2)] → k4_ x1 x2 I J = some r → W p l e (rmm 1 21) s m args below meth c H locs 0 0 (QI below args s bs D y r) (F0 m 4 ls [])) (x2 : Int32) (s0 : Int32) (s1 : Int32) (I : MI) (J : MJ) (H : Heap) (locs : List Loc) (ls : Array Slot) (hP : va_P D vwCl (wl bs y I J) H) (hS : va_S (FA bs) s.heap H locs) (hl : lv_has ls 3 [(0, .ref (bs + 44)), (2, .int x2)]) (h : fX10_things_26 n k4_ x2 s0 s1 I J = some r) : W p l e (rmm 1 21) s m args below meth c H locs 0 0 (QI below args s bs D y r) (F0 m 26 ls [.int s1, .int s0]) := by
  obtain ⟨hx, hb, hml, hown, hts, hK, hN, hL, hr, hlocks, hcb⟩ := id Gc
  unfold fX10_things_26 at h
  refine lv_iadd hx hb dX10_things_26 ?_
  obtain ⟨v27, ev27, h⟩ := lt_s1 h
  refine top_i ev27 ?_
  refine lv_istore_n (lv' := [(1, .int v27), (0, .ref (bs + 44)), (2, .int x2)]) hx hb dX10_things_27 rfl hl (by decide) rfl (fun ls hl => ?_)
  refine lv_iinc (v := (x2 + (1 : Int32))) (lv' := [(2, .int (x2 + (1 : Int32))), (1, .int v27), (0, .ref (bs + 44))]) hx hb dX10_things_28 hl (k := 2) rfl rfl (by decide) rfl (fun ls hl => ?_)
  refine lv_goto (tgt := 4) hx hb dX10_things_31 (by decide) ?_
  exact hk4_ v27 (x2 + (1 : Int32)) I J _ _ _ hP hS (lv_sub hl [2, 1, 0] rfl) h
set_option maxHeartbeats 4000000 in
set_option maxRecDepth 100000 in
theorem wX10_things_4 {p : Program} {l : Launch} {e : Env} {s : State} {m : MethodId} {args : Array Value} {below : List Frame} {meth : Method} {c : Code} (bs : Nat) (D : va_G) (y : Y3) (n : Nat) (k4_ : Int32 → Int32 → MI → MJ → Option (Int32 × M2)) (r : Int32 × M2) (Gc : Gx p s m args meth c cX10_things 3 RX10 bs D y (some .int) 76) (hk4_ : ∀ (x1 : Int32) (x2 : Int32) (I : MI) (J : MJ) (H : Heap) (locs : List Loc) (ls : Array Slot), va_P D vwCl (wl bs y I J) H → va_S (FA bs) s.heap H locs → lv_has ls 3 [(0, .ref (bs + 44)), (1, .int x1), (2, .int x2)] → k4_ x1 x2 I J = some r → W p l e (rmm 1 21) s m args below meth c H locs 0 0 (QI below args s bs D y r) (F0 m 4 ls [])) (x1 : Int32) (x2 : Int32) (I : MI) (J : MJ) (H : Heap) (locs : List Loc) (ls : Array Slot) (hP : va_P D vwCl (wl bs y I J) H) (hS : va_S (FA bs) s.heap H locs) (hl : lv_has ls 3 [(0, .ref (bs + 44)), (1, .int x1), (2, .int x2)]) (h : fX10_things_4 n k4_ x1 x2 I J = some r) : W p l e (rmm 1 21) s m args below meth c H locs 0 0 (QI below args s bs D y r) (F0 m 4 ls []) := by
  obtain ⟨hx, hb, hml, hown, hts, hK, hN, hL, hr, hlocks, hcb⟩ := id Gc
  unfold fX10_things_4 at h
  refine lv_iload_n hx hb dX10_things_4 rfl (lv_at hl 2 rfl) ?_
  refine lv_aload_n hx hb dX10_things_5 rfl (lv_at hl 0 rfl) ?_
  refine g_I (C := RX10) (T := TX10) (N := 49) (ci := 10) 44 6 hx hb hts hown hK hP in_X10 rfl hcb okF_44_6 fl_141 dX10_things_6 ?_
  refine lv_icmp_ge (tgt := 34) hx hb dX10_things_9 (by decide) (fun c9 => ?_) (fun c9 => ?_)
  · replace h := if_t c9 h
    refine lv_iload_n hx hb dX10_things_34 rfl (lv_at hl 1 rfl) ?_
    exact r_I hx hb hr hlocks hP hK hN hL hS h dX10_things_35
  · replace h := if_f c9 h
    refine lv_iload_n hx hb dX10_things_12 rfl (lv_at hl 1 rfl) ?_
    refine lv_aload_n hx hb dX10_things_13 rfl (lv_at hl 0 rfl) ?_
    refine lv_iload_n hx hb dX10_things_14 rfl (lv_at hl 2 rfl) ?_
    obtain ⟨r15, er15, h⟩ := bd_s1 h
    refine c_VI (k := 44) (ci := 10) (As := [.int x2]) (rest := [.int x1]) hx hb hml hown hts hK hN hL hP hS (cX10_isThing_ l bs D y hcb n x2 I J r15 er15) ok_X10_isThing ov_X10_isThing ml_137 ⟨Nat.le_of_ble_eq_true rfl, Nat.le_of_ble_eq_true rfl⟩ rfl hcb kd_44 hl.1 rfl rfl (Nat.le_of_ble_eq_true rfl) ⟨Nat.zero_le _, Nat.zero_le _⟩ dX10_things_15 (fun H locs hP hS => ?_)
    refine lv_if_eq (tgt := 25) hx hb dX10_things_18 (by decide) (fun c18 => ?_) (fun c18 => ?_)
    · replace h := if_t c18 h
      refine lv_iconst (v := (0 : Int32)) hx hb dX10_things_25 (by decide) ?_
      exact wX10_things_26 bs D y n k4_ r Gc hk4_ x2 x1 (0 : Int32) r15.2.1 r15.2.2 _ _ _ hP hS (lv_sub hl [0, 2] rfl) h
    · replace h := if_f c18 h
      refine lv_iconst (v := (1 : Int32)) hx hb dX10_things_21 (by decide) ?_
      refine lv_goto (tgt := 26) hx hb dX10_things_22 (by decide) ?_
      exact wX10_things_26 bs D y n k4_ r Gc hk4_ x2 x1 (1 : Int32) r15.2.1 r15.2.2 _ _ _ hP hS (lv_sub hl [0, 2] rfl) h
theorem vX10_things_4 {p : Program} {l : Launch} {e : Env} {s : State} {m : MethodId} {args : Array Value} {below : List Frame} {meth : Method} {c : Code} (bs : Nat) (D : va_G) (y : Y3) (n : Nat) (r : Int32 × M2) (Gc : Gx p s m args meth c cX10_things 3 RX10 bs D y (some .int) 76)  : ∀ (q : Nat) (x1 : Int32) (x2 : Int32) (I : MI) (J : MJ) (H : Heap) (locs : List Loc) (ls : Array Slot), va_P D vwCl (wl bs y I J) H → va_S (FA bs) s.heap H locs → lv_has ls 3 [(0, .ref (bs + 44)), (1, .int x1), (2, .int x2)] → lX10_things_4 n  q x1 x2 I J = some r → W p l e (rmm 1 21) s m args below meth c H locs 0 0 (QI below args s bs D y r) (F0 m 4 ls []) := by
  intro q
  induction q with
  | zero =>
    intro x1 x2 I J H locs ls hP hS hl h
    have h : (none : Option (Int32 × M2)) = some r := h
    cases h
  | succ q ih =>
    intro x1 x2 I J H locs ls hP hS hl h
    have h : fX10_things_4 n  (lX10_things_4 n  q) x1 x2 I J = some r := h
    exact wX10_things_4 bs D y n  (lX10_things_4 n  q) r Gc  ih x1 x2 I J H locs ls hP hS hl h
set_option maxHeartbeats 4000000 in
set_option maxRecDepth 100000 in
theorem cX10_things_ (l : Launch) (bs : Nat) (D : va_G) (y : Y3) (hcb : 76 ≤ y.2.2.2) (n : Nat) (I : MI) (J : MJ) (r : Int32 × M2) (h : fX10_things n  I J = some r) : Met l yX10_things (.code yX10_things cX10_things 3 (some .int) :: gtb) (rmm 1 21) (va_Pc [.ref (bs + 44)] (HB bs D y I J)) (QcI bs D y r) 0 0 (FA bs) := by
  refine Met.ofW (cc := cX10_things) (maxL := 3) (ret := (some .int)) (by decide) rfl ?_
  intro p e s m args below meth c s₁ B hml hv
  obtain ⟨rfl, hP, hK, hN, hL⟩ := hv
  have hx := B.exec
  have hb := B.bytes
  have hr := B.returns
  have hts0 := atoms_spec (ws := .code yX10_things cX10_things 3 (some .int) :: gtb) B.pre
  have hts : ∀ w ∈ gtb, w.before [.ref (bs + 44)].toArray s = true := fun w hw => hts0 w (List.mem_cons_of_mem _ hw)
  have hown : s.vm.findClass RX10 = some m.cls := findClass_of_methodNamed B.named
  have hlocks := B.notSynchronized
  have hS : va_S (FA bs) s.heap s.heap [] := va_S.rf
  have Gc : Gx p s m [.ref (bs + 44)].toArray meth c cX10_things 3 RX10 bs D y (some .int) 76 := ⟨hx, hb, hml, hown, hts, hK, hN, hL, hr, hlocks, hcb⟩
  have hl := lv_entry [.ref (bs + 44)] (n := 3) (Nat.le_of_ble_eq_true rfl)
  rw [lg_entry_eq]
  generalize (lg_sl [.ref (bs + 44)] ++ List.replicate (3 - (lg_sl [.ref (bs + 44)]).length) Slot.unset).toArray = ls at hl ⊢
  have hl : lv_has ls 3 [(0, .ref (bs + 44))] := hl
  change W p l e (rmm 1 21) s m [.ref (bs + 44)].toArray below meth c s.heap [] 0 0 (QI below [.ref (bs + 44)].toArray s bs D y r) (F0 m 0 ls [])
  unfold fX10_things at h
  refine lv_iconst (v := (0 : Int32)) hx hb dX10_things_0 (by decide) ?_
  refine lv_istore_n (lv' := [(1, .int (0 : Int32)), (0, .ref (bs + 44))]) hx hb dX10_things_1 rfl hl (by decide) rfl (fun ls hl => ?_)
  refine lv_iconst (v := (0 : Int32)) hx hb dX10_things_2 (by decide) ?_
  refine lv_istore_n (lv' := [(2, .int (0 : Int32)), (1, .int (0 : Int32)), (0, .ref (bs + 44))]) hx hb dX10_things_3 rfl hl (by decide) rfl (fun ls hl => ?_)
  exact vX10_things_4 bs D y n  r Gc  n (0 : Int32) (0 : Int32) I J _ _ _ hP hS (lv_sub hl [2, 1, 0] rfl) h
theorem dX10_set_0 : decode cX10_set 0 = .ok (.aload_n 0, 1) := by decide +kernel
theorem dX10_set_1 : decode cX10_set 1 = .ok (.getfield 126, 3) := by decide +kernel
theorem dX10_set_4 : decode cX10_set 4 = .ok (.ifCond .ne 10, 3) := by decide +kernel
theorem dX10_set_7 : decode cX10_set 7 = .ok (.aload_n 0, 1) := by decide +kernel
theorem dX10_set_8 : decode cX10_set 8 = .ok (.bipush (-2), 2) := by decide +kernel
theorem dX10_set_10 : decode cX10_set 10 = .ok (.invokevirtual 151, 3) := by decide +kernel
theorem dX10_set_13 : decode cX10_set 13 = .ok (.ireturn, 1) := by decide +kernel
theorem dX10_set_14 : decode cX10_set 14 = .ok (.iconst 0, 1) := by decide +kernel
theorem dX10_set_15 : decode cX10_set 15 = .ok (.istore_n 1, 1) := by decide +kernel
theorem dX10_set_16 : decode cX10_set 16 = .ok (.iconst 0, 1) := by decide +kernel
theorem dX10_set_17 : decode cX10_set 17 = .ok (.istore_n 2, 1) := by decide +kernel
theorem dX10_set_18 : decode cX10_set 18 = .ok (.iload_n 2, 1) := by decide +kernel
theorem dX10_set_19 : decode cX10_set 19 = .ok (.aload_n 0, 1) := by decide +kernel
theorem dX10_set_20 : decode cX10_set 20 = .ok (.invokevirtual 216, 3) := by decide +kernel
theorem dX10_set_23 : decode cX10_set 23 = .ok (.if_icmp .ge 29, 3) := by decide +kernel
theorem dX10_set_26 : decode cX10_set 26 = .ok (.iload_n 1, 1) := by decide +kernel
theorem dX10_set_27 : decode cX10_set 27 = .ok (.aload_n 0, 1) := by decide +kernel
theorem dX10_set_28 : decode cX10_set 28 = .ok (.getfield 69, 3) := by decide +kernel
theorem dX10_set_31 : decode cX10_set 31 = .ok (.iload_n 2, 1) := by decide +kernel
theorem dX10_set_32 : decode cX10_set 32 = .ok (.baload, 1) := by decide +kernel
theorem dX10_set_33 : decode cX10_set 33 = .ok (.ifCond .eq 7, 3) := by decide +kernel
theorem dX10_set_36 : decode cX10_set 36 = .ok (.iconst 0, 1) := by decide +kernel
theorem dX10_set_37 : decode cX10_set 37 = .ok (.goto 7, 3) := by decide +kernel
theorem dX10_set_40 : decode cX10_set 40 = .ok (.aload_n 0, 1) := by decide +kernel
theorem dX10_set_41 : decode cX10_set 41 = .ok (.getfield 63, 3) := by decide +kernel
theorem dX10_set_44 : decode cX10_set 44 = .ok (.iadd, 1) := by decide +kernel
theorem dX10_set_45 : decode cX10_set 45 = .ok (.istore_n 1, 1) := by decide +kernel
theorem dX10_set_46 : decode cX10_set 46 = .ok (.iinc 2 1, 3) := by decide +kernel
theorem dX10_set_49 : decode cX10_set 49 = .ok (.goto (-31), 3) := by decide +kernel
theorem dX10_set_52 : decode cX10_set 52 = .ok (.iload_n 1, 1) := by decide +kernel
theorem dX10_set_53 : decode cX10_set 53 = .ok (.aload_n 0, 1) := by decide +kernel
theorem dX10_set_54 : decode cX10_set 54 = .ok (.invokevirtual 239, 3) := by decide +kernel
theorem dX10_set_57 : decode cX10_set 57 = .ok (.if_icmp .ge 10, 3) := by decide +kernel
theorem dX10_set_60 : decode cX10_set 60 = .ok (.aload_n 0, 1) := by decide +kernel
theorem dX10_set_61 : decode cX10_set 61 = .ok (.bipush (-8), 2) := by decide +kernel
theorem dX10_set_63 : decode cX10_set 63 = .ok (.invokevirtual 151, 3) := by decide +kernel
theorem dX10_set_66 : decode cX10_set 66 = .ok (.ireturn, 1) := by decide +kernel
theorem dX10_set_67 : decode cX10_set 67 = .ok (.iconst 0, 1) := by decide +kernel
theorem dX10_set_68 : decode cX10_set 68 = .ok (.istore_n 2, 1) := by decide +kernel
theorem dX10_set_69 : decode cX10_set 69 = .ok (.iload_n 2, 1) := by decide +kernel
theorem dX10_set_70 : decode cX10_set 70 = .ok (.aload_n 0, 1) := by decide +kernel
theorem dX10_set_71 : decode cX10_set 71 = .ok (.getfield 123, 3) := by decide +kernel
theorem dX10_set_74 : decode cX10_set 74 = .ok (.if_icmp .ge 44, 3) := by decide +kernel
theorem dX10_set_77 : decode cX10_set 77 = .ok (.aload_n 0, 1) := by decide +kernel
theorem dX10_set_78 : decode cX10_set 78 = .ok (.iload_n 2, 1) := by decide +kernel
theorem dX10_set_79 : decode cX10_set 79 = .ok (.invokevirtual 236, 3) := by decide +kernel
theorem dX10_set_82 : decode cX10_set 82 = .ok (.ifCond .ne 6, 3) := by decide +kernel
theorem dX10_set_85 : decode cX10_set 85 = .ok (.goto 27, 3) := by decide +kernel
theorem dX10_set_88 : decode cX10_set 88 = .ok (.iconst 0, 1) := by decide +kernel
theorem dX10_set_89 : decode cX10_set 89 = .ok (.istore_n 3, 1) := by decide +kernel
theorem dX10_set_90 : decode cX10_set 90 = .ok (.aload_n 0, 1) := by decide +kernel
theorem dX10_set_91 : decode cX10_set 91 = .ok (.iload_n 3, 1) := by decide +kernel
theorem dX10_set_92 : decode cX10_set 92 = .ok (.iload_n 2, 1) := by decide +kernel
theorem dX10_set_93 : decode cX10_set 93 = .ok (.invokevirtual 242, 3) := by decide +kernel
theorem dX10_set_96 : decode cX10_set 96 = .ok (.ifCond .ne 9, 3) := by decide +kernel
theorem dX10_set_99 : decode cX10_set 99 = .ok (.iinc 3 1, 3) := by decide +kernel
theorem dX10_set_102 : decode cX10_set 102 = .ok (.goto (-12), 3) := by decide +kernel
theorem dX10_set_105 : decode cX10_set 105 = .ok (.aload_n 0, 1) := by decide +kernel
theorem dX10_set_106 : decode cX10_set 106 = .ok (.getfield 72, 3) := by decide +kernel
theorem dX10_set_109 : decode cX10_set 109 = .ok (.iload_n 2, 1) := by decide +kernel
theorem dX10_set_110 : decode cX10_set 110 = .ok (.iload_n 3, 1) := by decide +kernel
theorem dX10_set_111 : decode cX10_set 111 = .ok (.iastore, 1) := by decide +kernel
theorem dX10_set_112 : decode cX10_set 112 = .ok (.iinc 2 1, 3) := by decide +kernel
theorem dX10_set_115 : decode cX10_set 115 = .ok (.goto (-46), 3) := by decide +kernel
theorem dX10_set_118 : decode cX10_set 118 = .ok (.aload_n 0, 1) := by decide +kernel
theorem dX10_set_119 : decode cX10_set 119 = .ok (.iconst 1, 1) := by decide +kernel
theorem dX10_set_120 : decode cX10_set 120 = .ok (.putfield 130, 3) := by decide +kernel
theorem dX10_set_123 : decode cX10_set 123 = .ok (.aload_n 0, 1) := by decide +kernel
theorem dX10_set_124 : decode cX10_set 124 = .ok (.invokevirtual 220, 3) := by decide +kernel
theorem dX10_set_127 : decode cX10_set 127 = .ok (.aload_n 0, 1) := by decide +kernel
theorem dX10_set_128 : decode cX10_set 128 = .ok (.invokevirtual 239, 3) := by decide +kernel
theorem dX10_set_131 : decode cX10_set 131 = .ok (.ireturn, 1) := by decide +kernel
set_option maxHeartbeats 4000000 in
set_option maxRecDepth 100000 in
theorem wX10_set_112 {p : Program} {l : Launch} {e : Env} {s : State} {m : MethodId} {args : Array Value} {below : List Frame} {meth : Method} {c : Code} (bs : Nat) (D : va_G) (y : Y3) (n : Nat) (k69_ : Int32 → MI → MJ → Option (Int32 × M2)) (r : Int32 × M2) (Gc : Gx p s m args meth c cX10_set 4 RX10 bs D y (some .int) 76) (hk69_ : ∀ (x2 : Int32) (I : MI) (J : MJ) (H : Heap) (locs : List Loc) (ls : Array Slot), va_P D vwCl (wl bs y I J) H → va_S (FA bs) s.heap H locs → lv_has ls 4 [(0, .ref (bs + 44)), (2, .int x2)] → k69_ x2 I J = some r → W p l e (rmm 2 45) s m args below meth c H locs 0 0 (QI below args s bs D y r) (F0 m 69 ls [])) (x2 : Int32) (I : MI) (J : MJ) (H : Heap) (locs : List Loc) (ls : Array Slot) (hP : va_P D vwCl (wl bs y I J) H) (hS : va_S (FA bs) s.heap H locs) (hl : lv_has ls 4 [(0, .ref (bs + 44)), (2, .int x2)]) (h : fX10_set_112 n k69_ x2 I J = some r) : W p l e (rmm 2 45) s m args below meth c H locs 0 0 (QI below args s bs D y r) (F0 m 112 ls []) := by
  obtain ⟨hx, hb, hml, hown, hts, hK, hN, hL, hr, hlocks, hcb⟩ := id Gc
  unfold fX10_set_112 at h
  refine lv_iinc (v := (x2 + (1 : Int32))) (lv' := [(2, .int (x2 + (1 : Int32))), (0, .ref (bs + 44))]) hx hb dX10_set_112 hl (k := 1) rfl rfl (by decide) rfl (fun ls hl => ?_)
  refine lv_goto (tgt := 69) hx hb dX10_set_115 (by decide) ?_
  exact hk69_ (x2 + (1 : Int32)) I J _ _ _ hP hS (lv_sub hl [1, 0] rfl) h
set_option maxHeartbeats 4000000 in
set_option maxRecDepth 100000 in
theorem wX10_set_90 {p : Program} {l : Launch} {e : Env} {s : State} {m : MethodId} {args : Array Value} {below : List Frame} {meth : Method} {c : Code} (bs : Nat) (D : va_G) (y : Y3) (n : Nat) (k69_ : Int32 → MI → MJ → Option (Int32 × M2)) (k90_ : Int32 → Int32 → MI → MJ → Option (Int32 × M2)) (r : Int32 × M2) (Gc : Gx p s m args meth c cX10_set 4 RX10 bs D y (some .int) 76) (hk69_ : ∀ (x2 : Int32) (I : MI) (J : MJ) (H : Heap) (locs : List Loc) (ls : Array Slot), va_P D vwCl (wl bs y I J) H → va_S (FA bs) s.heap H locs → lv_has ls 4 [(0, .ref (bs + 44)), (2, .int x2)] → k69_ x2 I J = some r → W p l e (rmm 2 45) s m args below meth c H locs 0 0 (QI below args s bs D y r) (F0 m 69 ls [])) (hk90_ : ∀ (x2 : Int32) (x3 : Int32) (I : MI) (J : MJ) (H : Heap) (locs : List Loc) (ls : Array Slot), va_P D vwCl (wl bs y I J) H → va_S (FA bs) s.heap H locs → lv_has ls 4 [(0, .ref (bs + 44)), (2, .int x2), (3, .int x3)] → k90_ x2 x3 I J = some r → W p l e (rmm 2 45) s m args below meth c H locs 0 0 (QI below args s bs D y r) (F0 m 90 ls [])) (x2 : Int32) (x3 : Int32) (I : MI) (J : MJ) (H : Heap) (locs : List Loc) (ls : Array Slot) (hP : va_P D vwCl (wl bs y I J) H) (hS : va_S (FA bs) s.heap H locs) (hl : lv_has ls 4 [(0, .ref (bs + 44)), (2, .int x2), (3, .int x3)]) (h : fX10_set_90 n k69_ k90_ x2 x3 I J = some r) : W p l e (rmm 2 45) s m args below meth c H locs 0 0 (QI below args s bs D y r) (F0 m 90 ls []) := by
  obtain ⟨hx, hb, hml, hown, hts, hK, hN, hL, hr, hlocks, hcb⟩ := id Gc
  unfold fX10_set_90 at h
  refine lv_aload_n hx hb dX10_set_90 rfl (lv_at hl 0 rfl) ?_
  refine lv_iload_n hx hb dX10_set_91 rfl (lv_at hl 2 rfl) ?_
  refine lv_iload_n hx hb dX10_set_92 rfl (lv_at hl 1 rfl) ?_
  obtain ⟨r93, er93, h⟩ := bd_s1 h
  refine c_VI (k := 44) (ci := 10) (As := [.int x3, .int x2]) (rest := []) hx hb hml hown hts hK hN hL hP hS (cX10_roomLeft_ l bs D y hcb n x3 x2 I J r93 er93) ok_X10_roomLeft ov_X10_roomLeft ml_138 ⟨Nat.le_of_ble_eq_true rfl, Nat.le_of_ble_eq_true rfl⟩ rfl hcb kd_44 hl.1 rfl rfl (Nat.le_of_ble_eq_true rfl) ⟨Nat.zero_le _, Nat.zero_le _⟩ dX10_set_93 (fun H locs hP hS => ?_)
  refine lv_if_ne (tgt := 105) hx hb dX10_set_96 (by decide) (fun c96 => ?_) (fun c96 => ?_)
  · replace h := if_f c96 h
    refine lv_aload_n hx hb dX10_set_105 rfl (lv_at hl 0 rfl) ?_
    refine g_R (C := RX10) (T := TX10) (N := 49) (ci := 10) 44 29 61 hx hb hts hown hK hP in_X10 rfl hcb okF_44_29 rfc_44_29 fl_173 dX10_set_106 ?_
    refine lv_iload_n hx hb dX10_set_109 rfl (lv_at hl 1 rfl) ?_
    refine lv_iload_n hx hb dX10_set_110 rfl (lv_at hl 2 rfl) ?_
    obtain ⟨hi111, h⟩ := if_s1 h
    obtain ⟨I111, eI111, h⟩ := lt_s1 h
    refine t_I 61 eI111 hx hb hK hP hS hcb aln_61 hi111 dX10_set_111 (fun H locs hP hS => ?_)
    exact wX10_set_112 bs D y n k69_ r Gc hk69_ x2 I111 r93.2.2 _ _ _ hP hS (lv_sub hl [0, 1] rfl) h
  · replace h := if_t c96 h
    refine lv_iinc (v := (x3 + (1 : Int32))) (lv' := [(3, .int (x3 + (1 : Int32))), (0, .ref (bs + 44)), (2, .int x2)]) hx hb dX10_set_99 hl (k := 2) rfl rfl (by decide) rfl (fun ls hl => ?_)
    refine lv_goto (tgt := 90) hx hb dX10_set_102 (by decide) ?_
    exact hk90_ x2 (x3 + (1 : Int32)) r93.2.1 r93.2.2 _ _ _ hP hS (lv_sub hl [1, 2, 0] rfl) h
theorem vX10_set_90 {p : Program} {l : Launch} {e : Env} {s : State} {m : MethodId} {args : Array Value} {below : List Frame} {meth : Method} {c : Code} (bs : Nat) (D : va_G) (y : Y3) (n : Nat) (k69_ : Int32 → MI → MJ → Option (Int32 × M2)) (r : Int32 × M2) (Gc : Gx p s m args meth c cX10_set 4 RX10 bs D y (some .int) 76) (hk69_ : ∀ (x2 : Int32) (I : MI) (J : MJ) (H : Heap) (locs : List Loc) (ls : Array Slot), va_P D vwCl (wl bs y I J) H → va_S (FA bs) s.heap H locs → lv_has ls 4 [(0, .ref (bs + 44)), (2, .int x2)] → k69_ x2 I J = some r → W p l e (rmm 2 45) s m args below meth c H locs 0 0 (QI below args s bs D y r) (F0 m 69 ls [])) : ∀ (q : Nat) (x2 : Int32) (x3 : Int32) (I : MI) (J : MJ) (H : Heap) (locs : List Loc) (ls : Array Slot), va_P D vwCl (wl bs y I J) H → va_S (FA bs) s.heap H locs → lv_has ls 4 [(0, .ref (bs + 44)), (2, .int x2), (3, .int x3)] → lX10_set_90 n k69_ q x2 x3 I J = some r → W p l e (rmm 2 45) s m args below meth c H locs 0 0 (QI below args s bs D y r) (F0 m 90 ls []) := by
  intro q
  induction q with
  | zero =>
    intro x2 x3 I J H locs ls hP hS hl h
    have h : (none : Option (Int32 × M2)) = some r := h
    cases h
  | succ q ih =>
    intro x2 x3 I J H locs ls hP hS hl h
    have h : fX10_set_90 n k69_ (lX10_set_90 n k69_ q) x2 x3 I J = some r := h
    exact wX10_set_90 bs D y n k69_ (lX10_set_90 n k69_ q) r Gc hk69_ ih x2 x3 I J H locs ls hP hS hl h
set_option maxHeartbeats 4000000 in
set_option maxRecDepth 100000 in
theorem wX10_set_69 {p : Program} {l : Launch} {e : Env} {s : State} {m : MethodId} {args : Array Value} {below : List Frame} {meth : Method} {c : Code} (bs : Nat) (D : va_G) (y : Y3) (n : Nat) (k69_ : Int32 → MI → MJ → Option (Int32 × M2)) (r : Int32 × M2) (Gc : Gx p s m args meth c cX10_set 4 RX10 bs D y (some .int) 76) (hk69_ : ∀ (x2 : Int32) (I : MI) (J : MJ) (H : Heap) (locs : List Loc) (ls : Array Slot), va_P D vwCl (wl bs y I J) H → va_S (FA bs) s.heap H locs → lv_has ls 4 [(0, .ref (bs + 44)), (2, .int x2)] → k69_ x2 I J = some r → W p l e (rmm 2 45) s m args below meth c H locs 0 0 (QI below args s bs D y r) (F0 m 69 ls [])) (x2 : Int32) (I : MI) (J : MJ) (H : Heap) (locs : List Loc) (ls : Array Slot) (hP : va_P D vwCl (wl bs y I J) H) (hS : va_S (FA bs) s.heap H locs) (hl : lv_has ls 4 [(0, .ref (bs + 44)), (2, .int x2)]) (h : fX10_set_69 n k69_ x2 I J = some r) : W p l e (rmm 2 45) s m args below meth c H locs 0 0 (QI below args s bs D y r) (F0 m 69 ls []) := by
  obtain ⟨hx, hb, hml, hown, hts, hK, hN, hL, hr, hlocks, hcb⟩ := id Gc
  unfold fX10_set_69 at h
  refine lv_iload_n hx hb dX10_set_69 rfl (lv_at hl 1 rfl) ?_
  refine lv_aload_n hx hb dX10_set_70 rfl (lv_at hl 0 rfl) ?_
  refine g_I (C := RX10) (T := TX10) (N := 49) (ci := 10) 44 6 hx hb hts hown hK hP in_X10 rfl hcb okF_44_6 fl_141 dX10_set_71 ?_
  refine lv_icmp_ge (tgt := 118) hx hb dX10_set_74 (by decide) (fun c74 => ?_) (fun c74 => ?_)
  · replace h := if_t c74 h
    refine lv_aload_n hx hb dX10_set_118 rfl (lv_at hl 0 rfl) ?_
    refine lv_iconst (v := (1 : Int32)) hx hb dX10_set_119 (by decide) ?_
    obtain ⟨I120, eI120, h⟩ := lt_s1 h
    refine s_I (C := RX10) (T := TX10) (N := 49) (ci := 10) (ty := .boolean) 44 12 eI120 tyX10 hx hb hts hown hK hP hS in_X10 tyX10_ok nmX10 rfl hcb okF_44_12 fl_149 rfl (by decide +kernel) (by decide) rfl dX10_set_120 (fun H locs hP hS => ?_)
    refine lv_aload_n hx hb dX10_set_123 rfl (lv_at hl 0 rfl) ?_
    obtain ⟨r124, er124, h⟩ := bd_s1 h
    refine c_VV (k := 44) (ci := 10) (As := []) (rest := []) hx hb hml hown hts hK hN hL hP hS (cX10_moved_ l bs D y hcb n  I120 J r124 er124) ok_X10_moved ov_X10_moved ml_133 ⟨Nat.le_of_ble_eq_true rfl, Nat.le_of_ble_eq_true rfl⟩ rfl hcb kd_44 hl.1 rfl rfl (Nat.le_of_ble_eq_true rfl) ⟨Nat.zero_le _, Nat.zero_le _⟩ dX10_set_124 (fun H locs hP hS => ?_)
    refine lv_aload_n hx hb dX10_set_127 rfl (lv_at hl 0 rfl) ?_
    obtain ⟨r128, er128, h⟩ := bd_s1 h
    refine c_VI (k := 44) (ci := 10) (As := []) (rest := []) hx hb hml hown hts hK hN hL hP hS (cX10_things_ l bs D y hcb n  r124.1 r124.2 r128 er128) ok_X10_things ov_X10_things ml_139 ⟨Nat.le_of_ble_eq_true rfl, Nat.le_of_ble_eq_true rfl⟩ rfl hcb kd_44 hl.1 rfl rfl (Nat.le_of_ble_eq_true rfl) ⟨Nat.zero_le _, Nat.zero_le _⟩ dX10_set_128 (fun H locs hP hS => ?_)
    exact r_I hx hb hr hlocks hP hK hN hL hS h dX10_set_131
  · replace h := if_f c74 h
    refine lv_aload_n hx hb dX10_set_77 rfl (lv_at hl 0 rfl) ?_
    refine lv_iload_n hx hb dX10_set_78 rfl (lv_at hl 1 rfl) ?_
    obtain ⟨r79, er79, h⟩ := bd_s1 h
    refine c_VI (k := 44) (ci := 10) (As := [.int x2]) (rest := []) hx hb hml hown hts hK hN hL hP hS (cX10_isThing_ l bs D y hcb n x2 I J r79 er79) ok_X10_isThing ov_X10_isThing ml_137 ⟨Nat.le_of_ble_eq_true rfl, Nat.le_of_ble_eq_true rfl⟩ rfl hcb kd_44 hl.1 rfl rfl (Nat.le_of_ble_eq_true rfl) ⟨Nat.zero_le _, Nat.zero_le _⟩ dX10_set_79 (fun H locs hP hS => ?_)
    refine lv_if_ne (tgt := 88) hx hb dX10_set_82 (by decide) (fun c82 => ?_) (fun c82 => ?_)
    · replace h := if_f c82 h
      refine lv_iconst (v := (0 : Int32)) hx hb dX10_set_88 (by decide) ?_
      refine lv_istore_n (lv' := [(3, .int (0 : Int32)), (0, .ref (bs + 44)), (2, .int x2)]) hx hb dX10_set_89 rfl hl (by decide) rfl (fun ls hl => ?_)
      exact vX10_set_90 bs D y n k69_ r Gc hk69_ n x2 (0 : Int32) r79.2.1 r79.2.2 _ _ _ hP hS (lv_sub hl [1, 2, 0] rfl) h
    · replace h := if_t c82 h
      refine lv_goto (tgt := 112) hx hb dX10_set_85 (by decide) ?_
      exact wX10_set_112 bs D y n k69_ r Gc hk69_ x2 r79.2.1 r79.2.2 _ _ _ hP hS (lv_sub hl [0, 1] rfl) h
theorem vX10_set_69 {p : Program} {l : Launch} {e : Env} {s : State} {m : MethodId} {args : Array Value} {below : List Frame} {meth : Method} {c : Code} (bs : Nat) (D : va_G) (y : Y3) (n : Nat) (r : Int32 × M2) (Gc : Gx p s m args meth c cX10_set 4 RX10 bs D y (some .int) 76)  : ∀ (q : Nat) (x2 : Int32) (I : MI) (J : MJ) (H : Heap) (locs : List Loc) (ls : Array Slot), va_P D vwCl (wl bs y I J) H → va_S (FA bs) s.heap H locs → lv_has ls 4 [(0, .ref (bs + 44)), (2, .int x2)] → lX10_set_69 n  q x2 I J = some r → W p l e (rmm 2 45) s m args below meth c H locs 0 0 (QI below args s bs D y r) (F0 m 69 ls []) := by
  intro q
  induction q with
  | zero =>
    intro x2 I J H locs ls hP hS hl h
    have h : (none : Option (Int32 × M2)) = some r := h
    cases h
  | succ q ih =>
    intro x2 I J H locs ls hP hS hl h
    have h : fX10_set_69 n  (lX10_set_69 n  q) x2 I J = some r := h
    exact wX10_set_69 bs D y n  (lX10_set_69 n  q) r Gc  ih x2 I J H locs ls hP hS hl h
set_option maxHeartbeats 4000000 in
set_option maxRecDepth 100000 in
theorem wX10_set_44 {p : Program} {l : Launch} {e : Env} {s : State} {m : MethodId} {args : Array Value} {below : List Frame} {meth : Method} {c : Code} (bs : Nat) (D : va_G) (y : Y3) (n : Nat) (k18_ : Int32 → Int32 → MI → MJ → Option (Int32 × M2)) (r : Int32 × M2) (Gc : Gx p s m args meth c cX10_set 4 RX10 bs D y (some .int) 76) (hk18_ : ∀ (x1 : Int32) (x2 : Int32) (I : MI) (J : MJ) (H : Heap) (locs : List Loc) (ls : Array Slot), va_P D vwCl (wl bs y I J) H → va_S (FA bs) s.heap H locs → lv_has ls 4 [(0, .ref (bs + 44)), (1, .int x1), (2, .int x2)] → k18_ x1 x2 I J = some r → W p l e (rmm 2 45) s m args below meth c H locs 0 0 (QI below args s bs D y r) (F0 m 18 ls [])) (x2 : Int32) (s0 : Int32) (s1 : Int32) (I : MI) (J : MJ) (H : Heap) (locs : List Loc) (ls : Array Slot) (hP : va_P D vwCl (wl bs y I J) H) (hS : va_S (FA bs) s.heap H locs) (hl : lv_has ls 4 [(0, .ref (bs + 44)), (2, .int x2)]) (h : fX10_set_44 n k18_ x2 s0 s1 I J = some r) : W p l e (rmm 2 45) s m args below meth c H locs 0 0 (QI below args s bs D y r) (F0 m 44 ls [.int s1, .int s0]) := by
  obtain ⟨hx, hb, hml, hown, hts, hK, hN, hL, hr, hlocks, hcb⟩ := id Gc
  unfold fX10_set_44 at h
  refine lv_iadd hx hb dX10_set_44 ?_
  obtain ⟨v45, ev45, h⟩ := lt_s1 h
  refine top_i ev45 ?_
  refine lv_istore_n (lv' := [(1, .int v45), (0, .ref (bs + 44)), (2, .int x2)]) hx hb dX10_set_45 rfl hl (by decide) rfl (fun ls hl => ?_)
  refine lv_iinc (v := (x2 + (1 : Int32))) (lv' := [(2, .int (x2 + (1 : Int32))), (1, .int v45), (0, .ref (bs + 44))]) hx hb dX10_set_46 hl (k := 2) rfl rfl (by decide) rfl (fun ls hl => ?_)
  refine lv_goto (tgt := 18) hx hb dX10_set_49 (by decide) ?_
  exact hk18_ v45 (x2 + (1 : Int32)) I J _ _ _ hP hS (lv_sub hl [2, 1, 0] rfl) h
set_option maxHeartbeats 4000000 in
set_option maxRecDepth 100000 in
theorem wX10_set_18 {p : Program} {l : Launch} {e : Env} {s : State} {m : MethodId} {args : Array Value} {below : List Frame} {meth : Method} {c : Code} (bs : Nat) (D : va_G) (y : Y3) (n : Nat) (k18_ : Int32 → Int32 → MI → MJ → Option (Int32 × M2)) (r : Int32 × M2) (Gc : Gx p s m args meth c cX10_set 4 RX10 bs D y (some .int) 76) (hk18_ : ∀ (x1 : Int32) (x2 : Int32) (I : MI) (J : MJ) (H : Heap) (locs : List Loc) (ls : Array Slot), va_P D vwCl (wl bs y I J) H → va_S (FA bs) s.heap H locs → lv_has ls 4 [(0, .ref (bs + 44)), (1, .int x1), (2, .int x2)] → k18_ x1 x2 I J = some r → W p l e (rmm 2 45) s m args below meth c H locs 0 0 (QI below args s bs D y r) (F0 m 18 ls [])) (x1 : Int32) (x2 : Int32) (I : MI) (J : MJ) (H : Heap) (locs : List Loc) (ls : Array Slot) (hP : va_P D vwCl (wl bs y I J) H) (hS : va_S (FA bs) s.heap H locs) (hl : lv_has ls 4 [(0, .ref (bs + 44)), (1, .int x1), (2, .int x2)]) (h : fX10_set_18 n k18_ x1 x2 I J = some r) : W p l e (rmm 2 45) s m args below meth c H locs 0 0 (QI below args s bs D y r) (F0 m 18 ls []) := by
  obtain ⟨hx, hb, hml, hown, hts, hK, hN, hL, hr, hlocks, hcb⟩ := id Gc
  unfold fX10_set_18 at h
  refine lv_iload_n hx hb dX10_set_18 rfl (lv_at hl 2 rfl) ?_
  refine lv_aload_n hx hb dX10_set_19 rfl (lv_at hl 0 rfl) ?_
  obtain ⟨r20, er20, h⟩ := bd_s1 h
  refine c_VI (k := 44) (ci := 10) (As := []) (rest := [.int x2]) hx hb hml hown hts hK hN hL hP hS (cX10_tiles_ l bs D y hcb n  I J r20 er20) ok_X10_tiles ov_X10_tiles ml_132 ⟨Nat.le_of_ble_eq_true rfl, Nat.le_of_ble_eq_true rfl⟩ rfl hcb kd_44 hl.1 rfl rfl (Nat.le_of_ble_eq_true rfl) ⟨Nat.zero_le _, Nat.zero_le _⟩ dX10_set_20 (fun H locs hP hS => ?_)
  refine lv_icmp_ge (tgt := 52) hx hb dX10_set_23 (by decide) (fun c23 => ?_) (fun c23 => ?_)
  · replace h := if_t c23 h
    refine lv_iload_n hx hb dX10_set_52 rfl (lv_at hl 1 rfl) ?_
    refine lv_aload_n hx hb dX10_set_53 rfl (lv_at hl 0 rfl) ?_
    obtain ⟨r54, er54, h⟩ := bd_s1 h
    refine c_VI (k := 44) (ci := 10) (As := []) (rest := [.int x1]) hx hb hml hown hts hK hN hL hP hS (cX10_things_ l bs D y hcb n  r20.2.1 r20.2.2 r54 er54) ok_X10_things ov_X10_things ml_139 ⟨Nat.le_of_ble_eq_true rfl, Nat.le_of_ble_eq_true rfl⟩ rfl hcb kd_44 hl.1 rfl rfl (Nat.le_of_ble_eq_true rfl) ⟨Nat.zero_le _, Nat.zero_le _⟩ dX10_set_54 (fun H locs hP hS => ?_)
    refine lv_icmp_ge (tgt := 67) hx hb dX10_set_57 (by decide) (fun c57 => ?_) (fun c57 => ?_)
    · replace h := if_t c57 h
      refine lv_iconst (v := (0 : Int32)) hx hb dX10_set_67 (by decide) ?_
      refine lv_istore_n (lv' := [(2, .int (0 : Int32)), (0, .ref (bs + 44)), (1, .int x1)]) hx hb dX10_set_68 rfl hl (by decide) rfl (fun ls hl => ?_)
      exact vX10_set_69 bs D y n  r Gc  n (0 : Int32) r54.2.1 r54.2.2 _ _ _ hP hS (lv_sub hl [1, 0] rfl) h
    · replace h := if_f c57 h
      refine lv_aload_n hx hb dX10_set_60 rfl (lv_at hl 0 rfl) ?_
      refine lv_bipush (v := (-8 : Int32)) hx hb dX10_set_61 (by decide) ?_
      obtain ⟨r63, er63, h⟩ := bd_s1 h
      refine c_VI (k := 44) (ci := 10) (As := [.int (-8 : Int32)]) (rest := []) hx hb hml hown hts hK hN hL hP hS (cX10_no_ l bs D y hcb n (-8 : Int32) r54.2.1 r54.2.2 r63 er63) ok_X10_no ov_X10_no ml_118 ⟨Nat.le_of_ble_eq_true rfl, Nat.le_of_ble_eq_true rfl⟩ rfl hcb kd_44 hl.1 rfl rfl (Nat.le_of_ble_eq_true rfl) ⟨Nat.zero_le _, Nat.zero_le _⟩ dX10_set_63 (fun H locs hP hS => ?_)
      exact r_I hx hb hr hlocks hP hK hN hL hS h dX10_set_66
  · replace h := if_f c23 h
    refine lv_iload_n hx hb dX10_set_26 rfl (lv_at hl 1 rfl) ?_
    refine lv_aload_n hx hb dX10_set_27 rfl (lv_at hl 0 rfl) ?_
    refine g_R (C := RX10) (T := TX10) (N := 49) (ci := 10) 44 28 60 hx hb hts hown hK hP in_X10 rfl hcb okF_44_28 rfc_44_28 fl_170 dX10_set_28 ?_
    refine lv_iload_n hx hb dX10_set_31 rfl (lv_at hl 2 rfl) ?_
    obtain ⟨hi32, h⟩ := if_s1 h
    refine a_Z 60 hx hb hK hP hcb alZ_60 hi32 dX10_set_32 ?_
    refine lv_if_eq (tgt := 40) hx hb dX10_set_33 (by decide) (fun c33 => ?_) (fun c33 => ?_)
    · replace h := if_t c33 h
      refine lv_aload_n hx hb dX10_set_40 rfl (lv_at hl 0 rfl) ?_
      refine g_I (C := RX10) (T := TX10) (N := 49) (ci := 10) 44 26 hx hb hts hown hK hP in_X10 rfl hcb okF_44_26 fl_171 dX10_set_41 ?_
      exact wX10_set_44 bs D y n k18_ r Gc hk18_ x2 x1 (r20.2.1 44 26) r20.2.1 r20.2.2 _ _ _ hP hS (lv_sub hl [0, 2] rfl) h
    · replace h := if_f c33 h
      refine lv_iconst (v := (0 : Int32)) hx hb dX10_set_36 (by decide) ?_
      refine lv_goto (tgt := 44) hx hb dX10_set_37 (by decide) ?_
      exact wX10_set_44 bs D y n k18_ r Gc hk18_ x2 x1 (0 : Int32) r20.2.1 r20.2.2 _ _ _ hP hS (lv_sub hl [0, 2] rfl) h
theorem vX10_set_18 {p : Program} {l : Launch} {e : Env} {s : State} {m : MethodId} {args : Array Value} {below : List Frame} {meth : Method} {c : Code} (bs : Nat) (D : va_G) (y : Y3) (n : Nat) (r : Int32 × M2) (Gc : Gx p s m args meth c cX10_set 4 RX10 bs D y (some .int) 76)  : ∀ (q : Nat) (x1 : Int32) (x2 : Int32) (I : MI) (J : MJ) (H : Heap) (locs : List Loc) (ls : Array Slot), va_P D vwCl (wl bs y I J) H → va_S (FA bs) s.heap H locs → lv_has ls 4 [(0, .ref (bs + 44)), (1, .int x1), (2, .int x2)] → lX10_set_18 n  q x1 x2 I J = some r → W p l e (rmm 2 45) s m args below meth c H locs 0 0 (QI below args s bs D y r) (F0 m 18 ls []) := by
  intro q
  induction q with
  | zero =>
    intro x1 x2 I J H locs ls hP hS hl h
    have h : (none : Option (Int32 × M2)) = some r := h
    cases h
  | succ q ih =>
    intro x1 x2 I J H locs ls hP hS hl h
    have h : fX10_set_18 n  (lX10_set_18 n  q) x1 x2 I J = some r := h
    exact wX10_set_18 bs D y n  (lX10_set_18 n  q) r Gc  ih x1 x2 I J H locs ls hP hS hl h
set_option maxHeartbeats 4000000 in
set_option maxRecDepth 100000 in
theorem cX10_set_ (l : Launch) (bs : Nat) (D : va_G) (y : Y3) (hcb : 76 ≤ y.2.2.2) (n : Nat) (I : MI) (J : MJ) (r : Int32 × M2) (h : fX10_set n  I J = some r) : Met l yX10_set (.code yX10_set cX10_set 4 (some .int) :: gtb) (rmm 2 45) (va_Pc [.ref (bs + 44)] (HB bs D y I J)) (QcI bs D y r) 0 0 (FA bs) := by
  refine Met.ofW (cc := cX10_set) (maxL := 4) (ret := (some .int)) (by decide) rfl ?_
  intro p e s m args below meth c s₁ B hml hv
  obtain ⟨rfl, hP, hK, hN, hL⟩ := hv
  have hx := B.exec
  have hb := B.bytes
  have hr := B.returns
  have hts0 := atoms_spec (ws := .code yX10_set cX10_set 4 (some .int) :: gtb) B.pre
  have hts : ∀ w ∈ gtb, w.before [.ref (bs + 44)].toArray s = true := fun w hw => hts0 w (List.mem_cons_of_mem _ hw)
  have hown : s.vm.findClass RX10 = some m.cls := findClass_of_methodNamed B.named
  have hlocks := B.notSynchronized
  have hS : va_S (FA bs) s.heap s.heap [] := va_S.rf
  have Gc : Gx p s m [.ref (bs + 44)].toArray meth c cX10_set 4 RX10 bs D y (some .int) 76 := ⟨hx, hb, hml, hown, hts, hK, hN, hL, hr, hlocks, hcb⟩
  have hl := lv_entry [.ref (bs + 44)] (n := 4) (Nat.le_of_ble_eq_true rfl)
  rw [lg_entry_eq]
  generalize (lg_sl [.ref (bs + 44)] ++ List.replicate (4 - (lg_sl [.ref (bs + 44)]).length) Slot.unset).toArray = ls at hl ⊢
  have hl : lv_has ls 4 [(0, .ref (bs + 44))] := hl
  change W p l e (rmm 2 45) s m [.ref (bs + 44)].toArray below meth c s.heap [] 0 0 (QI below [.ref (bs + 44)].toArray s bs D y r) (F0 m 0 ls [])
  unfold fX10_set at h
  refine lv_aload_n hx hb dX10_set_0 rfl (lv_at hl 0 rfl) ?_
  refine g_I (C := RX10) (T := TX10) (N := 49) (ci := 10) 44 11 hx hb hts hown hK hP in_X10 rfl hcb okF_44_11 fl_148 dX10_set_1 ?_
  refine lv_if_ne (tgt := 14) hx hb dX10_set_4 (by decide) (fun c4 => ?_) (fun c4 => ?_)
  · replace h := if_f c4 h
    refine lv_iconst (v := (0 : Int32)) hx hb dX10_set_14 (by decide) ?_
    refine lv_istore_n (lv' := [(1, .int (0 : Int32)), (0, .ref (bs + 44))]) hx hb dX10_set_15 rfl hl (by decide) rfl (fun ls hl => ?_)
    refine lv_iconst (v := (0 : Int32)) hx hb dX10_set_16 (by decide) ?_
    refine lv_istore_n (lv' := [(2, .int (0 : Int32)), (1, .int (0 : Int32)), (0, .ref (bs + 44))]) hx hb dX10_set_17 rfl hl (by decide) rfl (fun ls hl => ?_)
    exact vX10_set_18 bs D y n  r Gc  n (0 : Int32) (0 : Int32) I J _ _ _ hP hS (lv_sub hl [2, 1, 0] rfl) h
  · replace h := if_t c4 h
    refine lv_aload_n hx hb dX10_set_7 rfl (lv_at hl 0 rfl) ?_
    refine lv_bipush (v := (-2 : Int32)) hx hb dX10_set_8 (by decide) ?_
    obtain ⟨r10, er10, h⟩ := bd_s1 h
    refine c_VI (k := 44) (ci := 10) (As := [.int (-2 : Int32)]) (rest := []) hx hb hml hown hts hK hN hL hP hS (cX10_no_ l bs D y hcb n (-2 : Int32) I J r10 er10) ok_X10_no ov_X10_no ml_118 ⟨Nat.le_of_ble_eq_true rfl, Nat.le_of_ble_eq_true rfl⟩ rfl hcb kd_44 hl.1 rfl rfl (Nat.le_of_ble_eq_true rfl) ⟨Nat.zero_le _, Nat.zero_le _⟩ dX10_set_10 (fun H locs hP hS => ?_)
    exact r_I hx hb hr hlocks hP hK hN hL hS h dX10_set_13
theorem dX10_whyNo_0 : decode cX10_whyNo 0 = .ok (.aload_n 0, 1) := by decide +kernel
theorem dX10_whyNo_1 : decode cX10_whyNo 1 = .ok (.iload_n 1, 1) := by decide +kernel
theorem dX10_whyNo_2 : decode cX10_whyNo 2 = .ok (.invokevirtual 172, 3) := by decide +kernel
theorem dX10_whyNo_5 : decode cX10_whyNo 5 = .ok (.ifCond .ne 8, 3) := by decide +kernel
theorem dX10_whyNo_8 : decode cX10_whyNo 8 = .ok (.bipush (-3), 2) := by decide +kernel
theorem dX10_whyNo_10 : decode cX10_whyNo 10 = .ok (.goto 24, 3) := by decide +kernel
theorem dX10_whyNo_13 : decode cX10_whyNo 13 = .ok (.aload_n 0, 1) := by decide +kernel
theorem dX10_whyNo_14 : decode cX10_whyNo 14 = .ok (.getfield 130, 3) := by decide +kernel
theorem dX10_whyNo_17 : decode cX10_whyNo 17 = .ok (.ifCond .eq 11, 3) := by decide +kernel
theorem dX10_whyNo_20 : decode cX10_whyNo 20 = .ok (.aload_n 0, 1) := by decide +kernel
theorem dX10_whyNo_21 : decode cX10_whyNo 21 = .ok (.iload_n 1, 1) := by decide +kernel
theorem dX10_whyNo_22 : decode cX10_whyNo 22 = .ok (.invokevirtual 236, 3) := by decide +kernel
theorem dX10_whyNo_25 : decode cX10_whyNo 25 = .ok (.ifCond .ne 8, 3) := by decide +kernel
theorem dX10_whyNo_28 : decode cX10_whyNo 28 = .ok (.bipush (-2), 2) := by decide +kernel
theorem dX10_whyNo_30 : decode cX10_whyNo 30 = .ok (.goto 4, 3) := by decide +kernel
theorem dX10_whyNo_33 : decode cX10_whyNo 33 = .ok (.iconst 0, 1) := by decide +kernel
theorem dX10_whyNo_34 : decode cX10_whyNo 34 = .ok (.ireturn, 1) := by decide +kernel
set_option maxHeartbeats 4000000 in
set_option maxRecDepth 100000 in
theorem wX10_whyNo_28 {p : Program} {l : Launch} {e : Env} {s : State} {m : MethodId} {args : Array Value} {below : List Frame} {meth : Method} {c : Code} (bs : Nat) (D : va_G) (y : Y3) (n : Nat) (r : Int32 × M2) (Gc : Gx p s m args meth c cX10_whyNo 2 RX10 bs D y (some .int) 76)  (I : MI) (J : MJ) (H : Heap) (locs : List Loc) (ls : Array Slot) (hP : va_P D vwCl (wl bs y I J) H) (hS : va_S (FA bs) s.heap H locs) (hl : lv_has ls 2 []) (h : fX10_whyNo_28 n   I J = some r) : W p l e (rmm 1 21) s m args below meth c H locs 0 0 (QI below args s bs D y r) (F0 m 28 ls []) := by
  obtain ⟨hx, hb, hml, hown, hts, hK, hN, hL, hr, hlocks, hcb⟩ := id Gc
  unfold fX10_whyNo_28 at h
  refine lv_bipush (v := (-2 : Int32)) hx hb dX10_whyNo_28 (by decide) ?_
  refine lv_goto (tgt := 34) hx hb dX10_whyNo_30 (by decide) ?_
  exact r_I hx hb hr hlocks hP hK hN hL hS h dX10_whyNo_34
set_option maxHeartbeats 4000000 in
set_option maxRecDepth 100000 in
theorem cX10_whyNo_ (l : Launch) (bs : Nat) (D : va_G) (y : Y3) (hcb : 76 ≤ y.2.2.2) (n : Nat) (x1 : Int32) (I : MI) (J : MJ) (r : Int32 × M2) (h : fX10_whyNo n x1 I J = some r) : Met l yX10_whyNo (.code yX10_whyNo cX10_whyNo 2 (some .int) :: gtb) (rmm 1 21) (va_Pc [.ref (bs + 44), .int x1] (HB bs D y I J)) (QcI bs D y r) 0 0 (FA bs) := by
  refine Met.ofW (cc := cX10_whyNo) (maxL := 2) (ret := (some .int)) (by decide) rfl ?_
  intro p e s m args below meth c s₁ B hml hv
  obtain ⟨rfl, hP, hK, hN, hL⟩ := hv
  have hx := B.exec
  have hb := B.bytes
  have hr := B.returns
  have hts0 := atoms_spec (ws := .code yX10_whyNo cX10_whyNo 2 (some .int) :: gtb) B.pre
  have hts : ∀ w ∈ gtb, w.before [.ref (bs + 44), .int x1].toArray s = true := fun w hw => hts0 w (List.mem_cons_of_mem _ hw)
  have hown : s.vm.findClass RX10 = some m.cls := findClass_of_methodNamed B.named
  have hlocks := B.notSynchronized
  have hS : va_S (FA bs) s.heap s.heap [] := va_S.rf
  have Gc : Gx p s m [.ref (bs + 44), .int x1].toArray meth c cX10_whyNo 2 RX10 bs D y (some .int) 76 := ⟨hx, hb, hml, hown, hts, hK, hN, hL, hr, hlocks, hcb⟩
  have hl := lv_entry [.ref (bs + 44), .int x1] (n := 2) (Nat.le_of_ble_eq_true rfl)
  rw [lg_entry_eq]
  generalize (lg_sl [.ref (bs + 44), .int x1] ++ List.replicate (2 - (lg_sl [.ref (bs + 44), .int x1]).length) Slot.unset).toArray = ls at hl ⊢
  have hl : lv_has ls 2 [(0, .ref (bs + 44)), (1, .int x1)] := hl
  change W p l e (rmm 1 21) s m [.ref (bs + 44), .int x1].toArray below meth c s.heap [] 0 0 (QI below [.ref (bs + 44), .int x1].toArray s bs D y r) (F0 m 0 ls [])
  unfold fX10_whyNo at h
  refine lv_aload_n hx hb dX10_whyNo_0 rfl (lv_at hl 0 rfl) ?_
  refine lv_iload_n hx hb dX10_whyNo_1 rfl (lv_at hl 1 rfl) ?_
  obtain ⟨r2, er2, h⟩ := bd_s1 h
  refine c_VI (k := 44) (ci := 10) (As := [.int x1]) (rest := []) hx hb hml hown hts hK hN hL hP hS (cX10_isCell_ l bs D y hcb n x1 I J r2 er2) ok_X10_isCell ov_X10_isCell ml_122 ⟨Nat.le_of_ble_eq_true rfl, Nat.le_of_ble_eq_true rfl⟩ rfl hcb kd_44 hl.1 rfl rfl (Nat.le_of_ble_eq_true rfl) ⟨Nat.zero_le _, Nat.zero_le _⟩ dX10_whyNo_2 (fun H locs hP hS => ?_)
  refine lv_if_ne (tgt := 13) hx hb dX10_whyNo_5 (by decide) (fun c5 => ?_) (fun c5 => ?_)
  · replace h := if_f c5 h
    refine lv_aload_n hx hb dX10_whyNo_13 rfl (lv_at hl 0 rfl) ?_
    refine g_I (C := RX10) (T := TX10) (N := 49) (ci := 10) 44 12 hx hb hts hown hK hP in_X10 rfl hcb okF_44_12 fl_149 dX10_whyNo_14 ?_
    refine lv_if_eq (tgt := 28) hx hb dX10_whyNo_17 (by decide) (fun c17 => ?_) (fun c17 => ?_)
    · replace h := if_t c17 h
      exact wX10_whyNo_28 bs D y n  r Gc   r2.2.1 r2.2.2 _ _ _ hP hS (lv_sub hl [] rfl) h
    · replace h := if_f c17 h
      refine lv_aload_n hx hb dX10_whyNo_20 rfl (lv_at hl 0 rfl) ?_
      refine lv_iload_n hx hb dX10_whyNo_21 rfl (lv_at hl 1 rfl) ?_
      obtain ⟨r22, er22, h⟩ := bd_s1 h
      refine c_VI (k := 44) (ci := 10) (As := [.int x1]) (rest := []) hx hb hml hown hts hK hN hL hP hS (cX10_isThing_ l bs D y hcb n x1 r2.2.1 r2.2.2 r22 er22) ok_X10_isThing ov_X10_isThing ml_137 ⟨Nat.le_of_ble_eq_true rfl, Nat.le_of_ble_eq_true rfl⟩ rfl hcb kd_44 hl.1 rfl rfl (Nat.le_of_ble_eq_true rfl) ⟨Nat.zero_le _, Nat.zero_le _⟩ dX10_whyNo_22 (fun H locs hP hS => ?_)
      refine lv_if_ne (tgt := 33) hx hb dX10_whyNo_25 (by decide) (fun c25 => ?_) (fun c25 => ?_)
      · replace h := if_f c25 h
        refine lv_iconst (v := (0 : Int32)) hx hb dX10_whyNo_33 (by decide) ?_
        exact r_I hx hb hr hlocks hP hK hN hL hS h dX10_whyNo_34
      · replace h := if_t c25 h
        exact wX10_whyNo_28 bs D y n  r Gc   r22.2.1 r22.2.2 _ _ _ hP hS (lv_sub hl [] rfl) h
  · replace h := if_t c5 h
    refine lv_bipush (v := (-3 : Int32)) hx hb dX10_whyNo_8 (by decide) ?_
    refine lv_goto (tgt := 34) hx hb dX10_whyNo_10 (by decide) ?_
    exact r_I hx hb hr hlocks hP hK hN hL hS h dX10_whyNo_34
theorem dX10_tile_0 : decode cX10_tile 0 = .ok (.aload_n 0, 1) := by decide +kernel
theorem dX10_tile_1 : decode cX10_tile 1 = .ok (.iload_n 1, 1) := by decide +kernel
theorem dX10_tile_2 : decode cX10_tile 2 = .ok (.invokevirtual 245, 3) := by decide +kernel
theorem dX10_tile_5 : decode cX10_tile 5 = .ok (.istore_n 2, 1) := by decide +kernel
theorem dX10_tile_6 : decode cX10_tile 6 = .ok (.iload_n 2, 1) := by decide +kernel
theorem dX10_tile_7 : decode cX10_tile 7 = .ok (.ifCond .eq 11, 3) := by decide +kernel
theorem dX10_tile_10 : decode cX10_tile 10 = .ok (.aload_n 0, 1) := by decide +kernel
theorem dX10_tile_11 : decode cX10_tile 11 = .ok (.iload_n 2, 1) := by decide +kernel
theorem dX10_tile_12 : decode cX10_tile 12 = .ok (.invokevirtual 151, 3) := by decide +kernel
theorem dX10_tile_15 : decode cX10_tile 15 = .ok (.goto 9, 3) := by decide +kernel
theorem dX10_tile_18 : decode cX10_tile 18 = .ok (.aload_n 0, 1) := by decide +kernel
theorem dX10_tile_19 : decode cX10_tile 19 = .ok (.getfield 72, 3) := by decide +kernel
theorem dX10_tile_22 : decode cX10_tile 22 = .ok (.iload_n 1, 1) := by decide +kernel
theorem dX10_tile_23 : decode cX10_tile 23 = .ok (.iaload, 1) := by decide +kernel
theorem dX10_tile_24 : decode cX10_tile 24 = .ok (.ireturn, 1) := by decide +kernel
set_option maxHeartbeats 4000000 in
set_option maxRecDepth 100000 in
theorem cX10_tile_ (l : Launch) (bs : Nat) (D : va_G) (y : Y3) (hcb : 76 ≤ y.2.2.2) (n : Nat) (x1 : Int32) (I : MI) (J : MJ) (r : Int32 × M2) (h : fX10_tile n x1 I J = some r) : Met l yX10_tile (.code yX10_tile cX10_tile 3 (some .int) :: gtb) (rmm 2 42) (va_Pc [.ref (bs + 44), .int x1] (HB bs D y I J)) (QcI bs D y r) 0 0 (FA bs) := by
  refine Met.ofW (cc := cX10_tile) (maxL := 3) (ret := (some .int)) (by decide) rfl ?_
  intro p e s m args below meth c s₁ B hml hv
  obtain ⟨rfl, hP, hK, hN, hL⟩ := hv
  have hx := B.exec
  have hb := B.bytes
  have hr := B.returns
  have hts0 := atoms_spec (ws := .code yX10_tile cX10_tile 3 (some .int) :: gtb) B.pre
  have hts : ∀ w ∈ gtb, w.before [.ref (bs + 44), .int x1].toArray s = true := fun w hw => hts0 w (List.mem_cons_of_mem _ hw)
  have hown : s.vm.findClass RX10 = some m.cls := findClass_of_methodNamed B.named
  have hlocks := B.notSynchronized
  have hS : va_S (FA bs) s.heap s.heap [] := va_S.rf
  have Gc : Gx p s m [.ref (bs + 44), .int x1].toArray meth c cX10_tile 3 RX10 bs D y (some .int) 76 := ⟨hx, hb, hml, hown, hts, hK, hN, hL, hr, hlocks, hcb⟩
  have hl := lv_entry [.ref (bs + 44), .int x1] (n := 3) (Nat.le_of_ble_eq_true rfl)
  rw [lg_entry_eq]
  generalize (lg_sl [.ref (bs + 44), .int x1] ++ List.replicate (3 - (lg_sl [.ref (bs + 44), .int x1]).length) Slot.unset).toArray = ls at hl ⊢
  have hl : lv_has ls 3 [(0, .ref (bs + 44)), (1, .int x1)] := hl
  change W p l e (rmm 2 42) s m [.ref (bs + 44), .int x1].toArray below meth c s.heap [] 0 0 (QI below [.ref (bs + 44), .int x1].toArray s bs D y r) (F0 m 0 ls [])
  unfold fX10_tile at h
  refine lv_aload_n hx hb dX10_tile_0 rfl (lv_at hl 0 rfl) ?_
  refine lv_iload_n hx hb dX10_tile_1 rfl (lv_at hl 1 rfl) ?_
  obtain ⟨r2, er2, h⟩ := bd_s1 h
  refine c_VI (k := 44) (ci := 10) (As := [.int x1]) (rest := []) hx hb hml hown hts hK hN hL hP hS (cX10_whyNo_ l bs D y hcb n x1 I J r2 er2) ok_X10_whyNo ov_X10_whyNo ml_140 ⟨Nat.le_of_ble_eq_true rfl, Nat.le_of_ble_eq_true rfl⟩ rfl hcb kd_44 hl.1 rfl rfl (Nat.le_of_ble_eq_true rfl) ⟨Nat.zero_le _, Nat.zero_le _⟩ dX10_tile_2 (fun H locs hP hS => ?_)
  obtain ⟨v5, ev5, h⟩ := lt_s1 h
  refine top_i ev5 ?_
  refine lv_istore_n (lv' := [(2, .int v5), (0, .ref (bs + 44)), (1, .int x1)]) hx hb dX10_tile_5 rfl hl (by decide) rfl (fun ls hl => ?_)
  refine lv_iload_n hx hb dX10_tile_6 rfl (lv_at hl 0 rfl) ?_
  refine lv_if_eq (tgt := 18) hx hb dX10_tile_7 (by decide) (fun c7 => ?_) (fun c7 => ?_)
  · replace h := if_t c7 h
    refine lv_aload_n hx hb dX10_tile_18 rfl (lv_at hl 1 rfl) ?_
    refine g_R (C := RX10) (T := TX10) (N := 49) (ci := 10) 44 29 61 hx hb hts hown hK hP in_X10 rfl hcb okF_44_29 rfc_44_29 fl_173 dX10_tile_19 ?_
    refine lv_iload_n hx hb dX10_tile_22 rfl (lv_at hl 2 rfl) ?_
    obtain ⟨hi23, h⟩ := if_s1 h
    refine a_I 61 hx hb hK hP hcb aln_61 hi23 dX10_tile_23 ?_
    exact r_I hx hb hr hlocks hP hK hN hL hS h dX10_tile_24
  · replace h := if_f c7 h
    refine lv_aload_n hx hb dX10_tile_10 rfl (lv_at hl 1 rfl) ?_
    refine lv_iload_n hx hb dX10_tile_11 rfl (lv_at hl 0 rfl) ?_
    obtain ⟨r12, er12, h⟩ := bd_s1 h
    refine c_VI (k := 44) (ci := 10) (As := [.int v5]) (rest := []) hx hb hml hown hts hK hN hL hP hS (cX10_no_ l bs D y hcb n v5 r2.2.1 r2.2.2 r12 er12) ok_X10_no ov_X10_no ml_118 ⟨Nat.le_of_ble_eq_true rfl, Nat.le_of_ble_eq_true rfl⟩ rfl hcb kd_44 hl.1 rfl rfl (Nat.le_of_ble_eq_true rfl) ⟨Nat.zero_le _, Nat.zero_le _⟩ dX10_tile_12 (fun H locs hP hS => ?_)
    refine lv_goto (tgt := 24) hx hb dX10_tile_15 (by decide) ?_
    exact r_I hx hb hr hlocks hP hK hN hL hS h dX10_tile_24
theorem dX10_move_0 : decode cX10_move 0 = .ok (.aload_n 0, 1) := by decide +kernel
theorem dX10_move_1 : decode cX10_move 1 = .ok (.iload_n 1, 1) := by decide +kernel
theorem dX10_move_2 : decode cX10_move 2 = .ok (.invokevirtual 172, 3) := by decide +kernel
theorem dX10_move_5 : decode cX10_move 5 = .ok (.ifCond .eq 11, 3) := by decide +kernel
theorem dX10_move_8 : decode cX10_move 8 = .ok (.aload_n 0, 1) := by decide +kernel
theorem dX10_move_9 : decode cX10_move 9 = .ok (.iload_n 2, 1) := by decide +kernel
theorem dX10_move_10 : decode cX10_move 10 = .ok (.invokevirtual 233, 3) := by decide +kernel
theorem dX10_move_13 : decode cX10_move 13 = .ok (.ifCond .ne 8, 3) := by decide +kernel
theorem dX10_move_16 : decode cX10_move 16 = .ok (.bipush (-3), 2) := by decide +kernel
theorem dX10_move_18 : decode cX10_move 18 = .ok (.goto 8, 3) := by decide +kernel
theorem dX10_move_21 : decode cX10_move 21 = .ok (.aload_n 0, 1) := by decide +kernel
theorem dX10_move_22 : decode cX10_move 22 = .ok (.iload_n 1, 1) := by decide +kernel
theorem dX10_move_23 : decode cX10_move 23 = .ok (.invokevirtual 245, 3) := by decide +kernel
theorem dX10_move_26 : decode cX10_move 26 = .ok (.istore_n 3, 1) := by decide +kernel
theorem dX10_move_27 : decode cX10_move 27 = .ok (.iload_n 3, 1) := by decide +kernel
theorem dX10_move_28 : decode cX10_move 28 = .ok (.ifCond .eq 9, 3) := by decide +kernel
theorem dX10_move_31 : decode cX10_move 31 = .ok (.aload_n 0, 1) := by decide +kernel
theorem dX10_move_32 : decode cX10_move 32 = .ok (.iload_n 3, 1) := by decide +kernel
theorem dX10_move_33 : decode cX10_move 33 = .ok (.invokevirtual 151, 3) := by decide +kernel
theorem dX10_move_36 : decode cX10_move 36 = .ok (.ireturn, 1) := by decide +kernel
theorem dX10_move_37 : decode cX10_move 37 = .ok (.aload_n 0, 1) := by decide +kernel
theorem dX10_move_38 : decode cX10_move 38 = .ok (.getfield 72, 3) := by decide +kernel
theorem dX10_move_41 : decode cX10_move 41 = .ok (.iload_n 1, 1) := by decide +kernel
theorem dX10_move_42 : decode cX10_move 42 = .ok (.iaload, 1) := by decide +kernel
theorem dX10_move_43 : decode cX10_move 43 = .ok (.istore 4, 2) := by decide +kernel
theorem dX10_move_45 : decode cX10_move 45 = .ok (.iload 4, 2) := by decide +kernel
theorem dX10_move_47 : decode cX10_move 47 = .ok (.iload_n 2, 1) := by decide +kernel
theorem dX10_move_48 : decode cX10_move 48 = .ok (.if_icmp .ne 6, 3) := by decide +kernel
theorem dX10_move_51 : decode cX10_move 51 = .ok (.iload 4, 2) := by decide +kernel
theorem dX10_move_53 : decode cX10_move 53 = .ok (.ireturn, 1) := by decide +kernel
theorem dX10_move_54 : decode cX10_move 54 = .ok (.aload_n 0, 1) := by decide +kernel
theorem dX10_move_55 : decode cX10_move 55 = .ok (.iload_n 2, 1) := by decide +kernel
theorem dX10_move_56 : decode cX10_move 56 = .ok (.aload_n 0, 1) := by decide +kernel
theorem dX10_move_57 : decode cX10_move 57 = .ok (.getfield 123, 3) := by decide +kernel
theorem dX10_move_60 : decode cX10_move 60 = .ok (.invokevirtual 242, 3) := by decide +kernel
theorem dX10_move_63 : decode cX10_move 63 = .ok (.ifCond .gt 10, 3) := by decide +kernel
theorem dX10_move_66 : decode cX10_move 66 = .ok (.aload_n 0, 1) := by decide +kernel
theorem dX10_move_67 : decode cX10_move 67 = .ok (.bipush (-8), 2) := by decide +kernel
theorem dX10_move_69 : decode cX10_move 69 = .ok (.invokevirtual 151, 3) := by decide +kernel
theorem dX10_move_72 : decode cX10_move 72 = .ok (.ireturn, 1) := by decide +kernel
theorem dX10_move_73 : decode cX10_move 73 = .ok (.aload_n 0, 1) := by decide +kernel
theorem dX10_move_74 : decode cX10_move 74 = .ok (.getfield 72, 3) := by decide +kernel
theorem dX10_move_77 : decode cX10_move 77 = .ok (.iload_n 1, 1) := by decide +kernel
theorem dX10_move_78 : decode cX10_move 78 = .ok (.iload_n 2, 1) := by decide +kernel
theorem dX10_move_79 : decode cX10_move 79 = .ok (.iastore, 1) := by decide +kernel
theorem dX10_move_80 : decode cX10_move 80 = .ok (.aload_n 0, 1) := by decide +kernel
theorem dX10_move_81 : decode cX10_move 81 = .ok (.invokevirtual 220, 3) := by decide +kernel
theorem dX10_move_84 : decode cX10_move 84 = .ok (.iload 4, 2) := by decide +kernel
theorem dX10_move_86 : decode cX10_move 86 = .ok (.ireturn, 1) := by decide +kernel
set_option maxHeartbeats 4000000 in
set_option maxRecDepth 100000 in
theorem wX10_move_26 {p : Program} {l : Launch} {e : Env} {s : State} {m : MethodId} {args : Array Value} {below : List Frame} {meth : Method} {c : Code} (bs : Nat) (D : va_G) (y : Y3) (n : Nat) (r : Int32 × M2) (Gc : Gx p s m args meth c cX10_move 5 RX10 bs D y (some .int) 76)  (x1 : Int32) (x2 : Int32) (s0 : Int32) (I : MI) (J : MJ) (H : Heap) (locs : List Loc) (ls : Array Slot) (hP : va_P D vwCl (wl bs y I J) H) (hS : va_S (FA bs) s.heap H locs) (hl : lv_has ls 5 [(0, .ref (bs + 44)), (1, .int x1), (2, .int x2)]) (h : fX10_move_26 n  x1 x2 s0 I J = some r) : W p l e (rmm 2 45) s m args below meth c H locs 0 0 (QI below args s bs D y r) (F0 m 26 ls [.int s0]) := by
  obtain ⟨hx, hb, hml, hown, hts, hK, hN, hL, hr, hlocks, hcb⟩ := id Gc
  unfold fX10_move_26 at h
  refine lv_istore_n (lv' := [(3, .int s0), (0, .ref (bs + 44)), (1, .int x1), (2, .int x2)]) hx hb dX10_move_26 rfl hl (by decide) rfl (fun ls hl => ?_)
  refine lv_iload_n hx hb dX10_move_27 rfl (lv_at hl 0 rfl) ?_
  refine lv_if_eq (tgt := 37) hx hb dX10_move_28 (by decide) (fun c28 => ?_) (fun c28 => ?_)
  · replace h := if_t c28 h
    refine lv_aload_n hx hb dX10_move_37 rfl (lv_at hl 1 rfl) ?_
    refine g_R (C := RX10) (T := TX10) (N := 49) (ci := 10) 44 29 61 hx hb hts hown hK hP in_X10 rfl hcb okF_44_29 rfc_44_29 fl_173 dX10_move_38 ?_
    refine lv_iload_n hx hb dX10_move_41 rfl (lv_at hl 2 rfl) ?_
    obtain ⟨hi42, h⟩ := if_s1 h
    refine a_I 61 hx hb hK hP hcb aln_61 hi42 dX10_move_42 ?_
    obtain ⟨v43, ev43, h⟩ := lt_s1 h
    refine top_i ev43 ?_
    refine lv_istore (lv' := [(4, .int v43), (3, .int s0), (0, .ref (bs + 44)), (1, .int x1), (2, .int x2)]) hx hb dX10_move_43 hl (by decide) rfl (fun ls hl => ?_)
    refine lv_iload hx hb dX10_move_45 (lv_at hl 0 rfl) ?_
    refine lv_iload_n hx hb dX10_move_47 rfl (lv_at hl 4 rfl) ?_
    refine lv_icmp_ne (tgt := 54) hx hb dX10_move_48 (by decide) (fun c48 => ?_) (fun c48 => ?_)
    · replace h := if_f c48 h
      refine lv_aload_n hx hb dX10_move_54 rfl (lv_at hl 2 rfl) ?_
      refine lv_iload_n hx hb dX10_move_55 rfl (lv_at hl 4 rfl) ?_
      refine lv_aload_n hx hb dX10_move_56 rfl (lv_at hl 2 rfl) ?_
      refine g_I (C := RX10) (T := TX10) (N := 49) (ci := 10) 44 6 hx hb hts hown hK hP in_X10 rfl hcb okF_44_6 fl_141 dX10_move_57 ?_
      obtain ⟨r60, er60, h⟩ := bd_s1 h
      refine c_VI (k := 44) (ci := 10) (As := [.int x2, .int (I 44 6)]) (rest := []) hx hb hml hown hts hK hN hL hP hS (cX10_roomLeft_ l bs D y hcb n x2 (I 44 6) I J r60 er60) ok_X10_roomLeft ov_X10_roomLeft ml_138 ⟨Nat.le_of_ble_eq_true rfl, Nat.le_of_ble_eq_true rfl⟩ rfl hcb kd_44 hl.1 rfl rfl (Nat.le_of_ble_eq_true rfl) ⟨Nat.zero_le _, Nat.zero_le _⟩ dX10_move_60 (fun H locs hP hS => ?_)
      refine lv_if_gt (tgt := 73) hx hb dX10_move_63 (by decide) (fun c63 => ?_) (fun c63 => ?_)
      · replace h := if_t c63 h
        refine lv_aload_n hx hb dX10_move_73 rfl (lv_at hl 2 rfl) ?_
        refine g_R (C := RX10) (T := TX10) (N := 49) (ci := 10) 44 29 61 hx hb hts hown hK hP in_X10 rfl hcb okF_44_29 rfc_44_29 fl_173 dX10_move_74 ?_
        refine lv_iload_n hx hb dX10_move_77 rfl (lv_at hl 3 rfl) ?_
        refine lv_iload_n hx hb dX10_move_78 rfl (lv_at hl 4 rfl) ?_
        obtain ⟨hi79, h⟩ := if_s1 h
        obtain ⟨I79, eI79, h⟩ := lt_s1 h
        refine t_I 61 eI79 hx hb hK hP hS hcb aln_61 hi79 dX10_move_79 (fun H locs hP hS => ?_)
        refine lv_aload_n hx hb dX10_move_80 rfl (lv_at hl 2 rfl) ?_
        obtain ⟨r81, er81, h⟩ := bd_s1 h
        refine c_VV (k := 44) (ci := 10) (As := []) (rest := []) hx hb hml hown hts hK hN hL hP hS (cX10_moved_ l bs D y hcb n  I79 r60.2.2 r81 er81) ok_X10_moved ov_X10_moved ml_133 ⟨Nat.le_of_ble_eq_true rfl, Nat.le_of_ble_eq_true rfl⟩ rfl hcb kd_44 hl.1 rfl rfl (Nat.le_of_ble_eq_true rfl) ⟨Nat.zero_le _, Nat.zero_le _⟩ dX10_move_81 (fun H locs hP hS => ?_)
        refine lv_iload hx hb dX10_move_84 (lv_at hl 0 rfl) ?_
        exact r_I hx hb hr hlocks hP hK hN hL hS h dX10_move_86
      · replace h := if_f c63 h
        refine lv_aload_n hx hb dX10_move_66 rfl (lv_at hl 2 rfl) ?_
        refine lv_bipush (v := (-8 : Int32)) hx hb dX10_move_67 (by decide) ?_
        obtain ⟨r69, er69, h⟩ := bd_s1 h
        refine c_VI (k := 44) (ci := 10) (As := [.int (-8 : Int32)]) (rest := []) hx hb hml hown hts hK hN hL hP hS (cX10_no_ l bs D y hcb n (-8 : Int32) r60.2.1 r60.2.2 r69 er69) ok_X10_no ov_X10_no ml_118 ⟨Nat.le_of_ble_eq_true rfl, Nat.le_of_ble_eq_true rfl⟩ rfl hcb kd_44 hl.1 rfl rfl (Nat.le_of_ble_eq_true rfl) ⟨Nat.zero_le _, Nat.zero_le _⟩ dX10_move_69 (fun H locs hP hS => ?_)
        exact r_I hx hb hr hlocks hP hK hN hL hS h dX10_move_72
    · replace h := if_t c48 h
      refine lv_iload hx hb dX10_move_51 (lv_at hl 0 rfl) ?_
      exact r_I hx hb hr hlocks hP hK hN hL hS h dX10_move_53
  · replace h := if_f c28 h
    refine lv_aload_n hx hb dX10_move_31 rfl (lv_at hl 1 rfl) ?_
    refine lv_iload_n hx hb dX10_move_32 rfl (lv_at hl 0 rfl) ?_
    obtain ⟨r33, er33, h⟩ := bd_s1 h
    refine c_VI (k := 44) (ci := 10) (As := [.int s0]) (rest := []) hx hb hml hown hts hK hN hL hP hS (cX10_no_ l bs D y hcb n s0 I J r33 er33) ok_X10_no ov_X10_no ml_118 ⟨Nat.le_of_ble_eq_true rfl, Nat.le_of_ble_eq_true rfl⟩ rfl hcb kd_44 hl.1 rfl rfl (Nat.le_of_ble_eq_true rfl) ⟨Nat.zero_le _, Nat.zero_le _⟩ dX10_move_33 (fun H locs hP hS => ?_)
    exact r_I hx hb hr hlocks hP hK hN hL hS h dX10_move_36
set_option maxHeartbeats 4000000 in
set_option maxRecDepth 100000 in
theorem wX10_move_16 {p : Program} {l : Launch} {e : Env} {s : State} {m : MethodId} {args : Array Value} {below : List Frame} {meth : Method} {c : Code} (bs : Nat) (D : va_G) (y : Y3) (n : Nat) (r : Int32 × M2) (Gc : Gx p s m args meth c cX10_move 5 RX10 bs D y (some .int) 76)  (x1 : Int32) (x2 : Int32) (I : MI) (J : MJ) (H : Heap) (locs : List Loc) (ls : Array Slot) (hP : va_P D vwCl (wl bs y I J) H) (hS : va_S (FA bs) s.heap H locs) (hl : lv_has ls 5 [(0, .ref (bs + 44)), (1, .int x1), (2, .int x2)]) (h : fX10_move_16 n  x1 x2 I J = some r) : W p l e (rmm 2 45) s m args below meth c H locs 0 0 (QI below args s bs D y r) (F0 m 16 ls []) := by
  obtain ⟨hx, hb, hml, hown, hts, hK, hN, hL, hr, hlocks, hcb⟩ := id Gc
  unfold fX10_move_16 at h
  refine lv_bipush (v := (-3 : Int32)) hx hb dX10_move_16 (by decide) ?_
  refine lv_goto (tgt := 26) hx hb dX10_move_18 (by decide) ?_
  exact wX10_move_26 bs D y n  r Gc  x1 x2 (-3 : Int32) I J _ _ _ hP hS (lv_sub hl [0, 1, 2] rfl) h
set_option maxHeartbeats 4000000 in
set_option maxRecDepth 100000 in
theorem cX10_move_ (l : Launch) (bs : Nat) (D : va_G) (y : Y3) (hcb : 76 ≤ y.2.2.2) (n : Nat) (x1 : Int32) (x2 : Int32) (I : MI) (J : MJ) (r : Int32 × M2) (h : fX10_move n x1 x2 I J = some r) : Met l yX10_move (.code yX10_move cX10_move 5 (some .int) :: gtb) (rmm 2 45) (va_Pc [.ref (bs + 44), .int x1, .int x2] (HB bs D y I J)) (QcI bs D y r) 0 0 (FA bs) := by
  refine Met.ofW (cc := cX10_move) (maxL := 5) (ret := (some .int)) (by decide) rfl ?_
  intro p e s m args below meth c s₁ B hml hv
  obtain ⟨rfl, hP, hK, hN, hL⟩ := hv
  have hx := B.exec
  have hb := B.bytes
  have hr := B.returns
  have hts0 := atoms_spec (ws := .code yX10_move cX10_move 5 (some .int) :: gtb) B.pre
  have hts : ∀ w ∈ gtb, w.before [.ref (bs + 44), .int x1, .int x2].toArray s = true := fun w hw => hts0 w (List.mem_cons_of_mem _ hw)
  have hown : s.vm.findClass RX10 = some m.cls := findClass_of_methodNamed B.named
  have hlocks := B.notSynchronized
  have hS : va_S (FA bs) s.heap s.heap [] := va_S.rf
  have Gc : Gx p s m [.ref (bs + 44), .int x1, .int x2].toArray meth c cX10_move 5 RX10 bs D y (some .int) 76 := ⟨hx, hb, hml, hown, hts, hK, hN, hL, hr, hlocks, hcb⟩
  have hl := lv_entry [.ref (bs + 44), .int x1, .int x2] (n := 5) (Nat.le_of_ble_eq_true rfl)
  rw [lg_entry_eq]
  generalize (lg_sl [.ref (bs + 44), .int x1, .int x2] ++ List.replicate (5 - (lg_sl [.ref (bs + 44), .int x1, .int x2]).length) Slot.unset).toArray = ls at hl ⊢
  have hl : lv_has ls 5 [(0, .ref (bs + 44)), (1, .int x1), (2, .int x2)] := hl
  change W p l e (rmm 2 45) s m [.ref (bs + 44), .int x1, .int x2].toArray below meth c s.heap [] 0 0 (QI below [.ref (bs + 44), .int x1, .int x2].toArray s bs D y r) (F0 m 0 ls [])
  unfold fX10_move at h
  refine lv_aload_n hx hb dX10_move_0 rfl (lv_at hl 0 rfl) ?_
  refine lv_iload_n hx hb dX10_move_1 rfl (lv_at hl 1 rfl) ?_
  obtain ⟨r2, er2, h⟩ := bd_s1 h
  refine c_VI (k := 44) (ci := 10) (As := [.int x1]) (rest := []) hx hb hml hown hts hK hN hL hP hS (cX10_isCell_ l bs D y hcb n x1 I J r2 er2) ok_X10_isCell ov_X10_isCell ml_122 ⟨Nat.le_of_ble_eq_true rfl, Nat.le_of_ble_eq_true rfl⟩ rfl hcb kd_44 hl.1 rfl rfl (Nat.le_of_ble_eq_true rfl) ⟨Nat.zero_le _, Nat.zero_le _⟩ dX10_move_2 (fun H locs hP hS => ?_)
  refine lv_if_eq (tgt := 16) hx hb dX10_move_5 (by decide) (fun c5 => ?_) (fun c5 => ?_)
  · replace h := if_t c5 h
    exact wX10_move_16 bs D y n  r Gc  x1 x2 r2.2.1 r2.2.2 _ _ _ hP hS (lv_sub hl [0, 1, 2] rfl) h
  · replace h := if_f c5 h
    refine lv_aload_n hx hb dX10_move_8 rfl (lv_at hl 0 rfl) ?_
    refine lv_iload_n hx hb dX10_move_9 rfl (lv_at hl 2 rfl) ?_
    obtain ⟨r10, er10, h⟩ := bd_s1 h
    refine c_VI (k := 44) (ci := 10) (As := [.int x2]) (rest := []) hx hb hml hown hts hK hN hL hP hS (cX10_isTile_ l bs D y hcb n x2 r2.2.1 r2.2.2 r10 er10) ok_X10_isTile ov_X10_isTile ml_136 ⟨Nat.le_of_ble_eq_true rfl, Nat.le_of_ble_eq_true rfl⟩ rfl hcb kd_44 hl.1 rfl rfl (Nat.le_of_ble_eq_true rfl) ⟨Nat.zero_le _, Nat.zero_le _⟩ dX10_move_10 (fun H locs hP hS => ?_)
    refine lv_if_ne (tgt := 21) hx hb dX10_move_13 (by decide) (fun c13 => ?_) (fun c13 => ?_)
    · replace h := if_f c13 h
      refine lv_aload_n hx hb dX10_move_21 rfl (lv_at hl 0 rfl) ?_
      refine lv_iload_n hx hb dX10_move_22 rfl (lv_at hl 1 rfl) ?_
      obtain ⟨r23, er23, h⟩ := bd_s1 h
      refine c_VI (k := 44) (ci := 10) (As := [.int x1]) (rest := []) hx hb hml hown hts hK hN hL hP hS (cX10_whyNo_ l bs D y hcb n x1 r10.2.1 r10.2.2 r23 er23) ok_X10_whyNo ov_X10_whyNo ml_140 ⟨Nat.le_of_ble_eq_true rfl, Nat.le_of_ble_eq_true rfl⟩ rfl hcb kd_44 hl.1 rfl rfl (Nat.le_of_ble_eq_true rfl) ⟨Nat.zero_le _, Nat.zero_le _⟩ dX10_move_23 (fun H locs hP hS => ?_)
      exact wX10_move_26 bs D y n  r Gc  x1 x2 r23.1 r23.2.1 r23.2.2 _ _ _ hP hS (lv_sub hl [0, 1, 2] rfl) h
    · replace h := if_t c13 h
      exact wX10_move_16 bs D y n  r Gc  x1 x2 r10.2.1 r10.2.2 _ _ _ hP hS (lv_sub hl [0, 1, 2] rfl) h
theorem dX10_swaps_0 : decode cX10_swaps 0 = .ok (.aload_n 0, 1) := by decide +kernel
theorem dX10_swaps_1 : decode cX10_swaps 1 = .ok (.getfield 72, 3) := by decide +kernel
theorem dX10_swaps_4 : decode cX10_swaps 4 = .ok (.iload_n 1, 1) := by decide +kernel
theorem dX10_swaps_5 : decode cX10_swaps 5 = .ok (.iaload, 1) := by decide +kernel
theorem dX10_swaps_6 : decode cX10_swaps 6 = .ok (.istore_n 3, 1) := by decide +kernel
theorem dX10_swaps_7 : decode cX10_swaps 7 = .ok (.aload_n 0, 1) := by decide +kernel
theorem dX10_swaps_8 : decode cX10_swaps 8 = .ok (.getfield 72, 3) := by decide +kernel
theorem dX10_swaps_11 : decode cX10_swaps 11 = .ok (.iload_n 1, 1) := by decide +kernel
theorem dX10_swaps_12 : decode cX10_swaps 12 = .ok (.aload_n 0, 1) := by decide +kernel
theorem dX10_swaps_13 : decode cX10_swaps 13 = .ok (.getfield 72, 3) := by decide +kernel
theorem dX10_swaps_16 : decode cX10_swaps 16 = .ok (.iload_n 2, 1) := by decide +kernel
theorem dX10_swaps_17 : decode cX10_swaps 17 = .ok (.iaload, 1) := by decide +kernel
theorem dX10_swaps_18 : decode cX10_swaps 18 = .ok (.iastore, 1) := by decide +kernel
theorem dX10_swaps_19 : decode cX10_swaps 19 = .ok (.aload_n 0, 1) := by decide +kernel
theorem dX10_swaps_20 : decode cX10_swaps 20 = .ok (.getfield 72, 3) := by decide +kernel
theorem dX10_swaps_23 : decode cX10_swaps 23 = .ok (.iload_n 2, 1) := by decide +kernel
theorem dX10_swaps_24 : decode cX10_swaps 24 = .ok (.iload_n 3, 1) := by decide +kernel
theorem dX10_swaps_25 : decode cX10_swaps 25 = .ok (.iastore, 1) := by decide +kernel
theorem dX10_swaps_26 : decode cX10_swaps 26 = .ok (.return_, 1) := by decide +kernel
set_option maxHeartbeats 4000000 in
set_option maxRecDepth 100000 in
theorem cX10_swaps_ (l : Launch) (bs : Nat) (D : va_G) (y : Y3) (hcb : 76 ≤ y.2.2.2) (n : Nat) (x1 : Int32) (x2 : Int32) (I : MI) (J : MJ) (r : M2) (h : fX10_swaps n x1 x2 I J = some r) : Met l yX10_swaps (.code yX10_swaps cX10_swaps 4 none :: gtb) (rmm 0 0) (va_Pc [.ref (bs + 44), .int x1, .int x2] (HB bs D y I J)) (QcV bs D y r) 0 0 (FA bs) := by
  refine Met.ofW (cc := cX10_swaps) (maxL := 4) (ret := none) (by decide) rfl ?_
  intro p e s m args below meth c s₁ B hml hv
  obtain ⟨rfl, hP, hK, hN, hL⟩ := hv
  have hx := B.exec
  have hb := B.bytes
  have hr := B.returns
  have hts0 := atoms_spec (ws := .code yX10_swaps cX10_swaps 4 none :: gtb) B.pre
  have hts : ∀ w ∈ gtb, w.before [.ref (bs + 44), .int x1, .int x2].toArray s = true := fun w hw => hts0 w (List.mem_cons_of_mem _ hw)
  have hown : s.vm.findClass RX10 = some m.cls := findClass_of_methodNamed B.named
  have hlocks := B.notSynchronized
  have hS : va_S (FA bs) s.heap s.heap [] := va_S.rf
  have Gc : Gx p s m [.ref (bs + 44), .int x1, .int x2].toArray meth c cX10_swaps 4 RX10 bs D y none 76 := ⟨hx, hb, hml, hown, hts, hK, hN, hL, hr, hlocks, hcb⟩
  have hl := lv_entry [.ref (bs + 44), .int x1, .int x2] (n := 4) (Nat.le_of_ble_eq_true rfl)
  rw [lg_entry_eq]
  generalize (lg_sl [.ref (bs + 44), .int x1, .int x2] ++ List.replicate (4 - (lg_sl [.ref (bs + 44), .int x1, .int x2]).length) Slot.unset).toArray = ls at hl ⊢
  have hl : lv_has ls 4 [(0, .ref (bs + 44)), (1, .int x1), (2, .int x2)] := hl
  change W p l e (rmm 0 0) s m [.ref (bs + 44), .int x1, .int x2].toArray below meth c s.heap [] 0 0 (QV below [.ref (bs + 44), .int x1, .int x2].toArray s bs D y r) (F0 m 0 ls [])
  unfold fX10_swaps at h
  refine lv_aload_n hx hb dX10_swaps_0 rfl (lv_at hl 0 rfl) ?_
  refine g_R (C := RX10) (T := TX10) (N := 49) (ci := 10) 44 29 61 hx hb hts hown hK hP in_X10 rfl hcb okF_44_29 rfc_44_29 fl_173 dX10_swaps_1 ?_
  refine lv_iload_n hx hb dX10_swaps_4 rfl (lv_at hl 1 rfl) ?_
  obtain ⟨hi5, h⟩ := if_s1 h
  refine a_I 61 hx hb hK hP hcb aln_61 hi5 dX10_swaps_5 ?_
  obtain ⟨v6, ev6, h⟩ := lt_s1 h
  refine top_i ev6 ?_
  refine lv_istore_n (lv' := [(3, .int v6), (0, .ref (bs + 44)), (1, .int x1), (2, .int x2)]) hx hb dX10_swaps_6 rfl hl (by decide) rfl (fun ls hl => ?_)
  refine lv_aload_n hx hb dX10_swaps_7 rfl (lv_at hl 1 rfl) ?_
  refine g_R (C := RX10) (T := TX10) (N := 49) (ci := 10) 44 29 61 hx hb hts hown hK hP in_X10 rfl hcb okF_44_29 rfc_44_29 fl_173 dX10_swaps_8 ?_
  refine lv_iload_n hx hb dX10_swaps_11 rfl (lv_at hl 2 rfl) ?_
  refine lv_aload_n hx hb dX10_swaps_12 rfl (lv_at hl 1 rfl) ?_
  refine g_R (C := RX10) (T := TX10) (N := 49) (ci := 10) 44 29 61 hx hb hts hown hK hP in_X10 rfl hcb okF_44_29 rfc_44_29 fl_173 dX10_swaps_13 ?_
  refine lv_iload_n hx hb dX10_swaps_16 rfl (lv_at hl 3 rfl) ?_
  obtain ⟨hi17, h⟩ := if_s1 h
  refine a_I 61 hx hb hK hP hcb aln_61 hi17 dX10_swaps_17 ?_
  obtain ⟨hi18, h⟩ := if_s1 h
  obtain ⟨I18, eI18, h⟩ := lt_s1 h
  refine t_I 61 eI18 hx hb hK hP hS hcb aln_61 hi18 dX10_swaps_18 (fun H locs hP hS => ?_)
  refine lv_aload_n hx hb dX10_swaps_19 rfl (lv_at hl 1 rfl) ?_
  refine g_R (C := RX10) (T := TX10) (N := 49) (ci := 10) 44 29 61 hx hb hts hown hK hP in_X10 rfl hcb okF_44_29 rfc_44_29 fl_173 dX10_swaps_20 ?_
  refine lv_iload_n hx hb dX10_swaps_23 rfl (lv_at hl 3 rfl) ?_
  refine lv_iload_n hx hb dX10_swaps_24 rfl (lv_at hl 0 rfl) ?_
  obtain ⟨hi25, h⟩ := if_s1 h
  obtain ⟨I25, eI25, h⟩ := lt_s1 h
  refine t_I 61 eI25 hx hb hK hP hS hcb aln_61 hi25 dX10_swaps_25 (fun H locs hP hS => ?_)
  exact r_V hx hb hr hlocks hP hK hN hL hS h dX10_swaps_26
theorem dX10_endsOf_0 : decode cX10_endsOf 0 = .ok (.lconst 0, 1) := by decide +kernel
theorem dX10_endsOf_1 : decode cX10_endsOf 1 = .ok (.lstore_n 2, 1) := by decide +kernel
theorem dX10_endsOf_2 : decode cX10_endsOf 2 = .ok (.iconst 0, 1) := by decide +kernel
theorem dX10_endsOf_3 : decode cX10_endsOf 3 = .ok (.istore 4, 2) := by decide +kernel
theorem dX10_endsOf_5 : decode cX10_endsOf 5 = .ok (.iload 4, 2) := by decide +kernel
theorem dX10_endsOf_7 : decode cX10_endsOf 7 = .ok (.aload_n 0, 1) := by decide +kernel
theorem dX10_endsOf_8 : decode cX10_endsOf 8 = .ok (.getfield 123, 3) := by decide +kernel
theorem dX10_endsOf_11 : decode cX10_endsOf 11 = .ok (.if_icmp .ge 78, 3) := by decide +kernel
theorem dX10_endsOf_14 : decode cX10_endsOf 14 = .ok (.iconst 0, 1) := by decide +kernel
theorem dX10_endsOf_15 : decode cX10_endsOf 15 = .ok (.istore 5, 2) := by decide +kernel
theorem dX10_endsOf_17 : decode cX10_endsOf 17 = .ok (.iload 5, 2) := by decide +kernel
theorem dX10_endsOf_19 : decode cX10_endsOf 19 = .ok (.aload_n 0, 1) := by decide +kernel
theorem dX10_endsOf_20 : decode cX10_endsOf 20 = .ok (.iload 4, 2) := by decide +kernel
theorem dX10_endsOf_22 : decode cX10_endsOf 22 = .ok (.invokevirtual 261, 3) := by decide +kernel
theorem dX10_endsOf_25 : decode cX10_endsOf 25 = .ok (.if_icmp .ge 58, 3) := by decide +kernel
theorem dX10_endsOf_28 : decode cX10_endsOf 28 = .ok (.aload_n 0, 1) := by decide +kernel
theorem dX10_endsOf_29 : decode cX10_endsOf 29 = .ok (.iload 4, 2) := by decide +kernel
theorem dX10_endsOf_31 : decode cX10_endsOf 31 = .ok (.invokevirtual 236, 3) := by decide +kernel
theorem dX10_endsOf_34 : decode cX10_endsOf 34 = .ok (.ifCond .eq 49, 3) := by decide +kernel
theorem dX10_endsOf_37 : decode cX10_endsOf 37 = .ok (.aload_n 0, 1) := by decide +kernel
theorem dX10_endsOf_38 : decode cX10_endsOf 38 = .ok (.iload 4, 2) := by decide +kernel
theorem dX10_endsOf_40 : decode cX10_endsOf 40 = .ok (.iload 5, 2) := by decide +kernel
theorem dX10_endsOf_42 : decode cX10_endsOf 42 = .ok (.invokevirtual 264, 3) := by decide +kernel
theorem dX10_endsOf_45 : decode cX10_endsOf 45 = .ok (.iload_n 1, 1) := by decide +kernel
theorem dX10_endsOf_46 : decode cX10_endsOf 46 = .ok (.if_icmp .ne 31, 3) := by decide +kernel
theorem dX10_endsOf_49 : decode cX10_endsOf 49 = .ok (.aload_n 0, 1) := by decide +kernel
theorem dX10_endsOf_50 : decode cX10_endsOf 50 = .ok (.getfield 72, 3) := by decide +kernel
theorem dX10_endsOf_53 : decode cX10_endsOf 53 = .ok (.iload 4, 2) := by decide +kernel
theorem dX10_endsOf_55 : decode cX10_endsOf 55 = .ok (.iaload, 1) := by decide +kernel
theorem dX10_endsOf_56 : decode cX10_endsOf 56 = .ok (.aload_n 0, 1) := by decide +kernel
theorem dX10_endsOf_57 : decode cX10_endsOf 57 = .ok (.getfield 72, 3) := by decide +kernel
theorem dX10_endsOf_60 : decode cX10_endsOf 60 = .ok (.iload_n 1, 1) := by decide +kernel
theorem dX10_endsOf_61 : decode cX10_endsOf 61 = .ok (.iaload, 1) := by decide +kernel
theorem dX10_endsOf_62 : decode cX10_endsOf 62 = .ok (.if_icmp .eq 15, 3) := by decide +kernel
theorem dX10_endsOf_65 : decode cX10_endsOf 65 = .ok (.lload_n 2, 1) := by decide +kernel
theorem dX10_endsOf_66 : decode cX10_endsOf 66 = .ok (.lconst 1, 1) := by decide +kernel
theorem dX10_endsOf_67 : decode cX10_endsOf 67 = .ok (.aload_n 0, 1) := by decide +kernel
theorem dX10_endsOf_68 : decode cX10_endsOf 68 = .ok (.getfield 72, 3) := by decide +kernel
theorem dX10_endsOf_71 : decode cX10_endsOf 71 = .ok (.iload 4, 2) := by decide +kernel
theorem dX10_endsOf_73 : decode cX10_endsOf 73 = .ok (.iaload, 1) := by decide +kernel
theorem dX10_endsOf_74 : decode cX10_endsOf 74 = .ok (.lshl, 1) := by decide +kernel
theorem dX10_endsOf_75 : decode cX10_endsOf 75 = .ok (.lor, 1) := by decide +kernel
theorem dX10_endsOf_76 : decode cX10_endsOf 76 = .ok (.lstore_n 2, 1) := by decide +kernel
theorem dX10_endsOf_77 : decode cX10_endsOf 77 = .ok (.iinc 5 1, 3) := by decide +kernel
theorem dX10_endsOf_80 : decode cX10_endsOf 80 = .ok (.goto (-63), 3) := by decide +kernel
theorem dX10_endsOf_83 : decode cX10_endsOf 83 = .ok (.iinc 4 1, 3) := by decide +kernel
theorem dX10_endsOf_86 : decode cX10_endsOf 86 = .ok (.goto (-81), 3) := by decide +kernel
theorem dX10_endsOf_89 : decode cX10_endsOf 89 = .ok (.lload_n 2, 1) := by decide +kernel
theorem dX10_endsOf_90 : decode cX10_endsOf 90 = .ok (.lreturn, 1) := by decide +kernel
set_option maxHeartbeats 4000000 in
set_option maxRecDepth 100000 in
theorem wX10_endsOf_83 {p : Program} {l : Launch} {e : Env} {s : State} {m : MethodId} {args : Array Value} {below : List Frame} {meth : Method} {c : Code} (bs : Nat) (D : va_G) (y : Y3) (n : Nat) (k5_ : Int32 → Int64 → Int32 → MI → MJ → Option (Int64 × M2)) (r : Int64 × M2) (Gc : Gx p s m args meth c cX10_endsOf 6 RX10 bs D y (some .long) 76) (hk5_ : ∀ (x1 : Int32) (x2 : Int64) (x4 : Int32) (I : MI) (J : MJ) (H : Heap) (locs : List Loc) (ls : Array Slot), va_P D vwCl (wl bs y I J) H → va_S (FA bs) s.heap H locs → lv_has ls 6 [(0, .ref (bs + 44)), (1, .int x1), (2, .long x2), (4, .int x4)] → k5_ x1 x2 x4 I J = some r → W p l e (rmm 1 22) s m args below meth c H locs 0 0 (QJ below args s bs D y r) (F0 m 5 ls [])) (x1 : Int32) (x2 : Int64) (x4 : Int32) (I : MI) (J : MJ) (H : Heap) (locs : List Loc) (ls : Array Slot) (hP : va_P D vwCl (wl bs y I J) H) (hS : va_S (FA bs) s.heap H locs) (hl : lv_has ls 6 [(0, .ref (bs + 44)), (1, .int x1), (2, .long x2), (4, .int x4)]) (h : fX10_endsOf_83 n k5_ x1 x2 x4 I J = some r) : W p l e (rmm 1 22) s m args below meth c H locs 0 0 (QJ below args s bs D y r) (F0 m 83 ls []) := by
  obtain ⟨hx, hb, hml, hown, hts, hK, hN, hL, hr, hlocks, hcb⟩ := id Gc
  unfold fX10_endsOf_83 at h
  refine lv_iinc (v := (x4 + (1 : Int32))) (lv' := [(4, .int (x4 + (1 : Int32))), (0, .ref (bs + 44)), (1, .int x1), (2, .long x2)]) hx hb dX10_endsOf_83 hl (k := 3) rfl rfl (by decide) rfl (fun ls hl => ?_)
  refine lv_goto (tgt := 5) hx hb dX10_endsOf_86 (by decide) ?_
  exact hk5_ x1 x2 (x4 + (1 : Int32)) I J _ _ _ hP hS (lv_sub hl [1, 2, 3, 0] rfl) h
set_option maxHeartbeats 4000000 in
set_option maxRecDepth 100000 in
theorem wX10_endsOf_77 {p : Program} {l : Launch} {e : Env} {s : State} {m : MethodId} {args : Array Value} {below : List Frame} {meth : Method} {c : Code} (bs : Nat) (D : va_G) (y : Y3) (n : Nat) (k5_ : Int32 → Int64 → Int32 → MI → MJ → Option (Int64 × M2)) (k17_ : Int32 → Int64 → Int32 → Int32 → MI → MJ → Option (Int64 × M2)) (r : Int64 × M2) (Gc : Gx p s m args meth c cX10_endsOf 6 RX10 bs D y (some .long) 76) (hk5_ : ∀ (x1 : Int32) (x2 : Int64) (x4 : Int32) (I : MI) (J : MJ) (H : Heap) (locs : List Loc) (ls : Array Slot), va_P D vwCl (wl bs y I J) H → va_S (FA bs) s.heap H locs → lv_has ls 6 [(0, .ref (bs + 44)), (1, .int x1), (2, .long x2), (4, .int x4)] → k5_ x1 x2 x4 I J = some r → W p l e (rmm 1 22) s m args below meth c H locs 0 0 (QJ below args s bs D y r) (F0 m 5 ls [])) (hk17_ : ∀ (x1 : Int32) (x2 : Int64) (x4 : Int32) (x5 : Int32) (I : MI) (J : MJ) (H : Heap) (locs : List Loc) (ls : Array Slot), va_P D vwCl (wl bs y I J) H → va_S (FA bs) s.heap H locs → lv_has ls 6 [(0, .ref (bs + 44)), (1, .int x1), (2, .long x2), (4, .int x4), (5, .int x5)] → k17_ x1 x2 x4 x5 I J = some r → W p l e (rmm 1 22) s m args below meth c H locs 0 0 (QJ below args s bs D y r) (F0 m 17 ls [])) (x1 : Int32) (x2 : Int64) (x4 : Int32) (x5 : Int32) (I : MI) (J : MJ) (H : Heap) (locs : List Loc) (ls : Array Slot) (hP : va_P D vwCl (wl bs y I J) H) (hS : va_S (FA bs) s.heap H locs) (hl : lv_has ls 6 [(0, .ref (bs + 44)), (1, .int x1), (2, .long x2), (4, .int x4), (5, .int x5)]) (h : fX10_endsOf_77 n k5_ k17_ x1 x2 x4 x5 I J = some r) : W p l e (rmm 1 22) s m args below meth c H locs 0 0 (QJ below args s bs D y r) (F0 m 77 ls []) := by
  obtain ⟨hx, hb, hml, hown, hts, hK, hN, hL, hr, hlocks, hcb⟩ := id Gc
  unfold fX10_endsOf_77 at h
  refine lv_iinc (v := (x5 + (1 : Int32))) (lv' := [(5, .int (x5 + (1 : Int32))), (0, .ref (bs + 44)), (1, .int x1), (2, .long x2), (4, .int x4)]) hx hb dX10_endsOf_77 hl (k := 4) rfl rfl (by decide) rfl (fun ls hl => ?_)
  refine lv_goto (tgt := 17) hx hb dX10_endsOf_80 (by decide) ?_
  exact hk17_ x1 x2 x4 (x5 + (1 : Int32)) I J _ _ _ hP hS (lv_sub hl [1, 2, 3, 4, 0] rfl) h
set_option maxHeartbeats 4000000 in
set_option maxRecDepth 100000 in
theorem wX10_endsOf_17 {p : Program} {l : Launch} {e : Env} {s : State} {m : MethodId} {args : Array Value} {below : List Frame} {meth : Method} {c : Code} (bs : Nat) (D : va_G) (y : Y3) (n : Nat) (k5_ : Int32 → Int64 → Int32 → MI → MJ → Option (Int64 × M2)) (k17_ : Int32 → Int64 → Int32 → Int32 → MI → MJ → Option (Int64 × M2)) (r : Int64 × M2) (Gc : Gx p s m args meth c cX10_endsOf 6 RX10 bs D y (some .long) 76) (hk5_ : ∀ (x1 : Int32) (x2 : Int64) (x4 : Int32) (I : MI) (J : MJ) (H : Heap) (locs : List Loc) (ls : Array Slot), va_P D vwCl (wl bs y I J) H → va_S (FA bs) s.heap H locs → lv_has ls 6 [(0, .ref (bs + 44)), (1, .int x1), (2, .long x2), (4, .int x4)] → k5_ x1 x2 x4 I J = some r → W p l e (rmm 1 22) s m args below meth c H locs 0 0 (QJ below args s bs D y r) (F0 m 5 ls [])) (hk17_ : ∀ (x1 : Int32) (x2 : Int64) (x4 : Int32) (x5 : Int32) (I : MI) (J : MJ) (H : Heap) (locs : List Loc) (ls : Array Slot), va_P D vwCl (wl bs y I J) H → va_S (FA bs) s.heap H locs → lv_has ls 6 [(0, .ref (bs + 44)), (1, .int x1), (2, .long x2), (4, .int x4), (5, .int x5)] → k17_ x1 x2 x4 x5 I J = some r → W p l e (rmm 1 22) s m args below meth c H locs 0 0 (QJ below args s bs D y r) (F0 m 17 ls [])) (x1 : Int32) (x2 : Int64) (x4 : Int32) (x5 : Int32) (I : MI) (J : MJ) (H : Heap) (locs : List Loc) (ls : Array Slot) (hP : va_P D vwCl (wl bs y I J) H) (hS : va_S (FA bs) s.heap H locs) (hl : lv_has ls 6 [(0, .ref (bs + 44)), (1, .int x1), (2, .long x2), (4, .int x4), (5, .int x5)]) (h : fX10_endsOf_17 n k5_ k17_ x1 x2 x4 x5 I J = some r) : W p l e (rmm 1 22) s m args below meth c H locs 0 0 (QJ below args s bs D y r) (F0 m 17 ls []) := by
  obtain ⟨hx, hb, hml, hown, hts, hK, hN, hL, hr, hlocks, hcb⟩ := id Gc
  unfold fX10_endsOf_17 at h
  refine lv_iload hx hb dX10_endsOf_17 (lv_at hl 4 rfl) ?_
  refine lv_aload_n hx hb dX10_endsOf_19 rfl (lv_at hl 0 rfl) ?_
  refine lv_iload hx hb dX10_endsOf_20 (lv_at hl 3 rfl) ?_
  obtain ⟨r22, er22, h⟩ := bd_s1 h
  refine c_VI (k := 44) (ci := 10) (As := [.int x4]) (rest := [.int x5]) hx hb hml hown hts hK hN hL hP hS (cX10_lettersOf_ l bs D y hcb n x4 I J r22 er22) ok_X10_lettersOf ov_X10_lettersOf ml_141 ⟨Nat.le_of_ble_eq_true rfl, Nat.le_of_ble_eq_true rfl⟩ rfl hcb kd_44 hl.1 rfl rfl (Nat.le_of_ble_eq_true rfl) ⟨Nat.zero_le _, Nat.zero_le _⟩ dX10_endsOf_22 (fun H locs hP hS => ?_)
  refine lv_icmp_ge (tgt := 83) hx hb dX10_endsOf_25 (by decide) (fun c25 => ?_) (fun c25 => ?_)
  · replace h := if_t c25 h
    exact wX10_endsOf_83 bs D y n k5_ r Gc hk5_ x1 x2 x4 r22.2.1 r22.2.2 _ _ _ hP hS (lv_sub hl [0, 1, 2, 3] rfl) h
  · replace h := if_f c25 h
    refine lv_aload_n hx hb dX10_endsOf_28 rfl (lv_at hl 0 rfl) ?_
    refine lv_iload hx hb dX10_endsOf_29 (lv_at hl 3 rfl) ?_
    obtain ⟨r31, er31, h⟩ := bd_s1 h
    refine c_VI (k := 44) (ci := 10) (As := [.int x4]) (rest := []) hx hb hml hown hts hK hN hL hP hS (cX10_isThing_ l bs D y hcb n x4 r22.2.1 r22.2.2 r31 er31) ok_X10_isThing ov_X10_isThing ml_137 ⟨Nat.le_of_ble_eq_true rfl, Nat.le_of_ble_eq_true rfl⟩ rfl hcb kd_44 hl.1 rfl rfl (Nat.le_of_ble_eq_true rfl) ⟨Nat.zero_le _, Nat.zero_le _⟩ dX10_endsOf_31 (fun H locs hP hS => ?_)
    refine lv_if_eq (tgt := 83) hx hb dX10_endsOf_34 (by decide) (fun c34 => ?_) (fun c34 => ?_)
    · replace h := if_t c34 h
      exact wX10_endsOf_83 bs D y n k5_ r Gc hk5_ x1 x2 x4 r31.2.1 r31.2.2 _ _ _ hP hS (lv_sub hl [0, 1, 2, 3] rfl) h
    · replace h := if_f c34 h
      refine lv_aload_n hx hb dX10_endsOf_37 rfl (lv_at hl 0 rfl) ?_
      refine lv_iload hx hb dX10_endsOf_38 (lv_at hl 3 rfl) ?_
      refine lv_iload hx hb dX10_endsOf_40 (lv_at hl 4 rfl) ?_
      obtain ⟨r42, er42, h⟩ := bd_s1 h
      refine c_VI (k := 44) (ci := 10) (As := [.int x4, .int x5]) (rest := []) hx hb hml hown hts hK hN hL hP hS (cX10_letter_ l bs D y hcb n x4 x5 r31.2.1 r31.2.2 r42 er42) ok_X10_letter ov_X10_letter ml_142 ⟨Nat.le_of_ble_eq_true rfl, Nat.le_of_ble_eq_true rfl⟩ rfl hcb kd_44 hl.1 rfl rfl (Nat.le_of_ble_eq_true rfl) ⟨Nat.zero_le _, Nat.zero_le _⟩ dX10_endsOf_42 (fun H locs hP hS => ?_)
      refine lv_iload_n hx hb dX10_endsOf_45 rfl (lv_at hl 1 rfl) ?_
      refine lv_icmp_ne (tgt := 77) hx hb dX10_endsOf_46 (by decide) (fun c46 => ?_) (fun c46 => ?_)
      · replace h := if_f c46 h
        exact wX10_endsOf_77 bs D y n k5_ k17_ r Gc hk5_ hk17_ x1 x2 x4 x5 r42.2.1 r42.2.2 _ _ _ hP hS (lv_sub hl [0, 1, 2, 3, 4] rfl) h
      · replace h := if_t c46 h
        refine lv_aload_n hx hb dX10_endsOf_49 rfl (lv_at hl 0 rfl) ?_
        refine g_R (C := RX10) (T := TX10) (N := 49) (ci := 10) 44 29 61 hx hb hts hown hK hP in_X10 rfl hcb okF_44_29 rfc_44_29 fl_173 dX10_endsOf_50 ?_
        refine lv_iload hx hb dX10_endsOf_53 (lv_at hl 3 rfl) ?_
        obtain ⟨hi55, h⟩ := if_s1 h
        refine a_I 61 hx hb hK hP hcb aln_61 hi55 dX10_endsOf_55 ?_
        refine lv_aload_n hx hb dX10_endsOf_56 rfl (lv_at hl 0 rfl) ?_
        refine g_R (C := RX10) (T := TX10) (N := 49) (ci := 10) 44 29 61 hx hb hts hown hK hP in_X10 rfl hcb okF_44_29 rfc_44_29 fl_173 dX10_endsOf_57 ?_
        refine lv_iload_n hx hb dX10_endsOf_60 rfl (lv_at hl 1 rfl) ?_
        obtain ⟨hi61, h⟩ := if_s1 h
        refine a_I 61 hx hb hK hP hcb aln_61 hi61 dX10_endsOf_61 ?_
        refine lv_icmp_eq (tgt := 77) hx hb dX10_endsOf_62 (by decide) (fun c62 => ?_) (fun c62 => ?_)
        · replace h := if_t c62 h
          exact wX10_endsOf_77 bs D y n k5_ k17_ r Gc hk5_ hk17_ x1 x2 x4 x5 r42.2.1 r42.2.2 _ _ _ hP hS (lv_sub hl [0, 1, 2, 3, 4] rfl) h
        · replace h := if_f c62 h
          refine lv_lload_n hx hb dX10_endsOf_65 rfl (lv_at hl 2 rfl) ?_
          refine lv_lconst (v := (1 : Int64)) hx hb dX10_endsOf_66 (by decide) ?_
          refine lv_aload_n hx hb dX10_endsOf_67 rfl (lv_at hl 0 rfl) ?_
          refine g_R (C := RX10) (T := TX10) (N := 49) (ci := 10) 44 29 61 hx hb hts hown hK hP in_X10 rfl hcb okF_44_29 rfc_44_29 fl_173 dX10_endsOf_68 ?_
          refine lv_iload hx hb dX10_endsOf_71 (lv_at hl 3 rfl) ?_
          obtain ⟨hi73, h⟩ := if_s1 h
          refine a_I 61 hx hb hK hP hcb aln_61 hi73 dX10_endsOf_73 ?_
          refine lv_lshl (v := (shlL (1 : Int64) (r42.2.1 61 (x4).toNatClampNeg))) hx hb dX10_endsOf_74 rfl ?_
          refine lv_lor hx hb dX10_endsOf_75 ?_
          obtain ⟨v76, ev76, h⟩ := lt_s1 h
          refine top_j ev76 ?_
          refine lv_lstore_n (lv' := [(2, .long v76), (0, .ref (bs + 44)), (1, .int x1), (4, .int x4), (5, .int x5)]) hx hb dX10_endsOf_76 rfl hl (by decide) rfl (fun ls hl => ?_)
          exact wX10_endsOf_77 bs D y n k5_ k17_ r Gc hk5_ hk17_ x1 v76 x4 x5 r42.2.1 r42.2.2 _ _ _ hP hS (lv_sub hl [1, 2, 0, 3, 4] rfl) h
theorem vX10_endsOf_17 {p : Program} {l : Launch} {e : Env} {s : State} {m : MethodId} {args : Array Value} {below : List Frame} {meth : Method} {c : Code} (bs : Nat) (D : va_G) (y : Y3) (n : Nat) (k5_ : Int32 → Int64 → Int32 → MI → MJ → Option (Int64 × M2)) (r : Int64 × M2) (Gc : Gx p s m args meth c cX10_endsOf 6 RX10 bs D y (some .long) 76) (hk5_ : ∀ (x1 : Int32) (x2 : Int64) (x4 : Int32) (I : MI) (J : MJ) (H : Heap) (locs : List Loc) (ls : Array Slot), va_P D vwCl (wl bs y I J) H → va_S (FA bs) s.heap H locs → lv_has ls 6 [(0, .ref (bs + 44)), (1, .int x1), (2, .long x2), (4, .int x4)] → k5_ x1 x2 x4 I J = some r → W p l e (rmm 1 22) s m args below meth c H locs 0 0 (QJ below args s bs D y r) (F0 m 5 ls [])) : ∀ (q : Nat) (x1 : Int32) (x2 : Int64) (x4 : Int32) (x5 : Int32) (I : MI) (J : MJ) (H : Heap) (locs : List Loc) (ls : Array Slot), va_P D vwCl (wl bs y I J) H → va_S (FA bs) s.heap H locs → lv_has ls 6 [(0, .ref (bs + 44)), (1, .int x1), (2, .long x2), (4, .int x4), (5, .int x5)] → lX10_endsOf_17 n k5_ q x1 x2 x4 x5 I J = some r → W p l e (rmm 1 22) s m args below meth c H locs 0 0 (QJ below args s bs D y r) (F0 m 17 ls []) := by
  intro q
  induction q with
  | zero =>
    intro x1 x2 x4 x5 I J H locs ls hP hS hl h
    have h : (none : Option (Int64 × M2)) = some r := h
    cases h
  | succ q ih =>
    intro x1 x2 x4 x5 I J H locs ls hP hS hl h
    have h : fX10_endsOf_17 n k5_ (lX10_endsOf_17 n k5_ q) x1 x2 x4 x5 I J = some r := h
    exact wX10_endsOf_17 bs D y n k5_ (lX10_endsOf_17 n k5_ q) r Gc hk5_ ih x1 x2 x4 x5 I J H locs ls hP hS hl h
set_option maxHeartbeats 4000000 in
set_option maxRecDepth 100000 in
theorem wX10_endsOf_5 {p : Program} {l : Launch} {e : Env} {s : State} {m : MethodId} {args : Array Value} {below : List Frame} {meth : Method} {c : Code} (bs : Nat) (D : va_G) (y : Y3) (n : Nat) (k5_ : Int32 → Int64 → Int32 → MI → MJ → Option (Int64 × M2)) (r : Int64 × M2) (Gc : Gx p s m args meth c cX10_endsOf 6 RX10 bs D y (some .long) 76) (hk5_ : ∀ (x1 : Int32) (x2 : Int64) (x4 : Int32) (I : MI) (J : MJ) (H : Heap) (locs : List Loc) (ls : Array Slot), va_P D vwCl (wl bs y I J) H → va_S (FA bs) s.heap H locs → lv_has ls 6 [(0, .ref (bs + 44)), (1, .int x1), (2, .long x2), (4, .int x4)] → k5_ x1 x2 x4 I J = some r → W p l e (rmm 1 22) s m args below meth c H locs 0 0 (QJ below args s bs D y r) (F0 m 5 ls [])) (x1 : Int32) (x2 : Int64) (x4 : Int32) (I : MI) (J : MJ) (H : Heap) (locs : List Loc) (ls : Array Slot) (hP : va_P D vwCl (wl bs y I J) H) (hS : va_S (FA bs) s.heap H locs) (hl : lv_has ls 6 [(0, .ref (bs + 44)), (1, .int x1), (2, .long x2), (4, .int x4)]) (h : fX10_endsOf_5 n k5_ x1 x2 x4 I J = some r) : W p l e (rmm 1 22) s m args below meth c H locs 0 0 (QJ below args s bs D y r) (F0 m 5 ls []) := by
  obtain ⟨hx, hb, hml, hown, hts, hK, hN, hL, hr, hlocks, hcb⟩ := id Gc
  unfold fX10_endsOf_5 at h
  refine lv_iload hx hb dX10_endsOf_5 (lv_at hl 3 rfl) ?_
  refine lv_aload_n hx hb dX10_endsOf_7 rfl (lv_at hl 0 rfl) ?_
  refine g_I (C := RX10) (T := TX10) (N := 49) (ci := 10) 44 6 hx hb hts hown hK hP in_X10 rfl hcb okF_44_6 fl_141 dX10_endsOf_8 ?_
  refine lv_icmp_ge (tgt := 89) hx hb dX10_endsOf_11 (by decide) (fun c11 => ?_) (fun c11 => ?_)
  · replace h := if_t c11 h
    refine lv_lload_n hx hb dX10_endsOf_89 rfl (lv_at hl 2 rfl) ?_
    exact r_J hx hb hr hlocks hP hK hN hL hS h dX10_endsOf_90
  · replace h := if_f c11 h
    refine lv_iconst (v := (0 : Int32)) hx hb dX10_endsOf_14 (by decide) ?_
    refine lv_istore (lv' := [(5, .int (0 : Int32)), (0, .ref (bs + 44)), (1, .int x1), (2, .long x2), (4, .int x4)]) hx hb dX10_endsOf_15 hl (by decide) rfl (fun ls hl => ?_)
    exact vX10_endsOf_17 bs D y n k5_ r Gc hk5_ n x1 x2 x4 (0 : Int32) I J _ _ _ hP hS (lv_sub hl [1, 2, 3, 4, 0] rfl) h
theorem vX10_endsOf_5 {p : Program} {l : Launch} {e : Env} {s : State} {m : MethodId} {args : Array Value} {below : List Frame} {meth : Method} {c : Code} (bs : Nat) (D : va_G) (y : Y3) (n : Nat) (r : Int64 × M2) (Gc : Gx p s m args meth c cX10_endsOf 6 RX10 bs D y (some .long) 76)  : ∀ (q : Nat) (x1 : Int32) (x2 : Int64) (x4 : Int32) (I : MI) (J : MJ) (H : Heap) (locs : List Loc) (ls : Array Slot), va_P D vwCl (wl bs y I J) H → va_S (FA bs) s.heap H locs → lv_has ls 6 [(0, .ref (bs + 44)), (1, .int x1), (2, .long x2), (4, .int x4)] → lX10_endsOf_5 n  q x1 x2 x4 I J = some r → W p l e (rmm 1 22) s m args below meth c H locs 0 0 (QJ below args s bs D y r) (F0 m 5 ls []) := by
  intro q
  induction q with
  | zero =>
    intro x1 x2 x4 I J H locs ls hP hS hl h
    have h : (none : Option (Int64 × M2)) = some r := h
    cases h
  | succ q ih =>
    intro x1 x2 x4 I J H locs ls hP hS hl h
    have h : fX10_endsOf_5 n  (lX10_endsOf_5 n  q) x1 x2 x4 I J = some r := h
    exact wX10_endsOf_5 bs D y n  (lX10_endsOf_5 n  q) r Gc  ih x1 x2 x4 I J H locs ls hP hS hl h
set_option maxHeartbeats 4000000 in
set_option maxRecDepth 100000 in
theorem cX10_endsOf_ (l : Launch) (bs : Nat) (D : va_G) (y : Y3) (hcb : 76 ≤ y.2.2.2) (n : Nat) (x1 : Int32) (I : MI) (J : MJ) (r : Int64 × M2) (h : fX10_endsOf n x1 I J = some r) : Met l yX10_endsOf (.code yX10_endsOf cX10_endsOf 6 (some .long) :: gtb) (rmm 1 22) (va_Pc [.ref (bs + 44), .int x1] (HB bs D y I J)) (QcJ bs D y r) 0 0 (FA bs) := by
  refine Met.ofW (cc := cX10_endsOf) (maxL := 6) (ret := (some .long)) (by decide) rfl ?_
  intro p e s m args below meth c s₁ B hml hv
  obtain ⟨rfl, hP, hK, hN, hL⟩ := hv
  have hx := B.exec
  have hb := B.bytes
  have hr := B.returns
  have hts0 := atoms_spec (ws := .code yX10_endsOf cX10_endsOf 6 (some .long) :: gtb) B.pre
  have hts : ∀ w ∈ gtb, w.before [.ref (bs + 44), .int x1].toArray s = true := fun w hw => hts0 w (List.mem_cons_of_mem _ hw)
  have hown : s.vm.findClass RX10 = some m.cls := findClass_of_methodNamed B.named
  have hlocks := B.notSynchronized
  have hS : va_S (FA bs) s.heap s.heap [] := va_S.rf
  have Gc : Gx p s m [.ref (bs + 44), .int x1].toArray meth c cX10_endsOf 6 RX10 bs D y (some .long) 76 := ⟨hx, hb, hml, hown, hts, hK, hN, hL, hr, hlocks, hcb⟩
  have hl := lv_entry [.ref (bs + 44), .int x1] (n := 6) (Nat.le_of_ble_eq_true rfl)
  rw [lg_entry_eq]
  generalize (lg_sl [.ref (bs + 44), .int x1] ++ List.replicate (6 - (lg_sl [.ref (bs + 44), .int x1]).length) Slot.unset).toArray = ls at hl ⊢
  have hl : lv_has ls 6 [(0, .ref (bs + 44)), (1, .int x1)] := hl
  change W p l e (rmm 1 22) s m [.ref (bs + 44), .int x1].toArray below meth c s.heap [] 0 0 (QJ below [.ref (bs + 44), .int x1].toArray s bs D y r) (F0 m 0 ls [])
  unfold fX10_endsOf at h
  refine lv_lconst (v := (0 : Int64)) hx hb dX10_endsOf_0 (by decide) ?_
  refine lv_lstore_n (lv' := [(2, .long (0 : Int64)), (0, .ref (bs + 44)), (1, .int x1)]) hx hb dX10_endsOf_1 rfl hl (by decide) rfl (fun ls hl => ?_)
  refine lv_iconst (v := (0 : Int32)) hx hb dX10_endsOf_2 (by decide) ?_
  refine lv_istore (lv' := [(4, .int (0 : Int32)), (2, .long (0 : Int64)), (0, .ref (bs + 44)), (1, .int x1)]) hx hb dX10_endsOf_3 hl (by decide) rfl (fun ls hl => ?_)
  exact vX10_endsOf_5 bs D y n  r Gc  n x1 (0 : Int64) (0 : Int32) I J _ _ _ hP hS (lv_sub hl [2, 3, 1, 0] rfl) h
theorem dX10_costOf_0 : decode cX10_costOf 0 = .ok (.aload_n 0, 1) := by decide +kernel
theorem dX10_costOf_1 : decode cX10_costOf 1 = .ok (.iload_n 1, 1) := by decide +kernel
theorem dX10_costOf_2 : decode cX10_costOf 2 = .ok (.invokevirtual 267, 3) := by decide +kernel
theorem dX10_costOf_5 : decode cX10_costOf 5 = .ok (.lconst 1, 1) := by decide +kernel
theorem dX10_costOf_6 : decode cX10_costOf 6 = .ok (.aload_n 0, 1) := by decide +kernel
theorem dX10_costOf_7 : decode cX10_costOf 7 = .ok (.getfield 72, 3) := by decide +kernel
theorem dX10_costOf_10 : decode cX10_costOf 10 = .ok (.iload_n 1, 1) := by decide +kernel
theorem dX10_costOf_11 : decode cX10_costOf 11 = .ok (.iaload, 1) := by decide +kernel
theorem dX10_costOf_12 : decode cX10_costOf 12 = .ok (.lshl, 1) := by decide +kernel
theorem dX10_costOf_13 : decode cX10_costOf 13 = .ok (.lor, 1) := by decide +kernel
theorem dX10_costOf_14 : decode cX10_costOf 14 = .ok (.lstore_n 2, 1) := by decide +kernel
theorem dX10_costOf_15 : decode cX10_costOf 15 = .ok (.bipush 6, 2) := by decide +kernel
theorem dX10_costOf_17 : decode cX10_costOf 17 = .ok (.istore 4, 2) := by decide +kernel
theorem dX10_costOf_19 : decode cX10_costOf 19 = .ok (.iconst 0, 1) := by decide +kernel
theorem dX10_costOf_20 : decode cX10_costOf 20 = .ok (.istore 5, 2) := by decide +kernel
theorem dX10_costOf_22 : decode cX10_costOf 22 = .ok (.bipush 6, 2) := by decide +kernel
theorem dX10_costOf_24 : decode cX10_costOf 24 = .ok (.istore 6, 2) := by decide +kernel
theorem dX10_costOf_26 : decode cX10_costOf 26 = .ok (.iconst 0, 1) := by decide +kernel
theorem dX10_costOf_27 : decode cX10_costOf 27 = .ok (.istore 7, 2) := by decide +kernel
theorem dX10_costOf_29 : decode cX10_costOf 29 = .ok (.iconst 0, 1) := by decide +kernel
theorem dX10_costOf_30 : decode cX10_costOf 30 = .ok (.istore 8, 2) := by decide +kernel
theorem dX10_costOf_32 : decode cX10_costOf 32 = .ok (.iload 8, 2) := by decide +kernel
theorem dX10_costOf_34 : decode cX10_costOf 34 = .ok (.aload_n 0, 1) := by decide +kernel
theorem dX10_costOf_35 : decode cX10_costOf 35 = .ok (.invokevirtual 216, 3) := by decide +kernel
theorem dX10_costOf_38 : decode cX10_costOf 38 = .ok (.if_icmp .ge 85, 3) := by decide +kernel
theorem dX10_costOf_41 : decode cX10_costOf 41 = .ok (.lload_n 2, 1) := by decide +kernel
theorem dX10_costOf_42 : decode cX10_costOf 42 = .ok (.iload 8, 2) := by decide +kernel
theorem dX10_costOf_44 : decode cX10_costOf 44 = .ok (.lshr, 1) := by decide +kernel
theorem dX10_costOf_45 : decode cX10_costOf 45 = .ok (.lconst 1, 1) := by decide +kernel
theorem dX10_costOf_46 : decode cX10_costOf 46 = .ok (.land, 1) := by decide +kernel
theorem dX10_costOf_47 : decode cX10_costOf 47 = .ok (.lconst 0, 1) := by decide +kernel
theorem dX10_costOf_48 : decode cX10_costOf 48 = .ok (.lcmp, 1) := by decide +kernel
theorem dX10_costOf_49 : decode cX10_costOf 49 = .ok (.ifCond .ne 6, 3) := by decide +kernel
theorem dX10_costOf_52 : decode cX10_costOf 52 = .ok (.goto 65, 3) := by decide +kernel
theorem dX10_costOf_55 : decode cX10_costOf 55 = .ok (.iload 8, 2) := by decide +kernel
theorem dX10_costOf_57 : decode cX10_costOf 57 = .ok (.aload_n 0, 1) := by decide +kernel
theorem dX10_costOf_58 : decode cX10_costOf 58 = .ok (.getfield 56, 3) := by decide +kernel
theorem dX10_costOf_61 : decode cX10_costOf 61 = .ok (.irem, 1) := by decide +kernel
theorem dX10_costOf_62 : decode cX10_costOf 62 = .ok (.istore 9, 2) := by decide +kernel
theorem dX10_costOf_64 : decode cX10_costOf 64 = .ok (.iload 8, 2) := by decide +kernel
theorem dX10_costOf_66 : decode cX10_costOf 66 = .ok (.aload_n 0, 1) := by decide +kernel
theorem dX10_costOf_67 : decode cX10_costOf 67 = .ok (.getfield 56, 3) := by decide +kernel
theorem dX10_costOf_70 : decode cX10_costOf 70 = .ok (.idiv, 1) := by decide +kernel
theorem dX10_costOf_71 : decode cX10_costOf 71 = .ok (.istore 10, 2) := by decide +kernel
theorem dX10_costOf_73 : decode cX10_costOf 73 = .ok (.iload 9, 2) := by decide +kernel
theorem dX10_costOf_75 : decode cX10_costOf 75 = .ok (.iload 4, 2) := by decide +kernel
theorem dX10_costOf_77 : decode cX10_costOf 77 = .ok (.if_icmp .ge 7, 3) := by decide +kernel
theorem dX10_costOf_80 : decode cX10_costOf 80 = .ok (.iload 9, 2) := by decide +kernel
theorem dX10_costOf_82 : decode cX10_costOf 82 = .ok (.istore 4, 2) := by decide +kernel
theorem dX10_costOf_84 : decode cX10_costOf 84 = .ok (.iload 9, 2) := by decide +kernel
theorem dX10_costOf_86 : decode cX10_costOf 86 = .ok (.iload 5, 2) := by decide +kernel
theorem dX10_costOf_88 : decode cX10_costOf 88 = .ok (.if_icmp .le 7, 3) := by decide +kernel
theorem dX10_costOf_91 : decode cX10_costOf 91 = .ok (.iload 9, 2) := by decide +kernel
theorem dX10_costOf_93 : decode cX10_costOf 93 = .ok (.istore 5, 2) := by decide +kernel
theorem dX10_costOf_95 : decode cX10_costOf 95 = .ok (.iload 10, 2) := by decide +kernel
theorem dX10_costOf_97 : decode cX10_costOf 97 = .ok (.iload 6, 2) := by decide +kernel
theorem dX10_costOf_99 : decode cX10_costOf 99 = .ok (.if_icmp .ge 7, 3) := by decide +kernel
theorem dX10_costOf_102 : decode cX10_costOf 102 = .ok (.iload 10, 2) := by decide +kernel
theorem dX10_costOf_104 : decode cX10_costOf 104 = .ok (.istore 6, 2) := by decide +kernel
theorem dX10_costOf_106 : decode cX10_costOf 106 = .ok (.iload 10, 2) := by decide +kernel
theorem dX10_costOf_108 : decode cX10_costOf 108 = .ok (.iload 7, 2) := by decide +kernel
theorem dX10_costOf_110 : decode cX10_costOf 110 = .ok (.if_icmp .le 7, 3) := by decide +kernel
theorem dX10_costOf_113 : decode cX10_costOf 113 = .ok (.iload 10, 2) := by decide +kernel
theorem dX10_costOf_115 : decode cX10_costOf 115 = .ok (.istore 7, 2) := by decide +kernel
theorem dX10_costOf_117 : decode cX10_costOf 117 = .ok (.iinc 8 1, 3) := by decide +kernel
theorem dX10_costOf_120 : decode cX10_costOf 120 = .ok (.goto (-88), 3) := by decide +kernel
theorem dX10_costOf_123 : decode cX10_costOf 123 = .ok (.iload 5, 2) := by decide +kernel
theorem dX10_costOf_125 : decode cX10_costOf 125 = .ok (.iload 4, 2) := by decide +kernel
theorem dX10_costOf_127 : decode cX10_costOf 127 = .ok (.isub, 1) := by decide +kernel
theorem dX10_costOf_128 : decode cX10_costOf 128 = .ok (.iload 7, 2) := by decide +kernel
theorem dX10_costOf_130 : decode cX10_costOf 130 = .ok (.iadd, 1) := by decide +kernel
theorem dX10_costOf_131 : decode cX10_costOf 131 = .ok (.iload 6, 2) := by decide +kernel
theorem dX10_costOf_133 : decode cX10_costOf 133 = .ok (.isub, 1) := by decide +kernel
theorem dX10_costOf_134 : decode cX10_costOf 134 = .ok (.ireturn, 1) := by decide +kernel
set_option maxHeartbeats 4000000 in
set_option maxRecDepth 100000 in
theorem wX10_costOf_117 {p : Program} {l : Launch} {e : Env} {s : State} {m : MethodId} {args : Array Value} {below : List Frame} {meth : Method} {c : Code} (bs : Nat) (D : va_G) (y : Y3) (n : Nat) (k32_ : Int64 → Int32 → Int32 → Int32 → Int32 → Int32 → MI → MJ → Option (Int32 × M2)) (r : Int32 × M2) (Gc : Gx p s m args meth c cX10_costOf 11 RX10 bs D y (some .int) 76) (hk32_ : ∀ (x2 : Int64) (x4 : Int32) (x5 : Int32) (x6 : Int32) (x7 : Int32) (x8 : Int32) (I : MI) (J : MJ) (H : Heap) (locs : List Loc) (ls : Array Slot), va_P D vwCl (wl bs y I J) H → va_S (FA bs) s.heap H locs → lv_has ls 11 [(0, .ref (bs + 44)), (2, .long x2), (4, .int x4), (5, .int x5), (6, .int x6), (7, .int x7), (8, .int x8)] → k32_ x2 x4 x5 x6 x7 x8 I J = some r → W p l e (rmm 2 47) s m args below meth c H locs 0 0 (QI below args s bs D y r) (F0 m 32 ls [])) (x2 : Int64) (x4 : Int32) (x5 : Int32) (x6 : Int32) (x7 : Int32) (x8 : Int32) (I : MI) (J : MJ) (H : Heap) (locs : List Loc) (ls : Array Slot) (hP : va_P D vwCl (wl bs y I J) H) (hS : va_S (FA bs) s.heap H locs) (hl : lv_has ls 11 [(0, .ref (bs + 44)), (2, .long x2), (4, .int x4), (5, .int x5), (6, .int x6), (7, .int x7), (8, .int x8)]) (h : fX10_costOf_117 n k32_ x2 x4 x5 x6 x7 x8 I J = some r) : W p l e (rmm 2 47) s m args below meth c H locs 0 0 (QI below args s bs D y r) (F0 m 117 ls []) := by
  obtain ⟨hx, hb, hml, hown, hts, hK, hN, hL, hr, hlocks, hcb⟩ := id Gc
  unfold fX10_costOf_117 at h
  refine lv_iinc (v := (x8 + (1 : Int32))) (lv' := [(8, .int (x8 + (1 : Int32))), (0, .ref (bs + 44)), (2, .long x2), (4, .int x4), (5, .int x5), (6, .int x6), (7, .int x7)]) hx hb dX10_costOf_117 hl (k := 6) rfl rfl (by decide) rfl (fun ls hl => ?_)
  refine lv_goto (tgt := 32) hx hb dX10_costOf_120 (by decide) ?_
  exact hk32_ x2 x4 x5 x6 x7 (x8 + (1 : Int32)) I J _ _ _ hP hS (lv_sub hl [1, 2, 3, 4, 5, 6, 0] rfl) h
set_option maxHeartbeats 4000000 in
set_option maxRecDepth 100000 in
theorem wX10_costOf_106 {p : Program} {l : Launch} {e : Env} {s : State} {m : MethodId} {args : Array Value} {below : List Frame} {meth : Method} {c : Code} (bs : Nat) (D : va_G) (y : Y3) (n : Nat) (k32_ : Int64 → Int32 → Int32 → Int32 → Int32 → Int32 → MI → MJ → Option (Int32 × M2)) (r : Int32 × M2) (Gc : Gx p s m args meth c cX10_costOf 11 RX10 bs D y (some .int) 76) (hk32_ : ∀ (x2 : Int64) (x4 : Int32) (x5 : Int32) (x6 : Int32) (x7 : Int32) (x8 : Int32) (I : MI) (J : MJ) (H : Heap) (locs : List Loc) (ls : Array Slot), va_P D vwCl (wl bs y I J) H → va_S (FA bs) s.heap H locs → lv_has ls 11 [(0, .ref (bs + 44)), (2, .long x2), (4, .int x4), (5, .int x5), (6, .int x6), (7, .int x7), (8, .int x8)] → k32_ x2 x4 x5 x6 x7 x8 I J = some r → W p l e (rmm 2 47) s m args below meth c H locs 0 0 (QI below args s bs D y r) (F0 m 32 ls [])) (x2 : Int64) (x4 : Int32) (x5 : Int32) (x6 : Int32) (x7 : Int32) (x8 : Int32) (x10 : Int32) (I : MI) (J : MJ) (H : Heap) (locs : List Loc) (ls : Array Slot) (hP : va_P D vwCl (wl bs y I J) H) (hS : va_S (FA bs) s.heap H locs) (hl : lv_has ls 11 [(0, .ref (bs + 44)), (2, .long x2), (4, .int x4), (5, .int x5), (6, .int x6), (7, .int x7), (8, .int x8), (10, .int x10)]) (h : fX10_costOf_106 n k32_ x2 x4 x5 x6 x7 x8 x10 I J = some r) : W p l e (rmm 2 47) s m args below meth c H locs 0 0 (QI below args s bs D y r) (F0 m 106 ls []) := by
  obtain ⟨hx, hb, hml, hown, hts, hK, hN, hL, hr, hlocks, hcb⟩ := id Gc
  unfold fX10_costOf_106 at h
  refine lv_iload hx hb dX10_costOf_106 (lv_at hl 7 rfl) ?_
  refine lv_iload hx hb dX10_costOf_108 (lv_at hl 5 rfl) ?_
  refine lv_icmp_le (tgt := 117) hx hb dX10_costOf_110 (by decide) (fun c110 => ?_) (fun c110 => ?_)
  · replace h := if_t c110 h
    exact wX10_costOf_117 bs D y n k32_ r Gc hk32_ x2 x4 x5 x6 x7 x8 I J _ _ _ hP hS (lv_sub hl [0, 1, 2, 3, 4, 5, 6] rfl) h
  · replace h := if_f c110 h
    refine lv_iload hx hb dX10_costOf_113 (lv_at hl 7 rfl) ?_
    refine lv_istore (lv' := [(7, .int x10), (0, .ref (bs + 44)), (2, .long x2), (4, .int x4), (5, .int x5), (6, .int x6), (8, .int x8), (10, .int x10)]) hx hb dX10_costOf_115 hl (by decide) rfl (fun ls hl => ?_)
    exact wX10_costOf_117 bs D y n k32_ r Gc hk32_ x2 x4 x5 x6 x10 x8 I J _ _ _ hP hS (lv_sub hl [1, 2, 3, 4, 5, 0, 6] rfl) h
set_option maxHeartbeats 4000000 in
set_option maxRecDepth 100000 in
theorem wX10_costOf_95 {p : Program} {l : Launch} {e : Env} {s : State} {m : MethodId} {args : Array Value} {below : List Frame} {meth : Method} {c : Code} (bs : Nat) (D : va_G) (y : Y3) (n : Nat) (k32_ : Int64 → Int32 → Int32 → Int32 → Int32 → Int32 → MI → MJ → Option (Int32 × M2)) (r : Int32 × M2) (Gc : Gx p s m args meth c cX10_costOf 11 RX10 bs D y (some .int) 76) (hk32_ : ∀ (x2 : Int64) (x4 : Int32) (x5 : Int32) (x6 : Int32) (x7 : Int32) (x8 : Int32) (I : MI) (J : MJ) (H : Heap) (locs : List Loc) (ls : Array Slot), va_P D vwCl (wl bs y I J) H → va_S (FA bs) s.heap H locs → lv_has ls 11 [(0, .ref (bs + 44)), (2, .long x2), (4, .int x4), (5, .int x5), (6, .int x6), (7, .int x7), (8, .int x8)] → k32_ x2 x4 x5 x6 x7 x8 I J = some r → W p l e (rmm 2 47) s m args below meth c H locs 0 0 (QI below args s bs D y r) (F0 m 32 ls [])) (x2 : Int64) (x4 : Int32) (x5 : Int32) (x6 : Int32) (x7 : Int32) (x8 : Int32) (x10 : Int32) (I : MI) (J : MJ) (H : Heap) (locs : List Loc) (ls : Array Slot) (hP : va_P D vwCl (wl bs y I J) H) (hS : va_S (FA bs) s.heap H locs) (hl : lv_has ls 11 [(0, .ref (bs + 44)), (2, .long x2), (4, .int x4), (5, .int x5), (6, .int x6), (7, .int x7), (8, .int x8), (10, .int x10)]) (h : fX10_costOf_95 n k32_ x2 x4 x5 x6 x7 x8 x10 I J = some r) : W p l e (rmm 2 47) s m args below meth c H locs 0 0 (QI below args s bs D y r) (F0 m 95 ls []) := by
  obtain ⟨hx, hb, hml, hown, hts, hK, hN, hL, hr, hlocks, hcb⟩ := id Gc
  unfold fX10_costOf_95 at h
  refine lv_iload hx hb dX10_costOf_95 (lv_at hl 7 rfl) ?_
  refine lv_iload hx hb dX10_costOf_97 (lv_at hl 4 rfl) ?_
  refine lv_icmp_ge (tgt := 106) hx hb dX10_costOf_99 (by decide) (fun c99 => ?_) (fun c99 => ?_)
  · replace h := if_t c99 h
    exact wX10_costOf_106 bs D y n k32_ r Gc hk32_ x2 x4 x5 x6 x7 x8 x10 I J _ _ _ hP hS (lv_sub hl [0, 1, 2, 3, 4, 5, 6, 7] rfl) h
  · replace h := if_f c99 h
    refine lv_iload hx hb dX10_costOf_102 (lv_at hl 7 rfl) ?_
    refine lv_istore (lv' := [(6, .int x10), (0, .ref (bs + 44)), (2, .long x2), (4, .int x4), (5, .int x5), (7, .int x7), (8, .int x8), (10, .int x10)]) hx hb dX10_costOf_104 hl (by decide) rfl (fun ls hl => ?_)
    exact wX10_costOf_106 bs D y n k32_ r Gc hk32_ x2 x4 x5 x10 x7 x8 x10 I J _ _ _ hP hS (lv_sub hl [1, 2, 3, 4, 0, 5, 6, 7] rfl) h
set_option maxHeartbeats 4000000 in
set_option maxRecDepth 100000 in
theorem wX10_costOf_84 {p : Program} {l : Launch} {e : Env} {s : State} {m : MethodId} {args : Array Value} {below : List Frame} {meth : Method} {c : Code} (bs : Nat) (D : va_G) (y : Y3) (n : Nat) (k32_ : Int64 → Int32 → Int32 → Int32 → Int32 → Int32 → MI → MJ → Option (Int32 × M2)) (r : Int32 × M2) (Gc : Gx p s m args meth c cX10_costOf 11 RX10 bs D y (some .int) 76) (hk32_ : ∀ (x2 : Int64) (x4 : Int32) (x5 : Int32) (x6 : Int32) (x7 : Int32) (x8 : Int32) (I : MI) (J : MJ) (H : Heap) (locs : List Loc) (ls : Array Slot), va_P D vwCl (wl bs y I J) H → va_S (FA bs) s.heap H locs → lv_has ls 11 [(0, .ref (bs + 44)), (2, .long x2), (4, .int x4), (5, .int x5), (6, .int x6), (7, .int x7), (8, .int x8)] → k32_ x2 x4 x5 x6 x7 x8 I J = some r → W p l e (rmm 2 47) s m args below meth c H locs 0 0 (QI below args s bs D y r) (F0 m 32 ls [])) (x2 : Int64) (x4 : Int32) (x5 : Int32) (x6 : Int32) (x7 : Int32) (x8 : Int32) (x9 : Int32) (x10 : Int32) (I : MI) (J : MJ) (H : Heap) (locs : List Loc) (ls : Array Slot) (hP : va_P D vwCl (wl bs y I J) H) (hS : va_S (FA bs) s.heap H locs) (hl : lv_has ls 11 [(0, .ref (bs + 44)), (2, .long x2), (4, .int x4), (5, .int x5), (6, .int x6), (7, .int x7), (8, .int x8), (9, .int x9), (10, .int x10)]) (h : fX10_costOf_84 n k32_ x2 x4 x5 x6 x7 x8 x9 x10 I J = some r) : W p l e (rmm 2 47) s m args below meth c H locs 0 0 (QI below args s bs D y r) (F0 m 84 ls []) := by
  obtain ⟨hx, hb, hml, hown, hts, hK, hN, hL, hr, hlocks, hcb⟩ := id Gc
  unfold fX10_costOf_84 at h
  refine lv_iload hx hb dX10_costOf_84 (lv_at hl 7 rfl) ?_
  refine lv_iload hx hb dX10_costOf_86 (lv_at hl 3 rfl) ?_
  refine lv_icmp_le (tgt := 95) hx hb dX10_costOf_88 (by decide) (fun c88 => ?_) (fun c88 => ?_)
  · replace h := if_t c88 h
    exact wX10_costOf_95 bs D y n k32_ r Gc hk32_ x2 x4 x5 x6 x7 x8 x10 I J _ _ _ hP hS (lv_sub hl [0, 1, 2, 3, 4, 5, 6, 8] rfl) h
  · replace h := if_f c88 h
    refine lv_iload hx hb dX10_costOf_91 (lv_at hl 7 rfl) ?_
    refine lv_istore (lv' := [(5, .int x9), (0, .ref (bs + 44)), (2, .long x2), (4, .int x4), (6, .int x6), (7, .int x7), (8, .int x8), (9, .int x9), (10, .int x10)]) hx hb dX10_costOf_93 hl (by decide) rfl (fun ls hl => ?_)
    exact wX10_costOf_95 bs D y n k32_ r Gc hk32_ x2 x4 x9 x6 x7 x8 x10 I J _ _ _ hP hS (lv_sub hl [1, 2, 3, 0, 4, 5, 6, 8] rfl) h
set_option maxHeartbeats 4000000 in
set_option maxRecDepth 100000 in
theorem wX10_costOf_32 {p : Program} {l : Launch} {e : Env} {s : State} {m : MethodId} {args : Array Value} {below : List Frame} {meth : Method} {c : Code} (bs : Nat) (D : va_G) (y : Y3) (n : Nat) (k32_ : Int64 → Int32 → Int32 → Int32 → Int32 → Int32 → MI → MJ → Option (Int32 × M2)) (r : Int32 × M2) (Gc : Gx p s m args meth c cX10_costOf 11 RX10 bs D y (some .int) 76) (hk32_ : ∀ (x2 : Int64) (x4 : Int32) (x5 : Int32) (x6 : Int32) (x7 : Int32) (x8 : Int32) (I : MI) (J : MJ) (H : Heap) (locs : List Loc) (ls : Array Slot), va_P D vwCl (wl bs y I J) H → va_S (FA bs) s.heap H locs → lv_has ls 11 [(0, .ref (bs + 44)), (2, .long x2), (4, .int x4), (5, .int x5), (6, .int x6), (7, .int x7), (8, .int x8)] → k32_ x2 x4 x5 x6 x7 x8 I J = some r → W p l e (rmm 2 47) s m args below meth c H locs 0 0 (QI below args s bs D y r) (F0 m 32 ls [])) (x2 : Int64) (x4 : Int32) (x5 : Int32) (x6 : Int32) (x7 : Int32) (x8 : Int32) (I : MI) (J : MJ) (H : Heap) (locs : List Loc) (ls : Array Slot) (hP : va_P D vwCl (wl bs y I J) H) (hS : va_S (FA bs) s.heap H locs) (hl : lv_has ls 11 [(0, .ref (bs + 44)), (2, .long x2), (4, .int x4), (5, .int x5), (6, .int x6), (7, .int x7), (8, .int x8)]) (h : fX10_costOf_32 n k32_ x2 x4 x5 x6 x7 x8 I J = some r) : W p l e (rmm 2 47) s m args below meth c H locs 0 0 (QI below args s bs D y r) (F0 m 32 ls []) := by
  obtain ⟨hx, hb, hml, hown, hts, hK, hN, hL, hr, hlocks, hcb⟩ := id Gc
  unfold fX10_costOf_32 at h
  refine lv_iload hx hb dX10_costOf_32 (lv_at hl 6 rfl) ?_
  refine lv_aload_n hx hb dX10_costOf_34 rfl (lv_at hl 0 rfl) ?_
  obtain ⟨r35, er35, h⟩ := bd_s1 h
  refine c_VI (k := 44) (ci := 10) (As := []) (rest := [.int x8]) hx hb hml hown hts hK hN hL hP hS (cX10_tiles_ l bs D y hcb n  I J r35 er35) ok_X10_tiles ov_X10_tiles ml_132 ⟨Nat.le_of_ble_eq_true rfl, Nat.le_of_ble_eq_true rfl⟩ rfl hcb kd_44 hl.1 rfl rfl (Nat.le_of_ble_eq_true rfl) ⟨Nat.zero_le _, Nat.zero_le _⟩ dX10_costOf_35 (fun H locs hP hS => ?_)
  refine lv_icmp_ge (tgt := 123) hx hb dX10_costOf_38 (by decide) (fun c38 => ?_) (fun c38 => ?_)
  · replace h := if_t c38 h
    refine lv_iload hx hb dX10_costOf_123 (lv_at hl 3 rfl) ?_
    refine lv_iload hx hb dX10_costOf_125 (lv_at hl 2 rfl) ?_
    refine lv_isub hx hb dX10_costOf_127 ?_
    refine lv_iload hx hb dX10_costOf_128 (lv_at hl 5 rfl) ?_
    refine lv_iadd hx hb dX10_costOf_130 ?_
    refine lv_iload hx hb dX10_costOf_131 (lv_at hl 4 rfl) ?_
    refine lv_isub hx hb dX10_costOf_133 ?_
    exact r_I hx hb hr hlocks hP hK hN hL hS h dX10_costOf_134
  · replace h := if_f c38 h
    refine lv_lload_n hx hb dX10_costOf_41 rfl (lv_at hl 1 rfl) ?_
    refine lv_iload hx hb dX10_costOf_42 (lv_at hl 6 rfl) ?_
    refine lv_lshr (v := (shrL x2 x8)) hx hb dX10_costOf_44 rfl ?_
    refine lv_lconst (v := (1 : Int64)) hx hb dX10_costOf_45 (by decide) ?_
    refine lv_land hx hb dX10_costOf_46 ?_
    refine lv_lconst (v := (0 : Int64)) hx hb dX10_costOf_47 (by decide) ?_
    refine W.lcmp hx hb dX10_costOf_48 ?_
    refine lv_if_ne (tgt := 55) hx hb dX10_costOf_49 (by decide) (fun c49 => ?_) (fun c49 => ?_)
    · replace h := if_f c49 h
      refine lv_iload hx hb dX10_costOf_55 (lv_at hl 6 rfl) ?_
      refine lv_aload_n hx hb dX10_costOf_57 rfl (lv_at hl 0 rfl) ?_
      refine g_I (C := RX10) (T := TX10) (N := 49) (ci := 10) 44 24 hx hb hts hown hK hP in_X10 rfl hcb okF_44_24 fl_168 dX10_costOf_58 ?_
      obtain ⟨hz61, h⟩ := if_s1 h
      refine lv_irem hx hb dX10_costOf_61 (of_decide_eq_true hz61) ?_
      obtain ⟨v62, ev62, h⟩ := lt_s1 h
      refine top_i ev62 ?_
      refine lv_istore (lv' := [(9, .int v62), (0, .ref (bs + 44)), (2, .long x2), (4, .int x4), (5, .int x5), (6, .int x6), (7, .int x7), (8, .int x8)]) hx hb dX10_costOf_62 hl (by decide) rfl (fun ls hl => ?_)
      refine lv_iload hx hb dX10_costOf_64 (lv_at hl 7 rfl) ?_
      refine lv_aload_n hx hb dX10_costOf_66 rfl (lv_at hl 1 rfl) ?_
      refine g_I (C := RX10) (T := TX10) (N := 49) (ci := 10) 44 24 hx hb hts hown hK hP in_X10 rfl hcb okF_44_24 fl_168 dX10_costOf_67 ?_
      obtain ⟨hz70, h⟩ := if_s1 h
      refine lv_idiv hx hb dX10_costOf_70 (of_decide_eq_true hz70) ?_
      obtain ⟨v71, ev71, h⟩ := lt_s1 h
      refine top_i ev71 ?_
      refine lv_istore (lv' := [(10, .int v71), (9, .int v62), (0, .ref (bs + 44)), (2, .long x2), (4, .int x4), (5, .int x5), (6, .int x6), (7, .int x7), (8, .int x8)]) hx hb dX10_costOf_71 hl (by decide) rfl (fun ls hl => ?_)
      refine lv_iload hx hb dX10_costOf_73 (lv_at hl 1 rfl) ?_
      refine lv_iload hx hb dX10_costOf_75 (lv_at hl 4 rfl) ?_
      refine lv_icmp_ge (tgt := 84) hx hb dX10_costOf_77 (by decide) (fun c77 => ?_) (fun c77 => ?_)
      · replace h := if_t c77 h
        exact wX10_costOf_84 bs D y n k32_ r Gc hk32_ x2 x4 x5 x6 x7 x8 v62 v71 r35.2.1 r35.2.2 _ _ _ hP hS (lv_sub hl [2, 3, 4, 5, 6, 7, 8, 1, 0] rfl) h
      · replace h := if_f c77 h
        refine lv_iload hx hb dX10_costOf_80 (lv_at hl 1 rfl) ?_
        refine lv_istore (lv' := [(4, .int v62), (10, .int v71), (9, .int v62), (0, .ref (bs + 44)), (2, .long x2), (5, .int x5), (6, .int x6), (7, .int x7), (8, .int x8)]) hx hb dX10_costOf_82 hl (by decide) rfl (fun ls hl => ?_)
        exact wX10_costOf_84 bs D y n k32_ r Gc hk32_ x2 v62 x5 x6 x7 x8 v62 v71 r35.2.1 r35.2.2 _ _ _ hP hS (lv_sub hl [3, 4, 0, 5, 6, 7, 8, 2, 1] rfl) h
    · replace h := if_t c49 h
      refine lv_goto (tgt := 117) hx hb dX10_costOf_52 (by decide) ?_
      exact wX10_costOf_117 bs D y n k32_ r Gc hk32_ x2 x4 x5 x6 x7 x8 r35.2.1 r35.2.2 _ _ _ hP hS (lv_sub hl [0, 1, 2, 3, 4, 5, 6] rfl) h
theorem vX10_costOf_32 {p : Program} {l : Launch} {e : Env} {s : State} {m : MethodId} {args : Array Value} {below : List Frame} {meth : Method} {c : Code} (bs : Nat) (D : va_G) (y : Y3) (n : Nat) (r : Int32 × M2) (Gc : Gx p s m args meth c cX10_costOf 11 RX10 bs D y (some .int) 76)  : ∀ (q : Nat) (x2 : Int64) (x4 : Int32) (x5 : Int32) (x6 : Int32) (x7 : Int32) (x8 : Int32) (I : MI) (J : MJ) (H : Heap) (locs : List Loc) (ls : Array Slot), va_P D vwCl (wl bs y I J) H → va_S (FA bs) s.heap H locs → lv_has ls 11 [(0, .ref (bs + 44)), (2, .long x2), (4, .int x4), (5, .int x5), (6, .int x6), (7, .int x7), (8, .int x8)] → lX10_costOf_32 n  q x2 x4 x5 x6 x7 x8 I J = some r → W p l e (rmm 2 47) s m args below meth c H locs 0 0 (QI below args s bs D y r) (F0 m 32 ls []) := by
  intro q
  induction q with
  | zero =>
    intro x2 x4 x5 x6 x7 x8 I J H locs ls hP hS hl h
    have h : (none : Option (Int32 × M2)) = some r := h
    cases h
  | succ q ih =>
    intro x2 x4 x5 x6 x7 x8 I J H locs ls hP hS hl h
    have h : fX10_costOf_32 n  (lX10_costOf_32 n  q) x2 x4 x5 x6 x7 x8 I J = some r := h
    exact wX10_costOf_32 bs D y n  (lX10_costOf_32 n  q) r Gc  ih x2 x4 x5 x6 x7 x8 I J H locs ls hP hS hl h
set_option maxHeartbeats 4000000 in
set_option maxRecDepth 100000 in
theorem cX10_costOf_ (l : Launch) (bs : Nat) (D : va_G) (y : Y3) (hcb : 76 ≤ y.2.2.2) (n : Nat) (x1 : Int32) (I : MI) (J : MJ) (r : Int32 × M2) (h : fX10_costOf n x1 I J = some r) : Met l yX10_costOf (.code yX10_costOf cX10_costOf 11 (some .int) :: gtb) (rmm 2 47) (va_Pc [.ref (bs + 44), .int x1] (HB bs D y I J)) (QcI bs D y r) 0 0 (FA bs) := by
  refine Met.ofW (cc := cX10_costOf) (maxL := 11) (ret := (some .int)) (by decide) rfl ?_
  intro p e s m args below meth c s₁ B hml hv
  obtain ⟨rfl, hP, hK, hN, hL⟩ := hv
  have hx := B.exec
  have hb := B.bytes
  have hr := B.returns
  have hts0 := atoms_spec (ws := .code yX10_costOf cX10_costOf 11 (some .int) :: gtb) B.pre
  have hts : ∀ w ∈ gtb, w.before [.ref (bs + 44), .int x1].toArray s = true := fun w hw => hts0 w (List.mem_cons_of_mem _ hw)
  have hown : s.vm.findClass RX10 = some m.cls := findClass_of_methodNamed B.named
  have hlocks := B.notSynchronized
  have hS : va_S (FA bs) s.heap s.heap [] := va_S.rf
  have Gc : Gx p s m [.ref (bs + 44), .int x1].toArray meth c cX10_costOf 11 RX10 bs D y (some .int) 76 := ⟨hx, hb, hml, hown, hts, hK, hN, hL, hr, hlocks, hcb⟩
  have hl := lv_entry [.ref (bs + 44), .int x1] (n := 11) (Nat.le_of_ble_eq_true rfl)
  rw [lg_entry_eq]
  generalize (lg_sl [.ref (bs + 44), .int x1] ++ List.replicate (11 - (lg_sl [.ref (bs + 44), .int x1]).length) Slot.unset).toArray = ls at hl ⊢
  have hl : lv_has ls 11 [(0, .ref (bs + 44)), (1, .int x1)] := hl
  change W p l e (rmm 2 47) s m [.ref (bs + 44), .int x1].toArray below meth c s.heap [] 0 0 (QI below [.ref (bs + 44), .int x1].toArray s bs D y r) (F0 m 0 ls [])
  unfold fX10_costOf at h
  refine lv_aload_n hx hb dX10_costOf_0 rfl (lv_at hl 0 rfl) ?_
  refine lv_iload_n hx hb dX10_costOf_1 rfl (lv_at hl 1 rfl) ?_
  obtain ⟨r2, er2, h⟩ := bd_s1 h
  refine c_VJ (k := 44) (ci := 10) (As := [.int x1]) (rest := []) hx hb hml hown hts hK hN hL hP hS (cX10_endsOf_ l bs D y hcb n x1 I J r2 er2) ok_X10_endsOf ov_X10_endsOf ml_143 ⟨Nat.le_of_ble_eq_true rfl, Nat.le_of_ble_eq_true rfl⟩ rfl hcb kd_44 hl.1 rfl rfl (Nat.le_of_ble_eq_true rfl) ⟨Nat.zero_le _, Nat.zero_le _⟩ dX10_costOf_2 (fun H locs hP hS => ?_)
  refine lv_lconst (v := (1 : Int64)) hx hb dX10_costOf_5 (by decide) ?_
  refine lv_aload_n hx hb dX10_costOf_6 rfl (lv_at hl 0 rfl) ?_
  refine g_R (C := RX10) (T := TX10) (N := 49) (ci := 10) 44 29 61 hx hb hts hown hK hP in_X10 rfl hcb okF_44_29 rfc_44_29 fl_173 dX10_costOf_7 ?_
  refine lv_iload_n hx hb dX10_costOf_10 rfl (lv_at hl 1 rfl) ?_
  obtain ⟨hi11, h⟩ := if_s1 h
  refine a_I 61 hx hb hK hP hcb aln_61 hi11 dX10_costOf_11 ?_
  refine lv_lshl (v := (shlL (1 : Int64) (r2.2.1 61 (x1).toNatClampNeg))) hx hb dX10_costOf_12 rfl ?_
  refine lv_lor hx hb dX10_costOf_13 ?_
  obtain ⟨v14, ev14, h⟩ := lt_s1 h
  refine top_j ev14 ?_
  refine lv_lstore_n (lv' := [(2, .long v14), (0, .ref (bs + 44)), (1, .int x1)]) hx hb dX10_costOf_14 rfl hl (by decide) rfl (fun ls hl => ?_)
  refine lv_bipush (v := (6 : Int32)) hx hb dX10_costOf_15 (by decide) ?_
  refine lv_istore (lv' := [(4, .int (6 : Int32)), (2, .long v14), (0, .ref (bs + 44)), (1, .int x1)]) hx hb dX10_costOf_17 hl (by decide) rfl (fun ls hl => ?_)
  refine lv_iconst (v := (0 : Int32)) hx hb dX10_costOf_19 (by decide) ?_
  refine lv_istore (lv' := [(5, .int (0 : Int32)), (4, .int (6 : Int32)), (2, .long v14), (0, .ref (bs + 44)), (1, .int x1)]) hx hb dX10_costOf_20 hl (by decide) rfl (fun ls hl => ?_)
  refine lv_bipush (v := (6 : Int32)) hx hb dX10_costOf_22 (by decide) ?_
  refine lv_istore (lv' := [(6, .int (6 : Int32)), (5, .int (0 : Int32)), (4, .int (6 : Int32)), (2, .long v14), (0, .ref (bs + 44)), (1, .int x1)]) hx hb dX10_costOf_24 hl (by decide) rfl (fun ls hl => ?_)
  refine lv_iconst (v := (0 : Int32)) hx hb dX10_costOf_26 (by decide) ?_
  refine lv_istore (lv' := [(7, .int (0 : Int32)), (6, .int (6 : Int32)), (5, .int (0 : Int32)), (4, .int (6 : Int32)), (2, .long v14), (0, .ref (bs + 44)), (1, .int x1)]) hx hb dX10_costOf_27 hl (by decide) rfl (fun ls hl => ?_)
  refine lv_iconst (v := (0 : Int32)) hx hb dX10_costOf_29 (by decide) ?_
  refine lv_istore (lv' := [(8, .int (0 : Int32)), (7, .int (0 : Int32)), (6, .int (6 : Int32)), (5, .int (0 : Int32)), (4, .int (6 : Int32)), (2, .long v14), (0, .ref (bs + 44)), (1, .int x1)]) hx hb dX10_costOf_30 hl (by decide) rfl (fun ls hl => ?_)
  exact vX10_costOf_32 bs D y n  r Gc  n v14 (6 : Int32) (0 : Int32) (6 : Int32) (0 : Int32) (0 : Int32) r2.2.1 r2.2.2 _ _ _ hP hS (lv_sub hl [6, 5, 4, 3, 2, 1, 0] rfl) h
theorem dX10_costs_0 : decode cX10_costs 0 = .ok (.iconst 0, 1) := by decide +kernel
theorem dX10_costs_1 : decode cX10_costs 1 = .ok (.istore_n 1, 1) := by decide +kernel
theorem dX10_costs_2 : decode cX10_costs 2 = .ok (.iconst 0, 1) := by decide +kernel
theorem dX10_costs_3 : decode cX10_costs 3 = .ok (.istore_n 2, 1) := by decide +kernel
theorem dX10_costs_4 : decode cX10_costs 4 = .ok (.iload_n 2, 1) := by decide +kernel
theorem dX10_costs_5 : decode cX10_costs 5 = .ok (.aload_n 0, 1) := by decide +kernel
theorem dX10_costs_6 : decode cX10_costs 6 = .ok (.getfield 123, 3) := by decide +kernel
theorem dX10_costs_9 : decode cX10_costs 9 = .ok (.if_icmp .ge 29, 3) := by decide +kernel
theorem dX10_costs_12 : decode cX10_costs 12 = .ok (.iload_n 1, 1) := by decide +kernel
theorem dX10_costs_13 : decode cX10_costs 13 = .ok (.aload_n 0, 1) := by decide +kernel
theorem dX10_costs_14 : decode cX10_costs 14 = .ok (.iload_n 2, 1) := by decide +kernel
theorem dX10_costs_15 : decode cX10_costs 15 = .ok (.invokevirtual 236, 3) := by decide +kernel
theorem dX10_costs_18 : decode cX10_costs 18 = .ok (.ifCond .eq 11, 3) := by decide +kernel
theorem dX10_costs_21 : decode cX10_costs 21 = .ok (.aload_n 0, 1) := by decide +kernel
theorem dX10_costs_22 : decode cX10_costs 22 = .ok (.iload_n 2, 1) := by decide +kernel
theorem dX10_costs_23 : decode cX10_costs 23 = .ok (.invokevirtual 271, 3) := by decide +kernel
theorem dX10_costs_26 : decode cX10_costs 26 = .ok (.goto 4, 3) := by decide +kernel
theorem dX10_costs_29 : decode cX10_costs 29 = .ok (.iconst 0, 1) := by decide +kernel
theorem dX10_costs_30 : decode cX10_costs 30 = .ok (.iadd, 1) := by decide +kernel
theorem dX10_costs_31 : decode cX10_costs 31 = .ok (.istore_n 1, 1) := by decide +kernel
theorem dX10_costs_32 : decode cX10_costs 32 = .ok (.iinc 2 1, 3) := by decide +kernel
theorem dX10_costs_35 : decode cX10_costs 35 = .ok (.goto (-31), 3) := by decide +kernel
theorem dX10_costs_38 : decode cX10_costs 38 = .ok (.iload_n 1, 1) := by decide +kernel
theorem dX10_costs_39 : decode cX10_costs 39 = .ok (.ireturn, 1) := by decide +kernel
set_option maxHeartbeats 4000000 in
set_option maxRecDepth 100000 in
theorem wX10_costs_30 {p : Program} {l : Launch} {e : Env} {s : State} {m : MethodId} {args : Array Value} {below : List Frame} {meth : Method} {c : Code} (bs : Nat) (D : va_G) (y : Y3) (n : Nat) (k4_ : Int32 → Int32 → MI → MJ → Option (Int32 × M2)) (r : Int32 × M2) (Gc : Gx p s m args meth c cX10_costs 3 RX10 bs D y (some .int) 76) (hk4_ : ∀ (x1 : Int32) (x2 : Int32) (I : MI) (J : MJ) (H : Heap) (locs : List Loc) (ls : Array Slot), va_P D vwCl (wl bs y I J) H → va_S (FA bs) s.heap H locs → lv_has ls 3 [(0, .ref (bs + 44)), (1, .int x1), (2, .int x2)] → k4_ x1 x2 I J = some r → W p l e (rmm 3 77) s m args below meth c H locs 0 0 (QI below args s bs D y r) (F0 m 4 ls [])) (x2 : Int32) (s0 : Int32) (s1 : Int32) (I : MI) (J : MJ) (H : Heap) (locs : List Loc) (ls : Array Slot) (hP : va_P D vwCl (wl bs y I J) H) (hS : va_S (FA bs) s.heap H locs) (hl : lv_has ls 3 [(0, .ref (bs + 44)), (2, .int x2)]) (h : fX10_costs_30 n k4_ x2 s0 s1 I J = some r) : W p l e (rmm 3 77) s m args below meth c H locs 0 0 (QI below args s bs D y r) (F0 m 30 ls [.int s1, .int s0]) := by
  obtain ⟨hx, hb, hml, hown, hts, hK, hN, hL, hr, hlocks, hcb⟩ := id Gc
  unfold fX10_costs_30 at h
  refine lv_iadd hx hb dX10_costs_30 ?_
  obtain ⟨v31, ev31, h⟩ := lt_s1 h
  refine top_i ev31 ?_
  refine lv_istore_n (lv' := [(1, .int v31), (0, .ref (bs + 44)), (2, .int x2)]) hx hb dX10_costs_31 rfl hl (by decide) rfl (fun ls hl => ?_)
  refine lv_iinc (v := (x2 + (1 : Int32))) (lv' := [(2, .int (x2 + (1 : Int32))), (1, .int v31), (0, .ref (bs + 44))]) hx hb dX10_costs_32 hl (k := 2) rfl rfl (by decide) rfl (fun ls hl => ?_)
  refine lv_goto (tgt := 4) hx hb dX10_costs_35 (by decide) ?_
  exact hk4_ v31 (x2 + (1 : Int32)) I J _ _ _ hP hS (lv_sub hl [2, 1, 0] rfl) h
set_option maxHeartbeats 4000000 in
set_option maxRecDepth 100000 in
theorem wX10_costs_4 {p : Program} {l : Launch} {e : Env} {s : State} {m : MethodId} {args : Array Value} {below : List Frame} {meth : Method} {c : Code} (bs : Nat) (D : va_G) (y : Y3) (n : Nat) (k4_ : Int32 → Int32 → MI → MJ → Option (Int32 × M2)) (r : Int32 × M2) (Gc : Gx p s m args meth c cX10_costs 3 RX10 bs D y (some .int) 76) (hk4_ : ∀ (x1 : Int32) (x2 : Int32) (I : MI) (J : MJ) (H : Heap) (locs : List Loc) (ls : Array Slot), va_P D vwCl (wl bs y I J) H → va_S (FA bs) s.heap H locs → lv_has ls 3 [(0, .ref (bs + 44)), (1, .int x1), (2, .int x2)] → k4_ x1 x2 I J = some r → W p l e (rmm 3 77) s m args below meth c H locs 0 0 (QI below args s bs D y r) (F0 m 4 ls [])) (x1 : Int32) (x2 : Int32) (I : MI) (J : MJ) (H : Heap) (locs : List Loc) (ls : Array Slot) (hP : va_P D vwCl (wl bs y I J) H) (hS : va_S (FA bs) s.heap H locs) (hl : lv_has ls 3 [(0, .ref (bs + 44)), (1, .int x1), (2, .int x2)]) (h : fX10_costs_4 n k4_ x1 x2 I J = some r) : W p l e (rmm 3 77) s m args below meth c H locs 0 0 (QI below args s bs D y r) (F0 m 4 ls []) := by
  obtain ⟨hx, hb, hml, hown, hts, hK, hN, hL, hr, hlocks, hcb⟩ := id Gc
  unfold fX10_costs_4 at h
  refine lv_iload_n hx hb dX10_costs_4 rfl (lv_at hl 2 rfl) ?_
  refine lv_aload_n hx hb dX10_costs_5 rfl (lv_at hl 0 rfl) ?_
  refine g_I (C := RX10) (T := TX10) (N := 49) (ci := 10) 44 6 hx hb hts hown hK hP in_X10 rfl hcb okF_44_6 fl_141 dX10_costs_6 ?_
  refine lv_icmp_ge (tgt := 38) hx hb dX10_costs_9 (by decide) (fun c9 => ?_) (fun c9 => ?_)
  · replace h := if_t c9 h
    refine lv_iload_n hx hb dX10_costs_38 rfl (lv_at hl 1 rfl) ?_
    exact r_I hx hb hr hlocks hP hK hN hL hS h dX10_costs_39
  · replace h := if_f c9 h
    refine lv_iload_n hx hb dX10_costs_12 rfl (lv_at hl 1 rfl) ?_
    refine lv_aload_n hx hb dX10_costs_13 rfl (lv_at hl 0 rfl) ?_
    refine lv_iload_n hx hb dX10_costs_14 rfl (lv_at hl 2 rfl) ?_
    obtain ⟨r15, er15, h⟩ := bd_s1 h
    refine c_VI (k := 44) (ci := 10) (As := [.int x2]) (rest := [.int x1]) hx hb hml hown hts hK hN hL hP hS (cX10_isThing_ l bs D y hcb n x2 I J r15 er15) ok_X10_isThing ov_X10_isThing ml_137 ⟨Nat.le_of_ble_eq_true rfl, Nat.le_of_ble_eq_true rfl⟩ rfl hcb kd_44 hl.1 rfl rfl (Nat.le_of_ble_eq_true rfl) ⟨Nat.zero_le _, Nat.zero_le _⟩ dX10_costs_15 (fun H locs hP hS => ?_)
    refine lv_if_eq (tgt := 29) hx hb dX10_costs_18 (by decide) (fun c18 => ?_) (fun c18 => ?_)
    · replace h := if_t c18 h
      refine lv_iconst (v := (0 : Int32)) hx hb dX10_costs_29 (by decide) ?_
      exact wX10_costs_30 bs D y n k4_ r Gc hk4_ x2 x1 (0 : Int32) r15.2.1 r15.2.2 _ _ _ hP hS (lv_sub hl [0, 2] rfl) h
    · replace h := if_f c18 h
      refine lv_aload_n hx hb dX10_costs_21 rfl (lv_at hl 0 rfl) ?_
      refine lv_iload_n hx hb dX10_costs_22 rfl (lv_at hl 2 rfl) ?_
      obtain ⟨r23, er23, h⟩ := bd_s1 h
      refine c_VI (k := 44) (ci := 10) (As := [.int x2]) (rest := [.int x1]) hx hb hml hown hts hK hN hL hP hS (cX10_costOf_ l bs D y hcb n x2 r15.2.1 r15.2.2 r23 er23) ok_X10_costOf ov_X10_costOf ml_144 ⟨Nat.le_of_ble_eq_true rfl, Nat.le_of_ble_eq_true rfl⟩ rfl hcb kd_44 hl.1 rfl rfl (Nat.le_of_ble_eq_true rfl) ⟨Nat.zero_le _, Nat.zero_le _⟩ dX10_costs_23 (fun H locs hP hS => ?_)
      refine lv_goto (tgt := 30) hx hb dX10_costs_26 (by decide) ?_
      exact wX10_costs_30 bs D y n k4_ r Gc hk4_ x2 x1 r23.1 r23.2.1 r23.2.2 _ _ _ hP hS (lv_sub hl [0, 2] rfl) h
theorem vX10_costs_4 {p : Program} {l : Launch} {e : Env} {s : State} {m : MethodId} {args : Array Value} {below : List Frame} {meth : Method} {c : Code} (bs : Nat) (D : va_G) (y : Y3) (n : Nat) (r : Int32 × M2) (Gc : Gx p s m args meth c cX10_costs 3 RX10 bs D y (some .int) 76)  : ∀ (q : Nat) (x1 : Int32) (x2 : Int32) (I : MI) (J : MJ) (H : Heap) (locs : List Loc) (ls : Array Slot), va_P D vwCl (wl bs y I J) H → va_S (FA bs) s.heap H locs → lv_has ls 3 [(0, .ref (bs + 44)), (1, .int x1), (2, .int x2)] → lX10_costs_4 n  q x1 x2 I J = some r → W p l e (rmm 3 77) s m args below meth c H locs 0 0 (QI below args s bs D y r) (F0 m 4 ls []) := by
  intro q
  induction q with
  | zero =>
    intro x1 x2 I J H locs ls hP hS hl h
    have h : (none : Option (Int32 × M2)) = some r := h
    cases h
  | succ q ih =>
    intro x1 x2 I J H locs ls hP hS hl h
    have h : fX10_costs_4 n  (lX10_costs_4 n  q) x1 x2 I J = some r := h
    exact wX10_costs_4 bs D y n  (lX10_costs_4 n  q) r Gc  ih x1 x2 I J H locs ls hP hS hl h
set_option maxHeartbeats 4000000 in
set_option maxRecDepth 100000 in
theorem cX10_costs_ (l : Launch) (bs : Nat) (D : va_G) (y : Y3) (hcb : 76 ≤ y.2.2.2) (n : Nat) (I : MI) (J : MJ) (r : Int32 × M2) (h : fX10_costs n  I J = some r) : Met l yX10_costs (.code yX10_costs cX10_costs 3 (some .int) :: gtb) (rmm 3 77) (va_Pc [.ref (bs + 44)] (HB bs D y I J)) (QcI bs D y r) 0 0 (FA bs) := by
  refine Met.ofW (cc := cX10_costs) (maxL := 3) (ret := (some .int)) (by decide) rfl ?_
  intro p e s m args below meth c s₁ B hml hv
  obtain ⟨rfl, hP, hK, hN, hL⟩ := hv
  have hx := B.exec
  have hb := B.bytes
  have hr := B.returns
  have hts0 := atoms_spec (ws := .code yX10_costs cX10_costs 3 (some .int) :: gtb) B.pre
  have hts : ∀ w ∈ gtb, w.before [.ref (bs + 44)].toArray s = true := fun w hw => hts0 w (List.mem_cons_of_mem _ hw)
  have hown : s.vm.findClass RX10 = some m.cls := findClass_of_methodNamed B.named
  have hlocks := B.notSynchronized
  have hS : va_S (FA bs) s.heap s.heap [] := va_S.rf
  have Gc : Gx p s m [.ref (bs + 44)].toArray meth c cX10_costs 3 RX10 bs D y (some .int) 76 := ⟨hx, hb, hml, hown, hts, hK, hN, hL, hr, hlocks, hcb⟩
  have hl := lv_entry [.ref (bs + 44)] (n := 3) (Nat.le_of_ble_eq_true rfl)
  rw [lg_entry_eq]
  generalize (lg_sl [.ref (bs + 44)] ++ List.replicate (3 - (lg_sl [.ref (bs + 44)]).length) Slot.unset).toArray = ls at hl ⊢
  have hl : lv_has ls 3 [(0, .ref (bs + 44))] := hl
  change W p l e (rmm 3 77) s m [.ref (bs + 44)].toArray below meth c s.heap [] 0 0 (QI below [.ref (bs + 44)].toArray s bs D y r) (F0 m 0 ls [])
  unfold fX10_costs at h
  refine lv_iconst (v := (0 : Int32)) hx hb dX10_costs_0 (by decide) ?_
  refine lv_istore_n (lv' := [(1, .int (0 : Int32)), (0, .ref (bs + 44))]) hx hb dX10_costs_1 rfl hl (by decide) rfl (fun ls hl => ?_)
  refine lv_iconst (v := (0 : Int32)) hx hb dX10_costs_2 (by decide) ?_
  refine lv_istore_n (lv' := [(2, .int (0 : Int32)), (1, .int (0 : Int32)), (0, .ref (bs + 44))]) hx hb dX10_costs_3 rfl hl (by decide) rfl (fun ls hl => ?_)
  exact vX10_costs_4 bs D y n  r Gc  n (0 : Int32) (0 : Int32) I J _ _ _ hP hS (lv_sub hl [2, 1, 0] rfl) h
theorem dX10_swap_0 : decode cX10_swap 0 = .ok (.aload_n 0, 1) := by decide +kernel
theorem dX10_swap_1 : decode cX10_swap 1 = .ok (.iload_n 1, 1) := by decide +kernel
theorem dX10_swap_2 : decode cX10_swap 2 = .ok (.invokevirtual 172, 3) := by decide +kernel
theorem dX10_swap_5 : decode cX10_swap 5 = .ok (.ifCond .eq 11, 3) := by decide +kernel
theorem dX10_swap_8 : decode cX10_swap 8 = .ok (.aload_n 0, 1) := by decide +kernel
theorem dX10_swap_9 : decode cX10_swap 9 = .ok (.iload_n 2, 1) := by decide +kernel
theorem dX10_swap_10 : decode cX10_swap 10 = .ok (.invokevirtual 172, 3) := by decide +kernel
theorem dX10_swap_13 : decode cX10_swap 13 = .ok (.ifCond .ne 8, 3) := by decide +kernel
theorem dX10_swap_16 : decode cX10_swap 16 = .ok (.bipush (-3), 2) := by decide +kernel
theorem dX10_swap_18 : decode cX10_swap 18 = .ok (.goto 8, 3) := by decide +kernel
theorem dX10_swap_21 : decode cX10_swap 21 = .ok (.aload_n 0, 1) := by decide +kernel
theorem dX10_swap_22 : decode cX10_swap 22 = .ok (.iload_n 1, 1) := by decide +kernel
theorem dX10_swap_23 : decode cX10_swap 23 = .ok (.invokevirtual 245, 3) := by decide +kernel
theorem dX10_swap_26 : decode cX10_swap 26 = .ok (.istore_n 3, 1) := by decide +kernel
theorem dX10_swap_27 : decode cX10_swap 27 = .ok (.iload_n 3, 1) := by decide +kernel
theorem dX10_swap_28 : decode cX10_swap 28 = .ok (.ifCond .ne 9, 3) := by decide +kernel
theorem dX10_swap_31 : decode cX10_swap 31 = .ok (.aload_n 0, 1) := by decide +kernel
theorem dX10_swap_32 : decode cX10_swap 32 = .ok (.iload_n 2, 1) := by decide +kernel
theorem dX10_swap_33 : decode cX10_swap 33 = .ok (.invokevirtual 245, 3) := by decide +kernel
theorem dX10_swap_36 : decode cX10_swap 36 = .ok (.istore_n 3, 1) := by decide +kernel
theorem dX10_swap_37 : decode cX10_swap 37 = .ok (.iload_n 3, 1) := by decide +kernel
theorem dX10_swap_38 : decode cX10_swap 38 = .ok (.ifCond .eq 9, 3) := by decide +kernel
theorem dX10_swap_41 : decode cX10_swap 41 = .ok (.aload_n 0, 1) := by decide +kernel
theorem dX10_swap_42 : decode cX10_swap 42 = .ok (.iload_n 3, 1) := by decide +kernel
theorem dX10_swap_43 : decode cX10_swap 43 = .ok (.invokevirtual 151, 3) := by decide +kernel
theorem dX10_swap_46 : decode cX10_swap 46 = .ok (.ireturn, 1) := by decide +kernel
theorem dX10_swap_47 : decode cX10_swap 47 = .ok (.aload_n 0, 1) := by decide +kernel
theorem dX10_swap_48 : decode cX10_swap 48 = .ok (.iload_n 1, 1) := by decide +kernel
theorem dX10_swap_49 : decode cX10_swap 49 = .ok (.iload_n 2, 1) := by decide +kernel
theorem dX10_swap_50 : decode cX10_swap 50 = .ok (.invokevirtual 248, 3) := by decide +kernel
theorem dX10_swap_53 : decode cX10_swap 53 = .ok (.aload_n 0, 1) := by decide +kernel
theorem dX10_swap_54 : decode cX10_swap 54 = .ok (.invokevirtual 220, 3) := by decide +kernel
theorem dX10_swap_57 : decode cX10_swap 57 = .ok (.aload_n 0, 1) := by decide +kernel
theorem dX10_swap_58 : decode cX10_swap 58 = .ok (.invokevirtual 251, 3) := by decide +kernel
theorem dX10_swap_61 : decode cX10_swap 61 = .ok (.ireturn, 1) := by decide +kernel
set_option maxHeartbeats 4000000 in
set_option maxRecDepth 100000 in
theorem wX10_swap_37 {p : Program} {l : Launch} {e : Env} {s : State} {m : MethodId} {args : Array Value} {below : List Frame} {meth : Method} {c : Code} (bs : Nat) (D : va_G) (y : Y3) (n : Nat) (r : Int32 × M2) (Gc : Gx p s m args meth c cX10_swap 4 RX10 bs D y (some .int) 76)  (x1 : Int32) (x2 : Int32) (x3 : Int32) (I : MI) (J : MJ) (H : Heap) (locs : List Loc) (ls : Array Slot) (hP : va_P D vwCl (wl bs y I J) H) (hS : va_S (FA bs) s.heap H locs) (hl : lv_has ls 4 [(0, .ref (bs + 44)), (1, .int x1), (2, .int x2), (3, .int x3)]) (h : fX10_swap_37 n  x1 x2 x3 I J = some r) : W p l e (rmm 4 99) s m args below meth c H locs 0 0 (QI below args s bs D y r) (F0 m 37 ls []) := by
  obtain ⟨hx, hb, hml, hown, hts, hK, hN, hL, hr, hlocks, hcb⟩ := id Gc
  unfold fX10_swap_37 at h
  refine lv_iload_n hx hb dX10_swap_37 rfl (lv_at hl 3 rfl) ?_
  refine lv_if_eq (tgt := 47) hx hb dX10_swap_38 (by decide) (fun c38 => ?_) (fun c38 => ?_)
  · replace h := if_t c38 h
    refine lv_aload_n hx hb dX10_swap_47 rfl (lv_at hl 0 rfl) ?_
    refine lv_iload_n hx hb dX10_swap_48 rfl (lv_at hl 1 rfl) ?_
    refine lv_iload_n hx hb dX10_swap_49 rfl (lv_at hl 2 rfl) ?_
    obtain ⟨r50, er50, h⟩ := bd_s1 h
    refine c_VV (k := 44) (ci := 10) (As := [.int x1, .int x2]) (rest := []) hx hb hml hown hts hK hN hL hP hS (cX10_swaps_ l bs D y hcb n x1 x2 I J r50 er50) ok_X10_swaps ov_X10_swaps ml_145 ⟨Nat.le_of_ble_eq_true rfl, Nat.le_of_ble_eq_true rfl⟩ rfl hcb kd_44 hl.1 rfl rfl (Nat.le_of_ble_eq_true rfl) ⟨Nat.zero_le _, Nat.zero_le _⟩ dX10_swap_50 (fun H locs hP hS => ?_)
    refine lv_aload_n hx hb dX10_swap_53 rfl (lv_at hl 0 rfl) ?_
    obtain ⟨r54, er54, h⟩ := bd_s1 h
    refine c_VV (k := 44) (ci := 10) (As := []) (rest := []) hx hb hml hown hts hK hN hL hP hS (cX10_moved_ l bs D y hcb n  r50.1 r50.2 r54 er54) ok_X10_moved ov_X10_moved ml_133 ⟨Nat.le_of_ble_eq_true rfl, Nat.le_of_ble_eq_true rfl⟩ rfl hcb kd_44 hl.1 rfl rfl (Nat.le_of_ble_eq_true rfl) ⟨Nat.zero_le _, Nat.zero_le _⟩ dX10_swap_54 (fun H locs hP hS => ?_)
    refine lv_aload_n hx hb dX10_swap_57 rfl (lv_at hl 0 rfl) ?_
    obtain ⟨r58, er58, h⟩ := bd_s1 h
    refine c_VI (k := 44) (ci := 10) (As := []) (rest := []) hx hb hml hown hts hK hN hL hP hS (cX10_costs_ l bs D y hcb n  r54.1 r54.2 r58 er58) ok_X10_costs ov_X10_costs ml_146 ⟨Nat.le_of_ble_eq_true rfl, Nat.le_of_ble_eq_true rfl⟩ rfl hcb kd_44 hl.1 rfl rfl (Nat.le_of_ble_eq_true rfl) ⟨Nat.zero_le _, Nat.zero_le _⟩ dX10_swap_58 (fun H locs hP hS => ?_)
    exact r_I hx hb hr hlocks hP hK hN hL hS h dX10_swap_61
  · replace h := if_f c38 h
    refine lv_aload_n hx hb dX10_swap_41 rfl (lv_at hl 0 rfl) ?_
    refine lv_iload_n hx hb dX10_swap_42 rfl (lv_at hl 3 rfl) ?_
    obtain ⟨r43, er43, h⟩ := bd_s1 h
    refine c_VI (k := 44) (ci := 10) (As := [.int x3]) (rest := []) hx hb hml hown hts hK hN hL hP hS (cX10_no_ l bs D y hcb n x3 I J r43 er43) ok_X10_no ov_X10_no ml_118 ⟨Nat.le_of_ble_eq_true rfl, Nat.le_of_ble_eq_true rfl⟩ rfl hcb kd_44 hl.1 rfl rfl (Nat.le_of_ble_eq_true rfl) ⟨Nat.zero_le _, Nat.zero_le _⟩ dX10_swap_43 (fun H locs hP hS => ?_)
    exact r_I hx hb hr hlocks hP hK hN hL hS h dX10_swap_46
set_option maxHeartbeats 4000000 in
set_option maxRecDepth 100000 in
theorem wX10_swap_26 {p : Program} {l : Launch} {e : Env} {s : State} {m : MethodId} {args : Array Value} {below : List Frame} {meth : Method} {c : Code} (bs : Nat) (D : va_G) (y : Y3) (n : Nat) (r : Int32 × M2) (Gc : Gx p s m args meth c cX10_swap 4 RX10 bs D y (some .int) 76)  (x1 : Int32) (x2 : Int32) (s0 : Int32) (I : MI) (J : MJ) (H : Heap) (locs : List Loc) (ls : Array Slot) (hP : va_P D vwCl (wl bs y I J) H) (hS : va_S (FA bs) s.heap H locs) (hl : lv_has ls 4 [(0, .ref (bs + 44)), (1, .int x1), (2, .int x2)]) (h : fX10_swap_26 n  x1 x2 s0 I J = some r) : W p l e (rmm 4 99) s m args below meth c H locs 0 0 (QI below args s bs D y r) (F0 m 26 ls [.int s0]) := by
  obtain ⟨hx, hb, hml, hown, hts, hK, hN, hL, hr, hlocks, hcb⟩ := id Gc
  unfold fX10_swap_26 at h
  refine lv_istore_n (lv' := [(3, .int s0), (0, .ref (bs + 44)), (1, .int x1), (2, .int x2)]) hx hb dX10_swap_26 rfl hl (by decide) rfl (fun ls hl => ?_)
  refine lv_iload_n hx hb dX10_swap_27 rfl (lv_at hl 0 rfl) ?_
  refine lv_if_ne (tgt := 37) hx hb dX10_swap_28 (by decide) (fun c28 => ?_) (fun c28 => ?_)
  · replace h := if_f c28 h
    exact wX10_swap_37 bs D y n  r Gc  x1 x2 s0 I J _ _ _ hP hS (lv_sub hl [1, 2, 3, 0] rfl) h
  · replace h := if_t c28 h
    refine lv_aload_n hx hb dX10_swap_31 rfl (lv_at hl 1 rfl) ?_
    refine lv_iload_n hx hb dX10_swap_32 rfl (lv_at hl 3 rfl) ?_
    obtain ⟨r33, er33, h⟩ := bd_s1 h
    refine c_VI (k := 44) (ci := 10) (As := [.int x2]) (rest := []) hx hb hml hown hts hK hN hL hP hS (cX10_whyNo_ l bs D y hcb n x2 I J r33 er33) ok_X10_whyNo ov_X10_whyNo ml_140 ⟨Nat.le_of_ble_eq_true rfl, Nat.le_of_ble_eq_true rfl⟩ rfl hcb kd_44 hl.1 rfl rfl (Nat.le_of_ble_eq_true rfl) ⟨Nat.zero_le _, Nat.zero_le _⟩ dX10_swap_33 (fun H locs hP hS => ?_)
    obtain ⟨v36, ev36, h⟩ := lt_s1 h
    refine top_i ev36 ?_
    refine lv_istore_n (lv' := [(3, .int v36), (0, .ref (bs + 44)), (1, .int x1), (2, .int x2)]) hx hb dX10_swap_36 rfl hl (by decide) rfl (fun ls hl => ?_)
    exact wX10_swap_37 bs D y n  r Gc  x1 x2 v36 r33.2.1 r33.2.2 _ _ _ hP hS (lv_sub hl [1, 2, 3, 0] rfl) h
set_option maxHeartbeats 4000000 in
set_option maxRecDepth 100000 in
theorem wX10_swap_16 {p : Program} {l : Launch} {e : Env} {s : State} {m : MethodId} {args : Array Value} {below : List Frame} {meth : Method} {c : Code} (bs : Nat) (D : va_G) (y : Y3) (n : Nat) (r : Int32 × M2) (Gc : Gx p s m args meth c cX10_swap 4 RX10 bs D y (some .int) 76)  (x1 : Int32) (x2 : Int32) (I : MI) (J : MJ) (H : Heap) (locs : List Loc) (ls : Array Slot) (hP : va_P D vwCl (wl bs y I J) H) (hS : va_S (FA bs) s.heap H locs) (hl : lv_has ls 4 [(0, .ref (bs + 44)), (1, .int x1), (2, .int x2)]) (h : fX10_swap_16 n  x1 x2 I J = some r) : W p l e (rmm 4 99) s m args below meth c H locs 0 0 (QI below args s bs D y r) (F0 m 16 ls []) := by
  obtain ⟨hx, hb, hml, hown, hts, hK, hN, hL, hr, hlocks, hcb⟩ := id Gc
  unfold fX10_swap_16 at h
  refine lv_bipush (v := (-3 : Int32)) hx hb dX10_swap_16 (by decide) ?_
  refine lv_goto (tgt := 26) hx hb dX10_swap_18 (by decide) ?_
  exact wX10_swap_26 bs D y n  r Gc  x1 x2 (-3 : Int32) I J _ _ _ hP hS (lv_sub hl [0, 1, 2] rfl) h
set_option maxHeartbeats 4000000 in
set_option maxRecDepth 100000 in
theorem cX10_swap_ (l : Launch) (bs : Nat) (D : va_G) (y : Y3) (hcb : 76 ≤ y.2.2.2) (n : Nat) (x1 : Int32) (x2 : Int32) (I : MI) (J : MJ) (r : Int32 × M2) (h : fX10_swap n x1 x2 I J = some r) : Met l yX10_swap (.code yX10_swap cX10_swap 4 (some .int) :: gtb) (rmm 4 99) (va_Pc [.ref (bs + 44), .int x1, .int x2] (HB bs D y I J)) (QcI bs D y r) 0 0 (FA bs) := by
  refine Met.ofW (cc := cX10_swap) (maxL := 4) (ret := (some .int)) (by decide) rfl ?_
  intro p e s m args below meth c s₁ B hml hv
  obtain ⟨rfl, hP, hK, hN, hL⟩ := hv
  have hx := B.exec
  have hb := B.bytes
  have hr := B.returns
  have hts0 := atoms_spec (ws := .code yX10_swap cX10_swap 4 (some .int) :: gtb) B.pre
  have hts : ∀ w ∈ gtb, w.before [.ref (bs + 44), .int x1, .int x2].toArray s = true := fun w hw => hts0 w (List.mem_cons_of_mem _ hw)
  have hown : s.vm.findClass RX10 = some m.cls := findClass_of_methodNamed B.named
  have hlocks := B.notSynchronized
  have hS : va_S (FA bs) s.heap s.heap [] := va_S.rf
  have Gc : Gx p s m [.ref (bs + 44), .int x1, .int x2].toArray meth c cX10_swap 4 RX10 bs D y (some .int) 76 := ⟨hx, hb, hml, hown, hts, hK, hN, hL, hr, hlocks, hcb⟩
  have hl := lv_entry [.ref (bs + 44), .int x1, .int x2] (n := 4) (Nat.le_of_ble_eq_true rfl)
  rw [lg_entry_eq]
  generalize (lg_sl [.ref (bs + 44), .int x1, .int x2] ++ List.replicate (4 - (lg_sl [.ref (bs + 44), .int x1, .int x2]).length) Slot.unset).toArray = ls at hl ⊢
  have hl : lv_has ls 4 [(0, .ref (bs + 44)), (1, .int x1), (2, .int x2)] := hl
  change W p l e (rmm 4 99) s m [.ref (bs + 44), .int x1, .int x2].toArray below meth c s.heap [] 0 0 (QI below [.ref (bs + 44), .int x1, .int x2].toArray s bs D y r) (F0 m 0 ls [])
  unfold fX10_swap at h
  refine lv_aload_n hx hb dX10_swap_0 rfl (lv_at hl 0 rfl) ?_
  refine lv_iload_n hx hb dX10_swap_1 rfl (lv_at hl 1 rfl) ?_
  obtain ⟨r2, er2, h⟩ := bd_s1 h
  refine c_VI (k := 44) (ci := 10) (As := [.int x1]) (rest := []) hx hb hml hown hts hK hN hL hP hS (cX10_isCell_ l bs D y hcb n x1 I J r2 er2) ok_X10_isCell ov_X10_isCell ml_122 ⟨Nat.le_of_ble_eq_true rfl, Nat.le_of_ble_eq_true rfl⟩ rfl hcb kd_44 hl.1 rfl rfl (Nat.le_of_ble_eq_true rfl) ⟨Nat.zero_le _, Nat.zero_le _⟩ dX10_swap_2 (fun H locs hP hS => ?_)
  refine lv_if_eq (tgt := 16) hx hb dX10_swap_5 (by decide) (fun c5 => ?_) (fun c5 => ?_)
  · replace h := if_t c5 h
    exact wX10_swap_16 bs D y n  r Gc  x1 x2 r2.2.1 r2.2.2 _ _ _ hP hS (lv_sub hl [0, 1, 2] rfl) h
  · replace h := if_f c5 h
    refine lv_aload_n hx hb dX10_swap_8 rfl (lv_at hl 0 rfl) ?_
    refine lv_iload_n hx hb dX10_swap_9 rfl (lv_at hl 2 rfl) ?_
    obtain ⟨r10, er10, h⟩ := bd_s1 h
    refine c_VI (k := 44) (ci := 10) (As := [.int x2]) (rest := []) hx hb hml hown hts hK hN hL hP hS (cX10_isCell_ l bs D y hcb n x2 r2.2.1 r2.2.2 r10 er10) ok_X10_isCell ov_X10_isCell ml_122 ⟨Nat.le_of_ble_eq_true rfl, Nat.le_of_ble_eq_true rfl⟩ rfl hcb kd_44 hl.1 rfl rfl (Nat.le_of_ble_eq_true rfl) ⟨Nat.zero_le _, Nat.zero_le _⟩ dX10_swap_10 (fun H locs hP hS => ?_)
    refine lv_if_ne (tgt := 21) hx hb dX10_swap_13 (by decide) (fun c13 => ?_) (fun c13 => ?_)
    · replace h := if_f c13 h
      refine lv_aload_n hx hb dX10_swap_21 rfl (lv_at hl 0 rfl) ?_
      refine lv_iload_n hx hb dX10_swap_22 rfl (lv_at hl 1 rfl) ?_
      obtain ⟨r23, er23, h⟩ := bd_s1 h
      refine c_VI (k := 44) (ci := 10) (As := [.int x1]) (rest := []) hx hb hml hown hts hK hN hL hP hS (cX10_whyNo_ l bs D y hcb n x1 r10.2.1 r10.2.2 r23 er23) ok_X10_whyNo ov_X10_whyNo ml_140 ⟨Nat.le_of_ble_eq_true rfl, Nat.le_of_ble_eq_true rfl⟩ rfl hcb kd_44 hl.1 rfl rfl (Nat.le_of_ble_eq_true rfl) ⟨Nat.zero_le _, Nat.zero_le _⟩ dX10_swap_23 (fun H locs hP hS => ?_)
      exact wX10_swap_26 bs D y n  r Gc  x1 x2 r23.1 r23.2.1 r23.2.2 _ _ _ hP hS (lv_sub hl [0, 1, 2] rfl) h
    · replace h := if_t c13 h
      exact wX10_swap_16 bs D y n  r Gc  x1 x2 r10.2.1 r10.2.2 _ _ _ hP hS (lv_sub hl [0, 1, 2] rfl) h
