/-! walks: X9_longest X9_frames X9_wrongByte X9_octet X9_bend X9_check X9_back X9_start X9_clock X9_told X9_lay X9_tear X9_row X9_copy X9_status X10_isIn X10_no X10_isCell X10_isSign X10_begins X10_changes X10_adds X10_input X10_keeper X10_gate X10_source X10_out X10_cell -/
theorem dX9_longest_0 : decode cX9_longest 0 = .ok (.aload_n 0, 1) := by decide +kernel
theorem dX9_longest_1 : decode cX9_longest 1 = .ok (.getfield 47, 3) := by decide +kernel
theorem dX9_longest_4 : decode cX9_longest 4 = .ok (.getfield 264, 3) := by decide +kernel
theorem dX9_longest_7 : decode cX9_longest 7 = .ok (.ifCond .eq 21, 3) := by decide +kernel
theorem dX9_longest_10 : decode cX9_longest 10 = .ok (.aload_n 0, 1) := by decide +kernel
theorem dX9_longest_11 : decode cX9_longest 11 = .ok (.getfield 47, 3) := by decide +kernel
theorem dX9_longest_14 : decode cX9_longest 14 = .ok (.aload_n 0, 1) := by decide +kernel
theorem dX9_longest_15 : decode cX9_longest 15 = .ok (.getfield 33, 3) := by decide +kernel
theorem dX9_longest_18 : decode cX9_longest 18 = .ok (.aload_n 0, 1) := by decide +kernel
theorem dX9_longest_19 : decode cX9_longest 19 = .ok (.getfield 40, 3) := by decide +kernel
theorem dX9_longest_22 : decode cX9_longest 22 = .ok (.invokevirtual 281, 3) := by decide +kernel
theorem dX9_longest_25 : decode cX9_longest 25 = .ok (.goto 9, 3) := by decide +kernel
theorem dX9_longest_28 : decode cX9_longest 28 = .ok (.aload_n 0, 1) := by decide +kernel
theorem dX9_longest_29 : decode cX9_longest 29 = .ok (.bipush (-2), 2) := by decide +kernel
theorem dX9_longest_31 : decode cX9_longest 31 = .ok (.invokevirtual 91, 3) := by decide +kernel
theorem dX9_longest_34 : decode cX9_longest 34 = .ok (.ireturn, 1) := by decide +kernel
set_option maxHeartbeats 4000000 in
set_option maxRecDepth 100000 in
theorem cX9_longest_ (l : Launch) (bs : Nat) (D : va_G) (y : Y3) (hcb : 44 ≤ y.2.2.2) (n : Nat) (I : MI) (J : MJ) (r : Int32 × M2) (h : fX9_longest n  I J = some r) : Met l yX9_longest (.code yX9_longest cX9_longest 1 (some .int) :: gtb) (rmm 4 102) (va_Pc [.ref (bs + 0)] (HB bs D y I J)) (QcI bs D y r) 0 0 (FA bs) := by
  refine Met.ofW (cc := cX9_longest) (maxL := 1) (ret := (some .int)) (by decide) rfl ?_
  intro p e s m args below meth c s₁ B hml hv
  obtain ⟨rfl, hP, hK, hN, hL⟩ := hv
  have hx := B.exec
  have hb := B.bytes
  have hr := B.returns
  have hts0 := atoms_spec (ws := .code yX9_longest cX9_longest 1 (some .int) :: gtb) B.pre
  have hts : ∀ w ∈ gtb, w.before [.ref (bs + 0)].toArray s = true := fun w hw => hts0 w (List.mem_cons_of_mem _ hw)
  have hown : s.vm.findClass RX9 = some m.cls := findClass_of_methodNamed B.named
  have hlocks := B.notSynchronized
  have hS : va_S (FA bs) s.heap s.heap [] := va_S.rf
  have Gc : Gx p s m [.ref (bs + 0)].toArray meth c cX9_longest 1 RX9 bs D y (some .int) 44 := ⟨hx, hb, hml, hown, hts, hK, hN, hL, hr, hlocks, hcb⟩
  have hl := lv_entry [.ref (bs + 0)] (n := 1) (Nat.le_of_ble_eq_true rfl)
  rw [lg_entry_eq]
  generalize (lg_sl [.ref (bs + 0)] ++ List.replicate (1 - (lg_sl [.ref (bs + 0)]).length) Slot.unset).toArray = ls at hl ⊢
  have hl : lv_has ls 1 [(0, .ref (bs + 0))] := hl
  change W p l e (rmm 4 102) s m [.ref (bs + 0)].toArray below meth c s.heap [] 0 0 (QI below [.ref (bs + 0)].toArray s bs D y r) (F0 m 0 ls [])
  unfold fX9_longest at h
  refine lv_aload_n hx hb dX9_longest_0 rfl (lv_at hl 0 rfl) ?_
  refine g_R (C := RX9) (T := TX9) (N := 10) (ci := 9) 0 5 28 hx hb hts hown hK hP in_X9 rfl hcb okF_0_5 rfc_0_5 fl_97 dX9_longest_1 ?_
  refine g_I (C := RX8) (T := TX8) (N := 6) (ci := 8) 28 0 hx hb hts hown hK hP in_X8 rfl hcb okF_28_0 fl_98 dX9_longest_4 ?_
  refine lv_if_eq (tgt := 28) hx hb dX9_longest_7 (by decide) (fun c7 => ?_) (fun c7 => ?_)
  · replace h := if_t c7 h
    refine lv_aload_n hx hb dX9_longest_28 rfl (lv_at hl 0 rfl) ?_
    refine lv_bipush (v := (-2 : Int32)) hx hb dX9_longest_29 (by decide) ?_
    obtain ⟨r31, er31, h⟩ := bd_s1 h
    refine c_VI (k := 0) (ci := 9) (As := [.int (-2 : Int32)]) (rest := []) hx hb hml hown hts hK hN hL hP hS (cX9_refuse_ l bs D y hcb n (-2 : Int32) I J r31 er31) ok_X9_refuse ov_X9_refuse ml_71 ⟨Nat.le_of_ble_eq_true rfl, Nat.le_of_ble_eq_true rfl⟩ rfl hcb kd_0 hl.1 rfl rfl (Nat.le_of_ble_eq_true rfl) ⟨Nat.zero_le _, Nat.zero_le _⟩ dX9_longest_31 (fun H locs hP hS => ?_)
    exact r_I hx hb hr hlocks hP hK hN hL hS h dX9_longest_34
  · replace h := if_f c7 h
    refine lv_aload_n hx hb dX9_longest_10 rfl (lv_at hl 0 rfl) ?_
    refine g_R (C := RX9) (T := TX9) (N := 10) (ci := 9) 0 5 28 hx hb hts hown hK hP in_X9 rfl hcb okF_0_5 rfc_0_5 fl_97 dX9_longest_11 ?_
    refine lv_aload_n hx hb dX9_longest_14 rfl (lv_at hl 0 rfl) ?_
    refine g_R (C := RX9) (T := TX9) (N := 10) (ci := 9) 0 3 16 hx hb hts hown hK hP in_X9 rfl hcb okF_0_3 rfc_0_3 fl_121 dX9_longest_15 ?_
    refine lv_aload_n hx hb dX9_longest_18 rfl (lv_at hl 0 rfl) ?_
    refine g_R (C := RX9) (T := TX9) (N := 10) (ci := 9) 0 4 22 hx hb hts hown hK hP in_X9 rfl hcb okF_0_4 rfc_0_4 fl_101 dX9_longest_19 ?_
    obtain ⟨r22, er22, h⟩ := bd_s1 h
    refine c_VI (k := 28) (ci := 8) (As := [.ref (bs + 16), .ref (bs + 22)]) (rest := []) hx hb hml hown hts hK hN hL hP hS (cX8_longestOfAll_ l bs D y hcb n  I J r22 er22) ok_X8_longestOfAll ov_X8_longestOfAll ml_105 ⟨Nat.le_of_ble_eq_true rfl, Nat.le_of_ble_eq_true rfl⟩ rfl hcb kd_28 hl.1 rfl rfl (Nat.le_of_ble_eq_true rfl) ⟨Nat.zero_le _, Nat.zero_le _⟩ dX9_longest_22 (fun H locs hP hS => ?_)
    refine lv_goto (tgt := 34) hx hb dX9_longest_25 (by decide) ?_
    exact r_I hx hb hr hlocks hP hK hN hL hS h dX9_longest_34
theorem dX9_frames_0 : decode cX9_frames 0 = .ok (.aload_n 0, 1) := by decide +kernel
theorem dX9_frames_1 : decode cX9_frames 1 = .ok (.getfield 40, 3) := by decide +kernel
theorem dX9_frames_4 : decode cX9_frames 4 = .ok (.getfield 239, 3) := by decide +kernel
theorem dX9_frames_7 : decode cX9_frames 7 = .ok (.ifCond .ne 10, 3) := by decide +kernel
theorem dX9_frames_10 : decode cX9_frames 10 = .ok (.aload_n 0, 1) := by decide +kernel
theorem dX9_frames_11 : decode cX9_frames 11 = .ok (.bipush (-2), 2) := by decide +kernel
theorem dX9_frames_13 : decode cX9_frames 13 = .ok (.invokevirtual 91, 3) := by decide +kernel
theorem dX9_frames_16 : decode cX9_frames 16 = .ok (.ireturn, 1) := by decide +kernel
theorem dX9_frames_17 : decode cX9_frames 17 = .ok (.aload_n 0, 1) := by decide +kernel
theorem dX9_frames_18 : decode cX9_frames 18 = .ok (.getfield 54, 3) := by decide +kernel
theorem dX9_frames_21 : decode cX9_frames 21 = .ok (.aload_n 0, 1) := by decide +kernel
theorem dX9_frames_22 : decode cX9_frames 22 = .ok (.getfield 12, 3) := by decide +kernel
theorem dX9_frames_25 : decode cX9_frames 25 = .ok (.aload_n 0, 1) := by decide +kernel
theorem dX9_frames_26 : decode cX9_frames 26 = .ok (.getfield 26, 3) := by decide +kernel
theorem dX9_frames_29 : decode cX9_frames 29 = .ok (.aload_n 0, 1) := by decide +kernel
theorem dX9_frames_30 : decode cX9_frames 30 = .ok (.getfield 33, 3) := by decide +kernel
theorem dX9_frames_33 : decode cX9_frames 33 = .ok (.aload_n 0, 1) := by decide +kernel
theorem dX9_frames_34 : decode cX9_frames 34 = .ok (.getfield 40, 3) := by decide +kernel
theorem dX9_frames_37 : decode cX9_frames 37 = .ok (.invokevirtual 285, 3) := by decide +kernel
theorem dX9_frames_40 : decode cX9_frames 40 = .ok (.aload_n 0, 1) := by decide +kernel
theorem dX9_frames_41 : decode cX9_frames 41 = .ok (.getfield 61, 3) := by decide +kernel
theorem dX9_frames_44 : decode cX9_frames 44 = .ok (.aload_n 0, 1) := by decide +kernel
theorem dX9_frames_45 : decode cX9_frames 45 = .ok (.getfield 12, 3) := by decide +kernel
theorem dX9_frames_48 : decode cX9_frames 48 = .ok (.invokevirtual 80, 3) := by decide +kernel
theorem dX9_frames_51 : decode cX9_frames 51 = .ok (.aload_n 0, 1) := by decide +kernel
theorem dX9_frames_52 : decode cX9_frames 52 = .ok (.getfield 54, 3) := by decide +kernel
theorem dX9_frames_55 : decode cX9_frames 55 = .ok (.getfield 289, 3) := by decide +kernel
theorem dX9_frames_58 : decode cX9_frames 58 = .ok (.ireturn, 1) := by decide +kernel
set_option maxHeartbeats 4000000 in
set_option maxRecDepth 100000 in
theorem cX9_frames_ (l : Launch) (bs : Nat) (D : va_G) (y : Y3) (hcb : 44 ≤ y.2.2.2) (n : Nat) (I : MI) (J : MJ) (r : Int32 × M2) (h : fX9_frames n  I J = some r) : Met l yX9_frames (.code yX9_frames cX9_frames 1 (some .int) :: gtb) (rmm 3 74) (va_Pc [.ref (bs + 0)] (HB bs D y I J)) (QcI bs D y r) 0 0 (FA bs) := by
  refine Met.ofW (cc := cX9_frames) (maxL := 1) (ret := (some .int)) (by decide) rfl ?_
  intro p e s m args below meth c s₁ B hml hv
  obtain ⟨rfl, hP, hK, hN, hL⟩ := hv
  have hx := B.exec
  have hb := B.bytes
  have hr := B.returns
  have hts0 := atoms_spec (ws := .code yX9_frames cX9_frames 1 (some .int) :: gtb) B.pre
  have hts : ∀ w ∈ gtb, w.before [.ref (bs + 0)].toArray s = true := fun w hw => hts0 w (List.mem_cons_of_mem _ hw)
  have hown : s.vm.findClass RX9 = some m.cls := findClass_of_methodNamed B.named
  have hlocks := B.notSynchronized
  have hS : va_S (FA bs) s.heap s.heap [] := va_S.rf
  have Gc : Gx p s m [.ref (bs + 0)].toArray meth c cX9_frames 1 RX9 bs D y (some .int) 44 := ⟨hx, hb, hml, hown, hts, hK, hN, hL, hr, hlocks, hcb⟩
  have hl := lv_entry [.ref (bs + 0)] (n := 1) (Nat.le_of_ble_eq_true rfl)
  rw [lg_entry_eq]
  generalize (lg_sl [.ref (bs + 0)] ++ List.replicate (1 - (lg_sl [.ref (bs + 0)]).length) Slot.unset).toArray = ls at hl ⊢
  have hl : lv_has ls 1 [(0, .ref (bs + 0))] := hl
  change W p l e (rmm 3 74) s m [.ref (bs + 0)].toArray below meth c s.heap [] 0 0 (QI below [.ref (bs + 0)].toArray s bs D y r) (F0 m 0 ls [])
  unfold fX9_frames at h
  refine lv_aload_n hx hb dX9_frames_0 rfl (lv_at hl 0 rfl) ?_
  refine g_R (C := RX9) (T := TX9) (N := 10) (ci := 9) 0 4 22 hx hb hts hown hK hP in_X9 rfl hcb okF_0_4 rfc_0_4 fl_101 dX9_frames_1 ?_
  refine g_I (C := RX5) (T := TX5) (N := 7) (ci := 5) 22 0 hx hb hts hown hK hP in_X5 rfl hcb okF_22_0 fl_102 dX9_frames_4 ?_
  refine lv_if_ne (tgt := 17) hx hb dX9_frames_7 (by decide) (fun c7 => ?_) (fun c7 => ?_)
  · replace h := if_f c7 h
    refine lv_aload_n hx hb dX9_frames_17 rfl (lv_at hl 0 rfl) ?_
    refine g_R (C := RX9) (T := TX9) (N := 10) (ci := 9) 0 6 34 hx hb hts hown hK hP in_X9 rfl hcb okF_0_6 rfc_0_6 fl_99 dX9_frames_18 ?_
    refine lv_aload_n hx hb dX9_frames_21 rfl (lv_at hl 0 rfl) ?_
    refine g_R (C := RX9) (T := TX9) (N := 10) (ci := 9) 0 0 1 hx hb hts hown hK hP in_X9 rfl hcb okF_0_0 rfc_0_0 fl_106 dX9_frames_22 ?_
    refine lv_aload_n hx hb dX9_frames_25 rfl (lv_at hl 0 rfl) ?_
    refine g_R (C := RX9) (T := TX9) (N := 10) (ci := 9) 0 2 11 hx hb hts hown hK hP in_X9 rfl hcb okF_0_2 rfc_0_2 fl_103 dX9_frames_26 ?_
    refine lv_aload_n hx hb dX9_frames_29 rfl (lv_at hl 0 rfl) ?_
    refine g_R (C := RX9) (T := TX9) (N := 10) (ci := 9) 0 3 16 hx hb hts hown hK hP in_X9 rfl hcb okF_0_3 rfc_0_3 fl_121 dX9_frames_30 ?_
    refine lv_aload_n hx hb dX9_frames_33 rfl (lv_at hl 0 rfl) ?_
    refine g_R (C := RX9) (T := TX9) (N := 10) (ci := 9) 0 4 22 hx hb hts hown hK hP in_X9 rfl hcb okF_0_4 rfc_0_4 fl_101 dX9_frames_34 ?_
    obtain ⟨r37, er37, h⟩ := bd_s1 h
    refine c_VV (k := 34) (ci := 1) (As := [.ref (bs + 1), .ref (bs + 11), .ref (bs + 16), .ref (bs + 22)]) (rest := []) hx hb hml hown hts hK hN hL hP hS (cX1_write_ l bs D y hcb n  I J r37 er37) ok_X1_write ov_X1_write ml_106 ⟨Nat.le_of_ble_eq_true rfl, Nat.le_of_ble_eq_true rfl⟩ rfl hcb kd_34 hl.1 rfl rfl (Nat.le_of_ble_eq_true rfl) ⟨Nat.zero_le _, Nat.zero_le _⟩ dX9_frames_37 (fun H locs hP hS => ?_)
    refine lv_aload_n hx hb dX9_frames_40 rfl (lv_at hl 0 rfl) ?_
    refine g_R (C := RX9) (T := TX9) (N := 10) (ci := 9) 0 7 38 hx hb hts hown hK hP in_X9 rfl hcb okF_0_7 rfc_0_7 fl_105 dX9_frames_41 ?_
    refine lv_aload_n hx hb dX9_frames_44 rfl (lv_at hl 0 rfl) ?_
    refine g_R (C := RX9) (T := TX9) (N := 10) (ci := 9) 0 0 1 hx hb hts hown hK hP in_X9 rfl hcb okF_0_0 rfc_0_0 fl_106 dX9_frames_45 ?_
    obtain ⟨r48, er48, h⟩ := bd_s1 h
    refine c_VV (k := 38) (ci := 6) (As := [.ref (bs + 1)]) (rest := []) hx hb hml hown hts hK hN hL hP hS (cX6_begin_ l bs D y hcb n  r37.1 r37.2 r48 er48) ok_X6_begin ov_X6_begin ml_70 ⟨Nat.le_of_ble_eq_true rfl, Nat.le_of_ble_eq_true rfl⟩ rfl hcb kd_38 hl.1 rfl rfl (Nat.le_of_ble_eq_true rfl) ⟨Nat.zero_le _, Nat.zero_le _⟩ dX9_frames_48 (fun H locs hP hS => ?_)
    refine lv_aload_n hx hb dX9_frames_51 rfl (lv_at hl 0 rfl) ?_
    refine g_R (C := RX9) (T := TX9) (N := 10) (ci := 9) 0 6 34 hx hb hts hown hK hP in_X9 rfl hcb okF_0_6 rfc_0_6 fl_99 dX9_frames_52 ?_
    refine g_I (C := RX1) (T := TX1) (N := 5) (ci := 1) 34 1 hx hb hts hown hK hP in_X1 rfl hcb okF_34_1 fl_129 dX9_frames_55 ?_
    exact r_I hx hb hr hlocks hP hK hN hL hS h dX9_frames_58
  · replace h := if_t c7 h
    refine lv_aload_n hx hb dX9_frames_10 rfl (lv_at hl 0 rfl) ?_
    refine lv_bipush (v := (-2 : Int32)) hx hb dX9_frames_11 (by decide) ?_
    obtain ⟨r13, er13, h⟩ := bd_s1 h
    refine c_VI (k := 0) (ci := 9) (As := [.int (-2 : Int32)]) (rest := []) hx hb hml hown hts hK hN hL hP hS (cX9_refuse_ l bs D y hcb n (-2 : Int32) I J r13 er13) ok_X9_refuse ov_X9_refuse ml_71 ⟨Nat.le_of_ble_eq_true rfl, Nat.le_of_ble_eq_true rfl⟩ rfl hcb kd_0 hl.1 rfl rfl (Nat.le_of_ble_eq_true rfl) ⟨Nat.zero_le _, Nat.zero_le _⟩ dX9_frames_13 (fun H locs hP hS => ?_)
    exact r_I hx hb hr hlocks hP hK hN hL hS h dX9_frames_16
theorem dX9_wrongByte_0 : decode cX9_wrongByte 0 = .ok (.aload_n 0, 1) := by decide +kernel
theorem dX9_wrongByte_1 : decode cX9_wrongByte 1 = .ok (.getfield 33, 3) := by decide +kernel
theorem dX9_wrongByte_4 : decode cX9_wrongByte 4 = .ok (.iload_n 1, 1) := by decide +kernel
theorem dX9_wrongByte_5 : decode cX9_wrongByte 5 = .ok (.invokevirtual 191, 3) := by decide +kernel
theorem dX9_wrongByte_8 : decode cX9_wrongByte 8 = .ok (.ifCond .ne 6, 3) := by decide +kernel
theorem dX9_wrongByte_11 : decode cX9_wrongByte 11 = .ok (.bipush (-3), 2) := by decide +kernel
theorem dX9_wrongByte_13 : decode cX9_wrongByte 13 = .ok (.ireturn, 1) := by decide +kernel
theorem dX9_wrongByte_14 : decode cX9_wrongByte 14 = .ok (.aload_n 0, 1) := by decide +kernel
theorem dX9_wrongByte_15 : decode cX9_wrongByte 15 = .ok (.getfield 54, 3) := by decide +kernel
theorem dX9_wrongByte_18 : decode cX9_wrongByte 18 = .ok (.getfield 301, 3) := by decide +kernel
theorem dX9_wrongByte_21 : decode cX9_wrongByte 21 = .ok (.ifCond .ne 6, 3) := by decide +kernel
theorem dX9_wrongByte_24 : decode cX9_wrongByte 24 = .ok (.bipush (-2), 2) := by decide +kernel
theorem dX9_wrongByte_26 : decode cX9_wrongByte 26 = .ok (.ireturn, 1) := by decide +kernel
theorem dX9_wrongByte_27 : decode cX9_wrongByte 27 = .ok (.iload_n 2, 1) := by decide +kernel
theorem dX9_wrongByte_28 : decode cX9_wrongByte 28 = .ok (.ifCond .lt 15, 3) := by decide +kernel
theorem dX9_wrongByte_31 : decode cX9_wrongByte 31 = .ok (.iload_n 2, 1) := by decide +kernel
theorem dX9_wrongByte_32 : decode cX9_wrongByte 32 = .ok (.aload_n 0, 1) := by decide +kernel
theorem dX9_wrongByte_33 : decode cX9_wrongByte 33 = .ok (.getfield 54, 3) := by decide +kernel
theorem dX9_wrongByte_36 : decode cX9_wrongByte 36 = .ok (.iload_n 1, 1) := by decide +kernel
theorem dX9_wrongByte_37 : decode cX9_wrongByte 37 = .ok (.invokevirtual 350, 3) := by decide +kernel
theorem dX9_wrongByte_40 : decode cX9_wrongByte 40 = .ok (.if_icmp .lt 8, 3) := by decide +kernel
theorem dX9_wrongByte_43 : decode cX9_wrongByte 43 = .ok (.bipush (-3), 2) := by decide +kernel
theorem dX9_wrongByte_45 : decode cX9_wrongByte 45 = .ok (.goto 4, 3) := by decide +kernel
theorem dX9_wrongByte_48 : decode cX9_wrongByte 48 = .ok (.iconst 0, 1) := by decide +kernel
theorem dX9_wrongByte_49 : decode cX9_wrongByte 49 = .ok (.ireturn, 1) := by decide +kernel
set_option maxHeartbeats 4000000 in
set_option maxRecDepth 100000 in
theorem wX9_wrongByte_43 {p : Program} {l : Launch} {e : Env} {s : State} {m : MethodId} {args : Array Value} {below : List Frame} {meth : Method} {c : Code} (bs : Nat) (D : va_G) (y : Y3) (n : Nat) (r : Int32 × M2) (Gc : Gx p s m args meth c cX9_wrongByte 3 RX9 bs D y (some .int) 44)  (I : MI) (J : MJ) (H : Heap) (locs : List Loc) (ls : Array Slot) (hP : va_P D vwCl (wl bs y I J) H) (hS : va_S (FA bs) s.heap H locs) (hl : lv_has ls 3 []) (h : fX9_wrongByte_43 n   I J = some r) : W p l e (rmm 1 21) s m args below meth c H locs 0 0 (QI below args s bs D y r) (F0 m 43 ls []) := by
  obtain ⟨hx, hb, hml, hown, hts, hK, hN, hL, hr, hlocks, hcb⟩ := id Gc
  unfold fX9_wrongByte_43 at h
  refine lv_bipush (v := (-3 : Int32)) hx hb dX9_wrongByte_43 (by decide) ?_
  refine lv_goto (tgt := 49) hx hb dX9_wrongByte_45 (by decide) ?_
  exact r_I hx hb hr hlocks hP hK hN hL hS h dX9_wrongByte_49
set_option maxHeartbeats 4000000 in
set_option maxRecDepth 100000 in
theorem cX9_wrongByte_ (l : Launch) (bs : Nat) (D : va_G) (y : Y3) (hcb : 44 ≤ y.2.2.2) (n : Nat) (x1 : Int32) (x2 : Int32) (I : MI) (J : MJ) (r : Int32 × M2) (h : fX9_wrongByte n x1 x2 I J = some r) : Met l yX9_wrongByte (.code yX9_wrongByte cX9_wrongByte 3 (some .int) :: gtb) (rmm 1 21) (va_Pc [.ref (bs + 0), .int x1, .int x2] (HB bs D y I J)) (QcI bs D y r) 0 0 (FA bs) := by
  refine Met.ofW (cc := cX9_wrongByte) (maxL := 3) (ret := (some .int)) (by decide) rfl ?_
  intro p e s m args below meth c s₁ B hml hv
  obtain ⟨rfl, hP, hK, hN, hL⟩ := hv
  have hx := B.exec
  have hb := B.bytes
  have hr := B.returns
  have hts0 := atoms_spec (ws := .code yX9_wrongByte cX9_wrongByte 3 (some .int) :: gtb) B.pre
  have hts : ∀ w ∈ gtb, w.before [.ref (bs + 0), .int x1, .int x2].toArray s = true := fun w hw => hts0 w (List.mem_cons_of_mem _ hw)
  have hown : s.vm.findClass RX9 = some m.cls := findClass_of_methodNamed B.named
  have hlocks := B.notSynchronized
  have hS : va_S (FA bs) s.heap s.heap [] := va_S.rf
  have Gc : Gx p s m [.ref (bs + 0), .int x1, .int x2].toArray meth c cX9_wrongByte 3 RX9 bs D y (some .int) 44 := ⟨hx, hb, hml, hown, hts, hK, hN, hL, hr, hlocks, hcb⟩
  have hl := lv_entry [.ref (bs + 0), .int x1, .int x2] (n := 3) (Nat.le_of_ble_eq_true rfl)
  rw [lg_entry_eq]
  generalize (lg_sl [.ref (bs + 0), .int x1, .int x2] ++ List.replicate (3 - (lg_sl [.ref (bs + 0), .int x1, .int x2]).length) Slot.unset).toArray = ls at hl ⊢
  have hl : lv_has ls 3 [(0, .ref (bs + 0)), (1, .int x1), (2, .int x2)] := hl
  change W p l e (rmm 1 21) s m [.ref (bs + 0), .int x1, .int x2].toArray below meth c s.heap [] 0 0 (QI below [.ref (bs + 0), .int x1, .int x2].toArray s bs D y r) (F0 m 0 ls [])
  unfold fX9_wrongByte at h
  refine lv_aload_n hx hb dX9_wrongByte_0 rfl (lv_at hl 0 rfl) ?_
  refine g_R (C := RX9) (T := TX9) (N := 10) (ci := 9) 0 3 16 hx hb hts hown hK hP in_X9 rfl hcb okF_0_3 rfc_0_3 fl_121 dX9_wrongByte_1 ?_
  refine lv_iload_n hx hb dX9_wrongByte_4 rfl (lv_at hl 1 rfl) ?_
  obtain ⟨r5, er5, h⟩ := bd_s1 h
  refine c_VI (k := 16) (ci := 2) (As := [.int x1]) (rest := []) hx hb hml hown hts hK hN hL hP hS (cX2_hasTile_ l bs D y hcb n x1 I J r5 er5) ok_X2_hasTile ov_X2_hasTile ml_88 ⟨Nat.le_of_ble_eq_true rfl, Nat.le_of_ble_eq_true rfl⟩ rfl hcb kd_16 hl.1 rfl rfl (Nat.le_of_ble_eq_true rfl) ⟨Nat.zero_le _, Nat.zero_le _⟩ dX9_wrongByte_5 (fun H locs hP hS => ?_)
  refine lv_if_ne (tgt := 14) hx hb dX9_wrongByte_8 (by decide) (fun c8 => ?_) (fun c8 => ?_)
  · replace h := if_f c8 h
    refine lv_aload_n hx hb dX9_wrongByte_14 rfl (lv_at hl 0 rfl) ?_
    refine g_R (C := RX9) (T := TX9) (N := 10) (ci := 9) 0 6 34 hx hb hts hown hK hP in_X9 rfl hcb okF_0_6 rfc_0_6 fl_99 dX9_wrongByte_15 ?_
    refine g_I (C := RX1) (T := TX1) (N := 5) (ci := 1) 34 0 hx hb hts hown hK hP in_X1 rfl hcb okF_34_0 fl_100 dX9_wrongByte_18 ?_
    refine lv_if_ne (tgt := 27) hx hb dX9_wrongByte_21 (by decide) (fun c21 => ?_) (fun c21 => ?_)
    · replace h := if_f c21 h
      refine lv_iload_n hx hb dX9_wrongByte_27 rfl (lv_at hl 2 rfl) ?_
      refine lv_if_lt (tgt := 43) hx hb dX9_wrongByte_28 (by decide) (fun c28 => ?_) (fun c28 => ?_)
      · replace h := if_t c28 h
        exact wX9_wrongByte_43 bs D y n  r Gc   r5.2.1 r5.2.2 _ _ _ hP hS (lv_sub hl [] rfl) h
      · replace h := if_f c28 h
        refine lv_iload_n hx hb dX9_wrongByte_31 rfl (lv_at hl 2 rfl) ?_
        refine lv_aload_n hx hb dX9_wrongByte_32 rfl (lv_at hl 0 rfl) ?_
        refine g_R (C := RX9) (T := TX9) (N := 10) (ci := 9) 0 6 34 hx hb hts hown hK hP in_X9 rfl hcb okF_0_6 rfc_0_6 fl_99 dX9_wrongByte_33 ?_
        refine lv_iload_n hx hb dX9_wrongByte_36 rfl (lv_at hl 1 rfl) ?_
        obtain ⟨r37, er37, h⟩ := bd_s1 h
        refine c_VI (k := 34) (ci := 1) (As := [.int x1]) (rest := [.int x2]) hx hb hml hown hts hK hN hL hP hS (cX1_lengthOf_ l bs D y hcb n x1 r5.2.1 r5.2.2 r37 er37) ok_X1_lengthOf ov_X1_lengthOf ml_107 ⟨Nat.le_of_ble_eq_true rfl, Nat.le_of_ble_eq_true rfl⟩ rfl hcb kd_34 hl.1 rfl rfl (Nat.le_of_ble_eq_true rfl) ⟨Nat.zero_le _, Nat.zero_le _⟩ dX9_wrongByte_37 (fun H locs hP hS => ?_)
        refine lv_icmp_lt (tgt := 48) hx hb dX9_wrongByte_40 (by decide) (fun c40 => ?_) (fun c40 => ?_)
        · replace h := if_t c40 h
          refine lv_iconst (v := (0 : Int32)) hx hb dX9_wrongByte_48 (by decide) ?_
          exact r_I hx hb hr hlocks hP hK hN hL hS h dX9_wrongByte_49
        · replace h := if_f c40 h
          exact wX9_wrongByte_43 bs D y n  r Gc   r37.2.1 r37.2.2 _ _ _ hP hS (lv_sub hl [] rfl) h
    · replace h := if_t c21 h
      refine lv_bipush (v := (-2 : Int32)) hx hb dX9_wrongByte_24 (by decide) ?_
      exact r_I hx hb hr hlocks hP hK hN hL hS h dX9_wrongByte_26
  · replace h := if_t c8 h
    refine lv_bipush (v := (-3 : Int32)) hx hb dX9_wrongByte_11 (by decide) ?_
    exact r_I hx hb hr hlocks hP hK hN hL hS h dX9_wrongByte_13
theorem dX9_octet_0 : decode cX9_octet 0 = .ok (.aload_n 0, 1) := by decide +kernel
theorem dX9_octet_1 : decode cX9_octet 1 = .ok (.iload_n 1, 1) := by decide +kernel
theorem dX9_octet_2 : decode cX9_octet 2 = .ok (.iload_n 2, 1) := by decide +kernel
theorem dX9_octet_3 : decode cX9_octet 3 = .ok (.invokevirtual 292, 3) := by decide +kernel
theorem dX9_octet_6 : decode cX9_octet 6 = .ok (.istore_n 3, 1) := by decide +kernel
theorem dX9_octet_7 : decode cX9_octet 7 = .ok (.iload_n 3, 1) := by decide +kernel
theorem dX9_octet_8 : decode cX9_octet 8 = .ok (.ifCond .eq 11, 3) := by decide +kernel
theorem dX9_octet_11 : decode cX9_octet 11 = .ok (.aload_n 0, 1) := by decide +kernel
theorem dX9_octet_12 : decode cX9_octet 12 = .ok (.iload_n 3, 1) := by decide +kernel
theorem dX9_octet_13 : decode cX9_octet 13 = .ok (.invokevirtual 91, 3) := by decide +kernel
theorem dX9_octet_16 : decode cX9_octet 16 = .ok (.goto 22, 3) := by decide +kernel
theorem dX9_octet_19 : decode cX9_octet 19 = .ok (.aload_n 0, 1) := by decide +kernel
theorem dX9_octet_20 : decode cX9_octet 20 = .ok (.getfield 54, 3) := by decide +kernel
theorem dX9_octet_23 : decode cX9_octet 23 = .ok (.getfield 295, 3) := by decide +kernel
theorem dX9_octet_26 : decode cX9_octet 26 = .ok (.aload_n 0, 1) := by decide +kernel
theorem dX9_octet_27 : decode cX9_octet 27 = .ok (.getfield 54, 3) := by decide +kernel
theorem dX9_octet_30 : decode cX9_octet 30 = .ok (.getfield 298, 3) := by decide +kernel
theorem dX9_octet_33 : decode cX9_octet 33 = .ok (.iload_n 1, 1) := by decide +kernel
theorem dX9_octet_34 : decode cX9_octet 34 = .ok (.iaload, 1) := by decide +kernel
theorem dX9_octet_35 : decode cX9_octet 35 = .ok (.iload_n 2, 1) := by decide +kernel
theorem dX9_octet_36 : decode cX9_octet 36 = .ok (.iadd, 1) := by decide +kernel
theorem dX9_octet_37 : decode cX9_octet 37 = .ok (.iaload, 1) := by decide +kernel
theorem dX9_octet_38 : decode cX9_octet 38 = .ok (.ireturn, 1) := by decide +kernel
set_option maxHeartbeats 4000000 in
set_option maxRecDepth 100000 in
theorem cX9_octet_ (l : Launch) (bs : Nat) (D : va_G) (y : Y3) (hcb : 44 ≤ y.2.2.2) (n : Nat) (x1 : Int32) (x2 : Int32) (I : MI) (J : MJ) (r : Int32 × M2) (h : fX9_octet n x1 x2 I J = some r) : Met l yX9_octet (.code yX9_octet cX9_octet 4 (some .int) :: gtb) (rmm 2 43) (va_Pc [.ref (bs + 0), .int x1, .int x2] (HB bs D y I J)) (QcI bs D y r) 0 0 (FA bs) := by
  refine Met.ofW (cc := cX9_octet) (maxL := 4) (ret := (some .int)) (by decide) rfl ?_
  intro p e s m args below meth c s₁ B hml hv
  obtain ⟨rfl, hP, hK, hN, hL⟩ := hv
  have hx := B.exec
  have hb := B.bytes
  have hr := B.returns
  have hts0 := atoms_spec (ws := .code yX9_octet cX9_octet 4 (some .int) :: gtb) B.pre
  have hts : ∀ w ∈ gtb, w.before [.ref (bs + 0), .int x1, .int x2].toArray s = true := fun w hw => hts0 w (List.mem_cons_of_mem _ hw)
  have hown : s.vm.findClass RX9 = some m.cls := findClass_of_methodNamed B.named
  have hlocks := B.notSynchronized
  have hS : va_S (FA bs) s.heap s.heap [] := va_S.rf
  have Gc : Gx p s m [.ref (bs + 0), .int x1, .int x2].toArray meth c cX9_octet 4 RX9 bs D y (some .int) 44 := ⟨hx, hb, hml, hown, hts, hK, hN, hL, hr, hlocks, hcb⟩
  have hl := lv_entry [.ref (bs + 0), .int x1, .int x2] (n := 4) (Nat.le_of_ble_eq_true rfl)
  rw [lg_entry_eq]
  generalize (lg_sl [.ref (bs + 0), .int x1, .int x2] ++ List.replicate (4 - (lg_sl [.ref (bs + 0), .int x1, .int x2]).length) Slot.unset).toArray = ls at hl ⊢
  have hl : lv_has ls 4 [(0, .ref (bs + 0)), (1, .int x1), (2, .int x2)] := hl
  change W p l e (rmm 2 43) s m [.ref (bs + 0), .int x1, .int x2].toArray below meth c s.heap [] 0 0 (QI below [.ref (bs + 0), .int x1, .int x2].toArray s bs D y r) (F0 m 0 ls [])
  unfold fX9_octet at h
  refine lv_aload_n hx hb dX9_octet_0 rfl (lv_at hl 0 rfl) ?_
  refine lv_iload_n hx hb dX9_octet_1 rfl (lv_at hl 1 rfl) ?_
  refine lv_iload_n hx hb dX9_octet_2 rfl (lv_at hl 2 rfl) ?_
  obtain ⟨r3, er3, h⟩ := bd_s1 h
  refine c_VI (k := 0) (ci := 9) (As := [.int x1, .int x2]) (rest := []) hx hb hml hown hts hK hN hL hP hS (cX9_wrongByte_ l bs D y hcb n x1 x2 I J r3 er3) ok_X9_wrongByte ov_X9_wrongByte ml_108 ⟨Nat.le_of_ble_eq_true rfl, Nat.le_of_ble_eq_true rfl⟩ rfl hcb kd_0 hl.1 rfl rfl (Nat.le_of_ble_eq_true rfl) ⟨Nat.zero_le _, Nat.zero_le _⟩ dX9_octet_3 (fun H locs hP hS => ?_)
  obtain ⟨v6, ev6, h⟩ := lt_s1 h
  refine top_i ev6 ?_
  refine lv_istore_n (lv' := [(3, .int v6), (0, .ref (bs + 0)), (1, .int x1), (2, .int x2)]) hx hb dX9_octet_6 rfl hl (by decide) rfl (fun ls hl => ?_)
  refine lv_iload_n hx hb dX9_octet_7 rfl (lv_at hl 0 rfl) ?_
  refine lv_if_eq (tgt := 19) hx hb dX9_octet_8 (by decide) (fun c8 => ?_) (fun c8 => ?_)
  · replace h := if_t c8 h
    refine lv_aload_n hx hb dX9_octet_19 rfl (lv_at hl 1 rfl) ?_
    refine g_R (C := RX9) (T := TX9) (N := 10) (ci := 9) 0 6 34 hx hb hts hown hK hP in_X9 rfl hcb okF_0_6 rfc_0_6 fl_99 dX9_octet_20 ?_
    refine g_R (C := RX1) (T := TX1) (N := 5) (ci := 1) 34 2 35 hx hb hts hown hK hP in_X1 rfl hcb okF_34_2 rfc_34_2 fl_130 dX9_octet_23 ?_
    refine lv_aload_n hx hb dX9_octet_26 rfl (lv_at hl 1 rfl) ?_
    refine g_R (C := RX9) (T := TX9) (N := 10) (ci := 9) 0 6 34 hx hb hts hown hK hP in_X9 rfl hcb okF_0_6 rfc_0_6 fl_99 dX9_octet_27 ?_
    refine g_R (C := RX1) (T := TX1) (N := 5) (ci := 1) 34 3 36 hx hb hts hown hK hP in_X1 rfl hcb okF_34_3 rfc_34_3 fl_131 dX9_octet_30 ?_
    refine lv_iload_n hx hb dX9_octet_33 rfl (lv_at hl 2 rfl) ?_
    obtain ⟨hi34, h⟩ := if_s1 h
    refine a_I 36 hx hb hK hP hcb aln_36 hi34 dX9_octet_34 ?_
    refine lv_iload_n hx hb dX9_octet_35 rfl (lv_at hl 3 rfl) ?_
    refine lv_iadd hx hb dX9_octet_36 ?_
    obtain ⟨hi37, h⟩ := if_s1 h
    refine a_I 35 hx hb hK hP hcb aln_35 hi37 dX9_octet_37 ?_
    exact r_I hx hb hr hlocks hP hK hN hL hS h dX9_octet_38
  · replace h := if_f c8 h
    refine lv_aload_n hx hb dX9_octet_11 rfl (lv_at hl 1 rfl) ?_
    refine lv_iload_n hx hb dX9_octet_12 rfl (lv_at hl 0 rfl) ?_
    obtain ⟨r13, er13, h⟩ := bd_s1 h
    refine c_VI (k := 0) (ci := 9) (As := [.int v6]) (rest := []) hx hb hml hown hts hK hN hL hP hS (cX9_refuse_ l bs D y hcb n v6 r3.2.1 r3.2.2 r13 er13) ok_X9_refuse ov_X9_refuse ml_71 ⟨Nat.le_of_ble_eq_true rfl, Nat.le_of_ble_eq_true rfl⟩ rfl hcb kd_0 hl.1 rfl rfl (Nat.le_of_ble_eq_true rfl) ⟨Nat.zero_le _, Nat.zero_le _⟩ dX9_octet_13 (fun H locs hP hS => ?_)
    refine lv_goto (tgt := 38) hx hb dX9_octet_16 (by decide) ?_
    exact r_I hx hb hr hlocks hP hK hN hL hS h dX9_octet_38
theorem dX9_bend_0 : decode cX9_bend 0 = .ok (.aload_n 0, 1) := by decide +kernel
theorem dX9_bend_1 : decode cX9_bend 1 = .ok (.iload_n 1, 1) := by decide +kernel
theorem dX9_bend_2 : decode cX9_bend 2 = .ok (.iload_n 2, 1) := by decide +kernel
theorem dX9_bend_3 : decode cX9_bend 3 = .ok (.invokevirtual 292, 3) := by decide +kernel
theorem dX9_bend_6 : decode cX9_bend 6 = .ok (.istore 4, 2) := by decide +kernel
theorem dX9_bend_8 : decode cX9_bend 8 = .ok (.iload 4, 2) := by decide +kernel
theorem dX9_bend_10 : decode cX9_bend 10 = .ok (.ifCond .ne 18, 3) := by decide +kernel
theorem dX9_bend_13 : decode cX9_bend 13 = .ok (.iload_n 3, 1) := by decide +kernel
theorem dX9_bend_14 : decode cX9_bend 14 = .ok (.iconst 1, 1) := by decide +kernel
theorem dX9_bend_15 : decode cX9_bend 15 = .ok (.sipush 255, 3) := by decide +kernel
theorem dX9_bend_18 : decode cX9_bend 18 = .ok (.invokestatic 181, 3) := by decide +kernel
theorem dX9_bend_21 : decode cX9_bend 21 = .ok (.ifCond .ne 7, 3) := by decide +kernel
theorem dX9_bend_24 : decode cX9_bend 24 = .ok (.bipush (-7), 2) := by decide +kernel
theorem dX9_bend_26 : decode cX9_bend 26 = .ok (.istore 4, 2) := by decide +kernel
theorem dX9_bend_28 : decode cX9_bend 28 = .ok (.iload 4, 2) := by decide +kernel
theorem dX9_bend_30 : decode cX9_bend 30 = .ok (.ifCond .eq 10, 3) := by decide +kernel
theorem dX9_bend_33 : decode cX9_bend 33 = .ok (.aload_n 0, 1) := by decide +kernel
theorem dX9_bend_34 : decode cX9_bend 34 = .ok (.iload 4, 2) := by decide +kernel
theorem dX9_bend_36 : decode cX9_bend 36 = .ok (.invokevirtual 91, 3) := by decide +kernel
theorem dX9_bend_39 : decode cX9_bend 39 = .ok (.ireturn, 1) := by decide +kernel
theorem dX9_bend_40 : decode cX9_bend 40 = .ok (.aload_n 0, 1) := by decide +kernel
theorem dX9_bend_41 : decode cX9_bend 41 = .ok (.getfield 54, 3) := by decide +kernel
theorem dX9_bend_44 : decode cX9_bend 44 = .ok (.getfield 298, 3) := by decide +kernel
theorem dX9_bend_47 : decode cX9_bend 47 = .ok (.iload_n 1, 1) := by decide +kernel
theorem dX9_bend_48 : decode cX9_bend 48 = .ok (.iaload, 1) := by decide +kernel
theorem dX9_bend_49 : decode cX9_bend 49 = .ok (.iload_n 2, 1) := by decide +kernel
theorem dX9_bend_50 : decode cX9_bend 50 = .ok (.iadd, 1) := by decide +kernel
theorem dX9_bend_51 : decode cX9_bend 51 = .ok (.istore 5, 2) := by decide +kernel
theorem dX9_bend_53 : decode cX9_bend 53 = .ok (.aload_n 0, 1) := by decide +kernel
theorem dX9_bend_54 : decode cX9_bend 54 = .ok (.getfield 54, 3) := by decide +kernel
theorem dX9_bend_57 : decode cX9_bend 57 = .ok (.getfield 295, 3) := by decide +kernel
theorem dX9_bend_60 : decode cX9_bend 60 = .ok (.iload 5, 2) := by decide +kernel
theorem dX9_bend_62 : decode cX9_bend 62 = .ok (.dup2, 1) := by decide +kernel
theorem dX9_bend_63 : decode cX9_bend 63 = .ok (.iaload, 1) := by decide +kernel
theorem dX9_bend_64 : decode cX9_bend 64 = .ok (.iload_n 3, 1) := by decide +kernel
theorem dX9_bend_65 : decode cX9_bend 65 = .ok (.ixor, 1) := by decide +kernel
theorem dX9_bend_66 : decode cX9_bend 66 = .ok (.iastore, 1) := by decide +kernel
theorem dX9_bend_67 : decode cX9_bend 67 = .ok (.aload_n 0, 1) := by decide +kernel
theorem dX9_bend_68 : decode cX9_bend 68 = .ok (.getfield 54, 3) := by decide +kernel
theorem dX9_bend_71 : decode cX9_bend 71 = .ok (.getfield 295, 3) := by decide +kernel
theorem dX9_bend_74 : decode cX9_bend 74 = .ok (.iload 5, 2) := by decide +kernel
theorem dX9_bend_76 : decode cX9_bend 76 = .ok (.iaload, 1) := by decide +kernel
theorem dX9_bend_77 : decode cX9_bend 77 = .ok (.ireturn, 1) := by decide +kernel
set_option maxHeartbeats 4000000 in
set_option maxRecDepth 100000 in
theorem wX9_bend_28 {p : Program} {l : Launch} {e : Env} {s : State} {m : MethodId} {args : Array Value} {below : List Frame} {meth : Method} {c : Code} (bs : Nat) (D : va_G) (y : Y3) (n : Nat) (r : Int32 × M2) (Gc : Gx p s m args meth c cX9_bend 6 RX9 bs D y (some .int) 44)  (x1 : Int32) (x2 : Int32) (x3 : Int32) (x4 : Int32) (I : MI) (J : MJ) (H : Heap) (locs : List Loc) (ls : Array Slot) (hP : va_P D vwCl (wl bs y I J) H) (hS : va_S (FA bs) s.heap H locs) (hl : lv_has ls 6 [(0, .ref (bs + 0)), (1, .int x1), (2, .int x2), (3, .int x3), (4, .int x4)]) (h : fX9_bend_28 n  x1 x2 x3 x4 I J = some r) : W p l e (rmm 2 43) s m args below meth c H locs 0 0 (QI below args s bs D y r) (F0 m 28 ls []) := by
  obtain ⟨hx, hb, hml, hown, hts, hK, hN, hL, hr, hlocks, hcb⟩ := id Gc
  unfold fX9_bend_28 at h
  refine lv_iload hx hb dX9_bend_28 (lv_at hl 4 rfl) ?_
  refine lv_if_eq (tgt := 40) hx hb dX9_bend_30 (by decide) (fun c30 => ?_) (fun c30 => ?_)
  · replace h := if_t c30 h
    refine lv_aload_n hx hb dX9_bend_40 rfl (lv_at hl 0 rfl) ?_
    refine g_R (C := RX9) (T := TX9) (N := 10) (ci := 9) 0 6 34 hx hb hts hown hK hP in_X9 rfl hcb okF_0_6 rfc_0_6 fl_99 dX9_bend_41 ?_
    refine g_R (C := RX1) (T := TX1) (N := 5) (ci := 1) 34 3 36 hx hb hts hown hK hP in_X1 rfl hcb okF_34_3 rfc_34_3 fl_131 dX9_bend_44 ?_
    refine lv_iload_n hx hb dX9_bend_47 rfl (lv_at hl 1 rfl) ?_
    obtain ⟨hi48, h⟩ := if_s1 h
    refine a_I 36 hx hb hK hP hcb aln_36 hi48 dX9_bend_48 ?_
    refine lv_iload_n hx hb dX9_bend_49 rfl (lv_at hl 2 rfl) ?_
    refine lv_iadd hx hb dX9_bend_50 ?_
    obtain ⟨v51, ev51, h⟩ := lt_s1 h
    refine top_i ev51 ?_
    refine lv_istore (lv' := [(5, .int v51), (0, .ref (bs + 0)), (1, .int x1), (2, .int x2), (3, .int x3), (4, .int x4)]) hx hb dX9_bend_51 hl (by decide) rfl (fun ls hl => ?_)
    refine lv_aload_n hx hb dX9_bend_53 rfl (lv_at hl 1 rfl) ?_
    refine g_R (C := RX9) (T := TX9) (N := 10) (ci := 9) 0 6 34 hx hb hts hown hK hP in_X9 rfl hcb okF_0_6 rfc_0_6 fl_99 dX9_bend_54 ?_
    refine g_R (C := RX1) (T := TX1) (N := 5) (ci := 1) 34 2 35 hx hb hts hown hK hP in_X1 rfl hcb okF_34_2 rfc_34_2 fl_130 dX9_bend_57 ?_
    refine lv_iload hx hb dX9_bend_60 (lv_at hl 0 rfl) ?_
    refine lv_dup2_11 hx hb dX9_bend_62 rfl rfl ?_
    obtain ⟨hi63, h⟩ := if_s1 h
    refine a_I 35 hx hb hK hP hcb aln_35 hi63 dX9_bend_63 ?_
    refine lv_iload_n hx hb dX9_bend_64 rfl (lv_at hl 4 rfl) ?_
    refine lv_ixor hx hb dX9_bend_65 ?_
    obtain ⟨hi66, h⟩ := if_s1 h
    obtain ⟨I66, eI66, h⟩ := lt_s1 h
    refine t_I 35 eI66 hx hb hK hP hS hcb aln_35 hi66 dX9_bend_66 (fun H locs hP hS => ?_)
    refine lv_aload_n hx hb dX9_bend_67 rfl (lv_at hl 1 rfl) ?_
    refine g_R (C := RX9) (T := TX9) (N := 10) (ci := 9) 0 6 34 hx hb hts hown hK hP in_X9 rfl hcb okF_0_6 rfc_0_6 fl_99 dX9_bend_68 ?_
    refine g_R (C := RX1) (T := TX1) (N := 5) (ci := 1) 34 2 35 hx hb hts hown hK hP in_X1 rfl hcb okF_34_2 rfc_34_2 fl_130 dX9_bend_71 ?_
    refine lv_iload hx hb dX9_bend_74 (lv_at hl 0 rfl) ?_
    obtain ⟨hi76, h⟩ := if_s1 h
    refine a_I 35 hx hb hK hP hcb aln_35 hi76 dX9_bend_76 ?_
    exact r_I hx hb hr hlocks hP hK hN hL hS h dX9_bend_77
  · replace h := if_f c30 h
    refine lv_aload_n hx hb dX9_bend_33 rfl (lv_at hl 0 rfl) ?_
    refine lv_iload hx hb dX9_bend_34 (lv_at hl 4 rfl) ?_
    obtain ⟨r36, er36, h⟩ := bd_s1 h
    refine c_VI (k := 0) (ci := 9) (As := [.int x4]) (rest := []) hx hb hml hown hts hK hN hL hP hS (cX9_refuse_ l bs D y hcb n x4 I J r36 er36) ok_X9_refuse ov_X9_refuse ml_71 ⟨Nat.le_of_ble_eq_true rfl, Nat.le_of_ble_eq_true rfl⟩ rfl hcb kd_0 hl.1 rfl rfl (Nat.le_of_ble_eq_true rfl) ⟨Nat.zero_le _, Nat.zero_le _⟩ dX9_bend_36 (fun H locs hP hS => ?_)
    exact r_I hx hb hr hlocks hP hK hN hL hS h dX9_bend_39
set_option maxHeartbeats 4000000 in
set_option maxRecDepth 100000 in
theorem cX9_bend_ (l : Launch) (bs : Nat) (D : va_G) (y : Y3) (hcb : 44 ≤ y.2.2.2) (n : Nat) (x1 : Int32) (x2 : Int32) (x3 : Int32) (I : MI) (J : MJ) (r : Int32 × M2) (h : fX9_bend n x1 x2 x3 I J = some r) : Met l yX9_bend (.code yX9_bend cX9_bend 6 (some .int) :: gtb) (rmm 2 43) (va_Pc [.ref (bs + 0), .int x1, .int x2, .int x3] (HB bs D y I J)) (QcI bs D y r) 0 0 (FA bs) := by
  refine Met.ofW (cc := cX9_bend) (maxL := 6) (ret := (some .int)) (by decide) rfl ?_
  intro p e s m args below meth c s₁ B hml hv
  obtain ⟨rfl, hP, hK, hN, hL⟩ := hv
  have hx := B.exec
  have hb := B.bytes
  have hr := B.returns
  have hts0 := atoms_spec (ws := .code yX9_bend cX9_bend 6 (some .int) :: gtb) B.pre
  have hts : ∀ w ∈ gtb, w.before [.ref (bs + 0), .int x1, .int x2, .int x3].toArray s = true := fun w hw => hts0 w (List.mem_cons_of_mem _ hw)
  have hown : s.vm.findClass RX9 = some m.cls := findClass_of_methodNamed B.named
  have hlocks := B.notSynchronized
  have hS : va_S (FA bs) s.heap s.heap [] := va_S.rf
  have Gc : Gx p s m [.ref (bs + 0), .int x1, .int x2, .int x3].toArray meth c cX9_bend 6 RX9 bs D y (some .int) 44 := ⟨hx, hb, hml, hown, hts, hK, hN, hL, hr, hlocks, hcb⟩
  have hl := lv_entry [.ref (bs + 0), .int x1, .int x2, .int x3] (n := 6) (Nat.le_of_ble_eq_true rfl)
  rw [lg_entry_eq]
  generalize (lg_sl [.ref (bs + 0), .int x1, .int x2, .int x3] ++ List.replicate (6 - (lg_sl [.ref (bs + 0), .int x1, .int x2, .int x3]).length) Slot.unset).toArray = ls at hl ⊢
  have hl : lv_has ls 6 [(0, .ref (bs + 0)), (1, .int x1), (2, .int x2), (3, .int x3)] := hl
  change W p l e (rmm 2 43) s m [.ref (bs + 0), .int x1, .int x2, .int x3].toArray below meth c s.heap [] 0 0 (QI below [.ref (bs + 0), .int x1, .int x2, .int x3].toArray s bs D y r) (F0 m 0 ls [])
  unfold fX9_bend at h
  refine lv_aload_n hx hb dX9_bend_0 rfl (lv_at hl 0 rfl) ?_
  refine lv_iload_n hx hb dX9_bend_1 rfl (lv_at hl 1 rfl) ?_
  refine lv_iload_n hx hb dX9_bend_2 rfl (lv_at hl 2 rfl) ?_
  obtain ⟨r3, er3, h⟩ := bd_s1 h
  refine c_VI (k := 0) (ci := 9) (As := [.int x1, .int x2]) (rest := []) hx hb hml hown hts hK hN hL hP hS (cX9_wrongByte_ l bs D y hcb n x1 x2 I J r3 er3) ok_X9_wrongByte ov_X9_wrongByte ml_108 ⟨Nat.le_of_ble_eq_true rfl, Nat.le_of_ble_eq_true rfl⟩ rfl hcb kd_0 hl.1 rfl rfl (Nat.le_of_ble_eq_true rfl) ⟨Nat.zero_le _, Nat.zero_le _⟩ dX9_bend_3 (fun H locs hP hS => ?_)
  obtain ⟨v6, ev6, h⟩ := lt_s1 h
  refine top_i ev6 ?_
  refine lv_istore (lv' := [(4, .int v6), (0, .ref (bs + 0)), (1, .int x1), (2, .int x2), (3, .int x3)]) hx hb dX9_bend_6 hl (by decide) rfl (fun ls hl => ?_)
  refine lv_iload hx hb dX9_bend_8 (lv_at hl 0 rfl) ?_
  refine lv_if_ne (tgt := 28) hx hb dX9_bend_10 (by decide) (fun c10 => ?_) (fun c10 => ?_)
  · replace h := if_f c10 h
    exact wX9_bend_28 bs D y n  r Gc  x1 x2 x3 v6 r3.2.1 r3.2.2 _ _ _ hP hS (lv_sub hl [1, 2, 3, 4, 0] rfl) h
  · replace h := if_t c10 h
    refine lv_iload_n hx hb dX9_bend_13 rfl (lv_at hl 4 rfl) ?_
    refine lv_iconst (v := (1 : Int32)) hx hb dX9_bend_14 (by decide) ?_
    refine lv_sipush (v := (255 : Int32)) hx hb dX9_bend_15 (by decide) ?_
    obtain ⟨r18, er18, h⟩ := bd_s1 h
    refine c_SI (As := [.int x3, .int (1 : Int32), .int (255 : Int32)]) (rest := []) hx hb hml hown hts hK hN hL hP hS (cX9_within_ l bs D y hcb n x3 (1 : Int32) (255 : Int32) r3.2.1 r3.2.2 r18 er18) ok_X9_within ov_X9_within ml_67 ⟨Nat.le_of_ble_eq_true rfl, Nat.le_of_ble_eq_true rfl⟩ hl.1 rfl rfl (Nat.le_of_ble_eq_true rfl) ⟨Nat.zero_le _, Nat.zero_le _⟩ dX9_bend_18 (fun H locs hP hS => ?_)
    refine lv_if_ne (tgt := 28) hx hb dX9_bend_21 (by decide) (fun c21 => ?_) (fun c21 => ?_)
    · replace h := if_f c21 h
      exact wX9_bend_28 bs D y n  r Gc  x1 x2 x3 v6 r18.2.1 r18.2.2 _ _ _ hP hS (lv_sub hl [1, 2, 3, 4, 0] rfl) h
    · replace h := if_t c21 h
      refine lv_bipush (v := (-7 : Int32)) hx hb dX9_bend_24 (by decide) ?_
      refine lv_istore (lv' := [(4, .int (-7 : Int32)), (0, .ref (bs + 0)), (1, .int x1), (2, .int x2), (3, .int x3)]) hx hb dX9_bend_26 hl (by decide) rfl (fun ls hl => ?_)
      exact wX9_bend_28 bs D y n  r Gc  x1 x2 x3 (-7 : Int32) r18.2.1 r18.2.2 _ _ _ hP hS (lv_sub hl [1, 2, 3, 4, 0] rfl) h
theorem dX9_check_0 : decode cX9_check 0 = .ok (.aload_n 0, 1) := by decide +kernel
theorem dX9_check_1 : decode cX9_check 1 = .ok (.getfield 54, 3) := by decide +kernel
theorem dX9_check_4 : decode cX9_check 4 = .ok (.getfield 301, 3) := by decide +kernel
theorem dX9_check_7 : decode cX9_check 7 = .ok (.ifCond .eq 17, 3) := by decide +kernel
theorem dX9_check_10 : decode cX9_check 10 = .ok (.aload_n 0, 1) := by decide +kernel
theorem dX9_check_11 : decode cX9_check 11 = .ok (.getfield 54, 3) := by decide +kernel
theorem dX9_check_14 : decode cX9_check 14 = .ok (.aload_n 0, 1) := by decide +kernel
theorem dX9_check_15 : decode cX9_check 15 = .ok (.getfield 33, 3) := by decide +kernel
theorem dX9_check_18 : decode cX9_check 18 = .ok (.invokevirtual 302, 3) := by decide +kernel
theorem dX9_check_21 : decode cX9_check 21 = .ok (.goto 9, 3) := by decide +kernel
theorem dX9_check_24 : decode cX9_check 24 = .ok (.aload_n 0, 1) := by decide +kernel
theorem dX9_check_25 : decode cX9_check 25 = .ok (.bipush (-2), 2) := by decide +kernel
theorem dX9_check_27 : decode cX9_check 27 = .ok (.invokevirtual 91, 3) := by decide +kernel
theorem dX9_check_30 : decode cX9_check 30 = .ok (.ireturn, 1) := by decide +kernel
set_option maxHeartbeats 4000000 in
set_option maxRecDepth 100000 in
theorem cX9_check_ (l : Launch) (bs : Nat) (D : va_G) (y : Y3) (hcb : 44 ≤ y.2.2.2) (n : Nat) (I : MI) (J : MJ) (r : Int32 × M2) (h : fX9_check n  I J = some r) : Met l yX9_check (.code yX9_check cX9_check 1 (some .int) :: gtb) (rmm 2 47) (va_Pc [.ref (bs + 0)] (HB bs D y I J)) (QcI bs D y r) 0 0 (FA bs) := by
  refine Met.ofW (cc := cX9_check) (maxL := 1) (ret := (some .int)) (by decide) rfl ?_
  intro p e s m args below meth c s₁ B hml hv
  obtain ⟨rfl, hP, hK, hN, hL⟩ := hv
  have hx := B.exec
  have hb := B.bytes
  have hr := B.returns
  have hts0 := atoms_spec (ws := .code yX9_check cX9_check 1 (some .int) :: gtb) B.pre
  have hts : ∀ w ∈ gtb, w.before [.ref (bs + 0)].toArray s = true := fun w hw => hts0 w (List.mem_cons_of_mem _ hw)
  have hown : s.vm.findClass RX9 = some m.cls := findClass_of_methodNamed B.named
  have hlocks := B.notSynchronized
  have hS : va_S (FA bs) s.heap s.heap [] := va_S.rf
  have Gc : Gx p s m [.ref (bs + 0)].toArray meth c cX9_check 1 RX9 bs D y (some .int) 44 := ⟨hx, hb, hml, hown, hts, hK, hN, hL, hr, hlocks, hcb⟩
  have hl := lv_entry [.ref (bs + 0)] (n := 1) (Nat.le_of_ble_eq_true rfl)
  rw [lg_entry_eq]
  generalize (lg_sl [.ref (bs + 0)] ++ List.replicate (1 - (lg_sl [.ref (bs + 0)]).length) Slot.unset).toArray = ls at hl ⊢
  have hl : lv_has ls 1 [(0, .ref (bs + 0))] := hl
  change W p l e (rmm 2 47) s m [.ref (bs + 0)].toArray below meth c s.heap [] 0 0 (QI below [.ref (bs + 0)].toArray s bs D y r) (F0 m 0 ls [])
  unfold fX9_check at h
  refine lv_aload_n hx hb dX9_check_0 rfl (lv_at hl 0 rfl) ?_
  refine g_R (C := RX9) (T := TX9) (N := 10) (ci := 9) 0 6 34 hx hb hts hown hK hP in_X9 rfl hcb okF_0_6 rfc_0_6 fl_99 dX9_check_1 ?_
  refine g_I (C := RX1) (T := TX1) (N := 5) (ci := 1) 34 0 hx hb hts hown hK hP in_X1 rfl hcb okF_34_0 fl_100 dX9_check_4 ?_
  refine lv_if_eq (tgt := 24) hx hb dX9_check_7 (by decide) (fun c7 => ?_) (fun c7 => ?_)
  · replace h := if_t c7 h
    refine lv_aload_n hx hb dX9_check_24 rfl (lv_at hl 0 rfl) ?_
    refine lv_bipush (v := (-2 : Int32)) hx hb dX9_check_25 (by decide) ?_
    obtain ⟨r27, er27, h⟩ := bd_s1 h
    refine c_VI (k := 0) (ci := 9) (As := [.int (-2 : Int32)]) (rest := []) hx hb hml hown hts hK hN hL hP hS (cX9_refuse_ l bs D y hcb n (-2 : Int32) I J r27 er27) ok_X9_refuse ov_X9_refuse ml_71 ⟨Nat.le_of_ble_eq_true rfl, Nat.le_of_ble_eq_true rfl⟩ rfl hcb kd_0 hl.1 rfl rfl (Nat.le_of_ble_eq_true rfl) ⟨Nat.zero_le _, Nat.zero_le _⟩ dX9_check_27 (fun H locs hP hS => ?_)
    exact r_I hx hb hr hlocks hP hK hN hL hS h dX9_check_30
  · replace h := if_f c7 h
    refine lv_aload_n hx hb dX9_check_10 rfl (lv_at hl 0 rfl) ?_
    refine g_R (C := RX9) (T := TX9) (N := 10) (ci := 9) 0 6 34 hx hb hts hown hK hP in_X9 rfl hcb okF_0_6 rfc_0_6 fl_99 dX9_check_11 ?_
    refine lv_aload_n hx hb dX9_check_14 rfl (lv_at hl 0 rfl) ?_
    refine g_R (C := RX9) (T := TX9) (N := 10) (ci := 9) 0 3 16 hx hb hts hown hK hP in_X9 rfl hcb okF_0_3 rfc_0_3 fl_121 dX9_check_15 ?_
    obtain ⟨r18, er18, h⟩ := bd_s1 h
    refine c_VI (k := 34) (ci := 1) (As := [.ref (bs + 16)]) (rest := []) hx hb hml hown hts hK hN hL hP hS (cX1_firstWrongSum_ l bs D y hcb n  I J r18 er18) ok_X1_firstWrongSum ov_X1_firstWrongSum ml_109 ⟨Nat.le_of_ble_eq_true rfl, Nat.le_of_ble_eq_true rfl⟩ rfl hcb kd_34 hl.1 rfl rfl (Nat.le_of_ble_eq_true rfl) ⟨Nat.zero_le _, Nat.zero_le _⟩ dX9_check_18 (fun H locs hP hS => ?_)
    refine lv_goto (tgt := 30) hx hb dX9_check_21 (by decide) ?_
    exact r_I hx hb hr hlocks hP hK hN hL hS h dX9_check_30
theorem dX9_back_0 : decode cX9_back 0 = .ok (.aload_n 0, 1) := by decide +kernel
theorem dX9_back_1 : decode cX9_back 1 = .ok (.getfield 54, 3) := by decide +kernel
theorem dX9_back_4 : decode cX9_back 4 = .ok (.getfield 301, 3) := by decide +kernel
theorem dX9_back_7 : decode cX9_back 7 = .ok (.ifCond .eq 21, 3) := by decide +kernel
theorem dX9_back_10 : decode cX9_back 10 = .ok (.aload_n 0, 1) := by decide +kernel
theorem dX9_back_11 : decode cX9_back 11 = .ok (.getfield 54, 3) := by decide +kernel
theorem dX9_back_14 : decode cX9_back 14 = .ok (.aload_n 0, 1) := by decide +kernel
theorem dX9_back_15 : decode cX9_back 15 = .ok (.getfield 12, 3) := by decide +kernel
theorem dX9_back_18 : decode cX9_back 18 = .ok (.aload_n 0, 1) := by decide +kernel
theorem dX9_back_19 : decode cX9_back 19 = .ok (.getfield 26, 3) := by decide +kernel
theorem dX9_back_22 : decode cX9_back 22 = .ok (.invokevirtual 305, 3) := by decide +kernel
theorem dX9_back_25 : decode cX9_back 25 = .ok (.goto 9, 3) := by decide +kernel
theorem dX9_back_28 : decode cX9_back 28 = .ok (.aload_n 0, 1) := by decide +kernel
theorem dX9_back_29 : decode cX9_back 29 = .ok (.bipush (-2), 2) := by decide +kernel
theorem dX9_back_31 : decode cX9_back 31 = .ok (.invokevirtual 91, 3) := by decide +kernel
theorem dX9_back_34 : decode cX9_back 34 = .ok (.ireturn, 1) := by decide +kernel
set_option maxHeartbeats 4000000 in
set_option maxRecDepth 100000 in
theorem cX9_back_ (l : Launch) (bs : Nat) (D : va_G) (y : Y3) (hcb : 44 ≤ y.2.2.2) (n : Nat) (I : MI) (J : MJ) (r : Int32 × M2) (h : fX9_back n  I J = some r) : Met l yX9_back (.code yX9_back cX9_back 1 (some .int) :: gtb) (rmm 3 67) (va_Pc [.ref (bs + 0)] (HB bs D y I J)) (QcI bs D y r) 0 0 (FA bs) := by
  refine Met.ofW (cc := cX9_back) (maxL := 1) (ret := (some .int)) (by decide) rfl ?_
  intro p e s m args below meth c s₁ B hml hv
  obtain ⟨rfl, hP, hK, hN, hL⟩ := hv
  have hx := B.exec
  have hb := B.bytes
  have hr := B.returns
  have hts0 := atoms_spec (ws := .code yX9_back cX9_back 1 (some .int) :: gtb) B.pre
  have hts : ∀ w ∈ gtb, w.before [.ref (bs + 0)].toArray s = true := fun w hw => hts0 w (List.mem_cons_of_mem _ hw)
  have hown : s.vm.findClass RX9 = some m.cls := findClass_of_methodNamed B.named
  have hlocks := B.notSynchronized
  have hS : va_S (FA bs) s.heap s.heap [] := va_S.rf
  have Gc : Gx p s m [.ref (bs + 0)].toArray meth c cX9_back 1 RX9 bs D y (some .int) 44 := ⟨hx, hb, hml, hown, hts, hK, hN, hL, hr, hlocks, hcb⟩
  have hl := lv_entry [.ref (bs + 0)] (n := 1) (Nat.le_of_ble_eq_true rfl)
  rw [lg_entry_eq]
  generalize (lg_sl [.ref (bs + 0)] ++ List.replicate (1 - (lg_sl [.ref (bs + 0)]).length) Slot.unset).toArray = ls at hl ⊢
  have hl : lv_has ls 1 [(0, .ref (bs + 0))] := hl
  change W p l e (rmm 3 67) s m [.ref (bs + 0)].toArray below meth c s.heap [] 0 0 (QI below [.ref (bs + 0)].toArray s bs D y r) (F0 m 0 ls [])
  unfold fX9_back at h
  refine lv_aload_n hx hb dX9_back_0 rfl (lv_at hl 0 rfl) ?_
  refine g_R (C := RX9) (T := TX9) (N := 10) (ci := 9) 0 6 34 hx hb hts hown hK hP in_X9 rfl hcb okF_0_6 rfc_0_6 fl_99 dX9_back_1 ?_
  refine g_I (C := RX1) (T := TX1) (N := 5) (ci := 1) 34 0 hx hb hts hown hK hP in_X1 rfl hcb okF_34_0 fl_100 dX9_back_4 ?_
  refine lv_if_eq (tgt := 28) hx hb dX9_back_7 (by decide) (fun c7 => ?_) (fun c7 => ?_)
  · replace h := if_t c7 h
    refine lv_aload_n hx hb dX9_back_28 rfl (lv_at hl 0 rfl) ?_
    refine lv_bipush (v := (-2 : Int32)) hx hb dX9_back_29 (by decide) ?_
    obtain ⟨r31, er31, h⟩ := bd_s1 h
    refine c_VI (k := 0) (ci := 9) (As := [.int (-2 : Int32)]) (rest := []) hx hb hml hown hts hK hN hL hP hS (cX9_refuse_ l bs D y hcb n (-2 : Int32) I J r31 er31) ok_X9_refuse ov_X9_refuse ml_71 ⟨Nat.le_of_ble_eq_true rfl, Nat.le_of_ble_eq_true rfl⟩ rfl hcb kd_0 hl.1 rfl rfl (Nat.le_of_ble_eq_true rfl) ⟨Nat.zero_le _, Nat.zero_le _⟩ dX9_back_31 (fun H locs hP hS => ?_)
    exact r_I hx hb hr hlocks hP hK hN hL hS h dX9_back_34
  · replace h := if_f c7 h
    refine lv_aload_n hx hb dX9_back_10 rfl (lv_at hl 0 rfl) ?_
    refine g_R (C := RX9) (T := TX9) (N := 10) (ci := 9) 0 6 34 hx hb hts hown hK hP in_X9 rfl hcb okF_0_6 rfc_0_6 fl_99 dX9_back_11 ?_
    refine lv_aload_n hx hb dX9_back_14 rfl (lv_at hl 0 rfl) ?_
    refine g_R (C := RX9) (T := TX9) (N := 10) (ci := 9) 0 0 1 hx hb hts hown hK hP in_X9 rfl hcb okF_0_0 rfc_0_0 fl_106 dX9_back_15 ?_
    refine lv_aload_n hx hb dX9_back_18 rfl (lv_at hl 0 rfl) ?_
    refine g_R (C := RX9) (T := TX9) (N := 10) (ci := 9) 0 2 11 hx hb hts hown hK hP in_X9 rfl hcb okF_0_2 rfc_0_2 fl_103 dX9_back_19 ?_
    obtain ⟨r22, er22, h⟩ := bd_s1 h
    refine c_VI (k := 34) (ci := 1) (As := [.ref (bs + 1), .ref (bs + 11)]) (rest := []) hx hb hml hown hts hK hN hL hP hS (cX1_strangeTables_ l bs D y hcb n  I J r22 er22) ok_X1_strangeTables ov_X1_strangeTables ml_110 ⟨Nat.le_of_ble_eq_true rfl, Nat.le_of_ble_eq_true rfl⟩ rfl hcb kd_34 hl.1 rfl rfl (Nat.le_of_ble_eq_true rfl) ⟨Nat.zero_le _, Nat.zero_le _⟩ dX9_back_22 (fun H locs hP hS => ?_)
    refine lv_goto (tgt := 34) hx hb dX9_back_25 (by decide) ?_
    exact r_I hx hb hr hlocks hP hK hN hL hS h dX9_back_34
theorem dX9_start_0 : decode cX9_start 0 = .ok (.aload_n 0, 1) := by decide +kernel
theorem dX9_start_1 : decode cX9_start 1 = .ok (.getfield 61, 3) := by decide +kernel
theorem dX9_start_4 : decode cX9_start 4 = .ok (.aload_n 0, 1) := by decide +kernel
theorem dX9_start_5 : decode cX9_start 5 = .ok (.getfield 12, 3) := by decide +kernel
theorem dX9_start_8 : decode cX9_start 8 = .ok (.invokevirtual 80, 3) := by decide +kernel
theorem dX9_start_11 : decode cX9_start 11 = .ok (.aload_n 0, 1) := by decide +kernel
theorem dX9_start_12 : decode cX9_start 12 = .ok (.getfield 54, 3) := by decide +kernel
theorem dX9_start_15 : decode cX9_start 15 = .ok (.getfield 301, 3) := by decide +kernel
theorem dX9_start_18 : decode cX9_start 18 = .ok (.ifCond .eq 7, 3) := by decide +kernel
theorem dX9_start_21 : decode cX9_start 21 = .ok (.iconst 1, 1) := by decide +kernel
theorem dX9_start_22 : decode cX9_start 22 = .ok (.goto 4, 3) := by decide +kernel
theorem dX9_start_25 : decode cX9_start 25 = .ok (.iconst 0, 1) := by decide +kernel
theorem dX9_start_26 : decode cX9_start 26 = .ok (.ireturn, 1) := by decide +kernel
set_option maxHeartbeats 4000000 in
set_option maxRecDepth 100000 in
theorem cX9_start_ (l : Launch) (bs : Nat) (D : va_G) (y : Y3) (hcb : 44 ≤ y.2.2.2) (n : Nat) (I : MI) (J : MJ) (r : Int32 × M2) (h : fX9_start n  I J = some r) : Met l yX9_start (.code yX9_start cX9_start 1 (some .int) :: gtb) (rmm 1 22) (va_Pc [.ref (bs + 0)] (HB bs D y I J)) (QcI bs D y r) 0 0 (FA bs) := by
  refine Met.ofW (cc := cX9_start) (maxL := 1) (ret := (some .int)) (by decide) rfl ?_
  intro p e s m args below meth c s₁ B hml hv
  obtain ⟨rfl, hP, hK, hN, hL⟩ := hv
  have hx := B.exec
  have hb := B.bytes
  have hr := B.returns
  have hts0 := atoms_spec (ws := .code yX9_start cX9_start 1 (some .int) :: gtb) B.pre
  have hts : ∀ w ∈ gtb, w.before [.ref (bs + 0)].toArray s = true := fun w hw => hts0 w (List.mem_cons_of_mem _ hw)
  have hown : s.vm.findClass RX9 = some m.cls := findClass_of_methodNamed B.named
  have hlocks := B.notSynchronized
  have hS : va_S (FA bs) s.heap s.heap [] := va_S.rf
  have Gc : Gx p s m [.ref (bs + 0)].toArray meth c cX9_start 1 RX9 bs D y (some .int) 44 := ⟨hx, hb, hml, hown, hts, hK, hN, hL, hr, hlocks, hcb⟩
  have hl := lv_entry [.ref (bs + 0)] (n := 1) (Nat.le_of_ble_eq_true rfl)
  rw [lg_entry_eq]
  generalize (lg_sl [.ref (bs + 0)] ++ List.replicate (1 - (lg_sl [.ref (bs + 0)]).length) Slot.unset).toArray = ls at hl ⊢
  have hl : lv_has ls 1 [(0, .ref (bs + 0))] := hl
  change W p l e (rmm 1 22) s m [.ref (bs + 0)].toArray below meth c s.heap [] 0 0 (QI below [.ref (bs + 0)].toArray s bs D y r) (F0 m 0 ls [])
  unfold fX9_start at h
  refine lv_aload_n hx hb dX9_start_0 rfl (lv_at hl 0 rfl) ?_
  refine g_R (C := RX9) (T := TX9) (N := 10) (ci := 9) 0 7 38 hx hb hts hown hK hP in_X9 rfl hcb okF_0_7 rfc_0_7 fl_105 dX9_start_1 ?_
  refine lv_aload_n hx hb dX9_start_4 rfl (lv_at hl 0 rfl) ?_
  refine g_R (C := RX9) (T := TX9) (N := 10) (ci := 9) 0 0 1 hx hb hts hown hK hP in_X9 rfl hcb okF_0_0 rfc_0_0 fl_106 dX9_start_5 ?_
  obtain ⟨r8, er8, h⟩ := bd_s1 h
  refine c_VV (k := 38) (ci := 6) (As := [.ref (bs + 1)]) (rest := []) hx hb hml hown hts hK hN hL hP hS (cX6_begin_ l bs D y hcb n  I J r8 er8) ok_X6_begin ov_X6_begin ml_70 ⟨Nat.le_of_ble_eq_true rfl, Nat.le_of_ble_eq_true rfl⟩ rfl hcb kd_38 hl.1 rfl rfl (Nat.le_of_ble_eq_true rfl) ⟨Nat.zero_le _, Nat.zero_le _⟩ dX9_start_8 (fun H locs hP hS => ?_)
  refine lv_aload_n hx hb dX9_start_11 rfl (lv_at hl 0 rfl) ?_
  refine g_R (C := RX9) (T := TX9) (N := 10) (ci := 9) 0 6 34 hx hb hts hown hK hP in_X9 rfl hcb okF_0_6 rfc_0_6 fl_99 dX9_start_12 ?_
  refine g_I (C := RX1) (T := TX1) (N := 5) (ci := 1) 34 0 hx hb hts hown hK hP in_X1 rfl hcb okF_34_0 fl_100 dX9_start_15 ?_
  refine lv_if_eq (tgt := 25) hx hb dX9_start_18 (by decide) (fun c18 => ?_) (fun c18 => ?_)
  · replace h := if_t c18 h
    refine lv_iconst (v := (0 : Int32)) hx hb dX9_start_25 (by decide) ?_
    exact r_I hx hb hr hlocks hP hK hN hL hS h dX9_start_26
  · replace h := if_f c18 h
    refine lv_iconst (v := (1 : Int32)) hx hb dX9_start_21 (by decide) ?_
    refine lv_goto (tgt := 26) hx hb dX9_start_22 (by decide) ?_
    exact r_I hx hb hr hlocks hP hK hN hL hS h dX9_start_26
theorem dX9_clock_0 : decode cX9_clock 0 = .ok (.iload_n 1, 1) := by decide +kernel
theorem dX9_clock_1 : decode cX9_clock 1 = .ok (.ifCond .lt 16, 3) := by decide +kernel
theorem dX9_clock_4 : decode cX9_clock 4 = .ok (.iload_n 1, 1) := by decide +kernel
theorem dX9_clock_5 : decode cX9_clock 5 = .ok (.iconst 1, 1) := by decide +kernel
theorem dX9_clock_6 : decode cX9_clock 6 = .ok (.aload_n 0, 1) := by decide +kernel
theorem dX9_clock_7 : decode cX9_clock 7 = .ok (.getfield 12, 3) := by decide +kernel
theorem dX9_clock_10 : decode cX9_clock 10 = .ok (.getfield 88, 3) := by decide +kernel
theorem dX9_clock_13 : decode cX9_clock 13 = .ok (.ishl, 1) := by decide +kernel
theorem dX9_clock_14 : decode cX9_clock 14 = .ok (.if_icmp .lt 10, 3) := by decide +kernel
theorem dX9_clock_17 : decode cX9_clock 17 = .ok (.aload_n 0, 1) := by decide +kernel
theorem dX9_clock_18 : decode cX9_clock 18 = .ok (.bipush (-3), 2) := by decide +kernel
theorem dX9_clock_20 : decode cX9_clock 20 = .ok (.invokevirtual 91, 3) := by decide +kernel
theorem dX9_clock_23 : decode cX9_clock 23 = .ok (.ireturn, 1) := by decide +kernel
theorem dX9_clock_24 : decode cX9_clock 24 = .ok (.aload_n 0, 1) := by decide +kernel
theorem dX9_clock_25 : decode cX9_clock 25 = .ok (.getfield 61, 3) := by decide +kernel
theorem dX9_clock_28 : decode cX9_clock 28 = .ok (.aload_n 0, 1) := by decide +kernel
theorem dX9_clock_29 : decode cX9_clock 29 = .ok (.getfield 12, 3) := by decide +kernel
theorem dX9_clock_32 : decode cX9_clock 32 = .ok (.iload_n 1, 1) := by decide +kernel
theorem dX9_clock_33 : decode cX9_clock 33 = .ok (.invokevirtual 309, 3) := by decide +kernel
theorem dX9_clock_36 : decode cX9_clock 36 = .ok (.aload_n 0, 1) := by decide +kernel
theorem dX9_clock_37 : decode cX9_clock 37 = .ok (.getfield 54, 3) := by decide +kernel
theorem dX9_clock_40 : decode cX9_clock 40 = .ok (.getfield 301, 3) := by decide +kernel
theorem dX9_clock_43 : decode cX9_clock 43 = .ok (.ifCond .eq 23, 3) := by decide +kernel
theorem dX9_clock_46 : decode cX9_clock 46 = .ok (.aload_n 0, 1) := by decide +kernel
theorem dX9_clock_47 : decode cX9_clock 47 = .ok (.getfield 61, 3) := by decide +kernel
theorem dX9_clock_50 : decode cX9_clock 50 = .ok (.aload_n 0, 1) := by decide +kernel
theorem dX9_clock_51 : decode cX9_clock 51 = .ok (.getfield 12, 3) := by decide +kernel
theorem dX9_clock_54 : decode cX9_clock 54 = .ok (.aload_n 0, 1) := by decide +kernel
theorem dX9_clock_55 : decode cX9_clock 55 = .ok (.getfield 26, 3) := by decide +kernel
theorem dX9_clock_58 : decode cX9_clock 58 = .ok (.aload_n 0, 1) := by decide +kernel
theorem dX9_clock_59 : decode cX9_clock 59 = .ok (.getfield 54, 3) := by decide +kernel
theorem dX9_clock_62 : decode cX9_clock 62 = .ok (.iload_n 1, 1) := by decide +kernel
theorem dX9_clock_63 : decode cX9_clock 63 = .ok (.invokevirtual 313, 3) := by decide +kernel
theorem dX9_clock_66 : decode cX9_clock 66 = .ok (.aload_n 0, 1) := by decide +kernel
theorem dX9_clock_67 : decode cX9_clock 67 = .ok (.getfield 61, 3) := by decide +kernel
theorem dX9_clock_70 : decode cX9_clock 70 = .ok (.getfield 317, 3) := by decide +kernel
theorem dX9_clock_73 : decode cX9_clock 73 = .ok (.ireturn, 1) := by decide +kernel
set_option maxHeartbeats 4000000 in
set_option maxRecDepth 100000 in
theorem wX9_clock_17 {p : Program} {l : Launch} {e : Env} {s : State} {m : MethodId} {args : Array Value} {below : List Frame} {meth : Method} {c : Code} (bs : Nat) (D : va_G) (y : Y3) (n : Nat) (r : Int32 × M2) (Gc : Gx p s m args meth c cX9_clock 2 RX9 bs D y (some .int) 44)  (I : MI) (J : MJ) (H : Heap) (locs : List Loc) (ls : Array Slot) (hP : va_P D vwCl (wl bs y I J) H) (hS : va_S (FA bs) s.heap H locs) (hl : lv_has ls 2 [(0, .ref (bs + 0))]) (h : fX9_clock_17 n   I J = some r) : W p l e (rmm 4 95) s m args below meth c H locs 0 0 (QI below args s bs D y r) (F0 m 17 ls []) := by
  obtain ⟨hx, hb, hml, hown, hts, hK, hN, hL, hr, hlocks, hcb⟩ := id Gc
  unfold fX9_clock_17 at h
  refine lv_aload_n hx hb dX9_clock_17 rfl (lv_at hl 0 rfl) ?_
  refine lv_bipush (v := (-3 : Int32)) hx hb dX9_clock_18 (by decide) ?_
  obtain ⟨r20, er20, h⟩ := bd_s1 h
  refine c_VI (k := 0) (ci := 9) (As := [.int (-3 : Int32)]) (rest := []) hx hb hml hown hts hK hN hL hP hS (cX9_refuse_ l bs D y hcb n (-3 : Int32) I J r20 er20) ok_X9_refuse ov_X9_refuse ml_71 ⟨Nat.le_of_ble_eq_true rfl, Nat.le_of_ble_eq_true rfl⟩ rfl hcb kd_0 hl.1 rfl rfl (Nat.le_of_ble_eq_true rfl) ⟨Nat.zero_le _, Nat.zero_le _⟩ dX9_clock_20 (fun H locs hP hS => ?_)
  exact r_I hx hb hr hlocks hP hK hN hL hS h dX9_clock_23
set_option maxHeartbeats 4000000 in
set_option maxRecDepth 100000 in
theorem cX9_clock_ (l : Launch) (bs : Nat) (D : va_G) (y : Y3) (hcb : 44 ≤ y.2.2.2) (n : Nat) (x1 : Int32) (I : MI) (J : MJ) (r : Int32 × M2) (h : fX9_clock n x1 I J = some r) : Met l yX9_clock (.code yX9_clock cX9_clock 2 (some .int) :: gtb) (rmm 4 95) (va_Pc [.ref (bs + 0), .int x1] (HB bs D y I J)) (QcI bs D y r) 0 0 (FA bs) := by
  refine Met.ofW (cc := cX9_clock) (maxL := 2) (ret := (some .int)) (by decide) rfl ?_
  intro p e s m args below meth c s₁ B hml hv
  obtain ⟨rfl, hP, hK, hN, hL⟩ := hv
  have hx := B.exec
  have hb := B.bytes
  have hr := B.returns
  have hts0 := atoms_spec (ws := .code yX9_clock cX9_clock 2 (some .int) :: gtb) B.pre
  have hts : ∀ w ∈ gtb, w.before [.ref (bs + 0), .int x1].toArray s = true := fun w hw => hts0 w (List.mem_cons_of_mem _ hw)
  have hown : s.vm.findClass RX9 = some m.cls := findClass_of_methodNamed B.named
  have hlocks := B.notSynchronized
  have hS : va_S (FA bs) s.heap s.heap [] := va_S.rf
  have Gc : Gx p s m [.ref (bs + 0), .int x1].toArray meth c cX9_clock 2 RX9 bs D y (some .int) 44 := ⟨hx, hb, hml, hown, hts, hK, hN, hL, hr, hlocks, hcb⟩
  have hl := lv_entry [.ref (bs + 0), .int x1] (n := 2) (Nat.le_of_ble_eq_true rfl)
  rw [lg_entry_eq]
  generalize (lg_sl [.ref (bs + 0), .int x1] ++ List.replicate (2 - (lg_sl [.ref (bs + 0), .int x1]).length) Slot.unset).toArray = ls at hl ⊢
  have hl : lv_has ls 2 [(0, .ref (bs + 0)), (1, .int x1)] := hl
  change W p l e (rmm 4 95) s m [.ref (bs + 0), .int x1].toArray below meth c s.heap [] 0 0 (QI below [.ref (bs + 0), .int x1].toArray s bs D y r) (F0 m 0 ls [])
  unfold fX9_clock at h
  refine lv_iload_n hx hb dX9_clock_0 rfl (lv_at hl 1 rfl) ?_
  refine lv_if_lt (tgt := 17) hx hb dX9_clock_1 (by decide) (fun c1 => ?_) (fun c1 => ?_)
  · replace h := if_t c1 h
    exact wX9_clock_17 bs D y n  r Gc   I J _ _ _ hP hS (lv_sub hl [0] rfl) h
  · replace h := if_f c1 h
    refine lv_iload_n hx hb dX9_clock_4 rfl (lv_at hl 1 rfl) ?_
    refine lv_iconst (v := (1 : Int32)) hx hb dX9_clock_5 (by decide) ?_
    refine lv_aload_n hx hb dX9_clock_6 rfl (lv_at hl 0 rfl) ?_
    refine g_R (C := RX9) (T := TX9) (N := 10) (ci := 9) 0 0 1 hx hb hts hown hK hP in_X9 rfl hcb okF_0_0 rfc_0_0 fl_106 dX9_clock_7 ?_
    refine g_I (C := RX3) (T := TX3) (N := 11) (ci := 3) 1 6 hx hb hts hown hK hP in_X3 rfl hcb okF_1_6 fl_108 dX9_clock_10 ?_
    refine lv_ishl hx hb dX9_clock_13 ?_
    refine lv_icmp_lt (tgt := 24) hx hb dX9_clock_14 (by decide) (fun c14 => ?_) (fun c14 => ?_)
    · replace h := if_t c14 h
      refine lv_aload_n hx hb dX9_clock_24 rfl (lv_at hl 0 rfl) ?_
      refine g_R (C := RX9) (T := TX9) (N := 10) (ci := 9) 0 7 38 hx hb hts hown hK hP in_X9 rfl hcb okF_0_7 rfc_0_7 fl_105 dX9_clock_25 ?_
      refine lv_aload_n hx hb dX9_clock_28 rfl (lv_at hl 0 rfl) ?_
      refine g_R (C := RX9) (T := TX9) (N := 10) (ci := 9) 0 0 1 hx hb hts hown hK hP in_X9 rfl hcb okF_0_0 rfc_0_0 fl_106 dX9_clock_29 ?_
      refine lv_iload_n hx hb dX9_clock_32 rfl (lv_at hl 1 rfl) ?_
      obtain ⟨r33, er33, h⟩ := bd_s1 h
      refine c_VV (k := 38) (ci := 6) (As := [.ref (bs + 1), .int x1]) (rest := []) hx hb hml hown hts hK hN hL hP hS (cX6_stepNet_ l bs D y hcb n x1 I J r33 er33) ok_X6_stepNet ov_X6_stepNet ml_111 ⟨Nat.le_of_ble_eq_true rfl, Nat.le_of_ble_eq_true rfl⟩ rfl hcb kd_38 hl.1 rfl rfl (Nat.le_of_ble_eq_true rfl) ⟨Nat.zero_le _, Nat.zero_le _⟩ dX9_clock_33 (fun H locs hP hS => ?_)
      refine lv_aload_n hx hb dX9_clock_36 rfl (lv_at hl 0 rfl) ?_
      refine g_R (C := RX9) (T := TX9) (N := 10) (ci := 9) 0 6 34 hx hb hts hown hK hP in_X9 rfl hcb okF_0_6 rfc_0_6 fl_99 dX9_clock_37 ?_
      refine g_I (C := RX1) (T := TX1) (N := 5) (ci := 1) 34 0 hx hb hts hown hK hP in_X1 rfl hcb okF_34_0 fl_100 dX9_clock_40 ?_
      refine lv_if_eq (tgt := 66) hx hb dX9_clock_43 (by decide) (fun c43 => ?_) (fun c43 => ?_)
      · replace h := if_t c43 h
        refine lv_aload_n hx hb dX9_clock_66 rfl (lv_at hl 0 rfl) ?_
        refine g_R (C := RX9) (T := TX9) (N := 10) (ci := 9) 0 7 38 hx hb hts hown hK hP in_X9 rfl hcb okF_0_7 rfc_0_7 fl_105 dX9_clock_67 ?_
        refine g_I (C := RX6) (T := TX6) (N := 6) (ci := 6) 38 1 hx hb hts hown hK hP in_X6 rfl hcb okF_38_1 fl_132 dX9_clock_70 ?_
        exact r_I hx hb hr hlocks hP hK hN hL hS h dX9_clock_73
      · replace h := if_f c43 h
        refine lv_aload_n hx hb dX9_clock_46 rfl (lv_at hl 0 rfl) ?_
        refine g_R (C := RX9) (T := TX9) (N := 10) (ci := 9) 0 7 38 hx hb hts hown hK hP in_X9 rfl hcb okF_0_7 rfc_0_7 fl_105 dX9_clock_47 ?_
        refine lv_aload_n hx hb dX9_clock_50 rfl (lv_at hl 0 rfl) ?_
        refine g_R (C := RX9) (T := TX9) (N := 10) (ci := 9) 0 0 1 hx hb hts hown hK hP in_X9 rfl hcb okF_0_0 rfc_0_0 fl_106 dX9_clock_51 ?_
        refine lv_aload_n hx hb dX9_clock_54 rfl (lv_at hl 0 rfl) ?_
        refine g_R (C := RX9) (T := TX9) (N := 10) (ci := 9) 0 2 11 hx hb hts hown hK hP in_X9 rfl hcb okF_0_2 rfc_0_2 fl_103 dX9_clock_55 ?_
        refine lv_aload_n hx hb dX9_clock_58 rfl (lv_at hl 0 rfl) ?_
        refine g_R (C := RX9) (T := TX9) (N := 10) (ci := 9) 0 6 34 hx hb hts hown hK hP in_X9 rfl hcb okF_0_6 rfc_0_6 fl_99 dX9_clock_59 ?_
        refine lv_iload_n hx hb dX9_clock_62 rfl (lv_at hl 1 rfl) ?_
        obtain ⟨r63, er63, h⟩ := bd_s1 h
        refine c_VV (k := 38) (ci := 6) (As := [.ref (bs + 1), .ref (bs + 11), .ref (bs + 34), .int x1]) (rest := []) hx hb hml hown hts hK hN hL hP hS (cX6_stepCloth_ l bs D y hcb n x1 r33.1 r33.2 r63 er63) ok_X6_stepCloth ov_X6_stepCloth ml_112 ⟨Nat.le_of_ble_eq_true rfl, Nat.le_of_ble_eq_true rfl⟩ rfl hcb kd_38 hl.1 rfl rfl (Nat.le_of_ble_eq_true rfl) ⟨Nat.zero_le _, Nat.zero_le _⟩ dX9_clock_63 (fun H locs hP hS => ?_)
        refine lv_aload_n hx hb dX9_clock_66 rfl (lv_at hl 0 rfl) ?_
        refine g_R (C := RX9) (T := TX9) (N := 10) (ci := 9) 0 7 38 hx hb hts hown hK hP in_X9 rfl hcb okF_0_7 rfc_0_7 fl_105 dX9_clock_67 ?_
        refine g_I (C := RX6) (T := TX6) (N := 6) (ci := 6) 38 1 hx hb hts hown hK hP in_X6 rfl hcb okF_38_1 fl_132 dX9_clock_70 ?_
        exact r_I hx hb hr hlocks hP hK hN hL hS h dX9_clock_73
    · replace h := if_f c14 h
      exact wX9_clock_17 bs D y n  r Gc   I J _ _ _ hP hS (lv_sub hl [0] rfl) h
theorem dX9_told_0 : decode cX9_told 0 = .ok (.iload_n 1, 1) := by decide +kernel
theorem dX9_told_1 : decode cX9_told 1 = .ok (.ifCond .lt 8, 3) := by decide +kernel
theorem dX9_told_4 : decode cX9_told 4 = .ok (.iload_n 1, 1) := by decide +kernel
theorem dX9_told_5 : decode cX9_told 5 = .ok (.iconst 3, 1) := by decide +kernel
theorem dX9_told_6 : decode cX9_told 6 = .ok (.if_icmp .le 10, 3) := by decide +kernel
theorem dX9_told_9 : decode cX9_told 9 = .ok (.aload_n 0, 1) := by decide +kernel
theorem dX9_told_10 : decode cX9_told 10 = .ok (.bipush (-7), 2) := by decide +kernel
theorem dX9_told_12 : decode cX9_told 12 = .ok (.invokevirtual 91, 3) := by decide +kernel
theorem dX9_told_15 : decode cX9_told 15 = .ok (.ireturn, 1) := by decide +kernel
theorem dX9_told_16 : decode cX9_told 16 = .ok (.iload_n 1, 1) := by decide +kernel
theorem dX9_told_17 : decode cX9_told 17 = .ok (.iconst 1, 1) := by decide +kernel
theorem dX9_told_18 : decode cX9_told 18 = .ok (.if_icmp .gt 7, 3) := by decide +kernel
theorem dX9_told_21 : decode cX9_told 21 = .ok (.iconst 1, 1) := by decide +kernel
theorem dX9_told_22 : decode cX9_told 22 = .ok (.goto 4, 3) := by decide +kernel
theorem dX9_told_25 : decode cX9_told 25 = .ok (.iconst 0, 1) := by decide +kernel
theorem dX9_told_26 : decode cX9_told 26 = .ok (.istore_n 2, 1) := by decide +kernel
theorem dX9_told_27 : decode cX9_told 27 = .ok (.iload_n 1, 1) := by decide +kernel
theorem dX9_told_28 : decode cX9_told 28 = .ok (.iconst 1, 1) := by decide +kernel
theorem dX9_told_29 : decode cX9_told 29 = .ok (.if_icmp .eq 8, 3) := by decide +kernel
theorem dX9_told_32 : decode cX9_told 32 = .ok (.iload_n 1, 1) := by decide +kernel
theorem dX9_told_33 : decode cX9_told 33 = .ok (.iconst 3, 1) := by decide +kernel
theorem dX9_told_34 : decode cX9_told 34 = .ok (.if_icmp .ne 7, 3) := by decide +kernel
theorem dX9_told_37 : decode cX9_told 37 = .ok (.iconst 1, 1) := by decide +kernel
theorem dX9_told_38 : decode cX9_told 38 = .ok (.goto 4, 3) := by decide +kernel
theorem dX9_told_41 : decode cX9_told 41 = .ok (.iconst 0, 1) := by decide +kernel
theorem dX9_told_42 : decode cX9_told 42 = .ok (.istore_n 3, 1) := by decide +kernel
theorem dX9_told_43 : decode cX9_told 43 = .ok (.iload_n 2, 1) := by decide +kernel
theorem dX9_told_44 : decode cX9_told 44 = .ok (.ifCond .eq 13, 3) := by decide +kernel
theorem dX9_told_47 : decode cX9_told 47 = .ok (.aload_n 0, 1) := by decide +kernel
theorem dX9_told_48 : decode cX9_told 48 = .ok (.getfield 61, 3) := by decide +kernel
theorem dX9_told_51 : decode cX9_told 51 = .ok (.getfield 320, 3) := by decide +kernel
theorem dX9_told_54 : decode cX9_told 54 = .ok (.ifCond .eq 17, 3) := by decide +kernel
theorem dX9_told_57 : decode cX9_told 57 = .ok (.iload_n 3, 1) := by decide +kernel
theorem dX9_told_58 : decode cX9_told 58 = .ok (.ifCond .eq 20, 3) := by decide +kernel
theorem dX9_told_61 : decode cX9_told 61 = .ok (.aload_n 0, 1) := by decide +kernel
theorem dX9_told_62 : decode cX9_told 62 = .ok (.getfield 54, 3) := by decide +kernel
theorem dX9_told_65 : decode cX9_told 65 = .ok (.getfield 301, 3) := by decide +kernel
theorem dX9_told_68 : decode cX9_told 68 = .ok (.ifCond .ne 10, 3) := by decide +kernel
theorem dX9_told_71 : decode cX9_told 71 = .ok (.aload_n 0, 1) := by decide +kernel
theorem dX9_told_72 : decode cX9_told 72 = .ok (.bipush (-2), 2) := by decide +kernel
theorem dX9_told_74 : decode cX9_told 74 = .ok (.invokevirtual 91, 3) := by decide +kernel
theorem dX9_told_77 : decode cX9_told 77 = .ok (.ireturn, 1) := by decide +kernel
theorem dX9_told_78 : decode cX9_told 78 = .ok (.iload_n 2, 1) := by decide +kernel
theorem dX9_told_79 : decode cX9_told 79 = .ok (.ifCond .eq 25, 3) := by decide +kernel
theorem dX9_told_82 : decode cX9_told 82 = .ok (.iload_n 3, 1) := by decide +kernel
theorem dX9_told_83 : decode cX9_told 83 = .ok (.ifCond .eq 13, 3) := by decide +kernel
theorem dX9_told_86 : decode cX9_told 86 = .ok (.aload_n 0, 1) := by decide +kernel
theorem dX9_told_87 : decode cX9_told 87 = .ok (.getfield 61, 3) := by decide +kernel
theorem dX9_told_90 : decode cX9_told 90 = .ok (.getfield 323, 3) := by decide +kernel
theorem dX9_told_93 : decode cX9_told 93 = .ok (.goto 10, 3) := by decide +kernel
theorem dX9_told_96 : decode cX9_told 96 = .ok (.aload_n 0, 1) := by decide +kernel
theorem dX9_told_97 : decode cX9_told 97 = .ok (.getfield 61, 3) := by decide +kernel
theorem dX9_told_100 : decode cX9_told 100 = .ok (.getfield 317, 3) := by decide +kernel
theorem dX9_told_103 : decode cX9_told 103 = .ok (.ireturn, 1) := by decide +kernel
theorem dX9_told_104 : decode cX9_told 104 = .ok (.iload_n 3, 1) := by decide +kernel
theorem dX9_told_105 : decode cX9_told 105 = .ok (.ifCond .eq 13, 3) := by decide +kernel
theorem dX9_told_108 : decode cX9_told 108 = .ok (.aload_n 0, 1) := by decide +kernel
theorem dX9_told_109 : decode cX9_told 109 = .ok (.getfield 61, 3) := by decide +kernel
theorem dX9_told_112 : decode cX9_told 112 = .ok (.getfield 326, 3) := by decide +kernel
theorem dX9_told_115 : decode cX9_told 115 = .ok (.goto 10, 3) := by decide +kernel
theorem dX9_told_118 : decode cX9_told 118 = .ok (.aload_n 0, 1) := by decide +kernel
theorem dX9_told_119 : decode cX9_told 119 = .ok (.getfield 61, 3) := by decide +kernel
theorem dX9_told_122 : decode cX9_told 122 = .ok (.getfield 320, 3) := by decide +kernel
theorem dX9_told_125 : decode cX9_told 125 = .ok (.ireturn, 1) := by decide +kernel
set_option maxHeartbeats 4000000 in
set_option maxRecDepth 100000 in
theorem wX9_told_78 {p : Program} {l : Launch} {e : Env} {s : State} {m : MethodId} {args : Array Value} {below : List Frame} {meth : Method} {c : Code} (bs : Nat) (D : va_G) (y : Y3) (n : Nat) (r : Int32 × M2) (Gc : Gx p s m args meth c cX9_told 4 RX9 bs D y (some .int) 44)  (x2 : Int32) (x3 : Int32) (I : MI) (J : MJ) (H : Heap) (locs : List Loc) (ls : Array Slot) (hP : va_P D vwCl (wl bs y I J) H) (hS : va_S (FA bs) s.heap H locs) (hl : lv_has ls 4 [(0, .ref (bs + 0)), (2, .int x2), (3, .int x3)]) (h : fX9_told_78 n  x2 x3 I J = some r) : W p l e (rmm 2 43) s m args below meth c H locs 0 0 (QI below args s bs D y r) (F0 m 78 ls []) := by
  obtain ⟨hx, hb, hml, hown, hts, hK, hN, hL, hr, hlocks, hcb⟩ := id Gc
  unfold fX9_told_78 at h
  refine lv_iload_n hx hb dX9_told_78 rfl (lv_at hl 1 rfl) ?_
  refine lv_if_eq (tgt := 104) hx hb dX9_told_79 (by decide) (fun c79 => ?_) (fun c79 => ?_)
  · replace h := if_t c79 h
    refine lv_iload_n hx hb dX9_told_104 rfl (lv_at hl 2 rfl) ?_
    refine lv_if_eq (tgt := 118) hx hb dX9_told_105 (by decide) (fun c105 => ?_) (fun c105 => ?_)
    · replace h := if_t c105 h
      refine lv_aload_n hx hb dX9_told_118 rfl (lv_at hl 0 rfl) ?_
      refine g_R (C := RX9) (T := TX9) (N := 10) (ci := 9) 0 7 38 hx hb hts hown hK hP in_X9 rfl hcb okF_0_7 rfc_0_7 fl_105 dX9_told_119 ?_
      refine g_I (C := RX6) (T := TX6) (N := 6) (ci := 6) 38 0 hx hb hts hown hK hP in_X6 rfl hcb okF_38_0 fl_133 dX9_told_122 ?_
      exact r_I hx hb hr hlocks hP hK hN hL hS h dX9_told_125
    · replace h := if_f c105 h
      refine lv_aload_n hx hb dX9_told_108 rfl (lv_at hl 0 rfl) ?_
      refine g_R (C := RX9) (T := TX9) (N := 10) (ci := 9) 0 7 38 hx hb hts hown hK hP in_X9 rfl hcb okF_0_7 rfc_0_7 fl_105 dX9_told_109 ?_
      refine g_I (C := RX6) (T := TX6) (N := 6) (ci := 6) 38 3 hx hb hts hown hK hP in_X6 rfl hcb okF_38_3 fl_134 dX9_told_112 ?_
      refine lv_goto (tgt := 125) hx hb dX9_told_115 (by decide) ?_
      exact r_I hx hb hr hlocks hP hK hN hL hS h dX9_told_125
  · replace h := if_f c79 h
    refine lv_iload_n hx hb dX9_told_82 rfl (lv_at hl 2 rfl) ?_
    refine lv_if_eq (tgt := 96) hx hb dX9_told_83 (by decide) (fun c83 => ?_) (fun c83 => ?_)
    · replace h := if_t c83 h
      refine lv_aload_n hx hb dX9_told_96 rfl (lv_at hl 0 rfl) ?_
      refine g_R (C := RX9) (T := TX9) (N := 10) (ci := 9) 0 7 38 hx hb hts hown hK hP in_X9 rfl hcb okF_0_7 rfc_0_7 fl_105 dX9_told_97 ?_
      refine g_I (C := RX6) (T := TX6) (N := 6) (ci := 6) 38 1 hx hb hts hown hK hP in_X6 rfl hcb okF_38_1 fl_132 dX9_told_100 ?_
      exact r_I hx hb hr hlocks hP hK hN hL hS h dX9_told_103
    · replace h := if_f c83 h
      refine lv_aload_n hx hb dX9_told_86 rfl (lv_at hl 0 rfl) ?_
      refine g_R (C := RX9) (T := TX9) (N := 10) (ci := 9) 0 7 38 hx hb hts hown hK hP in_X9 rfl hcb okF_0_7 rfc_0_7 fl_105 dX9_told_87 ?_
      refine g_I (C := RX6) (T := TX6) (N := 6) (ci := 6) 38 2 hx hb hts hown hK hP in_X6 rfl hcb okF_38_2 fl_135 dX9_told_90 ?_
      refine lv_goto (tgt := 103) hx hb dX9_told_93 (by decide) ?_
      exact r_I hx hb hr hlocks hP hK hN hL hS h dX9_told_103
set_option maxHeartbeats 4000000 in
set_option maxRecDepth 100000 in
theorem wX9_told_71 {p : Program} {l : Launch} {e : Env} {s : State} {m : MethodId} {args : Array Value} {below : List Frame} {meth : Method} {c : Code} (bs : Nat) (D : va_G) (y : Y3) (n : Nat) (r : Int32 × M2) (Gc : Gx p s m args meth c cX9_told 4 RX9 bs D y (some .int) 44)  (I : MI) (J : MJ) (H : Heap) (locs : List Loc) (ls : Array Slot) (hP : va_P D vwCl (wl bs y I J) H) (hS : va_S (FA bs) s.heap H locs) (hl : lv_has ls 4 [(0, .ref (bs + 0))]) (h : fX9_told_71 n   I J = some r) : W p l e (rmm 2 43) s m args below meth c H locs 0 0 (QI below args s bs D y r) (F0 m 71 ls []) := by
  obtain ⟨hx, hb, hml, hown, hts, hK, hN, hL, hr, hlocks, hcb⟩ := id Gc
  unfold fX9_told_71 at h
  refine lv_aload_n hx hb dX9_told_71 rfl (lv_at hl 0 rfl) ?_
  refine lv_bipush (v := (-2 : Int32)) hx hb dX9_told_72 (by decide) ?_
  obtain ⟨r74, er74, h⟩ := bd_s1 h
  refine c_VI (k := 0) (ci := 9) (As := [.int (-2 : Int32)]) (rest := []) hx hb hml hown hts hK hN hL hP hS (cX9_refuse_ l bs D y hcb n (-2 : Int32) I J r74 er74) ok_X9_refuse ov_X9_refuse ml_71 ⟨Nat.le_of_ble_eq_true rfl, Nat.le_of_ble_eq_true rfl⟩ rfl hcb kd_0 hl.1 rfl rfl (Nat.le_of_ble_eq_true rfl) ⟨Nat.zero_le _, Nat.zero_le _⟩ dX9_told_74 (fun H locs hP hS => ?_)
  exact r_I hx hb hr hlocks hP hK hN hL hS h dX9_told_77
set_option maxHeartbeats 4000000 in
set_option maxRecDepth 100000 in
theorem wX9_told_57 {p : Program} {l : Launch} {e : Env} {s : State} {m : MethodId} {args : Array Value} {below : List Frame} {meth : Method} {c : Code} (bs : Nat) (D : va_G) (y : Y3) (n : Nat) (r : Int32 × M2) (Gc : Gx p s m args meth c cX9_told 4 RX9 bs D y (some .int) 44)  (x2 : Int32) (x3 : Int32) (I : MI) (J : MJ) (H : Heap) (locs : List Loc) (ls : Array Slot) (hP : va_P D vwCl (wl bs y I J) H) (hS : va_S (FA bs) s.heap H locs) (hl : lv_has ls 4 [(0, .ref (bs + 0)), (2, .int x2), (3, .int x3)]) (h : fX9_told_57 n  x2 x3 I J = some r) : W p l e (rmm 2 43) s m args below meth c H locs 0 0 (QI below args s bs D y r) (F0 m 57 ls []) := by
  obtain ⟨hx, hb, hml, hown, hts, hK, hN, hL, hr, hlocks, hcb⟩ := id Gc
  unfold fX9_told_57 at h
  refine lv_iload_n hx hb dX9_told_57 rfl (lv_at hl 2 rfl) ?_
  refine lv_if_eq (tgt := 78) hx hb dX9_told_58 (by decide) (fun c58 => ?_) (fun c58 => ?_)
  · replace h := if_t c58 h
    exact wX9_told_78 bs D y n  r Gc  x2 x3 I J _ _ _ hP hS (lv_sub hl [0, 1, 2] rfl) h
  · replace h := if_f c58 h
    refine lv_aload_n hx hb dX9_told_61 rfl (lv_at hl 0 rfl) ?_
    refine g_R (C := RX9) (T := TX9) (N := 10) (ci := 9) 0 6 34 hx hb hts hown hK hP in_X9 rfl hcb okF_0_6 rfc_0_6 fl_99 dX9_told_62 ?_
    refine g_I (C := RX1) (T := TX1) (N := 5) (ci := 1) 34 0 hx hb hts hown hK hP in_X1 rfl hcb okF_34_0 fl_100 dX9_told_65 ?_
    refine lv_if_ne (tgt := 78) hx hb dX9_told_68 (by decide) (fun c68 => ?_) (fun c68 => ?_)
    · replace h := if_f c68 h
      exact wX9_told_78 bs D y n  r Gc  x2 x3 I J _ _ _ hP hS (lv_sub hl [0, 1, 2] rfl) h
    · replace h := if_t c68 h
      exact wX9_told_71 bs D y n  r Gc   I J _ _ _ hP hS (lv_sub hl [0] rfl) h
set_option maxHeartbeats 4000000 in
set_option maxRecDepth 100000 in
theorem wX9_told_42 {p : Program} {l : Launch} {e : Env} {s : State} {m : MethodId} {args : Array Value} {below : List Frame} {meth : Method} {c : Code} (bs : Nat) (D : va_G) (y : Y3) (n : Nat) (r : Int32 × M2) (Gc : Gx p s m args meth c cX9_told 4 RX9 bs D y (some .int) 44)  (x2 : Int32) (s0 : Int32) (I : MI) (J : MJ) (H : Heap) (locs : List Loc) (ls : Array Slot) (hP : va_P D vwCl (wl bs y I J) H) (hS : va_S (FA bs) s.heap H locs) (hl : lv_has ls 4 [(0, .ref (bs + 0)), (2, .int x2)]) (h : fX9_told_42 n  x2 s0 I J = some r) : W p l e (rmm 2 43) s m args below meth c H locs 0 0 (QI below args s bs D y r) (F0 m 42 ls [.int s0]) := by
  obtain ⟨hx, hb, hml, hown, hts, hK, hN, hL, hr, hlocks, hcb⟩ := id Gc
  unfold fX9_told_42 at h
  refine lv_istore_n (lv' := [(3, .int s0), (0, .ref (bs + 0)), (2, .int x2)]) hx hb dX9_told_42 rfl hl (by decide) rfl (fun ls hl => ?_)
  refine lv_iload_n hx hb dX9_told_43 rfl (lv_at hl 2 rfl) ?_
  refine lv_if_eq (tgt := 57) hx hb dX9_told_44 (by decide) (fun c44 => ?_) (fun c44 => ?_)
  · replace h := if_t c44 h
    exact wX9_told_57 bs D y n  r Gc  x2 s0 I J _ _ _ hP hS (lv_sub hl [1, 2, 0] rfl) h
  · replace h := if_f c44 h
    refine lv_aload_n hx hb dX9_told_47 rfl (lv_at hl 1 rfl) ?_
    refine g_R (C := RX9) (T := TX9) (N := 10) (ci := 9) 0 7 38 hx hb hts hown hK hP in_X9 rfl hcb okF_0_7 rfc_0_7 fl_105 dX9_told_48 ?_
    refine g_I (C := RX6) (T := TX6) (N := 6) (ci := 6) 38 0 hx hb hts hown hK hP in_X6 rfl hcb okF_38_0 fl_133 dX9_told_51 ?_
    refine lv_if_eq (tgt := 71) hx hb dX9_told_54 (by decide) (fun c54 => ?_) (fun c54 => ?_)
    · replace h := if_t c54 h
      exact wX9_told_71 bs D y n  r Gc   I J _ _ _ hP hS (lv_sub hl [1] rfl) h
    · replace h := if_f c54 h
      exact wX9_told_57 bs D y n  r Gc  x2 s0 I J _ _ _ hP hS (lv_sub hl [1, 2, 0] rfl) h
set_option maxHeartbeats 4000000 in
set_option maxRecDepth 100000 in
theorem wX9_told_37 {p : Program} {l : Launch} {e : Env} {s : State} {m : MethodId} {args : Array Value} {below : List Frame} {meth : Method} {c : Code} (bs : Nat) (D : va_G) (y : Y3) (n : Nat) (r : Int32 × M2) (Gc : Gx p s m args meth c cX9_told 4 RX9 bs D y (some .int) 44)  (x2 : Int32) (I : MI) (J : MJ) (H : Heap) (locs : List Loc) (ls : Array Slot) (hP : va_P D vwCl (wl bs y I J) H) (hS : va_S (FA bs) s.heap H locs) (hl : lv_has ls 4 [(0, .ref (bs + 0)), (2, .int x2)]) (h : fX9_told_37 n  x2 I J = some r) : W p l e (rmm 2 43) s m args below meth c H locs 0 0 (QI below args s bs D y r) (F0 m 37 ls []) := by
  obtain ⟨hx, hb, hml, hown, hts, hK, hN, hL, hr, hlocks, hcb⟩ := id Gc
  unfold fX9_told_37 at h
  refine lv_iconst (v := (1 : Int32)) hx hb dX9_told_37 (by decide) ?_
  refine lv_goto (tgt := 42) hx hb dX9_told_38 (by decide) ?_
  exact wX9_told_42 bs D y n  r Gc  x2 (1 : Int32) I J _ _ _ hP hS (lv_sub hl [0, 1] rfl) h
set_option maxHeartbeats 4000000 in
set_option maxRecDepth 100000 in
theorem wX9_told_26 {p : Program} {l : Launch} {e : Env} {s : State} {m : MethodId} {args : Array Value} {below : List Frame} {meth : Method} {c : Code} (bs : Nat) (D : va_G) (y : Y3) (n : Nat) (r : Int32 × M2) (Gc : Gx p s m args meth c cX9_told 4 RX9 bs D y (some .int) 44)  (x1 : Int32) (s0 : Int32) (I : MI) (J : MJ) (H : Heap) (locs : List Loc) (ls : Array Slot) (hP : va_P D vwCl (wl bs y I J) H) (hS : va_S (FA bs) s.heap H locs) (hl : lv_has ls 4 [(0, .ref (bs + 0)), (1, .int x1)]) (h : fX9_told_26 n  x1 s0 I J = some r) : W p l e (rmm 2 43) s m args below meth c H locs 0 0 (QI below args s bs D y r) (F0 m 26 ls [.int s0]) := by
  obtain ⟨hx, hb, hml, hown, hts, hK, hN, hL, hr, hlocks, hcb⟩ := id Gc
  unfold fX9_told_26 at h
  refine lv_istore_n (lv' := [(2, .int s0), (0, .ref (bs + 0)), (1, .int x1)]) hx hb dX9_told_26 rfl hl (by decide) rfl (fun ls hl => ?_)
  refine lv_iload_n hx hb dX9_told_27 rfl (lv_at hl 2 rfl) ?_
  refine lv_iconst (v := (1 : Int32)) hx hb dX9_told_28 (by decide) ?_
  refine lv_icmp_eq (tgt := 37) hx hb dX9_told_29 (by decide) (fun c29 => ?_) (fun c29 => ?_)
  · replace h := if_t c29 h
    exact wX9_told_37 bs D y n  r Gc  s0 I J _ _ _ hP hS (lv_sub hl [1, 0] rfl) h
  · replace h := if_f c29 h
    refine lv_iload_n hx hb dX9_told_32 rfl (lv_at hl 2 rfl) ?_
    refine lv_iconst (v := (3 : Int32)) hx hb dX9_told_33 (by decide) ?_
    refine lv_icmp_ne (tgt := 41) hx hb dX9_told_34 (by decide) (fun c34 => ?_) (fun c34 => ?_)
    · replace h := if_f c34 h
      refine lv_iconst (v := (0 : Int32)) hx hb dX9_told_41 (by decide) ?_
      exact wX9_told_42 bs D y n  r Gc  s0 (0 : Int32) I J _ _ _ hP hS (lv_sub hl [1, 0] rfl) h
    · replace h := if_t c34 h
      exact wX9_told_37 bs D y n  r Gc  s0 I J _ _ _ hP hS (lv_sub hl [1, 0] rfl) h
set_option maxHeartbeats 4000000 in
set_option maxRecDepth 100000 in
theorem wX9_told_9 {p : Program} {l : Launch} {e : Env} {s : State} {m : MethodId} {args : Array Value} {below : List Frame} {meth : Method} {c : Code} (bs : Nat) (D : va_G) (y : Y3) (n : Nat) (r : Int32 × M2) (Gc : Gx p s m args meth c cX9_told 4 RX9 bs D y (some .int) 44)  (I : MI) (J : MJ) (H : Heap) (locs : List Loc) (ls : Array Slot) (hP : va_P D vwCl (wl bs y I J) H) (hS : va_S (FA bs) s.heap H locs) (hl : lv_has ls 4 [(0, .ref (bs + 0))]) (h : fX9_told_9 n   I J = some r) : W p l e (rmm 2 43) s m args below meth c H locs 0 0 (QI below args s bs D y r) (F0 m 9 ls []) := by
  obtain ⟨hx, hb, hml, hown, hts, hK, hN, hL, hr, hlocks, hcb⟩ := id Gc
  unfold fX9_told_9 at h
  refine lv_aload_n hx hb dX9_told_9 rfl (lv_at hl 0 rfl) ?_
  refine lv_bipush (v := (-7 : Int32)) hx hb dX9_told_10 (by decide) ?_
  obtain ⟨r12, er12, h⟩ := bd_s1 h
  refine c_VI (k := 0) (ci := 9) (As := [.int (-7 : Int32)]) (rest := []) hx hb hml hown hts hK hN hL hP hS (cX9_refuse_ l bs D y hcb n (-7 : Int32) I J r12 er12) ok_X9_refuse ov_X9_refuse ml_71 ⟨Nat.le_of_ble_eq_true rfl, Nat.le_of_ble_eq_true rfl⟩ rfl hcb kd_0 hl.1 rfl rfl (Nat.le_of_ble_eq_true rfl) ⟨Nat.zero_le _, Nat.zero_le _⟩ dX9_told_12 (fun H locs hP hS => ?_)
  exact r_I hx hb hr hlocks hP hK hN hL hS h dX9_told_15
set_option maxHeartbeats 4000000 in
set_option maxRecDepth 100000 in
theorem cX9_told_ (l : Launch) (bs : Nat) (D : va_G) (y : Y3) (hcb : 44 ≤ y.2.2.2) (n : Nat) (x1 : Int32) (I : MI) (J : MJ) (r : Int32 × M2) (h : fX9_told n x1 I J = some r) : Met l yX9_told (.code yX9_told cX9_told 4 (some .int) :: gtb) (rmm 2 43) (va_Pc [.ref (bs + 0), .int x1] (HB bs D y I J)) (QcI bs D y r) 0 0 (FA bs) := by
  refine Met.ofW (cc := cX9_told) (maxL := 4) (ret := (some .int)) (by decide) rfl ?_
  intro p e s m args below meth c s₁ B hml hv
  obtain ⟨rfl, hP, hK, hN, hL⟩ := hv
  have hx := B.exec
  have hb := B.bytes
  have hr := B.returns
  have hts0 := atoms_spec (ws := .code yX9_told cX9_told 4 (some .int) :: gtb) B.pre
  have hts : ∀ w ∈ gtb, w.before [.ref (bs + 0), .int x1].toArray s = true := fun w hw => hts0 w (List.mem_cons_of_mem _ hw)
  have hown : s.vm.findClass RX9 = some m.cls := findClass_of_methodNamed B.named
  have hlocks := B.notSynchronized
  have hS : va_S (FA bs) s.heap s.heap [] := va_S.rf
  have Gc : Gx p s m [.ref (bs + 0), .int x1].toArray meth c cX9_told 4 RX9 bs D y (some .int) 44 := ⟨hx, hb, hml, hown, hts, hK, hN, hL, hr, hlocks, hcb⟩
  have hl := lv_entry [.ref (bs + 0), .int x1] (n := 4) (Nat.le_of_ble_eq_true rfl)
  rw [lg_entry_eq]
  generalize (lg_sl [.ref (bs + 0), .int x1] ++ List.replicate (4 - (lg_sl [.ref (bs + 0), .int x1]).length) Slot.unset).toArray = ls at hl ⊢
  have hl : lv_has ls 4 [(0, .ref (bs + 0)), (1, .int x1)] := hl
  change W p l e (rmm 2 43) s m [.ref (bs + 0), .int x1].toArray below meth c s.heap [] 0 0 (QI below [.ref (bs + 0), .int x1].toArray s bs D y r) (F0 m 0 ls [])
  unfold fX9_told at h
  refine lv_iload_n hx hb dX9_told_0 rfl (lv_at hl 1 rfl) ?_
  refine lv_if_lt (tgt := 9) hx hb dX9_told_1 (by decide) (fun c1 => ?_) (fun c1 => ?_)
  · replace h := if_t c1 h
    exact wX9_told_9 bs D y n  r Gc   I J _ _ _ hP hS (lv_sub hl [0] rfl) h
  · replace h := if_f c1 h
    refine lv_iload_n hx hb dX9_told_4 rfl (lv_at hl 1 rfl) ?_
    refine lv_iconst (v := (3 : Int32)) hx hb dX9_told_5 (by decide) ?_
    refine lv_icmp_le (tgt := 16) hx hb dX9_told_6 (by decide) (fun c6 => ?_) (fun c6 => ?_)
    · replace h := if_t c6 h
      refine lv_iload_n hx hb dX9_told_16 rfl (lv_at hl 1 rfl) ?_
      refine lv_iconst (v := (1 : Int32)) hx hb dX9_told_17 (by decide) ?_
      refine lv_icmp_gt (tgt := 25) hx hb dX9_told_18 (by decide) (fun c18 => ?_) (fun c18 => ?_)
      · replace h := if_t c18 h
        refine lv_iconst (v := (0 : Int32)) hx hb dX9_told_25 (by decide) ?_
        exact wX9_told_26 bs D y n  r Gc  x1 (0 : Int32) I J _ _ _ hP hS (lv_sub hl [0, 1] rfl) h
      · replace h := if_f c18 h
        refine lv_iconst (v := (1 : Int32)) hx hb dX9_told_21 (by decide) ?_
        refine lv_goto (tgt := 26) hx hb dX9_told_22 (by decide) ?_
        exact wX9_told_26 bs D y n  r Gc  x1 (1 : Int32) I J _ _ _ hP hS (lv_sub hl [0, 1] rfl) h
    · replace h := if_f c6 h
      exact wX9_told_9 bs D y n  r Gc   I J _ _ _ hP hS (lv_sub hl [0] rfl) h
theorem dX9_lay_0 : decode cX9_lay 0 = .ok (.aload_n 0, 1) := by decide +kernel
theorem dX9_lay_1 : decode cX9_lay 1 = .ok (.getfield 33, 3) := by decide +kernel
theorem dX9_lay_4 : decode cX9_lay 4 = .ok (.iload_n 1, 1) := by decide +kernel
theorem dX9_lay_5 : decode cX9_lay 5 = .ok (.invokevirtual 191, 3) := by decide +kernel
theorem dX9_lay_8 : decode cX9_lay 8 = .ok (.ifCond .ne 10, 3) := by decide +kernel
theorem dX9_lay_11 : decode cX9_lay 11 = .ok (.aload_n 0, 1) := by decide +kernel
theorem dX9_lay_12 : decode cX9_lay 12 = .ok (.bipush (-3), 2) := by decide +kernel
theorem dX9_lay_14 : decode cX9_lay 14 = .ok (.invokevirtual 91, 3) := by decide +kernel
theorem dX9_lay_17 : decode cX9_lay 17 = .ok (.ireturn, 1) := by decide +kernel
theorem dX9_lay_18 : decode cX9_lay 18 = .ok (.aload_n 0, 1) := by decide +kernel
theorem dX9_lay_19 : decode cX9_lay 19 = .ok (.getfield 54, 3) := by decide +kernel
theorem dX9_lay_22 : decode cX9_lay 22 = .ok (.getfield 301, 3) := by decide +kernel
theorem dX9_lay_25 : decode cX9_lay 25 = .ok (.ifCond .ne 10, 3) := by decide +kernel
theorem dX9_lay_28 : decode cX9_lay 28 = .ok (.aload_n 0, 1) := by decide +kernel
theorem dX9_lay_29 : decode cX9_lay 29 = .ok (.bipush (-2), 2) := by decide +kernel
theorem dX9_lay_31 : decode cX9_lay 31 = .ok (.invokevirtual 91, 3) := by decide +kernel
theorem dX9_lay_34 : decode cX9_lay 34 = .ok (.ireturn, 1) := by decide +kernel
theorem dX9_lay_35 : decode cX9_lay 35 = .ok (.aload_n 0, 1) := by decide +kernel
theorem dX9_lay_36 : decode cX9_lay 36 = .ok (.getfield 68, 3) := by decide +kernel
theorem dX9_lay_39 : decode cX9_lay 39 = .ok (.aload_n 0, 1) := by decide +kernel
theorem dX9_lay_40 : decode cX9_lay 40 = .ok (.getfield 54, 3) := by decide +kernel
theorem dX9_lay_43 : decode cX9_lay 43 = .ok (.getfield 295, 3) := by decide +kernel
theorem dX9_lay_46 : decode cX9_lay 46 = .ok (.aload_n 0, 1) := by decide +kernel
theorem dX9_lay_47 : decode cX9_lay 47 = .ok (.getfield 54, 3) := by decide +kernel
theorem dX9_lay_50 : decode cX9_lay 50 = .ok (.getfield 298, 3) := by decide +kernel
theorem dX9_lay_53 : decode cX9_lay 53 = .ok (.iload_n 1, 1) := by decide +kernel
theorem dX9_lay_54 : decode cX9_lay 54 = .ok (.iaload, 1) := by decide +kernel
theorem dX9_lay_55 : decode cX9_lay 55 = .ok (.aload_n 0, 1) := by decide +kernel
theorem dX9_lay_56 : decode cX9_lay 56 = .ok (.getfield 54, 3) := by decide +kernel
theorem dX9_lay_59 : decode cX9_lay 59 = .ok (.getfield 298, 3) := by decide +kernel
theorem dX9_lay_62 : decode cX9_lay 62 = .ok (.iload_n 1, 1) := by decide +kernel
theorem dX9_lay_63 : decode cX9_lay 63 = .ok (.iconst 1, 1) := by decide +kernel
theorem dX9_lay_64 : decode cX9_lay 64 = .ok (.iadd, 1) := by decide +kernel
theorem dX9_lay_65 : decode cX9_lay 65 = .ok (.iaload, 1) := by decide +kernel
theorem dX9_lay_66 : decode cX9_lay 66 = .ok (.invokevirtual 329, 3) := by decide +kernel
theorem dX9_lay_69 : decode cX9_lay 69 = .ok (.aload_n 0, 1) := by decide +kernel
theorem dX9_lay_70 : decode cX9_lay 70 = .ok (.getfield 68, 3) := by decide +kernel
theorem dX9_lay_73 : decode cX9_lay 73 = .ok (.getfield 333, 3) := by decide +kernel
theorem dX9_lay_76 : decode cX9_lay 76 = .ok (.ireturn, 1) := by decide +kernel
set_option maxHeartbeats 4000000 in
set_option maxRecDepth 100000 in
theorem cX9_lay_ (l : Launch) (bs : Nat) (D : va_G) (y : Y3) (hcb : 44 ≤ y.2.2.2) (n : Nat) (x1 : Int32) (I : MI) (J : MJ) (r : Int32 × M2) (h : fX9_lay n x1 I J = some r) : Met l yX9_lay (.code yX9_lay cX9_lay 2 (some .int) :: gtb) (rmm 2 61) (va_Pc [.ref (bs + 0), .int x1] (HB bs D y I J)) (QcI bs D y r) 0 0 (FA bs) := by
  refine Met.ofW (cc := cX9_lay) (maxL := 2) (ret := (some .int)) (by decide) rfl ?_
  intro p e s m args below meth c s₁ B hml hv
  obtain ⟨rfl, hP, hK, hN, hL⟩ := hv
  have hx := B.exec
  have hb := B.bytes
  have hr := B.returns
  have hts0 := atoms_spec (ws := .code yX9_lay cX9_lay 2 (some .int) :: gtb) B.pre
  have hts : ∀ w ∈ gtb, w.before [.ref (bs + 0), .int x1].toArray s = true := fun w hw => hts0 w (List.mem_cons_of_mem _ hw)
  have hown : s.vm.findClass RX9 = some m.cls := findClass_of_methodNamed B.named
  have hlocks := B.notSynchronized
  have hS : va_S (FA bs) s.heap s.heap [] := va_S.rf
  have Gc : Gx p s m [.ref (bs + 0), .int x1].toArray meth c cX9_lay 2 RX9 bs D y (some .int) 44 := ⟨hx, hb, hml, hown, hts, hK, hN, hL, hr, hlocks, hcb⟩
  have hl := lv_entry [.ref (bs + 0), .int x1] (n := 2) (Nat.le_of_ble_eq_true rfl)
  rw [lg_entry_eq]
  generalize (lg_sl [.ref (bs + 0), .int x1] ++ List.replicate (2 - (lg_sl [.ref (bs + 0), .int x1]).length) Slot.unset).toArray = ls at hl ⊢
  have hl : lv_has ls 2 [(0, .ref (bs + 0)), (1, .int x1)] := hl
  change W p l e (rmm 2 61) s m [.ref (bs + 0), .int x1].toArray below meth c s.heap [] 0 0 (QI below [.ref (bs + 0), .int x1].toArray s bs D y r) (F0 m 0 ls [])
  unfold fX9_lay at h
  refine lv_aload_n hx hb dX9_lay_0 rfl (lv_at hl 0 rfl) ?_
  refine g_R (C := RX9) (T := TX9) (N := 10) (ci := 9) 0 3 16 hx hb hts hown hK hP in_X9 rfl hcb okF_0_3 rfc_0_3 fl_121 dX9_lay_1 ?_
  refine lv_iload_n hx hb dX9_lay_4 rfl (lv_at hl 1 rfl) ?_
  obtain ⟨r5, er5, h⟩ := bd_s1 h
  refine c_VI (k := 16) (ci := 2) (As := [.int x1]) (rest := []) hx hb hml hown hts hK hN hL hP hS (cX2_hasTile_ l bs D y hcb n x1 I J r5 er5) ok_X2_hasTile ov_X2_hasTile ml_88 ⟨Nat.le_of_ble_eq_true rfl, Nat.le_of_ble_eq_true rfl⟩ rfl hcb kd_16 hl.1 rfl rfl (Nat.le_of_ble_eq_true rfl) ⟨Nat.zero_le _, Nat.zero_le _⟩ dX9_lay_5 (fun H locs hP hS => ?_)
  refine lv_if_ne (tgt := 18) hx hb dX9_lay_8 (by decide) (fun c8 => ?_) (fun c8 => ?_)
  · replace h := if_f c8 h
    refine lv_aload_n hx hb dX9_lay_18 rfl (lv_at hl 0 rfl) ?_
    refine g_R (C := RX9) (T := TX9) (N := 10) (ci := 9) 0 6 34 hx hb hts hown hK hP in_X9 rfl hcb okF_0_6 rfc_0_6 fl_99 dX9_lay_19 ?_
    refine g_I (C := RX1) (T := TX1) (N := 5) (ci := 1) 34 0 hx hb hts hown hK hP in_X1 rfl hcb okF_34_0 fl_100 dX9_lay_22 ?_
    refine lv_if_ne (tgt := 35) hx hb dX9_lay_25 (by decide) (fun c25 => ?_) (fun c25 => ?_)
    · replace h := if_f c25 h
      refine lv_aload_n hx hb dX9_lay_35 rfl (lv_at hl 0 rfl) ?_
      refine g_R (C := RX9) (T := TX9) (N := 10) (ci := 9) 0 8 41 hx hb hts hown hK hP in_X9 rfl hcb okF_0_8 rfc_0_8 fl_136 dX9_lay_36 ?_
      refine lv_aload_n hx hb dX9_lay_39 rfl (lv_at hl 0 rfl) ?_
      refine g_R (C := RX9) (T := TX9) (N := 10) (ci := 9) 0 6 34 hx hb hts hown hK hP in_X9 rfl hcb okF_0_6 rfc_0_6 fl_99 dX9_lay_40 ?_
      refine g_R (C := RX1) (T := TX1) (N := 5) (ci := 1) 34 2 35 hx hb hts hown hK hP in_X1 rfl hcb okF_34_2 rfc_34_2 fl_130 dX9_lay_43 ?_
      refine lv_aload_n hx hb dX9_lay_46 rfl (lv_at hl 0 rfl) ?_
      refine g_R (C := RX9) (T := TX9) (N := 10) (ci := 9) 0 6 34 hx hb hts hown hK hP in_X9 rfl hcb okF_0_6 rfc_0_6 fl_99 dX9_lay_47 ?_
      refine g_R (C := RX1) (T := TX1) (N := 5) (ci := 1) 34 3 36 hx hb hts hown hK hP in_X1 rfl hcb okF_34_3 rfc_34_3 fl_131 dX9_lay_50 ?_
      refine lv_iload_n hx hb dX9_lay_53 rfl (lv_at hl 1 rfl) ?_
      obtain ⟨hi54, h⟩ := if_s1 h
      refine a_I 36 hx hb hK hP hcb aln_36 hi54 dX9_lay_54 ?_
      refine lv_aload_n hx hb dX9_lay_55 rfl (lv_at hl 0 rfl) ?_
      refine g_R (C := RX9) (T := TX9) (N := 10) (ci := 9) 0 6 34 hx hb hts hown hK hP in_X9 rfl hcb okF_0_6 rfc_0_6 fl_99 dX9_lay_56 ?_
      refine g_R (C := RX1) (T := TX1) (N := 5) (ci := 1) 34 3 36 hx hb hts hown hK hP in_X1 rfl hcb okF_34_3 rfc_34_3 fl_131 dX9_lay_59 ?_
      refine lv_iload_n hx hb dX9_lay_62 rfl (lv_at hl 1 rfl) ?_
      refine lv_iconst (v := (1 : Int32)) hx hb dX9_lay_63 (by decide) ?_
      refine lv_iadd hx hb dX9_lay_64 ?_
      obtain ⟨hi65, h⟩ := if_s1 h
      refine a_I 36 hx hb hK hP hcb aln_36 hi65 dX9_lay_65 ?_
      obtain ⟨r66, er66, h⟩ := bd_s1 h
      refine c_VV (k := 41) (ci := 4) (As := [.ref (bs + 35), .int (r5.2.1 36 (x1).toNatClampNeg), .int (r5.2.1 36 ((x1 + (1 : Int32))).toNatClampNeg)]) (rest := []) hx hb hml hown hts hK hN hL hP hS (cX4_take_ l bs D y hcb n 35 (r5.2.1 36 (x1).toNatClampNeg) (r5.2.1 36 ((x1 + (1 : Int32))).toNatClampNeg) r5.2.1 r5.2.2 r66 er66) ok_X4_take ov_X4_take ml_113 ⟨Nat.le_of_ble_eq_true rfl, Nat.le_of_ble_eq_true rfl⟩ rfl hcb kd_41 hl.1 rfl rfl (Nat.le_of_ble_eq_true rfl) ⟨Nat.zero_le _, Nat.zero_le _⟩ dX9_lay_66 (fun H locs hP hS => ?_)
      refine lv_aload_n hx hb dX9_lay_69 rfl (lv_at hl 0 rfl) ?_
      refine g_R (C := RX9) (T := TX9) (N := 10) (ci := 9) 0 8 41 hx hb hts hown hK hP in_X9 rfl hcb okF_0_8 rfc_0_8 fl_136 dX9_lay_70 ?_
      refine g_I (C := RX4) (T := TX4) (N := 3) (ci := 4) 41 1 hx hb hts hown hK hP in_X4 rfl hcb okF_41_1 fl_137 dX9_lay_73 ?_
      exact r_I hx hb hr hlocks hP hK hN hL hS h dX9_lay_76
    · replace h := if_t c25 h
      refine lv_aload_n hx hb dX9_lay_28 rfl (lv_at hl 0 rfl) ?_
      refine lv_bipush (v := (-2 : Int32)) hx hb dX9_lay_29 (by decide) ?_
      obtain ⟨r31, er31, h⟩ := bd_s1 h
      refine c_VI (k := 0) (ci := 9) (As := [.int (-2 : Int32)]) (rest := []) hx hb hml hown hts hK hN hL hP hS (cX9_refuse_ l bs D y hcb n (-2 : Int32) r5.2.1 r5.2.2 r31 er31) ok_X9_refuse ov_X9_refuse ml_71 ⟨Nat.le_of_ble_eq_true rfl, Nat.le_of_ble_eq_true rfl⟩ rfl hcb kd_0 hl.1 rfl rfl (Nat.le_of_ble_eq_true rfl) ⟨Nat.zero_le _, Nat.zero_le _⟩ dX9_lay_31 (fun H locs hP hS => ?_)
      exact r_I hx hb hr hlocks hP hK hN hL hS h dX9_lay_34
  · replace h := if_t c8 h
    refine lv_aload_n hx hb dX9_lay_11 rfl (lv_at hl 0 rfl) ?_
    refine lv_bipush (v := (-3 : Int32)) hx hb dX9_lay_12 (by decide) ?_
    obtain ⟨r14, er14, h⟩ := bd_s1 h
    refine c_VI (k := 0) (ci := 9) (As := [.int (-3 : Int32)]) (rest := []) hx hb hml hown hts hK hN hL hP hS (cX9_refuse_ l bs D y hcb n (-3 : Int32) r5.2.1 r5.2.2 r14 er14) ok_X9_refuse ov_X9_refuse ml_71 ⟨Nat.le_of_ble_eq_true rfl, Nat.le_of_ble_eq_true rfl⟩ rfl hcb kd_0 hl.1 rfl rfl (Nat.le_of_ble_eq_true rfl) ⟨Nat.zero_le _, Nat.zero_le _⟩ dX9_lay_14 (fun H locs hP hS => ?_)
    exact r_I hx hb hr hlocks hP hK hN hL hS h dX9_lay_17
theorem dX9_tear_0 : decode cX9_tear 0 = .ok (.aload_n 0, 1) := by decide +kernel
theorem dX9_tear_1 : decode cX9_tear 1 = .ok (.getfield 68, 3) := by decide +kernel
theorem dX9_tear_4 : decode cX9_tear 4 = .ok (.getfield 334, 3) := by decide +kernel
theorem dX9_tear_7 : decode cX9_tear 7 = .ok (.ifCond .eq 7, 3) := by decide +kernel
theorem dX9_tear_10 : decode cX9_tear 10 = .ok (.iconst 1, 1) := by decide +kernel
theorem dX9_tear_11 : decode cX9_tear 11 = .ok (.goto 4, 3) := by decide +kernel
theorem dX9_tear_14 : decode cX9_tear 14 = .ok (.iconst 0, 1) := by decide +kernel
theorem dX9_tear_15 : decode cX9_tear 15 = .ok (.istore_n 1, 1) := by decide +kernel
theorem dX9_tear_16 : decode cX9_tear 16 = .ok (.aload_n 0, 1) := by decide +kernel
theorem dX9_tear_17 : decode cX9_tear 17 = .ok (.getfield 68, 3) := by decide +kernel
theorem dX9_tear_20 : decode cX9_tear 20 = .ok (.iconst 0, 1) := by decide +kernel
theorem dX9_tear_21 : decode cX9_tear 21 = .ok (.putfield 334, 3) := by decide +kernel
theorem dX9_tear_24 : decode cX9_tear 24 = .ok (.iload_n 1, 1) := by decide +kernel
theorem dX9_tear_25 : decode cX9_tear 25 = .ok (.ireturn, 1) := by decide +kernel
set_option maxHeartbeats 4000000 in
set_option maxRecDepth 100000 in
theorem wX9_tear_15 {p : Program} {l : Launch} {e : Env} {s : State} {m : MethodId} {args : Array Value} {below : List Frame} {meth : Method} {c : Code} (bs : Nat) (D : va_G) (y : Y3) (n : Nat) (r : Int32 × M2) (Gc : Gx p s m args meth c cX9_tear 2 RX9 bs D y (some .int) 44)  (s0 : Int32) (I : MI) (J : MJ) (H : Heap) (locs : List Loc) (ls : Array Slot) (hP : va_P D vwCl (wl bs y I J) H) (hS : va_S (FA bs) s.heap H locs) (hl : lv_has ls 2 [(0, .ref (bs + 0))]) (h : fX9_tear_15 n  s0 I J = some r) : W p l e (rmm 0 0) s m args below meth c H locs 0 0 (QI below args s bs D y r) (F0 m 15 ls [.int s0]) := by
  obtain ⟨hx, hb, hml, hown, hts, hK, hN, hL, hr, hlocks, hcb⟩ := id Gc
  unfold fX9_tear_15 at h
  refine lv_istore_n (lv' := [(1, .int s0), (0, .ref (bs + 0))]) hx hb dX9_tear_15 rfl hl (by decide) rfl (fun ls hl => ?_)
  refine lv_aload_n hx hb dX9_tear_16 rfl (lv_at hl 1 rfl) ?_
  refine g_R (C := RX9) (T := TX9) (N := 10) (ci := 9) 0 8 41 hx hb hts hown hK hP in_X9 rfl hcb okF_0_8 rfc_0_8 fl_136 dX9_tear_17 ?_
  refine lv_iconst (v := (0 : Int32)) hx hb dX9_tear_20 (by decide) ?_
  obtain ⟨I21, eI21, h⟩ := lt_s1 h
  refine s_I (C := RX4) (T := TX4) (N := 3) (ci := 4) (ty := .boolean) 41 0 eI21 tyX4 hx hb hts hown hK hP hS in_X4 tyX4_ok nmX4 rfl hcb okF_41_0 fl_138 rfl (by decide +kernel) (by decide) rfl dX9_tear_21 (fun H locs hP hS => ?_)
  refine lv_iload_n hx hb dX9_tear_24 rfl (lv_at hl 0 rfl) ?_
  exact r_I hx hb hr hlocks hP hK hN hL hS h dX9_tear_25
set_option maxHeartbeats 4000000 in
set_option maxRecDepth 100000 in
theorem cX9_tear_ (l : Launch) (bs : Nat) (D : va_G) (y : Y3) (hcb : 44 ≤ y.2.2.2) (n : Nat) (I : MI) (J : MJ) (r : Int32 × M2) (h : fX9_tear n  I J = some r) : Met l yX9_tear (.code yX9_tear cX9_tear 2 (some .int) :: gtb) (rmm 0 0) (va_Pc [.ref (bs + 0)] (HB bs D y I J)) (QcI bs D y r) 0 0 (FA bs) := by
  refine Met.ofW (cc := cX9_tear) (maxL := 2) (ret := (some .int)) (by decide) rfl ?_
  intro p e s m args below meth c s₁ B hml hv
  obtain ⟨rfl, hP, hK, hN, hL⟩ := hv
  have hx := B.exec
  have hb := B.bytes
  have hr := B.returns
  have hts0 := atoms_spec (ws := .code yX9_tear cX9_tear 2 (some .int) :: gtb) B.pre
  have hts : ∀ w ∈ gtb, w.before [.ref (bs + 0)].toArray s = true := fun w hw => hts0 w (List.mem_cons_of_mem _ hw)
  have hown : s.vm.findClass RX9 = some m.cls := findClass_of_methodNamed B.named
  have hlocks := B.notSynchronized
  have hS : va_S (FA bs) s.heap s.heap [] := va_S.rf
  have Gc : Gx p s m [.ref (bs + 0)].toArray meth c cX9_tear 2 RX9 bs D y (some .int) 44 := ⟨hx, hb, hml, hown, hts, hK, hN, hL, hr, hlocks, hcb⟩
  have hl := lv_entry [.ref (bs + 0)] (n := 2) (Nat.le_of_ble_eq_true rfl)
  rw [lg_entry_eq]
  generalize (lg_sl [.ref (bs + 0)] ++ List.replicate (2 - (lg_sl [.ref (bs + 0)]).length) Slot.unset).toArray = ls at hl ⊢
  have hl : lv_has ls 2 [(0, .ref (bs + 0))] := hl
  change W p l e (rmm 0 0) s m [.ref (bs + 0)].toArray below meth c s.heap [] 0 0 (QI below [.ref (bs + 0)].toArray s bs D y r) (F0 m 0 ls [])
  unfold fX9_tear at h
  refine lv_aload_n hx hb dX9_tear_0 rfl (lv_at hl 0 rfl) ?_
  refine g_R (C := RX9) (T := TX9) (N := 10) (ci := 9) 0 8 41 hx hb hts hown hK hP in_X9 rfl hcb okF_0_8 rfc_0_8 fl_136 dX9_tear_1 ?_
  refine g_I (C := RX4) (T := TX4) (N := 3) (ci := 4) 41 0 hx hb hts hown hK hP in_X4 rfl hcb okF_41_0 fl_138 dX9_tear_4 ?_
  refine lv_if_eq (tgt := 14) hx hb dX9_tear_7 (by decide) (fun c7 => ?_) (fun c7 => ?_)
  · replace h := if_t c7 h
    refine lv_iconst (v := (0 : Int32)) hx hb dX9_tear_14 (by decide) ?_
    exact wX9_tear_15 bs D y n  r Gc  (0 : Int32) I J _ _ _ hP hS (lv_sub hl [0] rfl) h
  · replace h := if_f c7 h
    refine lv_iconst (v := (1 : Int32)) hx hb dX9_tear_10 (by decide) ?_
    refine lv_goto (tgt := 15) hx hb dX9_tear_11 (by decide) ?_
    exact wX9_tear_15 bs D y n  r Gc  (1 : Int32) I J _ _ _ hP hS (lv_sub hl [0] rfl) h
theorem dX9_row_0 : decode cX9_row 0 = .ok (.aload_n 0, 1) := by decide +kernel
theorem dX9_row_1 : decode cX9_row 1 = .ok (.getfield 68, 3) := by decide +kernel
theorem dX9_row_4 : decode cX9_row 4 = .ok (.getfield 334, 3) := by decide +kernel
theorem dX9_row_7 : decode cX9_row 7 = .ok (.ifCond .ne 10, 3) := by decide +kernel
theorem dX9_row_10 : decode cX9_row 10 = .ok (.aload_n 0, 1) := by decide +kernel
theorem dX9_row_11 : decode cX9_row 11 = .ok (.bipush (-2), 2) := by decide +kernel
theorem dX9_row_13 : decode cX9_row 13 = .ok (.invokevirtual 91, 3) := by decide +kernel
theorem dX9_row_16 : decode cX9_row 16 = .ok (.ireturn, 1) := by decide +kernel
theorem dX9_row_17 : decode cX9_row 17 = .ok (.iload_n 1, 1) := by decide +kernel
theorem dX9_row_18 : decode cX9_row 18 = .ok (.ifCond .lt 14, 3) := by decide +kernel
theorem dX9_row_21 : decode cX9_row 21 = .ok (.iload_n 1, 1) := by decide +kernel
theorem dX9_row_22 : decode cX9_row 22 = .ok (.aload_n 0, 1) := by decide +kernel
theorem dX9_row_23 : decode cX9_row 23 = .ok (.getfield 68, 3) := by decide +kernel
theorem dX9_row_26 : decode cX9_row 26 = .ok (.getfield 333, 3) := by decide +kernel
theorem dX9_row_29 : decode cX9_row 29 = .ok (.if_icmp .lt 12, 3) := by decide +kernel
theorem dX9_row_32 : decode cX9_row 32 = .ok (.aload_n 0, 1) := by decide +kernel
theorem dX9_row_33 : decode cX9_row 33 = .ok (.bipush (-3), 2) := by decide +kernel
theorem dX9_row_35 : decode cX9_row 35 = .ok (.invokevirtual 91, 3) := by decide +kernel
theorem dX9_row_38 : decode cX9_row 38 = .ok (.goto 12, 3) := by decide +kernel
theorem dX9_row_41 : decode cX9_row 41 = .ok (.aload_n 0, 1) := by decide +kernel
theorem dX9_row_42 : decode cX9_row 42 = .ok (.getfield 68, 3) := by decide +kernel
theorem dX9_row_45 : decode cX9_row 45 = .ok (.getfield 337, 3) := by decide +kernel
theorem dX9_row_48 : decode cX9_row 48 = .ok (.iload_n 1, 1) := by decide +kernel
theorem dX9_row_49 : decode cX9_row 49 = .ok (.iaload, 1) := by decide +kernel
theorem dX9_row_50 : decode cX9_row 50 = .ok (.ireturn, 1) := by decide +kernel
set_option maxHeartbeats 4000000 in
set_option maxRecDepth 100000 in
theorem wX9_row_32 {p : Program} {l : Launch} {e : Env} {s : State} {m : MethodId} {args : Array Value} {below : List Frame} {meth : Method} {c : Code} (bs : Nat) (D : va_G) (y : Y3) (n : Nat) (r : Int32 × M2) (Gc : Gx p s m args meth c cX9_row 2 RX9 bs D y (some .int) 44)  (I : MI) (J : MJ) (H : Heap) (locs : List Loc) (ls : Array Slot) (hP : va_P D vwCl (wl bs y I J) H) (hS : va_S (FA bs) s.heap H locs) (hl : lv_has ls 2 [(0, .ref (bs + 0))]) (h : fX9_row_32 n   I J = some r) : W p l e (rmm 2 43) s m args below meth c H locs 0 0 (QI below args s bs D y r) (F0 m 32 ls []) := by
  obtain ⟨hx, hb, hml, hown, hts, hK, hN, hL, hr, hlocks, hcb⟩ := id Gc
  unfold fX9_row_32 at h
  refine lv_aload_n hx hb dX9_row_32 rfl (lv_at hl 0 rfl) ?_
  refine lv_bipush (v := (-3 : Int32)) hx hb dX9_row_33 (by decide) ?_
  obtain ⟨r35, er35, h⟩ := bd_s1 h
  refine c_VI (k := 0) (ci := 9) (As := [.int (-3 : Int32)]) (rest := []) hx hb hml hown hts hK hN hL hP hS (cX9_refuse_ l bs D y hcb n (-3 : Int32) I J r35 er35) ok_X9_refuse ov_X9_refuse ml_71 ⟨Nat.le_of_ble_eq_true rfl, Nat.le_of_ble_eq_true rfl⟩ rfl hcb kd_0 hl.1 rfl rfl (Nat.le_of_ble_eq_true rfl) ⟨Nat.zero_le _, Nat.zero_le _⟩ dX9_row_35 (fun H locs hP hS => ?_)
  refine lv_goto (tgt := 50) hx hb dX9_row_38 (by decide) ?_
  exact r_I hx hb hr hlocks hP hK hN hL hS h dX9_row_50
set_option maxHeartbeats 4000000 in
set_option maxRecDepth 100000 in
theorem cX9_row_ (l : Launch) (bs : Nat) (D : va_G) (y : Y3) (hcb : 44 ≤ y.2.2.2) (n : Nat) (x1 : Int32) (I : MI) (J : MJ) (r : Int32 × M2) (h : fX9_row n x1 I J = some r) : Met l yX9_row (.code yX9_row cX9_row 2 (some .int) :: gtb) (rmm 2 43) (va_Pc [.ref (bs + 0), .int x1] (HB bs D y I J)) (QcI bs D y r) 0 0 (FA bs) := by
  refine Met.ofW (cc := cX9_row) (maxL := 2) (ret := (some .int)) (by decide) rfl ?_
  intro p e s m args below meth c s₁ B hml hv
  obtain ⟨rfl, hP, hK, hN, hL⟩ := hv
  have hx := B.exec
  have hb := B.bytes
  have hr := B.returns
  have hts0 := atoms_spec (ws := .code yX9_row cX9_row 2 (some .int) :: gtb) B.pre
  have hts : ∀ w ∈ gtb, w.before [.ref (bs + 0), .int x1].toArray s = true := fun w hw => hts0 w (List.mem_cons_of_mem _ hw)
  have hown : s.vm.findClass RX9 = some m.cls := findClass_of_methodNamed B.named
  have hlocks := B.notSynchronized
  have hS : va_S (FA bs) s.heap s.heap [] := va_S.rf
  have Gc : Gx p s m [.ref (bs + 0), .int x1].toArray meth c cX9_row 2 RX9 bs D y (some .int) 44 := ⟨hx, hb, hml, hown, hts, hK, hN, hL, hr, hlocks, hcb⟩
  have hl := lv_entry [.ref (bs + 0), .int x1] (n := 2) (Nat.le_of_ble_eq_true rfl)
  rw [lg_entry_eq]
  generalize (lg_sl [.ref (bs + 0), .int x1] ++ List.replicate (2 - (lg_sl [.ref (bs + 0), .int x1]).length) Slot.unset).toArray = ls at hl ⊢
  have hl : lv_has ls 2 [(0, .ref (bs + 0)), (1, .int x1)] := hl
  change W p l e (rmm 2 43) s m [.ref (bs + 0), .int x1].toArray below meth c s.heap [] 0 0 (QI below [.ref (bs + 0), .int x1].toArray s bs D y r) (F0 m 0 ls [])
  unfold fX9_row at h
  refine lv_aload_n hx hb dX9_row_0 rfl (lv_at hl 0 rfl) ?_
  refine g_R (C := RX9) (T := TX9) (N := 10) (ci := 9) 0 8 41 hx hb hts hown hK hP in_X9 rfl hcb okF_0_8 rfc_0_8 fl_136 dX9_row_1 ?_
  refine g_I (C := RX4) (T := TX4) (N := 3) (ci := 4) 41 0 hx hb hts hown hK hP in_X4 rfl hcb okF_41_0 fl_138 dX9_row_4 ?_
  refine lv_if_ne (tgt := 17) hx hb dX9_row_7 (by decide) (fun c7 => ?_) (fun c7 => ?_)
  · replace h := if_f c7 h
    refine lv_iload_n hx hb dX9_row_17 rfl (lv_at hl 1 rfl) ?_
    refine lv_if_lt (tgt := 32) hx hb dX9_row_18 (by decide) (fun c18 => ?_) (fun c18 => ?_)
    · replace h := if_t c18 h
      exact wX9_row_32 bs D y n  r Gc   I J _ _ _ hP hS (lv_sub hl [0] rfl) h
    · replace h := if_f c18 h
      refine lv_iload_n hx hb dX9_row_21 rfl (lv_at hl 1 rfl) ?_
      refine lv_aload_n hx hb dX9_row_22 rfl (lv_at hl 0 rfl) ?_
      refine g_R (C := RX9) (T := TX9) (N := 10) (ci := 9) 0 8 41 hx hb hts hown hK hP in_X9 rfl hcb okF_0_8 rfc_0_8 fl_136 dX9_row_23 ?_
      refine g_I (C := RX4) (T := TX4) (N := 3) (ci := 4) 41 1 hx hb hts hown hK hP in_X4 rfl hcb okF_41_1 fl_137 dX9_row_26 ?_
      refine lv_icmp_lt (tgt := 41) hx hb dX9_row_29 (by decide) (fun c29 => ?_) (fun c29 => ?_)
      · replace h := if_t c29 h
        refine lv_aload_n hx hb dX9_row_41 rfl (lv_at hl 0 rfl) ?_
        refine g_R (C := RX9) (T := TX9) (N := 10) (ci := 9) 0 8 41 hx hb hts hown hK hP in_X9 rfl hcb okF_0_8 rfc_0_8 fl_136 dX9_row_42 ?_
        refine g_R (C := RX4) (T := TX4) (N := 3) (ci := 4) 41 2 42 hx hb hts hown hK hP in_X4 rfl hcb okF_41_2 rfc_41_2 fl_139 dX9_row_45 ?_
        refine lv_iload_n hx hb dX9_row_48 rfl (lv_at hl 1 rfl) ?_
        obtain ⟨hi49, h⟩ := if_s1 h
        refine a_I 42 hx hb hK hP hcb aln_42 hi49 dX9_row_49 ?_
        exact r_I hx hb hr hlocks hP hK hN hL hS h dX9_row_50
      · replace h := if_f c29 h
        exact wX9_row_32 bs D y n  r Gc   I J _ _ _ hP hS (lv_sub hl [0] rfl) h
  · replace h := if_t c7 h
    refine lv_aload_n hx hb dX9_row_10 rfl (lv_at hl 0 rfl) ?_
    refine lv_bipush (v := (-2 : Int32)) hx hb dX9_row_11 (by decide) ?_
    obtain ⟨r13, er13, h⟩ := bd_s1 h
    refine c_VI (k := 0) (ci := 9) (As := [.int (-2 : Int32)]) (rest := []) hx hb hml hown hts hK hN hL hP hS (cX9_refuse_ l bs D y hcb n (-2 : Int32) I J r13 er13) ok_X9_refuse ov_X9_refuse ml_71 ⟨Nat.le_of_ble_eq_true rfl, Nat.le_of_ble_eq_true rfl⟩ rfl hcb kd_0 hl.1 rfl rfl (Nat.le_of_ble_eq_true rfl) ⟨Nat.zero_le _, Nat.zero_le _⟩ dX9_row_13 (fun H locs hP hS => ?_)
    exact r_I hx hb hr hlocks hP hK hN hL hS h dX9_row_16
theorem dX9_copy_0 : decode cX9_copy 0 = .ok (.aload_n 0, 1) := by decide +kernel
theorem dX9_copy_1 : decode cX9_copy 1 = .ok (.getfield 68, 3) := by decide +kernel
theorem dX9_copy_4 : decode cX9_copy 4 = .ok (.getfield 334, 3) := by decide +kernel
theorem dX9_copy_7 : decode cX9_copy 7 = .ok (.ifCond .ne 10, 3) := by decide +kernel
theorem dX9_copy_10 : decode cX9_copy 10 = .ok (.aload_n 0, 1) := by decide +kernel
theorem dX9_copy_11 : decode cX9_copy 11 = .ok (.bipush (-2), 2) := by decide +kernel
theorem dX9_copy_13 : decode cX9_copy 13 = .ok (.invokevirtual 91, 3) := by decide +kernel
theorem dX9_copy_16 : decode cX9_copy 16 = .ok (.ireturn, 1) := by decide +kernel
theorem dX9_copy_17 : decode cX9_copy 17 = .ok (.iload_n 3, 1) := by decide +kernel
theorem dX9_copy_18 : decode cX9_copy 18 = .ok (.ifCond .ge 10, 3) := by decide +kernel
theorem dX9_copy_21 : decode cX9_copy 21 = .ok (.aload_n 0, 1) := by decide +kernel
theorem dX9_copy_22 : decode cX9_copy 22 = .ok (.bipush (-4), 2) := by decide +kernel
theorem dX9_copy_24 : decode cX9_copy 24 = .ok (.invokevirtual 91, 3) := by decide +kernel
theorem dX9_copy_27 : decode cX9_copy 27 = .ok (.ireturn, 1) := by decide +kernel
theorem dX9_copy_28 : decode cX9_copy 28 = .ok (.aload_n 0, 1) := by decide +kernel
theorem dX9_copy_29 : decode cX9_copy 29 = .ok (.getfield 68, 3) := by decide +kernel
theorem dX9_copy_32 : decode cX9_copy 32 = .ok (.iload_n 1, 1) := by decide +kernel
theorem dX9_copy_33 : decode cX9_copy 33 = .ok (.iload_n 3, 1) := by decide +kernel
theorem dX9_copy_34 : decode cX9_copy 34 = .ok (.invokevirtual 340, 3) := by decide +kernel
theorem dX9_copy_37 : decode cX9_copy 37 = .ok (.ifCond .eq 15, 3) := by decide +kernel
theorem dX9_copy_40 : decode cX9_copy 40 = .ok (.aload_n 0, 1) := by decide +kernel
theorem dX9_copy_41 : decode cX9_copy 41 = .ok (.getfield 68, 3) := by decide +kernel
theorem dX9_copy_44 : decode cX9_copy 44 = .ok (.iload_n 2, 1) := by decide +kernel
theorem dX9_copy_45 : decode cX9_copy 45 = .ok (.iload_n 3, 1) := by decide +kernel
theorem dX9_copy_46 : decode cX9_copy 46 = .ok (.invokevirtual 340, 3) := by decide +kernel
theorem dX9_copy_49 : decode cX9_copy 49 = .ok (.ifCond .ne 10, 3) := by decide +kernel
theorem dX9_copy_52 : decode cX9_copy 52 = .ok (.aload_n 0, 1) := by decide +kernel
theorem dX9_copy_53 : decode cX9_copy 53 = .ok (.bipush (-6), 2) := by decide +kernel
theorem dX9_copy_55 : decode cX9_copy 55 = .ok (.invokevirtual 91, 3) := by decide +kernel
theorem dX9_copy_58 : decode cX9_copy 58 = .ok (.ireturn, 1) := by decide +kernel
theorem dX9_copy_59 : decode cX9_copy 59 = .ok (.aload_n 0, 1) := by decide +kernel
theorem dX9_copy_60 : decode cX9_copy 60 = .ok (.getfield 68, 3) := by decide +kernel
theorem dX9_copy_63 : decode cX9_copy 63 = .ok (.getfield 337, 3) := by decide +kernel
theorem dX9_copy_66 : decode cX9_copy 66 = .ok (.iload_n 1, 1) := by decide +kernel
theorem dX9_copy_67 : decode cX9_copy 67 = .ok (.aload_n 0, 1) := by decide +kernel
theorem dX9_copy_68 : decode cX9_copy 68 = .ok (.getfield 68, 3) := by decide +kernel
theorem dX9_copy_71 : decode cX9_copy 71 = .ok (.getfield 337, 3) := by decide +kernel
theorem dX9_copy_74 : decode cX9_copy 74 = .ok (.iload_n 2, 1) := by decide +kernel
theorem dX9_copy_75 : decode cX9_copy 75 = .ok (.iload_n 3, 1) := by decide +kernel
theorem dX9_copy_76 : decode cX9_copy 76 = .ok (.invokestatic 344, 3) := by decide +kernel
theorem dX9_copy_79 : decode cX9_copy 79 = .ok (.iload_n 3, 1) := by decide +kernel
theorem dX9_copy_80 : decode cX9_copy 80 = .ok (.ireturn, 1) := by decide +kernel
set_option maxHeartbeats 4000000 in
set_option maxRecDepth 100000 in
theorem wX9_copy_52 {p : Program} {l : Launch} {e : Env} {s : State} {m : MethodId} {args : Array Value} {below : List Frame} {meth : Method} {c : Code} (bs : Nat) (D : va_G) (y : Y3) (n : Nat) (r : Int32 × M2) (Gc : Gx p s m args meth c cX9_copy 4 RX9 bs D y (some .int) 44)  (I : MI) (J : MJ) (H : Heap) (locs : List Loc) (ls : Array Slot) (hP : va_P D vwCl (wl bs y I J) H) (hS : va_S (FA bs) s.heap H locs) (hl : lv_has ls 4 [(0, .ref (bs + 0))]) (h : fX9_copy_52 n   I J = some r) : W p l e (rmm 2 43) s m args below meth c H locs 0 0 (QI below args s bs D y r) (F0 m 52 ls []) := by
  obtain ⟨hx, hb, hml, hown, hts, hK, hN, hL, hr, hlocks, hcb⟩ := id Gc
  unfold fX9_copy_52 at h
  refine lv_aload_n hx hb dX9_copy_52 rfl (lv_at hl 0 rfl) ?_
  refine lv_bipush (v := (-6 : Int32)) hx hb dX9_copy_53 (by decide) ?_
  obtain ⟨r55, er55, h⟩ := bd_s1 h
  refine c_VI (k := 0) (ci := 9) (As := [.int (-6 : Int32)]) (rest := []) hx hb hml hown hts hK hN hL hP hS (cX9_refuse_ l bs D y hcb n (-6 : Int32) I J r55 er55) ok_X9_refuse ov_X9_refuse ml_71 ⟨Nat.le_of_ble_eq_true rfl, Nat.le_of_ble_eq_true rfl⟩ rfl hcb kd_0 hl.1 rfl rfl (Nat.le_of_ble_eq_true rfl) ⟨Nat.zero_le _, Nat.zero_le _⟩ dX9_copy_55 (fun H locs hP hS => ?_)
  exact r_I hx hb hr hlocks hP hK hN hL hS h dX9_copy_58
set_option maxHeartbeats 4000000 in
set_option maxRecDepth 100000 in
theorem cX9_copy_ (l : Launch) (bs : Nat) (D : va_G) (y : Y3) (hcb : 44 ≤ y.2.2.2) (n : Nat) (x1 : Int32) (x2 : Int32) (x3 : Int32) (I : MI) (J : MJ) (r : Int32 × M2) (h : fX9_copy n x1 x2 x3 I J = some r) : Met l yX9_copy (.code yX9_copy cX9_copy 4 (some .int) :: gtb) (rmm 2 43) (va_Pc [.ref (bs + 0), .int x1, .int x2, .int x3] (HB bs D y I J)) (QcI bs D y r) 0 0 (FA bs) := by
  refine Met.ofW (cc := cX9_copy) (maxL := 4) (ret := (some .int)) (by decide) rfl ?_
  intro p e s m args below meth c s₁ B hml hv
  obtain ⟨rfl, hP, hK, hN, hL⟩ := hv
  have hx := B.exec
  have hb := B.bytes
  have hr := B.returns
  have hts0 := atoms_spec (ws := .code yX9_copy cX9_copy 4 (some .int) :: gtb) B.pre
  have hts : ∀ w ∈ gtb, w.before [.ref (bs + 0), .int x1, .int x2, .int x3].toArray s = true := fun w hw => hts0 w (List.mem_cons_of_mem _ hw)
  have hown : s.vm.findClass RX9 = some m.cls := findClass_of_methodNamed B.named
  have hlocks := B.notSynchronized
  have hS : va_S (FA bs) s.heap s.heap [] := va_S.rf
  have Gc : Gx p s m [.ref (bs + 0), .int x1, .int x2, .int x3].toArray meth c cX9_copy 4 RX9 bs D y (some .int) 44 := ⟨hx, hb, hml, hown, hts, hK, hN, hL, hr, hlocks, hcb⟩
  have hl := lv_entry [.ref (bs + 0), .int x1, .int x2, .int x3] (n := 4) (Nat.le_of_ble_eq_true rfl)
  rw [lg_entry_eq]
  generalize (lg_sl [.ref (bs + 0), .int x1, .int x2, .int x3] ++ List.replicate (4 - (lg_sl [.ref (bs + 0), .int x1, .int x2, .int x3]).length) Slot.unset).toArray = ls at hl ⊢
  have hl : lv_has ls 4 [(0, .ref (bs + 0)), (1, .int x1), (2, .int x2), (3, .int x3)] := hl
  change W p l e (rmm 2 43) s m [.ref (bs + 0), .int x1, .int x2, .int x3].toArray below meth c s.heap [] 0 0 (QI below [.ref (bs + 0), .int x1, .int x2, .int x3].toArray s bs D y r) (F0 m 0 ls [])
  unfold fX9_copy at h
  refine lv_aload_n hx hb dX9_copy_0 rfl (lv_at hl 0 rfl) ?_
  refine g_R (C := RX9) (T := TX9) (N := 10) (ci := 9) 0 8 41 hx hb hts hown hK hP in_X9 rfl hcb okF_0_8 rfc_0_8 fl_136 dX9_copy_1 ?_
  refine g_I (C := RX4) (T := TX4) (N := 3) (ci := 4) 41 0 hx hb hts hown hK hP in_X4 rfl hcb okF_41_0 fl_138 dX9_copy_4 ?_
  refine lv_if_ne (tgt := 17) hx hb dX9_copy_7 (by decide) (fun c7 => ?_) (fun c7 => ?_)
  · replace h := if_f c7 h
    refine lv_iload_n hx hb dX9_copy_17 rfl (lv_at hl 3 rfl) ?_
    refine lv_if_ge (tgt := 28) hx hb dX9_copy_18 (by decide) (fun c18 => ?_) (fun c18 => ?_)
    · replace h := if_t c18 h
      refine lv_aload_n hx hb dX9_copy_28 rfl (lv_at hl 0 rfl) ?_
      refine g_R (C := RX9) (T := TX9) (N := 10) (ci := 9) 0 8 41 hx hb hts hown hK hP in_X9 rfl hcb okF_0_8 rfc_0_8 fl_136 dX9_copy_29 ?_
      refine lv_iload_n hx hb dX9_copy_32 rfl (lv_at hl 1 rfl) ?_
      refine lv_iload_n hx hb dX9_copy_33 rfl (lv_at hl 3 rfl) ?_
      obtain ⟨r34, er34, h⟩ := bd_s1 h
      refine c_VI (k := 41) (ci := 4) (As := [.int x1, .int x3]) (rest := []) hx hb hml hown hts hK hN hL hP hS (cX4_hasStretch_ l bs D y hcb n x1 x3 I J r34 er34) ok_X4_hasStretch ov_X4_hasStretch ml_114 ⟨Nat.le_of_ble_eq_true rfl, Nat.le_of_ble_eq_true rfl⟩ rfl hcb kd_41 hl.1 rfl rfl (Nat.le_of_ble_eq_true rfl) ⟨Nat.zero_le _, Nat.zero_le _⟩ dX9_copy_34 (fun H locs hP hS => ?_)
      refine lv_if_eq (tgt := 52) hx hb dX9_copy_37 (by decide) (fun c37 => ?_) (fun c37 => ?_)
      · replace h := if_t c37 h
        exact wX9_copy_52 bs D y n  r Gc   r34.2.1 r34.2.2 _ _ _ hP hS (lv_sub hl [0] rfl) h
      · replace h := if_f c37 h
        refine lv_aload_n hx hb dX9_copy_40 rfl (lv_at hl 0 rfl) ?_
        refine g_R (C := RX9) (T := TX9) (N := 10) (ci := 9) 0 8 41 hx hb hts hown hK hP in_X9 rfl hcb okF_0_8 rfc_0_8 fl_136 dX9_copy_41 ?_
        refine lv_iload_n hx hb dX9_copy_44 rfl (lv_at hl 2 rfl) ?_
        refine lv_iload_n hx hb dX9_copy_45 rfl (lv_at hl 3 rfl) ?_
        obtain ⟨r46, er46, h⟩ := bd_s1 h
        refine c_VI (k := 41) (ci := 4) (As := [.int x2, .int x3]) (rest := []) hx hb hml hown hts hK hN hL hP hS (cX4_hasStretch_ l bs D y hcb n x2 x3 r34.2.1 r34.2.2 r46 er46) ok_X4_hasStretch ov_X4_hasStretch ml_114 ⟨Nat.le_of_ble_eq_true rfl, Nat.le_of_ble_eq_true rfl⟩ rfl hcb kd_41 hl.1 rfl rfl (Nat.le_of_ble_eq_true rfl) ⟨Nat.zero_le _, Nat.zero_le _⟩ dX9_copy_46 (fun H locs hP hS => ?_)
        refine lv_if_ne (tgt := 59) hx hb dX9_copy_49 (by decide) (fun c49 => ?_) (fun c49 => ?_)
        · replace h := if_f c49 h
          refine lv_aload_n hx hb dX9_copy_59 rfl (lv_at hl 0 rfl) ?_
          refine g_R (C := RX9) (T := TX9) (N := 10) (ci := 9) 0 8 41 hx hb hts hown hK hP in_X9 rfl hcb okF_0_8 rfc_0_8 fl_136 dX9_copy_60 ?_
          refine g_R (C := RX4) (T := TX4) (N := 3) (ci := 4) 41 2 42 hx hb hts hown hK hP in_X4 rfl hcb okF_41_2 rfc_41_2 fl_139 dX9_copy_63 ?_
          refine lv_iload_n hx hb dX9_copy_66 rfl (lv_at hl 1 rfl) ?_
          refine lv_aload_n hx hb dX9_copy_67 rfl (lv_at hl 0 rfl) ?_
          refine g_R (C := RX9) (T := TX9) (N := 10) (ci := 9) 0 8 41 hx hb hts hown hK hP in_X9 rfl hcb okF_0_8 rfc_0_8 fl_136 dX9_copy_68 ?_
          refine g_R (C := RX4) (T := TX4) (N := 3) (ci := 4) 41 2 42 hx hb hts hown hK hP in_X4 rfl hcb okF_41_2 rfc_41_2 fl_139 dX9_copy_71 ?_
          refine lv_iload_n hx hb dX9_copy_74 rfl (lv_at hl 2 rfl) ?_
          refine lv_iload_n hx hb dX9_copy_75 rfl (lv_at hl 3 rfl) ?_
          obtain ⟨hi76, h⟩ := if_s1 h
          obtain ⟨I76, eI76, h⟩ := lt_s1 h
          refine cp_I 42 42 eI76 hx hb (hml.trans hl.1.symm) hown hts ml_115 ⟨ac_n, ac_s, ac_i⟩ hK hP hS hcb aln_42 aln_42 hi76 (Nat.le_of_ble_eq_true rfl) (Nat.le_of_ble_eq_true rfl) dX9_copy_76 (fun H locs hP hS => ?_)
          refine lv_iload_n hx hb dX9_copy_79 rfl (lv_at hl 3 rfl) ?_
          exact r_I hx hb hr hlocks hP hK hN hL hS h dX9_copy_80
        · replace h := if_t c49 h
          exact wX9_copy_52 bs D y n  r Gc   r46.2.1 r46.2.2 _ _ _ hP hS (lv_sub hl [0] rfl) h
    · replace h := if_f c18 h
      refine lv_aload_n hx hb dX9_copy_21 rfl (lv_at hl 0 rfl) ?_
      refine lv_bipush (v := (-4 : Int32)) hx hb dX9_copy_22 (by decide) ?_
      obtain ⟨r24, er24, h⟩ := bd_s1 h
      refine c_VI (k := 0) (ci := 9) (As := [.int (-4 : Int32)]) (rest := []) hx hb hml hown hts hK hN hL hP hS (cX9_refuse_ l bs D y hcb n (-4 : Int32) I J r24 er24) ok_X9_refuse ov_X9_refuse ml_71 ⟨Nat.le_of_ble_eq_true rfl, Nat.le_of_ble_eq_true rfl⟩ rfl hcb kd_0 hl.1 rfl rfl (Nat.le_of_ble_eq_true rfl) ⟨Nat.zero_le _, Nat.zero_le _⟩ dX9_copy_24 (fun H locs hP hS => ?_)
      exact r_I hx hb hr hlocks hP hK hN hL hS h dX9_copy_27
  · replace h := if_t c7 h
    refine lv_aload_n hx hb dX9_copy_10 rfl (lv_at hl 0 rfl) ?_
    refine lv_bipush (v := (-2 : Int32)) hx hb dX9_copy_11 (by decide) ?_
    obtain ⟨r13, er13, h⟩ := bd_s1 h
    refine c_VI (k := 0) (ci := 9) (As := [.int (-2 : Int32)]) (rest := []) hx hb hml hown hts hK hN hL hP hS (cX9_refuse_ l bs D y hcb n (-2 : Int32) I J r13 er13) ok_X9_refuse ov_X9_refuse ml_71 ⟨Nat.le_of_ble_eq_true rfl, Nat.le_of_ble_eq_true rfl⟩ rfl hcb kd_0 hl.1 rfl rfl (Nat.le_of_ble_eq_true rfl) ⟨Nat.zero_le _, Nat.zero_le _⟩ dX9_copy_13 (fun H locs hP hS => ?_)
    exact r_I hx hb hr hlocks hP hK hN hL hS h dX9_copy_16
theorem dX9_status_0 : decode cX9_status 0 = .ok (.iload_n 1, 1) := by decide +kernel
theorem dX9_status_1 : decode cX9_status 1 = .ok (.bipush (-8), 2) := by decide +kernel
theorem dX9_status_3 : decode cX9_status 3 = .ok (.bipush (-2), 2) := by decide +kernel
theorem dX9_status_5 : decode cX9_status 5 = .ok (.invokestatic 181, 3) := by decide +kernel
theorem dX9_status_8 : decode cX9_status 8 = .ok (.ifCond .eq 15, 3) := by decide +kernel
theorem dX9_status_11 : decode cX9_status 11 = .ok (.aload_n 0, 1) := by decide +kernel
theorem dX9_status_12 : decode cX9_status 12 = .ok (.getfield 72, 3) := by decide +kernel
theorem dX9_status_15 : decode cX9_status 15 = .ok (.bipush (-2), 2) := by decide +kernel
theorem dX9_status_17 : decode cX9_status 17 = .ok (.iload_n 1, 1) := by decide +kernel
theorem dX9_status_18 : decode cX9_status 18 = .ok (.isub, 1) := by decide +kernel
theorem dX9_status_19 : decode cX9_status 19 = .ok (.iaload, 1) := by decide +kernel
theorem dX9_status_20 : decode cX9_status 20 = .ok (.goto 9, 3) := by decide +kernel
theorem dX9_status_23 : decode cX9_status 23 = .ok (.aload_n 0, 1) := by decide +kernel
theorem dX9_status_24 : decode cX9_status 24 = .ok (.bipush (-7), 2) := by decide +kernel
theorem dX9_status_26 : decode cX9_status 26 = .ok (.invokevirtual 91, 3) := by decide +kernel
theorem dX9_status_29 : decode cX9_status 29 = .ok (.ireturn, 1) := by decide +kernel
set_option maxHeartbeats 4000000 in
set_option maxRecDepth 100000 in
theorem cX9_status_ (l : Launch) (bs : Nat) (D : va_G) (y : Y3) (hcb : 44 ≤ y.2.2.2) (n : Nat) (x1 : Int32) (I : MI) (J : MJ) (r : Int32 × M2) (h : fX9_status n x1 I J = some r) : Met l yX9_status (.code yX9_status cX9_status 2 (some .int) :: gtb) (rmm 2 43) (va_Pc [.ref (bs + 0), .int x1] (HB bs D y I J)) (QcI bs D y r) 0 0 (FA bs) := by
  refine Met.ofW (cc := cX9_status) (maxL := 2) (ret := (some .int)) (by decide) rfl ?_
  intro p e s m args below meth c s₁ B hml hv
  obtain ⟨rfl, hP, hK, hN, hL⟩ := hv
  have hx := B.exec
  have hb := B.bytes
  have hr := B.returns
  have hts0 := atoms_spec (ws := .code yX9_status cX9_status 2 (some .int) :: gtb) B.pre
  have hts : ∀ w ∈ gtb, w.before [.ref (bs + 0), .int x1].toArray s = true := fun w hw => hts0 w (List.mem_cons_of_mem _ hw)
  have hown : s.vm.findClass RX9 = some m.cls := findClass_of_methodNamed B.named
  have hlocks := B.notSynchronized
  have hS : va_S (FA bs) s.heap s.heap [] := va_S.rf
  have Gc : Gx p s m [.ref (bs + 0), .int x1].toArray meth c cX9_status 2 RX9 bs D y (some .int) 44 := ⟨hx, hb, hml, hown, hts, hK, hN, hL, hr, hlocks, hcb⟩
  have hl := lv_entry [.ref (bs + 0), .int x1] (n := 2) (Nat.le_of_ble_eq_true rfl)
  rw [lg_entry_eq]
  generalize (lg_sl [.ref (bs + 0), .int x1] ++ List.replicate (2 - (lg_sl [.ref (bs + 0), .int x1]).length) Slot.unset).toArray = ls at hl ⊢
  have hl : lv_has ls 2 [(0, .ref (bs + 0)), (1, .int x1)] := hl
  change W p l e (rmm 2 43) s m [.ref (bs + 0), .int x1].toArray below meth c s.heap [] 0 0 (QI below [.ref (bs + 0), .int x1].toArray s bs D y r) (F0 m 0 ls [])
  unfold fX9_status at h
  refine lv_iload_n hx hb dX9_status_0 rfl (lv_at hl 1 rfl) ?_
  refine lv_bipush (v := (-8 : Int32)) hx hb dX9_status_1 (by decide) ?_
  refine lv_bipush (v := (-2 : Int32)) hx hb dX9_status_3 (by decide) ?_
  obtain ⟨r5, er5, h⟩ := bd_s1 h
  refine c_SI (As := [.int x1, .int (-8 : Int32), .int (-2 : Int32)]) (rest := []) hx hb hml hown hts hK hN hL hP hS (cX9_within_ l bs D y hcb n x1 (-8 : Int32) (-2 : Int32) I J r5 er5) ok_X9_within ov_X9_within ml_67 ⟨Nat.le_of_ble_eq_true rfl, Nat.le_of_ble_eq_true rfl⟩ hl.1 rfl rfl (Nat.le_of_ble_eq_true rfl) ⟨Nat.zero_le _, Nat.zero_le _⟩ dX9_status_5 (fun H locs hP hS => ?_)
  refine lv_if_eq (tgt := 23) hx hb dX9_status_8 (by decide) (fun c8 => ?_) (fun c8 => ?_)
  · replace h := if_t c8 h
    refine lv_aload_n hx hb dX9_status_23 rfl (lv_at hl 0 rfl) ?_
    refine lv_bipush (v := (-7 : Int32)) hx hb dX9_status_24 (by decide) ?_
    obtain ⟨r26, er26, h⟩ := bd_s1 h
    refine c_VI (k := 0) (ci := 9) (As := [.int (-7 : Int32)]) (rest := []) hx hb hml hown hts hK hN hL hP hS (cX9_refuse_ l bs D y hcb n (-7 : Int32) r5.2.1 r5.2.2 r26 er26) ok_X9_refuse ov_X9_refuse ml_71 ⟨Nat.le_of_ble_eq_true rfl, Nat.le_of_ble_eq_true rfl⟩ rfl hcb kd_0 hl.1 rfl rfl (Nat.le_of_ble_eq_true rfl) ⟨Nat.zero_le _, Nat.zero_le _⟩ dX9_status_26 (fun H locs hP hS => ?_)
    exact r_I hx hb hr hlocks hP hK hN hL hS h dX9_status_29
  · replace h := if_f c8 h
    refine lv_aload_n hx hb dX9_status_11 rfl (lv_at hl 0 rfl) ?_
    refine g_R (C := RX9) (T := TX9) (N := 10) (ci := 9) 0 9 43 hx hb hts hown hK hP in_X9 rfl hcb okF_0_9 rfc_0_9 fl_96 dX9_status_12 ?_
    refine lv_bipush (v := (-2 : Int32)) hx hb dX9_status_15 (by decide) ?_
    refine lv_iload_n hx hb dX9_status_17 rfl (lv_at hl 1 rfl) ?_
    refine lv_isub hx hb dX9_status_18 ?_
    obtain ⟨hi19, h⟩ := if_s1 h
    refine a_I 43 hx hb hK hP hcb aln_43 hi19 dX9_status_19 ?_
    refine lv_goto (tgt := 29) hx hb dX9_status_20 (by decide) ?_
    exact r_I hx hb hr hlocks hP hK hN hL hS h dX9_status_29
theorem dX10_isIn_0 : decode cX10_isIn 0 = .ok (.lload_n 0, 1) := by decide +kernel
theorem dX10_isIn_1 : decode cX10_isIn 1 = .ok (.lload_n 2, 1) := by decide +kernel
theorem dX10_isIn_2 : decode cX10_isIn 2 = .ok (.lcmp, 1) := by decide +kernel
theorem dX10_isIn_3 : decode cX10_isIn 3 = .ok (.ifCond .lt 14, 3) := by decide +kernel
theorem dX10_isIn_6 : decode cX10_isIn 6 = .ok (.lload_n 0, 1) := by decide +kernel
theorem dX10_isIn_7 : decode cX10_isIn 7 = .ok (.lload 4, 2) := by decide +kernel
theorem dX10_isIn_9 : decode cX10_isIn 9 = .ok (.lcmp, 1) := by decide +kernel
theorem dX10_isIn_10 : decode cX10_isIn 10 = .ok (.ifCond .gt 7, 3) := by decide +kernel
theorem dX10_isIn_13 : decode cX10_isIn 13 = .ok (.iconst 1, 1) := by decide +kernel
theorem dX10_isIn_14 : decode cX10_isIn 14 = .ok (.goto 4, 3) := by decide +kernel
theorem dX10_isIn_17 : decode cX10_isIn 17 = .ok (.iconst 0, 1) := by decide +kernel
theorem dX10_isIn_18 : decode cX10_isIn 18 = .ok (.ireturn, 1) := by decide +kernel
set_option maxHeartbeats 4000000 in
set_option maxRecDepth 100000 in
theorem cX10_isIn_ (l : Launch) (bs : Nat) (D : va_G) (y : Y3) (hcb : 76 ≤ y.2.2.2) (n : Nat) (x0 : Int64) (x2 : Int64) (x4 : Int64) (I : MI) (J : MJ) (r : Int32 × M2) (h : fX10_isIn n x0 x2 x4 I J = some r) : Met l yX10_isIn (.code yX10_isIn cX10_isIn 6 (some .boolean) :: gtb) (rmm 0 0) (va_Pc [.long x0, .long x2, .long x4] (HB bs D y I J)) (QcI bs D y r) 0 0 (FA bs) := by
  refine Met.ofW (cc := cX10_isIn) (maxL := 6) (ret := (some .boolean)) (by decide) rfl ?_
  intro p e s m args below meth c s₁ B hml hv
  obtain ⟨rfl, hP, hK, hN, hL⟩ := hv
  have hx := B.exec
  have hb := B.bytes
  have hr := B.returns
  have hts0 := atoms_spec (ws := .code yX10_isIn cX10_isIn 6 (some .boolean) :: gtb) B.pre
  have hts : ∀ w ∈ gtb, w.before [.long x0, .long x2, .long x4].toArray s = true := fun w hw => hts0 w (List.mem_cons_of_mem _ hw)
  have hown : s.vm.findClass RX10 = some m.cls := findClass_of_methodNamed B.named
  have hlocks := B.notSynchronized
  have hS : va_S (FA bs) s.heap s.heap [] := va_S.rf
  have Gc : Gx p s m [.long x0, .long x2, .long x4].toArray meth c cX10_isIn 6 RX10 bs D y (some .boolean) 76 := ⟨hx, hb, hml, hown, hts, hK, hN, hL, hr, hlocks, hcb⟩
  have hl := lv_entry [.long x0, .long x2, .long x4] (n := 6) (Nat.le_of_ble_eq_true rfl)
  rw [lg_entry_eq]
  generalize (lg_sl [.long x0, .long x2, .long x4] ++ List.replicate (6 - (lg_sl [.long x0, .long x2, .long x4]).length) Slot.unset).toArray = ls at hl ⊢
  have hl : lv_has ls 6 [(0, .long x0), (2, .long x2), (4, .long x4)] := hl
  change W p l e (rmm 0 0) s m [.long x0, .long x2, .long x4].toArray below meth c s.heap [] 0 0 (QI below [.long x0, .long x2, .long x4].toArray s bs D y r) (F0 m 0 ls [])
  unfold fX10_isIn at h
  refine lv_lload_n hx hb dX10_isIn_0 rfl (lv_at hl 0 rfl) ?_
  refine lv_lload_n hx hb dX10_isIn_1 rfl (lv_at hl 1 rfl) ?_
  refine W.lcmp hx hb dX10_isIn_2 ?_
  refine lv_if_lt (tgt := 17) hx hb dX10_isIn_3 (by decide) (fun c3 => ?_) (fun c3 => ?_)
  · replace h := if_t c3 h
    refine lv_iconst (v := (0 : Int32)) hx hb dX10_isIn_17 (by decide) ?_
    exact r_Z hx hb hr hlocks hP hK hN hL hS (by decide) h dX10_isIn_18
  · replace h := if_f c3 h
    refine lv_lload_n hx hb dX10_isIn_6 rfl (lv_at hl 0 rfl) ?_
    refine lv_lload hx hb dX10_isIn_7 (lv_at hl 2 rfl) ?_
    refine W.lcmp hx hb dX10_isIn_9 ?_
    refine lv_if_gt (tgt := 17) hx hb dX10_isIn_10 (by decide) (fun c10 => ?_) (fun c10 => ?_)
    · replace h := if_t c10 h
      refine lv_iconst (v := (0 : Int32)) hx hb dX10_isIn_17 (by decide) ?_
      exact r_Z hx hb hr hlocks hP hK hN hL hS (by decide) h dX10_isIn_18
    · replace h := if_f c10 h
      refine lv_iconst (v := (1 : Int32)) hx hb dX10_isIn_13 (by decide) ?_
      refine lv_goto (tgt := 18) hx hb dX10_isIn_14 (by decide) ?_
      exact r_Z hx hb hr hlocks hP hK hN hL hS (by decide) h dX10_isIn_18
theorem dX10_no_0 : decode cX10_no 0 = .ok (.aload_n 0, 1) := by decide +kernel
theorem dX10_no_1 : decode cX10_no 1 = .ok (.getfield 29, 3) := by decide +kernel
theorem dX10_no_4 : decode cX10_no 4 = .ok (.iload_n 1, 1) := by decide +kernel
theorem dX10_no_5 : decode cX10_no 5 = .ok (.ineg, 1) := by decide +kernel
theorem dX10_no_6 : decode cX10_no 6 = .ok (.dup2, 1) := by decide +kernel
theorem dX10_no_7 : decode cX10_no 7 = .ok (.iaload, 1) := by decide +kernel
theorem dX10_no_8 : decode cX10_no 8 = .ok (.iconst 1, 1) := by decide +kernel
theorem dX10_no_9 : decode cX10_no 9 = .ok (.iadd, 1) := by decide +kernel
theorem dX10_no_10 : decode cX10_no 10 = .ok (.iastore, 1) := by decide +kernel
theorem dX10_no_11 : decode cX10_no 11 = .ok (.iload_n 1, 1) := by decide +kernel
theorem dX10_no_12 : decode cX10_no 12 = .ok (.ireturn, 1) := by decide +kernel
set_option maxHeartbeats 4000000 in
set_option maxRecDepth 100000 in
theorem cX10_no_ (l : Launch) (bs : Nat) (D : va_G) (y : Y3) (hcb : 76 ≤ y.2.2.2) (n : Nat) (x1 : Int32) (I : MI) (J : MJ) (r : Int32 × M2) (h : fX10_no n x1 I J = some r) : Met l yX10_no (.code yX10_no cX10_no 2 (some .int) :: gtb) (rmm 0 0) (va_Pc [.ref (bs + 44), .int x1] (HB bs D y I J)) (QcI bs D y r) 0 0 (FA bs) := by
  refine Met.ofW (cc := cX10_no) (maxL := 2) (ret := (some .int)) (by decide) rfl ?_
  intro p e s m args below meth c s₁ B hml hv
  obtain ⟨rfl, hP, hK, hN, hL⟩ := hv
  have hx := B.exec
  have hb := B.bytes
  have hr := B.returns
  have hts0 := atoms_spec (ws := .code yX10_no cX10_no 2 (some .int) :: gtb) B.pre
  have hts : ∀ w ∈ gtb, w.before [.ref (bs + 44), .int x1].toArray s = true := fun w hw => hts0 w (List.mem_cons_of_mem _ hw)
  have hown : s.vm.findClass RX10 = some m.cls := findClass_of_methodNamed B.named
  have hlocks := B.notSynchronized
  have hS : va_S (FA bs) s.heap s.heap [] := va_S.rf
  have Gc : Gx p s m [.ref (bs + 44), .int x1].toArray meth c cX10_no 2 RX10 bs D y (some .int) 76 := ⟨hx, hb, hml, hown, hts, hK, hN, hL, hr, hlocks, hcb⟩
  have hl := lv_entry [.ref (bs + 44), .int x1] (n := 2) (Nat.le_of_ble_eq_true rfl)
  rw [lg_entry_eq]
  generalize (lg_sl [.ref (bs + 44), .int x1] ++ List.replicate (2 - (lg_sl [.ref (bs + 44), .int x1]).length) Slot.unset).toArray = ls at hl ⊢
  have hl : lv_has ls 2 [(0, .ref (bs + 44)), (1, .int x1)] := hl
  change W p l e (rmm 0 0) s m [.ref (bs + 44), .int x1].toArray below meth c s.heap [] 0 0 (QI below [.ref (bs + 44), .int x1].toArray s bs D y r) (F0 m 0 ls [])
  unfold fX10_no at h
  refine lv_aload_n hx hb dX10_no_0 rfl (lv_at hl 0 rfl) ?_
  refine g_R (C := RX10) (T := TX10) (N := 49) (ci := 10) 44 10 51 hx hb hts hown hK hP in_X10 rfl hcb okF_44_10 rfc_44_10 fl_140 dX10_no_1 ?_
  refine lv_iload_n hx hb dX10_no_4 rfl (lv_at hl 1 rfl) ?_
  refine lv_ineg hx hb dX10_no_5 ?_
  refine lv_dup2_11 hx hb dX10_no_6 rfl rfl ?_
  obtain ⟨hi7, h⟩ := if_s1 h
  refine a_I 51 hx hb hK hP hcb aln_51 hi7 dX10_no_7 ?_
  refine lv_iconst (v := (1 : Int32)) hx hb dX10_no_8 (by decide) ?_
  refine lv_iadd hx hb dX10_no_9 ?_
  obtain ⟨hi10, h⟩ := if_s1 h
  obtain ⟨I10, eI10, h⟩ := lt_s1 h
  refine t_I 51 eI10 hx hb hK hP hS hcb aln_51 hi10 dX10_no_10 (fun H locs hP hS => ?_)
  refine lv_iload_n hx hb dX10_no_11 rfl (lv_at hl 1 rfl) ?_
  exact r_I hx hb hr hlocks hP hK hN hL hS h dX10_no_12
theorem dX10_isCell_0 : decode cX10_isCell 0 = .ok (.iload_n 1, 1) := by decide +kernel
theorem dX10_isCell_1 : decode cX10_isCell 1 = .ok (.ifCond .lt 15, 3) := by decide +kernel
theorem dX10_isCell_4 : decode cX10_isCell 4 = .ok (.iload_n 1, 1) := by decide +kernel
theorem dX10_isCell_5 : decode cX10_isCell 5 = .ok (.aload_n 0, 1) := by decide +kernel
theorem dX10_isCell_6 : decode cX10_isCell 6 = .ok (.getfield 123, 3) := by decide +kernel
theorem dX10_isCell_9 : decode cX10_isCell 9 = .ok (.if_icmp .ge 7, 3) := by decide +kernel
theorem dX10_isCell_12 : decode cX10_isCell 12 = .ok (.iconst 1, 1) := by decide +kernel
theorem dX10_isCell_13 : decode cX10_isCell 13 = .ok (.goto 4, 3) := by decide +kernel
theorem dX10_isCell_16 : decode cX10_isCell 16 = .ok (.iconst 0, 1) := by decide +kernel
theorem dX10_isCell_17 : decode cX10_isCell 17 = .ok (.ireturn, 1) := by decide +kernel
set_option maxHeartbeats 4000000 in
set_option maxRecDepth 100000 in
theorem cX10_isCell_ (l : Launch) (bs : Nat) (D : va_G) (y : Y3) (hcb : 76 ≤ y.2.2.2) (n : Nat) (x1 : Int32) (I : MI) (J : MJ) (r : Int32 × M2) (h : fX10_isCell n x1 I J = some r) : Met l yX10_isCell (.code yX10_isCell cX10_isCell 2 (some .boolean) :: gtb) (rmm 0 0) (va_Pc [.ref (bs + 44), .int x1] (HB bs D y I J)) (QcI bs D y r) 0 0 (FA bs) := by
  refine Met.ofW (cc := cX10_isCell) (maxL := 2) (ret := (some .boolean)) (by decide) rfl ?_
  intro p e s m args below meth c s₁ B hml hv
  obtain ⟨rfl, hP, hK, hN, hL⟩ := hv
  have hx := B.exec
  have hb := B.bytes
  have hr := B.returns
  have hts0 := atoms_spec (ws := .code yX10_isCell cX10_isCell 2 (some .boolean) :: gtb) B.pre
  have hts : ∀ w ∈ gtb, w.before [.ref (bs + 44), .int x1].toArray s = true := fun w hw => hts0 w (List.mem_cons_of_mem _ hw)
  have hown : s.vm.findClass RX10 = some m.cls := findClass_of_methodNamed B.named
  have hlocks := B.notSynchronized
  have hS : va_S (FA bs) s.heap s.heap [] := va_S.rf
  have Gc : Gx p s m [.ref (bs + 44), .int x1].toArray meth c cX10_isCell 2 RX10 bs D y (some .boolean) 76 := ⟨hx, hb, hml, hown, hts, hK, hN, hL, hr, hlocks, hcb⟩
  have hl := lv_entry [.ref (bs + 44), .int x1] (n := 2) (Nat.le_of_ble_eq_true rfl)
  rw [lg_entry_eq]
  generalize (lg_sl [.ref (bs + 44), .int x1] ++ List.replicate (2 - (lg_sl [.ref (bs + 44), .int x1]).length) Slot.unset).toArray = ls at hl ⊢
  have hl : lv_has ls 2 [(0, .ref (bs + 44)), (1, .int x1)] := hl
  change W p l e (rmm 0 0) s m [.ref (bs + 44), .int x1].toArray below meth c s.heap [] 0 0 (QI below [.ref (bs + 44), .int x1].toArray s bs D y r) (F0 m 0 ls [])
  unfold fX10_isCell at h
  refine lv_iload_n hx hb dX10_isCell_0 rfl (lv_at hl 1 rfl) ?_
  refine lv_if_lt (tgt := 16) hx hb dX10_isCell_1 (by decide) (fun c1 => ?_) (fun c1 => ?_)
  · replace h := if_t c1 h
    refine lv_iconst (v := (0 : Int32)) hx hb dX10_isCell_16 (by decide) ?_
    exact r_Z hx hb hr hlocks hP hK hN hL hS (by decide) h dX10_isCell_17
  · replace h := if_f c1 h
    refine lv_iload_n hx hb dX10_isCell_4 rfl (lv_at hl 1 rfl) ?_
    refine lv_aload_n hx hb dX10_isCell_5 rfl (lv_at hl 0 rfl) ?_
    refine g_I (C := RX10) (T := TX10) (N := 49) (ci := 10) 44 6 hx hb hts hown hK hP in_X10 rfl hcb okF_44_6 fl_141 dX10_isCell_6 ?_
    refine lv_icmp_ge (tgt := 16) hx hb dX10_isCell_9 (by decide) (fun c9 => ?_) (fun c9 => ?_)
    · replace h := if_t c9 h
      refine lv_iconst (v := (0 : Int32)) hx hb dX10_isCell_16 (by decide) ?_
      exact r_Z hx hb hr hlocks hP hK hN hL hS (by decide) h dX10_isCell_17
    · replace h := if_f c9 h
      refine lv_iconst (v := (1 : Int32)) hx hb dX10_isCell_12 (by decide) ?_
      refine lv_goto (tgt := 17) hx hb dX10_isCell_13 (by decide) ?_
      exact r_Z hx hb hr hlocks hP hK hN hL hS (by decide) h dX10_isCell_17
theorem dX10_isSign_0 : decode cX10_isSign 0 = .ok (.iload_n 1, 1) := by decide +kernel
theorem dX10_isSign_1 : decode cX10_isSign 1 = .ok (.ifCond .lt 17, 3) := by decide +kernel
theorem dX10_isSign_4 : decode cX10_isSign 4 = .ok (.iload_n 1, 1) := by decide +kernel
theorem dX10_isSign_5 : decode cX10_isSign 5 = .ok (.iconst 2, 1) := by decide +kernel
theorem dX10_isSign_6 : decode cX10_isSign 6 = .ok (.aload_n 0, 1) := by decide +kernel
theorem dX10_isSign_7 : decode cX10_isSign 7 = .ok (.getfield 123, 3) := by decide +kernel
theorem dX10_isSign_10 : decode cX10_isSign 10 = .ok (.imul, 1) := by decide +kernel
theorem dX10_isSign_11 : decode cX10_isSign 11 = .ok (.if_icmp .ge 7, 3) := by decide +kernel
theorem dX10_isSign_14 : decode cX10_isSign 14 = .ok (.iconst 1, 1) := by decide +kernel
theorem dX10_isSign_15 : decode cX10_isSign 15 = .ok (.goto 4, 3) := by decide +kernel
theorem dX10_isSign_18 : decode cX10_isSign 18 = .ok (.iconst 0, 1) := by decide +kernel
theorem dX10_isSign_19 : decode cX10_isSign 19 = .ok (.ireturn, 1) := by decide +kernel
set_option maxHeartbeats 4000000 in
set_option maxRecDepth 100000 in
theorem cX10_isSign_ (l : Launch) (bs : Nat) (D : va_G) (y : Y3) (hcb : 76 ≤ y.2.2.2) (n : Nat) (x1 : Int32) (I : MI) (J : MJ) (r : Int32 × M2) (h : fX10_isSign n x1 I J = some r) : Met l yX10_isSign (.code yX10_isSign cX10_isSign 2 (some .boolean) :: gtb) (rmm 0 0) (va_Pc [.ref (bs + 44), .int x1] (HB bs D y I J)) (QcI bs D y r) 0 0 (FA bs) := by
  refine Met.ofW (cc := cX10_isSign) (maxL := 2) (ret := (some .boolean)) (by decide) rfl ?_
  intro p e s m args below meth c s₁ B hml hv
  obtain ⟨rfl, hP, hK, hN, hL⟩ := hv
  have hx := B.exec
  have hb := B.bytes
  have hr := B.returns
  have hts0 := atoms_spec (ws := .code yX10_isSign cX10_isSign 2 (some .boolean) :: gtb) B.pre
  have hts : ∀ w ∈ gtb, w.before [.ref (bs + 44), .int x1].toArray s = true := fun w hw => hts0 w (List.mem_cons_of_mem _ hw)
  have hown : s.vm.findClass RX10 = some m.cls := findClass_of_methodNamed B.named
  have hlocks := B.notSynchronized
  have hS : va_S (FA bs) s.heap s.heap [] := va_S.rf
  have Gc : Gx p s m [.ref (bs + 44), .int x1].toArray meth c cX10_isSign 2 RX10 bs D y (some .boolean) 76 := ⟨hx, hb, hml, hown, hts, hK, hN, hL, hr, hlocks, hcb⟩
  have hl := lv_entry [.ref (bs + 44), .int x1] (n := 2) (Nat.le_of_ble_eq_true rfl)
  rw [lg_entry_eq]
  generalize (lg_sl [.ref (bs + 44), .int x1] ++ List.replicate (2 - (lg_sl [.ref (bs + 44), .int x1]).length) Slot.unset).toArray = ls at hl ⊢
  have hl : lv_has ls 2 [(0, .ref (bs + 44)), (1, .int x1)] := hl
  change W p l e (rmm 0 0) s m [.ref (bs + 44), .int x1].toArray below meth c s.heap [] 0 0 (QI below [.ref (bs + 44), .int x1].toArray s bs D y r) (F0 m 0 ls [])
  unfold fX10_isSign at h
  refine lv_iload_n hx hb dX10_isSign_0 rfl (lv_at hl 1 rfl) ?_
  refine lv_if_lt (tgt := 18) hx hb dX10_isSign_1 (by decide) (fun c1 => ?_) (fun c1 => ?_)
  · replace h := if_t c1 h
    refine lv_iconst (v := (0 : Int32)) hx hb dX10_isSign_18 (by decide) ?_
    exact r_Z hx hb hr hlocks hP hK hN hL hS (by decide) h dX10_isSign_19
  · replace h := if_f c1 h
    refine lv_iload_n hx hb dX10_isSign_4 rfl (lv_at hl 1 rfl) ?_
    refine lv_iconst (v := (2 : Int32)) hx hb dX10_isSign_5 (by decide) ?_
    refine lv_aload_n hx hb dX10_isSign_6 rfl (lv_at hl 0 rfl) ?_
    refine g_I (C := RX10) (T := TX10) (N := 49) (ci := 10) 44 6 hx hb hts hown hK hP in_X10 rfl hcb okF_44_6 fl_141 dX10_isSign_7 ?_
    refine lv_imul hx hb dX10_isSign_10 ?_
    refine lv_icmp_ge (tgt := 18) hx hb dX10_isSign_11 (by decide) (fun c11 => ?_) (fun c11 => ?_)
    · replace h := if_t c11 h
      refine lv_iconst (v := (0 : Int32)) hx hb dX10_isSign_18 (by decide) ?_
      exact r_Z hx hb hr hlocks hP hK hN hL hS (by decide) h dX10_isSign_19
    · replace h := if_f c11 h
      refine lv_iconst (v := (1 : Int32)) hx hb dX10_isSign_14 (by decide) ?_
      refine lv_goto (tgt := 19) hx hb dX10_isSign_15 (by decide) ?_
      exact r_Z hx hb hr hlocks hP hK hN hL hS (by decide) h dX10_isSign_19
theorem dX10_begins_0 : decode cX10_begins 0 = .ok (.iconst 0, 1) := by decide +kernel
theorem dX10_begins_1 : decode cX10_begins 1 = .ok (.istore_n 1, 1) := by decide +kernel
theorem dX10_begins_2 : decode cX10_begins 2 = .ok (.iload_n 1, 1) := by decide +kernel
theorem dX10_begins_3 : decode cX10_begins 3 = .ok (.aload_n 0, 1) := by decide +kernel
theorem dX10_begins_4 : decode cX10_begins 4 = .ok (.getfield 123, 3) := by decide +kernel
theorem dX10_begins_7 : decode cX10_begins 7 = .ok (.if_icmp .ge 51, 3) := by decide +kernel
theorem dX10_begins_10 : decode cX10_begins 10 = .ok (.aload_n 0, 1) := by decide +kernel
theorem dX10_begins_11 : decode cX10_begins 11 = .ok (.getfield 102, 3) := by decide +kernel
theorem dX10_begins_14 : decode cX10_begins 14 = .ok (.iload_n 1, 1) := by decide +kernel
theorem dX10_begins_15 : decode cX10_begins 15 = .ok (.aload_n 0, 1) := by decide +kernel
theorem dX10_begins_16 : decode cX10_begins 16 = .ok (.getfield 7, 3) := by decide +kernel
theorem dX10_begins_19 : decode cX10_begins 19 = .ok (.iload_n 1, 1) := by decide +kernel
theorem dX10_begins_20 : decode cX10_begins 20 = .ok (.iaload, 1) := by decide +kernel
theorem dX10_begins_21 : decode cX10_begins 21 = .ok (.iconst 1, 1) := by decide +kernel
theorem dX10_begins_22 : decode cX10_begins 22 = .ok (.if_icmp .ne 16, 3) := by decide +kernel
theorem dX10_begins_25 : decode cX10_begins 25 = .ok (.aload_n 0, 1) := by decide +kernel
theorem dX10_begins_26 : decode cX10_begins 26 = .ok (.getfield 22, 3) := by decide +kernel
theorem dX10_begins_29 : decode cX10_begins 29 = .ok (.iload_n 1, 1) := by decide +kernel
theorem dX10_begins_30 : decode cX10_begins 30 = .ok (.baload, 1) := by decide +kernel
theorem dX10_begins_31 : decode cX10_begins 31 = .ok (.ifCond .eq 7, 3) := by decide +kernel
theorem dX10_begins_34 : decode cX10_begins 34 = .ok (.iconst 1, 1) := by decide +kernel
theorem dX10_begins_35 : decode cX10_begins 35 = .ok (.goto 4, 3) := by decide +kernel
theorem dX10_begins_38 : decode cX10_begins 38 = .ok (.iconst 0, 1) := by decide +kernel
theorem dX10_begins_39 : decode cX10_begins 39 = .ok (.bastore, 1) := by decide +kernel
theorem dX10_begins_40 : decode cX10_begins 40 = .ok (.aload_n 0, 1) := by decide +kernel
theorem dX10_begins_41 : decode cX10_begins 41 = .ok (.getfield 105, 3) := by decide +kernel
theorem dX10_begins_44 : decode cX10_begins 44 = .ok (.iload_n 1, 1) := by decide +kernel
theorem dX10_begins_45 : decode cX10_begins 45 = .ok (.aload_n 0, 1) := by decide +kernel
theorem dX10_begins_46 : decode cX10_begins 46 = .ok (.getfield 102, 3) := by decide +kernel
theorem dX10_begins_49 : decode cX10_begins 49 = .ok (.iload_n 1, 1) := by decide +kernel
theorem dX10_begins_50 : decode cX10_begins 50 = .ok (.baload, 1) := by decide +kernel
theorem dX10_begins_51 : decode cX10_begins 51 = .ok (.bastore, 1) := by decide +kernel
theorem dX10_begins_52 : decode cX10_begins 52 = .ok (.iinc 1 1, 3) := by decide +kernel
theorem dX10_begins_55 : decode cX10_begins 55 = .ok (.goto (-53), 3) := by decide +kernel
theorem dX10_begins_58 : decode cX10_begins 58 = .ok (.aload_n 0, 1) := by decide +kernel
theorem dX10_begins_59 : decode cX10_begins 59 = .ok (.iconst 0, 1) := by decide +kernel
theorem dX10_begins_60 : decode cX10_begins 60 = .ok (.putfield 325, 3) := by decide +kernel
theorem dX10_begins_63 : decode cX10_begins 63 = .ok (.aload_n 0, 1) := by decide +kernel
theorem dX10_begins_64 : decode cX10_begins 64 = .ok (.iconst (-1), 1) := by decide +kernel
theorem dX10_begins_65 : decode cX10_begins 65 = .ok (.putfield 111, 3) := by decide +kernel
theorem dX10_begins_68 : decode cX10_begins 68 = .ok (.return_, 1) := by decide +kernel
set_option maxHeartbeats 4000000 in
set_option maxRecDepth 100000 in
theorem wX10_begins_39 {p : Program} {l : Launch} {e : Env} {s : State} {m : MethodId} {args : Array Value} {below : List Frame} {meth : Method} {c : Code} (bs : Nat) (D : va_G) (y : Y3) (n : Nat) (k2_ : Int32 → MI → MJ → Option (M2)) (r : M2) (Gc : Gx p s m args meth c cX10_begins 2 RX10 bs D y none 76) (hk2_ : ∀ (x1 : Int32) (I : MI) (J : MJ) (H : Heap) (locs : List Loc) (ls : Array Slot), va_P D vwCl (wl bs y I J) H → va_S (FA bs) s.heap H locs → lv_has ls 2 [(0, .ref (bs + 44)), (1, .int x1)] → k2_ x1 I J = some r → W p l e (rmm 0 0) s m args below meth c H locs 0 0 (QV below args s bs D y r) (F0 m 2 ls [])) (x1 : Int32) (s1 : Int32) (s2 : Int32) (I : MI) (J : MJ) (H : Heap) (locs : List Loc) (ls : Array Slot) (hP : va_P D vwCl (wl bs y I J) H) (hS : va_S (FA bs) s.heap H locs) (hl : lv_has ls 2 [(0, .ref (bs + 44)), (1, .int x1)]) (h : fX10_begins_39 n k2_ x1 s1 s2 I J = some r) : W p l e (rmm 0 0) s m args below meth c H locs 0 0 (QV below args s bs D y r) (F0 m 39 ls [.int s2, .int s1, .ref (bs + 71)]) := by
  obtain ⟨hx, hb, hml, hown, hts, hK, hN, hL, hr, hlocks, hcb⟩ := id Gc
  unfold fX10_begins_39 at h
  obtain ⟨hi39, h⟩ := if_s1 h
  obtain ⟨I39, eI39, h⟩ := lt_s1 h
  refine t_Z 71 eI39 hx hb hK hP hS hcb alZ_71 hi39 dX10_begins_39 (fun H locs hP hS => ?_)
  refine lv_aload_n hx hb dX10_begins_40 rfl (lv_at hl 0 rfl) ?_
  refine g_R (C := RX10) (T := TX10) (N := 49) (ci := 10) 44 40 72 hx hb hts hown hK hP in_X10 rfl hcb okF_44_40 rfc_44_40 fl_142 dX10_begins_41 ?_
  refine lv_iload_n hx hb dX10_begins_44 rfl (lv_at hl 1 rfl) ?_
  refine lv_aload_n hx hb dX10_begins_45 rfl (lv_at hl 0 rfl) ?_
  refine g_R (C := RX10) (T := TX10) (N := 49) (ci := 10) 44 39 71 hx hb hts hown hK hP in_X10 rfl hcb okF_44_39 rfc_44_39 fl_143 dX10_begins_46 ?_
  refine lv_iload_n hx hb dX10_begins_49 rfl (lv_at hl 1 rfl) ?_
  obtain ⟨hi50, h⟩ := if_s1 h
  refine a_Z 71 hx hb hK hP hcb alZ_71 hi50 dX10_begins_50 ?_
  obtain ⟨hi51, h⟩ := if_s1 h
  obtain ⟨I51, eI51, h⟩ := lt_s1 h
  refine t_Z 72 eI51 hx hb hK hP hS hcb alZ_72 hi51 dX10_begins_51 (fun H locs hP hS => ?_)
  refine lv_iinc (v := (x1 + (1 : Int32))) (lv' := [(1, .int (x1 + (1 : Int32))), (0, .ref (bs + 44))]) hx hb dX10_begins_52 hl (k := 1) rfl rfl (by decide) rfl (fun ls hl => ?_)
  refine lv_goto (tgt := 2) hx hb dX10_begins_55 (by decide) ?_
  exact hk2_ (x1 + (1 : Int32)) I51 J _ _ _ hP hS (lv_sub hl [1, 0] rfl) h
set_option maxHeartbeats 4000000 in
set_option maxRecDepth 100000 in
theorem wX10_begins_38 {p : Program} {l : Launch} {e : Env} {s : State} {m : MethodId} {args : Array Value} {below : List Frame} {meth : Method} {c : Code} (bs : Nat) (D : va_G) (y : Y3) (n : Nat) (k2_ : Int32 → MI → MJ → Option (M2)) (r : M2) (Gc : Gx p s m args meth c cX10_begins 2 RX10 bs D y none 76) (hk2_ : ∀ (x1 : Int32) (I : MI) (J : MJ) (H : Heap) (locs : List Loc) (ls : Array Slot), va_P D vwCl (wl bs y I J) H → va_S (FA bs) s.heap H locs → lv_has ls 2 [(0, .ref (bs + 44)), (1, .int x1)] → k2_ x1 I J = some r → W p l e (rmm 0 0) s m args below meth c H locs 0 0 (QV below args s bs D y r) (F0 m 2 ls [])) (x1 : Int32) (s1 : Int32) (I : MI) (J : MJ) (H : Heap) (locs : List Loc) (ls : Array Slot) (hP : va_P D vwCl (wl bs y I J) H) (hS : va_S (FA bs) s.heap H locs) (hl : lv_has ls 2 [(0, .ref (bs + 44)), (1, .int x1)]) (h : fX10_begins_38 n k2_ x1 s1 I J = some r) : W p l e (rmm 0 0) s m args below meth c H locs 0 0 (QV below args s bs D y r) (F0 m 38 ls [.int s1, .ref (bs + 71)]) := by
  obtain ⟨hx, hb, hml, hown, hts, hK, hN, hL, hr, hlocks, hcb⟩ := id Gc
  unfold fX10_begins_38 at h
  refine lv_iconst (v := (0 : Int32)) hx hb dX10_begins_38 (by decide) ?_
  exact wX10_begins_39 bs D y n k2_ r Gc hk2_ x1 s1 (0 : Int32) I J _ _ _ hP hS (lv_sub hl [0, 1] rfl) h
set_option maxHeartbeats 4000000 in
set_option maxRecDepth 100000 in
theorem wX10_begins_2 {p : Program} {l : Launch} {e : Env} {s : State} {m : MethodId} {args : Array Value} {below : List Frame} {meth : Method} {c : Code} (bs : Nat) (D : va_G) (y : Y3) (n : Nat) (k2_ : Int32 → MI → MJ → Option (M2)) (r : M2) (Gc : Gx p s m args meth c cX10_begins 2 RX10 bs D y none 76) (hk2_ : ∀ (x1 : Int32) (I : MI) (J : MJ) (H : Heap) (locs : List Loc) (ls : Array Slot), va_P D vwCl (wl bs y I J) H → va_S (FA bs) s.heap H locs → lv_has ls 2 [(0, .ref (bs + 44)), (1, .int x1)] → k2_ x1 I J = some r → W p l e (rmm 0 0) s m args below meth c H locs 0 0 (QV below args s bs D y r) (F0 m 2 ls [])) (x1 : Int32) (I : MI) (J : MJ) (H : Heap) (locs : List Loc) (ls : Array Slot) (hP : va_P D vwCl (wl bs y I J) H) (hS : va_S (FA bs) s.heap H locs) (hl : lv_has ls 2 [(0, .ref (bs + 44)), (1, .int x1)]) (h : fX10_begins_2 n k2_ x1 I J = some r) : W p l e (rmm 0 0) s m args below meth c H locs 0 0 (QV below args s bs D y r) (F0 m 2 ls []) := by
  obtain ⟨hx, hb, hml, hown, hts, hK, hN, hL, hr, hlocks, hcb⟩ := id Gc
  unfold fX10_begins_2 at h
  refine lv_iload_n hx hb dX10_begins_2 rfl (lv_at hl 1 rfl) ?_
  refine lv_aload_n hx hb dX10_begins_3 rfl (lv_at hl 0 rfl) ?_
  refine g_I (C := RX10) (T := TX10) (N := 49) (ci := 10) 44 6 hx hb hts hown hK hP in_X10 rfl hcb okF_44_6 fl_141 dX10_begins_4 ?_
  refine lv_icmp_ge (tgt := 58) hx hb dX10_begins_7 (by decide) (fun c7 => ?_) (fun c7 => ?_)
  · replace h := if_t c7 h
    refine lv_aload_n hx hb dX10_begins_58 rfl (lv_at hl 0 rfl) ?_
    refine lv_iconst (v := (0 : Int32)) hx hb dX10_begins_59 (by decide) ?_
    obtain ⟨I60, eI60, h⟩ := lt_s1 h
    refine s_I (C := RX10) (T := TX10) (N := 49) (ci := 10) (ty := .int) 44 42 eI60 tyX10 hx hb hts hown hK hP hS in_X10 tyX10_ok nmX10 rfl hcb okF_44_42 fl_144 rfl (by decide +kernel) rfl rfl dX10_begins_60 (fun H locs hP hS => ?_)
    refine lv_aload_n hx hb dX10_begins_63 rfl (lv_at hl 0 rfl) ?_
    refine lv_iconst (v := (-1 : Int32)) hx hb dX10_begins_64 (by decide) ?_
    obtain ⟨I65, eI65, h⟩ := lt_s1 h
    refine s_I (C := RX10) (T := TX10) (N := 49) (ci := 10) (ty := .int) 44 45 eI65 tyX10 hx hb hts hown hK hP hS in_X10 tyX10_ok nmX10 rfl hcb okF_44_45 fl_145 rfl (by decide +kernel) rfl rfl dX10_begins_65 (fun H locs hP hS => ?_)
    exact r_V hx hb hr hlocks hP hK hN hL hS h dX10_begins_68
  · replace h := if_f c7 h
    refine lv_aload_n hx hb dX10_begins_10 rfl (lv_at hl 0 rfl) ?_
    refine g_R (C := RX10) (T := TX10) (N := 49) (ci := 10) 44 39 71 hx hb hts hown hK hP in_X10 rfl hcb okF_44_39 rfc_44_39 fl_143 dX10_begins_11 ?_
    refine lv_iload_n hx hb dX10_begins_14 rfl (lv_at hl 1 rfl) ?_
    refine lv_aload_n hx hb dX10_begins_15 rfl (lv_at hl 0 rfl) ?_
    refine g_R (C := RX10) (T := TX10) (N := 49) (ci := 10) 44 0 45 hx hb hts hown hK hP in_X10 rfl hcb okF_44_0 rfc_44_0 fl_146 dX10_begins_16 ?_
    refine lv_iload_n hx hb dX10_begins_19 rfl (lv_at hl 1 rfl) ?_
    obtain ⟨hi20, h⟩ := if_s1 h
    refine a_I 45 hx hb hK hP hcb aln_45 hi20 dX10_begins_20 ?_
    refine lv_iconst (v := (1 : Int32)) hx hb dX10_begins_21 (by decide) ?_
    refine lv_icmp_ne (tgt := 38) hx hb dX10_begins_22 (by decide) (fun c22 => ?_) (fun c22 => ?_)
    · replace h := if_f c22 h
      exact wX10_begins_38 bs D y n k2_ r Gc hk2_ x1 x1 I J _ _ _ hP hS (lv_sub hl [0, 1] rfl) h
    · replace h := if_t c22 h
      refine lv_aload_n hx hb dX10_begins_25 rfl (lv_at hl 0 rfl) ?_
      refine g_R (C := RX10) (T := TX10) (N := 49) (ci := 10) 44 4 49 hx hb hts hown hK hP in_X10 rfl hcb okF_44_4 rfc_44_4 fl_147 dX10_begins_26 ?_
      refine lv_iload_n hx hb dX10_begins_29 rfl (lv_at hl 1 rfl) ?_
      obtain ⟨hi30, h⟩ := if_s1 h
      refine a_Z 49 hx hb hK hP hcb alZ_49 hi30 dX10_begins_30 ?_
      refine lv_if_eq (tgt := 38) hx hb dX10_begins_31 (by decide) (fun c31 => ?_) (fun c31 => ?_)
      · replace h := if_t c31 h
        exact wX10_begins_38 bs D y n k2_ r Gc hk2_ x1 x1 I J _ _ _ hP hS (lv_sub hl [0, 1] rfl) h
      · replace h := if_f c31 h
        refine lv_iconst (v := (1 : Int32)) hx hb dX10_begins_34 (by decide) ?_
        refine lv_goto (tgt := 39) hx hb dX10_begins_35 (by decide) ?_
        exact wX10_begins_39 bs D y n k2_ r Gc hk2_ x1 x1 (1 : Int32) I J _ _ _ hP hS (lv_sub hl [0, 1] rfl) h
theorem vX10_begins_2 {p : Program} {l : Launch} {e : Env} {s : State} {m : MethodId} {args : Array Value} {below : List Frame} {meth : Method} {c : Code} (bs : Nat) (D : va_G) (y : Y3) (n : Nat) (r : M2) (Gc : Gx p s m args meth c cX10_begins 2 RX10 bs D y none 76)  : ∀ (q : Nat) (x1 : Int32) (I : MI) (J : MJ) (H : Heap) (locs : List Loc) (ls : Array Slot), va_P D vwCl (wl bs y I J) H → va_S (FA bs) s.heap H locs → lv_has ls 2 [(0, .ref (bs + 44)), (1, .int x1)] → lX10_begins_2 n  q x1 I J = some r → W p l e (rmm 0 0) s m args below meth c H locs 0 0 (QV below args s bs D y r) (F0 m 2 ls []) := by
  intro q
  induction q with
  | zero =>
    intro x1 I J H locs ls hP hS hl h
    have h : (none : Option (M2)) = some r := h
    cases h
  | succ q ih =>
    intro x1 I J H locs ls hP hS hl h
    have h : fX10_begins_2 n  (lX10_begins_2 n  q) x1 I J = some r := h
    exact wX10_begins_2 bs D y n  (lX10_begins_2 n  q) r Gc  ih x1 I J H locs ls hP hS hl h
set_option maxHeartbeats 4000000 in
set_option maxRecDepth 100000 in
theorem cX10_begins_ (l : Launch) (bs : Nat) (D : va_G) (y : Y3) (hcb : 76 ≤ y.2.2.2) (n : Nat) (I : MI) (J : MJ) (r : M2) (h : fX10_begins n  I J = some r) : Met l yX10_begins (.code yX10_begins cX10_begins 2 none :: gtb) (rmm 0 0) (va_Pc [.ref (bs + 44)] (HB bs D y I J)) (QcV bs D y r) 0 0 (FA bs) := by
  refine Met.ofW (cc := cX10_begins) (maxL := 2) (ret := none) (by decide) rfl ?_
  intro p e s m args below meth c s₁ B hml hv
  obtain ⟨rfl, hP, hK, hN, hL⟩ := hv
  have hx := B.exec
  have hb := B.bytes
  have hr := B.returns
  have hts0 := atoms_spec (ws := .code yX10_begins cX10_begins 2 none :: gtb) B.pre
  have hts : ∀ w ∈ gtb, w.before [.ref (bs + 44)].toArray s = true := fun w hw => hts0 w (List.mem_cons_of_mem _ hw)
  have hown : s.vm.findClass RX10 = some m.cls := findClass_of_methodNamed B.named
  have hlocks := B.notSynchronized
  have hS : va_S (FA bs) s.heap s.heap [] := va_S.rf
  have Gc : Gx p s m [.ref (bs + 44)].toArray meth c cX10_begins 2 RX10 bs D y none 76 := ⟨hx, hb, hml, hown, hts, hK, hN, hL, hr, hlocks, hcb⟩
  have hl := lv_entry [.ref (bs + 44)] (n := 2) (Nat.le_of_ble_eq_true rfl)
  rw [lg_entry_eq]
  generalize (lg_sl [.ref (bs + 44)] ++ List.replicate (2 - (lg_sl [.ref (bs + 44)]).length) Slot.unset).toArray = ls at hl ⊢
  have hl : lv_has ls 2 [(0, .ref (bs + 44))] := hl
  change W p l e (rmm 0 0) s m [.ref (bs + 44)].toArray below meth c s.heap [] 0 0 (QV below [.ref (bs + 44)].toArray s bs D y r) (F0 m 0 ls [])
  unfold fX10_begins at h
  refine lv_iconst (v := (0 : Int32)) hx hb dX10_begins_0 (by decide) ?_
  refine lv_istore_n (lv' := [(1, .int (0 : Int32)), (0, .ref (bs + 44))]) hx hb dX10_begins_1 rfl hl (by decide) rfl (fun ls hl => ?_)
  exact vX10_begins_2 bs D y n  r Gc  n (0 : Int32) I J _ _ _ hP hS (lv_sub hl [1, 0] rfl) h
theorem dX10_changes_0 : decode cX10_changes 0 = .ok (.aload_n 0, 1) := by decide +kernel
theorem dX10_changes_1 : decode cX10_changes 1 = .ok (.iconst 0, 1) := by decide +kernel
theorem dX10_changes_2 : decode cX10_changes 2 = .ok (.putfield 126, 3) := by decide +kernel
theorem dX10_changes_5 : decode cX10_changes 5 = .ok (.aload_n 0, 1) := by decide +kernel
theorem dX10_changes_6 : decode cX10_changes 6 = .ok (.iconst 0, 1) := by decide +kernel
theorem dX10_changes_7 : decode cX10_changes 7 = .ok (.putfield 130, 3) := by decide +kernel
theorem dX10_changes_10 : decode cX10_changes 10 = .ok (.aload_n 0, 1) := by decide +kernel
theorem dX10_changes_11 : decode cX10_changes 11 = .ok (.iconst 0, 1) := by decide +kernel
theorem dX10_changes_12 : decode cX10_changes 12 = .ok (.putfield 133, 3) := by decide +kernel
theorem dX10_changes_15 : decode cX10_changes 15 = .ok (.aload_n 0, 1) := by decide +kernel
theorem dX10_changes_16 : decode cX10_changes 16 = .ok (.iconst 0, 1) := by decide +kernel
theorem dX10_changes_17 : decode cX10_changes 17 = .ok (.putfield 136, 3) := by decide +kernel
theorem dX10_changes_20 : decode cX10_changes 20 = .ok (.aload_n 0, 1) := by decide +kernel
theorem dX10_changes_21 : decode cX10_changes 21 = .ok (.iconst 0, 1) := by decide +kernel
theorem dX10_changes_22 : decode cX10_changes 22 = .ok (.putfield 139, 3) := by decide +kernel
theorem dX10_changes_25 : decode cX10_changes 25 = .ok (.aload_n 0, 1) := by decide +kernel
theorem dX10_changes_26 : decode cX10_changes 26 = .ok (.invokevirtual 142, 3) := by decide +kernel
theorem dX10_changes_29 : decode cX10_changes 29 = .ok (.return_, 1) := by decide +kernel
set_option maxHeartbeats 4000000 in
set_option maxRecDepth 100000 in
theorem cX10_changes_ (l : Launch) (bs : Nat) (D : va_G) (y : Y3) (hcb : 76 ≤ y.2.2.2) (n : Nat) (I : MI) (J : MJ) (r : M2) (h : fX10_changes n  I J = some r) : Met l yX10_changes (.code yX10_changes cX10_changes 1 none :: gtb) (rmm 1 21) (va_Pc [.ref (bs + 44)] (HB bs D y I J)) (QcV bs D y r) 0 0 (FA bs) := by
  refine Met.ofW (cc := cX10_changes) (maxL := 1) (ret := none) (by decide) rfl ?_
  intro p e s m args below meth c s₁ B hml hv
  obtain ⟨rfl, hP, hK, hN, hL⟩ := hv
  have hx := B.exec
  have hb := B.bytes
  have hr := B.returns
  have hts0 := atoms_spec (ws := .code yX10_changes cX10_changes 1 none :: gtb) B.pre
  have hts : ∀ w ∈ gtb, w.before [.ref (bs + 44)].toArray s = true := fun w hw => hts0 w (List.mem_cons_of_mem _ hw)
  have hown : s.vm.findClass RX10 = some m.cls := findClass_of_methodNamed B.named
  have hlocks := B.notSynchronized
  have hS : va_S (FA bs) s.heap s.heap [] := va_S.rf
  have Gc : Gx p s m [.ref (bs + 44)].toArray meth c cX10_changes 1 RX10 bs D y none 76 := ⟨hx, hb, hml, hown, hts, hK, hN, hL, hr, hlocks, hcb⟩
  have hl := lv_entry [.ref (bs + 44)] (n := 1) (Nat.le_of_ble_eq_true rfl)
  rw [lg_entry_eq]
  generalize (lg_sl [.ref (bs + 44)] ++ List.replicate (1 - (lg_sl [.ref (bs + 44)]).length) Slot.unset).toArray = ls at hl ⊢
  have hl : lv_has ls 1 [(0, .ref (bs + 44))] := hl
  change W p l e (rmm 1 21) s m [.ref (bs + 44)].toArray below meth c s.heap [] 0 0 (QV below [.ref (bs + 44)].toArray s bs D y r) (F0 m 0 ls [])
  unfold fX10_changes at h
  refine lv_aload_n hx hb dX10_changes_0 rfl (lv_at hl 0 rfl) ?_
  refine lv_iconst (v := (0 : Int32)) hx hb dX10_changes_1 (by decide) ?_
  obtain ⟨I2, eI2, h⟩ := lt_s1 h
  refine s_I (C := RX10) (T := TX10) (N := 49) (ci := 10) (ty := .boolean) 44 11 eI2 tyX10 hx hb hts hown hK hP hS in_X10 tyX10_ok nmX10 rfl hcb okF_44_11 fl_148 rfl (by decide +kernel) (by decide) rfl dX10_changes_2 (fun H locs hP hS => ?_)
  refine lv_aload_n hx hb dX10_changes_5 rfl (lv_at hl 0 rfl) ?_
  refine lv_iconst (v := (0 : Int32)) hx hb dX10_changes_6 (by decide) ?_
  obtain ⟨I7, eI7, h⟩ := lt_s1 h
  refine s_I (C := RX10) (T := TX10) (N := 49) (ci := 10) (ty := .boolean) 44 12 eI7 tyX10 hx hb hts hown hK hP hS in_X10 tyX10_ok nmX10 rfl hcb okF_44_12 fl_149 rfl (by decide +kernel) (by decide) rfl dX10_changes_7 (fun H locs hP hS => ?_)
  refine lv_aload_n hx hb dX10_changes_10 rfl (lv_at hl 0 rfl) ?_
  refine lv_iconst (v := (0 : Int32)) hx hb dX10_changes_11 (by decide) ?_
  obtain ⟨I12, eI12, h⟩ := lt_s1 h
  refine s_I (C := RX10) (T := TX10) (N := 49) (ci := 10) (ty := .boolean) 44 13 eI12 tyX10 hx hb hts hown hK hP hS in_X10 tyX10_ok nmX10 rfl hcb okF_44_13 fl_150 rfl (by decide +kernel) (by decide) rfl dX10_changes_12 (fun H locs hP hS => ?_)
  refine lv_aload_n hx hb dX10_changes_15 rfl (lv_at hl 0 rfl) ?_
  refine lv_iconst (v := (0 : Int32)) hx hb dX10_changes_16 (by decide) ?_
  obtain ⟨I17, eI17, h⟩ := lt_s1 h
  refine s_I (C := RX10) (T := TX10) (N := 49) (ci := 10) (ty := .boolean) 44 14 eI17 tyX10 hx hb hts hown hK hP hS in_X10 tyX10_ok nmX10 rfl hcb okF_44_14 fl_151 rfl (by decide +kernel) (by decide) rfl dX10_changes_17 (fun H locs hP hS => ?_)
  refine lv_aload_n hx hb dX10_changes_20 rfl (lv_at hl 0 rfl) ?_
  refine lv_iconst (v := (0 : Int32)) hx hb dX10_changes_21 (by decide) ?_
  obtain ⟨I22, eI22, h⟩ := lt_s1 h
  refine s_I (C := RX10) (T := TX10) (N := 49) (ci := 10) (ty := .boolean) 44 15 eI22 tyX10 hx hb hts hown hK hP hS in_X10 tyX10_ok nmX10 rfl hcb okF_44_15 fl_152 rfl (by decide +kernel) (by decide) rfl dX10_changes_22 (fun H locs hP hS => ?_)
  refine lv_aload_n hx hb dX10_changes_25 rfl (lv_at hl 0 rfl) ?_
  obtain ⟨r26, er26, h⟩ := bd_s1 h
  refine c_VV (k := 44) (ci := 10) (As := []) (rest := []) hx hb hml hown hts hK hN hL hP hS (cX10_begins_ l bs D y hcb n  I22 J r26 er26) ok_X10_begins ov_X10_begins ml_116 ⟨Nat.le_of_ble_eq_true rfl, Nat.le_of_ble_eq_true rfl⟩ rfl hcb kd_44 hl.1 rfl rfl (Nat.le_of_ble_eq_true rfl) ⟨Nat.zero_le _, Nat.zero_le _⟩ dX10_changes_26 (fun H locs hP hS => ?_)
  exact r_V hx hb hr hlocks hP hK hN hL hS h dX10_changes_29
theorem dX10_adds_0 : decode cX10_adds 0 = .ok (.aload_n 0, 1) := by decide +kernel
theorem dX10_adds_1 : decode cX10_adds 1 = .ok (.getfield 123, 3) := by decide +kernel
theorem dX10_adds_4 : decode cX10_adds 4 = .ok (.istore 4, 2) := by decide +kernel
theorem dX10_adds_6 : decode cX10_adds 6 = .ok (.aload_n 0, 1) := by decide +kernel
theorem dX10_adds_7 : decode cX10_adds 7 = .ok (.getfield 7, 3) := by decide +kernel
theorem dX10_adds_10 : decode cX10_adds 10 = .ok (.iload 4, 2) := by decide +kernel
theorem dX10_adds_12 : decode cX10_adds 12 = .ok (.iload_n 1, 1) := by decide +kernel
theorem dX10_adds_13 : decode cX10_adds 13 = .ok (.iastore, 1) := by decide +kernel
theorem dX10_adds_14 : decode cX10_adds 14 = .ok (.aload_n 0, 1) := by decide +kernel
theorem dX10_adds_15 : decode cX10_adds 15 = .ok (.getfield 13, 3) := by decide +kernel
theorem dX10_adds_18 : decode cX10_adds 18 = .ok (.iload 4, 2) := by decide +kernel
theorem dX10_adds_20 : decode cX10_adds 20 = .ok (.iload_n 2, 1) := by decide +kernel
theorem dX10_adds_21 : decode cX10_adds 21 = .ok (.iastore, 1) := by decide +kernel
theorem dX10_adds_22 : decode cX10_adds 22 = .ok (.aload_n 0, 1) := by decide +kernel
theorem dX10_adds_23 : decode cX10_adds 23 = .ok (.getfield 16, 3) := by decide +kernel
theorem dX10_adds_26 : decode cX10_adds 26 = .ok (.iload 4, 2) := by decide +kernel
theorem dX10_adds_28 : decode cX10_adds 28 = .ok (.iload_n 3, 1) := by decide +kernel
theorem dX10_adds_29 : decode cX10_adds 29 = .ok (.iastore, 1) := by decide +kernel
theorem dX10_adds_30 : decode cX10_adds 30 = .ok (.aload_n 0, 1) := by decide +kernel
theorem dX10_adds_31 : decode cX10_adds 31 = .ok (.dup, 1) := by decide +kernel
theorem dX10_adds_32 : decode cX10_adds 32 = .ok (.getfield 123, 3) := by decide +kernel
theorem dX10_adds_35 : decode cX10_adds 35 = .ok (.iconst 1, 1) := by decide +kernel
theorem dX10_adds_36 : decode cX10_adds 36 = .ok (.iadd, 1) := by decide +kernel
theorem dX10_adds_37 : decode cX10_adds 37 = .ok (.putfield 123, 3) := by decide +kernel
theorem dX10_adds_40 : decode cX10_adds 40 = .ok (.aload_n 0, 1) := by decide +kernel
theorem dX10_adds_41 : decode cX10_adds 41 = .ok (.invokevirtual 145, 3) := by decide +kernel
theorem dX10_adds_44 : decode cX10_adds 44 = .ok (.iload 4, 2) := by decide +kernel
theorem dX10_adds_46 : decode cX10_adds 46 = .ok (.ireturn, 1) := by decide +kernel
set_option maxHeartbeats 4000000 in
set_option maxRecDepth 100000 in
theorem cX10_adds_ (l : Launch) (bs : Nat) (D : va_G) (y : Y3) (hcb : 76 ≤ y.2.2.2) (n : Nat) (x1 : Int32) (x2 : Int32) (x3 : Int32) (I : MI) (J : MJ) (r : Int32 × M2) (h : fX10_adds n x1 x2 x3 I J = some r) : Met l yX10_adds (.code yX10_adds cX10_adds 5 (some .int) :: gtb) (rmm 2 41) (va_Pc [.ref (bs + 44), .int x1, .int x2, .int x3] (HB bs D y I J)) (QcI bs D y r) 0 0 (FA bs) := by
  refine Met.ofW (cc := cX10_adds) (maxL := 5) (ret := (some .int)) (by decide) rfl ?_
  intro p e s m args below meth c s₁ B hml hv
  obtain ⟨rfl, hP, hK, hN, hL⟩ := hv
  have hx := B.exec
  have hb := B.bytes
  have hr := B.returns
  have hts0 := atoms_spec (ws := .code yX10_adds cX10_adds 5 (some .int) :: gtb) B.pre
  have hts : ∀ w ∈ gtb, w.before [.ref (bs + 44), .int x1, .int x2, .int x3].toArray s = true := fun w hw => hts0 w (List.mem_cons_of_mem _ hw)
  have hown : s.vm.findClass RX10 = some m.cls := findClass_of_methodNamed B.named
  have hlocks := B.notSynchronized
  have hS : va_S (FA bs) s.heap s.heap [] := va_S.rf
  have Gc : Gx p s m [.ref (bs + 44), .int x1, .int x2, .int x3].toArray meth c cX10_adds 5 RX10 bs D y (some .int) 76 := ⟨hx, hb, hml, hown, hts, hK, hN, hL, hr, hlocks, hcb⟩
  have hl := lv_entry [.ref (bs + 44), .int x1, .int x2, .int x3] (n := 5) (Nat.le_of_ble_eq_true rfl)
  rw [lg_entry_eq]
  generalize (lg_sl [.ref (bs + 44), .int x1, .int x2, .int x3] ++ List.replicate (5 - (lg_sl [.ref (bs + 44), .int x1, .int x2, .int x3]).length) Slot.unset).toArray = ls at hl ⊢
  have hl : lv_has ls 5 [(0, .ref (bs + 44)), (1, .int x1), (2, .int x2), (3, .int x3)] := hl
  change W p l e (rmm 2 41) s m [.ref (bs + 44), .int x1, .int x2, .int x3].toArray below meth c s.heap [] 0 0 (QI below [.ref (bs + 44), .int x1, .int x2, .int x3].toArray s bs D y r) (F0 m 0 ls [])
  unfold fX10_adds at h
  refine lv_aload_n hx hb dX10_adds_0 rfl (lv_at hl 0 rfl) ?_
  refine g_I (C := RX10) (T := TX10) (N := 49) (ci := 10) 44 6 hx hb hts hown hK hP in_X10 rfl hcb okF_44_6 fl_141 dX10_adds_1 ?_
  obtain ⟨v4, ev4, h⟩ := lt_s1 h
  refine top_i ev4 ?_
  refine lv_istore (lv' := [(4, .int v4), (0, .ref (bs + 44)), (1, .int x1), (2, .int x2), (3, .int x3)]) hx hb dX10_adds_4 hl (by decide) rfl (fun ls hl => ?_)
  refine lv_aload_n hx hb dX10_adds_6 rfl (lv_at hl 1 rfl) ?_
  refine g_R (C := RX10) (T := TX10) (N := 49) (ci := 10) 44 0 45 hx hb hts hown hK hP in_X10 rfl hcb okF_44_0 rfc_44_0 fl_146 dX10_adds_7 ?_
  refine lv_iload hx hb dX10_adds_10 (lv_at hl 0 rfl) ?_
  refine lv_iload_n hx hb dX10_adds_12 rfl (lv_at hl 2 rfl) ?_
  obtain ⟨hi13, h⟩ := if_s1 h
  obtain ⟨I13, eI13, h⟩ := lt_s1 h
  refine t_I 45 eI13 hx hb hK hP hS hcb aln_45 hi13 dX10_adds_13 (fun H locs hP hS => ?_)
  refine lv_aload_n hx hb dX10_adds_14 rfl (lv_at hl 1 rfl) ?_
  refine g_R (C := RX10) (T := TX10) (N := 49) (ci := 10) 44 1 46 hx hb hts hown hK hP in_X10 rfl hcb okF_44_1 rfc_44_1 fl_153 dX10_adds_15 ?_
  refine lv_iload hx hb dX10_adds_18 (lv_at hl 0 rfl) ?_
  refine lv_iload_n hx hb dX10_adds_20 rfl (lv_at hl 3 rfl) ?_
  obtain ⟨hi21, h⟩ := if_s1 h
  obtain ⟨I21, eI21, h⟩ := lt_s1 h
  refine t_I 46 eI21 hx hb hK hP hS hcb aln_46 hi21 dX10_adds_21 (fun H locs hP hS => ?_)
  refine lv_aload_n hx hb dX10_adds_22 rfl (lv_at hl 1 rfl) ?_
  refine g_R (C := RX10) (T := TX10) (N := 49) (ci := 10) 44 2 47 hx hb hts hown hK hP in_X10 rfl hcb okF_44_2 rfc_44_2 fl_154 dX10_adds_23 ?_
  refine lv_iload hx hb dX10_adds_26 (lv_at hl 0 rfl) ?_
  refine lv_iload_n hx hb dX10_adds_28 rfl (lv_at hl 4 rfl) ?_
  obtain ⟨hi29, h⟩ := if_s1 h
  obtain ⟨I29, eI29, h⟩ := lt_s1 h
  refine t_I 47 eI29 hx hb hK hP hS hcb aln_47 hi29 dX10_adds_29 (fun H locs hP hS => ?_)
  refine lv_aload_n hx hb dX10_adds_30 rfl (lv_at hl 1 rfl) ?_
  refine lv_dup hx hb dX10_adds_31 rfl ?_
  refine g_I (C := RX10) (T := TX10) (N := 49) (ci := 10) 44 6 hx hb hts hown hK hP in_X10 rfl hcb okF_44_6 fl_141 dX10_adds_32 ?_
  refine lv_iconst (v := (1 : Int32)) hx hb dX10_adds_35 (by decide) ?_
  refine lv_iadd hx hb dX10_adds_36 ?_
  obtain ⟨I37, eI37, h⟩ := lt_s1 h
  refine s_I (C := RX10) (T := TX10) (N := 49) (ci := 10) (ty := .int) 44 6 eI37 tyX10 hx hb hts hown hK hP hS in_X10 tyX10_ok nmX10 rfl hcb okF_44_6 fl_141 rfl (by decide +kernel) rfl rfl dX10_adds_37 (fun H locs hP hS => ?_)
  refine lv_aload_n hx hb dX10_adds_40 rfl (lv_at hl 1 rfl) ?_
  obtain ⟨r41, er41, h⟩ := bd_s1 h
  refine c_VV (k := 44) (ci := 10) (As := []) (rest := []) hx hb hml hown hts hK hN hL hP hS (cX10_changes_ l bs D y hcb n  I37 J r41 er41) ok_X10_changes ov_X10_changes ml_117 ⟨Nat.le_of_ble_eq_true rfl, Nat.le_of_ble_eq_true rfl⟩ rfl hcb kd_44 hl.1 rfl rfl (Nat.le_of_ble_eq_true rfl) ⟨Nat.zero_le _, Nat.zero_le _⟩ dX10_adds_41 (fun H locs hP hS => ?_)
  refine lv_iload hx hb dX10_adds_44 (lv_at hl 0 rfl) ?_
  exact r_I hx hb hr hlocks hP hK hN hL hS h dX10_adds_46
theorem dX10_input_0 : decode cX10_input 0 = .ok (.aload_n 0, 1) := by decide +kernel
theorem dX10_input_1 : decode cX10_input 1 = .ok (.getfield 123, 3) := by decide +kernel
theorem dX10_input_4 : decode cX10_input 4 = .ok (.bipush 32, 2) := by decide +kernel
theorem dX10_input_6 : decode cX10_input 6 = .ok (.if_icmp .eq 12, 3) := by decide +kernel
theorem dX10_input_9 : decode cX10_input 9 = .ok (.aload_n 0, 1) := by decide +kernel
theorem dX10_input_10 : decode cX10_input 10 = .ok (.getfield 148, 3) := by decide +kernel
theorem dX10_input_13 : decode cX10_input 13 = .ok (.bipush 6, 2) := by decide +kernel
theorem dX10_input_15 : decode cX10_input 15 = .ok (.if_icmp .ne 10, 3) := by decide +kernel
theorem dX10_input_18 : decode cX10_input 18 = .ok (.aload_n 0, 1) := by decide +kernel
theorem dX10_input_19 : decode cX10_input 19 = .ok (.bipush (-8), 2) := by decide +kernel
theorem dX10_input_21 : decode cX10_input 21 = .ok (.invokevirtual 151, 3) := by decide +kernel
theorem dX10_input_24 : decode cX10_input 24 = .ok (.ireturn, 1) := by decide +kernel
theorem dX10_input_25 : decode cX10_input 25 = .ok (.aload_n 0, 1) := by decide +kernel
theorem dX10_input_26 : decode cX10_input 26 = .ok (.dup, 1) := by decide +kernel
theorem dX10_input_27 : decode cX10_input 27 = .ok (.getfield 148, 3) := by decide +kernel
theorem dX10_input_30 : decode cX10_input 30 = .ok (.iconst 1, 1) := by decide +kernel
theorem dX10_input_31 : decode cX10_input 31 = .ok (.iadd, 1) := by decide +kernel
theorem dX10_input_32 : decode cX10_input 32 = .ok (.putfield 148, 3) := by decide +kernel
theorem dX10_input_35 : decode cX10_input 35 = .ok (.aload_n 0, 1) := by decide +kernel
theorem dX10_input_36 : decode cX10_input 36 = .ok (.iconst 0, 1) := by decide +kernel
theorem dX10_input_37 : decode cX10_input 37 = .ok (.iconst (-1), 1) := by decide +kernel
theorem dX10_input_38 : decode cX10_input 38 = .ok (.iconst (-1), 1) := by decide +kernel
theorem dX10_input_39 : decode cX10_input 39 = .ok (.invokevirtual 155, 3) := by decide +kernel
theorem dX10_input_42 : decode cX10_input 42 = .ok (.ireturn, 1) := by decide +kernel
set_option maxHeartbeats 4000000 in
set_option maxRecDepth 100000 in
theorem wX10_input_18 {p : Program} {l : Launch} {e : Env} {s : State} {m : MethodId} {args : Array Value} {below : List Frame} {meth : Method} {c : Code} (bs : Nat) (D : va_G) (y : Y3) (n : Nat) (r : Int32 × M2) (Gc : Gx p s m args meth c cX10_input 1 RX10 bs D y (some .int) 76)  (I : MI) (J : MJ) (H : Heap) (locs : List Loc) (ls : Array Slot) (hP : va_P D vwCl (wl bs y I J) H) (hS : va_S (FA bs) s.heap H locs) (hl : lv_has ls 1 [(0, .ref (bs + 44))]) (h : fX10_input_18 n   I J = some r) : W p l e (rmm 3 65) s m args below meth c H locs 0 0 (QI below args s bs D y r) (F0 m 18 ls []) := by
  obtain ⟨hx, hb, hml, hown, hts, hK, hN, hL, hr, hlocks, hcb⟩ := id Gc
  unfold fX10_input_18 at h
  refine lv_aload_n hx hb dX10_input_18 rfl (lv_at hl 0 rfl) ?_
  refine lv_bipush (v := (-8 : Int32)) hx hb dX10_input_19 (by decide) ?_
  obtain ⟨r21, er21, h⟩ := bd_s1 h
  refine c_VI (k := 44) (ci := 10) (As := [.int (-8 : Int32)]) (rest := []) hx hb hml hown hts hK hN hL hP hS (cX10_no_ l bs D y hcb n (-8 : Int32) I J r21 er21) ok_X10_no ov_X10_no ml_118 ⟨Nat.le_of_ble_eq_true rfl, Nat.le_of_ble_eq_true rfl⟩ rfl hcb kd_44 hl.1 rfl rfl (Nat.le_of_ble_eq_true rfl) ⟨Nat.zero_le _, Nat.zero_le _⟩ dX10_input_21 (fun H locs hP hS => ?_)
  exact r_I hx hb hr hlocks hP hK hN hL hS h dX10_input_24
set_option maxHeartbeats 4000000 in
set_option maxRecDepth 100000 in
theorem cX10_input_ (l : Launch) (bs : Nat) (D : va_G) (y : Y3) (hcb : 76 ≤ y.2.2.2) (n : Nat) (I : MI) (J : MJ) (r : Int32 × M2) (h : fX10_input n  I J = some r) : Met l yX10_input (.code yX10_input cX10_input 1 (some .int) :: gtb) (rmm 3 65) (va_Pc [.ref (bs + 44)] (HB bs D y I J)) (QcI bs D y r) 0 0 (FA bs) := by
  refine Met.ofW (cc := cX10_input) (maxL := 1) (ret := (some .int)) (by decide) rfl ?_
  intro p e s m args below meth c s₁ B hml hv
  obtain ⟨rfl, hP, hK, hN, hL⟩ := hv
  have hx := B.exec
  have hb := B.bytes
  have hr := B.returns
  have hts0 := atoms_spec (ws := .code yX10_input cX10_input 1 (some .int) :: gtb) B.pre
  have hts : ∀ w ∈ gtb, w.before [.ref (bs + 44)].toArray s = true := fun w hw => hts0 w (List.mem_cons_of_mem _ hw)
  have hown : s.vm.findClass RX10 = some m.cls := findClass_of_methodNamed B.named
  have hlocks := B.notSynchronized
  have hS : va_S (FA bs) s.heap s.heap [] := va_S.rf
  have Gc : Gx p s m [.ref (bs + 44)].toArray meth c cX10_input 1 RX10 bs D y (some .int) 76 := ⟨hx, hb, hml, hown, hts, hK, hN, hL, hr, hlocks, hcb⟩
  have hl := lv_entry [.ref (bs + 44)] (n := 1) (Nat.le_of_ble_eq_true rfl)
  rw [lg_entry_eq]
  generalize (lg_sl [.ref (bs + 44)] ++ List.replicate (1 - (lg_sl [.ref (bs + 44)]).length) Slot.unset).toArray = ls at hl ⊢
  have hl : lv_has ls 1 [(0, .ref (bs + 44))] := hl
  change W p l e (rmm 3 65) s m [.ref (bs + 44)].toArray below meth c s.heap [] 0 0 (QI below [.ref (bs + 44)].toArray s bs D y r) (F0 m 0 ls [])
  unfold fX10_input at h
  refine lv_aload_n hx hb dX10_input_0 rfl (lv_at hl 0 rfl) ?_
  refine g_I (C := RX10) (T := TX10) (N := 49) (ci := 10) 44 6 hx hb hts hown hK hP in_X10 rfl hcb okF_44_6 fl_141 dX10_input_1 ?_
  refine lv_bipush (v := (32 : Int32)) hx hb dX10_input_4 (by decide) ?_
  refine lv_icmp_eq (tgt := 18) hx hb dX10_input_6 (by decide) (fun c6 => ?_) (fun c6 => ?_)
  · replace h := if_t c6 h
    exact wX10_input_18 bs D y n  r Gc   I J _ _ _ hP hS (lv_sub hl [0] rfl) h
  · replace h := if_f c6 h
    refine lv_aload_n hx hb dX10_input_9 rfl (lv_at hl 0 rfl) ?_
    refine g_I (C := RX10) (T := TX10) (N := 49) (ci := 10) 44 7 hx hb hts hown hK hP in_X10 rfl hcb okF_44_7 fl_155 dX10_input_10 ?_
    refine lv_bipush (v := (6 : Int32)) hx hb dX10_input_13 (by decide) ?_
    refine lv_icmp_ne (tgt := 25) hx hb dX10_input_15 (by decide) (fun c15 => ?_) (fun c15 => ?_)
    · replace h := if_f c15 h
      refine lv_aload_n hx hb dX10_input_25 rfl (lv_at hl 0 rfl) ?_
      refine lv_dup hx hb dX10_input_26 rfl ?_
      refine g_I (C := RX10) (T := TX10) (N := 49) (ci := 10) 44 7 hx hb hts hown hK hP in_X10 rfl hcb okF_44_7 fl_155 dX10_input_27 ?_
      refine lv_iconst (v := (1 : Int32)) hx hb dX10_input_30 (by decide) ?_
      refine lv_iadd hx hb dX10_input_31 ?_
      obtain ⟨I32, eI32, h⟩ := lt_s1 h
      refine s_I (C := RX10) (T := TX10) (N := 49) (ci := 10) (ty := .int) 44 7 eI32 tyX10 hx hb hts hown hK hP hS in_X10 tyX10_ok nmX10 rfl hcb okF_44_7 fl_155 rfl (by decide +kernel) rfl rfl dX10_input_32 (fun H locs hP hS => ?_)
      refine lv_aload_n hx hb dX10_input_35 rfl (lv_at hl 0 rfl) ?_
      refine lv_iconst (v := (0 : Int32)) hx hb dX10_input_36 (by decide) ?_
      refine lv_iconst (v := (-1 : Int32)) hx hb dX10_input_37 (by decide) ?_
      refine lv_iconst (v := (-1 : Int32)) hx hb dX10_input_38 (by decide) ?_
      obtain ⟨r39, er39, h⟩ := bd_s1 h
      refine c_VI (k := 44) (ci := 10) (As := [.int (0 : Int32), .int (-1 : Int32), .int (-1 : Int32)]) (rest := []) hx hb hml hown hts hK hN hL hP hS (cX10_adds_ l bs D y hcb n (0 : Int32) (-1 : Int32) (-1 : Int32) I32 J r39 er39) ok_X10_adds ov_X10_adds ml_119 ⟨Nat.le_of_ble_eq_true rfl, Nat.le_of_ble_eq_true rfl⟩ rfl hcb kd_44 hl.1 rfl rfl (Nat.le_of_ble_eq_true rfl) ⟨Nat.zero_le _, Nat.zero_le _⟩ dX10_input_39 (fun H locs hP hS => ?_)
      exact r_I hx hb hr hlocks hP hK hN hL hS h dX10_input_42
    · replace h := if_t c15 h
      exact wX10_input_18 bs D y n  r Gc   I J _ _ _ hP hS (lv_sub hl [0] rfl) h
theorem dX10_keeper_0 : decode cX10_keeper 0 = .ok (.aload_n 0, 1) := by decide +kernel
theorem dX10_keeper_1 : decode cX10_keeper 1 = .ok (.getfield 123, 3) := by decide +kernel
theorem dX10_keeper_4 : decode cX10_keeper 4 = .ok (.bipush 32, 2) := by decide +kernel
theorem dX10_keeper_6 : decode cX10_keeper 6 = .ok (.if_icmp .eq 12, 3) := by decide +kernel
theorem dX10_keeper_9 : decode cX10_keeper 9 = .ok (.aload_n 0, 1) := by decide +kernel
theorem dX10_keeper_10 : decode cX10_keeper 10 = .ok (.getfield 159, 3) := by decide +kernel
theorem dX10_keeper_13 : decode cX10_keeper 13 = .ok (.bipush 6, 2) := by decide +kernel
theorem dX10_keeper_15 : decode cX10_keeper 15 = .ok (.if_icmp .ne 10, 3) := by decide +kernel
theorem dX10_keeper_18 : decode cX10_keeper 18 = .ok (.aload_n 0, 1) := by decide +kernel
theorem dX10_keeper_19 : decode cX10_keeper 19 = .ok (.bipush (-8), 2) := by decide +kernel
theorem dX10_keeper_21 : decode cX10_keeper 21 = .ok (.invokevirtual 151, 3) := by decide +kernel
theorem dX10_keeper_24 : decode cX10_keeper 24 = .ok (.ireturn, 1) := by decide +kernel
theorem dX10_keeper_25 : decode cX10_keeper 25 = .ok (.aload_n 0, 1) := by decide +kernel
theorem dX10_keeper_26 : decode cX10_keeper 26 = .ok (.dup, 1) := by decide +kernel
theorem dX10_keeper_27 : decode cX10_keeper 27 = .ok (.getfield 159, 3) := by decide +kernel
theorem dX10_keeper_30 : decode cX10_keeper 30 = .ok (.iconst 1, 1) := by decide +kernel
theorem dX10_keeper_31 : decode cX10_keeper 31 = .ok (.iadd, 1) := by decide +kernel
theorem dX10_keeper_32 : decode cX10_keeper 32 = .ok (.putfield 159, 3) := by decide +kernel
theorem dX10_keeper_35 : decode cX10_keeper 35 = .ok (.aload_n 0, 1) := by decide +kernel
theorem dX10_keeper_36 : decode cX10_keeper 36 = .ok (.getfield 22, 3) := by decide +kernel
theorem dX10_keeper_39 : decode cX10_keeper 39 = .ok (.aload_n 0, 1) := by decide +kernel
theorem dX10_keeper_40 : decode cX10_keeper 40 = .ok (.getfield 123, 3) := by decide +kernel
theorem dX10_keeper_43 : decode cX10_keeper 43 = .ok (.iload_n 1, 1) := by decide +kernel
theorem dX10_keeper_44 : decode cX10_keeper 44 = .ok (.bastore, 1) := by decide +kernel
theorem dX10_keeper_45 : decode cX10_keeper 45 = .ok (.aload_n 0, 1) := by decide +kernel
theorem dX10_keeper_46 : decode cX10_keeper 46 = .ok (.iconst 1, 1) := by decide +kernel
theorem dX10_keeper_47 : decode cX10_keeper 47 = .ok (.aload_n 0, 1) := by decide +kernel
theorem dX10_keeper_48 : decode cX10_keeper 48 = .ok (.getfield 123, 3) := by decide +kernel
theorem dX10_keeper_51 : decode cX10_keeper 51 = .ok (.iconst (-1), 1) := by decide +kernel
theorem dX10_keeper_52 : decode cX10_keeper 52 = .ok (.invokevirtual 155, 3) := by decide +kernel
theorem dX10_keeper_55 : decode cX10_keeper 55 = .ok (.ireturn, 1) := by decide +kernel
set_option maxHeartbeats 4000000 in
set_option maxRecDepth 100000 in
theorem wX10_keeper_18 {p : Program} {l : Launch} {e : Env} {s : State} {m : MethodId} {args : Array Value} {below : List Frame} {meth : Method} {c : Code} (bs : Nat) (D : va_G) (y : Y3) (n : Nat) (r : Int32 × M2) (Gc : Gx p s m args meth c cX10_keeper 2 RX10 bs D y (some .int) 76)  (I : MI) (J : MJ) (H : Heap) (locs : List Loc) (ls : Array Slot) (hP : va_P D vwCl (wl bs y I J) H) (hS : va_S (FA bs) s.heap H locs) (hl : lv_has ls 2 [(0, .ref (bs + 44))]) (h : fX10_keeper_18 n   I J = some r) : W p l e (rmm 3 65) s m args below meth c H locs 0 0 (QI below args s bs D y r) (F0 m 18 ls []) := by
  obtain ⟨hx, hb, hml, hown, hts, hK, hN, hL, hr, hlocks, hcb⟩ := id Gc
  unfold fX10_keeper_18 at h
  refine lv_aload_n hx hb dX10_keeper_18 rfl (lv_at hl 0 rfl) ?_
  refine lv_bipush (v := (-8 : Int32)) hx hb dX10_keeper_19 (by decide) ?_
  obtain ⟨r21, er21, h⟩ := bd_s1 h
  refine c_VI (k := 44) (ci := 10) (As := [.int (-8 : Int32)]) (rest := []) hx hb hml hown hts hK hN hL hP hS (cX10_no_ l bs D y hcb n (-8 : Int32) I J r21 er21) ok_X10_no ov_X10_no ml_118 ⟨Nat.le_of_ble_eq_true rfl, Nat.le_of_ble_eq_true rfl⟩ rfl hcb kd_44 hl.1 rfl rfl (Nat.le_of_ble_eq_true rfl) ⟨Nat.zero_le _, Nat.zero_le _⟩ dX10_keeper_21 (fun H locs hP hS => ?_)
  exact r_I hx hb hr hlocks hP hK hN hL hS h dX10_keeper_24
set_option maxHeartbeats 4000000 in
set_option maxRecDepth 100000 in
theorem cX10_keeper_ (l : Launch) (bs : Nat) (D : va_G) (y : Y3) (hcb : 76 ≤ y.2.2.2) (n : Nat) (x1 : Int32) (I : MI) (J : MJ) (r : Int32 × M2) (h : fX10_keeper n x1 I J = some r) : Met l yX10_keeper (.code yX10_keeper cX10_keeper 2 (some .int) :: gtb) (rmm 3 65) (va_Pc [.ref (bs + 44), .int x1] (HB bs D y I J)) (QcI bs D y r) 0 0 (FA bs) := by
  refine Met.ofW (cc := cX10_keeper) (maxL := 2) (ret := (some .int)) (by decide) rfl ?_
  intro p e s m args below meth c s₁ B hml hv
  obtain ⟨rfl, hP, hK, hN, hL⟩ := hv
  have hx := B.exec
  have hb := B.bytes
  have hr := B.returns
  have hts0 := atoms_spec (ws := .code yX10_keeper cX10_keeper 2 (some .int) :: gtb) B.pre
  have hts : ∀ w ∈ gtb, w.before [.ref (bs + 44), .int x1].toArray s = true := fun w hw => hts0 w (List.mem_cons_of_mem _ hw)
  have hown : s.vm.findClass RX10 = some m.cls := findClass_of_methodNamed B.named
  have hlocks := B.notSynchronized
  have hS : va_S (FA bs) s.heap s.heap [] := va_S.rf
  have Gc : Gx p s m [.ref (bs + 44), .int x1].toArray meth c cX10_keeper 2 RX10 bs D y (some .int) 76 := ⟨hx, hb, hml, hown, hts, hK, hN, hL, hr, hlocks, hcb⟩
  have hl := lv_entry [.ref (bs + 44), .int x1] (n := 2) (Nat.le_of_ble_eq_true rfl)
  rw [lg_entry_eq]
  generalize (lg_sl [.ref (bs + 44), .int x1] ++ List.replicate (2 - (lg_sl [.ref (bs + 44), .int x1]).length) Slot.unset).toArray = ls at hl ⊢
  have hl : lv_has ls 2 [(0, .ref (bs + 44)), (1, .int x1)] := hl
  change W p l e (rmm 3 65) s m [.ref (bs + 44), .int x1].toArray below meth c s.heap [] 0 0 (QI below [.ref (bs + 44), .int x1].toArray s bs D y r) (F0 m 0 ls [])
  unfold fX10_keeper at h
  refine lv_aload_n hx hb dX10_keeper_0 rfl (lv_at hl 0 rfl) ?_
  refine g_I (C := RX10) (T := TX10) (N := 49) (ci := 10) 44 6 hx hb hts hown hK hP in_X10 rfl hcb okF_44_6 fl_141 dX10_keeper_1 ?_
  refine lv_bipush (v := (32 : Int32)) hx hb dX10_keeper_4 (by decide) ?_
  refine lv_icmp_eq (tgt := 18) hx hb dX10_keeper_6 (by decide) (fun c6 => ?_) (fun c6 => ?_)
  · replace h := if_t c6 h
    exact wX10_keeper_18 bs D y n  r Gc   I J _ _ _ hP hS (lv_sub hl [0] rfl) h
  · replace h := if_f c6 h
    refine lv_aload_n hx hb dX10_keeper_9 rfl (lv_at hl 0 rfl) ?_
    refine g_I (C := RX10) (T := TX10) (N := 49) (ci := 10) 44 8 hx hb hts hown hK hP in_X10 rfl hcb okF_44_8 fl_156 dX10_keeper_10 ?_
    refine lv_bipush (v := (6 : Int32)) hx hb dX10_keeper_13 (by decide) ?_
    refine lv_icmp_ne (tgt := 25) hx hb dX10_keeper_15 (by decide) (fun c15 => ?_) (fun c15 => ?_)
    · replace h := if_f c15 h
      refine lv_aload_n hx hb dX10_keeper_25 rfl (lv_at hl 0 rfl) ?_
      refine lv_dup hx hb dX10_keeper_26 rfl ?_
      refine g_I (C := RX10) (T := TX10) (N := 49) (ci := 10) 44 8 hx hb hts hown hK hP in_X10 rfl hcb okF_44_8 fl_156 dX10_keeper_27 ?_
      refine lv_iconst (v := (1 : Int32)) hx hb dX10_keeper_30 (by decide) ?_
      refine lv_iadd hx hb dX10_keeper_31 ?_
      obtain ⟨I32, eI32, h⟩ := lt_s1 h
      refine s_I (C := RX10) (T := TX10) (N := 49) (ci := 10) (ty := .int) 44 8 eI32 tyX10 hx hb hts hown hK hP hS in_X10 tyX10_ok nmX10 rfl hcb okF_44_8 fl_156 rfl (by decide +kernel) rfl rfl dX10_keeper_32 (fun H locs hP hS => ?_)
      refine lv_aload_n hx hb dX10_keeper_35 rfl (lv_at hl 0 rfl) ?_
      refine g_R (C := RX10) (T := TX10) (N := 49) (ci := 10) 44 4 49 hx hb hts hown hK hP in_X10 rfl hcb okF_44_4 rfc_44_4 fl_147 dX10_keeper_36 ?_
      refine lv_aload_n hx hb dX10_keeper_39 rfl (lv_at hl 0 rfl) ?_
      refine g_I (C := RX10) (T := TX10) (N := 49) (ci := 10) 44 6 hx hb hts hown hK hP in_X10 rfl hcb okF_44_6 fl_141 dX10_keeper_40 ?_
      refine lv_iload_n hx hb dX10_keeper_43 rfl (lv_at hl 1 rfl) ?_
      obtain ⟨hi44, h⟩ := if_s1 h
      obtain ⟨I44, eI44, h⟩ := lt_s1 h
      refine t_Z 49 eI44 hx hb hK hP hS hcb alZ_49 hi44 dX10_keeper_44 (fun H locs hP hS => ?_)
      refine lv_aload_n hx hb dX10_keeper_45 rfl (lv_at hl 0 rfl) ?_
      refine lv_iconst (v := (1 : Int32)) hx hb dX10_keeper_46 (by decide) ?_
      refine lv_aload_n hx hb dX10_keeper_47 rfl (lv_at hl 0 rfl) ?_
      refine g_I (C := RX10) (T := TX10) (N := 49) (ci := 10) 44 6 hx hb hts hown hK hP in_X10 rfl hcb okF_44_6 fl_141 dX10_keeper_48 ?_
      refine lv_iconst (v := (-1 : Int32)) hx hb dX10_keeper_51 (by decide) ?_
      obtain ⟨r52, er52, h⟩ := bd_s1 h
      refine c_VI (k := 44) (ci := 10) (As := [.int (1 : Int32), .int (I44 44 6), .int (-1 : Int32)]) (rest := []) hx hb hml hown hts hK hN hL hP hS (cX10_adds_ l bs D y hcb n (1 : Int32) (I44 44 6) (-1 : Int32) I44 J r52 er52) ok_X10_adds ov_X10_adds ml_119 ⟨Nat.le_of_ble_eq_true rfl, Nat.le_of_ble_eq_true rfl⟩ rfl hcb kd_44 hl.1 rfl rfl (Nat.le_of_ble_eq_true rfl) ⟨Nat.zero_le _, Nat.zero_le _⟩ dX10_keeper_52 (fun H locs hP hS => ?_)
      exact r_I hx hb hr hlocks hP hK hN hL hS h dX10_keeper_55
    · replace h := if_t c15 h
      exact wX10_keeper_18 bs D y n  r Gc   I J _ _ _ hP hS (lv_sub hl [0] rfl) h
theorem dX10_gate_0 : decode cX10_gate 0 = .ok (.iload_n 1, 1) := by decide +kernel
theorem dX10_gate_1 : decode cX10_gate 1 = .ok (.i2l, 1) := by decide +kernel
theorem dX10_gate_2 : decode cX10_gate 2 = .ok (.lconst 0, 1) := by decide +kernel
theorem dX10_gate_3 : decode cX10_gate 3 = .ok (.ldc2_w 162, 3) := by decide +kernel
theorem dX10_gate_6 : decode cX10_gate 6 = .ok (.invokestatic 164, 3) := by decide +kernel
theorem dX10_gate_9 : decode cX10_gate 9 = .ok (.ifCond .ne 10, 3) := by decide +kernel
theorem dX10_gate_12 : decode cX10_gate 12 = .ok (.aload_n 0, 1) := by decide +kernel
theorem dX10_gate_13 : decode cX10_gate 13 = .ok (.bipush (-7), 2) := by decide +kernel
theorem dX10_gate_15 : decode cX10_gate 15 = .ok (.invokevirtual 151, 3) := by decide +kernel
theorem dX10_gate_18 : decode cX10_gate 18 = .ok (.ireturn, 1) := by decide +kernel
theorem dX10_gate_19 : decode cX10_gate 19 = .ok (.aload_n 0, 1) := by decide +kernel
theorem dX10_gate_20 : decode cX10_gate 20 = .ok (.iload_n 2, 1) := by decide +kernel
theorem dX10_gate_21 : decode cX10_gate 21 = .ok (.invokevirtual 168, 3) := by decide +kernel
theorem dX10_gate_24 : decode cX10_gate 24 = .ok (.ifCond .eq 11, 3) := by decide +kernel
theorem dX10_gate_27 : decode cX10_gate 27 = .ok (.aload_n 0, 1) := by decide +kernel
theorem dX10_gate_28 : decode cX10_gate 28 = .ok (.iload_n 3, 1) := by decide +kernel
theorem dX10_gate_29 : decode cX10_gate 29 = .ok (.invokevirtual 168, 3) := by decide +kernel
theorem dX10_gate_32 : decode cX10_gate 32 = .ok (.ifCond .ne 10, 3) := by decide +kernel
theorem dX10_gate_35 : decode cX10_gate 35 = .ok (.aload_n 0, 1) := by decide +kernel
theorem dX10_gate_36 : decode cX10_gate 36 = .ok (.bipush (-3), 2) := by decide +kernel
theorem dX10_gate_38 : decode cX10_gate 38 = .ok (.invokevirtual 151, 3) := by decide +kernel
theorem dX10_gate_41 : decode cX10_gate 41 = .ok (.ireturn, 1) := by decide +kernel
theorem dX10_gate_42 : decode cX10_gate 42 = .ok (.aload_n 0, 1) := by decide +kernel
theorem dX10_gate_43 : decode cX10_gate 43 = .ok (.getfield 123, 3) := by decide +kernel
theorem dX10_gate_46 : decode cX10_gate 46 = .ok (.bipush 32, 2) := by decide +kernel
theorem dX10_gate_48 : decode cX10_gate 48 = .ok (.if_icmp .ne 10, 3) := by decide +kernel
theorem dX10_gate_51 : decode cX10_gate 51 = .ok (.aload_n 0, 1) := by decide +kernel
theorem dX10_gate_52 : decode cX10_gate 52 = .ok (.bipush (-8), 2) := by decide +kernel
theorem dX10_gate_54 : decode cX10_gate 54 = .ok (.invokevirtual 151, 3) := by decide +kernel
theorem dX10_gate_57 : decode cX10_gate 57 = .ok (.ireturn, 1) := by decide +kernel
theorem dX10_gate_58 : decode cX10_gate 58 = .ok (.aload_n 0, 1) := by decide +kernel
theorem dX10_gate_59 : decode cX10_gate 59 = .ok (.getfield 19, 3) := by decide +kernel
theorem dX10_gate_62 : decode cX10_gate 62 = .ok (.aload_n 0, 1) := by decide +kernel
theorem dX10_gate_63 : decode cX10_gate 63 = .ok (.getfield 123, 3) := by decide +kernel
theorem dX10_gate_66 : decode cX10_gate 66 = .ok (.iload_n 1, 1) := by decide +kernel
theorem dX10_gate_67 : decode cX10_gate 67 = .ok (.iastore, 1) := by decide +kernel
theorem dX10_gate_68 : decode cX10_gate 68 = .ok (.aload_n 0, 1) := by decide +kernel
theorem dX10_gate_69 : decode cX10_gate 69 = .ok (.iconst 2, 1) := by decide +kernel
theorem dX10_gate_70 : decode cX10_gate 70 = .ok (.iload_n 2, 1) := by decide +kernel
theorem dX10_gate_71 : decode cX10_gate 71 = .ok (.iload_n 3, 1) := by decide +kernel
theorem dX10_gate_72 : decode cX10_gate 72 = .ok (.invokevirtual 155, 3) := by decide +kernel
theorem dX10_gate_75 : decode cX10_gate 75 = .ok (.ireturn, 1) := by decide +kernel
set_option maxHeartbeats 4000000 in
set_option maxRecDepth 100000 in
theorem wX10_gate_35 {p : Program} {l : Launch} {e : Env} {s : State} {m : MethodId} {args : Array Value} {below : List Frame} {meth : Method} {c : Code} (bs : Nat) (D : va_G) (y : Y3) (n : Nat) (r : Int32 × M2) (Gc : Gx p s m args meth c cX10_gate 4 RX10 bs D y (some .int) 76)  (I : MI) (J : MJ) (H : Heap) (locs : List Loc) (ls : Array Slot) (hP : va_P D vwCl (wl bs y I J) H) (hS : va_S (FA bs) s.heap H locs) (hl : lv_has ls 4 [(0, .ref (bs + 44))]) (h : fX10_gate_35 n   I J = some r) : W p l e (rmm 3 65) s m args below meth c H locs 0 0 (QI below args s bs D y r) (F0 m 35 ls []) := by
  obtain ⟨hx, hb, hml, hown, hts, hK, hN, hL, hr, hlocks, hcb⟩ := id Gc
  unfold fX10_gate_35 at h
  refine lv_aload_n hx hb dX10_gate_35 rfl (lv_at hl 0 rfl) ?_
  refine lv_bipush (v := (-3 : Int32)) hx hb dX10_gate_36 (by decide) ?_
  obtain ⟨r38, er38, h⟩ := bd_s1 h
  refine c_VI (k := 44) (ci := 10) (As := [.int (-3 : Int32)]) (rest := []) hx hb hml hown hts hK hN hL hP hS (cX10_no_ l bs D y hcb n (-3 : Int32) I J r38 er38) ok_X10_no ov_X10_no ml_118 ⟨Nat.le_of_ble_eq_true rfl, Nat.le_of_ble_eq_true rfl⟩ rfl hcb kd_44 hl.1 rfl rfl (Nat.le_of_ble_eq_true rfl) ⟨Nat.zero_le _, Nat.zero_le _⟩ dX10_gate_38 (fun H locs hP hS => ?_)
  exact r_I hx hb hr hlocks hP hK hN hL hS h dX10_gate_41
set_option maxHeartbeats 4000000 in
set_option maxRecDepth 100000 in
theorem cX10_gate_ (l : Launch) (bs : Nat) (D : va_G) (y : Y3) (hcb : 76 ≤ y.2.2.2) (n : Nat) (x1 : Int32) (x2 : Int32) (x3 : Int32) (I : MI) (J : MJ) (r : Int32 × M2) (h : fX10_gate n x1 x2 x3 I J = some r) : Met l yX10_gate (.code yX10_gate cX10_gate 4 (some .int) :: gtb) (rmm 3 65) (va_Pc [.ref (bs + 44), .int x1, .int x2, .int x3] (HB bs D y I J)) (QcI bs D y r) 0 0 (FA bs) := by
  refine Met.ofW (cc := cX10_gate) (maxL := 4) (ret := (some .int)) (by decide) rfl ?_
  intro p e s m args below meth c s₁ B hml hv
  obtain ⟨rfl, hP, hK, hN, hL⟩ := hv
  have hx := B.exec
  have hb := B.bytes
  have hr := B.returns
  have hts0 := atoms_spec (ws := .code yX10_gate cX10_gate 4 (some .int) :: gtb) B.pre
  have hts : ∀ w ∈ gtb, w.before [.ref (bs + 44), .int x1, .int x2, .int x3].toArray s = true := fun w hw => hts0 w (List.mem_cons_of_mem _ hw)
  have hown : s.vm.findClass RX10 = some m.cls := findClass_of_methodNamed B.named
  have hlocks := B.notSynchronized
  have hS : va_S (FA bs) s.heap s.heap [] := va_S.rf
  have Gc : Gx p s m [.ref (bs + 44), .int x1, .int x2, .int x3].toArray meth c cX10_gate 4 RX10 bs D y (some .int) 76 := ⟨hx, hb, hml, hown, hts, hK, hN, hL, hr, hlocks, hcb⟩
  have hl := lv_entry [.ref (bs + 44), .int x1, .int x2, .int x3] (n := 4) (Nat.le_of_ble_eq_true rfl)
  rw [lg_entry_eq]
  generalize (lg_sl [.ref (bs + 44), .int x1, .int x2, .int x3] ++ List.replicate (4 - (lg_sl [.ref (bs + 44), .int x1, .int x2, .int x3]).length) Slot.unset).toArray = ls at hl ⊢
  have hl : lv_has ls 4 [(0, .ref (bs + 44)), (1, .int x1), (2, .int x2), (3, .int x3)] := hl
  change W p l e (rmm 3 65) s m [.ref (bs + 44), .int x1, .int x2, .int x3].toArray below meth c s.heap [] 0 0 (QI below [.ref (bs + 44), .int x1, .int x2, .int x3].toArray s bs D y r) (F0 m 0 ls [])
  unfold fX10_gate at h
  refine lv_iload_n hx hb dX10_gate_0 rfl (lv_at hl 1 rfl) ?_
  refine lv_i2l (v := (x1).toInt64) hx hb dX10_gate_1 rfl ?_
  refine lv_lconst (v := (0 : Int64)) hx hb dX10_gate_2 (by decide) ?_
  refine lv_ldc2 hx hb hown (hts _ cl_9) dX10_gate_3 ?_
  obtain ⟨r6, er6, h⟩ := bd_s1 h
  refine c_SI (As := [.long (x1).toInt64, .long (0 : Int64), .long (2 : Int64)]) (rest := []) hx hb hml hown hts hK hN hL hP hS (cX10_isIn_ l bs D y hcb n (x1).toInt64 (0 : Int64) (2 : Int64) I J r6 er6) ok_X10_isIn ov_X10_isIn ml_120 ⟨Nat.le_of_ble_eq_true rfl, Nat.le_of_ble_eq_true rfl⟩ hl.1 rfl rfl (Nat.le_of_ble_eq_true rfl) ⟨Nat.zero_le _, Nat.zero_le _⟩ dX10_gate_6 (fun H locs hP hS => ?_)
  refine lv_if_ne (tgt := 19) hx hb dX10_gate_9 (by decide) (fun c9 => ?_) (fun c9 => ?_)
  · replace h := if_f c9 h
    refine lv_aload_n hx hb dX10_gate_19 rfl (lv_at hl 0 rfl) ?_
    refine lv_iload_n hx hb dX10_gate_20 rfl (lv_at hl 2 rfl) ?_
    obtain ⟨r21, er21, h⟩ := bd_s1 h
    refine c_VI (k := 44) (ci := 10) (As := [.int x2]) (rest := []) hx hb hml hown hts hK hN hL hP hS (cX10_isSign_ l bs D y hcb n x2 r6.2.1 r6.2.2 r21 er21) ok_X10_isSign ov_X10_isSign ml_121 ⟨Nat.le_of_ble_eq_true rfl, Nat.le_of_ble_eq_true rfl⟩ rfl hcb kd_44 hl.1 rfl rfl (Nat.le_of_ble_eq_true rfl) ⟨Nat.zero_le _, Nat.zero_le _⟩ dX10_gate_21 (fun H locs hP hS => ?_)
    refine lv_if_eq (tgt := 35) hx hb dX10_gate_24 (by decide) (fun c24 => ?_) (fun c24 => ?_)
    · replace h := if_t c24 h
      exact wX10_gate_35 bs D y n  r Gc   r21.2.1 r21.2.2 _ _ _ hP hS (lv_sub hl [0] rfl) h
    · replace h := if_f c24 h
      refine lv_aload_n hx hb dX10_gate_27 rfl (lv_at hl 0 rfl) ?_
      refine lv_iload_n hx hb dX10_gate_28 rfl (lv_at hl 3 rfl) ?_
      obtain ⟨r29, er29, h⟩ := bd_s1 h
      refine c_VI (k := 44) (ci := 10) (As := [.int x3]) (rest := []) hx hb hml hown hts hK hN hL hP hS (cX10_isSign_ l bs D y hcb n x3 r21.2.1 r21.2.2 r29 er29) ok_X10_isSign ov_X10_isSign ml_121 ⟨Nat.le_of_ble_eq_true rfl, Nat.le_of_ble_eq_true rfl⟩ rfl hcb kd_44 hl.1 rfl rfl (Nat.le_of_ble_eq_true rfl) ⟨Nat.zero_le _, Nat.zero_le _⟩ dX10_gate_29 (fun H locs hP hS => ?_)
      refine lv_if_ne (tgt := 42) hx hb dX10_gate_32 (by decide) (fun c32 => ?_) (fun c32 => ?_)
      · replace h := if_f c32 h
        refine lv_aload_n hx hb dX10_gate_42 rfl (lv_at hl 0 rfl) ?_
        refine g_I (C := RX10) (T := TX10) (N := 49) (ci := 10) 44 6 hx hb hts hown hK hP in_X10 rfl hcb okF_44_6 fl_141 dX10_gate_43 ?_
        refine lv_bipush (v := (32 : Int32)) hx hb dX10_gate_46 (by decide) ?_
        refine lv_icmp_ne (tgt := 58) hx hb dX10_gate_48 (by decide) (fun c48 => ?_) (fun c48 => ?_)
        · replace h := if_f c48 h
          refine lv_aload_n hx hb dX10_gate_58 rfl (lv_at hl 0 rfl) ?_
          refine g_R (C := RX10) (T := TX10) (N := 49) (ci := 10) 44 3 48 hx hb hts hown hK hP in_X10 rfl hcb okF_44_3 rfc_44_3 fl_157 dX10_gate_59 ?_
          refine lv_aload_n hx hb dX10_gate_62 rfl (lv_at hl 0 rfl) ?_
          refine g_I (C := RX10) (T := TX10) (N := 49) (ci := 10) 44 6 hx hb hts hown hK hP in_X10 rfl hcb okF_44_6 fl_141 dX10_gate_63 ?_
          refine lv_iload_n hx hb dX10_gate_66 rfl (lv_at hl 1 rfl) ?_
          obtain ⟨hi67, h⟩ := if_s1 h
          obtain ⟨I67, eI67, h⟩ := lt_s1 h
          refine t_I 48 eI67 hx hb hK hP hS hcb aln_48 hi67 dX10_gate_67 (fun H locs hP hS => ?_)
          refine lv_aload_n hx hb dX10_gate_68 rfl (lv_at hl 0 rfl) ?_
          refine lv_iconst (v := (2 : Int32)) hx hb dX10_gate_69 (by decide) ?_
          refine lv_iload_n hx hb dX10_gate_70 rfl (lv_at hl 2 rfl) ?_
          refine lv_iload_n hx hb dX10_gate_71 rfl (lv_at hl 3 rfl) ?_
          obtain ⟨r72, er72, h⟩ := bd_s1 h
          refine c_VI (k := 44) (ci := 10) (As := [.int (2 : Int32), .int x2, .int x3]) (rest := []) hx hb hml hown hts hK hN hL hP hS (cX10_adds_ l bs D y hcb n (2 : Int32) x2 x3 I67 r29.2.2 r72 er72) ok_X10_adds ov_X10_adds ml_119 ⟨Nat.le_of_ble_eq_true rfl, Nat.le_of_ble_eq_true rfl⟩ rfl hcb kd_44 hl.1 rfl rfl (Nat.le_of_ble_eq_true rfl) ⟨Nat.zero_le _, Nat.zero_le _⟩ dX10_gate_72 (fun H locs hP hS => ?_)
          exact r_I hx hb hr hlocks hP hK hN hL hS h dX10_gate_75
        · replace h := if_t c48 h
          refine lv_aload_n hx hb dX10_gate_51 rfl (lv_at hl 0 rfl) ?_
          refine lv_bipush (v := (-8 : Int32)) hx hb dX10_gate_52 (by decide) ?_
          obtain ⟨r54, er54, h⟩ := bd_s1 h
          refine c_VI (k := 44) (ci := 10) (As := [.int (-8 : Int32)]) (rest := []) hx hb hml hown hts hK hN hL hP hS (cX10_no_ l bs D y hcb n (-8 : Int32) r29.2.1 r29.2.2 r54 er54) ok_X10_no ov_X10_no ml_118 ⟨Nat.le_of_ble_eq_true rfl, Nat.le_of_ble_eq_true rfl⟩ rfl hcb kd_44 hl.1 rfl rfl (Nat.le_of_ble_eq_true rfl) ⟨Nat.zero_le _, Nat.zero_le _⟩ dX10_gate_54 (fun H locs hP hS => ?_)
          exact r_I hx hb hr hlocks hP hK hN hL hS h dX10_gate_57
      · replace h := if_t c32 h
        exact wX10_gate_35 bs D y n  r Gc   r29.2.1 r29.2.2 _ _ _ hP hS (lv_sub hl [0] rfl) h
  · replace h := if_t c9 h
    refine lv_aload_n hx hb dX10_gate_12 rfl (lv_at hl 0 rfl) ?_
    refine lv_bipush (v := (-7 : Int32)) hx hb dX10_gate_13 (by decide) ?_
    obtain ⟨r15, er15, h⟩ := bd_s1 h
    refine c_VI (k := 44) (ci := 10) (As := [.int (-7 : Int32)]) (rest := []) hx hb hml hown hts hK hN hL hP hS (cX10_no_ l bs D y hcb n (-7 : Int32) r6.2.1 r6.2.2 r15 er15) ok_X10_no ov_X10_no ml_118 ⟨Nat.le_of_ble_eq_true rfl, Nat.le_of_ble_eq_true rfl⟩ rfl hcb kd_44 hl.1 rfl rfl (Nat.le_of_ble_eq_true rfl) ⟨Nat.zero_le _, Nat.zero_le _⟩ dX10_gate_15 (fun H locs hP hS => ?_)
    exact r_I hx hb hr hlocks hP hK hN hL hS h dX10_gate_18
theorem dX10_source_0 : decode cX10_source 0 = .ok (.aload_n 0, 1) := by decide +kernel
theorem dX10_source_1 : decode cX10_source 1 = .ok (.iload_n 1, 1) := by decide +kernel
theorem dX10_source_2 : decode cX10_source 2 = .ok (.invokevirtual 172, 3) := by decide +kernel
theorem dX10_source_5 : decode cX10_source 5 = .ok (.ifCond .eq 11, 3) := by decide +kernel
theorem dX10_source_8 : decode cX10_source 8 = .ok (.aload_n 0, 1) := by decide +kernel
theorem dX10_source_9 : decode cX10_source 9 = .ok (.iload_n 2, 1) := by decide +kernel
theorem dX10_source_10 : decode cX10_source 10 = .ok (.invokevirtual 172, 3) := by decide +kernel
theorem dX10_source_13 : decode cX10_source 13 = .ok (.ifCond .ne 10, 3) := by decide +kernel
theorem dX10_source_16 : decode cX10_source 16 = .ok (.aload_n 0, 1) := by decide +kernel
theorem dX10_source_17 : decode cX10_source 17 = .ok (.bipush (-3), 2) := by decide +kernel
theorem dX10_source_19 : decode cX10_source 19 = .ok (.invokevirtual 151, 3) := by decide +kernel
theorem dX10_source_22 : decode cX10_source 22 = .ok (.ireturn, 1) := by decide +kernel
theorem dX10_source_23 : decode cX10_source 23 = .ok (.aload_n 0, 1) := by decide +kernel
theorem dX10_source_24 : decode cX10_source 24 = .ok (.getfield 7, 3) := by decide +kernel
theorem dX10_source_27 : decode cX10_source 27 = .ok (.iload_n 1, 1) := by decide +kernel
theorem dX10_source_28 : decode cX10_source 28 = .ok (.iaload, 1) := by decide +kernel
theorem dX10_source_29 : decode cX10_source 29 = .ok (.iconst 1, 1) := by decide +kernel
theorem dX10_source_30 : decode cX10_source 30 = .ok (.if_icmp .eq 10, 3) := by decide +kernel
theorem dX10_source_33 : decode cX10_source 33 = .ok (.aload_n 0, 1) := by decide +kernel
theorem dX10_source_34 : decode cX10_source 34 = .ok (.bipush (-5), 2) := by decide +kernel
theorem dX10_source_36 : decode cX10_source 36 = .ok (.invokevirtual 151, 3) := by decide +kernel
theorem dX10_source_39 : decode cX10_source 39 = .ok (.ireturn, 1) := by decide +kernel
theorem dX10_source_40 : decode cX10_source 40 = .ok (.aload_n 0, 1) := by decide +kernel
theorem dX10_source_41 : decode cX10_source 41 = .ok (.getfield 13, 3) := by decide +kernel
theorem dX10_source_44 : decode cX10_source 44 = .ok (.iload_n 1, 1) := by decide +kernel
theorem dX10_source_45 : decode cX10_source 45 = .ok (.iaload, 1) := by decide +kernel
theorem dX10_source_46 : decode cX10_source 46 = .ok (.istore_n 3, 1) := by decide +kernel
theorem dX10_source_47 : decode cX10_source 47 = .ok (.aload_n 0, 1) := by decide +kernel
theorem dX10_source_48 : decode cX10_source 48 = .ok (.getfield 13, 3) := by decide +kernel
theorem dX10_source_51 : decode cX10_source 51 = .ok (.iload_n 1, 1) := by decide +kernel
theorem dX10_source_52 : decode cX10_source 52 = .ok (.iload_n 2, 1) := by decide +kernel
theorem dX10_source_53 : decode cX10_source 53 = .ok (.iastore, 1) := by decide +kernel
theorem dX10_source_54 : decode cX10_source 54 = .ok (.aload_n 0, 1) := by decide +kernel
theorem dX10_source_55 : decode cX10_source 55 = .ok (.invokevirtual 145, 3) := by decide +kernel
theorem dX10_source_58 : decode cX10_source 58 = .ok (.iload_n 3, 1) := by decide +kernel
theorem dX10_source_59 : decode cX10_source 59 = .ok (.ireturn, 1) := by decide +kernel
set_option maxHeartbeats 4000000 in
set_option maxRecDepth 100000 in
theorem wX10_source_16 {p : Program} {l : Launch} {e : Env} {s : State} {m : MethodId} {args : Array Value} {below : List Frame} {meth : Method} {c : Code} (bs : Nat) (D : va_G) (y : Y3) (n : Nat) (r : Int32 × M2) (Gc : Gx p s m args meth c cX10_source 4 RX10 bs D y (some .int) 76)  (I : MI) (J : MJ) (H : Heap) (locs : List Loc) (ls : Array Slot) (hP : va_P D vwCl (wl bs y I J) H) (hS : va_S (FA bs) s.heap H locs) (hl : lv_has ls 4 [(0, .ref (bs + 44))]) (h : fX10_source_16 n   I J = some r) : W p l e (rmm 2 41) s m args below meth c H locs 0 0 (QI below args s bs D y r) (F0 m 16 ls []) := by
  obtain ⟨hx, hb, hml, hown, hts, hK, hN, hL, hr, hlocks, hcb⟩ := id Gc
  unfold fX10_source_16 at h
  refine lv_aload_n hx hb dX10_source_16 rfl (lv_at hl 0 rfl) ?_
  refine lv_bipush (v := (-3 : Int32)) hx hb dX10_source_17 (by decide) ?_
  obtain ⟨r19, er19, h⟩ := bd_s1 h
  refine c_VI (k := 44) (ci := 10) (As := [.int (-3 : Int32)]) (rest := []) hx hb hml hown hts hK hN hL hP hS (cX10_no_ l bs D y hcb n (-3 : Int32) I J r19 er19) ok_X10_no ov_X10_no ml_118 ⟨Nat.le_of_ble_eq_true rfl, Nat.le_of_ble_eq_true rfl⟩ rfl hcb kd_44 hl.1 rfl rfl (Nat.le_of_ble_eq_true rfl) ⟨Nat.zero_le _, Nat.zero_le _⟩ dX10_source_19 (fun H locs hP hS => ?_)
  exact r_I hx hb hr hlocks hP hK hN hL hS h dX10_source_22
set_option maxHeartbeats 4000000 in
set_option maxRecDepth 100000 in
theorem cX10_source_ (l : Launch) (bs : Nat) (D : va_G) (y : Y3) (hcb : 76 ≤ y.2.2.2) (n : Nat) (x1 : Int32) (x2 : Int32) (I : MI) (J : MJ) (r : Int32 × M2) (h : fX10_source n x1 x2 I J = some r) : Met l yX10_source (.code yX10_source cX10_source 4 (some .int) :: gtb) (rmm 2 41) (va_Pc [.ref (bs + 44), .int x1, .int x2] (HB bs D y I J)) (QcI bs D y r) 0 0 (FA bs) := by
  refine Met.ofW (cc := cX10_source) (maxL := 4) (ret := (some .int)) (by decide) rfl ?_
  intro p e s m args below meth c s₁ B hml hv
  obtain ⟨rfl, hP, hK, hN, hL⟩ := hv
  have hx := B.exec
  have hb := B.bytes
  have hr := B.returns
  have hts0 := atoms_spec (ws := .code yX10_source cX10_source 4 (some .int) :: gtb) B.pre
  have hts : ∀ w ∈ gtb, w.before [.ref (bs + 44), .int x1, .int x2].toArray s = true := fun w hw => hts0 w (List.mem_cons_of_mem _ hw)
  have hown : s.vm.findClass RX10 = some m.cls := findClass_of_methodNamed B.named
  have hlocks := B.notSynchronized
  have hS : va_S (FA bs) s.heap s.heap [] := va_S.rf
  have Gc : Gx p s m [.ref (bs + 44), .int x1, .int x2].toArray meth c cX10_source 4 RX10 bs D y (some .int) 76 := ⟨hx, hb, hml, hown, hts, hK, hN, hL, hr, hlocks, hcb⟩
  have hl := lv_entry [.ref (bs + 44), .int x1, .int x2] (n := 4) (Nat.le_of_ble_eq_true rfl)
  rw [lg_entry_eq]
  generalize (lg_sl [.ref (bs + 44), .int x1, .int x2] ++ List.replicate (4 - (lg_sl [.ref (bs + 44), .int x1, .int x2]).length) Slot.unset).toArray = ls at hl ⊢
  have hl : lv_has ls 4 [(0, .ref (bs + 44)), (1, .int x1), (2, .int x2)] := hl
  change W p l e (rmm 2 41) s m [.ref (bs + 44), .int x1, .int x2].toArray below meth c s.heap [] 0 0 (QI below [.ref (bs + 44), .int x1, .int x2].toArray s bs D y r) (F0 m 0 ls [])
  unfold fX10_source at h
  refine lv_aload_n hx hb dX10_source_0 rfl (lv_at hl 0 rfl) ?_
  refine lv_iload_n hx hb dX10_source_1 rfl (lv_at hl 1 rfl) ?_
  obtain ⟨r2, er2, h⟩ := bd_s1 h
  refine c_VI (k := 44) (ci := 10) (As := [.int x1]) (rest := []) hx hb hml hown hts hK hN hL hP hS (cX10_isCell_ l bs D y hcb n x1 I J r2 er2) ok_X10_isCell ov_X10_isCell ml_122 ⟨Nat.le_of_ble_eq_true rfl, Nat.le_of_ble_eq_true rfl⟩ rfl hcb kd_44 hl.1 rfl rfl (Nat.le_of_ble_eq_true rfl) ⟨Nat.zero_le _, Nat.zero_le _⟩ dX10_source_2 (fun H locs hP hS => ?_)
  refine lv_if_eq (tgt := 16) hx hb dX10_source_5 (by decide) (fun c5 => ?_) (fun c5 => ?_)
  · replace h := if_t c5 h
    exact wX10_source_16 bs D y n  r Gc   r2.2.1 r2.2.2 _ _ _ hP hS (lv_sub hl [0] rfl) h
  · replace h := if_f c5 h
    refine lv_aload_n hx hb dX10_source_8 rfl (lv_at hl 0 rfl) ?_
    refine lv_iload_n hx hb dX10_source_9 rfl (lv_at hl 2 rfl) ?_
    obtain ⟨r10, er10, h⟩ := bd_s1 h
    refine c_VI (k := 44) (ci := 10) (As := [.int x2]) (rest := []) hx hb hml hown hts hK hN hL hP hS (cX10_isCell_ l bs D y hcb n x2 r2.2.1 r2.2.2 r10 er10) ok_X10_isCell ov_X10_isCell ml_122 ⟨Nat.le_of_ble_eq_true rfl, Nat.le_of_ble_eq_true rfl⟩ rfl hcb kd_44 hl.1 rfl rfl (Nat.le_of_ble_eq_true rfl) ⟨Nat.zero_le _, Nat.zero_le _⟩ dX10_source_10 (fun H locs hP hS => ?_)
    refine lv_if_ne (tgt := 23) hx hb dX10_source_13 (by decide) (fun c13 => ?_) (fun c13 => ?_)
    · replace h := if_f c13 h
      refine lv_aload_n hx hb dX10_source_23 rfl (lv_at hl 0 rfl) ?_
      refine g_R (C := RX10) (T := TX10) (N := 49) (ci := 10) 44 0 45 hx hb hts hown hK hP in_X10 rfl hcb okF_44_0 rfc_44_0 fl_146 dX10_source_24 ?_
      refine lv_iload_n hx hb dX10_source_27 rfl (lv_at hl 1 rfl) ?_
      obtain ⟨hi28, h⟩ := if_s1 h
      refine a_I 45 hx hb hK hP hcb aln_45 hi28 dX10_source_28 ?_
      refine lv_iconst (v := (1 : Int32)) hx hb dX10_source_29 (by decide) ?_
      refine lv_icmp_eq (tgt := 40) hx hb dX10_source_30 (by decide) (fun c30 => ?_) (fun c30 => ?_)
      · replace h := if_t c30 h
        refine lv_aload_n hx hb dX10_source_40 rfl (lv_at hl 0 rfl) ?_
        refine g_R (C := RX10) (T := TX10) (N := 49) (ci := 10) 44 1 46 hx hb hts hown hK hP in_X10 rfl hcb okF_44_1 rfc_44_1 fl_153 dX10_source_41 ?_
        refine lv_iload_n hx hb dX10_source_44 rfl (lv_at hl 1 rfl) ?_
        obtain ⟨hi45, h⟩ := if_s1 h
        refine a_I 46 hx hb hK hP hcb aln_46 hi45 dX10_source_45 ?_
        obtain ⟨v46, ev46, h⟩ := lt_s1 h
        refine top_i ev46 ?_
        refine lv_istore_n (lv' := [(3, .int v46), (0, .ref (bs + 44)), (1, .int x1), (2, .int x2)]) hx hb dX10_source_46 rfl hl (by decide) rfl (fun ls hl => ?_)
        refine lv_aload_n hx hb dX10_source_47 rfl (lv_at hl 1 rfl) ?_
        refine g_R (C := RX10) (T := TX10) (N := 49) (ci := 10) 44 1 46 hx hb hts hown hK hP in_X10 rfl hcb okF_44_1 rfc_44_1 fl_153 dX10_source_48 ?_
        refine lv_iload_n hx hb dX10_source_51 rfl (lv_at hl 2 rfl) ?_
        refine lv_iload_n hx hb dX10_source_52 rfl (lv_at hl 3 rfl) ?_
        obtain ⟨hi53, h⟩ := if_s1 h
        obtain ⟨I53, eI53, h⟩ := lt_s1 h
        refine t_I 46 eI53 hx hb hK hP hS hcb aln_46 hi53 dX10_source_53 (fun H locs hP hS => ?_)
        refine lv_aload_n hx hb dX10_source_54 rfl (lv_at hl 1 rfl) ?_
        obtain ⟨r55, er55, h⟩ := bd_s1 h
        refine c_VV (k := 44) (ci := 10) (As := []) (rest := []) hx hb hml hown hts hK hN hL hP hS (cX10_changes_ l bs D y hcb n  I53 r10.2.2 r55 er55) ok_X10_changes ov_X10_changes ml_117 ⟨Nat.le_of_ble_eq_true rfl, Nat.le_of_ble_eq_true rfl⟩ rfl hcb kd_44 hl.1 rfl rfl (Nat.le_of_ble_eq_true rfl) ⟨Nat.zero_le _, Nat.zero_le _⟩ dX10_source_55 (fun H locs hP hS => ?_)
        refine lv_iload_n hx hb dX10_source_58 rfl (lv_at hl 0 rfl) ?_
        exact r_I hx hb hr hlocks hP hK hN hL hS h dX10_source_59
      · replace h := if_f c30 h
        refine lv_aload_n hx hb dX10_source_33 rfl (lv_at hl 0 rfl) ?_
        refine lv_bipush (v := (-5 : Int32)) hx hb dX10_source_34 (by decide) ?_
        obtain ⟨r36, er36, h⟩ := bd_s1 h
        refine c_VI (k := 44) (ci := 10) (As := [.int (-5 : Int32)]) (rest := []) hx hb hml hown hts hK hN hL hP hS (cX10_no_ l bs D y hcb n (-5 : Int32) r10.2.1 r10.2.2 r36 er36) ok_X10_no ov_X10_no ml_118 ⟨Nat.le_of_ble_eq_true rfl, Nat.le_of_ble_eq_true rfl⟩ rfl hcb kd_44 hl.1 rfl rfl (Nat.le_of_ble_eq_true rfl) ⟨Nat.zero_le _, Nat.zero_le _⟩ dX10_source_36 (fun H locs hP hS => ?_)
        exact r_I hx hb hr hlocks hP hK hN hL hS h dX10_source_39
    · replace h := if_t c13 h
      exact wX10_source_16 bs D y n  r Gc   r10.2.1 r10.2.2 _ _ _ hP hS (lv_sub hl [0] rfl) h
theorem dX10_out_0 : decode cX10_out 0 = .ok (.aload_n 0, 1) := by decide +kernel
theorem dX10_out_1 : decode cX10_out 1 = .ok (.iload_n 1, 1) := by decide +kernel
theorem dX10_out_2 : decode cX10_out 2 = .ok (.invokevirtual 172, 3) := by decide +kernel
theorem dX10_out_5 : decode cX10_out 5 = .ok (.ifCond .ne 10, 3) := by decide +kernel
theorem dX10_out_8 : decode cX10_out 8 = .ok (.aload_n 0, 1) := by decide +kernel
theorem dX10_out_9 : decode cX10_out 9 = .ok (.bipush (-3), 2) := by decide +kernel
theorem dX10_out_11 : decode cX10_out 11 = .ok (.invokevirtual 151, 3) := by decide +kernel
theorem dX10_out_14 : decode cX10_out 14 = .ok (.ireturn, 1) := by decide +kernel
theorem dX10_out_15 : decode cX10_out 15 = .ok (.aload_n 0, 1) := by decide +kernel
theorem dX10_out_16 : decode cX10_out 16 = .ok (.getfield 175, 3) := by decide +kernel
theorem dX10_out_19 : decode cX10_out 19 = .ok (.bipush 8, 2) := by decide +kernel
theorem dX10_out_21 : decode cX10_out 21 = .ok (.if_icmp .ne 10, 3) := by decide +kernel
theorem dX10_out_24 : decode cX10_out 24 = .ok (.aload_n 0, 1) := by decide +kernel
theorem dX10_out_25 : decode cX10_out 25 = .ok (.bipush (-8), 2) := by decide +kernel
theorem dX10_out_27 : decode cX10_out 27 = .ok (.invokevirtual 151, 3) := by decide +kernel
theorem dX10_out_30 : decode cX10_out 30 = .ok (.ireturn, 1) := by decide +kernel
theorem dX10_out_31 : decode cX10_out 31 = .ok (.aload_n 0, 1) := by decide +kernel
theorem dX10_out_32 : decode cX10_out 32 = .ok (.getfield 26, 3) := by decide +kernel
theorem dX10_out_35 : decode cX10_out 35 = .ok (.aload_n 0, 1) := by decide +kernel
theorem dX10_out_36 : decode cX10_out 36 = .ok (.getfield 175, 3) := by decide +kernel
theorem dX10_out_39 : decode cX10_out 39 = .ok (.iload_n 1, 1) := by decide +kernel
theorem dX10_out_40 : decode cX10_out 40 = .ok (.iastore, 1) := by decide +kernel
theorem dX10_out_41 : decode cX10_out 41 = .ok (.aload_n 0, 1) := by decide +kernel
theorem dX10_out_42 : decode cX10_out 42 = .ok (.dup, 1) := by decide +kernel
theorem dX10_out_43 : decode cX10_out 43 = .ok (.getfield 175, 3) := by decide +kernel
theorem dX10_out_46 : decode cX10_out 46 = .ok (.iconst 1, 1) := by decide +kernel
theorem dX10_out_47 : decode cX10_out 47 = .ok (.iadd, 1) := by decide +kernel
theorem dX10_out_48 : decode cX10_out 48 = .ok (.putfield 175, 3) := by decide +kernel
theorem dX10_out_51 : decode cX10_out 51 = .ok (.aload_n 0, 1) := by decide +kernel
theorem dX10_out_52 : decode cX10_out 52 = .ok (.invokevirtual 145, 3) := by decide +kernel
theorem dX10_out_55 : decode cX10_out 55 = .ok (.aload_n 0, 1) := by decide +kernel
theorem dX10_out_56 : decode cX10_out 56 = .ok (.getfield 175, 3) := by decide +kernel
theorem dX10_out_59 : decode cX10_out 59 = .ok (.ireturn, 1) := by decide +kernel
set_option maxHeartbeats 4000000 in
set_option maxRecDepth 100000 in
theorem cX10_out_ (l : Launch) (bs : Nat) (D : va_G) (y : Y3) (hcb : 76 ≤ y.2.2.2) (n : Nat) (x1 : Int32) (I : MI) (J : MJ) (r : Int32 × M2) (h : fX10_out n x1 I J = some r) : Met l yX10_out (.code yX10_out cX10_out 2 (some .int) :: gtb) (rmm 2 41) (va_Pc [.ref (bs + 44), .int x1] (HB bs D y I J)) (QcI bs D y r) 0 0 (FA bs) := by
  refine Met.ofW (cc := cX10_out) (maxL := 2) (ret := (some .int)) (by decide) rfl ?_
  intro p e s m args below meth c s₁ B hml hv
  obtain ⟨rfl, hP, hK, hN, hL⟩ := hv
  have hx := B.exec
  have hb := B.bytes
  have hr := B.returns
  have hts0 := atoms_spec (ws := .code yX10_out cX10_out 2 (some .int) :: gtb) B.pre
  have hts : ∀ w ∈ gtb, w.before [.ref (bs + 44), .int x1].toArray s = true := fun w hw => hts0 w (List.mem_cons_of_mem _ hw)
  have hown : s.vm.findClass RX10 = some m.cls := findClass_of_methodNamed B.named
  have hlocks := B.notSynchronized
  have hS : va_S (FA bs) s.heap s.heap [] := va_S.rf
  have Gc : Gx p s m [.ref (bs + 44), .int x1].toArray meth c cX10_out 2 RX10 bs D y (some .int) 76 := ⟨hx, hb, hml, hown, hts, hK, hN, hL, hr, hlocks, hcb⟩
  have hl := lv_entry [.ref (bs + 44), .int x1] (n := 2) (Nat.le_of_ble_eq_true rfl)
  rw [lg_entry_eq]
  generalize (lg_sl [.ref (bs + 44), .int x1] ++ List.replicate (2 - (lg_sl [.ref (bs + 44), .int x1]).length) Slot.unset).toArray = ls at hl ⊢
  have hl : lv_has ls 2 [(0, .ref (bs + 44)), (1, .int x1)] := hl
  change W p l e (rmm 2 41) s m [.ref (bs + 44), .int x1].toArray below meth c s.heap [] 0 0 (QI below [.ref (bs + 44), .int x1].toArray s bs D y r) (F0 m 0 ls [])
  unfold fX10_out at h
  refine lv_aload_n hx hb dX10_out_0 rfl (lv_at hl 0 rfl) ?_
  refine lv_iload_n hx hb dX10_out_1 rfl (lv_at hl 1 rfl) ?_
  obtain ⟨r2, er2, h⟩ := bd_s1 h
  refine c_VI (k := 44) (ci := 10) (As := [.int x1]) (rest := []) hx hb hml hown hts hK hN hL hP hS (cX10_isCell_ l bs D y hcb n x1 I J r2 er2) ok_X10_isCell ov_X10_isCell ml_122 ⟨Nat.le_of_ble_eq_true rfl, Nat.le_of_ble_eq_true rfl⟩ rfl hcb kd_44 hl.1 rfl rfl (Nat.le_of_ble_eq_true rfl) ⟨Nat.zero_le _, Nat.zero_le _⟩ dX10_out_2 (fun H locs hP hS => ?_)
  refine lv_if_ne (tgt := 15) hx hb dX10_out_5 (by decide) (fun c5 => ?_) (fun c5 => ?_)
  · replace h := if_f c5 h
    refine lv_aload_n hx hb dX10_out_15 rfl (lv_at hl 0 rfl) ?_
    refine g_I (C := RX10) (T := TX10) (N := 49) (ci := 10) 44 9 hx hb hts hown hK hP in_X10 rfl hcb okF_44_9 fl_158 dX10_out_16 ?_
    refine lv_bipush (v := (8 : Int32)) hx hb dX10_out_19 (by decide) ?_
    refine lv_icmp_ne (tgt := 31) hx hb dX10_out_21 (by decide) (fun c21 => ?_) (fun c21 => ?_)
    · replace h := if_f c21 h
      refine lv_aload_n hx hb dX10_out_31 rfl (lv_at hl 0 rfl) ?_
      refine g_R (C := RX10) (T := TX10) (N := 49) (ci := 10) 44 5 50 hx hb hts hown hK hP in_X10 rfl hcb okF_44_5 rfc_44_5 fl_159 dX10_out_32 ?_
      refine lv_aload_n hx hb dX10_out_35 rfl (lv_at hl 0 rfl) ?_
      refine g_I (C := RX10) (T := TX10) (N := 49) (ci := 10) 44 9 hx hb hts hown hK hP in_X10 rfl hcb okF_44_9 fl_158 dX10_out_36 ?_
      refine lv_iload_n hx hb dX10_out_39 rfl (lv_at hl 1 rfl) ?_
      obtain ⟨hi40, h⟩ := if_s1 h
      obtain ⟨I40, eI40, h⟩ := lt_s1 h
      refine t_I 50 eI40 hx hb hK hP hS hcb aln_50 hi40 dX10_out_40 (fun H locs hP hS => ?_)
      refine lv_aload_n hx hb dX10_out_41 rfl (lv_at hl 0 rfl) ?_
      refine lv_dup hx hb dX10_out_42 rfl ?_
      refine g_I (C := RX10) (T := TX10) (N := 49) (ci := 10) 44 9 hx hb hts hown hK hP in_X10 rfl hcb okF_44_9 fl_158 dX10_out_43 ?_
      refine lv_iconst (v := (1 : Int32)) hx hb dX10_out_46 (by decide) ?_
      refine lv_iadd hx hb dX10_out_47 ?_
      obtain ⟨I48, eI48, h⟩ := lt_s1 h
      refine s_I (C := RX10) (T := TX10) (N := 49) (ci := 10) (ty := .int) 44 9 eI48 tyX10 hx hb hts hown hK hP hS in_X10 tyX10_ok nmX10 rfl hcb okF_44_9 fl_158 rfl (by decide +kernel) rfl rfl dX10_out_48 (fun H locs hP hS => ?_)
      refine lv_aload_n hx hb dX10_out_51 rfl (lv_at hl 0 rfl) ?_
      obtain ⟨r52, er52, h⟩ := bd_s1 h
      refine c_VV (k := 44) (ci := 10) (As := []) (rest := []) hx hb hml hown hts hK hN hL hP hS (cX10_changes_ l bs D y hcb n  I48 r2.2.2 r52 er52) ok_X10_changes ov_X10_changes ml_117 ⟨Nat.le_of_ble_eq_true rfl, Nat.le_of_ble_eq_true rfl⟩ rfl hcb kd_44 hl.1 rfl rfl (Nat.le_of_ble_eq_true rfl) ⟨Nat.zero_le _, Nat.zero_le _⟩ dX10_out_52 (fun H locs hP hS => ?_)
      refine lv_aload_n hx hb dX10_out_55 rfl (lv_at hl 0 rfl) ?_
      refine g_I (C := RX10) (T := TX10) (N := 49) (ci := 10) 44 9 hx hb hts hown hK hP in_X10 rfl hcb okF_44_9 fl_158 dX10_out_56 ?_
      exact r_I hx hb hr hlocks hP hK hN hL hS h dX10_out_59
    · replace h := if_t c21 h
      refine lv_aload_n hx hb dX10_out_24 rfl (lv_at hl 0 rfl) ?_
      refine lv_bipush (v := (-8 : Int32)) hx hb dX10_out_25 (by decide) ?_
      obtain ⟨r27, er27, h⟩ := bd_s1 h
      refine c_VI (k := 44) (ci := 10) (As := [.int (-8 : Int32)]) (rest := []) hx hb hml hown hts hK hN hL hP hS (cX10_no_ l bs D y hcb n (-8 : Int32) r2.2.1 r2.2.2 r27 er27) ok_X10_no ov_X10_no ml_118 ⟨Nat.le_of_ble_eq_true rfl, Nat.le_of_ble_eq_true rfl⟩ rfl hcb kd_44 hl.1 rfl rfl (Nat.le_of_ble_eq_true rfl) ⟨Nat.zero_le _, Nat.zero_le _⟩ dX10_out_27 (fun H locs hP hS => ?_)
      exact r_I hx hb hr hlocks hP hK hN hL hS h dX10_out_30
  · replace h := if_t c5 h
    refine lv_aload_n hx hb dX10_out_8 rfl (lv_at hl 0 rfl) ?_
    refine lv_bipush (v := (-3 : Int32)) hx hb dX10_out_9 (by decide) ?_
    obtain ⟨r11, er11, h⟩ := bd_s1 h
    refine c_VI (k := 44) (ci := 10) (As := [.int (-3 : Int32)]) (rest := []) hx hb hml hown hts hK hN hL hP hS (cX10_no_ l bs D y hcb n (-3 : Int32) r2.2.1 r2.2.2 r11 er11) ok_X10_no ov_X10_no ml_118 ⟨Nat.le_of_ble_eq_true rfl, Nat.le_of_ble_eq_true rfl⟩ rfl hcb kd_44 hl.1 rfl rfl (Nat.le_of_ble_eq_true rfl) ⟨Nat.zero_le _, Nat.zero_le _⟩ dX10_out_11 (fun H locs hP hS => ?_)
    exact r_I hx hb hr hlocks hP hK hN hL hS h dX10_out_14
theorem dX10_cell_0 : decode cX10_cell 0 = .ok (.aload_n 0, 1) := by decide +kernel
theorem dX10_cell_1 : decode cX10_cell 1 = .ok (.iload_n 1, 1) := by decide +kernel
theorem dX10_cell_2 : decode cX10_cell 2 = .ok (.invokevirtual 172, 3) := by decide +kernel
theorem dX10_cell_5 : decode cX10_cell 5 = .ok (.ifCond .ne 10, 3) := by decide +kernel
theorem dX10_cell_8 : decode cX10_cell 8 = .ok (.aload_n 0, 1) := by decide +kernel
theorem dX10_cell_9 : decode cX10_cell 9 = .ok (.bipush (-3), 2) := by decide +kernel
theorem dX10_cell_11 : decode cX10_cell 11 = .ok (.invokevirtual 151, 3) := by decide +kernel
theorem dX10_cell_14 : decode cX10_cell 14 = .ok (.ireturn, 1) := by decide +kernel
theorem dX10_cell_15 : decode cX10_cell 15 = .ok (.iload_n 2, 1) := by decide +kernel
theorem dX10_cell_16 : decode cX10_cell 16 = .ok (.i2l, 1) := by decide +kernel
theorem dX10_cell_17 : decode cX10_cell 17 = .ok (.lconst 0, 1) := by decide +kernel
theorem dX10_cell_18 : decode cX10_cell 18 = .ok (.ldc2_w 178, 3) := by decide +kernel
theorem dX10_cell_21 : decode cX10_cell 21 = .ok (.invokestatic 164, 3) := by decide +kernel
theorem dX10_cell_24 : decode cX10_cell 24 = .ok (.ifCond .ne 10, 3) := by decide +kernel
theorem dX10_cell_27 : decode cX10_cell 27 = .ok (.aload_n 0, 1) := by decide +kernel
theorem dX10_cell_28 : decode cX10_cell 28 = .ok (.bipush (-7), 2) := by decide +kernel
theorem dX10_cell_30 : decode cX10_cell 30 = .ok (.invokevirtual 151, 3) := by decide +kernel
theorem dX10_cell_33 : decode cX10_cell 33 = .ok (.ireturn, 1) := by decide +kernel
theorem dX10_cell_34 : decode cX10_cell 34 = .ok (.iload_n 2, 1) := by decide +kernel
theorem dX10_cell_35 : decode cX10_cell 35 = .ok (.ifCond .ne 12, 3) := by decide +kernel
theorem dX10_cell_38 : decode cX10_cell 38 = .ok (.aload_n 0, 1) := by decide +kernel
theorem dX10_cell_39 : decode cX10_cell 39 = .ok (.getfield 7, 3) := by decide +kernel
theorem dX10_cell_42 : decode cX10_cell 42 = .ok (.iload_n 1, 1) := by decide +kernel
theorem dX10_cell_43 : decode cX10_cell 43 = .ok (.iaload, 1) := by decide +kernel
theorem dX10_cell_44 : decode cX10_cell 44 = .ok (.goto 51, 3) := by decide +kernel
theorem dX10_cell_47 : decode cX10_cell 47 = .ok (.iload_n 2, 1) := by decide +kernel
theorem dX10_cell_48 : decode cX10_cell 48 = .ok (.iconst 1, 1) := by decide +kernel
theorem dX10_cell_49 : decode cX10_cell 49 = .ok (.if_icmp .ne 12, 3) := by decide +kernel
theorem dX10_cell_52 : decode cX10_cell 52 = .ok (.aload_n 0, 1) := by decide +kernel
theorem dX10_cell_53 : decode cX10_cell 53 = .ok (.getfield 13, 3) := by decide +kernel
theorem dX10_cell_56 : decode cX10_cell 56 = .ok (.iload_n 1, 1) := by decide +kernel
theorem dX10_cell_57 : decode cX10_cell 57 = .ok (.iaload, 1) := by decide +kernel
theorem dX10_cell_58 : decode cX10_cell 58 = .ok (.goto 37, 3) := by decide +kernel
theorem dX10_cell_61 : decode cX10_cell 61 = .ok (.iload_n 2, 1) := by decide +kernel
theorem dX10_cell_62 : decode cX10_cell 62 = .ok (.iconst 2, 1) := by decide +kernel
theorem dX10_cell_63 : decode cX10_cell 63 = .ok (.if_icmp .ne 12, 3) := by decide +kernel
theorem dX10_cell_66 : decode cX10_cell 66 = .ok (.aload_n 0, 1) := by decide +kernel
theorem dX10_cell_67 : decode cX10_cell 67 = .ok (.getfield 16, 3) := by decide +kernel
theorem dX10_cell_70 : decode cX10_cell 70 = .ok (.iload_n 1, 1) := by decide +kernel
theorem dX10_cell_71 : decode cX10_cell 71 = .ok (.iaload, 1) := by decide +kernel
theorem dX10_cell_72 : decode cX10_cell 72 = .ok (.goto 23, 3) := by decide +kernel
theorem dX10_cell_75 : decode cX10_cell 75 = .ok (.aload_n 0, 1) := by decide +kernel
theorem dX10_cell_76 : decode cX10_cell 76 = .ok (.getfield 7, 3) := by decide +kernel
theorem dX10_cell_79 : decode cX10_cell 79 = .ok (.iload_n 1, 1) := by decide +kernel
theorem dX10_cell_80 : decode cX10_cell 80 = .ok (.iaload, 1) := by decide +kernel
theorem dX10_cell_81 : decode cX10_cell 81 = .ok (.iconst 2, 1) := by decide +kernel
theorem dX10_cell_82 : decode cX10_cell 82 = .ok (.if_icmp .ne 12, 3) := by decide +kernel
theorem dX10_cell_85 : decode cX10_cell 85 = .ok (.aload_n 0, 1) := by decide +kernel
theorem dX10_cell_86 : decode cX10_cell 86 = .ok (.getfield 19, 3) := by decide +kernel
theorem dX10_cell_89 : decode cX10_cell 89 = .ok (.iload_n 1, 1) := by decide +kernel
theorem dX10_cell_90 : decode cX10_cell 90 = .ok (.iaload, 1) := by decide +kernel
theorem dX10_cell_91 : decode cX10_cell 91 = .ok (.goto 4, 3) := by decide +kernel
theorem dX10_cell_94 : decode cX10_cell 94 = .ok (.iconst (-1), 1) := by decide +kernel
theorem dX10_cell_95 : decode cX10_cell 95 = .ok (.ireturn, 1) := by decide +kernel
set_option maxHeartbeats 4000000 in
set_option maxRecDepth 100000 in
theorem cX10_cell_ (l : Launch) (bs : Nat) (D : va_G) (y : Y3) (hcb : 76 ≤ y.2.2.2) (n : Nat) (x1 : Int32) (x2 : Int32) (I : MI) (J : MJ) (r : Int32 × M2) (h : fX10_cell n x1 x2 I J = some r) : Met l yX10_cell (.code yX10_cell cX10_cell 3 (some .int) :: gtb) (rmm 1 25) (va_Pc [.ref (bs + 44), .int x1, .int x2] (HB bs D y I J)) (QcI bs D y r) 0 0 (FA bs) := by
  refine Met.ofW (cc := cX10_cell) (maxL := 3) (ret := (some .int)) (by decide) rfl ?_
  intro p e s m args below meth c s₁ B hml hv
  obtain ⟨rfl, hP, hK, hN, hL⟩ := hv
  have hx := B.exec
  have hb := B.bytes
  have hr := B.returns
  have hts0 := atoms_spec (ws := .code yX10_cell cX10_cell 3 (some .int) :: gtb) B.pre
  have hts : ∀ w ∈ gtb, w.before [.ref (bs + 44), .int x1, .int x2].toArray s = true := fun w hw => hts0 w (List.mem_cons_of_mem _ hw)
  have hown : s.vm.findClass RX10 = some m.cls := findClass_of_methodNamed B.named
  have hlocks := B.notSynchronized
  have hS : va_S (FA bs) s.heap s.heap [] := va_S.rf
  have Gc : Gx p s m [.ref (bs + 44), .int x1, .int x2].toArray meth c cX10_cell 3 RX10 bs D y (some .int) 76 := ⟨hx, hb, hml, hown, hts, hK, hN, hL, hr, hlocks, hcb⟩
  have hl := lv_entry [.ref (bs + 44), .int x1, .int x2] (n := 3) (Nat.le_of_ble_eq_true rfl)
  rw [lg_entry_eq]
  generalize (lg_sl [.ref (bs + 44), .int x1, .int x2] ++ List.replicate (3 - (lg_sl [.ref (bs + 44), .int x1, .int x2]).length) Slot.unset).toArray = ls at hl ⊢
  have hl : lv_has ls 3 [(0, .ref (bs + 44)), (1, .int x1), (2, .int x2)] := hl
  change W p l e (rmm 1 25) s m [.ref (bs + 44), .int x1, .int x2].toArray below meth c s.heap [] 0 0 (QI below [.ref (bs + 44), .int x1, .int x2].toArray s bs D y r) (F0 m 0 ls [])
  unfold fX10_cell at h
  refine lv_aload_n hx hb dX10_cell_0 rfl (lv_at hl 0 rfl) ?_
  refine lv_iload_n hx hb dX10_cell_1 rfl (lv_at hl 1 rfl) ?_
  obtain ⟨r2, er2, h⟩ := bd_s1 h
  refine c_VI (k := 44) (ci := 10) (As := [.int x1]) (rest := []) hx hb hml hown hts hK hN hL hP hS (cX10_isCell_ l bs D y hcb n x1 I J r2 er2) ok_X10_isCell ov_X10_isCell ml_122 ⟨Nat.le_of_ble_eq_true rfl, Nat.le_of_ble_eq_true rfl⟩ rfl hcb kd_44 hl.1 rfl rfl (Nat.le_of_ble_eq_true rfl) ⟨Nat.zero_le _, Nat.zero_le _⟩ dX10_cell_2 (fun H locs hP hS => ?_)
  refine lv_if_ne (tgt := 15) hx hb dX10_cell_5 (by decide) (fun c5 => ?_) (fun c5 => ?_)
  · replace h := if_f c5 h
    refine lv_iload_n hx hb dX10_cell_15 rfl (lv_at hl 2 rfl) ?_
    refine lv_i2l (v := (x2).toInt64) hx hb dX10_cell_16 rfl ?_
    refine lv_lconst (v := (0 : Int64)) hx hb dX10_cell_17 (by decide) ?_
    refine lv_ldc2 hx hb hown (hts _ cl_10) dX10_cell_18 ?_
    obtain ⟨r21, er21, h⟩ := bd_s1 h
    refine c_SI (As := [.long (x2).toInt64, .long (0 : Int64), .long (3 : Int64)]) (rest := []) hx hb hml hown hts hK hN hL hP hS (cX10_isIn_ l bs D y hcb n (x2).toInt64 (0 : Int64) (3 : Int64) r2.2.1 r2.2.2 r21 er21) ok_X10_isIn ov_X10_isIn ml_120 ⟨Nat.le_of_ble_eq_true rfl, Nat.le_of_ble_eq_true rfl⟩ hl.1 rfl rfl (Nat.le_of_ble_eq_true rfl) ⟨Nat.zero_le _, Nat.zero_le _⟩ dX10_cell_21 (fun H locs hP hS => ?_)
    refine lv_if_ne (tgt := 34) hx hb dX10_cell_24 (by decide) (fun c24 => ?_) (fun c24 => ?_)
    · replace h := if_f c24 h
      refine lv_iload_n hx hb dX10_cell_34 rfl (lv_at hl 2 rfl) ?_
      refine lv_if_ne (tgt := 47) hx hb dX10_cell_35 (by decide) (fun c35 => ?_) (fun c35 => ?_)
      · replace h := if_f c35 h
        refine lv_iload_n hx hb dX10_cell_47 rfl (lv_at hl 2 rfl) ?_
        refine lv_iconst (v := (1 : Int32)) hx hb dX10_cell_48 (by decide) ?_
        refine lv_icmp_ne (tgt := 61) hx hb dX10_cell_49 (by decide) (fun c49 => ?_) (fun c49 => ?_)
        · replace h := if_f c49 h
          refine lv_iload_n hx hb dX10_cell_61 rfl (lv_at hl 2 rfl) ?_
          refine lv_iconst (v := (2 : Int32)) hx hb dX10_cell_62 (by decide) ?_
          refine lv_icmp_ne (tgt := 75) hx hb dX10_cell_63 (by decide) (fun c63 => ?_) (fun c63 => ?_)
          · replace h := if_f c63 h
            refine lv_aload_n hx hb dX10_cell_75 rfl (lv_at hl 0 rfl) ?_
            refine g_R (C := RX10) (T := TX10) (N := 49) (ci := 10) 44 0 45 hx hb hts hown hK hP in_X10 rfl hcb okF_44_0 rfc_44_0 fl_146 dX10_cell_76 ?_
            refine lv_iload_n hx hb dX10_cell_79 rfl (lv_at hl 1 rfl) ?_
            obtain ⟨hi80, h⟩ := if_s1 h
            refine a_I 45 hx hb hK hP hcb aln_45 hi80 dX10_cell_80 ?_
            refine lv_iconst (v := (2 : Int32)) hx hb dX10_cell_81 (by decide) ?_
            refine lv_icmp_ne (tgt := 94) hx hb dX10_cell_82 (by decide) (fun c82 => ?_) (fun c82 => ?_)
            · replace h := if_f c82 h
              refine lv_iconst (v := (-1 : Int32)) hx hb dX10_cell_94 (by decide) ?_
              exact r_I hx hb hr hlocks hP hK hN hL hS h dX10_cell_95
            · replace h := if_t c82 h
              refine lv_aload_n hx hb dX10_cell_85 rfl (lv_at hl 0 rfl) ?_
              refine g_R (C := RX10) (T := TX10) (N := 49) (ci := 10) 44 3 48 hx hb hts hown hK hP in_X10 rfl hcb okF_44_3 rfc_44_3 fl_157 dX10_cell_86 ?_
              refine lv_iload_n hx hb dX10_cell_89 rfl (lv_at hl 1 rfl) ?_
              obtain ⟨hi90, h⟩ := if_s1 h
              refine a_I 48 hx hb hK hP hcb aln_48 hi90 dX10_cell_90 ?_
              refine lv_goto (tgt := 95) hx hb dX10_cell_91 (by decide) ?_
              exact r_I hx hb hr hlocks hP hK hN hL hS h dX10_cell_95
          · replace h := if_t c63 h
            refine lv_aload_n hx hb dX10_cell_66 rfl (lv_at hl 0 rfl) ?_
            refine g_R (C := RX10) (T := TX10) (N := 49) (ci := 10) 44 2 47 hx hb hts hown hK hP in_X10 rfl hcb okF_44_2 rfc_44_2 fl_154 dX10_cell_67 ?_
            refine lv_iload_n hx hb dX10_cell_70 rfl (lv_at hl 1 rfl) ?_
            obtain ⟨hi71, h⟩ := if_s1 h
            refine a_I 47 hx hb hK hP hcb aln_47 hi71 dX10_cell_71 ?_
            refine lv_goto (tgt := 95) hx hb dX10_cell_72 (by decide) ?_
            exact r_I hx hb hr hlocks hP hK hN hL hS h dX10_cell_95
        · replace h := if_t c49 h
          refine lv_aload_n hx hb dX10_cell_52 rfl (lv_at hl 0 rfl) ?_
          refine g_R (C := RX10) (T := TX10) (N := 49) (ci := 10) 44 1 46 hx hb hts hown hK hP in_X10 rfl hcb okF_44_1 rfc_44_1 fl_153 dX10_cell_53 ?_
          refine lv_iload_n hx hb dX10_cell_56 rfl (lv_at hl 1 rfl) ?_
          obtain ⟨hi57, h⟩ := if_s1 h
          refine a_I 46 hx hb hK hP hcb aln_46 hi57 dX10_cell_57 ?_
          refine lv_goto (tgt := 95) hx hb dX10_cell_58 (by decide) ?_
          exact r_I hx hb hr hlocks hP hK hN hL hS h dX10_cell_95
      · replace h := if_t c35 h
        refine lv_aload_n hx hb dX10_cell_38 rfl (lv_at hl 0 rfl) ?_
        refine g_R (C := RX10) (T := TX10) (N := 49) (ci := 10) 44 0 45 hx hb hts hown hK hP in_X10 rfl hcb okF_44_0 rfc_44_0 fl_146 dX10_cell_39 ?_
        refine lv_iload_n hx hb dX10_cell_42 rfl (lv_at hl 1 rfl) ?_
        obtain ⟨hi43, h⟩ := if_s1 h
        refine a_I 45 hx hb hK hP hcb aln_45 hi43 dX10_cell_43 ?_
        refine lv_goto (tgt := 95) hx hb dX10_cell_44 (by decide) ?_
        exact r_I hx hb hr hlocks hP hK hN hL hS h dX10_cell_95
    · replace h := if_t c24 h
      refine lv_aload_n hx hb dX10_cell_27 rfl (lv_at hl 0 rfl) ?_
      refine lv_bipush (v := (-7 : Int32)) hx hb dX10_cell_28 (by decide) ?_
      obtain ⟨r30, er30, h⟩ := bd_s1 h
      refine c_VI (k := 44) (ci := 10) (As := [.int (-7 : Int32)]) (rest := []) hx hb hml hown hts hK hN hL hP hS (cX10_no_ l bs D y hcb n (-7 : Int32) r21.2.1 r21.2.2 r30 er30) ok_X10_no ov_X10_no ml_118 ⟨Nat.le_of_ble_eq_true rfl, Nat.le_of_ble_eq_true rfl⟩ rfl hcb kd_44 hl.1 rfl rfl (Nat.le_of_ble_eq_true rfl) ⟨Nat.zero_le _, Nat.zero_le _⟩ dX10_cell_30 (fun H locs hP hS => ?_)
      exact r_I hx hb hr hlocks hP hK hN hL hS h dX10_cell_33
  · replace h := if_t c5 h
    refine lv_aload_n hx hb dX10_cell_8 rfl (lv_at hl 0 rfl) ?_
    refine lv_bipush (v := (-3 : Int32)) hx hb dX10_cell_9 (by decide) ?_
    obtain ⟨r11, er11, h⟩ := bd_s1 h
    refine c_VI (k := 44) (ci := 10) (As := [.int (-3 : Int32)]) (rest := []) hx hb hml hown hts hK hN hL hP hS (cX10_no_ l bs D y hcb n (-3 : Int32) r2.2.1 r2.2.2 r11 er11) ok_X10_no ov_X10_no ml_118 ⟨Nat.le_of_ble_eq_true rfl, Nat.le_of_ble_eq_true rfl⟩ rfl hcb kd_44 hl.1 rfl rfl (Nat.le_of_ble_eq_true rfl) ⟨Nat.zero_le _, Nat.zero_le _⟩ dX10_cell_11 (fun H locs hP hS => ?_)
    exact r_I hx hb hr hlocks hP hK hN hL hS h dX10_cell_14
