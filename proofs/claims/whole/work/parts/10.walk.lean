/-! walks: X0_addPlain X0_rank X0_choice J13_bitCount_95d88 X0_insert X0_offer X0_addGate X0_members X1_put X7_letter X1_writeThing X1_sumOf X1_write X1_lengthOf X1_firstWrongSum X9_hasBit X7_isTable X1_bitsThere X1_strangeTables X1_letterThere J7_fill_53178 X2_addJoint X2_shape -/
theorem dX0_addPlain_0 : decode cX0_addPlain 0 = .ok (.aload_n 0, 1) := by decide +kernel
theorem dX0_addPlain_1 : decode cX0_addPlain 1 = .ok (.getfield 9, 3) := by decide +kernel
theorem dX0_addPlain_4 : decode cX0_addPlain 4 = .ok (.iload_n 1, 1) := by decide +kernel
theorem dX0_addPlain_5 : decode cX0_addPlain 5 = .ok (.iconst 0, 1) := by decide +kernel
theorem dX0_addPlain_6 : decode cX0_addPlain 6 = .ok (.iastore, 1) := by decide +kernel
theorem dX0_addPlain_7 : decode cX0_addPlain 7 = .ok (.aload_n 0, 1) := by decide +kernel
theorem dX0_addPlain_8 : decode cX0_addPlain 8 = .ok (.getfield 15, 3) := by decide +kernel
theorem dX0_addPlain_11 : decode cX0_addPlain 11 = .ok (.iload_n 1, 1) := by decide +kernel
theorem dX0_addPlain_12 : decode cX0_addPlain 12 = .ok (.iconst 0, 1) := by decide +kernel
theorem dX0_addPlain_13 : decode cX0_addPlain 13 = .ok (.iastore, 1) := by decide +kernel
theorem dX0_addPlain_14 : decode cX0_addPlain 14 = .ok (.return_, 1) := by decide +kernel
set_option maxHeartbeats 4000000 in
set_option maxRecDepth 100000 in
theorem cX0_addPlain_ (l : Launch) (bs : Nat) (D : va_G) (y : Y3) (hcb : 44 ≤ y.2.2.2) (n : Nat) (x1 : Int32) (I : MI) (J : MJ) (r : M2) (h : fX0_addPlain n x1 I J = some r) : Met l yX0_addPlain (.code yX0_addPlain cX0_addPlain 2 none :: gtb) (rmm 0 0) (va_Pc [.ref (bs + 7), .int x1] (HB bs D y I J)) (QcV bs D y r) 0 0 (FA bs) := by
  refine Met.ofW (cc := cX0_addPlain) (maxL := 2) (ret := none) (by decide) rfl ?_
  intro p e s m args below meth c s₁ B hml hv
  obtain ⟨rfl, hP, hK, hN, hL⟩ := hv
  have hx := B.exec
  have hb := B.bytes
  have hr := B.returns
  have hts0 := atoms_spec (ws := .code yX0_addPlain cX0_addPlain 2 none :: gtb) B.pre
  have hts : ∀ w ∈ gtb, w.before [.ref (bs + 7), .int x1].toArray s = true := fun w hw => hts0 w (List.mem_cons_of_mem _ hw)
  have hown : s.vm.findClass RX0 = some m.cls := findClass_of_methodNamed B.named
  have hlocks := B.notSynchronized
  have hS : va_S (FA bs) s.heap s.heap [] := va_S.rf
  have Gc : Gx p s m [.ref (bs + 7), .int x1].toArray meth c cX0_addPlain 2 RX0 bs D y none 44 := ⟨hx, hb, hml, hown, hts, hK, hN, hL, hr, hlocks, hcb⟩
  have hl := lv_entry [.ref (bs + 7), .int x1] (n := 2) (Nat.le_of_ble_eq_true rfl)
  rw [lg_entry_eq]
  generalize (lg_sl [.ref (bs + 7), .int x1] ++ List.replicate (2 - (lg_sl [.ref (bs + 7), .int x1]).length) Slot.unset).toArray = ls at hl ⊢
  have hl : lv_has ls 2 [(0, .ref (bs + 7)), (1, .int x1)] := hl
  change W p l e (rmm 0 0) s m [.ref (bs + 7), .int x1].toArray below meth c s.heap [] 0 0 (QV below [.ref (bs + 7), .int x1].toArray s bs D y r) (F0 m 0 ls [])
  unfold fX0_addPlain at h
  refine lv_aload_n hx hb dX0_addPlain_0 rfl (lv_at hl 0 rfl) ?_
  refine g_R (C := RX0) (T := TX0) (N := 3) (ci := 0) 7 0 8 hx hb hts hown hK hP in_X0 rfl hcb okF_7_0 rfc_7_0 fl_0 dX0_addPlain_1 ?_
  refine lv_iload_n hx hb dX0_addPlain_4 rfl (lv_at hl 1 rfl) ?_
  refine lv_iconst (v := (0 : Int32)) hx hb dX0_addPlain_5 (by decide) ?_
  obtain ⟨hi6, h⟩ := if_s1 h
  obtain ⟨I6, eI6, h⟩ := lt_s1 h
  refine t_I 8 eI6 hx hb hK hP hS hcb aln_8 hi6 dX0_addPlain_6 (fun H locs hP hS => ?_)
  refine lv_aload_n hx hb dX0_addPlain_7 rfl (lv_at hl 0 rfl) ?_
  refine g_R (C := RX0) (T := TX0) (N := 3) (ci := 0) 7 1 9 hx hb hts hown hK hP in_X0 rfl hcb okF_7_1 rfc_7_1 fl_1 dX0_addPlain_8 ?_
  refine lv_iload_n hx hb dX0_addPlain_11 rfl (lv_at hl 1 rfl) ?_
  refine lv_iconst (v := (0 : Int32)) hx hb dX0_addPlain_12 (by decide) ?_
  obtain ⟨hi13, h⟩ := if_s1 h
  obtain ⟨I13, eI13, h⟩ := lt_s1 h
  refine t_I 9 eI13 hx hb hK hP hS hcb aln_9 hi13 dX0_addPlain_13 (fun H locs hP hS => ?_)
  exact r_V hx hb hr hlocks hP hK hN hL hS h dX0_addPlain_14
theorem dX0_rank_0 : decode cX0_rank 0 = .ok (.lload_n 0, 1) := by decide +kernel
theorem dX0_rank_1 : decode cX0_rank 1 = .ok (.bipush 40, 2) := by decide +kernel
theorem dX0_rank_3 : decode cX0_rank 3 = .ok (.lshl, 1) := by decide +kernel
theorem dX0_rank_4 : decode cX0_rank 4 = .ok (.lload_n 2, 1) := by decide +kernel
theorem dX0_rank_5 : decode cX0_rank 5 = .ok (.bipush 32, 2) := by decide +kernel
theorem dX0_rank_7 : decode cX0_rank 7 = .ok (.lshl, 1) := by decide +kernel
theorem dX0_rank_8 : decode cX0_rank 8 = .ok (.lor, 1) := by decide +kernel
theorem dX0_rank_9 : decode cX0_rank 9 = .ok (.lload 4, 2) := by decide +kernel
theorem dX0_rank_11 : decode cX0_rank 11 = .ok (.lor, 1) := by decide +kernel
theorem dX0_rank_12 : decode cX0_rank 12 = .ok (.lreturn, 1) := by decide +kernel
set_option maxHeartbeats 4000000 in
set_option maxRecDepth 100000 in
theorem cX0_rank_ (l : Launch) (bs : Nat) (D : va_G) (y : Y3) (hcb : 44 ≤ y.2.2.2) (n : Nat) (x0 : Int64) (x2 : Int64) (x4 : Int64) (I : MI) (J : MJ) (r : Int64 × M2) (h : fX0_rank n x0 x2 x4 I J = some r) : Met l yX0_rank (.code yX0_rank cX0_rank 6 (some .long) :: gtb) (rmm 0 0) (va_Pc [.long x0, .long x2, .long x4] (HB bs D y I J)) (QcJ bs D y r) 0 0 (FA bs) := by
  refine Met.ofW (cc := cX0_rank) (maxL := 6) (ret := (some .long)) (by decide) rfl ?_
  intro p e s m args below meth c s₁ B hml hv
  obtain ⟨rfl, hP, hK, hN, hL⟩ := hv
  have hx := B.exec
  have hb := B.bytes
  have hr := B.returns
  have hts0 := atoms_spec (ws := .code yX0_rank cX0_rank 6 (some .long) :: gtb) B.pre
  have hts : ∀ w ∈ gtb, w.before [.long x0, .long x2, .long x4].toArray s = true := fun w hw => hts0 w (List.mem_cons_of_mem _ hw)
  have hown : s.vm.findClass RX0 = some m.cls := findClass_of_methodNamed B.named
  have hlocks := B.notSynchronized
  have hS : va_S (FA bs) s.heap s.heap [] := va_S.rf
  have Gc : Gx p s m [.long x0, .long x2, .long x4].toArray meth c cX0_rank 6 RX0 bs D y (some .long) 44 := ⟨hx, hb, hml, hown, hts, hK, hN, hL, hr, hlocks, hcb⟩
  have hl := lv_entry [.long x0, .long x2, .long x4] (n := 6) (Nat.le_of_ble_eq_true rfl)
  rw [lg_entry_eq]
  generalize (lg_sl [.long x0, .long x2, .long x4] ++ List.replicate (6 - (lg_sl [.long x0, .long x2, .long x4]).length) Slot.unset).toArray = ls at hl ⊢
  have hl : lv_has ls 6 [(0, .long x0), (2, .long x2), (4, .long x4)] := hl
  change W p l e (rmm 0 0) s m [.long x0, .long x2, .long x4].toArray below meth c s.heap [] 0 0 (QJ below [.long x0, .long x2, .long x4].toArray s bs D y r) (F0 m 0 ls [])
  unfold fX0_rank at h
  refine lv_lload_n hx hb dX0_rank_0 rfl (lv_at hl 0 rfl) ?_
  refine lv_bipush (v := (40 : Int32)) hx hb dX0_rank_1 (by decide) ?_
  refine lv_lshl (v := (shlL x0 (40 : Int32))) hx hb dX0_rank_3 rfl ?_
  refine lv_lload_n hx hb dX0_rank_4 rfl (lv_at hl 1 rfl) ?_
  refine lv_bipush (v := (32 : Int32)) hx hb dX0_rank_5 (by decide) ?_
  refine lv_lshl (v := (shlL x2 (32 : Int32))) hx hb dX0_rank_7 rfl ?_
  refine lv_lor hx hb dX0_rank_8 ?_
  refine lv_lload hx hb dX0_rank_9 (lv_at hl 2 rfl) ?_
  refine lv_lor hx hb dX0_rank_11 ?_
  exact r_J hx hb hr hlocks hP hK hN hL hS h dX0_rank_12
theorem dX0_choice_0 : decode cX0_choice 0 = .ok (.iload_n 2, 1) := by decide +kernel
theorem dX0_choice_1 : decode cX0_choice 1 = .ok (.aload_n 0, 1) := by decide +kernel
theorem dX0_choice_2 : decode cX0_choice 2 = .ok (.getfield 9, 3) := by decide +kernel
theorem dX0_choice_5 : decode cX0_choice 5 = .ok (.iload_n 1, 1) := by decide +kernel
theorem dX0_choice_6 : decode cX0_choice 6 = .ok (.iaload, 1) := by decide +kernel
theorem dX0_choice_7 : decode cX0_choice 7 = .ok (.if_icmp .ge 15, 3) := by decide +kernel
theorem dX0_choice_10 : decode cX0_choice 10 = .ok (.aload_n 0, 1) := by decide +kernel
theorem dX0_choice_11 : decode cX0_choice 11 = .ok (.getfield 18, 3) := by decide +kernel
theorem dX0_choice_14 : decode cX0_choice 14 = .ok (.iload_n 1, 1) := by decide +kernel
theorem dX0_choice_15 : decode cX0_choice 15 = .ok (.bipush 40, 2) := by decide +kernel
theorem dX0_choice_17 : decode cX0_choice 17 = .ok (.imul, 1) := by decide +kernel
theorem dX0_choice_18 : decode cX0_choice 18 = .ok (.iload_n 2, 1) := by decide +kernel
theorem dX0_choice_19 : decode cX0_choice 19 = .ok (.iadd, 1) := by decide +kernel
theorem dX0_choice_20 : decode cX0_choice 20 = .ok (.laload, 1) := by decide +kernel
theorem dX0_choice_21 : decode cX0_choice 21 = .ok (.lreturn, 1) := by decide +kernel
theorem dX0_choice_22 : decode cX0_choice 22 = .ok (.aload_n 0, 1) := by decide +kernel
theorem dX0_choice_23 : decode cX0_choice 23 = .ok (.getfield 15, 3) := by decide +kernel
theorem dX0_choice_26 : decode cX0_choice 26 = .ok (.iload_n 1, 1) := by decide +kernel
theorem dX0_choice_27 : decode cX0_choice 27 = .ok (.iaload, 1) := by decide +kernel
theorem dX0_choice_28 : decode cX0_choice 28 = .ok (.iconst 1, 1) := by decide +kernel
theorem dX0_choice_29 : decode cX0_choice 29 = .ok (.iadd, 1) := by decide +kernel
theorem dX0_choice_30 : decode cX0_choice 30 = .ok (.i2l, 1) := by decide +kernel
theorem dX0_choice_31 : decode cX0_choice 31 = .ok (.lconst 1, 1) := by decide +kernel
theorem dX0_choice_32 : decode cX0_choice 32 = .ok (.lconst 1, 1) := by decide +kernel
theorem dX0_choice_33 : decode cX0_choice 33 = .ok (.iload_n 1, 1) := by decide +kernel
theorem dX0_choice_34 : decode cX0_choice 34 = .ok (.lshl, 1) := by decide +kernel
theorem dX0_choice_35 : decode cX0_choice 35 = .ok (.invokestatic 30, 3) := by decide +kernel
theorem dX0_choice_38 : decode cX0_choice 38 = .ok (.lreturn, 1) := by decide +kernel
set_option maxHeartbeats 4000000 in
set_option maxRecDepth 100000 in
theorem cX0_choice_ (l : Launch) (bs : Nat) (D : va_G) (y : Y3) (hcb : 44 ≤ y.2.2.2) (n : Nat) (x1 : Int32) (x2 : Int32) (I : MI) (J : MJ) (r : Int64 × M2) (h : fX0_choice n x1 x2 I J = some r) : Met l yX0_choice (.code yX0_choice cX0_choice 3 (some .long) :: gtb) (rmm 1 25) (va_Pc [.ref (bs + 7), .int x1, .int x2] (HB bs D y I J)) (QcJ bs D y r) 0 0 (FA bs) := by
  refine Met.ofW (cc := cX0_choice) (maxL := 3) (ret := (some .long)) (by decide) rfl ?_
  intro p e s m args below meth c s₁ B hml hv
  obtain ⟨rfl, hP, hK, hN, hL⟩ := hv
  have hx := B.exec
  have hb := B.bytes
  have hr := B.returns
  have hts0 := atoms_spec (ws := .code yX0_choice cX0_choice 3 (some .long) :: gtb) B.pre
  have hts : ∀ w ∈ gtb, w.before [.ref (bs + 7), .int x1, .int x2].toArray s = true := fun w hw => hts0 w (List.mem_cons_of_mem _ hw)
  have hown : s.vm.findClass RX0 = some m.cls := findClass_of_methodNamed B.named
  have hlocks := B.notSynchronized
  have hS : va_S (FA bs) s.heap s.heap [] := va_S.rf
  have Gc : Gx p s m [.ref (bs + 7), .int x1, .int x2].toArray meth c cX0_choice 3 RX0 bs D y (some .long) 44 := ⟨hx, hb, hml, hown, hts, hK, hN, hL, hr, hlocks, hcb⟩
  have hl := lv_entry [.ref (bs + 7), .int x1, .int x2] (n := 3) (Nat.le_of_ble_eq_true rfl)
  rw [lg_entry_eq]
  generalize (lg_sl [.ref (bs + 7), .int x1, .int x2] ++ List.replicate (3 - (lg_sl [.ref (bs + 7), .int x1, .int x2]).length) Slot.unset).toArray = ls at hl ⊢
  have hl : lv_has ls 3 [(0, .ref (bs + 7)), (1, .int x1), (2, .int x2)] := hl
  change W p l e (rmm 1 25) s m [.ref (bs + 7), .int x1, .int x2].toArray below meth c s.heap [] 0 0 (QJ below [.ref (bs + 7), .int x1, .int x2].toArray s bs D y r) (F0 m 0 ls [])
  unfold fX0_choice at h
  refine lv_iload_n hx hb dX0_choice_0 rfl (lv_at hl 2 rfl) ?_
  refine lv_aload_n hx hb dX0_choice_1 rfl (lv_at hl 0 rfl) ?_
  refine g_R (C := RX0) (T := TX0) (N := 3) (ci := 0) 7 0 8 hx hb hts hown hK hP in_X0 rfl hcb okF_7_0 rfc_7_0 fl_0 dX0_choice_2 ?_
  refine lv_iload_n hx hb dX0_choice_5 rfl (lv_at hl 1 rfl) ?_
  obtain ⟨hi6, h⟩ := if_s1 h
  refine a_I 8 hx hb hK hP hcb aln_8 hi6 dX0_choice_6 ?_
  refine lv_icmp_ge (tgt := 22) hx hb dX0_choice_7 (by decide) (fun c7 => ?_) (fun c7 => ?_)
  · replace h := if_t c7 h
    refine lv_aload_n hx hb dX0_choice_22 rfl (lv_at hl 0 rfl) ?_
    refine g_R (C := RX0) (T := TX0) (N := 3) (ci := 0) 7 1 9 hx hb hts hown hK hP in_X0 rfl hcb okF_7_1 rfc_7_1 fl_1 dX0_choice_23 ?_
    refine lv_iload_n hx hb dX0_choice_26 rfl (lv_at hl 1 rfl) ?_
    obtain ⟨hi27, h⟩ := if_s1 h
    refine a_I 9 hx hb hK hP hcb aln_9 hi27 dX0_choice_27 ?_
    refine lv_iconst (v := (1 : Int32)) hx hb dX0_choice_28 (by decide) ?_
    refine lv_iadd hx hb dX0_choice_29 ?_
    refine lv_i2l (v := (((I 9 (x1).toNatClampNeg) + (1 : Int32))).toInt64) hx hb dX0_choice_30 rfl ?_
    refine lv_lconst (v := (1 : Int64)) hx hb dX0_choice_31 (by decide) ?_
    refine lv_lconst (v := (1 : Int64)) hx hb dX0_choice_32 (by decide) ?_
    refine lv_iload_n hx hb dX0_choice_33 rfl (lv_at hl 1 rfl) ?_
    refine lv_lshl (v := (shlL (1 : Int64) x1)) hx hb dX0_choice_34 rfl ?_
    obtain ⟨r35, er35, h⟩ := bd_s1 h
    refine c_SJ (As := [.long (((I 9 (x1).toNatClampNeg) + (1 : Int32))).toInt64, .long (1 : Int64), .long (shlL (1 : Int64) x1)]) (rest := []) hx hb hml hown hts hK hN hL hP hS (cX0_rank_ l bs D y hcb n (((I 9 (x1).toNatClampNeg) + (1 : Int32))).toInt64 (1 : Int64) (shlL (1 : Int64) x1) I J r35 er35) ok_X0_rank ov_X0_rank ml_0 ⟨Nat.le_of_ble_eq_true rfl, Nat.le_of_ble_eq_true rfl⟩ hl.1 rfl rfl (Nat.le_of_ble_eq_true rfl) ⟨Nat.zero_le _, Nat.zero_le _⟩ dX0_choice_35 (fun H locs hP hS => ?_)
    exact r_J hx hb hr hlocks hP hK hN hL hS h dX0_choice_38
  · replace h := if_f c7 h
    refine lv_aload_n hx hb dX0_choice_10 rfl (lv_at hl 0 rfl) ?_
    refine g_R (C := RX0) (T := TX0) (N := 3) (ci := 0) 7 2 10 hx hb hts hown hK hP in_X0 rfl hcb okF_7_2 rfc_7_2 fl_2 dX0_choice_11 ?_
    refine lv_iload_n hx hb dX0_choice_14 rfl (lv_at hl 1 rfl) ?_
    refine lv_bipush (v := (40 : Int32)) hx hb dX0_choice_15 (by decide) ?_
    refine lv_imul hx hb dX0_choice_17 ?_
    refine lv_iload_n hx hb dX0_choice_18 rfl (lv_at hl 2 rfl) ?_
    refine lv_iadd hx hb dX0_choice_19 ?_
    obtain ⟨hi20, h⟩ := if_s1 h
    refine a_J 10 hx hb hK hP hcb alJ_10 hi20 dX0_choice_20 ?_
    exact r_J hx hb hr hlocks hP hK hN hL hS h dX0_choice_21
theorem dJ13_bitCount_95d88_0 : decode cJ13_bitCount_95d88 0 = .ok (.lload_n 0, 1) := by decide +kernel
theorem dJ13_bitCount_95d88_1 : decode cJ13_bitCount_95d88 1 = .ok (.lload_n 0, 1) := by decide +kernel
theorem dJ13_bitCount_95d88_2 : decode cJ13_bitCount_95d88 2 = .ok (.iconst 1, 1) := by decide +kernel
theorem dJ13_bitCount_95d88_3 : decode cJ13_bitCount_95d88 3 = .ok (.lushr, 1) := by decide +kernel
theorem dJ13_bitCount_95d88_4 : decode cJ13_bitCount_95d88 4 = .ok (.ldc2_w 314, 3) := by decide +kernel
theorem dJ13_bitCount_95d88_7 : decode cJ13_bitCount_95d88 7 = .ok (.land, 1) := by decide +kernel
theorem dJ13_bitCount_95d88_8 : decode cJ13_bitCount_95d88 8 = .ok (.lsub, 1) := by decide +kernel
theorem dJ13_bitCount_95d88_9 : decode cJ13_bitCount_95d88 9 = .ok (.lstore_n 0, 1) := by decide +kernel
theorem dJ13_bitCount_95d88_10 : decode cJ13_bitCount_95d88 10 = .ok (.lload_n 0, 1) := by decide +kernel
theorem dJ13_bitCount_95d88_11 : decode cJ13_bitCount_95d88 11 = .ok (.ldc2_w 316, 3) := by decide +kernel
theorem dJ13_bitCount_95d88_14 : decode cJ13_bitCount_95d88 14 = .ok (.land, 1) := by decide +kernel
theorem dJ13_bitCount_95d88_15 : decode cJ13_bitCount_95d88 15 = .ok (.lload_n 0, 1) := by decide +kernel
theorem dJ13_bitCount_95d88_16 : decode cJ13_bitCount_95d88 16 = .ok (.iconst 2, 1) := by decide +kernel
theorem dJ13_bitCount_95d88_17 : decode cJ13_bitCount_95d88 17 = .ok (.lushr, 1) := by decide +kernel
theorem dJ13_bitCount_95d88_18 : decode cJ13_bitCount_95d88 18 = .ok (.ldc2_w 316, 3) := by decide +kernel
theorem dJ13_bitCount_95d88_21 : decode cJ13_bitCount_95d88 21 = .ok (.land, 1) := by decide +kernel
theorem dJ13_bitCount_95d88_22 : decode cJ13_bitCount_95d88 22 = .ok (.ladd, 1) := by decide +kernel
theorem dJ13_bitCount_95d88_23 : decode cJ13_bitCount_95d88 23 = .ok (.lstore_n 0, 1) := by decide +kernel
theorem dJ13_bitCount_95d88_24 : decode cJ13_bitCount_95d88 24 = .ok (.lload_n 0, 1) := by decide +kernel
theorem dJ13_bitCount_95d88_25 : decode cJ13_bitCount_95d88 25 = .ok (.lload_n 0, 1) := by decide +kernel
theorem dJ13_bitCount_95d88_26 : decode cJ13_bitCount_95d88 26 = .ok (.iconst 4, 1) := by decide +kernel
theorem dJ13_bitCount_95d88_27 : decode cJ13_bitCount_95d88 27 = .ok (.lushr, 1) := by decide +kernel
theorem dJ13_bitCount_95d88_28 : decode cJ13_bitCount_95d88 28 = .ok (.ladd, 1) := by decide +kernel
theorem dJ13_bitCount_95d88_29 : decode cJ13_bitCount_95d88 29 = .ok (.ldc2_w 318, 3) := by decide +kernel
theorem dJ13_bitCount_95d88_32 : decode cJ13_bitCount_95d88 32 = .ok (.land, 1) := by decide +kernel
theorem dJ13_bitCount_95d88_33 : decode cJ13_bitCount_95d88 33 = .ok (.lstore_n 0, 1) := by decide +kernel
theorem dJ13_bitCount_95d88_34 : decode cJ13_bitCount_95d88 34 = .ok (.lload_n 0, 1) := by decide +kernel
theorem dJ13_bitCount_95d88_35 : decode cJ13_bitCount_95d88 35 = .ok (.lload_n 0, 1) := by decide +kernel
theorem dJ13_bitCount_95d88_36 : decode cJ13_bitCount_95d88 36 = .ok (.bipush 8, 2) := by decide +kernel
theorem dJ13_bitCount_95d88_38 : decode cJ13_bitCount_95d88 38 = .ok (.lushr, 1) := by decide +kernel
theorem dJ13_bitCount_95d88_39 : decode cJ13_bitCount_95d88 39 = .ok (.ladd, 1) := by decide +kernel
theorem dJ13_bitCount_95d88_40 : decode cJ13_bitCount_95d88 40 = .ok (.lstore_n 0, 1) := by decide +kernel
theorem dJ13_bitCount_95d88_41 : decode cJ13_bitCount_95d88 41 = .ok (.lload_n 0, 1) := by decide +kernel
theorem dJ13_bitCount_95d88_42 : decode cJ13_bitCount_95d88 42 = .ok (.lload_n 0, 1) := by decide +kernel
theorem dJ13_bitCount_95d88_43 : decode cJ13_bitCount_95d88 43 = .ok (.bipush 16, 2) := by decide +kernel
theorem dJ13_bitCount_95d88_45 : decode cJ13_bitCount_95d88 45 = .ok (.lushr, 1) := by decide +kernel
theorem dJ13_bitCount_95d88_46 : decode cJ13_bitCount_95d88 46 = .ok (.ladd, 1) := by decide +kernel
theorem dJ13_bitCount_95d88_47 : decode cJ13_bitCount_95d88 47 = .ok (.lstore_n 0, 1) := by decide +kernel
theorem dJ13_bitCount_95d88_48 : decode cJ13_bitCount_95d88 48 = .ok (.lload_n 0, 1) := by decide +kernel
theorem dJ13_bitCount_95d88_49 : decode cJ13_bitCount_95d88 49 = .ok (.lload_n 0, 1) := by decide +kernel
theorem dJ13_bitCount_95d88_50 : decode cJ13_bitCount_95d88 50 = .ok (.bipush 32, 2) := by decide +kernel
theorem dJ13_bitCount_95d88_52 : decode cJ13_bitCount_95d88 52 = .ok (.lushr, 1) := by decide +kernel
theorem dJ13_bitCount_95d88_53 : decode cJ13_bitCount_95d88 53 = .ok (.ladd, 1) := by decide +kernel
theorem dJ13_bitCount_95d88_54 : decode cJ13_bitCount_95d88 54 = .ok (.lstore_n 0, 1) := by decide +kernel
theorem dJ13_bitCount_95d88_55 : decode cJ13_bitCount_95d88 55 = .ok (.lload_n 0, 1) := by decide +kernel
theorem dJ13_bitCount_95d88_56 : decode cJ13_bitCount_95d88 56 = .ok (.l2i, 1) := by decide +kernel
theorem dJ13_bitCount_95d88_57 : decode cJ13_bitCount_95d88 57 = .ok (.bipush 127, 2) := by decide +kernel
theorem dJ13_bitCount_95d88_59 : decode cJ13_bitCount_95d88 59 = .ok (.iand, 1) := by decide +kernel
theorem dJ13_bitCount_95d88_60 : decode cJ13_bitCount_95d88 60 = .ok (.ireturn, 1) := by decide +kernel
set_option maxHeartbeats 4000000 in
set_option maxRecDepth 100000 in
theorem cJ13_bitCount_95d88_ (l : Launch) (bs : Nat) (D : va_G) (y : Y3) (hcb : 44 ≤ y.2.2.2) (n : Nat) (x0 : Int64) (I : MI) (J : MJ) (r : Int32 × M2) (h : fJ13_bitCount_95d88 n x0 I J = some r) : Met l yJ13_bitCount_95d88 (.code yJ13_bitCount_95d88 cJ13_bitCount_95d88 2 (some .int) :: gtb) (rmm 0 0) (va_Pc [.long x0] (HB bs D y I J)) (QcI bs D y r) 0 0 (FA bs) := by
  refine Met.ofW (cc := cJ13_bitCount_95d88) (maxL := 2) (ret := (some .int)) (by decide) rfl ?_
  intro p e s m args below meth c s₁ B hml hv
  obtain ⟨rfl, hP, hK, hN, hL⟩ := hv
  have hx := B.exec
  have hb := B.bytes
  have hr := B.returns
  have hts0 := atoms_spec (ws := .code yJ13_bitCount_95d88 cJ13_bitCount_95d88 2 (some .int) :: gtb) B.pre
  have hts : ∀ w ∈ gtb, w.before [.long x0].toArray s = true := fun w hw => hts0 w (List.mem_cons_of_mem _ hw)
  have hown : s.vm.findClass RJ13 = some m.cls := findClass_of_methodNamed B.named
  have hlocks := B.notSynchronized
  have hS : va_S (FA bs) s.heap s.heap [] := va_S.rf
  have Gc : Gx p s m [.long x0].toArray meth c cJ13_bitCount_95d88 2 RJ13 bs D y (some .int) 44 := ⟨hx, hb, hml, hown, hts, hK, hN, hL, hr, hlocks, hcb⟩
  have hl := lv_entry [.long x0] (n := 2) (Nat.le_of_ble_eq_true rfl)
  rw [lg_entry_eq]
  generalize (lg_sl [.long x0] ++ List.replicate (2 - (lg_sl [.long x0]).length) Slot.unset).toArray = ls at hl ⊢
  have hl : lv_has ls 2 [(0, .long x0)] := hl
  change W p l e (rmm 0 0) s m [.long x0].toArray below meth c s.heap [] 0 0 (QI below [.long x0].toArray s bs D y r) (F0 m 0 ls [])
  unfold fJ13_bitCount_95d88 at h
  refine lv_lload_n hx hb dJ13_bitCount_95d88_0 rfl (lv_at hl 0 rfl) ?_
  refine lv_lload_n hx hb dJ13_bitCount_95d88_1 rfl (lv_at hl 0 rfl) ?_
  refine lv_iconst (v := (1 : Int32)) hx hb dJ13_bitCount_95d88_2 (by decide) ?_
  refine lv_lushr (v := (ushrL x0 (1 : Int32))) hx hb dJ13_bitCount_95d88_3 rfl ?_
  refine lv_ldc2 hx hb hown (hts _ cl_0) dJ13_bitCount_95d88_4 ?_
  refine lv_land hx hb dJ13_bitCount_95d88_7 ?_
  refine lv_lsub hx hb dJ13_bitCount_95d88_8 ?_
  obtain ⟨v9, ev9, h⟩ := lt_s1 h
  refine top_j ev9 ?_
  refine lv_lstore_n (lv' := [(0, .long v9)]) hx hb dJ13_bitCount_95d88_9 rfl hl (by decide) rfl (fun ls hl => ?_)
  refine lv_lload_n hx hb dJ13_bitCount_95d88_10 rfl (lv_at hl 0 rfl) ?_
  refine lv_ldc2 hx hb hown (hts _ cl_1) dJ13_bitCount_95d88_11 ?_
  refine lv_land hx hb dJ13_bitCount_95d88_14 ?_
  refine lv_lload_n hx hb dJ13_bitCount_95d88_15 rfl (lv_at hl 0 rfl) ?_
  refine lv_iconst (v := (2 : Int32)) hx hb dJ13_bitCount_95d88_16 (by decide) ?_
  refine lv_lushr (v := (ushrL v9 (2 : Int32))) hx hb dJ13_bitCount_95d88_17 rfl ?_
  refine lv_ldc2 hx hb hown (hts _ cl_1) dJ13_bitCount_95d88_18 ?_
  refine lv_land hx hb dJ13_bitCount_95d88_21 ?_
  refine lv_ladd hx hb dJ13_bitCount_95d88_22 ?_
  obtain ⟨v23, ev23, h⟩ := lt_s1 h
  refine top_j ev23 ?_
  refine lv_lstore_n (lv' := [(0, .long v23)]) hx hb dJ13_bitCount_95d88_23 rfl hl (by decide) rfl (fun ls hl => ?_)
  refine lv_lload_n hx hb dJ13_bitCount_95d88_24 rfl (lv_at hl 0 rfl) ?_
  refine lv_lload_n hx hb dJ13_bitCount_95d88_25 rfl (lv_at hl 0 rfl) ?_
  refine lv_iconst (v := (4 : Int32)) hx hb dJ13_bitCount_95d88_26 (by decide) ?_
  refine lv_lushr (v := (ushrL v23 (4 : Int32))) hx hb dJ13_bitCount_95d88_27 rfl ?_
  refine lv_ladd hx hb dJ13_bitCount_95d88_28 ?_
  refine lv_ldc2 hx hb hown (hts _ cl_2) dJ13_bitCount_95d88_29 ?_
  refine lv_land hx hb dJ13_bitCount_95d88_32 ?_
  obtain ⟨v33, ev33, h⟩ := lt_s1 h
  refine top_j ev33 ?_
  refine lv_lstore_n (lv' := [(0, .long v33)]) hx hb dJ13_bitCount_95d88_33 rfl hl (by decide) rfl (fun ls hl => ?_)
  refine lv_lload_n hx hb dJ13_bitCount_95d88_34 rfl (lv_at hl 0 rfl) ?_
  refine lv_lload_n hx hb dJ13_bitCount_95d88_35 rfl (lv_at hl 0 rfl) ?_
  refine lv_bipush (v := (8 : Int32)) hx hb dJ13_bitCount_95d88_36 (by decide) ?_
  refine lv_lushr (v := (ushrL v33 (8 : Int32))) hx hb dJ13_bitCount_95d88_38 rfl ?_
  refine lv_ladd hx hb dJ13_bitCount_95d88_39 ?_
  obtain ⟨v40, ev40, h⟩ := lt_s1 h
  refine top_j ev40 ?_
  refine lv_lstore_n (lv' := [(0, .long v40)]) hx hb dJ13_bitCount_95d88_40 rfl hl (by decide) rfl (fun ls hl => ?_)
  refine lv_lload_n hx hb dJ13_bitCount_95d88_41 rfl (lv_at hl 0 rfl) ?_
  refine lv_lload_n hx hb dJ13_bitCount_95d88_42 rfl (lv_at hl 0 rfl) ?_
  refine lv_bipush (v := (16 : Int32)) hx hb dJ13_bitCount_95d88_43 (by decide) ?_
  refine lv_lushr (v := (ushrL v40 (16 : Int32))) hx hb dJ13_bitCount_95d88_45 rfl ?_
  refine lv_ladd hx hb dJ13_bitCount_95d88_46 ?_
  obtain ⟨v47, ev47, h⟩ := lt_s1 h
  refine top_j ev47 ?_
  refine lv_lstore_n (lv' := [(0, .long v47)]) hx hb dJ13_bitCount_95d88_47 rfl hl (by decide) rfl (fun ls hl => ?_)
  refine lv_lload_n hx hb dJ13_bitCount_95d88_48 rfl (lv_at hl 0 rfl) ?_
  refine lv_lload_n hx hb dJ13_bitCount_95d88_49 rfl (lv_at hl 0 rfl) ?_
  refine lv_bipush (v := (32 : Int32)) hx hb dJ13_bitCount_95d88_50 (by decide) ?_
  refine lv_lushr (v := (ushrL v47 (32 : Int32))) hx hb dJ13_bitCount_95d88_52 rfl ?_
  refine lv_ladd hx hb dJ13_bitCount_95d88_53 ?_
  obtain ⟨v54, ev54, h⟩ := lt_s1 h
  refine top_j ev54 ?_
  refine lv_lstore_n (lv' := [(0, .long v54)]) hx hb dJ13_bitCount_95d88_54 rfl hl (by decide) rfl (fun ls hl => ?_)
  refine lv_lload_n hx hb dJ13_bitCount_95d88_55 rfl (lv_at hl 0 rfl) ?_
  refine lv_l2i (v := (v54).toInt32) hx hb dJ13_bitCount_95d88_56 rfl ?_
  refine lv_bipush (v := (127 : Int32)) hx hb dJ13_bitCount_95d88_57 (by decide) ?_
  refine lv_iand hx hb dJ13_bitCount_95d88_59 ?_
  exact r_I hx hb hr hlocks hP hK hN hL hS h dJ13_bitCount_95d88_60
theorem dX0_insert_0 : decode cX0_insert 0 = .ok (.iload_n 1, 1) := by decide +kernel
theorem dX0_insert_1 : decode cX0_insert 1 = .ok (.bipush 40, 2) := by decide +kernel
theorem dX0_insert_3 : decode cX0_insert 3 = .ok (.imul, 1) := by decide +kernel
theorem dX0_insert_4 : decode cX0_insert 4 = .ok (.istore 4, 2) := by decide +kernel
theorem dX0_insert_6 : decode cX0_insert 6 = .ok (.aload_n 0, 1) := by decide +kernel
theorem dX0_insert_7 : decode cX0_insert 7 = .ok (.getfield 9, 3) := by decide +kernel
theorem dX0_insert_10 : decode cX0_insert 10 = .ok (.iload_n 1, 1) := by decide +kernel
theorem dX0_insert_11 : decode cX0_insert 11 = .ok (.iaload, 1) := by decide +kernel
theorem dX0_insert_12 : decode cX0_insert 12 = .ok (.istore 5, 2) := by decide +kernel
theorem dX0_insert_14 : decode cX0_insert 14 = .ok (.iload 5, 2) := by decide +kernel
theorem dX0_insert_16 : decode cX0_insert 16 = .ok (.istore 6, 2) := by decide +kernel
theorem dX0_insert_18 : decode cX0_insert 18 = .ok (.iload 6, 2) := by decide +kernel
theorem dX0_insert_20 : decode cX0_insert 20 = .ok (.ifCond .le 26, 3) := by decide +kernel
theorem dX0_insert_23 : decode cX0_insert 23 = .ok (.aload_n 0, 1) := by decide +kernel
theorem dX0_insert_24 : decode cX0_insert 24 = .ok (.getfield 18, 3) := by decide +kernel
theorem dX0_insert_27 : decode cX0_insert 27 = .ok (.iload 4, 2) := by decide +kernel
theorem dX0_insert_29 : decode cX0_insert 29 = .ok (.iload 6, 2) := by decide +kernel
theorem dX0_insert_31 : decode cX0_insert 31 = .ok (.iadd, 1) := by decide +kernel
theorem dX0_insert_32 : decode cX0_insert 32 = .ok (.iconst 1, 1) := by decide +kernel
theorem dX0_insert_33 : decode cX0_insert 33 = .ok (.isub, 1) := by decide +kernel
theorem dX0_insert_34 : decode cX0_insert 34 = .ok (.laload, 1) := by decide +kernel
theorem dX0_insert_35 : decode cX0_insert 35 = .ok (.lload_n 2, 1) := by decide +kernel
theorem dX0_insert_36 : decode cX0_insert 36 = .ok (.lcmp, 1) := by decide +kernel
theorem dX0_insert_37 : decode cX0_insert 37 = .ok (.ifCond .lt 9, 3) := by decide +kernel
theorem dX0_insert_40 : decode cX0_insert 40 = .ok (.iinc 6 (-1), 3) := by decide +kernel
theorem dX0_insert_43 : decode cX0_insert 43 = .ok (.goto (-25), 3) := by decide +kernel
theorem dX0_insert_46 : decode cX0_insert 46 = .ok (.iload 6, 2) := by decide +kernel
theorem dX0_insert_48 : decode cX0_insert 48 = .ok (.iload 5, 2) := by decide +kernel
theorem dX0_insert_50 : decode cX0_insert 50 = .ok (.if_icmp .ge 22, 3) := by decide +kernel
theorem dX0_insert_53 : decode cX0_insert 53 = .ok (.aload_n 0, 1) := by decide +kernel
theorem dX0_insert_54 : decode cX0_insert 54 = .ok (.getfield 18, 3) := by decide +kernel
theorem dX0_insert_57 : decode cX0_insert 57 = .ok (.iload 4, 2) := by decide +kernel
theorem dX0_insert_59 : decode cX0_insert 59 = .ok (.iload 6, 2) := by decide +kernel
theorem dX0_insert_61 : decode cX0_insert 61 = .ok (.iadd, 1) := by decide +kernel
theorem dX0_insert_62 : decode cX0_insert 62 = .ok (.laload, 1) := by decide +kernel
theorem dX0_insert_63 : decode cX0_insert 63 = .ok (.lload_n 2, 1) := by decide +kernel
theorem dX0_insert_64 : decode cX0_insert 64 = .ok (.lcmp, 1) := by decide +kernel
theorem dX0_insert_65 : decode cX0_insert 65 = .ok (.ifCond .ne 7, 3) := by decide +kernel
theorem dX0_insert_68 : decode cX0_insert 68 = .ok (.iconst 1, 1) := by decide +kernel
theorem dX0_insert_69 : decode cX0_insert 69 = .ok (.goto 4, 3) := by decide +kernel
theorem dX0_insert_72 : decode cX0_insert 72 = .ok (.iconst 0, 1) := by decide +kernel
theorem dX0_insert_73 : decode cX0_insert 73 = .ok (.istore 7, 2) := by decide +kernel
theorem dX0_insert_75 : decode cX0_insert 75 = .ok (.iload 7, 2) := by decide +kernel
theorem dX0_insert_77 : decode cX0_insert 77 = .ok (.ifCond .ne 10, 3) := by decide +kernel
theorem dX0_insert_80 : decode cX0_insert 80 = .ok (.iload 6, 2) := by decide +kernel
theorem dX0_insert_82 : decode cX0_insert 82 = .ok (.bipush 40, 2) := by decide +kernel
theorem dX0_insert_84 : decode cX0_insert 84 = .ok (.if_icmp .lt 4, 3) := by decide +kernel
theorem dX0_insert_87 : decode cX0_insert 87 = .ok (.return_, 1) := by decide +kernel
theorem dX0_insert_88 : decode cX0_insert 88 = .ok (.iload 5, 2) := by decide +kernel
theorem dX0_insert_90 : decode cX0_insert 90 = .ok (.bipush 39, 2) := by decide +kernel
theorem dX0_insert_92 : decode cX0_insert 92 = .ok (.invokestatic 52, 3) := by decide +kernel
theorem dX0_insert_95 : decode cX0_insert 95 = .ok (.istore 8, 2) := by decide +kernel
theorem dX0_insert_97 : decode cX0_insert 97 = .ok (.iload 8, 2) := by decide +kernel
theorem dX0_insert_99 : decode cX0_insert 99 = .ok (.istore 9, 2) := by decide +kernel
theorem dX0_insert_101 : decode cX0_insert 101 = .ok (.iload 9, 2) := by decide +kernel
theorem dX0_insert_103 : decode cX0_insert 103 = .ok (.iload 6, 2) := by decide +kernel
theorem dX0_insert_105 : decode cX0_insert 105 = .ok (.if_icmp .le 31, 3) := by decide +kernel
theorem dX0_insert_108 : decode cX0_insert 108 = .ok (.aload_n 0, 1) := by decide +kernel
theorem dX0_insert_109 : decode cX0_insert 109 = .ok (.getfield 18, 3) := by decide +kernel
theorem dX0_insert_112 : decode cX0_insert 112 = .ok (.iload 4, 2) := by decide +kernel
theorem dX0_insert_114 : decode cX0_insert 114 = .ok (.iload 9, 2) := by decide +kernel
theorem dX0_insert_116 : decode cX0_insert 116 = .ok (.iadd, 1) := by decide +kernel
theorem dX0_insert_117 : decode cX0_insert 117 = .ok (.aload_n 0, 1) := by decide +kernel
theorem dX0_insert_118 : decode cX0_insert 118 = .ok (.getfield 18, 3) := by decide +kernel
theorem dX0_insert_121 : decode cX0_insert 121 = .ok (.iload 4, 2) := by decide +kernel
theorem dX0_insert_123 : decode cX0_insert 123 = .ok (.iload 9, 2) := by decide +kernel
theorem dX0_insert_125 : decode cX0_insert 125 = .ok (.iadd, 1) := by decide +kernel
theorem dX0_insert_126 : decode cX0_insert 126 = .ok (.iconst 1, 1) := by decide +kernel
theorem dX0_insert_127 : decode cX0_insert 127 = .ok (.isub, 1) := by decide +kernel
theorem dX0_insert_128 : decode cX0_insert 128 = .ok (.laload, 1) := by decide +kernel
theorem dX0_insert_129 : decode cX0_insert 129 = .ok (.lastore, 1) := by decide +kernel
theorem dX0_insert_130 : decode cX0_insert 130 = .ok (.iinc 9 (-1), 3) := by decide +kernel
theorem dX0_insert_133 : decode cX0_insert 133 = .ok (.goto (-32), 3) := by decide +kernel
theorem dX0_insert_136 : decode cX0_insert 136 = .ok (.aload_n 0, 1) := by decide +kernel
theorem dX0_insert_137 : decode cX0_insert 137 = .ok (.getfield 18, 3) := by decide +kernel
theorem dX0_insert_140 : decode cX0_insert 140 = .ok (.iload 4, 2) := by decide +kernel
theorem dX0_insert_142 : decode cX0_insert 142 = .ok (.iload 6, 2) := by decide +kernel
theorem dX0_insert_144 : decode cX0_insert 144 = .ok (.iadd, 1) := by decide +kernel
theorem dX0_insert_145 : decode cX0_insert 145 = .ok (.lload_n 2, 1) := by decide +kernel
theorem dX0_insert_146 : decode cX0_insert 146 = .ok (.lastore, 1) := by decide +kernel
theorem dX0_insert_147 : decode cX0_insert 147 = .ok (.aload_n 0, 1) := by decide +kernel
theorem dX0_insert_148 : decode cX0_insert 148 = .ok (.getfield 9, 3) := by decide +kernel
theorem dX0_insert_151 : decode cX0_insert 151 = .ok (.iload_n 1, 1) := by decide +kernel
theorem dX0_insert_152 : decode cX0_insert 152 = .ok (.iload 8, 2) := by decide +kernel
theorem dX0_insert_154 : decode cX0_insert 154 = .ok (.iconst 1, 1) := by decide +kernel
theorem dX0_insert_155 : decode cX0_insert 155 = .ok (.iadd, 1) := by decide +kernel
theorem dX0_insert_156 : decode cX0_insert 156 = .ok (.iastore, 1) := by decide +kernel
theorem dX0_insert_157 : decode cX0_insert 157 = .ok (.return_, 1) := by decide +kernel
set_option maxHeartbeats 4000000 in
set_option maxRecDepth 100000 in
theorem wX0_insert_101 {p : Program} {l : Launch} {e : Env} {s : State} {m : MethodId} {args : Array Value} {below : List Frame} {meth : Method} {c : Code} (bs : Nat) (D : va_G) (y : Y3) (n : Nat) (k101_ : Int32 → Int64 → Int32 → Int32 → Int32 → Int32 → MI → MJ → Option (M2)) (r : M2) (Gc : Gx p s m args meth c cX0_insert 10 RX0 bs D y none 44) (hk101_ : ∀ (x1 : Int32) (x2 : Int64) (x4 : Int32) (x6 : Int32) (x8 : Int32) (x9 : Int32) (I : MI) (J : MJ) (H : Heap) (locs : List Loc) (ls : Array Slot), va_P D vwCl (wl bs y I J) H → va_S (FA bs) s.heap H locs → lv_has ls 10 [(0, .ref (bs + 7)), (1, .int x1), (2, .long x2), (4, .int x4), (6, .int x6), (8, .int x8), (9, .int x9)] → k101_ x1 x2 x4 x6 x8 x9 I J = some r → W p l e (rmm 1 21) s m args below meth c H locs 0 0 (QV below args s bs D y r) (F0 m 101 ls [])) (x1 : Int32) (x2 : Int64) (x4 : Int32) (x6 : Int32) (x8 : Int32) (x9 : Int32) (I : MI) (J : MJ) (H : Heap) (locs : List Loc) (ls : Array Slot) (hP : va_P D vwCl (wl bs y I J) H) (hS : va_S (FA bs) s.heap H locs) (hl : lv_has ls 10 [(0, .ref (bs + 7)), (1, .int x1), (2, .long x2), (4, .int x4), (6, .int x6), (8, .int x8), (9, .int x9)]) (h : fX0_insert_101 n k101_ x1 x2 x4 x6 x8 x9 I J = some r) : W p l e (rmm 1 21) s m args below meth c H locs 0 0 (QV below args s bs D y r) (F0 m 101 ls []) := by
  obtain ⟨hx, hb, hml, hown, hts, hK, hN, hL, hr, hlocks, hcb⟩ := id Gc
  unfold fX0_insert_101 at h
  refine lv_iload hx hb dX0_insert_101 (lv_at hl 6 rfl) ?_
  refine lv_iload hx hb dX0_insert_103 (lv_at hl 4 rfl) ?_
  refine lv_icmp_le (tgt := 136) hx hb dX0_insert_105 (by decide) (fun c105 => ?_) (fun c105 => ?_)
  · replace h := if_t c105 h
    refine lv_aload_n hx hb dX0_insert_136 rfl (lv_at hl 0 rfl) ?_
    refine g_R (C := RX0) (T := TX0) (N := 3) (ci := 0) 7 2 10 hx hb hts hown hK hP in_X0 rfl hcb okF_7_2 rfc_7_2 fl_2 dX0_insert_137 ?_
    refine lv_iload hx hb dX0_insert_140 (lv_at hl 3 rfl) ?_
    refine lv_iload hx hb dX0_insert_142 (lv_at hl 4 rfl) ?_
    refine lv_iadd hx hb dX0_insert_144 ?_
    refine lv_lload_n hx hb dX0_insert_145 rfl (lv_at hl 2 rfl) ?_
    obtain ⟨hi146, h⟩ := if_s1 h
    obtain ⟨J146, eJ146, h⟩ := lt_s1 h
    refine t_J 10 eJ146 hx hb hK hP hS hcb alJ_10 hi146 dX0_insert_146 (fun H locs hP hS => ?_)
    refine lv_aload_n hx hb dX0_insert_147 rfl (lv_at hl 0 rfl) ?_
    refine g_R (C := RX0) (T := TX0) (N := 3) (ci := 0) 7 0 8 hx hb hts hown hK hP in_X0 rfl hcb okF_7_0 rfc_7_0 fl_0 dX0_insert_148 ?_
    refine lv_iload_n hx hb dX0_insert_151 rfl (lv_at hl 1 rfl) ?_
    refine lv_iload hx hb dX0_insert_152 (lv_at hl 5 rfl) ?_
    refine lv_iconst (v := (1 : Int32)) hx hb dX0_insert_154 (by decide) ?_
    refine lv_iadd hx hb dX0_insert_155 ?_
    obtain ⟨hi156, h⟩ := if_s1 h
    obtain ⟨I156, eI156, h⟩ := lt_s1 h
    refine t_I 8 eI156 hx hb hK hP hS hcb aln_8 hi156 dX0_insert_156 (fun H locs hP hS => ?_)
    exact r_V hx hb hr hlocks hP hK hN hL hS h dX0_insert_157
  · replace h := if_f c105 h
    refine lv_aload_n hx hb dX0_insert_108 rfl (lv_at hl 0 rfl) ?_
    refine g_R (C := RX0) (T := TX0) (N := 3) (ci := 0) 7 2 10 hx hb hts hown hK hP in_X0 rfl hcb okF_7_2 rfc_7_2 fl_2 dX0_insert_109 ?_
    refine lv_iload hx hb dX0_insert_112 (lv_at hl 3 rfl) ?_
    refine lv_iload hx hb dX0_insert_114 (lv_at hl 6 rfl) ?_
    refine lv_iadd hx hb dX0_insert_116 ?_
    refine lv_aload_n hx hb dX0_insert_117 rfl (lv_at hl 0 rfl) ?_
    refine g_R (C := RX0) (T := TX0) (N := 3) (ci := 0) 7 2 10 hx hb hts hown hK hP in_X0 rfl hcb okF_7_2 rfc_7_2 fl_2 dX0_insert_118 ?_
    refine lv_iload hx hb dX0_insert_121 (lv_at hl 3 rfl) ?_
    refine lv_iload hx hb dX0_insert_123 (lv_at hl 6 rfl) ?_
    refine lv_iadd hx hb dX0_insert_125 ?_
    refine lv_iconst (v := (1 : Int32)) hx hb dX0_insert_126 (by decide) ?_
    refine lv_isub hx hb dX0_insert_127 ?_
    obtain ⟨hi128, h⟩ := if_s1 h
    refine a_J 10 hx hb hK hP hcb alJ_10 hi128 dX0_insert_128 ?_
    obtain ⟨hi129, h⟩ := if_s1 h
    obtain ⟨J129, eJ129, h⟩ := lt_s1 h
    refine t_J 10 eJ129 hx hb hK hP hS hcb alJ_10 hi129 dX0_insert_129 (fun H locs hP hS => ?_)
    refine lv_iinc (v := (x9 + (-1 : Int32))) (lv' := [(9, .int (x9 + (-1 : Int32))), (0, .ref (bs + 7)), (1, .int x1), (2, .long x2), (4, .int x4), (6, .int x6), (8, .int x8)]) hx hb dX0_insert_130 hl (k := 6) rfl rfl (by decide) rfl (fun ls hl => ?_)
    refine lv_goto (tgt := 101) hx hb dX0_insert_133 (by decide) ?_
    exact hk101_ x1 x2 x4 x6 x8 (x9 + (-1 : Int32)) I J129 _ _ _ hP hS (lv_sub hl [1, 2, 3, 4, 5, 6, 0] rfl) h
theorem vX0_insert_101 {p : Program} {l : Launch} {e : Env} {s : State} {m : MethodId} {args : Array Value} {below : List Frame} {meth : Method} {c : Code} (bs : Nat) (D : va_G) (y : Y3) (n : Nat) (r : M2) (Gc : Gx p s m args meth c cX0_insert 10 RX0 bs D y none 44)  : ∀ (q : Nat) (x1 : Int32) (x2 : Int64) (x4 : Int32) (x6 : Int32) (x8 : Int32) (x9 : Int32) (I : MI) (J : MJ) (H : Heap) (locs : List Loc) (ls : Array Slot), va_P D vwCl (wl bs y I J) H → va_S (FA bs) s.heap H locs → lv_has ls 10 [(0, .ref (bs + 7)), (1, .int x1), (2, .long x2), (4, .int x4), (6, .int x6), (8, .int x8), (9, .int x9)] → lX0_insert_101 n  q x1 x2 x4 x6 x8 x9 I J = some r → W p l e (rmm 1 21) s m args below meth c H locs 0 0 (QV below args s bs D y r) (F0 m 101 ls []) := by
  intro q
  induction q with
  | zero =>
    intro x1 x2 x4 x6 x8 x9 I J H locs ls hP hS hl h
    have h : (none : Option (M2)) = some r := h
    cases h
  | succ q ih =>
    intro x1 x2 x4 x6 x8 x9 I J H locs ls hP hS hl h
    have h : fX0_insert_101 n  (lX0_insert_101 n  q) x1 x2 x4 x6 x8 x9 I J = some r := h
    exact wX0_insert_101 bs D y n  (lX0_insert_101 n  q) r Gc  ih x1 x2 x4 x6 x8 x9 I J H locs ls hP hS hl h
set_option maxHeartbeats 4000000 in
set_option maxRecDepth 100000 in
theorem wX0_insert_73 {p : Program} {l : Launch} {e : Env} {s : State} {m : MethodId} {args : Array Value} {below : List Frame} {meth : Method} {c : Code} (bs : Nat) (D : va_G) (y : Y3) (n : Nat) (r : M2) (Gc : Gx p s m args meth c cX0_insert 10 RX0 bs D y none 44)  (x1 : Int32) (x2 : Int64) (x4 : Int32) (x5 : Int32) (x6 : Int32) (s0 : Int32) (I : MI) (J : MJ) (H : Heap) (locs : List Loc) (ls : Array Slot) (hP : va_P D vwCl (wl bs y I J) H) (hS : va_S (FA bs) s.heap H locs) (hl : lv_has ls 10 [(0, .ref (bs + 7)), (1, .int x1), (2, .long x2), (4, .int x4), (5, .int x5), (6, .int x6)]) (h : fX0_insert_73 n  x1 x2 x4 x5 x6 s0 I J = some r) : W p l e (rmm 1 21) s m args below meth c H locs 0 0 (QV below args s bs D y r) (F0 m 73 ls [.int s0]) := by
  obtain ⟨hx, hb, hml, hown, hts, hK, hN, hL, hr, hlocks, hcb⟩ := id Gc
  unfold fX0_insert_73 at h
  refine lv_istore (lv' := [(7, .int s0), (0, .ref (bs + 7)), (1, .int x1), (2, .long x2), (4, .int x4), (5, .int x5), (6, .int x6)]) hx hb dX0_insert_73 hl (by decide) rfl (fun ls hl => ?_)
  refine lv_iload hx hb dX0_insert_75 (lv_at hl 0 rfl) ?_
  refine lv_if_ne (tgt := 87) hx hb dX0_insert_77 (by decide) (fun c77 => ?_) (fun c77 => ?_)
  · replace h := if_f c77 h
    exact r_V hx hb hr hlocks hP hK hN hL hS h dX0_insert_87
  · replace h := if_t c77 h
    refine lv_iload hx hb dX0_insert_80 (lv_at hl 6 rfl) ?_
    refine lv_bipush (v := (40 : Int32)) hx hb dX0_insert_82 (by decide) ?_
    refine lv_icmp_lt (tgt := 88) hx hb dX0_insert_84 (by decide) (fun c84 => ?_) (fun c84 => ?_)
    · replace h := if_t c84 h
      refine lv_iload hx hb dX0_insert_88 (lv_at hl 5 rfl) ?_
      refine lv_bipush (v := (39 : Int32)) hx hb dX0_insert_90 (by decide) ?_
      refine va_mmin hx hb (hml.trans hl.1.symm) hown (hts _ ml_1) (hts _ ms_va_mmin) (hts _ ms_i) (hts _ mc_va_mmin) (Nat.le_of_ble_eq_true rfl) (Nat.le_of_ble_eq_true rfl) (Nat.zero_le _) (Nat.zero_le _) dX0_insert_92 ?_
      obtain ⟨v95, ev95, h⟩ := lt_s1 h
      refine top_i ev95 ?_
      refine lv_istore (lv' := [(8, .int v95), (7, .int s0), (0, .ref (bs + 7)), (1, .int x1), (2, .long x2), (4, .int x4), (5, .int x5), (6, .int x6)]) hx hb dX0_insert_95 hl (by decide) rfl (fun ls hl => ?_)
      refine lv_iload hx hb dX0_insert_97 (lv_at hl 0 rfl) ?_
      refine lv_istore (lv' := [(9, .int v95), (8, .int v95), (7, .int s0), (0, .ref (bs + 7)), (1, .int x1), (2, .long x2), (4, .int x4), (5, .int x5), (6, .int x6)]) hx hb dX0_insert_99 hl (by decide) rfl (fun ls hl => ?_)
      exact vX0_insert_101 bs D y n  r Gc  n x1 x2 x4 x6 v95 v95 I J _ _ _ hP hS (lv_sub hl [3, 4, 5, 6, 8, 1, 0] rfl) h
    · replace h := if_f c84 h
      exact r_V hx hb hr hlocks hP hK hN hL hS h dX0_insert_87
set_option maxHeartbeats 4000000 in
set_option maxRecDepth 100000 in
theorem wX0_insert_72 {p : Program} {l : Launch} {e : Env} {s : State} {m : MethodId} {args : Array Value} {below : List Frame} {meth : Method} {c : Code} (bs : Nat) (D : va_G) (y : Y3) (n : Nat) (r : M2) (Gc : Gx p s m args meth c cX0_insert 10 RX0 bs D y none 44)  (x1 : Int32) (x2 : Int64) (x4 : Int32) (x5 : Int32) (x6 : Int32) (I : MI) (J : MJ) (H : Heap) (locs : List Loc) (ls : Array Slot) (hP : va_P D vwCl (wl bs y I J) H) (hS : va_S (FA bs) s.heap H locs) (hl : lv_has ls 10 [(0, .ref (bs + 7)), (1, .int x1), (2, .long x2), (4, .int x4), (5, .int x5), (6, .int x6)]) (h : fX0_insert_72 n  x1 x2 x4 x5 x6 I J = some r) : W p l e (rmm 1 21) s m args below meth c H locs 0 0 (QV below args s bs D y r) (F0 m 72 ls []) := by
  obtain ⟨hx, hb, hml, hown, hts, hK, hN, hL, hr, hlocks, hcb⟩ := id Gc
  unfold fX0_insert_72 at h
  refine lv_iconst (v := (0 : Int32)) hx hb dX0_insert_72 (by decide) ?_
  exact wX0_insert_73 bs D y n  r Gc  x1 x2 x4 x5 x6 (0 : Int32) I J _ _ _ hP hS (lv_sub hl [0, 1, 2, 3, 4, 5] rfl) h
set_option maxHeartbeats 4000000 in
set_option maxRecDepth 100000 in
theorem wX0_insert_46 {p : Program} {l : Launch} {e : Env} {s : State} {m : MethodId} {args : Array Value} {below : List Frame} {meth : Method} {c : Code} (bs : Nat) (D : va_G) (y : Y3) (n : Nat) (r : M2) (Gc : Gx p s m args meth c cX0_insert 10 RX0 bs D y none 44)  (x1 : Int32) (x2 : Int64) (x4 : Int32) (x5 : Int32) (x6 : Int32) (I : MI) (J : MJ) (H : Heap) (locs : List Loc) (ls : Array Slot) (hP : va_P D vwCl (wl bs y I J) H) (hS : va_S (FA bs) s.heap H locs) (hl : lv_has ls 10 [(0, .ref (bs + 7)), (1, .int x1), (2, .long x2), (4, .int x4), (5, .int x5), (6, .int x6)]) (h : fX0_insert_46 n  x1 x2 x4 x5 x6 I J = some r) : W p l e (rmm 1 21) s m args below meth c H locs 0 0 (QV below args s bs D y r) (F0 m 46 ls []) := by
  obtain ⟨hx, hb, hml, hown, hts, hK, hN, hL, hr, hlocks, hcb⟩ := id Gc
  unfold fX0_insert_46 at h
  refine lv_iload hx hb dX0_insert_46 (lv_at hl 5 rfl) ?_
  refine lv_iload hx hb dX0_insert_48 (lv_at hl 4 rfl) ?_
  refine lv_icmp_ge (tgt := 72) hx hb dX0_insert_50 (by decide) (fun c50 => ?_) (fun c50 => ?_)
  · replace h := if_t c50 h
    exact wX0_insert_72 bs D y n  r Gc  x1 x2 x4 x5 x6 I J _ _ _ hP hS (lv_sub hl [0, 1, 2, 3, 4, 5] rfl) h
  · replace h := if_f c50 h
    refine lv_aload_n hx hb dX0_insert_53 rfl (lv_at hl 0 rfl) ?_
    refine g_R (C := RX0) (T := TX0) (N := 3) (ci := 0) 7 2 10 hx hb hts hown hK hP in_X0 rfl hcb okF_7_2 rfc_7_2 fl_2 dX0_insert_54 ?_
    refine lv_iload hx hb dX0_insert_57 (lv_at hl 3 rfl) ?_
    refine lv_iload hx hb dX0_insert_59 (lv_at hl 5 rfl) ?_
    refine lv_iadd hx hb dX0_insert_61 ?_
    obtain ⟨hi62, h⟩ := if_s1 h
    refine a_J 10 hx hb hK hP hcb alJ_10 hi62 dX0_insert_62 ?_
    refine lv_lload_n hx hb dX0_insert_63 rfl (lv_at hl 2 rfl) ?_
    refine W.lcmp hx hb dX0_insert_64 ?_
    refine lv_if_ne (tgt := 72) hx hb dX0_insert_65 (by decide) (fun c65 => ?_) (fun c65 => ?_)
    · replace h := if_f c65 h
      exact wX0_insert_72 bs D y n  r Gc  x1 x2 x4 x5 x6 I J _ _ _ hP hS (lv_sub hl [0, 1, 2, 3, 4, 5] rfl) h
    · replace h := if_t c65 h
      refine lv_iconst (v := (1 : Int32)) hx hb dX0_insert_68 (by decide) ?_
      refine lv_goto (tgt := 73) hx hb dX0_insert_69 (by decide) ?_
      exact wX0_insert_73 bs D y n  r Gc  x1 x2 x4 x5 x6 (1 : Int32) I J _ _ _ hP hS (lv_sub hl [0, 1, 2, 3, 4, 5] rfl) h
set_option maxHeartbeats 4000000 in
set_option maxRecDepth 100000 in
theorem wX0_insert_18 {p : Program} {l : Launch} {e : Env} {s : State} {m : MethodId} {args : Array Value} {below : List Frame} {meth : Method} {c : Code} (bs : Nat) (D : va_G) (y : Y3) (n : Nat) (k18_ : Int32 → Int64 → Int32 → Int32 → Int32 → MI → MJ → Option (M2)) (r : M2) (Gc : Gx p s m args meth c cX0_insert 10 RX0 bs D y none 44) (hk18_ : ∀ (x1 : Int32) (x2 : Int64) (x4 : Int32) (x5 : Int32) (x6 : Int32) (I : MI) (J : MJ) (H : Heap) (locs : List Loc) (ls : Array Slot), va_P D vwCl (wl bs y I J) H → va_S (FA bs) s.heap H locs → lv_has ls 10 [(0, .ref (bs + 7)), (1, .int x1), (2, .long x2), (4, .int x4), (5, .int x5), (6, .int x6)] → k18_ x1 x2 x4 x5 x6 I J = some r → W p l e (rmm 1 21) s m args below meth c H locs 0 0 (QV below args s bs D y r) (F0 m 18 ls [])) (x1 : Int32) (x2 : Int64) (x4 : Int32) (x5 : Int32) (x6 : Int32) (I : MI) (J : MJ) (H : Heap) (locs : List Loc) (ls : Array Slot) (hP : va_P D vwCl (wl bs y I J) H) (hS : va_S (FA bs) s.heap H locs) (hl : lv_has ls 10 [(0, .ref (bs + 7)), (1, .int x1), (2, .long x2), (4, .int x4), (5, .int x5), (6, .int x6)]) (h : fX0_insert_18 n k18_ x1 x2 x4 x5 x6 I J = some r) : W p l e (rmm 1 21) s m args below meth c H locs 0 0 (QV below args s bs D y r) (F0 m 18 ls []) := by
  obtain ⟨hx, hb, hml, hown, hts, hK, hN, hL, hr, hlocks, hcb⟩ := id Gc
  unfold fX0_insert_18 at h
  refine lv_iload hx hb dX0_insert_18 (lv_at hl 5 rfl) ?_
  refine lv_if_le (tgt := 46) hx hb dX0_insert_20 (by decide) (fun c20 => ?_) (fun c20 => ?_)
  · replace h := if_t c20 h
    exact wX0_insert_46 bs D y n  r Gc  x1 x2 x4 x5 x6 I J _ _ _ hP hS (lv_sub hl [0, 1, 2, 3, 4, 5] rfl) h
  · replace h := if_f c20 h
    refine lv_aload_n hx hb dX0_insert_23 rfl (lv_at hl 0 rfl) ?_
    refine g_R (C := RX0) (T := TX0) (N := 3) (ci := 0) 7 2 10 hx hb hts hown hK hP in_X0 rfl hcb okF_7_2 rfc_7_2 fl_2 dX0_insert_24 ?_
    refine lv_iload hx hb dX0_insert_27 (lv_at hl 3 rfl) ?_
    refine lv_iload hx hb dX0_insert_29 (lv_at hl 5 rfl) ?_
    refine lv_iadd hx hb dX0_insert_31 ?_
    refine lv_iconst (v := (1 : Int32)) hx hb dX0_insert_32 (by decide) ?_
    refine lv_isub hx hb dX0_insert_33 ?_
    obtain ⟨hi34, h⟩ := if_s1 h
    refine a_J 10 hx hb hK hP hcb alJ_10 hi34 dX0_insert_34 ?_
    refine lv_lload_n hx hb dX0_insert_35 rfl (lv_at hl 2 rfl) ?_
    refine W.lcmp hx hb dX0_insert_36 ?_
    refine lv_if_lt (tgt := 46) hx hb dX0_insert_37 (by decide) (fun c37 => ?_) (fun c37 => ?_)
    · replace h := if_t c37 h
      exact wX0_insert_46 bs D y n  r Gc  x1 x2 x4 x5 x6 I J _ _ _ hP hS (lv_sub hl [0, 1, 2, 3, 4, 5] rfl) h
    · replace h := if_f c37 h
      refine lv_iinc (v := (x6 + (-1 : Int32))) (lv' := [(6, .int (x6 + (-1 : Int32))), (0, .ref (bs + 7)), (1, .int x1), (2, .long x2), (4, .int x4), (5, .int x5)]) hx hb dX0_insert_40 hl (k := 5) rfl rfl (by decide) rfl (fun ls hl => ?_)
      refine lv_goto (tgt := 18) hx hb dX0_insert_43 (by decide) ?_
      exact hk18_ x1 x2 x4 x5 (x6 + (-1 : Int32)) I J _ _ _ hP hS (lv_sub hl [1, 2, 3, 4, 5, 0] rfl) h
theorem vX0_insert_18 {p : Program} {l : Launch} {e : Env} {s : State} {m : MethodId} {args : Array Value} {below : List Frame} {meth : Method} {c : Code} (bs : Nat) (D : va_G) (y : Y3) (n : Nat) (r : M2) (Gc : Gx p s m args meth c cX0_insert 10 RX0 bs D y none 44)  : ∀ (q : Nat) (x1 : Int32) (x2 : Int64) (x4 : Int32) (x5 : Int32) (x6 : Int32) (I : MI) (J : MJ) (H : Heap) (locs : List Loc) (ls : Array Slot), va_P D vwCl (wl bs y I J) H → va_S (FA bs) s.heap H locs → lv_has ls 10 [(0, .ref (bs + 7)), (1, .int x1), (2, .long x2), (4, .int x4), (5, .int x5), (6, .int x6)] → lX0_insert_18 n  q x1 x2 x4 x5 x6 I J = some r → W p l e (rmm 1 21) s m args below meth c H locs 0 0 (QV below args s bs D y r) (F0 m 18 ls []) := by
  intro q
  induction q with
  | zero =>
    intro x1 x2 x4 x5 x6 I J H locs ls hP hS hl h
    have h : (none : Option (M2)) = some r := h
    cases h
  | succ q ih =>
    intro x1 x2 x4 x5 x6 I J H locs ls hP hS hl h
    have h : fX0_insert_18 n  (lX0_insert_18 n  q) x1 x2 x4 x5 x6 I J = some r := h
    exact wX0_insert_18 bs D y n  (lX0_insert_18 n  q) r Gc  ih x1 x2 x4 x5 x6 I J H locs ls hP hS hl h
set_option maxHeartbeats 4000000 in
set_option maxRecDepth 100000 in
theorem cX0_insert_ (l : Launch) (bs : Nat) (D : va_G) (y : Y3) (hcb : 44 ≤ y.2.2.2) (n : Nat) (x1 : Int32) (x2 : Int64) (I : MI) (J : MJ) (r : M2) (h : fX0_insert n x1 x2 I J = some r) : Met l yX0_insert (.code yX0_insert cX0_insert 10 none :: gtb) (rmm 1 21) (va_Pc [.ref (bs + 7), .int x1, .long x2] (HB bs D y I J)) (QcV bs D y r) 0 0 (FA bs) := by
  refine Met.ofW (cc := cX0_insert) (maxL := 10) (ret := none) (by decide) rfl ?_
  intro p e s m args below meth c s₁ B hml hv
  obtain ⟨rfl, hP, hK, hN, hL⟩ := hv
  have hx := B.exec
  have hb := B.bytes
  have hr := B.returns
  have hts0 := atoms_spec (ws := .code yX0_insert cX0_insert 10 none :: gtb) B.pre
  have hts : ∀ w ∈ gtb, w.before [.ref (bs + 7), .int x1, .long x2].toArray s = true := fun w hw => hts0 w (List.mem_cons_of_mem _ hw)
  have hown : s.vm.findClass RX0 = some m.cls := findClass_of_methodNamed B.named
  have hlocks := B.notSynchronized
  have hS : va_S (FA bs) s.heap s.heap [] := va_S.rf
  have Gc : Gx p s m [.ref (bs + 7), .int x1, .long x2].toArray meth c cX0_insert 10 RX0 bs D y none 44 := ⟨hx, hb, hml, hown, hts, hK, hN, hL, hr, hlocks, hcb⟩
  have hl := lv_entry [.ref (bs + 7), .int x1, .long x2] (n := 10) (Nat.le_of_ble_eq_true rfl)
  rw [lg_entry_eq]
  generalize (lg_sl [.ref (bs + 7), .int x1, .long x2] ++ List.replicate (10 - (lg_sl [.ref (bs + 7), .int x1, .long x2]).length) Slot.unset).toArray = ls at hl ⊢
  have hl : lv_has ls 10 [(0, .ref (bs + 7)), (1, .int x1), (2, .long x2)] := hl
  change W p l e (rmm 1 21) s m [.ref (bs + 7), .int x1, .long x2].toArray below meth c s.heap [] 0 0 (QV below [.ref (bs + 7), .int x1, .long x2].toArray s bs D y r) (F0 m 0 ls [])
  unfold fX0_insert at h
  refine lv_iload_n hx hb dX0_insert_0 rfl (lv_at hl 1 rfl) ?_
  refine lv_bipush (v := (40 : Int32)) hx hb dX0_insert_1 (by decide) ?_
  refine lv_imul hx hb dX0_insert_3 ?_
  obtain ⟨v4, ev4, h⟩ := lt_s1 h
  refine top_i ev4 ?_
  refine lv_istore (lv' := [(4, .int v4), (0, .ref (bs + 7)), (1, .int x1), (2, .long x2)]) hx hb dX0_insert_4 hl (by decide) rfl (fun ls hl => ?_)
  refine lv_aload_n hx hb dX0_insert_6 rfl (lv_at hl 1 rfl) ?_
  refine g_R (C := RX0) (T := TX0) (N := 3) (ci := 0) 7 0 8 hx hb hts hown hK hP in_X0 rfl hcb okF_7_0 rfc_7_0 fl_0 dX0_insert_7 ?_
  refine lv_iload_n hx hb dX0_insert_10 rfl (lv_at hl 2 rfl) ?_
  obtain ⟨hi11, h⟩ := if_s1 h
  refine a_I 8 hx hb hK hP hcb aln_8 hi11 dX0_insert_11 ?_
  obtain ⟨v12, ev12, h⟩ := lt_s1 h
  refine top_i ev12 ?_
  refine lv_istore (lv' := [(5, .int v12), (4, .int v4), (0, .ref (bs + 7)), (1, .int x1), (2, .long x2)]) hx hb dX0_insert_12 hl (by decide) rfl (fun ls hl => ?_)
  refine lv_iload hx hb dX0_insert_14 (lv_at hl 0 rfl) ?_
  refine lv_istore (lv' := [(6, .int v12), (5, .int v12), (4, .int v4), (0, .ref (bs + 7)), (1, .int x1), (2, .long x2)]) hx hb dX0_insert_16 hl (by decide) rfl (fun ls hl => ?_)
  exact vX0_insert_18 bs D y n  r Gc  n x1 x2 v4 v12 v12 I J _ _ _ hP hS (lv_sub hl [3, 4, 5, 2, 1, 0] rfl) h
theorem dX0_offer_0 : decode cX0_offer 0 = .ok (.lload_n 2, 1) := by decide +kernel
theorem dX0_offer_1 : decode cX0_offer 1 = .ok (.lload 4, 2) := by decide +kernel
theorem dX0_offer_3 : decode cX0_offer 3 = .ok (.lor, 1) := by decide +kernel
theorem dX0_offer_4 : decode cX0_offer 4 = .ok (.ldc2_w 34, 3) := by decide +kernel
theorem dX0_offer_7 : decode cX0_offer 7 = .ok (.land, 1) := by decide +kernel
theorem dX0_offer_8 : decode cX0_offer 8 = .ok (.lstore 6, 2) := by decide +kernel
theorem dX0_offer_10 : decode cX0_offer 10 = .ok (.lload 6, 2) := by decide +kernel
theorem dX0_offer_12 : decode cX0_offer 12 = .ok (.invokestatic 36, 3) := by decide +kernel
theorem dX0_offer_15 : decode cX0_offer 15 = .ok (.istore 8, 2) := by decide +kernel
theorem dX0_offer_17 : decode cX0_offer 17 = .ok (.iload 8, 2) := by decide +kernel
theorem dX0_offer_19 : decode cX0_offer 19 = .ok (.iconst 4, 1) := by decide +kernel
theorem dX0_offer_20 : decode cX0_offer 20 = .ok (.if_icmp .gt 32, 3) := by decide +kernel
theorem dX0_offer_23 : decode cX0_offer 23 = .ok (.lload_n 2, 1) := by decide +kernel
theorem dX0_offer_24 : decode cX0_offer 24 = .ok (.bipush 40, 2) := by decide +kernel
theorem dX0_offer_26 : decode cX0_offer 26 = .ok (.lushr, 1) := by decide +kernel
theorem dX0_offer_27 : decode cX0_offer 27 = .ok (.lload 4, 2) := by decide +kernel
theorem dX0_offer_29 : decode cX0_offer 29 = .ok (.bipush 40, 2) := by decide +kernel
theorem dX0_offer_31 : decode cX0_offer 31 = .ok (.lushr, 1) := by decide +kernel
theorem dX0_offer_32 : decode cX0_offer 32 = .ok (.invokestatic 42, 3) := by decide +kernel
theorem dX0_offer_35 : decode cX0_offer 35 = .ok (.lstore 9, 2) := by decide +kernel
theorem dX0_offer_37 : decode cX0_offer 37 = .ok (.aload_n 0, 1) := by decide +kernel
theorem dX0_offer_38 : decode cX0_offer 38 = .ok (.iload_n 1, 1) := by decide +kernel
theorem dX0_offer_39 : decode cX0_offer 39 = .ok (.lload 9, 2) := by decide +kernel
theorem dX0_offer_41 : decode cX0_offer 41 = .ok (.iload 8, 2) := by decide +kernel
theorem dX0_offer_43 : decode cX0_offer 43 = .ok (.i2l, 1) := by decide +kernel
theorem dX0_offer_44 : decode cX0_offer 44 = .ok (.lload 6, 2) := by decide +kernel
theorem dX0_offer_46 : decode cX0_offer 46 = .ok (.invokestatic 30, 3) := by decide +kernel
theorem dX0_offer_49 : decode cX0_offer 49 = .ok (.invokevirtual 48, 3) := by decide +kernel
theorem dX0_offer_52 : decode cX0_offer 52 = .ok (.return_, 1) := by decide +kernel
set_option maxHeartbeats 4000000 in
set_option maxRecDepth 100000 in
theorem cX0_offer_ (l : Launch) (bs : Nat) (D : va_G) (y : Y3) (hcb : 44 ≤ y.2.2.2) (n : Nat) (x1 : Int32) (x2 : Int64) (x4 : Int64) (I : MI) (J : MJ) (r : M2) (h : fX0_offer n x1 x2 x4 I J = some r) : Met l yX0_offer (.code yX0_offer cX0_offer 11 none :: gtb) (rmm 2 50) (va_Pc [.ref (bs + 7), .int x1, .long x2, .long x4] (HB bs D y I J)) (QcV bs D y r) 0 0 (FA bs) := by
  refine Met.ofW (cc := cX0_offer) (maxL := 11) (ret := none) (by decide) rfl ?_
  intro p e s m args below meth c s₁ B hml hv
  obtain ⟨rfl, hP, hK, hN, hL⟩ := hv
  have hx := B.exec
  have hb := B.bytes
  have hr := B.returns
  have hts0 := atoms_spec (ws := .code yX0_offer cX0_offer 11 none :: gtb) B.pre
  have hts : ∀ w ∈ gtb, w.before [.ref (bs + 7), .int x1, .long x2, .long x4].toArray s = true := fun w hw => hts0 w (List.mem_cons_of_mem _ hw)
  have hown : s.vm.findClass RX0 = some m.cls := findClass_of_methodNamed B.named
  have hlocks := B.notSynchronized
  have hS : va_S (FA bs) s.heap s.heap [] := va_S.rf
  have Gc : Gx p s m [.ref (bs + 7), .int x1, .long x2, .long x4].toArray meth c cX0_offer 11 RX0 bs D y none 44 := ⟨hx, hb, hml, hown, hts, hK, hN, hL, hr, hlocks, hcb⟩
  have hl := lv_entry [.ref (bs + 7), .int x1, .long x2, .long x4] (n := 11) (Nat.le_of_ble_eq_true rfl)
  rw [lg_entry_eq]
  generalize (lg_sl [.ref (bs + 7), .int x1, .long x2, .long x4] ++ List.replicate (11 - (lg_sl [.ref (bs + 7), .int x1, .long x2, .long x4]).length) Slot.unset).toArray = ls at hl ⊢
  have hl : lv_has ls 11 [(0, .ref (bs + 7)), (1, .int x1), (2, .long x2), (4, .long x4)] := hl
  change W p l e (rmm 2 50) s m [.ref (bs + 7), .int x1, .long x2, .long x4].toArray below meth c s.heap [] 0 0 (QV below [.ref (bs + 7), .int x1, .long x2, .long x4].toArray s bs D y r) (F0 m 0 ls [])
  unfold fX0_offer at h
  refine lv_lload_n hx hb dX0_offer_0 rfl (lv_at hl 2 rfl) ?_
  refine lv_lload hx hb dX0_offer_1 (lv_at hl 3 rfl) ?_
  refine lv_lor hx hb dX0_offer_3 ?_
  refine lv_ldc2 hx hb hown (hts _ cl_3) dX0_offer_4 ?_
  refine lv_land hx hb dX0_offer_7 ?_
  obtain ⟨v8, ev8, h⟩ := lt_s1 h
  refine top_j ev8 ?_
  refine lv_lstore (lv' := [(6, .long v8), (0, .ref (bs + 7)), (1, .int x1), (2, .long x2), (4, .long x4)]) hx hb dX0_offer_8 hl (by decide) rfl (fun ls hl => ?_)
  refine lv_lload hx hb dX0_offer_10 (lv_at hl 0 rfl) ?_
  obtain ⟨r12, er12, h⟩ := bd_s1 h
  refine c_SI (As := [.long v8]) (rest := []) hx hb hml hown hts hK hN hL hP hS (cJ13_bitCount_95d88_ l bs D y hcb n v8 I J r12 er12) ok_J13_bitCount_95d88 ov_J13_bitCount_95d88 ml_2 ⟨Nat.le_of_ble_eq_true rfl, Nat.le_of_ble_eq_true rfl⟩ hl.1 rfl rfl (Nat.le_of_ble_eq_true rfl) ⟨Nat.zero_le _, Nat.zero_le _⟩ dX0_offer_12 (fun H locs hP hS => ?_)
  obtain ⟨v15, ev15, h⟩ := lt_s1 h
  refine top_i ev15 ?_
  refine lv_istore (lv' := [(8, .int v15), (6, .long v8), (0, .ref (bs + 7)), (1, .int x1), (2, .long x2), (4, .long x4)]) hx hb dX0_offer_15 hl (by decide) rfl (fun ls hl => ?_)
  refine lv_iload hx hb dX0_offer_17 (lv_at hl 0 rfl) ?_
  refine lv_iconst (v := (4 : Int32)) hx hb dX0_offer_19 (by decide) ?_
  refine lv_icmp_gt (tgt := 52) hx hb dX0_offer_20 (by decide) (fun c20 => ?_) (fun c20 => ?_)
  · replace h := if_t c20 h
    exact r_V hx hb hr hlocks hP hK hN hL hS h dX0_offer_52
  · replace h := if_f c20 h
    refine lv_lload_n hx hb dX0_offer_23 rfl (lv_at hl 4 rfl) ?_
    refine lv_bipush (v := (40 : Int32)) hx hb dX0_offer_24 (by decide) ?_
    refine lv_lushr (v := (ushrL x2 (40 : Int32))) hx hb dX0_offer_26 rfl ?_
    refine lv_lload hx hb dX0_offer_27 (lv_at hl 5 rfl) ?_
    refine lv_bipush (v := (40 : Int32)) hx hb dX0_offer_29 (by decide) ?_
    refine lv_lushr (v := (ushrL x4 (40 : Int32))) hx hb dX0_offer_31 rfl ?_
    refine va_mmax_long hx hb (hml.trans hl.1.symm) hown (hts _ ml_3) (hts _ ms_va_mmax_long) (hts _ ms_i) (hts _ mc_va_mmax_long) (Nat.le_of_ble_eq_true rfl) (Nat.le_of_ble_eq_true rfl) (Nat.zero_le _) (Nat.zero_le _) dX0_offer_32 ?_
    obtain ⟨v35, ev35, h⟩ := lt_s1 h
    refine top_j ev35 ?_
    refine lv_lstore (lv' := [(9, .long v35), (8, .int v15), (6, .long v8), (0, .ref (bs + 7)), (1, .int x1), (2, .long x2), (4, .long x4)]) hx hb dX0_offer_35 hl (by decide) rfl (fun ls hl => ?_)
    refine lv_aload_n hx hb dX0_offer_37 rfl (lv_at hl 3 rfl) ?_
    refine lv_iload_n hx hb dX0_offer_38 rfl (lv_at hl 4 rfl) ?_
    refine lv_lload hx hb dX0_offer_39 (lv_at hl 0 rfl) ?_
    refine lv_iload hx hb dX0_offer_41 (lv_at hl 1 rfl) ?_
    refine lv_i2l (v := (v15).toInt64) hx hb dX0_offer_43 rfl ?_
    refine lv_lload hx hb dX0_offer_44 (lv_at hl 2 rfl) ?_
    obtain ⟨r46, er46, h⟩ := bd_s1 h
    refine c_SJ (As := [.long v35, .long (v15).toInt64, .long v8]) (rest := [.int x1, .ref (bs + 7)]) hx hb hml hown hts hK hN hL hP hS (cX0_rank_ l bs D y hcb n v35 (v15).toInt64 v8 r12.2.1 r12.2.2 r46 er46) ok_X0_rank ov_X0_rank ml_0 ⟨Nat.le_of_ble_eq_true rfl, Nat.le_of_ble_eq_true rfl⟩ hl.1 rfl rfl (Nat.le_of_ble_eq_true rfl) ⟨Nat.zero_le _, Nat.zero_le _⟩ dX0_offer_46 (fun H locs hP hS => ?_)
    obtain ⟨r49, er49, h⟩ := bd_s1 h
    refine c_VV (k := 7) (ci := 0) (As := [.int x1, .long r46.1]) (rest := []) hx hb hml hown hts hK hN hL hP hS (cX0_insert_ l bs D y hcb n x1 r46.1 r46.2.1 r46.2.2 r49 er49) ok_X0_insert ov_X0_insert ml_4 ⟨Nat.le_of_ble_eq_true rfl, Nat.le_of_ble_eq_true rfl⟩ rfl hcb kd_7 hl.1 rfl rfl (Nat.le_of_ble_eq_true rfl) ⟨Nat.zero_le _, Nat.zero_le _⟩ dX0_offer_49 (fun H locs hP hS => ?_)
    exact r_V hx hb hr hlocks hP hK hN hL hS h dX0_offer_52
theorem dX0_addGate_0 : decode cX0_addGate 0 = .ok (.aload_n 0, 1) := by decide +kernel
theorem dX0_addGate_1 : decode cX0_addGate 1 = .ok (.getfield 9, 3) := by decide +kernel
theorem dX0_addGate_4 : decode cX0_addGate 4 = .ok (.iload_n 1, 1) := by decide +kernel
theorem dX0_addGate_5 : decode cX0_addGate 5 = .ok (.iconst 0, 1) := by decide +kernel
theorem dX0_addGate_6 : decode cX0_addGate 6 = .ok (.iastore, 1) := by decide +kernel
theorem dX0_addGate_7 : decode cX0_addGate 7 = .ok (.iconst 0, 1) := by decide +kernel
theorem dX0_addGate_8 : decode cX0_addGate 8 = .ok (.istore 4, 2) := by decide +kernel
theorem dX0_addGate_10 : decode cX0_addGate 10 = .ok (.iload 4, 2) := by decide +kernel
theorem dX0_addGate_12 : decode cX0_addGate 12 = .ok (.aload_n 0, 1) := by decide +kernel
theorem dX0_addGate_13 : decode cX0_addGate 13 = .ok (.getfield 9, 3) := by decide +kernel
theorem dX0_addGate_16 : decode cX0_addGate 16 = .ok (.iload_n 2, 1) := by decide +kernel
theorem dX0_addGate_17 : decode cX0_addGate 17 = .ok (.iaload, 1) := by decide +kernel
theorem dX0_addGate_18 : decode cX0_addGate 18 = .ok (.if_icmp .gt 52, 3) := by decide +kernel
theorem dX0_addGate_21 : decode cX0_addGate 21 = .ok (.aload_n 0, 1) := by decide +kernel
theorem dX0_addGate_22 : decode cX0_addGate 22 = .ok (.iload_n 2, 1) := by decide +kernel
theorem dX0_addGate_23 : decode cX0_addGate 23 = .ok (.iload 4, 2) := by decide +kernel
theorem dX0_addGate_25 : decode cX0_addGate 25 = .ok (.invokevirtual 22, 3) := by decide +kernel
theorem dX0_addGate_28 : decode cX0_addGate 28 = .ok (.lstore 5, 2) := by decide +kernel
theorem dX0_addGate_30 : decode cX0_addGate 30 = .ok (.iconst 0, 1) := by decide +kernel
theorem dX0_addGate_31 : decode cX0_addGate 31 = .ok (.istore 7, 2) := by decide +kernel
theorem dX0_addGate_33 : decode cX0_addGate 33 = .ok (.iload 7, 2) := by decide +kernel
theorem dX0_addGate_35 : decode cX0_addGate 35 = .ok (.aload_n 0, 1) := by decide +kernel
theorem dX0_addGate_36 : decode cX0_addGate 36 = .ok (.getfield 9, 3) := by decide +kernel
theorem dX0_addGate_39 : decode cX0_addGate 39 = .ok (.iload_n 3, 1) := by decide +kernel
theorem dX0_addGate_40 : decode cX0_addGate 40 = .ok (.iaload, 1) := by decide +kernel
theorem dX0_addGate_41 : decode cX0_addGate 41 = .ok (.if_icmp .gt 23, 3) := by decide +kernel
theorem dX0_addGate_44 : decode cX0_addGate 44 = .ok (.aload_n 0, 1) := by decide +kernel
theorem dX0_addGate_45 : decode cX0_addGate 45 = .ok (.iload_n 1, 1) := by decide +kernel
theorem dX0_addGate_46 : decode cX0_addGate 46 = .ok (.lload 5, 2) := by decide +kernel
theorem dX0_addGate_48 : decode cX0_addGate 48 = .ok (.aload_n 0, 1) := by decide +kernel
theorem dX0_addGate_49 : decode cX0_addGate 49 = .ok (.iload_n 3, 1) := by decide +kernel
theorem dX0_addGate_50 : decode cX0_addGate 50 = .ok (.iload 7, 2) := by decide +kernel
theorem dX0_addGate_52 : decode cX0_addGate 52 = .ok (.invokevirtual 22, 3) := by decide +kernel
theorem dX0_addGate_55 : decode cX0_addGate 55 = .ok (.invokevirtual 26, 3) := by decide +kernel
theorem dX0_addGate_58 : decode cX0_addGate 58 = .ok (.iinc 7 1, 3) := by decide +kernel
theorem dX0_addGate_61 : decode cX0_addGate 61 = .ok (.goto (-28), 3) := by decide +kernel
theorem dX0_addGate_64 : decode cX0_addGate 64 = .ok (.iinc 4 1, 3) := by decide +kernel
theorem dX0_addGate_67 : decode cX0_addGate 67 = .ok (.goto (-57), 3) := by decide +kernel
theorem dX0_addGate_70 : decode cX0_addGate 70 = .ok (.aload_n 0, 1) := by decide +kernel
theorem dX0_addGate_71 : decode cX0_addGate 71 = .ok (.getfield 15, 3) := by decide +kernel
theorem dX0_addGate_74 : decode cX0_addGate 74 = .ok (.iload_n 1, 1) := by decide +kernel
theorem dX0_addGate_75 : decode cX0_addGate 75 = .ok (.aload_n 0, 1) := by decide +kernel
theorem dX0_addGate_76 : decode cX0_addGate 76 = .ok (.getfield 18, 3) := by decide +kernel
theorem dX0_addGate_79 : decode cX0_addGate 79 = .ok (.iload_n 1, 1) := by decide +kernel
theorem dX0_addGate_80 : decode cX0_addGate 80 = .ok (.bipush 40, 2) := by decide +kernel
theorem dX0_addGate_82 : decode cX0_addGate 82 = .ok (.imul, 1) := by decide +kernel
theorem dX0_addGate_83 : decode cX0_addGate 83 = .ok (.laload, 1) := by decide +kernel
theorem dX0_addGate_84 : decode cX0_addGate 84 = .ok (.bipush 40, 2) := by decide +kernel
theorem dX0_addGate_86 : decode cX0_addGate 86 = .ok (.lushr, 1) := by decide +kernel
theorem dX0_addGate_87 : decode cX0_addGate 87 = .ok (.l2i, 1) := by decide +kernel
theorem dX0_addGate_88 : decode cX0_addGate 88 = .ok (.iastore, 1) := by decide +kernel
theorem dX0_addGate_89 : decode cX0_addGate 89 = .ok (.return_, 1) := by decide +kernel
set_option maxHeartbeats 4000000 in
set_option maxRecDepth 100000 in
theorem wX0_addGate_33 {p : Program} {l : Launch} {e : Env} {s : State} {m : MethodId} {args : Array Value} {below : List Frame} {meth : Method} {c : Code} (bs : Nat) (D : va_G) (y : Y3) (n : Nat) (k10_ : Int32 → Int32 → Int32 → Int32 → MI → MJ → Option (M2)) (k33_ : Int32 → Int32 → Int32 → Int32 → Int64 → Int32 → MI → MJ → Option (M2)) (r : M2) (Gc : Gx p s m args meth c cX0_addGate 8 RX0 bs D y none 44) (hk10_ : ∀ (x1 : Int32) (x2 : Int32) (x3 : Int32) (x4 : Int32) (I : MI) (J : MJ) (H : Heap) (locs : List Loc) (ls : Array Slot), va_P D vwCl (wl bs y I J) H → va_S (FA bs) s.heap H locs → lv_has ls 8 [(0, .ref (bs + 7)), (1, .int x1), (2, .int x2), (3, .int x3), (4, .int x4)] → k10_ x1 x2 x3 x4 I J = some r → W p l e (rmm 3 80) s m args below meth c H locs 0 0 (QV below args s bs D y r) (F0 m 10 ls [])) (hk33_ : ∀ (x1 : Int32) (x2 : Int32) (x3 : Int32) (x4 : Int32) (x5 : Int64) (x7 : Int32) (I : MI) (J : MJ) (H : Heap) (locs : List Loc) (ls : Array Slot), va_P D vwCl (wl bs y I J) H → va_S (FA bs) s.heap H locs → lv_has ls 8 [(0, .ref (bs + 7)), (1, .int x1), (2, .int x2), (3, .int x3), (4, .int x4), (5, .long x5), (7, .int x7)] → k33_ x1 x2 x3 x4 x5 x7 I J = some r → W p l e (rmm 3 80) s m args below meth c H locs 0 0 (QV below args s bs D y r) (F0 m 33 ls [])) (x1 : Int32) (x2 : Int32) (x3 : Int32) (x4 : Int32) (x5 : Int64) (x7 : Int32) (I : MI) (J : MJ) (H : Heap) (locs : List Loc) (ls : Array Slot) (hP : va_P D vwCl (wl bs y I J) H) (hS : va_S (FA bs) s.heap H locs) (hl : lv_has ls 8 [(0, .ref (bs + 7)), (1, .int x1), (2, .int x2), (3, .int x3), (4, .int x4), (5, .long x5), (7, .int x7)]) (h : fX0_addGate_33 n k10_ k33_ x1 x2 x3 x4 x5 x7 I J = some r) : W p l e (rmm 3 80) s m args below meth c H locs 0 0 (QV below args s bs D y r) (F0 m 33 ls []) := by
  obtain ⟨hx, hb, hml, hown, hts, hK, hN, hL, hr, hlocks, hcb⟩ := id Gc
  unfold fX0_addGate_33 at h
  refine lv_iload hx hb dX0_addGate_33 (lv_at hl 6 rfl) ?_
  refine lv_aload_n hx hb dX0_addGate_35 rfl (lv_at hl 0 rfl) ?_
  refine g_R (C := RX0) (T := TX0) (N := 3) (ci := 0) 7 0 8 hx hb hts hown hK hP in_X0 rfl hcb okF_7_0 rfc_7_0 fl_0 dX0_addGate_36 ?_
  refine lv_iload_n hx hb dX0_addGate_39 rfl (lv_at hl 3 rfl) ?_
  obtain ⟨hi40, h⟩ := if_s1 h
  refine a_I 8 hx hb hK hP hcb aln_8 hi40 dX0_addGate_40 ?_
  refine lv_icmp_gt (tgt := 64) hx hb dX0_addGate_41 (by decide) (fun c41 => ?_) (fun c41 => ?_)
  · replace h := if_t c41 h
    refine lv_iinc (v := (x4 + (1 : Int32))) (lv' := [(4, .int (x4 + (1 : Int32))), (0, .ref (bs + 7)), (1, .int x1), (2, .int x2), (3, .int x3), (5, .long x5), (7, .int x7)]) hx hb dX0_addGate_64 hl (k := 4) rfl rfl (by decide) rfl (fun ls hl => ?_)
    refine lv_goto (tgt := 10) hx hb dX0_addGate_67 (by decide) ?_
    exact hk10_ x1 x2 x3 (x4 + (1 : Int32)) I J _ _ _ hP hS (lv_sub hl [1, 2, 3, 4, 0] rfl) h
  · replace h := if_f c41 h
    refine lv_aload_n hx hb dX0_addGate_44 rfl (lv_at hl 0 rfl) ?_
    refine lv_iload_n hx hb dX0_addGate_45 rfl (lv_at hl 1 rfl) ?_
    refine lv_lload hx hb dX0_addGate_46 (lv_at hl 5 rfl) ?_
    refine lv_aload_n hx hb dX0_addGate_48 rfl (lv_at hl 0 rfl) ?_
    refine lv_iload_n hx hb dX0_addGate_49 rfl (lv_at hl 3 rfl) ?_
    refine lv_iload hx hb dX0_addGate_50 (lv_at hl 6 rfl) ?_
    obtain ⟨r52, er52, h⟩ := bd_s1 h
    refine c_VJ (k := 7) (ci := 0) (As := [.int x3, .int x7]) (rest := [.long x5, .int x1, .ref (bs + 7)]) hx hb hml hown hts hK hN hL hP hS (cX0_choice_ l bs D y hcb n x3 x7 I J r52 er52) ok_X0_choice ov_X0_choice ml_5 ⟨Nat.le_of_ble_eq_true rfl, Nat.le_of_ble_eq_true rfl⟩ rfl hcb kd_7 hl.1 rfl rfl (Nat.le_of_ble_eq_true rfl) ⟨Nat.zero_le _, Nat.zero_le _⟩ dX0_addGate_52 (fun H locs hP hS => ?_)
    obtain ⟨r55, er55, h⟩ := bd_s1 h
    refine c_VV (k := 7) (ci := 0) (As := [.int x1, .long x5, .long r52.1]) (rest := []) hx hb hml hown hts hK hN hL hP hS (cX0_offer_ l bs D y hcb n x1 x5 r52.1 r52.2.1 r52.2.2 r55 er55) ok_X0_offer ov_X0_offer ml_6 ⟨Nat.le_of_ble_eq_true rfl, Nat.le_of_ble_eq_true rfl⟩ rfl hcb kd_7 hl.1 rfl rfl (Nat.le_of_ble_eq_true rfl) ⟨Nat.zero_le _, Nat.zero_le _⟩ dX0_addGate_55 (fun H locs hP hS => ?_)
    refine lv_iinc (v := (x7 + (1 : Int32))) (lv' := [(7, .int (x7 + (1 : Int32))), (0, .ref (bs + 7)), (1, .int x1), (2, .int x2), (3, .int x3), (4, .int x4), (5, .long x5)]) hx hb dX0_addGate_58 hl (k := 6) rfl rfl (by decide) rfl (fun ls hl => ?_)
    refine lv_goto (tgt := 33) hx hb dX0_addGate_61 (by decide) ?_
    exact hk33_ x1 x2 x3 x4 x5 (x7 + (1 : Int32)) r55.1 r55.2 _ _ _ hP hS (lv_sub hl [1, 2, 3, 4, 5, 6, 0] rfl) h
theorem vX0_addGate_33 {p : Program} {l : Launch} {e : Env} {s : State} {m : MethodId} {args : Array Value} {below : List Frame} {meth : Method} {c : Code} (bs : Nat) (D : va_G) (y : Y3) (n : Nat) (k10_ : Int32 → Int32 → Int32 → Int32 → MI → MJ → Option (M2)) (r : M2) (Gc : Gx p s m args meth c cX0_addGate 8 RX0 bs D y none 44) (hk10_ : ∀ (x1 : Int32) (x2 : Int32) (x3 : Int32) (x4 : Int32) (I : MI) (J : MJ) (H : Heap) (locs : List Loc) (ls : Array Slot), va_P D vwCl (wl bs y I J) H → va_S (FA bs) s.heap H locs → lv_has ls 8 [(0, .ref (bs + 7)), (1, .int x1), (2, .int x2), (3, .int x3), (4, .int x4)] → k10_ x1 x2 x3 x4 I J = some r → W p l e (rmm 3 80) s m args below meth c H locs 0 0 (QV below args s bs D y r) (F0 m 10 ls [])) : ∀ (q : Nat) (x1 : Int32) (x2 : Int32) (x3 : Int32) (x4 : Int32) (x5 : Int64) (x7 : Int32) (I : MI) (J : MJ) (H : Heap) (locs : List Loc) (ls : Array Slot), va_P D vwCl (wl bs y I J) H → va_S (FA bs) s.heap H locs → lv_has ls 8 [(0, .ref (bs + 7)), (1, .int x1), (2, .int x2), (3, .int x3), (4, .int x4), (5, .long x5), (7, .int x7)] → lX0_addGate_33 n k10_ q x1 x2 x3 x4 x5 x7 I J = some r → W p l e (rmm 3 80) s m args below meth c H locs 0 0 (QV below args s bs D y r) (F0 m 33 ls []) := by
  intro q
  induction q with
  | zero =>
    intro x1 x2 x3 x4 x5 x7 I J H locs ls hP hS hl h
    have h : (none : Option (M2)) = some r := h
    cases h
  | succ q ih =>
    intro x1 x2 x3 x4 x5 x7 I J H locs ls hP hS hl h
    have h : fX0_addGate_33 n k10_ (lX0_addGate_33 n k10_ q) x1 x2 x3 x4 x5 x7 I J = some r := h
    exact wX0_addGate_33 bs D y n k10_ (lX0_addGate_33 n k10_ q) r Gc hk10_ ih x1 x2 x3 x4 x5 x7 I J H locs ls hP hS hl h
set_option maxHeartbeats 4000000 in
set_option maxRecDepth 100000 in
theorem wX0_addGate_10 {p : Program} {l : Launch} {e : Env} {s : State} {m : MethodId} {args : Array Value} {below : List Frame} {meth : Method} {c : Code} (bs : Nat) (D : va_G) (y : Y3) (n : Nat) (k10_ : Int32 → Int32 → Int32 → Int32 → MI → MJ → Option (M2)) (r : M2) (Gc : Gx p s m args meth c cX0_addGate 8 RX0 bs D y none 44) (hk10_ : ∀ (x1 : Int32) (x2 : Int32) (x3 : Int32) (x4 : Int32) (I : MI) (J : MJ) (H : Heap) (locs : List Loc) (ls : Array Slot), va_P D vwCl (wl bs y I J) H → va_S (FA bs) s.heap H locs → lv_has ls 8 [(0, .ref (bs + 7)), (1, .int x1), (2, .int x2), (3, .int x3), (4, .int x4)] → k10_ x1 x2 x3 x4 I J = some r → W p l e (rmm 3 80) s m args below meth c H locs 0 0 (QV below args s bs D y r) (F0 m 10 ls [])) (x1 : Int32) (x2 : Int32) (x3 : Int32) (x4 : Int32) (I : MI) (J : MJ) (H : Heap) (locs : List Loc) (ls : Array Slot) (hP : va_P D vwCl (wl bs y I J) H) (hS : va_S (FA bs) s.heap H locs) (hl : lv_has ls 8 [(0, .ref (bs + 7)), (1, .int x1), (2, .int x2), (3, .int x3), (4, .int x4)]) (h : fX0_addGate_10 n k10_ x1 x2 x3 x4 I J = some r) : W p l e (rmm 3 80) s m args below meth c H locs 0 0 (QV below args s bs D y r) (F0 m 10 ls []) := by
  obtain ⟨hx, hb, hml, hown, hts, hK, hN, hL, hr, hlocks, hcb⟩ := id Gc
  unfold fX0_addGate_10 at h
  refine lv_iload hx hb dX0_addGate_10 (lv_at hl 4 rfl) ?_
  refine lv_aload_n hx hb dX0_addGate_12 rfl (lv_at hl 0 rfl) ?_
  refine g_R (C := RX0) (T := TX0) (N := 3) (ci := 0) 7 0 8 hx hb hts hown hK hP in_X0 rfl hcb okF_7_0 rfc_7_0 fl_0 dX0_addGate_13 ?_
  refine lv_iload_n hx hb dX0_addGate_16 rfl (lv_at hl 2 rfl) ?_
  obtain ⟨hi17, h⟩ := if_s1 h
  refine a_I 8 hx hb hK hP hcb aln_8 hi17 dX0_addGate_17 ?_
  refine lv_icmp_gt (tgt := 70) hx hb dX0_addGate_18 (by decide) (fun c18 => ?_) (fun c18 => ?_)
  · replace h := if_t c18 h
    refine lv_aload_n hx hb dX0_addGate_70 rfl (lv_at hl 0 rfl) ?_
    refine g_R (C := RX0) (T := TX0) (N := 3) (ci := 0) 7 1 9 hx hb hts hown hK hP in_X0 rfl hcb okF_7_1 rfc_7_1 fl_1 dX0_addGate_71 ?_
    refine lv_iload_n hx hb dX0_addGate_74 rfl (lv_at hl 1 rfl) ?_
    refine lv_aload_n hx hb dX0_addGate_75 rfl (lv_at hl 0 rfl) ?_
    refine g_R (C := RX0) (T := TX0) (N := 3) (ci := 0) 7 2 10 hx hb hts hown hK hP in_X0 rfl hcb okF_7_2 rfc_7_2 fl_2 dX0_addGate_76 ?_
    refine lv_iload_n hx hb dX0_addGate_79 rfl (lv_at hl 1 rfl) ?_
    refine lv_bipush (v := (40 : Int32)) hx hb dX0_addGate_80 (by decide) ?_
    refine lv_imul hx hb dX0_addGate_82 ?_
    obtain ⟨hi83, h⟩ := if_s1 h
    refine a_J 10 hx hb hK hP hcb alJ_10 hi83 dX0_addGate_83 ?_
    refine lv_bipush (v := (40 : Int32)) hx hb dX0_addGate_84 (by decide) ?_
    refine lv_lushr (v := (ushrL (J 10 ((x1 * (40 : Int32))).toNatClampNeg) (40 : Int32))) hx hb dX0_addGate_86 rfl ?_
    refine lv_l2i (v := ((ushrL (J 10 ((x1 * (40 : Int32))).toNatClampNeg) (40 : Int32))).toInt32) hx hb dX0_addGate_87 rfl ?_
    obtain ⟨hi88, h⟩ := if_s1 h
    obtain ⟨I88, eI88, h⟩ := lt_s1 h
    refine t_I 9 eI88 hx hb hK hP hS hcb aln_9 hi88 dX0_addGate_88 (fun H locs hP hS => ?_)
    exact r_V hx hb hr hlocks hP hK hN hL hS h dX0_addGate_89
  · replace h := if_f c18 h
    refine lv_aload_n hx hb dX0_addGate_21 rfl (lv_at hl 0 rfl) ?_
    refine lv_iload_n hx hb dX0_addGate_22 rfl (lv_at hl 2 rfl) ?_
    refine lv_iload hx hb dX0_addGate_23 (lv_at hl 4 rfl) ?_
    obtain ⟨r25, er25, h⟩ := bd_s1 h
    refine c_VJ (k := 7) (ci := 0) (As := [.int x2, .int x4]) (rest := []) hx hb hml hown hts hK hN hL hP hS (cX0_choice_ l bs D y hcb n x2 x4 I J r25 er25) ok_X0_choice ov_X0_choice ml_5 ⟨Nat.le_of_ble_eq_true rfl, Nat.le_of_ble_eq_true rfl⟩ rfl hcb kd_7 hl.1 rfl rfl (Nat.le_of_ble_eq_true rfl) ⟨Nat.zero_le _, Nat.zero_le _⟩ dX0_addGate_25 (fun H locs hP hS => ?_)
    obtain ⟨v28, ev28, h⟩ := lt_s1 h
    refine top_j ev28 ?_
    refine lv_lstore (lv' := [(5, .long v28), (0, .ref (bs + 7)), (1, .int x1), (2, .int x2), (3, .int x3), (4, .int x4)]) hx hb dX0_addGate_28 hl (by decide) rfl (fun ls hl => ?_)
    refine lv_iconst (v := (0 : Int32)) hx hb dX0_addGate_30 (by decide) ?_
    refine lv_istore (lv' := [(7, .int (0 : Int32)), (5, .long v28), (0, .ref (bs + 7)), (1, .int x1), (2, .int x2), (3, .int x3), (4, .int x4)]) hx hb dX0_addGate_31 hl (by decide) rfl (fun ls hl => ?_)
    exact vX0_addGate_33 bs D y n k10_ r Gc hk10_ n x1 x2 x3 x4 v28 (0 : Int32) r25.2.1 r25.2.2 _ _ _ hP hS (lv_sub hl [2, 3, 4, 5, 6, 1, 0] rfl) h
theorem vX0_addGate_10 {p : Program} {l : Launch} {e : Env} {s : State} {m : MethodId} {args : Array Value} {below : List Frame} {meth : Method} {c : Code} (bs : Nat) (D : va_G) (y : Y3) (n : Nat) (r : M2) (Gc : Gx p s m args meth c cX0_addGate 8 RX0 bs D y none 44)  : ∀ (q : Nat) (x1 : Int32) (x2 : Int32) (x3 : Int32) (x4 : Int32) (I : MI) (J : MJ) (H : Heap) (locs : List Loc) (ls : Array Slot), va_P D vwCl (wl bs y I J) H → va_S (FA bs) s.heap H locs → lv_has ls 8 [(0, .ref (bs + 7)), (1, .int x1), (2, .int x2), (3, .int x3), (4, .int x4)] → lX0_addGate_10 n  q x1 x2 x3 x4 I J = some r → W p l e (rmm 3 80) s m args below meth c H locs 0 0 (QV below args s bs D y r) (F0 m 10 ls []) := by
  intro q
  induction q with
  | zero =>
    intro x1 x2 x3 x4 I J H locs ls hP hS hl h
    have h : (none : Option (M2)) = some r := h
    cases h
  | succ q ih =>
    intro x1 x2 x3 x4 I J H locs ls hP hS hl h
    have h : fX0_addGate_10 n  (lX0_addGate_10 n  q) x1 x2 x3 x4 I J = some r := h
    exact wX0_addGate_10 bs D y n  (lX0_addGate_10 n  q) r Gc  ih x1 x2 x3 x4 I J H locs ls hP hS hl h
set_option maxHeartbeats 4000000 in
set_option maxRecDepth 100000 in
theorem cX0_addGate_ (l : Launch) (bs : Nat) (D : va_G) (y : Y3) (hcb : 44 ≤ y.2.2.2) (n : Nat) (x1 : Int32) (x2 : Int32) (x3 : Int32) (I : MI) (J : MJ) (r : M2) (h : fX0_addGate n x1 x2 x3 I J = some r) : Met l yX0_addGate (.code yX0_addGate cX0_addGate 8 none :: gtb) (rmm 3 80) (va_Pc [.ref (bs + 7), .int x1, .int x2, .int x3] (HB bs D y I J)) (QcV bs D y r) 0 0 (FA bs) := by
  refine Met.ofW (cc := cX0_addGate) (maxL := 8) (ret := none) (by decide) rfl ?_
  intro p e s m args below meth c s₁ B hml hv
  obtain ⟨rfl, hP, hK, hN, hL⟩ := hv
  have hx := B.exec
  have hb := B.bytes
  have hr := B.returns
  have hts0 := atoms_spec (ws := .code yX0_addGate cX0_addGate 8 none :: gtb) B.pre
  have hts : ∀ w ∈ gtb, w.before [.ref (bs + 7), .int x1, .int x2, .int x3].toArray s = true := fun w hw => hts0 w (List.mem_cons_of_mem _ hw)
  have hown : s.vm.findClass RX0 = some m.cls := findClass_of_methodNamed B.named
  have hlocks := B.notSynchronized
  have hS : va_S (FA bs) s.heap s.heap [] := va_S.rf
  have Gc : Gx p s m [.ref (bs + 7), .int x1, .int x2, .int x3].toArray meth c cX0_addGate 8 RX0 bs D y none 44 := ⟨hx, hb, hml, hown, hts, hK, hN, hL, hr, hlocks, hcb⟩
  have hl := lv_entry [.ref (bs + 7), .int x1, .int x2, .int x3] (n := 8) (Nat.le_of_ble_eq_true rfl)
  rw [lg_entry_eq]
  generalize (lg_sl [.ref (bs + 7), .int x1, .int x2, .int x3] ++ List.replicate (8 - (lg_sl [.ref (bs + 7), .int x1, .int x2, .int x3]).length) Slot.unset).toArray = ls at hl ⊢
  have hl : lv_has ls 8 [(0, .ref (bs + 7)), (1, .int x1), (2, .int x2), (3, .int x3)] := hl
  change W p l e (rmm 3 80) s m [.ref (bs + 7), .int x1, .int x2, .int x3].toArray below meth c s.heap [] 0 0 (QV below [.ref (bs + 7), .int x1, .int x2, .int x3].toArray s bs D y r) (F0 m 0 ls [])
  unfold fX0_addGate at h
  refine lv_aload_n hx hb dX0_addGate_0 rfl (lv_at hl 0 rfl) ?_
  refine g_R (C := RX0) (T := TX0) (N := 3) (ci := 0) 7 0 8 hx hb hts hown hK hP in_X0 rfl hcb okF_7_0 rfc_7_0 fl_0 dX0_addGate_1 ?_
  refine lv_iload_n hx hb dX0_addGate_4 rfl (lv_at hl 1 rfl) ?_
  refine lv_iconst (v := (0 : Int32)) hx hb dX0_addGate_5 (by decide) ?_
  obtain ⟨hi6, h⟩ := if_s1 h
  obtain ⟨I6, eI6, h⟩ := lt_s1 h
  refine t_I 8 eI6 hx hb hK hP hS hcb aln_8 hi6 dX0_addGate_6 (fun H locs hP hS => ?_)
  refine lv_iconst (v := (0 : Int32)) hx hb dX0_addGate_7 (by decide) ?_
  refine lv_istore (lv' := [(4, .int (0 : Int32)), (0, .ref (bs + 7)), (1, .int x1), (2, .int x2), (3, .int x3)]) hx hb dX0_addGate_8 hl (by decide) rfl (fun ls hl => ?_)
  exact vX0_addGate_10 bs D y n  r Gc  n x1 x2 x3 (0 : Int32) I6 J _ _ _ hP hS (lv_sub hl [1, 2, 3, 4, 0] rfl) h
theorem dX0_members_0 : decode cX0_members 0 = .ok (.aload_n 0, 1) := by decide +kernel
theorem dX0_members_1 : decode cX0_members 1 = .ok (.getfield 18, 3) := by decide +kernel
theorem dX0_members_4 : decode cX0_members 4 = .ok (.iload_n 1, 1) := by decide +kernel
theorem dX0_members_5 : decode cX0_members 5 = .ok (.bipush 40, 2) := by decide +kernel
theorem dX0_members_7 : decode cX0_members 7 = .ok (.imul, 1) := by decide +kernel
theorem dX0_members_8 : decode cX0_members 8 = .ok (.iload_n 2, 1) := by decide +kernel
theorem dX0_members_9 : decode cX0_members 9 = .ok (.iadd, 1) := by decide +kernel
theorem dX0_members_10 : decode cX0_members 10 = .ok (.laload, 1) := by decide +kernel
theorem dX0_members_11 : decode cX0_members 11 = .ok (.l2i, 1) := by decide +kernel
theorem dX0_members_12 : decode cX0_members 12 = .ok (.ireturn, 1) := by decide +kernel
set_option maxHeartbeats 4000000 in
set_option maxRecDepth 100000 in
theorem cX0_members_ (l : Launch) (bs : Nat) (D : va_G) (y : Y3) (hcb : 44 ≤ y.2.2.2) (n : Nat) (x1 : Int32) (x2 : Int32) (I : MI) (J : MJ) (r : Int32 × M2) (h : fX0_members n x1 x2 I J = some r) : Met l yX0_members (.code yX0_members cX0_members 3 (some .int) :: gtb) (rmm 0 0) (va_Pc [.ref (bs + 7), .int x1, .int x2] (HB bs D y I J)) (QcI bs D y r) 0 0 (FA bs) := by
  refine Met.ofW (cc := cX0_members) (maxL := 3) (ret := (some .int)) (by decide) rfl ?_
  intro p e s m args below meth c s₁ B hml hv
  obtain ⟨rfl, hP, hK, hN, hL⟩ := hv
  have hx := B.exec
  have hb := B.bytes
  have hr := B.returns
  have hts0 := atoms_spec (ws := .code yX0_members cX0_members 3 (some .int) :: gtb) B.pre
  have hts : ∀ w ∈ gtb, w.before [.ref (bs + 7), .int x1, .int x2].toArray s = true := fun w hw => hts0 w (List.mem_cons_of_mem _ hw)
  have hown : s.vm.findClass RX0 = some m.cls := findClass_of_methodNamed B.named
  have hlocks := B.notSynchronized
  have hS : va_S (FA bs) s.heap s.heap [] := va_S.rf
  have Gc : Gx p s m [.ref (bs + 7), .int x1, .int x2].toArray meth c cX0_members 3 RX0 bs D y (some .int) 44 := ⟨hx, hb, hml, hown, hts, hK, hN, hL, hr, hlocks, hcb⟩
  have hl := lv_entry [.ref (bs + 7), .int x1, .int x2] (n := 3) (Nat.le_of_ble_eq_true rfl)
  rw [lg_entry_eq]
  generalize (lg_sl [.ref (bs + 7), .int x1, .int x2] ++ List.replicate (3 - (lg_sl [.ref (bs + 7), .int x1, .int x2]).length) Slot.unset).toArray = ls at hl ⊢
  have hl : lv_has ls 3 [(0, .ref (bs + 7)), (1, .int x1), (2, .int x2)] := hl
  change W p l e (rmm 0 0) s m [.ref (bs + 7), .int x1, .int x2].toArray below meth c s.heap [] 0 0 (QI below [.ref (bs + 7), .int x1, .int x2].toArray s bs D y r) (F0 m 0 ls [])
  unfold fX0_members at h
  refine lv_aload_n hx hb dX0_members_0 rfl (lv_at hl 0 rfl) ?_
  refine g_R (C := RX0) (T := TX0) (N := 3) (ci := 0) 7 2 10 hx hb hts hown hK hP in_X0 rfl hcb okF_7_2 rfc_7_2 fl_2 dX0_members_1 ?_
  refine lv_iload_n hx hb dX0_members_4 rfl (lv_at hl 1 rfl) ?_
  refine lv_bipush (v := (40 : Int32)) hx hb dX0_members_5 (by decide) ?_
  refine lv_imul hx hb dX0_members_7 ?_
  refine lv_iload_n hx hb dX0_members_8 rfl (lv_at hl 2 rfl) ?_
  refine lv_iadd hx hb dX0_members_9 ?_
  obtain ⟨hi10, h⟩ := if_s1 h
  refine a_J 10 hx hb hK hP hcb alJ_10 hi10 dX0_members_10 ?_
  refine lv_l2i (v := ((J 10 (((x1 * (40 : Int32)) + x2)).toNatClampNeg)).toInt32) hx hb dX0_members_11 rfl ?_
  exact r_I hx hb hr hlocks hP hK hN hL hS h dX0_members_12
theorem dX1_put_0 : decode cX1_put 0 = .ok (.aload_n 0, 1) := by decide +kernel
theorem dX1_put_1 : decode cX1_put 1 = .ok (.getfield 21, 3) := by decide +kernel
theorem dX1_put_4 : decode cX1_put 4 = .ok (.sipush 324, 3) := by decide +kernel
theorem dX1_put_7 : decode cX1_put 7 = .ok (.if_icmp .ge 23, 3) := by decide +kernel
theorem dX1_put_10 : decode cX1_put 10 = .ok (.aload_n 0, 1) := by decide +kernel
theorem dX1_put_11 : decode cX1_put 11 = .ok (.getfield 9, 3) := by decide +kernel
theorem dX1_put_14 : decode cX1_put 14 = .ok (.aload_n 0, 1) := by decide +kernel
theorem dX1_put_15 : decode cX1_put 15 = .ok (.getfield 21, 3) := by decide +kernel
theorem dX1_put_18 : decode cX1_put 18 = .ok (.iload_n 1, 1) := by decide +kernel
theorem dX1_put_19 : decode cX1_put 19 = .ok (.iastore, 1) := by decide +kernel
theorem dX1_put_20 : decode cX1_put 20 = .ok (.aload_n 0, 1) := by decide +kernel
theorem dX1_put_21 : decode cX1_put 21 = .ok (.dup, 1) := by decide +kernel
theorem dX1_put_22 : decode cX1_put 22 = .ok (.getfield 21, 3) := by decide +kernel
theorem dX1_put_25 : decode cX1_put 25 = .ok (.iconst 1, 1) := by decide +kernel
theorem dX1_put_26 : decode cX1_put 26 = .ok (.iadd, 1) := by decide +kernel
theorem dX1_put_27 : decode cX1_put 27 = .ok (.putfield 21, 3) := by decide +kernel
theorem dX1_put_30 : decode cX1_put 30 = .ok (.return_, 1) := by decide +kernel
set_option maxHeartbeats 4000000 in
set_option maxRecDepth 100000 in
theorem cX1_put_ (l : Launch) (bs : Nat) (D : va_G) (y : Y3) (hcb : 44 ≤ y.2.2.2) (n : Nat) (x1 : Int32) (I : MI) (J : MJ) (r : M2) (h : fX1_put n x1 I J = some r) : Met l yX1_put (.code yX1_put cX1_put 2 none :: gtb) (rmm 0 0) (va_Pc [.ref (bs + 34), .int x1] (HB bs D y I J)) (QcV bs D y r) 0 0 (FA bs) := by
  refine Met.ofW (cc := cX1_put) (maxL := 2) (ret := none) (by decide) rfl ?_
  intro p e s m args below meth c s₁ B hml hv
  obtain ⟨rfl, hP, hK, hN, hL⟩ := hv
  have hx := B.exec
  have hb := B.bytes
  have hr := B.returns
  have hts0 := atoms_spec (ws := .code yX1_put cX1_put 2 none :: gtb) B.pre
  have hts : ∀ w ∈ gtb, w.before [.ref (bs + 34), .int x1].toArray s = true := fun w hw => hts0 w (List.mem_cons_of_mem _ hw)
  have hown : s.vm.findClass RX1 = some m.cls := findClass_of_methodNamed B.named
  have hlocks := B.notSynchronized
  have hS : va_S (FA bs) s.heap s.heap [] := va_S.rf
  have Gc : Gx p s m [.ref (bs + 34), .int x1].toArray meth c cX1_put 2 RX1 bs D y none 44 := ⟨hx, hb, hml, hown, hts, hK, hN, hL, hr, hlocks, hcb⟩
  have hl := lv_entry [.ref (bs + 34), .int x1] (n := 2) (Nat.le_of_ble_eq_true rfl)
  rw [lg_entry_eq]
  generalize (lg_sl [.ref (bs + 34), .int x1] ++ List.replicate (2 - (lg_sl [.ref (bs + 34), .int x1]).length) Slot.unset).toArray = ls at hl ⊢
  have hl : lv_has ls 2 [(0, .ref (bs + 34)), (1, .int x1)] := hl
  change W p l e (rmm 0 0) s m [.ref (bs + 34), .int x1].toArray below meth c s.heap [] 0 0 (QV below [.ref (bs + 34), .int x1].toArray s bs D y r) (F0 m 0 ls [])
  unfold fX1_put at h
  refine lv_aload_n hx hb dX1_put_0 rfl (lv_at hl 0 rfl) ?_
  refine g_I (C := RX1) (T := TX1) (N := 5) (ci := 1) 34 1 hx hb hts hown hK hP in_X1 rfl hcb okF_34_1 fl_3 dX1_put_1 ?_
  refine lv_sipush (v := (324 : Int32)) hx hb dX1_put_4 (by decide) ?_
  refine lv_icmp_ge (tgt := 30) hx hb dX1_put_7 (by decide) (fun c7 => ?_) (fun c7 => ?_)
  · replace h := if_t c7 h
    exact r_V hx hb hr hlocks hP hK hN hL hS h dX1_put_30
  · replace h := if_f c7 h
    refine lv_aload_n hx hb dX1_put_10 rfl (lv_at hl 0 rfl) ?_
    refine g_R (C := RX1) (T := TX1) (N := 5) (ci := 1) 34 2 35 hx hb hts hown hK hP in_X1 rfl hcb okF_34_2 rfc_34_2 fl_4 dX1_put_11 ?_
    refine lv_aload_n hx hb dX1_put_14 rfl (lv_at hl 0 rfl) ?_
    refine g_I (C := RX1) (T := TX1) (N := 5) (ci := 1) 34 1 hx hb hts hown hK hP in_X1 rfl hcb okF_34_1 fl_3 dX1_put_15 ?_
    refine lv_iload_n hx hb dX1_put_18 rfl (lv_at hl 1 rfl) ?_
    obtain ⟨hi19, h⟩ := if_s1 h
    obtain ⟨I19, eI19, h⟩ := lt_s1 h
    refine t_I 35 eI19 hx hb hK hP hS hcb aln_35 hi19 dX1_put_19 (fun H locs hP hS => ?_)
    refine lv_aload_n hx hb dX1_put_20 rfl (lv_at hl 0 rfl) ?_
    refine lv_dup hx hb dX1_put_21 rfl ?_
    refine g_I (C := RX1) (T := TX1) (N := 5) (ci := 1) 34 1 hx hb hts hown hK hP in_X1 rfl hcb okF_34_1 fl_3 dX1_put_22 ?_
    refine lv_iconst (v := (1 : Int32)) hx hb dX1_put_25 (by decide) ?_
    refine lv_iadd hx hb dX1_put_26 ?_
    obtain ⟨I27, eI27, h⟩ := lt_s1 h
    refine s_I (C := RX1) (T := TX1) (N := 5) (ci := 1) (ty := .int) 34 1 eI27 tyX1 hx hb hts hown hK hP hS in_X1 tyX1_ok nmX1 rfl hcb okF_34_1 fl_3 rfl (by decide +kernel) rfl rfl dX1_put_27 (fun H locs hP hS => ?_)
    exact r_V hx hb hr hlocks hP hK hN hL hS h dX1_put_30
theorem dX7_letter_0 : decode cX7_letter 0 = .ok (.iload_n 2, 1) := by decide +kernel
theorem dX7_letter_1 : decode cX7_letter 1 = .ok (.aload_n 0, 1) := by decide +kernel
theorem dX7_letter_2 : decode cX7_letter 2 = .ok (.getfield 9, 3) := by decide +kernel
theorem dX7_letter_5 : decode cX7_letter 5 = .ok (.iload_n 1, 1) := by decide +kernel
theorem dX7_letter_6 : decode cX7_letter 6 = .ok (.iaload, 1) := by decide +kernel
theorem dX7_letter_7 : decode cX7_letter 7 = .ok (.if_icmp .ge 16, 3) := by decide +kernel
theorem dX7_letter_10 : decode cX7_letter 10 = .ok (.aload_n 0, 1) := by decide +kernel
theorem dX7_letter_11 : decode cX7_letter 11 = .ok (.getfield 18, 3) := by decide +kernel
theorem dX7_letter_14 : decode cX7_letter 14 = .ok (.iload_n 1, 1) := by decide +kernel
theorem dX7_letter_15 : decode cX7_letter 15 = .ok (.iconst 4, 1) := by decide +kernel
theorem dX7_letter_16 : decode cX7_letter 16 = .ok (.imul, 1) := by decide +kernel
theorem dX7_letter_17 : decode cX7_letter 17 = .ok (.iload_n 2, 1) := by decide +kernel
theorem dX7_letter_18 : decode cX7_letter 18 = .ok (.iadd, 1) := by decide +kernel
theorem dX7_letter_19 : decode cX7_letter 19 = .ok (.iaload, 1) := by decide +kernel
theorem dX7_letter_20 : decode cX7_letter 20 = .ok (.goto 4, 3) := by decide +kernel
theorem dX7_letter_23 : decode cX7_letter 23 = .ok (.iconst (-1), 1) := by decide +kernel
theorem dX7_letter_24 : decode cX7_letter 24 = .ok (.ireturn, 1) := by decide +kernel
set_option maxHeartbeats 4000000 in
set_option maxRecDepth 100000 in
theorem cX7_letter_ (l : Launch) (bs : Nat) (D : va_G) (y : Y3) (hcb : 44 ≤ y.2.2.2) (n : Nat) (x1 : Int32) (x2 : Int32) (I : MI) (J : MJ) (r : Int32 × M2) (h : fX7_letter n x1 x2 I J = some r) : Met l yX7_letter (.code yX7_letter cX7_letter 3 (some .int) :: gtb) (rmm 0 0) (va_Pc [.ref (bs + 11), .int x1, .int x2] (HB bs D y I J)) (QcI bs D y r) 0 0 (FA bs) := by
  refine Met.ofW (cc := cX7_letter) (maxL := 3) (ret := (some .int)) (by decide) rfl ?_
  intro p e s m args below meth c s₁ B hml hv
  obtain ⟨rfl, hP, hK, hN, hL⟩ := hv
  have hx := B.exec
  have hb := B.bytes
  have hr := B.returns
  have hts0 := atoms_spec (ws := .code yX7_letter cX7_letter 3 (some .int) :: gtb) B.pre
  have hts : ∀ w ∈ gtb, w.before [.ref (bs + 11), .int x1, .int x2].toArray s = true := fun w hw => hts0 w (List.mem_cons_of_mem _ hw)
  have hown : s.vm.findClass RX7 = some m.cls := findClass_of_methodNamed B.named
  have hlocks := B.notSynchronized
  have hS : va_S (FA bs) s.heap s.heap [] := va_S.rf
  have Gc : Gx p s m [.ref (bs + 11), .int x1, .int x2].toArray meth c cX7_letter 3 RX7 bs D y (some .int) 44 := ⟨hx, hb, hml, hown, hts, hK, hN, hL, hr, hlocks, hcb⟩
  have hl := lv_entry [.ref (bs + 11), .int x1, .int x2] (n := 3) (Nat.le_of_ble_eq_true rfl)
  rw [lg_entry_eq]
  generalize (lg_sl [.ref (bs + 11), .int x1, .int x2] ++ List.replicate (3 - (lg_sl [.ref (bs + 11), .int x1, .int x2]).length) Slot.unset).toArray = ls at hl ⊢
  have hl : lv_has ls 3 [(0, .ref (bs + 11)), (1, .int x1), (2, .int x2)] := hl
  change W p l e (rmm 0 0) s m [.ref (bs + 11), .int x1, .int x2].toArray below meth c s.heap [] 0 0 (QI below [.ref (bs + 11), .int x1, .int x2].toArray s bs D y r) (F0 m 0 ls [])
  unfold fX7_letter at h
  refine lv_iload_n hx hb dX7_letter_0 rfl (lv_at hl 2 rfl) ?_
  refine lv_aload_n hx hb dX7_letter_1 rfl (lv_at hl 0 rfl) ?_
  refine g_R (C := RX7) (T := TX7) (N := 7) (ci := 7) 11 2 12 hx hb hts hown hK hP in_X7 rfl hcb okF_11_2 rfc_11_2 fl_5 dX7_letter_2 ?_
  refine lv_iload_n hx hb dX7_letter_5 rfl (lv_at hl 1 rfl) ?_
  obtain ⟨hi6, h⟩ := if_s1 h
  refine a_I 12 hx hb hK hP hcb aln_12 hi6 dX7_letter_6 ?_
  refine lv_icmp_ge (tgt := 23) hx hb dX7_letter_7 (by decide) (fun c7 => ?_) (fun c7 => ?_)
  · replace h := if_t c7 h
    refine lv_iconst (v := (-1 : Int32)) hx hb dX7_letter_23 (by decide) ?_
    exact r_I hx hb hr hlocks hP hK hN hL hS h dX7_letter_24
  · replace h := if_f c7 h
    refine lv_aload_n hx hb dX7_letter_10 rfl (lv_at hl 0 rfl) ?_
    refine g_R (C := RX7) (T := TX7) (N := 7) (ci := 7) 11 4 14 hx hb hts hown hK hP in_X7 rfl hcb okF_11_4 rfc_11_4 fl_6 dX7_letter_11 ?_
    refine lv_iload_n hx hb dX7_letter_14 rfl (lv_at hl 1 rfl) ?_
    refine lv_iconst (v := (4 : Int32)) hx hb dX7_letter_15 (by decide) ?_
    refine lv_imul hx hb dX7_letter_16 ?_
    refine lv_iload_n hx hb dX7_letter_17 rfl (lv_at hl 2 rfl) ?_
    refine lv_iadd hx hb dX7_letter_18 ?_
    obtain ⟨hi19, h⟩ := if_s1 h
    refine a_I 14 hx hb hK hP hcb aln_14 hi19 dX7_letter_19 ?_
    refine lv_goto (tgt := 24) hx hb dX7_letter_20 (by decide) ?_
    exact r_I hx hb hr hlocks hP hK hN hL hS h dX7_letter_24
theorem dX1_writeThing_0 : decode cX1_writeThing 0 = .ok (.aload_n 2, 1) := by decide +kernel
theorem dX1_writeThing_1 : decode cX1_writeThing 1 = .ok (.getfield 57, 3) := by decide +kernel
theorem dX1_writeThing_4 : decode cX1_writeThing 4 = .ok (.iload_n 1, 1) := by decide +kernel
theorem dX1_writeThing_5 : decode cX1_writeThing 5 = .ok (.iaload, 1) := by decide +kernel
theorem dX1_writeThing_6 : decode cX1_writeThing 6 = .ok (.istore 4, 2) := by decide +kernel
theorem dX1_writeThing_8 : decode cX1_writeThing 8 = .ok (.aload_n 0, 1) := by decide +kernel
theorem dX1_writeThing_9 : decode cX1_writeThing 9 = .ok (.iload_n 1, 1) := by decide +kernel
theorem dX1_writeThing_10 : decode cX1_writeThing 10 = .ok (.invokevirtual 49, 3) := by decide +kernel
theorem dX1_writeThing_13 : decode cX1_writeThing 13 = .ok (.aload_n 0, 1) := by decide +kernel
theorem dX1_writeThing_14 : decode cX1_writeThing 14 = .ok (.iload 4, 2) := by decide +kernel
theorem dX1_writeThing_16 : decode cX1_writeThing 16 = .ok (.invokevirtual 49, 3) := by decide +kernel
theorem dX1_writeThing_19 : decode cX1_writeThing 19 = .ok (.aload_n 0, 1) := by decide +kernel
theorem dX1_writeThing_20 : decode cX1_writeThing 20 = .ok (.getfield 18, 3) := by decide +kernel
theorem dX1_writeThing_23 : decode cX1_writeThing 23 = .ok (.iload_n 1, 1) := by decide +kernel
theorem dX1_writeThing_24 : decode cX1_writeThing 24 = .ok (.aload_n 0, 1) := by decide +kernel
theorem dX1_writeThing_25 : decode cX1_writeThing 25 = .ok (.getfield 21, 3) := by decide +kernel
theorem dX1_writeThing_28 : decode cX1_writeThing 28 = .ok (.iconst 1, 1) := by decide +kernel
theorem dX1_writeThing_29 : decode cX1_writeThing 29 = .ok (.iadd, 1) := by decide +kernel
theorem dX1_writeThing_30 : decode cX1_writeThing 30 = .ok (.iastore, 1) := by decide +kernel
theorem dX1_writeThing_31 : decode cX1_writeThing 31 = .ok (.iload 4, 2) := by decide +kernel
theorem dX1_writeThing_33 : decode cX1_writeThing 33 = .ok (.ifCond .ne 11, 3) := by decide +kernel
theorem dX1_writeThing_36 : decode cX1_writeThing 36 = .ok (.aload_n 0, 1) := by decide +kernel
theorem dX1_writeThing_37 : decode cX1_writeThing 37 = .ok (.iconst 0, 1) := by decide +kernel
theorem dX1_writeThing_38 : decode cX1_writeThing 38 = .ok (.invokevirtual 49, 3) := by decide +kernel
theorem dX1_writeThing_41 : decode cX1_writeThing 41 = .ok (.goto 95, 3) := by decide +kernel
theorem dX1_writeThing_44 : decode cX1_writeThing 44 = .ok (.iload 4, 2) := by decide +kernel
theorem dX1_writeThing_46 : decode cX1_writeThing 46 = .ok (.iconst 1, 1) := by decide +kernel
theorem dX1_writeThing_47 : decode cX1_writeThing 47 = .ok (.if_icmp .ne 21, 3) := by decide +kernel
theorem dX1_writeThing_50 : decode cX1_writeThing 50 = .ok (.aload_n 0, 1) := by decide +kernel
theorem dX1_writeThing_51 : decode cX1_writeThing 51 = .ok (.iconst 1, 1) := by decide +kernel
theorem dX1_writeThing_52 : decode cX1_writeThing 52 = .ok (.invokevirtual 49, 3) := by decide +kernel
theorem dX1_writeThing_55 : decode cX1_writeThing 55 = .ok (.aload_n 0, 1) := by decide +kernel
theorem dX1_writeThing_56 : decode cX1_writeThing 56 = .ok (.aload_n 2, 1) := by decide +kernel
theorem dX1_writeThing_57 : decode cX1_writeThing 57 = .ok (.getfield 62, 3) := by decide +kernel
theorem dX1_writeThing_60 : decode cX1_writeThing 60 = .ok (.iload_n 1, 1) := by decide +kernel
theorem dX1_writeThing_61 : decode cX1_writeThing 61 = .ok (.iaload, 1) := by decide +kernel
theorem dX1_writeThing_62 : decode cX1_writeThing 62 = .ok (.invokevirtual 49, 3) := by decide +kernel
theorem dX1_writeThing_65 : decode cX1_writeThing 65 = .ok (.goto 71, 3) := by decide +kernel
theorem dX1_writeThing_68 : decode cX1_writeThing 68 = .ok (.aload_n 0, 1) := by decide +kernel
theorem dX1_writeThing_69 : decode cX1_writeThing 69 = .ok (.aload_n 3, 1) := by decide +kernel
theorem dX1_writeThing_70 : decode cX1_writeThing 70 = .ok (.getfield 65, 3) := by decide +kernel
theorem dX1_writeThing_73 : decode cX1_writeThing 73 = .ok (.iload_n 1, 1) := by decide +kernel
theorem dX1_writeThing_74 : decode cX1_writeThing 74 = .ok (.iaload, 1) := by decide +kernel
theorem dX1_writeThing_75 : decode cX1_writeThing 75 = .ok (.invokevirtual 49, 3) := by decide +kernel
theorem dX1_writeThing_78 : decode cX1_writeThing 78 = .ok (.iconst 0, 1) := by decide +kernel
theorem dX1_writeThing_79 : decode cX1_writeThing 79 = .ok (.istore 5, 2) := by decide +kernel
theorem dX1_writeThing_81 : decode cX1_writeThing 81 = .ok (.iload 5, 2) := by decide +kernel
theorem dX1_writeThing_83 : decode cX1_writeThing 83 = .ok (.aload_n 3, 1) := by decide +kernel
theorem dX1_writeThing_84 : decode cX1_writeThing 84 = .ok (.getfield 65, 3) := by decide +kernel
theorem dX1_writeThing_87 : decode cX1_writeThing 87 = .ok (.iload_n 1, 1) := by decide +kernel
theorem dX1_writeThing_88 : decode cX1_writeThing 88 = .ok (.iaload, 1) := by decide +kernel
theorem dX1_writeThing_89 : decode cX1_writeThing 89 = .ok (.if_icmp .ge 20, 3) := by decide +kernel
theorem dX1_writeThing_92 : decode cX1_writeThing 92 = .ok (.aload_n 0, 1) := by decide +kernel
theorem dX1_writeThing_93 : decode cX1_writeThing 93 = .ok (.aload_n 3, 1) := by decide +kernel
theorem dX1_writeThing_94 : decode cX1_writeThing 94 = .ok (.iload_n 1, 1) := by decide +kernel
theorem dX1_writeThing_95 : decode cX1_writeThing 95 = .ok (.iload 5, 2) := by decide +kernel
theorem dX1_writeThing_97 : decode cX1_writeThing 97 = .ok (.invokevirtual 70, 3) := by decide +kernel
theorem dX1_writeThing_100 : decode cX1_writeThing 100 = .ok (.invokevirtual 49, 3) := by decide +kernel
theorem dX1_writeThing_103 : decode cX1_writeThing 103 = .ok (.iinc 5 1, 3) := by decide +kernel
theorem dX1_writeThing_106 : decode cX1_writeThing 106 = .ok (.goto (-25), 3) := by decide +kernel
theorem dX1_writeThing_109 : decode cX1_writeThing 109 = .ok (.aload_n 0, 1) := by decide +kernel
theorem dX1_writeThing_110 : decode cX1_writeThing 110 = .ok (.aload_n 3, 1) := by decide +kernel
theorem dX1_writeThing_111 : decode cX1_writeThing 111 = .ok (.getfield 73, 3) := by decide +kernel
theorem dX1_writeThing_114 : decode cX1_writeThing 114 = .ok (.iload_n 1, 1) := by decide +kernel
theorem dX1_writeThing_115 : decode cX1_writeThing 115 = .ok (.iaload, 1) := by decide +kernel
theorem dX1_writeThing_116 : decode cX1_writeThing 116 = .ok (.sipush 255, 3) := by decide +kernel
theorem dX1_writeThing_119 : decode cX1_writeThing 119 = .ok (.iand, 1) := by decide +kernel
theorem dX1_writeThing_120 : decode cX1_writeThing 120 = .ok (.invokevirtual 49, 3) := by decide +kernel
theorem dX1_writeThing_123 : decode cX1_writeThing 123 = .ok (.aload_n 0, 1) := by decide +kernel
theorem dX1_writeThing_124 : decode cX1_writeThing 124 = .ok (.aload_n 3, 1) := by decide +kernel
theorem dX1_writeThing_125 : decode cX1_writeThing 125 = .ok (.getfield 73, 3) := by decide +kernel
theorem dX1_writeThing_128 : decode cX1_writeThing 128 = .ok (.iload_n 1, 1) := by decide +kernel
theorem dX1_writeThing_129 : decode cX1_writeThing 129 = .ok (.iaload, 1) := by decide +kernel
theorem dX1_writeThing_130 : decode cX1_writeThing 130 = .ok (.bipush 8, 2) := by decide +kernel
theorem dX1_writeThing_132 : decode cX1_writeThing 132 = .ok (.iushr, 1) := by decide +kernel
theorem dX1_writeThing_133 : decode cX1_writeThing 133 = .ok (.invokevirtual 49, 3) := by decide +kernel
theorem dX1_writeThing_136 : decode cX1_writeThing 136 = .ok (.return_, 1) := by decide +kernel
set_option maxHeartbeats 4000000 in
set_option maxRecDepth 100000 in
theorem wX1_writeThing_81 {p : Program} {l : Launch} {e : Env} {s : State} {m : MethodId} {args : Array Value} {below : List Frame} {meth : Method} {c : Code} (bs : Nat) (D : va_G) (y : Y3) (n : Nat) (k81_ : Int32 → Int32 → MI → MJ → Option (M2)) (r : M2) (Gc : Gx p s m args meth c cX1_writeThing 6 RX1 bs D y none 44) (hk81_ : ∀ (x1 : Int32) (x5 : Int32) (I : MI) (J : MJ) (H : Heap) (locs : List Loc) (ls : Array Slot), va_P D vwCl (wl bs y I J) H → va_S (FA bs) s.heap H locs → lv_has ls 6 [(0, .ref (bs + 34)), (1, .int x1), (3, .ref (bs + 11)), (5, .int x5)] → k81_ x1 x5 I J = some r → W p l e (rmm 1 22) s m args below meth c H locs 0 0 (QV below args s bs D y r) (F0 m 81 ls [])) (x1 : Int32) (x5 : Int32) (I : MI) (J : MJ) (H : Heap) (locs : List Loc) (ls : Array Slot) (hP : va_P D vwCl (wl bs y I J) H) (hS : va_S (FA bs) s.heap H locs) (hl : lv_has ls 6 [(0, .ref (bs + 34)), (1, .int x1), (3, .ref (bs + 11)), (5, .int x5)]) (h : fX1_writeThing_81 n k81_ x1 x5 I J = some r) : W p l e (rmm 1 22) s m args below meth c H locs 0 0 (QV below args s bs D y r) (F0 m 81 ls []) := by
  obtain ⟨hx, hb, hml, hown, hts, hK, hN, hL, hr, hlocks, hcb⟩ := id Gc
  unfold fX1_writeThing_81 at h
  refine lv_iload hx hb dX1_writeThing_81 (lv_at hl 3 rfl) ?_
  refine lv_aload_n hx hb dX1_writeThing_83 rfl (lv_at hl 2 rfl) ?_
  refine g_R (C := RX7) (T := TX7) (N := 7) (ci := 7) 11 2 12 hx hb hts hown hK hP in_X7 rfl hcb okF_11_2 rfc_11_2 fl_7 dX1_writeThing_84 ?_
  refine lv_iload_n hx hb dX1_writeThing_87 rfl (lv_at hl 1 rfl) ?_
  obtain ⟨hi88, h⟩ := if_s1 h
  refine a_I 12 hx hb hK hP hcb aln_12 hi88 dX1_writeThing_88 ?_
  refine lv_icmp_ge (tgt := 109) hx hb dX1_writeThing_89 (by decide) (fun c89 => ?_) (fun c89 => ?_)
  · replace h := if_t c89 h
    refine lv_aload_n hx hb dX1_writeThing_109 rfl (lv_at hl 0 rfl) ?_
    refine lv_aload_n hx hb dX1_writeThing_110 rfl (lv_at hl 2 rfl) ?_
    refine g_R (C := RX7) (T := TX7) (N := 7) (ci := 7) 11 3 13 hx hb hts hown hK hP in_X7 rfl hcb okF_11_3 rfc_11_3 fl_8 dX1_writeThing_111 ?_
    refine lv_iload_n hx hb dX1_writeThing_114 rfl (lv_at hl 1 rfl) ?_
    obtain ⟨hi115, h⟩ := if_s1 h
    refine a_I 13 hx hb hK hP hcb aln_13 hi115 dX1_writeThing_115 ?_
    refine lv_sipush (v := (255 : Int32)) hx hb dX1_writeThing_116 (by decide) ?_
    refine lv_iand hx hb dX1_writeThing_119 ?_
    obtain ⟨r120, er120, h⟩ := bd_s1 h
    refine c_VV (k := 34) (ci := 1) (As := [.int ((I 13 (x1).toNatClampNeg) &&& (255 : Int32))]) (rest := []) hx hb hml hown hts hK hN hL hP hS (cX1_put_ l bs D y hcb n ((I 13 (x1).toNatClampNeg) &&& (255 : Int32)) I J r120 er120) ok_X1_put ov_X1_put ml_7 ⟨Nat.le_of_ble_eq_true rfl, Nat.le_of_ble_eq_true rfl⟩ rfl hcb kd_34 hl.1 rfl rfl (Nat.le_of_ble_eq_true rfl) ⟨Nat.zero_le _, Nat.zero_le _⟩ dX1_writeThing_120 (fun H locs hP hS => ?_)
    refine lv_aload_n hx hb dX1_writeThing_123 rfl (lv_at hl 0 rfl) ?_
    refine lv_aload_n hx hb dX1_writeThing_124 rfl (lv_at hl 2 rfl) ?_
    refine g_R (C := RX7) (T := TX7) (N := 7) (ci := 7) 11 3 13 hx hb hts hown hK hP in_X7 rfl hcb okF_11_3 rfc_11_3 fl_8 dX1_writeThing_125 ?_
    refine lv_iload_n hx hb dX1_writeThing_128 rfl (lv_at hl 1 rfl) ?_
    obtain ⟨hi129, h⟩ := if_s1 h
    refine a_I 13 hx hb hK hP hcb aln_13 hi129 dX1_writeThing_129 ?_
    refine lv_bipush (v := (8 : Int32)) hx hb dX1_writeThing_130 (by decide) ?_
    refine lv_iushr (v := (ushrI (r120.1 13 (x1).toNatClampNeg) (8 : Int32))) hx hb dX1_writeThing_132 rfl ?_
    obtain ⟨r133, er133, h⟩ := bd_s1 h
    refine c_VV (k := 34) (ci := 1) (As := [.int (ushrI (r120.1 13 (x1).toNatClampNeg) (8 : Int32))]) (rest := []) hx hb hml hown hts hK hN hL hP hS (cX1_put_ l bs D y hcb n (ushrI (r120.1 13 (x1).toNatClampNeg) (8 : Int32)) r120.1 r120.2 r133 er133) ok_X1_put ov_X1_put ml_7 ⟨Nat.le_of_ble_eq_true rfl, Nat.le_of_ble_eq_true rfl⟩ rfl hcb kd_34 hl.1 rfl rfl (Nat.le_of_ble_eq_true rfl) ⟨Nat.zero_le _, Nat.zero_le _⟩ dX1_writeThing_133 (fun H locs hP hS => ?_)
    exact r_V hx hb hr hlocks hP hK hN hL hS h dX1_writeThing_136
  · replace h := if_f c89 h
    refine lv_aload_n hx hb dX1_writeThing_92 rfl (lv_at hl 0 rfl) ?_
    refine lv_aload_n hx hb dX1_writeThing_93 rfl (lv_at hl 2 rfl) ?_
    refine lv_iload_n hx hb dX1_writeThing_94 rfl (lv_at hl 1 rfl) ?_
    refine lv_iload hx hb dX1_writeThing_95 (lv_at hl 3 rfl) ?_
    obtain ⟨r97, er97, h⟩ := bd_s1 h
    refine c_VI (k := 11) (ci := 7) (As := [.int x1, .int x5]) (rest := [.ref (bs + 34)]) hx hb hml hown hts hK hN hL hP hS (cX7_letter_ l bs D y hcb n x1 x5 I J r97 er97) ok_X7_letter ov_X7_letter ml_8 ⟨Nat.le_of_ble_eq_true rfl, Nat.le_of_ble_eq_true rfl⟩ rfl hcb kd_11 hl.1 rfl rfl (Nat.le_of_ble_eq_true rfl) ⟨Nat.zero_le _, Nat.zero_le _⟩ dX1_writeThing_97 (fun H locs hP hS => ?_)
    obtain ⟨r100, er100, h⟩ := bd_s1 h
    refine c_VV (k := 34) (ci := 1) (As := [.int r97.1]) (rest := []) hx hb hml hown hts hK hN hL hP hS (cX1_put_ l bs D y hcb n r97.1 r97.2.1 r97.2.2 r100 er100) ok_X1_put ov_X1_put ml_7 ⟨Nat.le_of_ble_eq_true rfl, Nat.le_of_ble_eq_true rfl⟩ rfl hcb kd_34 hl.1 rfl rfl (Nat.le_of_ble_eq_true rfl) ⟨Nat.zero_le _, Nat.zero_le _⟩ dX1_writeThing_100 (fun H locs hP hS => ?_)
    refine lv_iinc (v := (x5 + (1 : Int32))) (lv' := [(5, .int (x5 + (1 : Int32))), (0, .ref (bs + 34)), (1, .int x1), (3, .ref (bs + 11))]) hx hb dX1_writeThing_103 hl (k := 3) rfl rfl (by decide) rfl (fun ls hl => ?_)
    refine lv_goto (tgt := 81) hx hb dX1_writeThing_106 (by decide) ?_
    exact hk81_ x1 (x5 + (1 : Int32)) r100.1 r100.2 _ _ _ hP hS (lv_sub hl [1, 2, 3, 0] rfl) h
theorem vX1_writeThing_81 {p : Program} {l : Launch} {e : Env} {s : State} {m : MethodId} {args : Array Value} {below : List Frame} {meth : Method} {c : Code} (bs : Nat) (D : va_G) (y : Y3) (n : Nat) (r : M2) (Gc : Gx p s m args meth c cX1_writeThing 6 RX1 bs D y none 44)  : ∀ (q : Nat) (x1 : Int32) (x5 : Int32) (I : MI) (J : MJ) (H : Heap) (locs : List Loc) (ls : Array Slot), va_P D vwCl (wl bs y I J) H → va_S (FA bs) s.heap H locs → lv_has ls 6 [(0, .ref (bs + 34)), (1, .int x1), (3, .ref (bs + 11)), (5, .int x5)] → lX1_writeThing_81 n  q x1 x5 I J = some r → W p l e (rmm 1 22) s m args below meth c H locs 0 0 (QV below args s bs D y r) (F0 m 81 ls []) := by
  intro q
  induction q with
  | zero =>
    intro x1 x5 I J H locs ls hP hS hl h
    have h : (none : Option (M2)) = some r := h
    cases h
  | succ q ih =>
    intro x1 x5 I J H locs ls hP hS hl h
    have h : fX1_writeThing_81 n  (lX1_writeThing_81 n  q) x1 x5 I J = some r := h
    exact wX1_writeThing_81 bs D y n  (lX1_writeThing_81 n  q) r Gc  ih x1 x5 I J H locs ls hP hS hl h
set_option maxHeartbeats 4000000 in
set_option maxRecDepth 100000 in
theorem cX1_writeThing_ (l : Launch) (bs : Nat) (D : va_G) (y : Y3) (hcb : 44 ≤ y.2.2.2) (n : Nat) (x1 : Int32) (I : MI) (J : MJ) (r : M2) (h : fX1_writeThing n x1 I J = some r) : Met l yX1_writeThing (.code yX1_writeThing cX1_writeThing 6 none :: gtb) (rmm 1 22) (va_Pc [.ref (bs + 34), .int x1, .ref (bs + 1), .ref (bs + 11)] (HB bs D y I J)) (QcV bs D y r) 0 0 (FA bs) := by
  refine Met.ofW (cc := cX1_writeThing) (maxL := 6) (ret := none) (by decide) rfl ?_
  intro p e s m args below meth c s₁ B hml hv
  obtain ⟨rfl, hP, hK, hN, hL⟩ := hv
  have hx := B.exec
  have hb := B.bytes
  have hr := B.returns
  have hts0 := atoms_spec (ws := .code yX1_writeThing cX1_writeThing 6 none :: gtb) B.pre
  have hts : ∀ w ∈ gtb, w.before [.ref (bs + 34), .int x1, .ref (bs + 1), .ref (bs + 11)].toArray s = true := fun w hw => hts0 w (List.mem_cons_of_mem _ hw)
  have hown : s.vm.findClass RX1 = some m.cls := findClass_of_methodNamed B.named
  have hlocks := B.notSynchronized
  have hS : va_S (FA bs) s.heap s.heap [] := va_S.rf
  have Gc : Gx p s m [.ref (bs + 34), .int x1, .ref (bs + 1), .ref (bs + 11)].toArray meth c cX1_writeThing 6 RX1 bs D y none 44 := ⟨hx, hb, hml, hown, hts, hK, hN, hL, hr, hlocks, hcb⟩
  have hl := lv_entry [.ref (bs + 34), .int x1, .ref (bs + 1), .ref (bs + 11)] (n := 6) (Nat.le_of_ble_eq_true rfl)
  rw [lg_entry_eq]
  generalize (lg_sl [.ref (bs + 34), .int x1, .ref (bs + 1), .ref (bs + 11)] ++ List.replicate (6 - (lg_sl [.ref (bs + 34), .int x1, .ref (bs + 1), .ref (bs + 11)]).length) Slot.unset).toArray = ls at hl ⊢
  have hl : lv_has ls 6 [(0, .ref (bs + 34)), (1, .int x1), (2, .ref (bs + 1)), (3, .ref (bs + 11))] := hl
  change W p l e (rmm 1 22) s m [.ref (bs + 34), .int x1, .ref (bs + 1), .ref (bs + 11)].toArray below meth c s.heap [] 0 0 (QV below [.ref (bs + 34), .int x1, .ref (bs + 1), .ref (bs + 11)].toArray s bs D y r) (F0 m 0 ls [])
  unfold fX1_writeThing at h
  refine lv_aload_n hx hb dX1_writeThing_0 rfl (lv_at hl 2 rfl) ?_
  refine g_R (C := RX3) (T := TX3) (N := 11) (ci := 3) 1 0 2 hx hb hts hown hK hP in_X3 rfl hcb okF_1_0 rfc_1_0 fl_9 dX1_writeThing_1 ?_
  refine lv_iload_n hx hb dX1_writeThing_4 rfl (lv_at hl 1 rfl) ?_
  obtain ⟨hi5, h⟩ := if_s1 h
  refine a_I 2 hx hb hK hP hcb aln_2 hi5 dX1_writeThing_5 ?_
  obtain ⟨v6, ev6, h⟩ := lt_s1 h
  refine top_i ev6 ?_
  refine lv_istore (lv' := [(4, .int v6), (0, .ref (bs + 34)), (1, .int x1), (2, .ref (bs + 1)), (3, .ref (bs + 11))]) hx hb dX1_writeThing_6 hl (by decide) rfl (fun ls hl => ?_)
  refine lv_aload_n hx hb dX1_writeThing_8 rfl (lv_at hl 1 rfl) ?_
  refine lv_iload_n hx hb dX1_writeThing_9 rfl (lv_at hl 2 rfl) ?_
  obtain ⟨r10, er10, h⟩ := bd_s1 h
  refine c_VV (k := 34) (ci := 1) (As := [.int x1]) (rest := []) hx hb hml hown hts hK hN hL hP hS (cX1_put_ l bs D y hcb n x1 I J r10 er10) ok_X1_put ov_X1_put ml_7 ⟨Nat.le_of_ble_eq_true rfl, Nat.le_of_ble_eq_true rfl⟩ rfl hcb kd_34 hl.1 rfl rfl (Nat.le_of_ble_eq_true rfl) ⟨Nat.zero_le _, Nat.zero_le _⟩ dX1_writeThing_10 (fun H locs hP hS => ?_)
  refine lv_aload_n hx hb dX1_writeThing_13 rfl (lv_at hl 1 rfl) ?_
  refine lv_iload hx hb dX1_writeThing_14 (lv_at hl 0 rfl) ?_
  obtain ⟨r16, er16, h⟩ := bd_s1 h
  refine c_VV (k := 34) (ci := 1) (As := [.int v6]) (rest := []) hx hb hml hown hts hK hN hL hP hS (cX1_put_ l bs D y hcb n v6 r10.1 r10.2 r16 er16) ok_X1_put ov_X1_put ml_7 ⟨Nat.le_of_ble_eq_true rfl, Nat.le_of_ble_eq_true rfl⟩ rfl hcb kd_34 hl.1 rfl rfl (Nat.le_of_ble_eq_true rfl) ⟨Nat.zero_le _, Nat.zero_le _⟩ dX1_writeThing_16 (fun H locs hP hS => ?_)
  refine lv_aload_n hx hb dX1_writeThing_19 rfl (lv_at hl 1 rfl) ?_
  refine g_R (C := RX1) (T := TX1) (N := 5) (ci := 1) 34 4 37 hx hb hts hown hK hP in_X1 rfl hcb okF_34_4 rfc_34_4 fl_10 dX1_writeThing_20 ?_
  refine lv_iload_n hx hb dX1_writeThing_23 rfl (lv_at hl 2 rfl) ?_
  refine lv_aload_n hx hb dX1_writeThing_24 rfl (lv_at hl 1 rfl) ?_
  refine g_I (C := RX1) (T := TX1) (N := 5) (ci := 1) 34 1 hx hb hts hown hK hP in_X1 rfl hcb okF_34_1 fl_3 dX1_writeThing_25 ?_
  refine lv_iconst (v := (1 : Int32)) hx hb dX1_writeThing_28 (by decide) ?_
  refine lv_iadd hx hb dX1_writeThing_29 ?_
  obtain ⟨hi30, h⟩ := if_s1 h
  obtain ⟨I30, eI30, h⟩ := lt_s1 h
  refine t_I 37 eI30 hx hb hK hP hS hcb aln_37 hi30 dX1_writeThing_30 (fun H locs hP hS => ?_)
  refine lv_iload hx hb dX1_writeThing_31 (lv_at hl 0 rfl) ?_
  refine lv_if_ne (tgt := 44) hx hb dX1_writeThing_33 (by decide) (fun c33 => ?_) (fun c33 => ?_)
  · replace h := if_f c33 h
    refine lv_iload hx hb dX1_writeThing_44 (lv_at hl 0 rfl) ?_
    refine lv_iconst (v := (1 : Int32)) hx hb dX1_writeThing_46 (by decide) ?_
    refine lv_icmp_ne (tgt := 68) hx hb dX1_writeThing_47 (by decide) (fun c47 => ?_) (fun c47 => ?_)
    · replace h := if_f c47 h
      refine lv_aload_n hx hb dX1_writeThing_68 rfl (lv_at hl 1 rfl) ?_
      refine lv_aload_n hx hb dX1_writeThing_69 rfl (lv_at hl 4 rfl) ?_
      refine g_R (C := RX7) (T := TX7) (N := 7) (ci := 7) 11 2 12 hx hb hts hown hK hP in_X7 rfl hcb okF_11_2 rfc_11_2 fl_7 dX1_writeThing_70 ?_
      refine lv_iload_n hx hb dX1_writeThing_73 rfl (lv_at hl 2 rfl) ?_
      obtain ⟨hi74, h⟩ := if_s1 h
      refine a_I 12 hx hb hK hP hcb aln_12 hi74 dX1_writeThing_74 ?_
      obtain ⟨r75, er75, h⟩ := bd_s1 h
      refine c_VV (k := 34) (ci := 1) (As := [.int (I30 12 (x1).toNatClampNeg)]) (rest := []) hx hb hml hown hts hK hN hL hP hS (cX1_put_ l bs D y hcb n (I30 12 (x1).toNatClampNeg) I30 r16.2 r75 er75) ok_X1_put ov_X1_put ml_7 ⟨Nat.le_of_ble_eq_true rfl, Nat.le_of_ble_eq_true rfl⟩ rfl hcb kd_34 hl.1 rfl rfl (Nat.le_of_ble_eq_true rfl) ⟨Nat.zero_le _, Nat.zero_le _⟩ dX1_writeThing_75 (fun H locs hP hS => ?_)
      refine lv_iconst (v := (0 : Int32)) hx hb dX1_writeThing_78 (by decide) ?_
      refine lv_istore (lv' := [(5, .int (0 : Int32)), (4, .int v6), (0, .ref (bs + 34)), (1, .int x1), (2, .ref (bs + 1)), (3, .ref (bs + 11))]) hx hb dX1_writeThing_79 hl (by decide) rfl (fun ls hl => ?_)
      exact vX1_writeThing_81 bs D y n  r Gc  n x1 (0 : Int32) r75.1 r75.2 _ _ _ hP hS (lv_sub hl [2, 3, 5, 0] rfl) h
    · replace h := if_t c47 h
      refine lv_aload_n hx hb dX1_writeThing_50 rfl (lv_at hl 1 rfl) ?_
      refine lv_iconst (v := (1 : Int32)) hx hb dX1_writeThing_51 (by decide) ?_
      obtain ⟨r52, er52, h⟩ := bd_s1 h
      refine c_VV (k := 34) (ci := 1) (As := [.int (1 : Int32)]) (rest := []) hx hb hml hown hts hK hN hL hP hS (cX1_put_ l bs D y hcb n (1 : Int32) I30 r16.2 r52 er52) ok_X1_put ov_X1_put ml_7 ⟨Nat.le_of_ble_eq_true rfl, Nat.le_of_ble_eq_true rfl⟩ rfl hcb kd_34 hl.1 rfl rfl (Nat.le_of_ble_eq_true rfl) ⟨Nat.zero_le _, Nat.zero_le _⟩ dX1_writeThing_52 (fun H locs hP hS => ?_)
      refine lv_aload_n hx hb dX1_writeThing_55 rfl (lv_at hl 1 rfl) ?_
      refine lv_aload_n hx hb dX1_writeThing_56 rfl (lv_at hl 3 rfl) ?_
      refine g_R (C := RX3) (T := TX3) (N := 11) (ci := 3) 1 1 3 hx hb hts hown hK hP in_X3 rfl hcb okF_1_1 rfc_1_1 fl_11 dX1_writeThing_57 ?_
      refine lv_iload_n hx hb dX1_writeThing_60 rfl (lv_at hl 2 rfl) ?_
      obtain ⟨hi61, h⟩ := if_s1 h
      refine a_I 3 hx hb hK hP hcb aln_3 hi61 dX1_writeThing_61 ?_
      obtain ⟨r62, er62, h⟩ := bd_s1 h
      refine c_VV (k := 34) (ci := 1) (As := [.int (r52.1 3 (x1).toNatClampNeg)]) (rest := []) hx hb hml hown hts hK hN hL hP hS (cX1_put_ l bs D y hcb n (r52.1 3 (x1).toNatClampNeg) r52.1 r52.2 r62 er62) ok_X1_put ov_X1_put ml_7 ⟨Nat.le_of_ble_eq_true rfl, Nat.le_of_ble_eq_true rfl⟩ rfl hcb kd_34 hl.1 rfl rfl (Nat.le_of_ble_eq_true rfl) ⟨Nat.zero_le _, Nat.zero_le _⟩ dX1_writeThing_62 (fun H locs hP hS => ?_)
      refine lv_goto (tgt := 136) hx hb dX1_writeThing_65 (by decide) ?_
      exact r_V hx hb hr hlocks hP hK hN hL hS h dX1_writeThing_136
  · replace h := if_t c33 h
    refine lv_aload_n hx hb dX1_writeThing_36 rfl (lv_at hl 1 rfl) ?_
    refine lv_iconst (v := (0 : Int32)) hx hb dX1_writeThing_37 (by decide) ?_
    obtain ⟨r38, er38, h⟩ := bd_s1 h
    refine c_VV (k := 34) (ci := 1) (As := [.int (0 : Int32)]) (rest := []) hx hb hml hown hts hK hN hL hP hS (cX1_put_ l bs D y hcb n (0 : Int32) I30 r16.2 r38 er38) ok_X1_put ov_X1_put ml_7 ⟨Nat.le_of_ble_eq_true rfl, Nat.le_of_ble_eq_true rfl⟩ rfl hcb kd_34 hl.1 rfl rfl (Nat.le_of_ble_eq_true rfl) ⟨Nat.zero_le _, Nat.zero_le _⟩ dX1_writeThing_38 (fun H locs hP hS => ?_)
    refine lv_goto (tgt := 136) hx hb dX1_writeThing_41 (by decide) ?_
    exact r_V hx hb hr hlocks hP hK hN hL hS h dX1_writeThing_136
theorem dX1_sumOf_0 : decode cX1_sumOf 0 = .ok (.iconst 0, 1) := by decide +kernel
theorem dX1_sumOf_1 : decode cX1_sumOf 1 = .ok (.istore_n 3, 1) := by decide +kernel
theorem dX1_sumOf_2 : decode cX1_sumOf 2 = .ok (.iload_n 1, 1) := by decide +kernel
theorem dX1_sumOf_3 : decode cX1_sumOf 3 = .ok (.istore 4, 2) := by decide +kernel
theorem dX1_sumOf_5 : decode cX1_sumOf 5 = .ok (.iload 4, 2) := by decide +kernel
theorem dX1_sumOf_7 : decode cX1_sumOf 7 = .ok (.iload_n 2, 1) := by decide +kernel
theorem dX1_sumOf_8 : decode cX1_sumOf 8 = .ok (.if_icmp .ge 19, 3) := by decide +kernel
theorem dX1_sumOf_11 : decode cX1_sumOf 11 = .ok (.iload_n 3, 1) := by decide +kernel
theorem dX1_sumOf_12 : decode cX1_sumOf 12 = .ok (.aload_n 0, 1) := by decide +kernel
theorem dX1_sumOf_13 : decode cX1_sumOf 13 = .ok (.getfield 9, 3) := by decide +kernel
theorem dX1_sumOf_16 : decode cX1_sumOf 16 = .ok (.iload 4, 2) := by decide +kernel
theorem dX1_sumOf_18 : decode cX1_sumOf 18 = .ok (.iaload, 1) := by decide +kernel
theorem dX1_sumOf_19 : decode cX1_sumOf 19 = .ok (.iadd, 1) := by decide +kernel
theorem dX1_sumOf_20 : decode cX1_sumOf 20 = .ok (.istore_n 3, 1) := by decide +kernel
theorem dX1_sumOf_21 : decode cX1_sumOf 21 = .ok (.iinc 4 1, 3) := by decide +kernel
theorem dX1_sumOf_24 : decode cX1_sumOf 24 = .ok (.goto (-19), 3) := by decide +kernel
theorem dX1_sumOf_27 : decode cX1_sumOf 27 = .ok (.sipush 255, 3) := by decide +kernel
theorem dX1_sumOf_30 : decode cX1_sumOf 30 = .ok (.iload_n 3, 1) := by decide +kernel
theorem dX1_sumOf_31 : decode cX1_sumOf 31 = .ok (.isub, 1) := by decide +kernel
theorem dX1_sumOf_32 : decode cX1_sumOf 32 = .ok (.sipush 255, 3) := by decide +kernel
theorem dX1_sumOf_35 : decode cX1_sumOf 35 = .ok (.iand, 1) := by decide +kernel
theorem dX1_sumOf_36 : decode cX1_sumOf 36 = .ok (.ireturn, 1) := by decide +kernel
set_option maxHeartbeats 4000000 in
set_option maxRecDepth 100000 in
theorem wX1_sumOf_5 {p : Program} {l : Launch} {e : Env} {s : State} {m : MethodId} {args : Array Value} {below : List Frame} {meth : Method} {c : Code} (bs : Nat) (D : va_G) (y : Y3) (n : Nat) (k5_ : Int32 → Int32 → Int32 → MI → MJ → Option (Int32 × M2)) (r : Int32 × M2) (Gc : Gx p s m args meth c cX1_sumOf 5 RX1 bs D y (some .int) 44) (hk5_ : ∀ (x2 : Int32) (x3 : Int32) (x4 : Int32) (I : MI) (J : MJ) (H : Heap) (locs : List Loc) (ls : Array Slot), va_P D vwCl (wl bs y I J) H → va_S (FA bs) s.heap H locs → lv_has ls 5 [(0, .ref (bs + 34)), (2, .int x2), (3, .int x3), (4, .int x4)] → k5_ x2 x3 x4 I J = some r → W p l e (rmm 0 0) s m args below meth c H locs 0 0 (QI below args s bs D y r) (F0 m 5 ls [])) (x2 : Int32) (x3 : Int32) (x4 : Int32) (I : MI) (J : MJ) (H : Heap) (locs : List Loc) (ls : Array Slot) (hP : va_P D vwCl (wl bs y I J) H) (hS : va_S (FA bs) s.heap H locs) (hl : lv_has ls 5 [(0, .ref (bs + 34)), (2, .int x2), (3, .int x3), (4, .int x4)]) (h : fX1_sumOf_5 n k5_ x2 x3 x4 I J = some r) : W p l e (rmm 0 0) s m args below meth c H locs 0 0 (QI below args s bs D y r) (F0 m 5 ls []) := by
  obtain ⟨hx, hb, hml, hown, hts, hK, hN, hL, hr, hlocks, hcb⟩ := id Gc
  unfold fX1_sumOf_5 at h
  refine lv_iload hx hb dX1_sumOf_5 (lv_at hl 3 rfl) ?_
  refine lv_iload_n hx hb dX1_sumOf_7 rfl (lv_at hl 1 rfl) ?_
  refine lv_icmp_ge (tgt := 27) hx hb dX1_sumOf_8 (by decide) (fun c8 => ?_) (fun c8 => ?_)
  · replace h := if_t c8 h
    refine lv_sipush (v := (255 : Int32)) hx hb dX1_sumOf_27 (by decide) ?_
    refine lv_iload_n hx hb dX1_sumOf_30 rfl (lv_at hl 2 rfl) ?_
    refine lv_isub hx hb dX1_sumOf_31 ?_
    refine lv_sipush (v := (255 : Int32)) hx hb dX1_sumOf_32 (by decide) ?_
    refine lv_iand hx hb dX1_sumOf_35 ?_
    exact r_I hx hb hr hlocks hP hK hN hL hS h dX1_sumOf_36
  · replace h := if_f c8 h
    refine lv_iload_n hx hb dX1_sumOf_11 rfl (lv_at hl 2 rfl) ?_
    refine lv_aload_n hx hb dX1_sumOf_12 rfl (lv_at hl 0 rfl) ?_
    refine g_R (C := RX1) (T := TX1) (N := 5) (ci := 1) 34 2 35 hx hb hts hown hK hP in_X1 rfl hcb okF_34_2 rfc_34_2 fl_4 dX1_sumOf_13 ?_
    refine lv_iload hx hb dX1_sumOf_16 (lv_at hl 3 rfl) ?_
    obtain ⟨hi18, h⟩ := if_s1 h
    refine a_I 35 hx hb hK hP hcb aln_35 hi18 dX1_sumOf_18 ?_
    refine lv_iadd hx hb dX1_sumOf_19 ?_
    obtain ⟨v20, ev20, h⟩ := lt_s1 h
    refine top_i ev20 ?_
    refine lv_istore_n (lv' := [(3, .int v20), (0, .ref (bs + 34)), (2, .int x2), (4, .int x4)]) hx hb dX1_sumOf_20 rfl hl (by decide) rfl (fun ls hl => ?_)
    refine lv_iinc (v := (x4 + (1 : Int32))) (lv' := [(4, .int (x4 + (1 : Int32))), (3, .int v20), (0, .ref (bs + 34)), (2, .int x2)]) hx hb dX1_sumOf_21 hl (k := 3) rfl rfl (by decide) rfl (fun ls hl => ?_)
    refine lv_goto (tgt := 5) hx hb dX1_sumOf_24 (by decide) ?_
    exact hk5_ x2 v20 (x4 + (1 : Int32)) I J _ _ _ hP hS (lv_sub hl [2, 3, 1, 0] rfl) h
theorem vX1_sumOf_5 {p : Program} {l : Launch} {e : Env} {s : State} {m : MethodId} {args : Array Value} {below : List Frame} {meth : Method} {c : Code} (bs : Nat) (D : va_G) (y : Y3) (n : Nat) (r : Int32 × M2) (Gc : Gx p s m args meth c cX1_sumOf 5 RX1 bs D y (some .int) 44)  : ∀ (q : Nat) (x2 : Int32) (x3 : Int32) (x4 : Int32) (I : MI) (J : MJ) (H : Heap) (locs : List Loc) (ls : Array Slot), va_P D vwCl (wl bs y I J) H → va_S (FA bs) s.heap H locs → lv_has ls 5 [(0, .ref (bs + 34)), (2, .int x2), (3, .int x3), (4, .int x4)] → lX1_sumOf_5 n  q x2 x3 x4 I J = some r → W p l e (rmm 0 0) s m args below meth c H locs 0 0 (QI below args s bs D y r) (F0 m 5 ls []) := by
  intro q
  induction q with
  | zero =>
    intro x2 x3 x4 I J H locs ls hP hS hl h
    have h : (none : Option (Int32 × M2)) = some r := h
    cases h
  | succ q ih =>
    intro x2 x3 x4 I J H locs ls hP hS hl h
    have h : fX1_sumOf_5 n  (lX1_sumOf_5 n  q) x2 x3 x4 I J = some r := h
    exact wX1_sumOf_5 bs D y n  (lX1_sumOf_5 n  q) r Gc  ih x2 x3 x4 I J H locs ls hP hS hl h
set_option maxHeartbeats 4000000 in
set_option maxRecDepth 100000 in
theorem cX1_sumOf_ (l : Launch) (bs : Nat) (D : va_G) (y : Y3) (hcb : 44 ≤ y.2.2.2) (n : Nat) (x1 : Int32) (x2 : Int32) (I : MI) (J : MJ) (r : Int32 × M2) (h : fX1_sumOf n x1 x2 I J = some r) : Met l yX1_sumOf (.code yX1_sumOf cX1_sumOf 5 (some .int) :: gtb) (rmm 0 0) (va_Pc [.ref (bs + 34), .int x1, .int x2] (HB bs D y I J)) (QcI bs D y r) 0 0 (FA bs) := by
  refine Met.ofW (cc := cX1_sumOf) (maxL := 5) (ret := (some .int)) (by decide) rfl ?_
  intro p e s m args below meth c s₁ B hml hv
  obtain ⟨rfl, hP, hK, hN, hL⟩ := hv
  have hx := B.exec
  have hb := B.bytes
  have hr := B.returns
  have hts0 := atoms_spec (ws := .code yX1_sumOf cX1_sumOf 5 (some .int) :: gtb) B.pre
  have hts : ∀ w ∈ gtb, w.before [.ref (bs + 34), .int x1, .int x2].toArray s = true := fun w hw => hts0 w (List.mem_cons_of_mem _ hw)
  have hown : s.vm.findClass RX1 = some m.cls := findClass_of_methodNamed B.named
  have hlocks := B.notSynchronized
  have hS : va_S (FA bs) s.heap s.heap [] := va_S.rf
  have Gc : Gx p s m [.ref (bs + 34), .int x1, .int x2].toArray meth c cX1_sumOf 5 RX1 bs D y (some .int) 44 := ⟨hx, hb, hml, hown, hts, hK, hN, hL, hr, hlocks, hcb⟩
  have hl := lv_entry [.ref (bs + 34), .int x1, .int x2] (n := 5) (Nat.le_of_ble_eq_true rfl)
  rw [lg_entry_eq]
  generalize (lg_sl [.ref (bs + 34), .int x1, .int x2] ++ List.replicate (5 - (lg_sl [.ref (bs + 34), .int x1, .int x2]).length) Slot.unset).toArray = ls at hl ⊢
  have hl : lv_has ls 5 [(0, .ref (bs + 34)), (1, .int x1), (2, .int x2)] := hl
  change W p l e (rmm 0 0) s m [.ref (bs + 34), .int x1, .int x2].toArray below meth c s.heap [] 0 0 (QI below [.ref (bs + 34), .int x1, .int x2].toArray s bs D y r) (F0 m 0 ls [])
  unfold fX1_sumOf at h
  refine lv_iconst (v := (0 : Int32)) hx hb dX1_sumOf_0 (by decide) ?_
  refine lv_istore_n (lv' := [(3, .int (0 : Int32)), (0, .ref (bs + 34)), (1, .int x1), (2, .int x2)]) hx hb dX1_sumOf_1 rfl hl (by decide) rfl (fun ls hl => ?_)
  refine lv_iload_n hx hb dX1_sumOf_2 rfl (lv_at hl 2 rfl) ?_
  refine lv_istore (lv' := [(4, .int x1), (3, .int (0 : Int32)), (0, .ref (bs + 34)), (1, .int x1), (2, .int x2)]) hx hb dX1_sumOf_3 hl (by decide) rfl (fun ls hl => ?_)
  exact vX1_sumOf_5 bs D y n  r Gc  n x2 (0 : Int32) x1 I J _ _ _ hP hS (lv_sub hl [2, 4, 1, 0] rfl) h
theorem dX1_write_0 : decode cX1_write 0 = .ok (.aload_n 0, 1) := by decide +kernel
theorem dX1_write_1 : decode cX1_write 1 = .ok (.iconst 0, 1) := by decide +kernel
theorem dX1_write_2 : decode cX1_write 2 = .ok (.putfield 21, 3) := by decide +kernel
theorem dX1_write_5 : decode cX1_write 5 = .ok (.iconst 0, 1) := by decide +kernel
theorem dX1_write_6 : decode cX1_write 6 = .ok (.istore 5, 2) := by decide +kernel
theorem dX1_write_8 : decode cX1_write 8 = .ok (.iload 5, 2) := by decide +kernel
theorem dX1_write_10 : decode cX1_write 10 = .ok (.aload_n 3, 1) := by decide +kernel
theorem dX1_write_11 : decode cX1_write 11 = .ok (.getfield 25, 3) := by decide +kernel
theorem dX1_write_14 : decode cX1_write 14 = .ok (.if_icmp .ge 89, 3) := by decide +kernel
theorem dX1_write_17 : decode cX1_write 17 = .ok (.aload_n 0, 1) := by decide +kernel
theorem dX1_write_18 : decode cX1_write 18 = .ok (.getfield 15, 3) := by decide +kernel
theorem dX1_write_21 : decode cX1_write 21 = .ok (.iload 5, 2) := by decide +kernel
theorem dX1_write_23 : decode cX1_write 23 = .ok (.aload_n 0, 1) := by decide +kernel
theorem dX1_write_24 : decode cX1_write 24 = .ok (.getfield 21, 3) := by decide +kernel
theorem dX1_write_27 : decode cX1_write 27 = .ok (.iastore, 1) := by decide +kernel
theorem dX1_write_28 : decode cX1_write 28 = .ok (.iconst 0, 1) := by decide +kernel
theorem dX1_write_29 : decode cX1_write 29 = .ok (.istore 6, 2) := by decide +kernel
theorem dX1_write_31 : decode cX1_write 31 = .ok (.iload 6, 2) := by decide +kernel
theorem dX1_write_33 : decode cX1_write 33 = .ok (.aload 4, 2) := by decide +kernel
theorem dX1_write_35 : decode cX1_write 35 = .ok (.getfield 30, 3) := by decide +kernel
theorem dX1_write_38 : decode cX1_write 38 = .ok (.if_icmp .ge 40, 3) := by decide +kernel
theorem dX1_write_41 : decode cX1_write 41 = .ok (.aload 4, 2) := by decide +kernel
theorem dX1_write_43 : decode cX1_write 43 = .ok (.getfield 35, 3) := by decide +kernel
theorem dX1_write_46 : decode cX1_write 46 = .ok (.iload 6, 2) := by decide +kernel
theorem dX1_write_48 : decode cX1_write 48 = .ok (.iaload, 1) := by decide +kernel
theorem dX1_write_49 : decode cX1_write 49 = .ok (.istore 7, 2) := by decide +kernel
theorem dX1_write_51 : decode cX1_write 51 = .ok (.aload 4, 2) := by decide +kernel
theorem dX1_write_53 : decode cX1_write 53 = .ok (.getfield 38, 3) := by decide +kernel
theorem dX1_write_56 : decode cX1_write 56 = .ok (.iload 7, 2) := by decide +kernel
theorem dX1_write_58 : decode cX1_write 58 = .ok (.iaload, 1) := by decide +kernel
theorem dX1_write_59 : decode cX1_write 59 = .ok (.iload 5, 2) := by decide +kernel
theorem dX1_write_61 : decode cX1_write 61 = .ok (.if_icmp .ne 11, 3) := by decide +kernel
theorem dX1_write_64 : decode cX1_write 64 = .ok (.aload_n 0, 1) := by decide +kernel
theorem dX1_write_65 : decode cX1_write 65 = .ok (.iload 7, 2) := by decide +kernel
theorem dX1_write_67 : decode cX1_write 67 = .ok (.aload_n 1, 1) := by decide +kernel
theorem dX1_write_68 : decode cX1_write 68 = .ok (.aload_n 2, 1) := by decide +kernel
theorem dX1_write_69 : decode cX1_write 69 = .ok (.invokevirtual 41, 3) := by decide +kernel
theorem dX1_write_72 : decode cX1_write 72 = .ok (.iinc 6 1, 3) := by decide +kernel
theorem dX1_write_75 : decode cX1_write 75 = .ok (.goto (-44), 3) := by decide +kernel
theorem dX1_write_78 : decode cX1_write 78 = .ok (.aload_n 0, 1) := by decide +kernel
theorem dX1_write_79 : decode cX1_write 79 = .ok (.aload_n 0, 1) := by decide +kernel
theorem dX1_write_80 : decode cX1_write 80 = .ok (.aload_n 0, 1) := by decide +kernel
theorem dX1_write_81 : decode cX1_write 81 = .ok (.getfield 15, 3) := by decide +kernel
theorem dX1_write_84 : decode cX1_write 84 = .ok (.iload 5, 2) := by decide +kernel
theorem dX1_write_86 : decode cX1_write 86 = .ok (.iaload, 1) := by decide +kernel
theorem dX1_write_87 : decode cX1_write 87 = .ok (.aload_n 0, 1) := by decide +kernel
theorem dX1_write_88 : decode cX1_write 88 = .ok (.getfield 21, 3) := by decide +kernel
theorem dX1_write_91 : decode cX1_write 91 = .ok (.invokevirtual 45, 3) := by decide +kernel
theorem dX1_write_94 : decode cX1_write 94 = .ok (.invokevirtual 49, 3) := by decide +kernel
theorem dX1_write_97 : decode cX1_write 97 = .ok (.iinc 5 1, 3) := by decide +kernel
theorem dX1_write_100 : decode cX1_write 100 = .ok (.goto (-92), 3) := by decide +kernel
theorem dX1_write_103 : decode cX1_write 103 = .ok (.aload_n 0, 1) := by decide +kernel
theorem dX1_write_104 : decode cX1_write 104 = .ok (.getfield 15, 3) := by decide +kernel
theorem dX1_write_107 : decode cX1_write 107 = .ok (.aload_n 3, 1) := by decide +kernel
theorem dX1_write_108 : decode cX1_write 108 = .ok (.getfield 25, 3) := by decide +kernel
theorem dX1_write_111 : decode cX1_write 111 = .ok (.aload_n 0, 1) := by decide +kernel
theorem dX1_write_112 : decode cX1_write 112 = .ok (.getfield 21, 3) := by decide +kernel
theorem dX1_write_115 : decode cX1_write 115 = .ok (.iastore, 1) := by decide +kernel
theorem dX1_write_116 : decode cX1_write 116 = .ok (.aload_n 0, 1) := by decide +kernel
theorem dX1_write_117 : decode cX1_write 117 = .ok (.iconst 1, 1) := by decide +kernel
theorem dX1_write_118 : decode cX1_write 118 = .ok (.putfield 53, 3) := by decide +kernel
theorem dX1_write_121 : decode cX1_write 121 = .ok (.return_, 1) := by decide +kernel
set_option maxHeartbeats 4000000 in
set_option maxRecDepth 100000 in
theorem wX1_write_72 {p : Program} {l : Launch} {e : Env} {s : State} {m : MethodId} {args : Array Value} {below : List Frame} {meth : Method} {c : Code} (bs : Nat) (D : va_G) (y : Y3) (n : Nat) (k8_ : Int32 → MI → MJ → Option (M2)) (k31_ : Int32 → Int32 → MI → MJ → Option (M2)) (r : M2) (Gc : Gx p s m args meth c cX1_write 8 RX1 bs D y none 44) (hk8_ : ∀ (x5 : Int32) (I : MI) (J : MJ) (H : Heap) (locs : List Loc) (ls : Array Slot), va_P D vwCl (wl bs y I J) H → va_S (FA bs) s.heap H locs → lv_has ls 8 [(0, .ref (bs + 34)), (1, .ref (bs + 1)), (2, .ref (bs + 11)), (3, .ref (bs + 16)), (4, .ref (bs + 22)), (5, .int x5)] → k8_ x5 I J = some r → W p l e (rmm 2 47) s m args below meth c H locs 0 0 (QV below args s bs D y r) (F0 m 8 ls [])) (hk31_ : ∀ (x5 : Int32) (x6 : Int32) (I : MI) (J : MJ) (H : Heap) (locs : List Loc) (ls : Array Slot), va_P D vwCl (wl bs y I J) H → va_S (FA bs) s.heap H locs → lv_has ls 8 [(0, .ref (bs + 34)), (1, .ref (bs + 1)), (2, .ref (bs + 11)), (3, .ref (bs + 16)), (4, .ref (bs + 22)), (5, .int x5), (6, .int x6)] → k31_ x5 x6 I J = some r → W p l e (rmm 2 47) s m args below meth c H locs 0 0 (QV below args s bs D y r) (F0 m 31 ls [])) (x5 : Int32) (x6 : Int32) (I : MI) (J : MJ) (H : Heap) (locs : List Loc) (ls : Array Slot) (hP : va_P D vwCl (wl bs y I J) H) (hS : va_S (FA bs) s.heap H locs) (hl : lv_has ls 8 [(0, .ref (bs + 34)), (1, .ref (bs + 1)), (2, .ref (bs + 11)), (3, .ref (bs + 16)), (4, .ref (bs + 22)), (5, .int x5), (6, .int x6)]) (h : fX1_write_72 n k8_ k31_ x5 x6 I J = some r) : W p l e (rmm 2 47) s m args below meth c H locs 0 0 (QV below args s bs D y r) (F0 m 72 ls []) := by
  obtain ⟨hx, hb, hml, hown, hts, hK, hN, hL, hr, hlocks, hcb⟩ := id Gc
  unfold fX1_write_72 at h
  refine lv_iinc (v := (x6 + (1 : Int32))) (lv' := [(6, .int (x6 + (1 : Int32))), (0, .ref (bs + 34)), (1, .ref (bs + 1)), (2, .ref (bs + 11)), (3, .ref (bs + 16)), (4, .ref (bs + 22)), (5, .int x5)]) hx hb dX1_write_72 hl (k := 6) rfl rfl (by decide) rfl (fun ls hl => ?_)
  refine lv_goto (tgt := 31) hx hb dX1_write_75 (by decide) ?_
  exact hk31_ x5 (x6 + (1 : Int32)) I J _ _ _ hP hS (lv_sub hl [1, 2, 3, 4, 5, 6, 0] rfl) h
set_option maxHeartbeats 4000000 in
set_option maxRecDepth 100000 in
theorem wX1_write_31 {p : Program} {l : Launch} {e : Env} {s : State} {m : MethodId} {args : Array Value} {below : List Frame} {meth : Method} {c : Code} (bs : Nat) (D : va_G) (y : Y3) (n : Nat) (k8_ : Int32 → MI → MJ → Option (M2)) (k31_ : Int32 → Int32 → MI → MJ → Option (M2)) (r : M2) (Gc : Gx p s m args meth c cX1_write 8 RX1 bs D y none 44) (hk8_ : ∀ (x5 : Int32) (I : MI) (J : MJ) (H : Heap) (locs : List Loc) (ls : Array Slot), va_P D vwCl (wl bs y I J) H → va_S (FA bs) s.heap H locs → lv_has ls 8 [(0, .ref (bs + 34)), (1, .ref (bs + 1)), (2, .ref (bs + 11)), (3, .ref (bs + 16)), (4, .ref (bs + 22)), (5, .int x5)] → k8_ x5 I J = some r → W p l e (rmm 2 47) s m args below meth c H locs 0 0 (QV below args s bs D y r) (F0 m 8 ls [])) (hk31_ : ∀ (x5 : Int32) (x6 : Int32) (I : MI) (J : MJ) (H : Heap) (locs : List Loc) (ls : Array Slot), va_P D vwCl (wl bs y I J) H → va_S (FA bs) s.heap H locs → lv_has ls 8 [(0, .ref (bs + 34)), (1, .ref (bs + 1)), (2, .ref (bs + 11)), (3, .ref (bs + 16)), (4, .ref (bs + 22)), (5, .int x5), (6, .int x6)] → k31_ x5 x6 I J = some r → W p l e (rmm 2 47) s m args below meth c H locs 0 0 (QV below args s bs D y r) (F0 m 31 ls [])) (x5 : Int32) (x6 : Int32) (I : MI) (J : MJ) (H : Heap) (locs : List Loc) (ls : Array Slot) (hP : va_P D vwCl (wl bs y I J) H) (hS : va_S (FA bs) s.heap H locs) (hl : lv_has ls 8 [(0, .ref (bs + 34)), (1, .ref (bs + 1)), (2, .ref (bs + 11)), (3, .ref (bs + 16)), (4, .ref (bs + 22)), (5, .int x5), (6, .int x6)]) (h : fX1_write_31 n k8_ k31_ x5 x6 I J = some r) : W p l e (rmm 2 47) s m args below meth c H locs 0 0 (QV below args s bs D y r) (F0 m 31 ls []) := by
  obtain ⟨hx, hb, hml, hown, hts, hK, hN, hL, hr, hlocks, hcb⟩ := id Gc
  unfold fX1_write_31 at h
  refine lv_iload hx hb dX1_write_31 (lv_at hl 6 rfl) ?_
  refine lv_aload hx hb dX1_write_33 (lv_at hl 4 rfl) ?_
  refine g_I (C := RX5) (T := TX5) (N := 7) (ci := 5) 22 1 hx hb hts hown hK hP in_X5 rfl hcb okF_22_1 fl_12 dX1_write_35 ?_
  refine lv_icmp_ge (tgt := 78) hx hb dX1_write_38 (by decide) (fun c38 => ?_) (fun c38 => ?_)
  · replace h := if_t c38 h
    refine lv_aload_n hx hb dX1_write_78 rfl (lv_at hl 0 rfl) ?_
    refine lv_aload_n hx hb dX1_write_79 rfl (lv_at hl 0 rfl) ?_
    refine lv_aload_n hx hb dX1_write_80 rfl (lv_at hl 0 rfl) ?_
    refine g_R (C := RX1) (T := TX1) (N := 5) (ci := 1) 34 3 36 hx hb hts hown hK hP in_X1 rfl hcb okF_34_3 rfc_34_3 fl_13 dX1_write_81 ?_
    refine lv_iload hx hb dX1_write_84 (lv_at hl 5 rfl) ?_
    obtain ⟨hi86, h⟩ := if_s1 h
    refine a_I 36 hx hb hK hP hcb aln_36 hi86 dX1_write_86 ?_
    refine lv_aload_n hx hb dX1_write_87 rfl (lv_at hl 0 rfl) ?_
    refine g_I (C := RX1) (T := TX1) (N := 5) (ci := 1) 34 1 hx hb hts hown hK hP in_X1 rfl hcb okF_34_1 fl_3 dX1_write_88 ?_
    obtain ⟨r91, er91, h⟩ := bd_s1 h
    refine c_VI (k := 34) (ci := 1) (As := [.int (I 36 (x5).toNatClampNeg), .int (I 34 1)]) (rest := [.ref (bs + 34)]) hx hb hml hown hts hK hN hL hP hS (cX1_sumOf_ l bs D y hcb n (I 36 (x5).toNatClampNeg) (I 34 1) I J r91 er91) ok_X1_sumOf ov_X1_sumOf ml_9 ⟨Nat.le_of_ble_eq_true rfl, Nat.le_of_ble_eq_true rfl⟩ rfl hcb kd_34 hl.1 rfl rfl (Nat.le_of_ble_eq_true rfl) ⟨Nat.zero_le _, Nat.zero_le _⟩ dX1_write_91 (fun H locs hP hS => ?_)
    obtain ⟨r94, er94, h⟩ := bd_s1 h
    refine c_VV (k := 34) (ci := 1) (As := [.int r91.1]) (rest := []) hx hb hml hown hts hK hN hL hP hS (cX1_put_ l bs D y hcb n r91.1 r91.2.1 r91.2.2 r94 er94) ok_X1_put ov_X1_put ml_7 ⟨Nat.le_of_ble_eq_true rfl, Nat.le_of_ble_eq_true rfl⟩ rfl hcb kd_34 hl.1 rfl rfl (Nat.le_of_ble_eq_true rfl) ⟨Nat.zero_le _, Nat.zero_le _⟩ dX1_write_94 (fun H locs hP hS => ?_)
    refine lv_iinc (v := (x5 + (1 : Int32))) (lv' := [(5, .int (x5 + (1 : Int32))), (0, .ref (bs + 34)), (1, .ref (bs + 1)), (2, .ref (bs + 11)), (3, .ref (bs + 16)), (4, .ref (bs + 22)), (6, .int x6)]) hx hb dX1_write_97 hl (k := 5) rfl rfl (by decide) rfl (fun ls hl => ?_)
    refine lv_goto (tgt := 8) hx hb dX1_write_100 (by decide) ?_
    exact hk8_ (x5 + (1 : Int32)) r94.1 r94.2 _ _ _ hP hS (lv_sub hl [1, 2, 3, 4, 5, 0] rfl) h
  · replace h := if_f c38 h
    refine lv_aload hx hb dX1_write_41 (lv_at hl 4 rfl) ?_
    refine g_R (C := RX5) (T := TX5) (N := 7) (ci := 5) 22 2 23 hx hb hts hown hK hP in_X5 rfl hcb okF_22_2 rfc_22_2 fl_14 dX1_write_43 ?_
    refine lv_iload hx hb dX1_write_46 (lv_at hl 6 rfl) ?_
    obtain ⟨hi48, h⟩ := if_s1 h
    refine a_I 23 hx hb hK hP hcb aln_23 hi48 dX1_write_48 ?_
    obtain ⟨v49, ev49, h⟩ := lt_s1 h
    refine top_i ev49 ?_
    refine lv_istore (lv' := [(7, .int v49), (0, .ref (bs + 34)), (1, .ref (bs + 1)), (2, .ref (bs + 11)), (3, .ref (bs + 16)), (4, .ref (bs + 22)), (5, .int x5), (6, .int x6)]) hx hb dX1_write_49 hl (by decide) rfl (fun ls hl => ?_)
    refine lv_aload hx hb dX1_write_51 (lv_at hl 5 rfl) ?_
    refine g_R (C := RX5) (T := TX5) (N := 7) (ci := 5) 22 3 24 hx hb hts hown hK hP in_X5 rfl hcb okF_22_3 rfc_22_3 fl_15 dX1_write_53 ?_
    refine lv_iload hx hb dX1_write_56 (lv_at hl 0 rfl) ?_
    obtain ⟨hi58, h⟩ := if_s1 h
    refine a_I 24 hx hb hK hP hcb aln_24 hi58 dX1_write_58 ?_
    refine lv_iload hx hb dX1_write_59 (lv_at hl 6 rfl) ?_
    refine lv_icmp_ne (tgt := 72) hx hb dX1_write_61 (by decide) (fun c61 => ?_) (fun c61 => ?_)
    · replace h := if_f c61 h
      exact wX1_write_72 bs D y n k8_ k31_ r Gc hk8_ hk31_ x5 x6 I J _ _ _ hP hS (lv_sub hl [1, 2, 3, 4, 5, 6, 7] rfl) h
    · replace h := if_t c61 h
      refine lv_aload_n hx hb dX1_write_64 rfl (lv_at hl 1 rfl) ?_
      refine lv_iload hx hb dX1_write_65 (lv_at hl 0 rfl) ?_
      refine lv_aload_n hx hb dX1_write_67 rfl (lv_at hl 2 rfl) ?_
      refine lv_aload_n hx hb dX1_write_68 rfl (lv_at hl 3 rfl) ?_
      obtain ⟨r69, er69, h⟩ := bd_s1 h
      refine c_VV (k := 34) (ci := 1) (As := [.int v49, .ref (bs + 1), .ref (bs + 11)]) (rest := []) hx hb hml hown hts hK hN hL hP hS (cX1_writeThing_ l bs D y hcb n v49 I J r69 er69) ok_X1_writeThing ov_X1_writeThing ml_10 ⟨Nat.le_of_ble_eq_true rfl, Nat.le_of_ble_eq_true rfl⟩ rfl hcb kd_34 hl.1 rfl rfl (Nat.le_of_ble_eq_true rfl) ⟨Nat.zero_le _, Nat.zero_le _⟩ dX1_write_69 (fun H locs hP hS => ?_)
      exact wX1_write_72 bs D y n k8_ k31_ r Gc hk8_ hk31_ x5 x6 r69.1 r69.2 _ _ _ hP hS (lv_sub hl [1, 2, 3, 4, 5, 6, 7] rfl) h
theorem vX1_write_31 {p : Program} {l : Launch} {e : Env} {s : State} {m : MethodId} {args : Array Value} {below : List Frame} {meth : Method} {c : Code} (bs : Nat) (D : va_G) (y : Y3) (n : Nat) (k8_ : Int32 → MI → MJ → Option (M2)) (r : M2) (Gc : Gx p s m args meth c cX1_write 8 RX1 bs D y none 44) (hk8_ : ∀ (x5 : Int32) (I : MI) (J : MJ) (H : Heap) (locs : List Loc) (ls : Array Slot), va_P D vwCl (wl bs y I J) H → va_S (FA bs) s.heap H locs → lv_has ls 8 [(0, .ref (bs + 34)), (1, .ref (bs + 1)), (2, .ref (bs + 11)), (3, .ref (bs + 16)), (4, .ref (bs + 22)), (5, .int x5)] → k8_ x5 I J = some r → W p l e (rmm 2 47) s m args below meth c H locs 0 0 (QV below args s bs D y r) (F0 m 8 ls [])) : ∀ (q : Nat) (x5 : Int32) (x6 : Int32) (I : MI) (J : MJ) (H : Heap) (locs : List Loc) (ls : Array Slot), va_P D vwCl (wl bs y I J) H → va_S (FA bs) s.heap H locs → lv_has ls 8 [(0, .ref (bs + 34)), (1, .ref (bs + 1)), (2, .ref (bs + 11)), (3, .ref (bs + 16)), (4, .ref (bs + 22)), (5, .int x5), (6, .int x6)] → lX1_write_31 n k8_ q x5 x6 I J = some r → W p l e (rmm 2 47) s m args below meth c H locs 0 0 (QV below args s bs D y r) (F0 m 31 ls []) := by
  intro q
  induction q with
  | zero =>
    intro x5 x6 I J H locs ls hP hS hl h
    have h : (none : Option (M2)) = some r := h
    cases h
  | succ q ih =>
    intro x5 x6 I J H locs ls hP hS hl h
    have h : fX1_write_31 n k8_ (lX1_write_31 n k8_ q) x5 x6 I J = some r := h
    exact wX1_write_31 bs D y n k8_ (lX1_write_31 n k8_ q) r Gc hk8_ ih x5 x6 I J H locs ls hP hS hl h
set_option maxHeartbeats 4000000 in
set_option maxRecDepth 100000 in
theorem wX1_write_8 {p : Program} {l : Launch} {e : Env} {s : State} {m : MethodId} {args : Array Value} {below : List Frame} {meth : Method} {c : Code} (bs : Nat) (D : va_G) (y : Y3) (n : Nat) (k8_ : Int32 → MI → MJ → Option (M2)) (r : M2) (Gc : Gx p s m args meth c cX1_write 8 RX1 bs D y none 44) (hk8_ : ∀ (x5 : Int32) (I : MI) (J : MJ) (H : Heap) (locs : List Loc) (ls : Array Slot), va_P D vwCl (wl bs y I J) H → va_S (FA bs) s.heap H locs → lv_has ls 8 [(0, .ref (bs + 34)), (1, .ref (bs + 1)), (2, .ref (bs + 11)), (3, .ref (bs + 16)), (4, .ref (bs + 22)), (5, .int x5)] → k8_ x5 I J = some r → W p l e (rmm 2 47) s m args below meth c H locs 0 0 (QV below args s bs D y r) (F0 m 8 ls [])) (x5 : Int32) (I : MI) (J : MJ) (H : Heap) (locs : List Loc) (ls : Array Slot) (hP : va_P D vwCl (wl bs y I J) H) (hS : va_S (FA bs) s.heap H locs) (hl : lv_has ls 8 [(0, .ref (bs + 34)), (1, .ref (bs + 1)), (2, .ref (bs + 11)), (3, .ref (bs + 16)), (4, .ref (bs + 22)), (5, .int x5)]) (h : fX1_write_8 n k8_ x5 I J = some r) : W p l e (rmm 2 47) s m args below meth c H locs 0 0 (QV below args s bs D y r) (F0 m 8 ls []) := by
  obtain ⟨hx, hb, hml, hown, hts, hK, hN, hL, hr, hlocks, hcb⟩ := id Gc
  unfold fX1_write_8 at h
  refine lv_iload hx hb dX1_write_8 (lv_at hl 5 rfl) ?_
  refine lv_aload_n hx hb dX1_write_10 rfl (lv_at hl 3 rfl) ?_
  refine g_I (C := RX2) (T := TX2) (N := 10) (ci := 2) 16 1 hx hb hts hown hK hP in_X2 rfl hcb okF_16_1 fl_16 dX1_write_11 ?_
  refine lv_icmp_ge (tgt := 103) hx hb dX1_write_14 (by decide) (fun c14 => ?_) (fun c14 => ?_)
  · replace h := if_t c14 h
    refine lv_aload_n hx hb dX1_write_103 rfl (lv_at hl 0 rfl) ?_
    refine g_R (C := RX1) (T := TX1) (N := 5) (ci := 1) 34 3 36 hx hb hts hown hK hP in_X1 rfl hcb okF_34_3 rfc_34_3 fl_13 dX1_write_104 ?_
    refine lv_aload_n hx hb dX1_write_107 rfl (lv_at hl 3 rfl) ?_
    refine g_I (C := RX2) (T := TX2) (N := 10) (ci := 2) 16 1 hx hb hts hown hK hP in_X2 rfl hcb okF_16_1 fl_16 dX1_write_108 ?_
    refine lv_aload_n hx hb dX1_write_111 rfl (lv_at hl 0 rfl) ?_
    refine g_I (C := RX1) (T := TX1) (N := 5) (ci := 1) 34 1 hx hb hts hown hK hP in_X1 rfl hcb okF_34_1 fl_3 dX1_write_112 ?_
    obtain ⟨hi115, h⟩ := if_s1 h
    obtain ⟨I115, eI115, h⟩ := lt_s1 h
    refine t_I 36 eI115 hx hb hK hP hS hcb aln_36 hi115 dX1_write_115 (fun H locs hP hS => ?_)
    refine lv_aload_n hx hb dX1_write_116 rfl (lv_at hl 0 rfl) ?_
    refine lv_iconst (v := (1 : Int32)) hx hb dX1_write_117 (by decide) ?_
    obtain ⟨I118, eI118, h⟩ := lt_s1 h
    refine s_I (C := RX1) (T := TX1) (N := 5) (ci := 1) (ty := .boolean) 34 0 eI118 tyX1 hx hb hts hown hK hP hS in_X1 tyX1_ok nmX1 rfl hcb okF_34_0 fl_17 rfl (by decide +kernel) (by decide) rfl dX1_write_118 (fun H locs hP hS => ?_)
    exact r_V hx hb hr hlocks hP hK hN hL hS h dX1_write_121
  · replace h := if_f c14 h
    refine lv_aload_n hx hb dX1_write_17 rfl (lv_at hl 0 rfl) ?_
    refine g_R (C := RX1) (T := TX1) (N := 5) (ci := 1) 34 3 36 hx hb hts hown hK hP in_X1 rfl hcb okF_34_3 rfc_34_3 fl_13 dX1_write_18 ?_
    refine lv_iload hx hb dX1_write_21 (lv_at hl 5 rfl) ?_
    refine lv_aload_n hx hb dX1_write_23 rfl (lv_at hl 0 rfl) ?_
    refine g_I (C := RX1) (T := TX1) (N := 5) (ci := 1) 34 1 hx hb hts hown hK hP in_X1 rfl hcb okF_34_1 fl_3 dX1_write_24 ?_
    obtain ⟨hi27, h⟩ := if_s1 h
    obtain ⟨I27, eI27, h⟩ := lt_s1 h
    refine t_I 36 eI27 hx hb hK hP hS hcb aln_36 hi27 dX1_write_27 (fun H locs hP hS => ?_)
    refine lv_iconst (v := (0 : Int32)) hx hb dX1_write_28 (by decide) ?_
    refine lv_istore (lv' := [(6, .int (0 : Int32)), (0, .ref (bs + 34)), (1, .ref (bs + 1)), (2, .ref (bs + 11)), (3, .ref (bs + 16)), (4, .ref (bs + 22)), (5, .int x5)]) hx hb dX1_write_29 hl (by decide) rfl (fun ls hl => ?_)
    exact vX1_write_31 bs D y n k8_ r Gc hk8_ n x5 (0 : Int32) I27 J _ _ _ hP hS (lv_sub hl [1, 2, 3, 4, 5, 6, 0] rfl) h
theorem vX1_write_8 {p : Program} {l : Launch} {e : Env} {s : State} {m : MethodId} {args : Array Value} {below : List Frame} {meth : Method} {c : Code} (bs : Nat) (D : va_G) (y : Y3) (n : Nat) (r : M2) (Gc : Gx p s m args meth c cX1_write 8 RX1 bs D y none 44)  : ∀ (q : Nat) (x5 : Int32) (I : MI) (J : MJ) (H : Heap) (locs : List Loc) (ls : Array Slot), va_P D vwCl (wl bs y I J) H → va_S (FA bs) s.heap H locs → lv_has ls 8 [(0, .ref (bs + 34)), (1, .ref (bs + 1)), (2, .ref (bs + 11)), (3, .ref (bs + 16)), (4, .ref (bs + 22)), (5, .int x5)] → lX1_write_8 n  q x5 I J = some r → W p l e (rmm 2 47) s m args below meth c H locs 0 0 (QV below args s bs D y r) (F0 m 8 ls []) := by
  intro q
  induction q with
  | zero =>
    intro x5 I J H locs ls hP hS hl h
    have h : (none : Option (M2)) = some r := h
    cases h
  | succ q ih =>
    intro x5 I J H locs ls hP hS hl h
    have h : fX1_write_8 n  (lX1_write_8 n  q) x5 I J = some r := h
    exact wX1_write_8 bs D y n  (lX1_write_8 n  q) r Gc  ih x5 I J H locs ls hP hS hl h
set_option maxHeartbeats 4000000 in
set_option maxRecDepth 100000 in
theorem cX1_write_ (l : Launch) (bs : Nat) (D : va_G) (y : Y3) (hcb : 44 ≤ y.2.2.2) (n : Nat) (I : MI) (J : MJ) (r : M2) (h : fX1_write n  I J = some r) : Met l yX1_write (.code yX1_write cX1_write 8 none :: gtb) (rmm 2 47) (va_Pc [.ref (bs + 34), .ref (bs + 1), .ref (bs + 11), .ref (bs + 16), .ref (bs + 22)] (HB bs D y I J)) (QcV bs D y r) 0 0 (FA bs) := by
  refine Met.ofW (cc := cX1_write) (maxL := 8) (ret := none) (by decide) rfl ?_
  intro p e s m args below meth c s₁ B hml hv
  obtain ⟨rfl, hP, hK, hN, hL⟩ := hv
  have hx := B.exec
  have hb := B.bytes
  have hr := B.returns
  have hts0 := atoms_spec (ws := .code yX1_write cX1_write 8 none :: gtb) B.pre
  have hts : ∀ w ∈ gtb, w.before [.ref (bs + 34), .ref (bs + 1), .ref (bs + 11), .ref (bs + 16), .ref (bs + 22)].toArray s = true := fun w hw => hts0 w (List.mem_cons_of_mem _ hw)
  have hown : s.vm.findClass RX1 = some m.cls := findClass_of_methodNamed B.named
  have hlocks := B.notSynchronized
  have hS : va_S (FA bs) s.heap s.heap [] := va_S.rf
  have Gc : Gx p s m [.ref (bs + 34), .ref (bs + 1), .ref (bs + 11), .ref (bs + 16), .ref (bs + 22)].toArray meth c cX1_write 8 RX1 bs D y none 44 := ⟨hx, hb, hml, hown, hts, hK, hN, hL, hr, hlocks, hcb⟩
  have hl := lv_entry [.ref (bs + 34), .ref (bs + 1), .ref (bs + 11), .ref (bs + 16), .ref (bs + 22)] (n := 8) (Nat.le_of_ble_eq_true rfl)
  rw [lg_entry_eq]
  generalize (lg_sl [.ref (bs + 34), .ref (bs + 1), .ref (bs + 11), .ref (bs + 16), .ref (bs + 22)] ++ List.replicate (8 - (lg_sl [.ref (bs + 34), .ref (bs + 1), .ref (bs + 11), .ref (bs + 16), .ref (bs + 22)]).length) Slot.unset).toArray = ls at hl ⊢
  have hl : lv_has ls 8 [(0, .ref (bs + 34)), (1, .ref (bs + 1)), (2, .ref (bs + 11)), (3, .ref (bs + 16)), (4, .ref (bs + 22))] := hl
  change W p l e (rmm 2 47) s m [.ref (bs + 34), .ref (bs + 1), .ref (bs + 11), .ref (bs + 16), .ref (bs + 22)].toArray below meth c s.heap [] 0 0 (QV below [.ref (bs + 34), .ref (bs + 1), .ref (bs + 11), .ref (bs + 16), .ref (bs + 22)].toArray s bs D y r) (F0 m 0 ls [])
  unfold fX1_write at h
  refine lv_aload_n hx hb dX1_write_0 rfl (lv_at hl 0 rfl) ?_
  refine lv_iconst (v := (0 : Int32)) hx hb dX1_write_1 (by decide) ?_
  obtain ⟨I2, eI2, h⟩ := lt_s1 h
  refine s_I (C := RX1) (T := TX1) (N := 5) (ci := 1) (ty := .int) 34 1 eI2 tyX1 hx hb hts hown hK hP hS in_X1 tyX1_ok nmX1 rfl hcb okF_34_1 fl_3 rfl (by decide +kernel) rfl rfl dX1_write_2 (fun H locs hP hS => ?_)
  refine lv_iconst (v := (0 : Int32)) hx hb dX1_write_5 (by decide) ?_
  refine lv_istore (lv' := [(5, .int (0 : Int32)), (0, .ref (bs + 34)), (1, .ref (bs + 1)), (2, .ref (bs + 11)), (3, .ref (bs + 16)), (4, .ref (bs + 22))]) hx hb dX1_write_6 hl (by decide) rfl (fun ls hl => ?_)
  exact vX1_write_8 bs D y n  r Gc  n (0 : Int32) I2 J _ _ _ hP hS (lv_sub hl [1, 2, 3, 4, 5, 0] rfl) h
theorem dX1_lengthOf_0 : decode cX1_lengthOf 0 = .ok (.aload_n 0, 1) := by decide +kernel
theorem dX1_lengthOf_1 : decode cX1_lengthOf 1 = .ok (.getfield 15, 3) := by decide +kernel
theorem dX1_lengthOf_4 : decode cX1_lengthOf 4 = .ok (.iload_n 1, 1) := by decide +kernel
theorem dX1_lengthOf_5 : decode cX1_lengthOf 5 = .ok (.iconst 1, 1) := by decide +kernel
theorem dX1_lengthOf_6 : decode cX1_lengthOf 6 = .ok (.iadd, 1) := by decide +kernel
theorem dX1_lengthOf_7 : decode cX1_lengthOf 7 = .ok (.iaload, 1) := by decide +kernel
theorem dX1_lengthOf_8 : decode cX1_lengthOf 8 = .ok (.aload_n 0, 1) := by decide +kernel
theorem dX1_lengthOf_9 : decode cX1_lengthOf 9 = .ok (.getfield 15, 3) := by decide +kernel
theorem dX1_lengthOf_12 : decode cX1_lengthOf 12 = .ok (.iload_n 1, 1) := by decide +kernel
theorem dX1_lengthOf_13 : decode cX1_lengthOf 13 = .ok (.iaload, 1) := by decide +kernel
theorem dX1_lengthOf_14 : decode cX1_lengthOf 14 = .ok (.isub, 1) := by decide +kernel
theorem dX1_lengthOf_15 : decode cX1_lengthOf 15 = .ok (.ireturn, 1) := by decide +kernel
set_option maxHeartbeats 4000000 in
set_option maxRecDepth 100000 in
theorem cX1_lengthOf_ (l : Launch) (bs : Nat) (D : va_G) (y : Y3) (hcb : 44 ≤ y.2.2.2) (n : Nat) (x1 : Int32) (I : MI) (J : MJ) (r : Int32 × M2) (h : fX1_lengthOf n x1 I J = some r) : Met l yX1_lengthOf (.code yX1_lengthOf cX1_lengthOf 2 (some .int) :: gtb) (rmm 0 0) (va_Pc [.ref (bs + 34), .int x1] (HB bs D y I J)) (QcI bs D y r) 0 0 (FA bs) := by
  refine Met.ofW (cc := cX1_lengthOf) (maxL := 2) (ret := (some .int)) (by decide) rfl ?_
  intro p e s m args below meth c s₁ B hml hv
  obtain ⟨rfl, hP, hK, hN, hL⟩ := hv
  have hx := B.exec
  have hb := B.bytes
  have hr := B.returns
  have hts0 := atoms_spec (ws := .code yX1_lengthOf cX1_lengthOf 2 (some .int) :: gtb) B.pre
  have hts : ∀ w ∈ gtb, w.before [.ref (bs + 34), .int x1].toArray s = true := fun w hw => hts0 w (List.mem_cons_of_mem _ hw)
  have hown : s.vm.findClass RX1 = some m.cls := findClass_of_methodNamed B.named
  have hlocks := B.notSynchronized
  have hS : va_S (FA bs) s.heap s.heap [] := va_S.rf
  have Gc : Gx p s m [.ref (bs + 34), .int x1].toArray meth c cX1_lengthOf 2 RX1 bs D y (some .int) 44 := ⟨hx, hb, hml, hown, hts, hK, hN, hL, hr, hlocks, hcb⟩
  have hl := lv_entry [.ref (bs + 34), .int x1] (n := 2) (Nat.le_of_ble_eq_true rfl)
  rw [lg_entry_eq]
  generalize (lg_sl [.ref (bs + 34), .int x1] ++ List.replicate (2 - (lg_sl [.ref (bs + 34), .int x1]).length) Slot.unset).toArray = ls at hl ⊢
  have hl : lv_has ls 2 [(0, .ref (bs + 34)), (1, .int x1)] := hl
  change W p l e (rmm 0 0) s m [.ref (bs + 34), .int x1].toArray below meth c s.heap [] 0 0 (QI below [.ref (bs + 34), .int x1].toArray s bs D y r) (F0 m 0 ls [])
  unfold fX1_lengthOf at h
  refine lv_aload_n hx hb dX1_lengthOf_0 rfl (lv_at hl 0 rfl) ?_
  refine g_R (C := RX1) (T := TX1) (N := 5) (ci := 1) 34 3 36 hx hb hts hown hK hP in_X1 rfl hcb okF_34_3 rfc_34_3 fl_13 dX1_lengthOf_1 ?_
  refine lv_iload_n hx hb dX1_lengthOf_4 rfl (lv_at hl 1 rfl) ?_
  refine lv_iconst (v := (1 : Int32)) hx hb dX1_lengthOf_5 (by decide) ?_
  refine lv_iadd hx hb dX1_lengthOf_6 ?_
  obtain ⟨hi7, h⟩ := if_s1 h
  refine a_I 36 hx hb hK hP hcb aln_36 hi7 dX1_lengthOf_7 ?_
  refine lv_aload_n hx hb dX1_lengthOf_8 rfl (lv_at hl 0 rfl) ?_
  refine g_R (C := RX1) (T := TX1) (N := 5) (ci := 1) 34 3 36 hx hb hts hown hK hP in_X1 rfl hcb okF_34_3 rfc_34_3 fl_13 dX1_lengthOf_9 ?_
  refine lv_iload_n hx hb dX1_lengthOf_12 rfl (lv_at hl 1 rfl) ?_
  obtain ⟨hi13, h⟩ := if_s1 h
  refine a_I 36 hx hb hK hP hcb aln_36 hi13 dX1_lengthOf_13 ?_
  refine lv_isub hx hb dX1_lengthOf_14 ?_
  exact r_I hx hb hr hlocks hP hK hN hL hS h dX1_lengthOf_15
theorem dX1_firstWrongSum_0 : decode cX1_firstWrongSum 0 = .ok (.iconst 0, 1) := by decide +kernel
theorem dX1_firstWrongSum_1 : decode cX1_firstWrongSum 1 = .ok (.istore_n 2, 1) := by decide +kernel
theorem dX1_firstWrongSum_2 : decode cX1_firstWrongSum 2 = .ok (.iload_n 2, 1) := by decide +kernel
theorem dX1_firstWrongSum_3 : decode cX1_firstWrongSum 3 = .ok (.aload_n 1, 1) := by decide +kernel
theorem dX1_firstWrongSum_4 : decode cX1_firstWrongSum 4 = .ok (.getfield 25, 3) := by decide +kernel
theorem dX1_firstWrongSum_7 : decode cX1_firstWrongSum 7 = .ok (.if_icmp .ge 42, 3) := by decide +kernel
theorem dX1_firstWrongSum_10 : decode cX1_firstWrongSum 10 = .ok (.aload_n 0, 1) := by decide +kernel
theorem dX1_firstWrongSum_11 : decode cX1_firstWrongSum 11 = .ok (.getfield 15, 3) := by decide +kernel
theorem dX1_firstWrongSum_14 : decode cX1_firstWrongSum 14 = .ok (.iload_n 2, 1) := by decide +kernel
theorem dX1_firstWrongSum_15 : decode cX1_firstWrongSum 15 = .ok (.iconst 1, 1) := by decide +kernel
theorem dX1_firstWrongSum_16 : decode cX1_firstWrongSum 16 = .ok (.iadd, 1) := by decide +kernel
theorem dX1_firstWrongSum_17 : decode cX1_firstWrongSum 17 = .ok (.iaload, 1) := by decide +kernel
theorem dX1_firstWrongSum_18 : decode cX1_firstWrongSum 18 = .ok (.iconst 1, 1) := by decide +kernel
theorem dX1_firstWrongSum_19 : decode cX1_firstWrongSum 19 = .ok (.isub, 1) := by decide +kernel
theorem dX1_firstWrongSum_20 : decode cX1_firstWrongSum 20 = .ok (.istore_n 3, 1) := by decide +kernel
theorem dX1_firstWrongSum_21 : decode cX1_firstWrongSum 21 = .ok (.aload_n 0, 1) := by decide +kernel
theorem dX1_firstWrongSum_22 : decode cX1_firstWrongSum 22 = .ok (.getfield 9, 3) := by decide +kernel
theorem dX1_firstWrongSum_25 : decode cX1_firstWrongSum 25 = .ok (.iload_n 3, 1) := by decide +kernel
theorem dX1_firstWrongSum_26 : decode cX1_firstWrongSum 26 = .ok (.iaload, 1) := by decide +kernel
theorem dX1_firstWrongSum_27 : decode cX1_firstWrongSum 27 = .ok (.aload_n 0, 1) := by decide +kernel
theorem dX1_firstWrongSum_28 : decode cX1_firstWrongSum 28 = .ok (.aload_n 0, 1) := by decide +kernel
theorem dX1_firstWrongSum_29 : decode cX1_firstWrongSum 29 = .ok (.getfield 15, 3) := by decide +kernel
theorem dX1_firstWrongSum_32 : decode cX1_firstWrongSum 32 = .ok (.iload_n 2, 1) := by decide +kernel
theorem dX1_firstWrongSum_33 : decode cX1_firstWrongSum 33 = .ok (.iaload, 1) := by decide +kernel
theorem dX1_firstWrongSum_34 : decode cX1_firstWrongSum 34 = .ok (.iload_n 3, 1) := by decide +kernel
theorem dX1_firstWrongSum_35 : decode cX1_firstWrongSum 35 = .ok (.invokevirtual 45, 3) := by decide +kernel
theorem dX1_firstWrongSum_38 : decode cX1_firstWrongSum 38 = .ok (.if_icmp .eq 5, 3) := by decide +kernel
theorem dX1_firstWrongSum_41 : decode cX1_firstWrongSum 41 = .ok (.iload_n 2, 1) := by decide +kernel
theorem dX1_firstWrongSum_42 : decode cX1_firstWrongSum 42 = .ok (.ireturn, 1) := by decide +kernel
theorem dX1_firstWrongSum_43 : decode cX1_firstWrongSum 43 = .ok (.iinc 2 1, 3) := by decide +kernel
theorem dX1_firstWrongSum_46 : decode cX1_firstWrongSum 46 = .ok (.goto (-44), 3) := by decide +kernel
theorem dX1_firstWrongSum_49 : decode cX1_firstWrongSum 49 = .ok (.iconst (-1), 1) := by decide +kernel
theorem dX1_firstWrongSum_50 : decode cX1_firstWrongSum 50 = .ok (.ireturn, 1) := by decide +kernel
set_option maxHeartbeats 4000000 in
set_option maxRecDepth 100000 in
theorem wX1_firstWrongSum_2 {p : Program} {l : Launch} {e : Env} {s : State} {m : MethodId} {args : Array Value} {below : List Frame} {meth : Method} {c : Code} (bs : Nat) (D : va_G) (y : Y3) (n : Nat) (k2_ : Int32 → MI → MJ → Option (Int32 × M2)) (r : Int32 × M2) (Gc : Gx p s m args meth c cX1_firstWrongSum 4 RX1 bs D y (some .int) 44) (hk2_ : ∀ (x2 : Int32) (I : MI) (J : MJ) (H : Heap) (locs : List Loc) (ls : Array Slot), va_P D vwCl (wl bs y I J) H → va_S (FA bs) s.heap H locs → lv_has ls 4 [(0, .ref (bs + 34)), (1, .ref (bs + 16)), (2, .int x2)] → k2_ x2 I J = some r → W p l e (rmm 1 24) s m args below meth c H locs 0 0 (QI below args s bs D y r) (F0 m 2 ls [])) (x2 : Int32) (I : MI) (J : MJ) (H : Heap) (locs : List Loc) (ls : Array Slot) (hP : va_P D vwCl (wl bs y I J) H) (hS : va_S (FA bs) s.heap H locs) (hl : lv_has ls 4 [(0, .ref (bs + 34)), (1, .ref (bs + 16)), (2, .int x2)]) (h : fX1_firstWrongSum_2 n k2_ x2 I J = some r) : W p l e (rmm 1 24) s m args below meth c H locs 0 0 (QI below args s bs D y r) (F0 m 2 ls []) := by
  obtain ⟨hx, hb, hml, hown, hts, hK, hN, hL, hr, hlocks, hcb⟩ := id Gc
  unfold fX1_firstWrongSum_2 at h
  refine lv_iload_n hx hb dX1_firstWrongSum_2 rfl (lv_at hl 2 rfl) ?_
  refine lv_aload_n hx hb dX1_firstWrongSum_3 rfl (lv_at hl 1 rfl) ?_
  refine g_I (C := RX2) (T := TX2) (N := 10) (ci := 2) 16 1 hx hb hts hown hK hP in_X2 rfl hcb okF_16_1 fl_16 dX1_firstWrongSum_4 ?_
  refine lv_icmp_ge (tgt := 49) hx hb dX1_firstWrongSum_7 (by decide) (fun c7 => ?_) (fun c7 => ?_)
  · replace h := if_t c7 h
    refine lv_iconst (v := (-1 : Int32)) hx hb dX1_firstWrongSum_49 (by decide) ?_
    exact r_I hx hb hr hlocks hP hK hN hL hS h dX1_firstWrongSum_50
  · replace h := if_f c7 h
    refine lv_aload_n hx hb dX1_firstWrongSum_10 rfl (lv_at hl 0 rfl) ?_
    refine g_R (C := RX1) (T := TX1) (N := 5) (ci := 1) 34 3 36 hx hb hts hown hK hP in_X1 rfl hcb okF_34_3 rfc_34_3 fl_13 dX1_firstWrongSum_11 ?_
    refine lv_iload_n hx hb dX1_firstWrongSum_14 rfl (lv_at hl 2 rfl) ?_
    refine lv_iconst (v := (1 : Int32)) hx hb dX1_firstWrongSum_15 (by decide) ?_
    refine lv_iadd hx hb dX1_firstWrongSum_16 ?_
    obtain ⟨hi17, h⟩ := if_s1 h
    refine a_I 36 hx hb hK hP hcb aln_36 hi17 dX1_firstWrongSum_17 ?_
    refine lv_iconst (v := (1 : Int32)) hx hb dX1_firstWrongSum_18 (by decide) ?_
    refine lv_isub hx hb dX1_firstWrongSum_19 ?_
    obtain ⟨v20, ev20, h⟩ := lt_s1 h
    refine top_i ev20 ?_
    refine lv_istore_n (lv' := [(3, .int v20), (0, .ref (bs + 34)), (1, .ref (bs + 16)), (2, .int x2)]) hx hb dX1_firstWrongSum_20 rfl hl (by decide) rfl (fun ls hl => ?_)
    refine lv_aload_n hx hb dX1_firstWrongSum_21 rfl (lv_at hl 1 rfl) ?_
    refine g_R (C := RX1) (T := TX1) (N := 5) (ci := 1) 34 2 35 hx hb hts hown hK hP in_X1 rfl hcb okF_34_2 rfc_34_2 fl_4 dX1_firstWrongSum_22 ?_
    refine lv_iload_n hx hb dX1_firstWrongSum_25 rfl (lv_at hl 0 rfl) ?_
    obtain ⟨hi26, h⟩ := if_s1 h
    refine a_I 35 hx hb hK hP hcb aln_35 hi26 dX1_firstWrongSum_26 ?_
    refine lv_aload_n hx hb dX1_firstWrongSum_27 rfl (lv_at hl 1 rfl) ?_
    refine lv_aload_n hx hb dX1_firstWrongSum_28 rfl (lv_at hl 1 rfl) ?_
    refine g_R (C := RX1) (T := TX1) (N := 5) (ci := 1) 34 3 36 hx hb hts hown hK hP in_X1 rfl hcb okF_34_3 rfc_34_3 fl_13 dX1_firstWrongSum_29 ?_
    refine lv_iload_n hx hb dX1_firstWrongSum_32 rfl (lv_at hl 3 rfl) ?_
    obtain ⟨hi33, h⟩ := if_s1 h
    refine a_I 36 hx hb hK hP hcb aln_36 hi33 dX1_firstWrongSum_33 ?_
    refine lv_iload_n hx hb dX1_firstWrongSum_34 rfl (lv_at hl 0 rfl) ?_
    obtain ⟨r35, er35, h⟩ := bd_s1 h
    refine c_VI (k := 34) (ci := 1) (As := [.int (I 36 (x2).toNatClampNeg), .int v20]) (rest := [.int (I 35 (v20).toNatClampNeg)]) hx hb hml hown hts hK hN hL hP hS (cX1_sumOf_ l bs D y hcb n (I 36 (x2).toNatClampNeg) v20 I J r35 er35) ok_X1_sumOf ov_X1_sumOf ml_9 ⟨Nat.le_of_ble_eq_true rfl, Nat.le_of_ble_eq_true rfl⟩ rfl hcb kd_34 hl.1 rfl rfl (Nat.le_of_ble_eq_true rfl) ⟨Nat.zero_le _, Nat.zero_le _⟩ dX1_firstWrongSum_35 (fun H locs hP hS => ?_)
    refine lv_icmp_eq (tgt := 43) hx hb dX1_firstWrongSum_38 (by decide) (fun c38 => ?_) (fun c38 => ?_)
    · replace h := if_t c38 h
      refine lv_iinc (v := (x2 + (1 : Int32))) (lv' := [(2, .int (x2 + (1 : Int32))), (3, .int v20), (0, .ref (bs + 34)), (1, .ref (bs + 16))]) hx hb dX1_firstWrongSum_43 hl (k := 3) rfl rfl (by decide) rfl (fun ls hl => ?_)
      refine lv_goto (tgt := 2) hx hb dX1_firstWrongSum_46 (by decide) ?_
      exact hk2_ (x2 + (1 : Int32)) r35.2.1 r35.2.2 _ _ _ hP hS (lv_sub hl [2, 3, 0] rfl) h
    · replace h := if_f c38 h
      refine lv_iload_n hx hb dX1_firstWrongSum_41 rfl (lv_at hl 3 rfl) ?_
      exact r_I hx hb hr hlocks hP hK hN hL hS h dX1_firstWrongSum_42
theorem vX1_firstWrongSum_2 {p : Program} {l : Launch} {e : Env} {s : State} {m : MethodId} {args : Array Value} {below : List Frame} {meth : Method} {c : Code} (bs : Nat) (D : va_G) (y : Y3) (n : Nat) (r : Int32 × M2) (Gc : Gx p s m args meth c cX1_firstWrongSum 4 RX1 bs D y (some .int) 44)  : ∀ (q : Nat) (x2 : Int32) (I : MI) (J : MJ) (H : Heap) (locs : List Loc) (ls : Array Slot), va_P D vwCl (wl bs y I J) H → va_S (FA bs) s.heap H locs → lv_has ls 4 [(0, .ref (bs + 34)), (1, .ref (bs + 16)), (2, .int x2)] → lX1_firstWrongSum_2 n  q x2 I J = some r → W p l e (rmm 1 24) s m args below meth c H locs 0 0 (QI below args s bs D y r) (F0 m 2 ls []) := by
  intro q
  induction q with
  | zero =>
    intro x2 I J H locs ls hP hS hl h
    have h : (none : Option (Int32 × M2)) = some r := h
    cases h
  | succ q ih =>
    intro x2 I J H locs ls hP hS hl h
    have h : fX1_firstWrongSum_2 n  (lX1_firstWrongSum_2 n  q) x2 I J = some r := h
    exact wX1_firstWrongSum_2 bs D y n  (lX1_firstWrongSum_2 n  q) r Gc  ih x2 I J H locs ls hP hS hl h
set_option maxHeartbeats 4000000 in
set_option maxRecDepth 100000 in
theorem cX1_firstWrongSum_ (l : Launch) (bs : Nat) (D : va_G) (y : Y3) (hcb : 44 ≤ y.2.2.2) (n : Nat) (I : MI) (J : MJ) (r : Int32 × M2) (h : fX1_firstWrongSum n  I J = some r) : Met l yX1_firstWrongSum (.code yX1_firstWrongSum cX1_firstWrongSum 4 (some .int) :: gtb) (rmm 1 24) (va_Pc [.ref (bs + 34), .ref (bs + 16)] (HB bs D y I J)) (QcI bs D y r) 0 0 (FA bs) := by
  refine Met.ofW (cc := cX1_firstWrongSum) (maxL := 4) (ret := (some .int)) (by decide) rfl ?_
  intro p e s m args below meth c s₁ B hml hv
  obtain ⟨rfl, hP, hK, hN, hL⟩ := hv
  have hx := B.exec
  have hb := B.bytes
  have hr := B.returns
  have hts0 := atoms_spec (ws := .code yX1_firstWrongSum cX1_firstWrongSum 4 (some .int) :: gtb) B.pre
  have hts : ∀ w ∈ gtb, w.before [.ref (bs + 34), .ref (bs + 16)].toArray s = true := fun w hw => hts0 w (List.mem_cons_of_mem _ hw)
  have hown : s.vm.findClass RX1 = some m.cls := findClass_of_methodNamed B.named
  have hlocks := B.notSynchronized
  have hS : va_S (FA bs) s.heap s.heap [] := va_S.rf
  have Gc : Gx p s m [.ref (bs + 34), .ref (bs + 16)].toArray meth c cX1_firstWrongSum 4 RX1 bs D y (some .int) 44 := ⟨hx, hb, hml, hown, hts, hK, hN, hL, hr, hlocks, hcb⟩
  have hl := lv_entry [.ref (bs + 34), .ref (bs + 16)] (n := 4) (Nat.le_of_ble_eq_true rfl)
  rw [lg_entry_eq]
  generalize (lg_sl [.ref (bs + 34), .ref (bs + 16)] ++ List.replicate (4 - (lg_sl [.ref (bs + 34), .ref (bs + 16)]).length) Slot.unset).toArray = ls at hl ⊢
  have hl : lv_has ls 4 [(0, .ref (bs + 34)), (1, .ref (bs + 16))] := hl
  change W p l e (rmm 1 24) s m [.ref (bs + 34), .ref (bs + 16)].toArray below meth c s.heap [] 0 0 (QI below [.ref (bs + 34), .ref (bs + 16)].toArray s bs D y r) (F0 m 0 ls [])
  unfold fX1_firstWrongSum at h
  refine lv_iconst (v := (0 : Int32)) hx hb dX1_firstWrongSum_0 (by decide) ?_
  refine lv_istore_n (lv' := [(2, .int (0 : Int32)), (0, .ref (bs + 34)), (1, .ref (bs + 16))]) hx hb dX1_firstWrongSum_1 rfl hl (by decide) rfl (fun ls hl => ?_)
  exact vX1_firstWrongSum_2 bs D y n  r Gc  n (0 : Int32) I J _ _ _ hP hS (lv_sub hl [1, 2, 0] rfl) h
theorem dX9_hasBit_0 : decode cX9_hasBit 0 = .ok (.lload_n 0, 1) := by decide +kernel
theorem dX9_hasBit_1 : decode cX9_hasBit 1 = .ok (.iload_n 2, 1) := by decide +kernel
theorem dX9_hasBit_2 : decode cX9_hasBit 2 = .ok (.lushr, 1) := by decide +kernel
theorem dX9_hasBit_3 : decode cX9_hasBit 3 = .ok (.lconst 1, 1) := by decide +kernel
theorem dX9_hasBit_4 : decode cX9_hasBit 4 = .ok (.land, 1) := by decide +kernel
theorem dX9_hasBit_5 : decode cX9_hasBit 5 = .ok (.lconst 1, 1) := by decide +kernel
theorem dX9_hasBit_6 : decode cX9_hasBit 6 = .ok (.lcmp, 1) := by decide +kernel
theorem dX9_hasBit_7 : decode cX9_hasBit 7 = .ok (.ifCond .ne 7, 3) := by decide +kernel
theorem dX9_hasBit_10 : decode cX9_hasBit 10 = .ok (.iconst 1, 1) := by decide +kernel
theorem dX9_hasBit_11 : decode cX9_hasBit 11 = .ok (.goto 4, 3) := by decide +kernel
theorem dX9_hasBit_14 : decode cX9_hasBit 14 = .ok (.iconst 0, 1) := by decide +kernel
theorem dX9_hasBit_15 : decode cX9_hasBit 15 = .ok (.ireturn, 1) := by decide +kernel
set_option maxHeartbeats 4000000 in
set_option maxRecDepth 100000 in
theorem cX9_hasBit_ (l : Launch) (bs : Nat) (D : va_G) (y : Y3) (hcb : 44 ≤ y.2.2.2) (n : Nat) (x0 : Int64) (x2 : Int32) (I : MI) (J : MJ) (r : Int32 × M2) (h : fX9_hasBit n x0 x2 I J = some r) : Met l yX9_hasBit (.code yX9_hasBit cX9_hasBit 3 (some .boolean) :: gtb) (rmm 0 0) (va_Pc [.long x0, .int x2] (HB bs D y I J)) (QcI bs D y r) 0 0 (FA bs) := by
  refine Met.ofW (cc := cX9_hasBit) (maxL := 3) (ret := (some .boolean)) (by decide) rfl ?_
  intro p e s m args below meth c s₁ B hml hv
  obtain ⟨rfl, hP, hK, hN, hL⟩ := hv
  have hx := B.exec
  have hb := B.bytes
  have hr := B.returns
  have hts0 := atoms_spec (ws := .code yX9_hasBit cX9_hasBit 3 (some .boolean) :: gtb) B.pre
  have hts : ∀ w ∈ gtb, w.before [.long x0, .int x2].toArray s = true := fun w hw => hts0 w (List.mem_cons_of_mem _ hw)
  have hown : s.vm.findClass RX9 = some m.cls := findClass_of_methodNamed B.named
  have hlocks := B.notSynchronized
  have hS : va_S (FA bs) s.heap s.heap [] := va_S.rf
  have Gc : Gx p s m [.long x0, .int x2].toArray meth c cX9_hasBit 3 RX9 bs D y (some .boolean) 44 := ⟨hx, hb, hml, hown, hts, hK, hN, hL, hr, hlocks, hcb⟩
  have hl := lv_entry [.long x0, .int x2] (n := 3) (Nat.le_of_ble_eq_true rfl)
  rw [lg_entry_eq]
  generalize (lg_sl [.long x0, .int x2] ++ List.replicate (3 - (lg_sl [.long x0, .int x2]).length) Slot.unset).toArray = ls at hl ⊢
  have hl : lv_has ls 3 [(0, .long x0), (2, .int x2)] := hl
  change W p l e (rmm 0 0) s m [.long x0, .int x2].toArray below meth c s.heap [] 0 0 (QI below [.long x0, .int x2].toArray s bs D y r) (F0 m 0 ls [])
  unfold fX9_hasBit at h
  refine lv_lload_n hx hb dX9_hasBit_0 rfl (lv_at hl 0 rfl) ?_
  refine lv_iload_n hx hb dX9_hasBit_1 rfl (lv_at hl 1 rfl) ?_
  refine lv_lushr (v := (ushrL x0 x2)) hx hb dX9_hasBit_2 rfl ?_
  refine lv_lconst (v := (1 : Int64)) hx hb dX9_hasBit_3 (by decide) ?_
  refine lv_land hx hb dX9_hasBit_4 ?_
  refine lv_lconst (v := (1 : Int64)) hx hb dX9_hasBit_5 (by decide) ?_
  refine W.lcmp hx hb dX9_hasBit_6 ?_
  refine lv_if_ne (tgt := 14) hx hb dX9_hasBit_7 (by decide) (fun c7 => ?_) (fun c7 => ?_)
  · replace h := if_f c7 h
    refine lv_iconst (v := (0 : Int32)) hx hb dX9_hasBit_14 (by decide) ?_
    exact r_Z hx hb hr hlocks hP hK hN hL hS (by decide) h dX9_hasBit_15
  · replace h := if_t c7 h
    refine lv_iconst (v := (1 : Int32)) hx hb dX9_hasBit_10 (by decide) ?_
    refine lv_goto (tgt := 15) hx hb dX9_hasBit_11 (by decide) ?_
    exact r_Z hx hb hr hlocks hP hK hN hL hS (by decide) h dX9_hasBit_15
theorem dX7_isTable_0 : decode cX7_isTable 0 = .ok (.aload_n 0, 1) := by decide +kernel
theorem dX7_isTable_1 : decode cX7_isTable 1 = .ok (.getfield 24, 3) := by decide +kernel
theorem dX7_isTable_4 : decode cX7_isTable 4 = .ok (.i2l, 1) := by decide +kernel
theorem dX7_isTable_5 : decode cX7_isTable 5 = .ok (.iload_n 1, 1) := by decide +kernel
theorem dX7_isTable_6 : decode cX7_isTable 6 = .ok (.invokestatic 28, 3) := by decide +kernel
theorem dX7_isTable_9 : decode cX7_isTable 9 = .ok (.ireturn, 1) := by decide +kernel
set_option maxHeartbeats 4000000 in
set_option maxRecDepth 100000 in
theorem cX7_isTable_ (l : Launch) (bs : Nat) (D : va_G) (y : Y3) (hcb : 44 ≤ y.2.2.2) (n : Nat) (x1 : Int32) (I : MI) (J : MJ) (r : Int32 × M2) (h : fX7_isTable n x1 I J = some r) : Met l yX7_isTable (.code yX7_isTable cX7_isTable 2 (some .boolean) :: gtb) (rmm 1 22) (va_Pc [.ref (bs + 11), .int x1] (HB bs D y I J)) (QcI bs D y r) 0 0 (FA bs) := by
  refine Met.ofW (cc := cX7_isTable) (maxL := 2) (ret := (some .boolean)) (by decide) rfl ?_
  intro p e s m args below meth c s₁ B hml hv
  obtain ⟨rfl, hP, hK, hN, hL⟩ := hv
  have hx := B.exec
  have hb := B.bytes
  have hr := B.returns
  have hts0 := atoms_spec (ws := .code yX7_isTable cX7_isTable 2 (some .boolean) :: gtb) B.pre
  have hts : ∀ w ∈ gtb, w.before [.ref (bs + 11), .int x1].toArray s = true := fun w hw => hts0 w (List.mem_cons_of_mem _ hw)
  have hown : s.vm.findClass RX7 = some m.cls := findClass_of_methodNamed B.named
  have hlocks := B.notSynchronized
  have hS : va_S (FA bs) s.heap s.heap [] := va_S.rf
  have Gc : Gx p s m [.ref (bs + 11), .int x1].toArray meth c cX7_isTable 2 RX7 bs D y (some .boolean) 44 := ⟨hx, hb, hml, hown, hts, hK, hN, hL, hr, hlocks, hcb⟩
  have hl := lv_entry [.ref (bs + 11), .int x1] (n := 2) (Nat.le_of_ble_eq_true rfl)
  rw [lg_entry_eq]
  generalize (lg_sl [.ref (bs + 11), .int x1] ++ List.replicate (2 - (lg_sl [.ref (bs + 11), .int x1]).length) Slot.unset).toArray = ls at hl ⊢
  have hl : lv_has ls 2 [(0, .ref (bs + 11)), (1, .int x1)] := hl
  change W p l e (rmm 1 22) s m [.ref (bs + 11), .int x1].toArray below meth c s.heap [] 0 0 (QI below [.ref (bs + 11), .int x1].toArray s bs D y r) (F0 m 0 ls [])
  unfold fX7_isTable at h
  refine lv_aload_n hx hb dX7_isTable_0 rfl (lv_at hl 0 rfl) ?_
  refine g_I (C := RX7) (T := TX7) (N := 7) (ci := 7) 11 6 hx hb hts hown hK hP in_X7 rfl hcb okF_11_6 fl_18 dX7_isTable_1 ?_
  refine lv_i2l (v := ((I 11 6)).toInt64) hx hb dX7_isTable_4 rfl ?_
  refine lv_iload_n hx hb dX7_isTable_5 rfl (lv_at hl 1 rfl) ?_
  obtain ⟨r6, er6, h⟩ := bd_s1 h
  refine c_NI (As := [.long ((I 11 6)).toInt64, .int x1]) (rest := []) hx hb hml hown hts hK hN hL hP hS (cX9_hasBit_ l bs D y hcb n ((I 11 6)).toInt64 x1 I J r6 er6) ok_X9_hasBit ov_X9_hasBit mn_0 ⟨Nat.le_of_ble_eq_true rfl, Nat.le_of_ble_eq_true rfl⟩ hl.1 rfl rfl (Nat.le_of_ble_eq_true rfl) ⟨Nat.zero_le _, Nat.zero_le _⟩ dX7_isTable_6 (fun H locs hP hS => ?_)
  obtain ⟨hz9, h⟩ := if_s1 h
  exact r_Z hx hb hr hlocks hP hK hN hL hS (of_decide_eq_true hz9) h dX7_isTable_9
theorem dX1_bitsThere_0 : decode cX1_bitsThere 0 = .ok (.aload_n 0, 1) := by decide +kernel
theorem dX1_bitsThere_1 : decode cX1_bitsThere 1 = .ok (.getfield 18, 3) := by decide +kernel
theorem dX1_bitsThere_4 : decode cX1_bitsThere 4 = .ok (.iload_n 1, 1) := by decide +kernel
theorem dX1_bitsThere_5 : decode cX1_bitsThere 5 = .ok (.iaload, 1) := by decide +kernel
theorem dX1_bitsThere_6 : decode cX1_bitsThere 6 = .ok (.aload_n 2, 1) := by decide +kernel
theorem dX1_bitsThere_7 : decode cX1_bitsThere 7 = .ok (.getfield 65, 3) := by decide +kernel
theorem dX1_bitsThere_10 : decode cX1_bitsThere 10 = .ok (.iload_n 1, 1) := by decide +kernel
theorem dX1_bitsThere_11 : decode cX1_bitsThere 11 = .ok (.iaload, 1) := by decide +kernel
theorem dX1_bitsThere_12 : decode cX1_bitsThere 12 = .ok (.iadd, 1) := by decide +kernel
theorem dX1_bitsThere_13 : decode cX1_bitsThere 13 = .ok (.istore_n 3, 1) := by decide +kernel
theorem dX1_bitsThere_14 : decode cX1_bitsThere 14 = .ok (.aload_n 0, 1) := by decide +kernel
theorem dX1_bitsThere_15 : decode cX1_bitsThere 15 = .ok (.getfield 9, 3) := by decide +kernel
theorem dX1_bitsThere_18 : decode cX1_bitsThere 18 = .ok (.iload_n 3, 1) := by decide +kernel
theorem dX1_bitsThere_19 : decode cX1_bitsThere 19 = .ok (.iaload, 1) := by decide +kernel
theorem dX1_bitsThere_20 : decode cX1_bitsThere 20 = .ok (.aload_n 0, 1) := by decide +kernel
theorem dX1_bitsThere_21 : decode cX1_bitsThere 21 = .ok (.getfield 9, 3) := by decide +kernel
theorem dX1_bitsThere_24 : decode cX1_bitsThere 24 = .ok (.iload_n 3, 1) := by decide +kernel
theorem dX1_bitsThere_25 : decode cX1_bitsThere 25 = .ok (.iconst 1, 1) := by decide +kernel
theorem dX1_bitsThere_26 : decode cX1_bitsThere 26 = .ok (.iadd, 1) := by decide +kernel
theorem dX1_bitsThere_27 : decode cX1_bitsThere 27 = .ok (.iaload, 1) := by decide +kernel
theorem dX1_bitsThere_28 : decode cX1_bitsThere 28 = .ok (.bipush 8, 2) := by decide +kernel
theorem dX1_bitsThere_30 : decode cX1_bitsThere 30 = .ok (.ishl, 1) := by decide +kernel
theorem dX1_bitsThere_31 : decode cX1_bitsThere 31 = .ok (.ior, 1) := by decide +kernel
theorem dX1_bitsThere_32 : decode cX1_bitsThere 32 = .ok (.ireturn, 1) := by decide +kernel
set_option maxHeartbeats 4000000 in
set_option maxRecDepth 100000 in
theorem cX1_bitsThere_ (l : Launch) (bs : Nat) (D : va_G) (y : Y3) (hcb : 44 ≤ y.2.2.2) (n : Nat) (x1 : Int32) (I : MI) (J : MJ) (r : Int32 × M2) (h : fX1_bitsThere n x1 I J = some r) : Met l yX1_bitsThere (.code yX1_bitsThere cX1_bitsThere 4 (some .int) :: gtb) (rmm 0 0) (va_Pc [.ref (bs + 34), .int x1, .ref (bs + 11)] (HB bs D y I J)) (QcI bs D y r) 0 0 (FA bs) := by
  refine Met.ofW (cc := cX1_bitsThere) (maxL := 4) (ret := (some .int)) (by decide) rfl ?_
  intro p e s m args below meth c s₁ B hml hv
  obtain ⟨rfl, hP, hK, hN, hL⟩ := hv
  have hx := B.exec
  have hb := B.bytes
  have hr := B.returns
  have hts0 := atoms_spec (ws := .code yX1_bitsThere cX1_bitsThere 4 (some .int) :: gtb) B.pre
  have hts : ∀ w ∈ gtb, w.before [.ref (bs + 34), .int x1, .ref (bs + 11)].toArray s = true := fun w hw => hts0 w (List.mem_cons_of_mem _ hw)
  have hown : s.vm.findClass RX1 = some m.cls := findClass_of_methodNamed B.named
  have hlocks := B.notSynchronized
  have hS : va_S (FA bs) s.heap s.heap [] := va_S.rf
  have Gc : Gx p s m [.ref (bs + 34), .int x1, .ref (bs + 11)].toArray meth c cX1_bitsThere 4 RX1 bs D y (some .int) 44 := ⟨hx, hb, hml, hown, hts, hK, hN, hL, hr, hlocks, hcb⟩
  have hl := lv_entry [.ref (bs + 34), .int x1, .ref (bs + 11)] (n := 4) (Nat.le_of_ble_eq_true rfl)
  rw [lg_entry_eq]
  generalize (lg_sl [.ref (bs + 34), .int x1, .ref (bs + 11)] ++ List.replicate (4 - (lg_sl [.ref (bs + 34), .int x1, .ref (bs + 11)]).length) Slot.unset).toArray = ls at hl ⊢
  have hl : lv_has ls 4 [(0, .ref (bs + 34)), (1, .int x1), (2, .ref (bs + 11))] := hl
  change W p l e (rmm 0 0) s m [.ref (bs + 34), .int x1, .ref (bs + 11)].toArray below meth c s.heap [] 0 0 (QI below [.ref (bs + 34), .int x1, .ref (bs + 11)].toArray s bs D y r) (F0 m 0 ls [])
  unfold fX1_bitsThere at h
  refine lv_aload_n hx hb dX1_bitsThere_0 rfl (lv_at hl 0 rfl) ?_
  refine g_R (C := RX1) (T := TX1) (N := 5) (ci := 1) 34 4 37 hx hb hts hown hK hP in_X1 rfl hcb okF_34_4 rfc_34_4 fl_10 dX1_bitsThere_1 ?_
  refine lv_iload_n hx hb dX1_bitsThere_4 rfl (lv_at hl 1 rfl) ?_
  obtain ⟨hi5, h⟩ := if_s1 h
  refine a_I 37 hx hb hK hP hcb aln_37 hi5 dX1_bitsThere_5 ?_
  refine lv_aload_n hx hb dX1_bitsThere_6 rfl (lv_at hl 2 rfl) ?_
  refine g_R (C := RX7) (T := TX7) (N := 7) (ci := 7) 11 2 12 hx hb hts hown hK hP in_X7 rfl hcb okF_11_2 rfc_11_2 fl_7 dX1_bitsThere_7 ?_
  refine lv_iload_n hx hb dX1_bitsThere_10 rfl (lv_at hl 1 rfl) ?_
  obtain ⟨hi11, h⟩ := if_s1 h
  refine a_I 12 hx hb hK hP hcb aln_12 hi11 dX1_bitsThere_11 ?_
  refine lv_iadd hx hb dX1_bitsThere_12 ?_
  obtain ⟨v13, ev13, h⟩ := lt_s1 h
  refine top_i ev13 ?_
  refine lv_istore_n (lv' := [(3, .int v13), (0, .ref (bs + 34)), (1, .int x1), (2, .ref (bs + 11))]) hx hb dX1_bitsThere_13 rfl hl (by decide) rfl (fun ls hl => ?_)
  refine lv_aload_n hx hb dX1_bitsThere_14 rfl (lv_at hl 1 rfl) ?_
  refine g_R (C := RX1) (T := TX1) (N := 5) (ci := 1) 34 2 35 hx hb hts hown hK hP in_X1 rfl hcb okF_34_2 rfc_34_2 fl_4 dX1_bitsThere_15 ?_
  refine lv_iload_n hx hb dX1_bitsThere_18 rfl (lv_at hl 0 rfl) ?_
  obtain ⟨hi19, h⟩ := if_s1 h
  refine a_I 35 hx hb hK hP hcb aln_35 hi19 dX1_bitsThere_19 ?_
  refine lv_aload_n hx hb dX1_bitsThere_20 rfl (lv_at hl 1 rfl) ?_
  refine g_R (C := RX1) (T := TX1) (N := 5) (ci := 1) 34 2 35 hx hb hts hown hK hP in_X1 rfl hcb okF_34_2 rfc_34_2 fl_4 dX1_bitsThere_21 ?_
  refine lv_iload_n hx hb dX1_bitsThere_24 rfl (lv_at hl 0 rfl) ?_
  refine lv_iconst (v := (1 : Int32)) hx hb dX1_bitsThere_25 (by decide) ?_
  refine lv_iadd hx hb dX1_bitsThere_26 ?_
  obtain ⟨hi27, h⟩ := if_s1 h
  refine a_I 35 hx hb hK hP hcb aln_35 hi27 dX1_bitsThere_27 ?_
  refine lv_bipush (v := (8 : Int32)) hx hb dX1_bitsThere_28 (by decide) ?_
  refine lv_ishl hx hb dX1_bitsThere_30 ?_
  refine lv_ior hx hb dX1_bitsThere_31 ?_
  exact r_I hx hb hr hlocks hP hK hN hL hS h dX1_bitsThere_32
theorem dX1_strangeTables_0 : decode cX1_strangeTables 0 = .ok (.iconst 0, 1) := by decide +kernel
theorem dX1_strangeTables_1 : decode cX1_strangeTables 1 = .ok (.istore_n 3, 1) := by decide +kernel
theorem dX1_strangeTables_2 : decode cX1_strangeTables 2 = .ok (.iconst 0, 1) := by decide +kernel
theorem dX1_strangeTables_3 : decode cX1_strangeTables 3 = .ok (.istore 4, 2) := by decide +kernel
theorem dX1_strangeTables_5 : decode cX1_strangeTables 5 = .ok (.iload 4, 2) := by decide +kernel
theorem dX1_strangeTables_7 : decode cX1_strangeTables 7 = .ok (.aload_n 1, 1) := by decide +kernel
theorem dX1_strangeTables_8 : decode cX1_strangeTables 8 = .ok (.getfield 76, 3) := by decide +kernel
theorem dX1_strangeTables_11 : decode cX1_strangeTables 11 = .ok (.if_icmp .ge 38, 3) := by decide +kernel
theorem dX1_strangeTables_14 : decode cX1_strangeTables 14 = .ok (.aload_n 2, 1) := by decide +kernel
theorem dX1_strangeTables_15 : decode cX1_strangeTables 15 = .ok (.iload 4, 2) := by decide +kernel
theorem dX1_strangeTables_17 : decode cX1_strangeTables 17 = .ok (.invokevirtual 79, 3) := by decide +kernel
theorem dX1_strangeTables_20 : decode cX1_strangeTables 20 = .ok (.ifCond .eq 23, 3) := by decide +kernel
theorem dX1_strangeTables_23 : decode cX1_strangeTables 23 = .ok (.aload_n 0, 1) := by decide +kernel
theorem dX1_strangeTables_24 : decode cX1_strangeTables 24 = .ok (.iload 4, 2) := by decide +kernel
theorem dX1_strangeTables_26 : decode cX1_strangeTables 26 = .ok (.aload_n 2, 1) := by decide +kernel
theorem dX1_strangeTables_27 : decode cX1_strangeTables 27 = .ok (.invokevirtual 83, 3) := by decide +kernel
theorem dX1_strangeTables_30 : decode cX1_strangeTables 30 = .ok (.aload_n 2, 1) := by decide +kernel
theorem dX1_strangeTables_31 : decode cX1_strangeTables 31 = .ok (.getfield 73, 3) := by decide +kernel
theorem dX1_strangeTables_34 : decode cX1_strangeTables 34 = .ok (.iload 4, 2) := by decide +kernel
theorem dX1_strangeTables_36 : decode cX1_strangeTables 36 = .ok (.iaload, 1) := by decide +kernel
theorem dX1_strangeTables_37 : decode cX1_strangeTables 37 = .ok (.if_icmp .eq 6, 3) := by decide +kernel
theorem dX1_strangeTables_40 : decode cX1_strangeTables 40 = .ok (.iinc 3 1, 3) := by decide +kernel
theorem dX1_strangeTables_43 : decode cX1_strangeTables 43 = .ok (.iinc 4 1, 3) := by decide +kernel
theorem dX1_strangeTables_46 : decode cX1_strangeTables 46 = .ok (.goto (-41), 3) := by decide +kernel
theorem dX1_strangeTables_49 : decode cX1_strangeTables 49 = .ok (.iload_n 3, 1) := by decide +kernel
theorem dX1_strangeTables_50 : decode cX1_strangeTables 50 = .ok (.ireturn, 1) := by decide +kernel
set_option maxHeartbeats 4000000 in
set_option maxRecDepth 100000 in
theorem wX1_strangeTables_43 {p : Program} {l : Launch} {e : Env} {s : State} {m : MethodId} {args : Array Value} {below : List Frame} {meth : Method} {c : Code} (bs : Nat) (D : va_G) (y : Y3) (n : Nat) (k5_ : Int32 → Int32 → MI → MJ → Option (Int32 × M2)) (r : Int32 × M2) (Gc : Gx p s m args meth c cX1_strangeTables 5 RX1 bs D y (some .int) 44) (hk5_ : ∀ (x3 : Int32) (x4 : Int32) (I : MI) (J : MJ) (H : Heap) (locs : List Loc) (ls : Array Slot), va_P D vwCl (wl bs y I J) H → va_S (FA bs) s.heap H locs → lv_has ls 5 [(0, .ref (bs + 34)), (1, .ref (bs + 1)), (2, .ref (bs + 11)), (3, .int x3), (4, .int x4)] → k5_ x3 x4 I J = some r → W p l e (rmm 2 43) s m args below meth c H locs 0 0 (QI below args s bs D y r) (F0 m 5 ls [])) (x3 : Int32) (x4 : Int32) (I : MI) (J : MJ) (H : Heap) (locs : List Loc) (ls : Array Slot) (hP : va_P D vwCl (wl bs y I J) H) (hS : va_S (FA bs) s.heap H locs) (hl : lv_has ls 5 [(0, .ref (bs + 34)), (1, .ref (bs + 1)), (2, .ref (bs + 11)), (3, .int x3), (4, .int x4)]) (h : fX1_strangeTables_43 n k5_ x3 x4 I J = some r) : W p l e (rmm 2 43) s m args below meth c H locs 0 0 (QI below args s bs D y r) (F0 m 43 ls []) := by
  obtain ⟨hx, hb, hml, hown, hts, hK, hN, hL, hr, hlocks, hcb⟩ := id Gc
  unfold fX1_strangeTables_43 at h
  refine lv_iinc (v := (x4 + (1 : Int32))) (lv' := [(4, .int (x4 + (1 : Int32))), (0, .ref (bs + 34)), (1, .ref (bs + 1)), (2, .ref (bs + 11)), (3, .int x3)]) hx hb dX1_strangeTables_43 hl (k := 4) rfl rfl (by decide) rfl (fun ls hl => ?_)
  refine lv_goto (tgt := 5) hx hb dX1_strangeTables_46 (by decide) ?_
  exact hk5_ x3 (x4 + (1 : Int32)) I J _ _ _ hP hS (lv_sub hl [1, 2, 3, 4, 0] rfl) h
set_option maxHeartbeats 4000000 in
set_option maxRecDepth 100000 in
theorem wX1_strangeTables_5 {p : Program} {l : Launch} {e : Env} {s : State} {m : MethodId} {args : Array Value} {below : List Frame} {meth : Method} {c : Code} (bs : Nat) (D : va_G) (y : Y3) (n : Nat) (k5_ : Int32 → Int32 → MI → MJ → Option (Int32 × M2)) (r : Int32 × M2) (Gc : Gx p s m args meth c cX1_strangeTables 5 RX1 bs D y (some .int) 44) (hk5_ : ∀ (x3 : Int32) (x4 : Int32) (I : MI) (J : MJ) (H : Heap) (locs : List Loc) (ls : Array Slot), va_P D vwCl (wl bs y I J) H → va_S (FA bs) s.heap H locs → lv_has ls 5 [(0, .ref (bs + 34)), (1, .ref (bs + 1)), (2, .ref (bs + 11)), (3, .int x3), (4, .int x4)] → k5_ x3 x4 I J = some r → W p l e (rmm 2 43) s m args below meth c H locs 0 0 (QI below args s bs D y r) (F0 m 5 ls [])) (x3 : Int32) (x4 : Int32) (I : MI) (J : MJ) (H : Heap) (locs : List Loc) (ls : Array Slot) (hP : va_P D vwCl (wl bs y I J) H) (hS : va_S (FA bs) s.heap H locs) (hl : lv_has ls 5 [(0, .ref (bs + 34)), (1, .ref (bs + 1)), (2, .ref (bs + 11)), (3, .int x3), (4, .int x4)]) (h : fX1_strangeTables_5 n k5_ x3 x4 I J = some r) : W p l e (rmm 2 43) s m args below meth c H locs 0 0 (QI below args s bs D y r) (F0 m 5 ls []) := by
  obtain ⟨hx, hb, hml, hown, hts, hK, hN, hL, hr, hlocks, hcb⟩ := id Gc
  unfold fX1_strangeTables_5 at h
  refine lv_iload hx hb dX1_strangeTables_5 (lv_at hl 4 rfl) ?_
  refine lv_aload_n hx hb dX1_strangeTables_7 rfl (lv_at hl 1 rfl) ?_
  refine g_I (C := RX3) (T := TX3) (N := 11) (ci := 3) 1 5 hx hb hts hown hK hP in_X3 rfl hcb okF_1_5 fl_19 dX1_strangeTables_8 ?_
  refine lv_icmp_ge (tgt := 49) hx hb dX1_strangeTables_11 (by decide) (fun c11 => ?_) (fun c11 => ?_)
  · replace h := if_t c11 h
    refine lv_iload_n hx hb dX1_strangeTables_49 rfl (lv_at hl 3 rfl) ?_
    exact r_I hx hb hr hlocks hP hK hN hL hS h dX1_strangeTables_50
  · replace h := if_f c11 h
    refine lv_aload_n hx hb dX1_strangeTables_14 rfl (lv_at hl 2 rfl) ?_
    refine lv_iload hx hb dX1_strangeTables_15 (lv_at hl 4 rfl) ?_
    obtain ⟨r17, er17, h⟩ := bd_s1 h
    refine c_VI (k := 11) (ci := 7) (As := [.int x4]) (rest := []) hx hb hml hown hts hK hN hL hP hS (cX7_isTable_ l bs D y hcb n x4 I J r17 er17) ok_X7_isTable ov_X7_isTable ml_11 ⟨Nat.le_of_ble_eq_true rfl, Nat.le_of_ble_eq_true rfl⟩ rfl hcb kd_11 hl.1 rfl rfl (Nat.le_of_ble_eq_true rfl) ⟨Nat.zero_le _, Nat.zero_le _⟩ dX1_strangeTables_17 (fun H locs hP hS => ?_)
    refine lv_if_eq (tgt := 43) hx hb dX1_strangeTables_20 (by decide) (fun c20 => ?_) (fun c20 => ?_)
    · replace h := if_t c20 h
      exact wX1_strangeTables_43 bs D y n k5_ r Gc hk5_ x3 x4 r17.2.1 r17.2.2 _ _ _ hP hS (lv_sub hl [0, 1, 2, 3, 4] rfl) h
    · replace h := if_f c20 h
      refine lv_aload_n hx hb dX1_strangeTables_23 rfl (lv_at hl 0 rfl) ?_
      refine lv_iload hx hb dX1_strangeTables_24 (lv_at hl 4 rfl) ?_
      refine lv_aload_n hx hb dX1_strangeTables_26 rfl (lv_at hl 2 rfl) ?_
      obtain ⟨r27, er27, h⟩ := bd_s1 h
      refine c_VI (k := 34) (ci := 1) (As := [.int x4, .ref (bs + 11)]) (rest := []) hx hb hml hown hts hK hN hL hP hS (cX1_bitsThere_ l bs D y hcb n x4 r17.2.1 r17.2.2 r27 er27) ok_X1_bitsThere ov_X1_bitsThere ml_12 ⟨Nat.le_of_ble_eq_true rfl, Nat.le_of_ble_eq_true rfl⟩ rfl hcb kd_34 hl.1 rfl rfl (Nat.le_of_ble_eq_true rfl) ⟨Nat.zero_le _, Nat.zero_le _⟩ dX1_strangeTables_27 (fun H locs hP hS => ?_)
      refine lv_aload_n hx hb dX1_strangeTables_30 rfl (lv_at hl 2 rfl) ?_
      refine g_R (C := RX7) (T := TX7) (N := 7) (ci := 7) 11 3 13 hx hb hts hown hK hP in_X7 rfl hcb okF_11_3 rfc_11_3 fl_8 dX1_strangeTables_31 ?_
      refine lv_iload hx hb dX1_strangeTables_34 (lv_at hl 4 rfl) ?_
      obtain ⟨hi36, h⟩ := if_s1 h
      refine a_I 13 hx hb hK hP hcb aln_13 hi36 dX1_strangeTables_36 ?_
      refine lv_icmp_eq (tgt := 43) hx hb dX1_strangeTables_37 (by decide) (fun c37 => ?_) (fun c37 => ?_)
      · replace h := if_t c37 h
        exact wX1_strangeTables_43 bs D y n k5_ r Gc hk5_ x3 x4 r27.2.1 r27.2.2 _ _ _ hP hS (lv_sub hl [0, 1, 2, 3, 4] rfl) h
      · replace h := if_f c37 h
        refine lv_iinc (v := (x3 + (1 : Int32))) (lv' := [(3, .int (x3 + (1 : Int32))), (0, .ref (bs + 34)), (1, .ref (bs + 1)), (2, .ref (bs + 11)), (4, .int x4)]) hx hb dX1_strangeTables_40 hl (k := 3) rfl rfl (by decide) rfl (fun ls hl => ?_)
        exact wX1_strangeTables_43 bs D y n k5_ r Gc hk5_ (x3 + (1 : Int32)) x4 r27.2.1 r27.2.2 _ _ _ hP hS (lv_sub hl [1, 2, 3, 0, 4] rfl) h
theorem vX1_strangeTables_5 {p : Program} {l : Launch} {e : Env} {s : State} {m : MethodId} {args : Array Value} {below : List Frame} {meth : Method} {c : Code} (bs : Nat) (D : va_G) (y : Y3) (n : Nat) (r : Int32 × M2) (Gc : Gx p s m args meth c cX1_strangeTables 5 RX1 bs D y (some .int) 44)  : ∀ (q : Nat) (x3 : Int32) (x4 : Int32) (I : MI) (J : MJ) (H : Heap) (locs : List Loc) (ls : Array Slot), va_P D vwCl (wl bs y I J) H → va_S (FA bs) s.heap H locs → lv_has ls 5 [(0, .ref (bs + 34)), (1, .ref (bs + 1)), (2, .ref (bs + 11)), (3, .int x3), (4, .int x4)] → lX1_strangeTables_5 n  q x3 x4 I J = some r → W p l e (rmm 2 43) s m args below meth c H locs 0 0 (QI below args s bs D y r) (F0 m 5 ls []) := by
  intro q
  induction q with
  | zero =>
    intro x3 x4 I J H locs ls hP hS hl h
    have h : (none : Option (Int32 × M2)) = some r := h
    cases h
  | succ q ih =>
    intro x3 x4 I J H locs ls hP hS hl h
    have h : fX1_strangeTables_5 n  (lX1_strangeTables_5 n  q) x3 x4 I J = some r := h
    exact wX1_strangeTables_5 bs D y n  (lX1_strangeTables_5 n  q) r Gc  ih x3 x4 I J H locs ls hP hS hl h
set_option maxHeartbeats 4000000 in
set_option maxRecDepth 100000 in
theorem cX1_strangeTables_ (l : Launch) (bs : Nat) (D : va_G) (y : Y3) (hcb : 44 ≤ y.2.2.2) (n : Nat) (I : MI) (J : MJ) (r : Int32 × M2) (h : fX1_strangeTables n  I J = some r) : Met l yX1_strangeTables (.code yX1_strangeTables cX1_strangeTables 5 (some .int) :: gtb) (rmm 2 43) (va_Pc [.ref (bs + 34), .ref (bs + 1), .ref (bs + 11)] (HB bs D y I J)) (QcI bs D y r) 0 0 (FA bs) := by
  refine Met.ofW (cc := cX1_strangeTables) (maxL := 5) (ret := (some .int)) (by decide) rfl ?_
  intro p e s m args below meth c s₁ B hml hv
  obtain ⟨rfl, hP, hK, hN, hL⟩ := hv
  have hx := B.exec
  have hb := B.bytes
  have hr := B.returns
  have hts0 := atoms_spec (ws := .code yX1_strangeTables cX1_strangeTables 5 (some .int) :: gtb) B.pre
  have hts : ∀ w ∈ gtb, w.before [.ref (bs + 34), .ref (bs + 1), .ref (bs + 11)].toArray s = true := fun w hw => hts0 w (List.mem_cons_of_mem _ hw)
  have hown : s.vm.findClass RX1 = some m.cls := findClass_of_methodNamed B.named
  have hlocks := B.notSynchronized
  have hS : va_S (FA bs) s.heap s.heap [] := va_S.rf
  have Gc : Gx p s m [.ref (bs + 34), .ref (bs + 1), .ref (bs + 11)].toArray meth c cX1_strangeTables 5 RX1 bs D y (some .int) 44 := ⟨hx, hb, hml, hown, hts, hK, hN, hL, hr, hlocks, hcb⟩
  have hl := lv_entry [.ref (bs + 34), .ref (bs + 1), .ref (bs + 11)] (n := 5) (Nat.le_of_ble_eq_true rfl)
  rw [lg_entry_eq]
  generalize (lg_sl [.ref (bs + 34), .ref (bs + 1), .ref (bs + 11)] ++ List.replicate (5 - (lg_sl [.ref (bs + 34), .ref (bs + 1), .ref (bs + 11)]).length) Slot.unset).toArray = ls at hl ⊢
  have hl : lv_has ls 5 [(0, .ref (bs + 34)), (1, .ref (bs + 1)), (2, .ref (bs + 11))] := hl
  change W p l e (rmm 2 43) s m [.ref (bs + 34), .ref (bs + 1), .ref (bs + 11)].toArray below meth c s.heap [] 0 0 (QI below [.ref (bs + 34), .ref (bs + 1), .ref (bs + 11)].toArray s bs D y r) (F0 m 0 ls [])
  unfold fX1_strangeTables at h
  refine lv_iconst (v := (0 : Int32)) hx hb dX1_strangeTables_0 (by decide) ?_
  refine lv_istore_n (lv' := [(3, .int (0 : Int32)), (0, .ref (bs + 34)), (1, .ref (bs + 1)), (2, .ref (bs + 11))]) hx hb dX1_strangeTables_1 rfl hl (by decide) rfl (fun ls hl => ?_)
  refine lv_iconst (v := (0 : Int32)) hx hb dX1_strangeTables_2 (by decide) ?_
  refine lv_istore (lv' := [(4, .int (0 : Int32)), (3, .int (0 : Int32)), (0, .ref (bs + 34)), (1, .ref (bs + 1)), (2, .ref (bs + 11))]) hx hb dX1_strangeTables_3 hl (by decide) rfl (fun ls hl => ?_)
  exact vX1_strangeTables_5 bs D y n  r Gc  n (0 : Int32) (0 : Int32) I J _ _ _ hP hS (lv_sub hl [2, 3, 4, 1, 0] rfl) h
theorem dX1_letterThere_0 : decode cX1_letterThere 0 = .ok (.aload_n 0, 1) := by decide +kernel
theorem dX1_letterThere_1 : decode cX1_letterThere 1 = .ok (.getfield 9, 3) := by decide +kernel
theorem dX1_letterThere_4 : decode cX1_letterThere 4 = .ok (.aload_n 0, 1) := by decide +kernel
theorem dX1_letterThere_5 : decode cX1_letterThere 5 = .ok (.getfield 18, 3) := by decide +kernel
theorem dX1_letterThere_8 : decode cX1_letterThere 8 = .ok (.iload_n 1, 1) := by decide +kernel
theorem dX1_letterThere_9 : decode cX1_letterThere 9 = .ok (.iaload, 1) := by decide +kernel
theorem dX1_letterThere_10 : decode cX1_letterThere 10 = .ok (.iload_n 2, 1) := by decide +kernel
theorem dX1_letterThere_11 : decode cX1_letterThere 11 = .ok (.iadd, 1) := by decide +kernel
theorem dX1_letterThere_12 : decode cX1_letterThere 12 = .ok (.iaload, 1) := by decide +kernel
theorem dX1_letterThere_13 : decode cX1_letterThere 13 = .ok (.ireturn, 1) := by decide +kernel
set_option maxHeartbeats 4000000 in
set_option maxRecDepth 100000 in
theorem cX1_letterThere_ (l : Launch) (bs : Nat) (D : va_G) (y : Y3) (hcb : 44 ≤ y.2.2.2) (n : Nat) (x1 : Int32) (x2 : Int32) (I : MI) (J : MJ) (r : Int32 × M2) (h : fX1_letterThere n x1 x2 I J = some r) : Met l yX1_letterThere (.code yX1_letterThere cX1_letterThere 3 (some .int) :: gtb) (rmm 0 0) (va_Pc [.ref (bs + 34), .int x1, .int x2] (HB bs D y I J)) (QcI bs D y r) 0 0 (FA bs) := by
  refine Met.ofW (cc := cX1_letterThere) (maxL := 3) (ret := (some .int)) (by decide) rfl ?_
  intro p e s m args below meth c s₁ B hml hv
  obtain ⟨rfl, hP, hK, hN, hL⟩ := hv
  have hx := B.exec
  have hb := B.bytes
  have hr := B.returns
  have hts0 := atoms_spec (ws := .code yX1_letterThere cX1_letterThere 3 (some .int) :: gtb) B.pre
  have hts : ∀ w ∈ gtb, w.before [.ref (bs + 34), .int x1, .int x2].toArray s = true := fun w hw => hts0 w (List.mem_cons_of_mem _ hw)
  have hown : s.vm.findClass RX1 = some m.cls := findClass_of_methodNamed B.named
  have hlocks := B.notSynchronized
  have hS : va_S (FA bs) s.heap s.heap [] := va_S.rf
  have Gc : Gx p s m [.ref (bs + 34), .int x1, .int x2].toArray meth c cX1_letterThere 3 RX1 bs D y (some .int) 44 := ⟨hx, hb, hml, hown, hts, hK, hN, hL, hr, hlocks, hcb⟩
  have hl := lv_entry [.ref (bs + 34), .int x1, .int x2] (n := 3) (Nat.le_of_ble_eq_true rfl)
  rw [lg_entry_eq]
  generalize (lg_sl [.ref (bs + 34), .int x1, .int x2] ++ List.replicate (3 - (lg_sl [.ref (bs + 34), .int x1, .int x2]).length) Slot.unset).toArray = ls at hl ⊢
  have hl : lv_has ls 3 [(0, .ref (bs + 34)), (1, .int x1), (2, .int x2)] := hl
  change W p l e (rmm 0 0) s m [.ref (bs + 34), .int x1, .int x2].toArray below meth c s.heap [] 0 0 (QI below [.ref (bs + 34), .int x1, .int x2].toArray s bs D y r) (F0 m 0 ls [])
  unfold fX1_letterThere at h
  refine lv_aload_n hx hb dX1_letterThere_0 rfl (lv_at hl 0 rfl) ?_
  refine g_R (C := RX1) (T := TX1) (N := 5) (ci := 1) 34 2 35 hx hb hts hown hK hP in_X1 rfl hcb okF_34_2 rfc_34_2 fl_4 dX1_letterThere_1 ?_
  refine lv_aload_n hx hb dX1_letterThere_4 rfl (lv_at hl 0 rfl) ?_
  refine g_R (C := RX1) (T := TX1) (N := 5) (ci := 1) 34 4 37 hx hb hts hown hK hP in_X1 rfl hcb okF_34_4 rfc_34_4 fl_10 dX1_letterThere_5 ?_
  refine lv_iload_n hx hb dX1_letterThere_8 rfl (lv_at hl 1 rfl) ?_
  obtain ⟨hi9, h⟩ := if_s1 h
  refine a_I 37 hx hb hK hP hcb aln_37 hi9 dX1_letterThere_9 ?_
  refine lv_iload_n hx hb dX1_letterThere_10 rfl (lv_at hl 2 rfl) ?_
  refine lv_iadd hx hb dX1_letterThere_11 ?_
  obtain ⟨hi12, h⟩ := if_s1 h
  refine a_I 35 hx hb hK hP hcb aln_35 hi12 dX1_letterThere_12 ?_
  exact r_I hx hb hr hlocks hP hK hN hL hS h dX1_letterThere_13
theorem dJ7_fill_53178_0 : decode cJ7_fill_53178 0 = .ok (.iconst 0, 1) := by decide +kernel
theorem dJ7_fill_53178_1 : decode cJ7_fill_53178 1 = .ok (.istore_n 2, 1) := by decide +kernel
theorem dJ7_fill_53178_2 : decode cJ7_fill_53178 2 = .ok (.aload_n 0, 1) := by decide +kernel
theorem dJ7_fill_53178_3 : decode cJ7_fill_53178 3 = .ok (.arraylength, 1) := by decide +kernel
theorem dJ7_fill_53178_4 : decode cJ7_fill_53178 4 = .ok (.istore_n 3, 1) := by decide +kernel
theorem dJ7_fill_53178_5 : decode cJ7_fill_53178 5 = .ok (.iload_n 2, 1) := by decide +kernel
theorem dJ7_fill_53178_6 : decode cJ7_fill_53178 6 = .ok (.iload_n 3, 1) := by decide +kernel
theorem dJ7_fill_53178_7 : decode cJ7_fill_53178 7 = .ok (.if_icmp .ge 13, 3) := by decide +kernel
theorem dJ7_fill_53178_10 : decode cJ7_fill_53178 10 = .ok (.aload_n 0, 1) := by decide +kernel
theorem dJ7_fill_53178_11 : decode cJ7_fill_53178 11 = .ok (.iload_n 2, 1) := by decide +kernel
theorem dJ7_fill_53178_12 : decode cJ7_fill_53178 12 = .ok (.iload_n 1, 1) := by decide +kernel
theorem dJ7_fill_53178_13 : decode cJ7_fill_53178 13 = .ok (.iastore, 1) := by decide +kernel
theorem dJ7_fill_53178_14 : decode cJ7_fill_53178 14 = .ok (.iinc 2 1, 3) := by decide +kernel
theorem dJ7_fill_53178_17 : decode cJ7_fill_53178 17 = .ok (.goto (-12), 3) := by decide +kernel
theorem dJ7_fill_53178_20 : decode cJ7_fill_53178 20 = .ok (.return_, 1) := by decide +kernel
set_option maxHeartbeats 4000000 in
set_option maxRecDepth 100000 in
theorem wJ7_fill_53178_5 {p : Program} {l : Launch} {e : Env} {s : State} {m : MethodId} {args : Array Value} {below : List Frame} {meth : Method} {c : Code} (bs : Nat) (D : va_G) (y : Y3) (n : Nat) (k5_ : Nat → Int32 → Int32 → Int32 → MI → MJ → Option (M2)) (r : M2) (Gc : Gx p s m args meth c cJ7_fill_53178 4 RJ7 bs D y none 44) (hk5_ : ∀ (k0 : Nat) (x1 : Int32) (x2 : Int32) (x3 : Int32) (I : MI) (J : MJ) (H : Heap) (locs : List Loc) (ls : Array Slot), va_P D vwCl (wl bs y I J) H → va_S (FA bs) s.heap H locs → lv_has ls 4 [(0, .ref (bs + k0)), (1, .int x1), (2, .int x2), (3, .int x3)] → k5_ k0 x1 x2 x3 I J = some r → W p l e (rmm 0 0) s m args below meth c H locs 0 0 (QV below args s bs D y r) (F0 m 5 ls [])) (k0 : Nat) (x1 : Int32) (x2 : Int32) (x3 : Int32) (I : MI) (J : MJ) (H : Heap) (locs : List Loc) (ls : Array Slot) (hP : va_P D vwCl (wl bs y I J) H) (hS : va_S (FA bs) s.heap H locs) (hl : lv_has ls 4 [(0, .ref (bs + k0)), (1, .int x1), (2, .int x2), (3, .int x3)]) (h : fJ7_fill_53178_5 n k5_ k0 x1 x2 x3 I J = some r) : W p l e (rmm 0 0) s m args below meth c H locs 0 0 (QV below args s bs D y r) (F0 m 5 ls []) := by
  obtain ⟨hx, hb, hml, hown, hts, hK, hN, hL, hr, hlocks, hcb⟩ := id Gc
  unfold fJ7_fill_53178_5 at h
  refine lv_iload_n hx hb dJ7_fill_53178_5 rfl (lv_at hl 2 rfl) ?_
  refine lv_iload_n hx hb dJ7_fill_53178_6 rfl (lv_at hl 3 rfl) ?_
  refine lv_icmp_ge (tgt := 20) hx hb dJ7_fill_53178_7 (by decide) (fun c7 => ?_) (fun c7 => ?_)
  · replace h := if_t c7 h
    exact r_V hx hb hr hlocks hP hK hN hL hS h dJ7_fill_53178_20
  · replace h := if_f c7 h
    refine lv_aload_n hx hb dJ7_fill_53178_10 rfl (lv_at hl 0 rfl) ?_
    refine lv_iload_n hx hb dJ7_fill_53178_11 rfl (lv_at hl 2 rfl) ?_
    refine lv_iload_n hx hb dJ7_fill_53178_12 rfl (lv_at hl 1 rfl) ?_
    obtain ⟨hi13, h⟩ := if_s1 h
    obtain ⟨I13, eI13, h⟩ := lt_s1 h
    refine t_I k0 eI13 hx hb hK hP hS hcb rfl hi13 dJ7_fill_53178_13 (fun H locs hP hS => ?_)
    refine lv_iinc (v := (x2 + (1 : Int32))) (lv' := [(2, .int (x2 + (1 : Int32))), (0, .ref (bs + k0)), (1, .int x1), (3, .int x3)]) hx hb dJ7_fill_53178_14 hl (k := 2) rfl rfl (by decide) rfl (fun ls hl => ?_)
    refine lv_goto (tgt := 5) hx hb dJ7_fill_53178_17 (by decide) ?_
    exact hk5_ k0 x1 (x2 + (1 : Int32)) x3 I13 J _ _ _ hP hS (lv_sub hl [1, 2, 0, 3] rfl) h
theorem vJ7_fill_53178_5 {p : Program} {l : Launch} {e : Env} {s : State} {m : MethodId} {args : Array Value} {below : List Frame} {meth : Method} {c : Code} (bs : Nat) (D : va_G) (y : Y3) (n : Nat) (r : M2) (Gc : Gx p s m args meth c cJ7_fill_53178 4 RJ7 bs D y none 44)  : ∀ (q : Nat) (k0 : Nat) (x1 : Int32) (x2 : Int32) (x3 : Int32) (I : MI) (J : MJ) (H : Heap) (locs : List Loc) (ls : Array Slot), va_P D vwCl (wl bs y I J) H → va_S (FA bs) s.heap H locs → lv_has ls 4 [(0, .ref (bs + k0)), (1, .int x1), (2, .int x2), (3, .int x3)] → lJ7_fill_53178_5 n  q k0 x1 x2 x3 I J = some r → W p l e (rmm 0 0) s m args below meth c H locs 0 0 (QV below args s bs D y r) (F0 m 5 ls []) := by
  intro q
  induction q with
  | zero =>
    intro k0 x1 x2 x3 I J H locs ls hP hS hl h
    have h : (none : Option (M2)) = some r := h
    cases h
  | succ q ih =>
    intro k0 x1 x2 x3 I J H locs ls hP hS hl h
    have h : fJ7_fill_53178_5 n  (lJ7_fill_53178_5 n  q) k0 x1 x2 x3 I J = some r := h
    exact wJ7_fill_53178_5 bs D y n  (lJ7_fill_53178_5 n  q) r Gc  ih k0 x1 x2 x3 I J H locs ls hP hS hl h
set_option maxHeartbeats 4000000 in
set_option maxRecDepth 100000 in
theorem cJ7_fill_53178_ (l : Launch) (bs : Nat) (D : va_G) (y : Y3) (hcb : 44 ≤ y.2.2.2) (n : Nat) (k0 : Nat) (x1 : Int32) (I : MI) (J : MJ) (r : M2) (h : fJ7_fill_53178 n k0 x1 I J = some r) : Met l yJ7_fill_53178 (.code yJ7_fill_53178 cJ7_fill_53178 4 none :: gtb) (rmm 0 0) (va_Pc [.ref (bs + k0), .int x1] (HB bs D y I J)) (QcV bs D y r) 0 0 (FA bs) := by
  refine Met.ofW (cc := cJ7_fill_53178) (maxL := 4) (ret := none) (by decide) rfl ?_
  intro p e s m args below meth c s₁ B hml hv
  obtain ⟨rfl, hP, hK, hN, hL⟩ := hv
  have hx := B.exec
  have hb := B.bytes
  have hr := B.returns
  have hts0 := atoms_spec (ws := .code yJ7_fill_53178 cJ7_fill_53178 4 none :: gtb) B.pre
  have hts : ∀ w ∈ gtb, w.before [.ref (bs + k0), .int x1].toArray s = true := fun w hw => hts0 w (List.mem_cons_of_mem _ hw)
  have hown : s.vm.findClass RJ7 = some m.cls := findClass_of_methodNamed B.named
  have hlocks := B.notSynchronized
  have hS : va_S (FA bs) s.heap s.heap [] := va_S.rf
  have Gc : Gx p s m [.ref (bs + k0), .int x1].toArray meth c cJ7_fill_53178 4 RJ7 bs D y none 44 := ⟨hx, hb, hml, hown, hts, hK, hN, hL, hr, hlocks, hcb⟩
  have hl := lv_entry [.ref (bs + k0), .int x1] (n := 4) (Nat.le_of_ble_eq_true rfl)
  rw [lg_entry_eq]
  generalize (lg_sl [.ref (bs + k0), .int x1] ++ List.replicate (4 - (lg_sl [.ref (bs + k0), .int x1]).length) Slot.unset).toArray = ls at hl ⊢
  have hl : lv_has ls 4 [(0, .ref (bs + k0)), (1, .int x1)] := hl
  change W p l e (rmm 0 0) s m [.ref (bs + k0), .int x1].toArray below meth c s.heap [] 0 0 (QV below [.ref (bs + k0), .int x1].toArray s bs D y r) (F0 m 0 ls [])
  unfold fJ7_fill_53178 at h
  refine lv_iconst (v := (0 : Int32)) hx hb dJ7_fill_53178_0 (by decide) ?_
  refine lv_istore_n (lv' := [(2, .int (0 : Int32)), (0, .ref (bs + k0)), (1, .int x1)]) hx hb dJ7_fill_53178_1 rfl hl (by decide) rfl (fun ls hl => ?_)
  refine lv_aload_n hx hb dJ7_fill_53178_2 rfl (lv_at hl 1 rfl) ?_
  obtain ⟨hz3, h⟩ := if_s1 h
  refine a_len k0 hx hb hK hP hcb rfl (of_decide_eq_true hz3) rfl dJ7_fill_53178_3 ?_
  obtain ⟨v4, ev4, h⟩ := lt_s1 h
  refine top_i ev4 ?_
  refine lv_istore_n (lv' := [(3, .int v4), (2, .int (0 : Int32)), (0, .ref (bs + k0)), (1, .int x1)]) hx hb dJ7_fill_53178_4 rfl hl (by decide) rfl (fun ls hl => ?_)
  exact vJ7_fill_53178_5 bs D y n  r Gc  n k0 x1 (0 : Int32) v4 I J _ _ _ hP hS (lv_sub hl [2, 3, 1, 0] rfl) h
theorem dX2_addJoint_0 : decode cX2_addJoint 0 = .ok (.aload_n 0, 1) := by decide +kernel
theorem dX2_addJoint_1 : decode cX2_addJoint 1 = .ok (.getfield 18, 3) := by decide +kernel
theorem dX2_addJoint_4 : decode cX2_addJoint 4 = .ok (.aload_n 0, 1) := by decide +kernel
theorem dX2_addJoint_5 : decode cX2_addJoint 5 = .ok (.getfield 37, 3) := by decide +kernel
theorem dX2_addJoint_8 : decode cX2_addJoint 8 = .ok (.iload_n 1, 1) := by decide +kernel
theorem dX2_addJoint_9 : decode cX2_addJoint 9 = .ok (.iastore, 1) := by decide +kernel
theorem dX2_addJoint_10 : decode cX2_addJoint 10 = .ok (.aload_n 0, 1) := by decide +kernel
theorem dX2_addJoint_11 : decode cX2_addJoint 11 = .ok (.getfield 21, 3) := by decide +kernel
theorem dX2_addJoint_14 : decode cX2_addJoint 14 = .ok (.aload_n 0, 1) := by decide +kernel
theorem dX2_addJoint_15 : decode cX2_addJoint 15 = .ok (.getfield 37, 3) := by decide +kernel
theorem dX2_addJoint_18 : decode cX2_addJoint 18 = .ok (.iload_n 2, 1) := by decide +kernel
theorem dX2_addJoint_19 : decode cX2_addJoint 19 = .ok (.iastore, 1) := by decide +kernel
theorem dX2_addJoint_20 : decode cX2_addJoint 20 = .ok (.aload_n 0, 1) := by decide +kernel
theorem dX2_addJoint_21 : decode cX2_addJoint 21 = .ok (.getfield 24, 3) := by decide +kernel
theorem dX2_addJoint_24 : decode cX2_addJoint 24 = .ok (.iload_n 1, 1) := by decide +kernel
theorem dX2_addJoint_25 : decode cX2_addJoint 25 = .ok (.iconst 4, 1) := by decide +kernel
theorem dX2_addJoint_26 : decode cX2_addJoint 26 = .ok (.imul, 1) := by decide +kernel
theorem dX2_addJoint_27 : decode cX2_addJoint 27 = .ok (.iload_n 3, 1) := by decide +kernel
theorem dX2_addJoint_28 : decode cX2_addJoint 28 = .ok (.iadd, 1) := by decide +kernel
theorem dX2_addJoint_29 : decode cX2_addJoint 29 = .ok (.aload_n 0, 1) := by decide +kernel
theorem dX2_addJoint_30 : decode cX2_addJoint 30 = .ok (.getfield 37, 3) := by decide +kernel
theorem dX2_addJoint_33 : decode cX2_addJoint 33 = .ok (.iastore, 1) := by decide +kernel
theorem dX2_addJoint_34 : decode cX2_addJoint 34 = .ok (.aload_n 0, 1) := by decide +kernel
theorem dX2_addJoint_35 : decode cX2_addJoint 35 = .ok (.getfield 24, 3) := by decide +kernel
theorem dX2_addJoint_38 : decode cX2_addJoint 38 = .ok (.iload_n 2, 1) := by decide +kernel
theorem dX2_addJoint_39 : decode cX2_addJoint 39 = .ok (.iconst 4, 1) := by decide +kernel
theorem dX2_addJoint_40 : decode cX2_addJoint 40 = .ok (.imul, 1) := by decide +kernel
theorem dX2_addJoint_41 : decode cX2_addJoint 41 = .ok (.iload 4, 2) := by decide +kernel
theorem dX2_addJoint_43 : decode cX2_addJoint 43 = .ok (.iadd, 1) := by decide +kernel
theorem dX2_addJoint_44 : decode cX2_addJoint 44 = .ok (.aload_n 0, 1) := by decide +kernel
theorem dX2_addJoint_45 : decode cX2_addJoint 45 = .ok (.getfield 37, 3) := by decide +kernel
theorem dX2_addJoint_48 : decode cX2_addJoint 48 = .ok (.iastore, 1) := by decide +kernel
theorem dX2_addJoint_49 : decode cX2_addJoint 49 = .ok (.aload_n 0, 1) := by decide +kernel
theorem dX2_addJoint_50 : decode cX2_addJoint 50 = .ok (.dup, 1) := by decide +kernel
theorem dX2_addJoint_51 : decode cX2_addJoint 51 = .ok (.getfield 37, 3) := by decide +kernel
theorem dX2_addJoint_54 : decode cX2_addJoint 54 = .ok (.iconst 1, 1) := by decide +kernel
theorem dX2_addJoint_55 : decode cX2_addJoint 55 = .ok (.iadd, 1) := by decide +kernel
theorem dX2_addJoint_56 : decode cX2_addJoint 56 = .ok (.putfield 37, 3) := by decide +kernel
theorem dX2_addJoint_59 : decode cX2_addJoint 59 = .ok (.return_, 1) := by decide +kernel
set_option maxHeartbeats 4000000 in
set_option maxRecDepth 100000 in
theorem cX2_addJoint_ (l : Launch) (bs : Nat) (D : va_G) (y : Y3) (hcb : 44 ≤ y.2.2.2) (n : Nat) (x1 : Int32) (x2 : Int32) (x3 : Int32) (x4 : Int32) (I : MI) (J : MJ) (r : M2) (h : fX2_addJoint n x1 x2 x3 x4 I J = some r) : Met l yX2_addJoint (.code yX2_addJoint cX2_addJoint 5 none :: gtb) (rmm 0 0) (va_Pc [.ref (bs + 16), .int x1, .int x2, .int x3, .int x4] (HB bs D y I J)) (QcV bs D y r) 0 0 (FA bs) := by
  refine Met.ofW (cc := cX2_addJoint) (maxL := 5) (ret := none) (by decide) rfl ?_
  intro p e s m args below meth c s₁ B hml hv
  obtain ⟨rfl, hP, hK, hN, hL⟩ := hv
  have hx := B.exec
  have hb := B.bytes
  have hr := B.returns
  have hts0 := atoms_spec (ws := .code yX2_addJoint cX2_addJoint 5 none :: gtb) B.pre
  have hts : ∀ w ∈ gtb, w.before [.ref (bs + 16), .int x1, .int x2, .int x3, .int x4].toArray s = true := fun w hw => hts0 w (List.mem_cons_of_mem _ hw)
  have hown : s.vm.findClass RX2 = some m.cls := findClass_of_methodNamed B.named
  have hlocks := B.notSynchronized
  have hS : va_S (FA bs) s.heap s.heap [] := va_S.rf
  have Gc : Gx p s m [.ref (bs + 16), .int x1, .int x2, .int x3, .int x4].toArray meth c cX2_addJoint 5 RX2 bs D y none 44 := ⟨hx, hb, hml, hown, hts, hK, hN, hL, hr, hlocks, hcb⟩
  have hl := lv_entry [.ref (bs + 16), .int x1, .int x2, .int x3, .int x4] (n := 5) (Nat.le_of_ble_eq_true rfl)
  rw [lg_entry_eq]
  generalize (lg_sl [.ref (bs + 16), .int x1, .int x2, .int x3, .int x4] ++ List.replicate (5 - (lg_sl [.ref (bs + 16), .int x1, .int x2, .int x3, .int x4]).length) Slot.unset).toArray = ls at hl ⊢
  have hl : lv_has ls 5 [(0, .ref (bs + 16)), (1, .int x1), (2, .int x2), (3, .int x3), (4, .int x4)] := hl
  change W p l e (rmm 0 0) s m [.ref (bs + 16), .int x1, .int x2, .int x3, .int x4].toArray below meth c s.heap [] 0 0 (QV below [.ref (bs + 16), .int x1, .int x2, .int x3, .int x4].toArray s bs D y r) (F0 m 0 ls [])
  unfold fX2_addJoint at h
  refine lv_aload_n hx hb dX2_addJoint_0 rfl (lv_at hl 0 rfl) ?_
  refine g_R (C := RX2) (T := TX2) (N := 10) (ci := 2) 16 5 19 hx hb hts hown hK hP in_X2 rfl hcb okF_16_5 rfc_16_5 fl_20 dX2_addJoint_1 ?_
  refine lv_aload_n hx hb dX2_addJoint_4 rfl (lv_at hl 0 rfl) ?_
  refine g_I (C := RX2) (T := TX2) (N := 10) (ci := 2) 16 2 hx hb hts hown hK hP in_X2 rfl hcb okF_16_2 fl_21 dX2_addJoint_5 ?_
  refine lv_iload_n hx hb dX2_addJoint_8 rfl (lv_at hl 1 rfl) ?_
  obtain ⟨hi9, h⟩ := if_s1 h
  obtain ⟨I9, eI9, h⟩ := lt_s1 h
  refine t_I 19 eI9 hx hb hK hP hS hcb aln_19 hi9 dX2_addJoint_9 (fun H locs hP hS => ?_)
  refine lv_aload_n hx hb dX2_addJoint_10 rfl (lv_at hl 0 rfl) ?_
  refine g_R (C := RX2) (T := TX2) (N := 10) (ci := 2) 16 6 20 hx hb hts hown hK hP in_X2 rfl hcb okF_16_6 rfc_16_6 fl_22 dX2_addJoint_11 ?_
  refine lv_aload_n hx hb dX2_addJoint_14 rfl (lv_at hl 0 rfl) ?_
  refine g_I (C := RX2) (T := TX2) (N := 10) (ci := 2) 16 2 hx hb hts hown hK hP in_X2 rfl hcb okF_16_2 fl_21 dX2_addJoint_15 ?_
  refine lv_iload_n hx hb dX2_addJoint_18 rfl (lv_at hl 2 rfl) ?_
  obtain ⟨hi19, h⟩ := if_s1 h
  obtain ⟨I19, eI19, h⟩ := lt_s1 h
  refine t_I 20 eI19 hx hb hK hP hS hcb aln_20 hi19 dX2_addJoint_19 (fun H locs hP hS => ?_)
  refine lv_aload_n hx hb dX2_addJoint_20 rfl (lv_at hl 0 rfl) ?_
  refine g_R (C := RX2) (T := TX2) (N := 10) (ci := 2) 16 7 21 hx hb hts hown hK hP in_X2 rfl hcb okF_16_7 rfc_16_7 fl_23 dX2_addJoint_21 ?_
  refine lv_iload_n hx hb dX2_addJoint_24 rfl (lv_at hl 1 rfl) ?_
  refine lv_iconst (v := (4 : Int32)) hx hb dX2_addJoint_25 (by decide) ?_
  refine lv_imul hx hb dX2_addJoint_26 ?_
  refine lv_iload_n hx hb dX2_addJoint_27 rfl (lv_at hl 3 rfl) ?_
  refine lv_iadd hx hb dX2_addJoint_28 ?_
  refine lv_aload_n hx hb dX2_addJoint_29 rfl (lv_at hl 0 rfl) ?_
  refine g_I (C := RX2) (T := TX2) (N := 10) (ci := 2) 16 2 hx hb hts hown hK hP in_X2 rfl hcb okF_16_2 fl_21 dX2_addJoint_30 ?_
  obtain ⟨hi33, h⟩ := if_s1 h
  obtain ⟨I33, eI33, h⟩ := lt_s1 h
  refine t_I 21 eI33 hx hb hK hP hS hcb aln_21 hi33 dX2_addJoint_33 (fun H locs hP hS => ?_)
  refine lv_aload_n hx hb dX2_addJoint_34 rfl (lv_at hl 0 rfl) ?_
  refine g_R (C := RX2) (T := TX2) (N := 10) (ci := 2) 16 7 21 hx hb hts hown hK hP in_X2 rfl hcb okF_16_7 rfc_16_7 fl_23 dX2_addJoint_35 ?_
  refine lv_iload_n hx hb dX2_addJoint_38 rfl (lv_at hl 2 rfl) ?_
  refine lv_iconst (v := (4 : Int32)) hx hb dX2_addJoint_39 (by decide) ?_
  refine lv_imul hx hb dX2_addJoint_40 ?_
  refine lv_iload hx hb dX2_addJoint_41 (lv_at hl 4 rfl) ?_
  refine lv_iadd hx hb dX2_addJoint_43 ?_
  refine lv_aload_n hx hb dX2_addJoint_44 rfl (lv_at hl 0 rfl) ?_
  refine g_I (C := RX2) (T := TX2) (N := 10) (ci := 2) 16 2 hx hb hts hown hK hP in_X2 rfl hcb okF_16_2 fl_21 dX2_addJoint_45 ?_
  obtain ⟨hi48, h⟩ := if_s1 h
  obtain ⟨I48, eI48, h⟩ := lt_s1 h
  refine t_I 21 eI48 hx hb hK hP hS hcb aln_21 hi48 dX2_addJoint_48 (fun H locs hP hS => ?_)
  refine lv_aload_n hx hb dX2_addJoint_49 rfl (lv_at hl 0 rfl) ?_
  refine lv_dup hx hb dX2_addJoint_50 rfl ?_
  refine g_I (C := RX2) (T := TX2) (N := 10) (ci := 2) 16 2 hx hb hts hown hK hP in_X2 rfl hcb okF_16_2 fl_21 dX2_addJoint_51 ?_
  refine lv_iconst (v := (1 : Int32)) hx hb dX2_addJoint_54 (by decide) ?_
  refine lv_iadd hx hb dX2_addJoint_55 ?_
  obtain ⟨I56, eI56, h⟩ := lt_s1 h
  refine s_I (C := RX2) (T := TX2) (N := 10) (ci := 2) (ty := .int) 16 2 eI56 tyX2 hx hb hts hown hK hP hS in_X2 tyX2_ok nmX2 rfl hcb okF_16_2 fl_21 rfl (by decide +kernel) rfl rfl dX2_addJoint_56 (fun H locs hP hS => ?_)
  exact r_V hx hb hr hlocks hP hK hN hL hS h dX2_addJoint_59
theorem dX2_shape_0 : decode cX2_shape 0 = .ok (.aload_n 0, 1) := by decide +kernel
theorem dX2_shape_1 : decode cX2_shape 1 = .ok (.iload_n 3, 1) := by decide +kernel
theorem dX2_shape_2 : decode cX2_shape 2 = .ok (.putfield 27, 3) := by decide +kernel
theorem dX2_shape_5 : decode cX2_shape 5 = .ok (.aload_n 0, 1) := by decide +kernel
theorem dX2_shape_6 : decode cX2_shape 6 = .ok (.iload 4, 2) := by decide +kernel
theorem dX2_shape_8 : decode cX2_shape 8 = .ok (.putfield 31, 3) := by decide +kernel
theorem dX2_shape_11 : decode cX2_shape 11 = .ok (.aload_n 0, 1) := by decide +kernel
theorem dX2_shape_12 : decode cX2_shape 12 = .ok (.iload_n 1, 1) := by decide +kernel
theorem dX2_shape_13 : decode cX2_shape 13 = .ok (.iload_n 2, 1) := by decide +kernel
theorem dX2_shape_14 : decode cX2_shape 14 = .ok (.imul, 1) := by decide +kernel
theorem dX2_shape_15 : decode cX2_shape 15 = .ok (.putfield 34, 3) := by decide +kernel
theorem dX2_shape_18 : decode cX2_shape 18 = .ok (.aload_n 0, 1) := by decide +kernel
theorem dX2_shape_19 : decode cX2_shape 19 = .ok (.iconst 0, 1) := by decide +kernel
theorem dX2_shape_20 : decode cX2_shape 20 = .ok (.putfield 37, 3) := by decide +kernel
theorem dX2_shape_23 : decode cX2_shape 23 = .ok (.aload_n 0, 1) := by decide +kernel
theorem dX2_shape_24 : decode cX2_shape 24 = .ok (.lconst 0, 1) := by decide +kernel
theorem dX2_shape_25 : decode cX2_shape 25 = .ok (.putfield 40, 3) := by decide +kernel
theorem dX2_shape_28 : decode cX2_shape 28 = .ok (.aload_n 0, 1) := by decide +kernel
theorem dX2_shape_29 : decode cX2_shape 29 = .ok (.getfield 24, 3) := by decide +kernel
theorem dX2_shape_32 : decode cX2_shape 32 = .ok (.iconst (-1), 1) := by decide +kernel
theorem dX2_shape_33 : decode cX2_shape 33 = .ok (.invokestatic 44, 3) := by decide +kernel
theorem dX2_shape_36 : decode cX2_shape 36 = .ok (.iconst 0, 1) := by decide +kernel
theorem dX2_shape_37 : decode cX2_shape 37 = .ok (.istore 5, 2) := by decide +kernel
theorem dX2_shape_39 : decode cX2_shape 39 = .ok (.iload 5, 2) := by decide +kernel
theorem dX2_shape_41 : decode cX2_shape 41 = .ok (.aload_n 0, 1) := by decide +kernel
theorem dX2_shape_42 : decode cX2_shape 42 = .ok (.getfield 34, 3) := by decide +kernel
theorem dX2_shape_45 : decode cX2_shape 45 = .ok (.if_icmp .ge 104, 3) := by decide +kernel
theorem dX2_shape_48 : decode cX2_shape 48 = .ok (.iload 5, 2) := by decide +kernel
theorem dX2_shape_50 : decode cX2_shape 50 = .ok (.ifCond .le 22, 3) := by decide +kernel
theorem dX2_shape_53 : decode cX2_shape 53 = .ok (.aload_n 0, 1) := by decide +kernel
theorem dX2_shape_54 : decode cX2_shape 54 = .ok (.getfield 9, 3) := by decide +kernel
theorem dX2_shape_57 : decode cX2_shape 57 = .ok (.iload 5, 2) := by decide +kernel
theorem dX2_shape_59 : decode cX2_shape 59 = .ok (.iconst 1, 1) := by decide +kernel
theorem dX2_shape_60 : decode cX2_shape 60 = .ok (.isub, 1) := by decide +kernel
theorem dX2_shape_61 : decode cX2_shape 61 = .ok (.iaload, 1) := by decide +kernel
theorem dX2_shape_62 : decode cX2_shape 62 = .ok (.iload_n 1, 1) := by decide +kernel
theorem dX2_shape_63 : decode cX2_shape 63 = .ok (.iconst 1, 1) := by decide +kernel
theorem dX2_shape_64 : decode cX2_shape 64 = .ok (.isub, 1) := by decide +kernel
theorem dX2_shape_65 : decode cX2_shape 65 = .ok (.if_icmp .ne 7, 3) := by decide +kernel
theorem dX2_shape_68 : decode cX2_shape 68 = .ok (.iconst 1, 1) := by decide +kernel
theorem dX2_shape_69 : decode cX2_shape 69 = .ok (.goto 4, 3) := by decide +kernel
theorem dX2_shape_72 : decode cX2_shape 72 = .ok (.iconst 0, 1) := by decide +kernel
theorem dX2_shape_73 : decode cX2_shape 73 = .ok (.istore 6, 2) := by decide +kernel
theorem dX2_shape_75 : decode cX2_shape 75 = .ok (.aload_n 0, 1) := by decide +kernel
theorem dX2_shape_76 : decode cX2_shape 76 = .ok (.getfield 9, 3) := by decide +kernel
theorem dX2_shape_79 : decode cX2_shape 79 = .ok (.iload 5, 2) := by decide +kernel
theorem dX2_shape_81 : decode cX2_shape 81 = .ok (.iload 5, 2) := by decide +kernel
theorem dX2_shape_83 : decode cX2_shape 83 = .ok (.ifCond .eq 8, 3) := by decide +kernel
theorem dX2_shape_86 : decode cX2_shape 86 = .ok (.iload 6, 2) := by decide +kernel
theorem dX2_shape_88 : decode cX2_shape 88 = .ok (.ifCond .eq 7, 3) := by decide +kernel
theorem dX2_shape_91 : decode cX2_shape 91 = .ok (.iconst 0, 1) := by decide +kernel
theorem dX2_shape_92 : decode cX2_shape 92 = .ok (.goto 14, 3) := by decide +kernel
theorem dX2_shape_95 : decode cX2_shape 95 = .ok (.aload_n 0, 1) := by decide +kernel
theorem dX2_shape_96 : decode cX2_shape 96 = .ok (.getfield 9, 3) := by decide +kernel
theorem dX2_shape_99 : decode cX2_shape 99 = .ok (.iload 5, 2) := by decide +kernel
theorem dX2_shape_101 : decode cX2_shape 101 = .ok (.iconst 1, 1) := by decide +kernel
theorem dX2_shape_102 : decode cX2_shape 102 = .ok (.isub, 1) := by decide +kernel
theorem dX2_shape_103 : decode cX2_shape 103 = .ok (.iaload, 1) := by decide +kernel
theorem dX2_shape_104 : decode cX2_shape 104 = .ok (.iconst 1, 1) := by decide +kernel
theorem dX2_shape_105 : decode cX2_shape 105 = .ok (.iadd, 1) := by decide +kernel
theorem dX2_shape_106 : decode cX2_shape 106 = .ok (.iastore, 1) := by decide +kernel
theorem dX2_shape_107 : decode cX2_shape 107 = .ok (.aload_n 0, 1) := by decide +kernel
theorem dX2_shape_108 : decode cX2_shape 108 = .ok (.getfield 15, 3) := by decide +kernel
theorem dX2_shape_111 : decode cX2_shape 111 = .ok (.iload 5, 2) := by decide +kernel
theorem dX2_shape_113 : decode cX2_shape 113 = .ok (.iload 5, 2) := by decide +kernel
theorem dX2_shape_115 : decode cX2_shape 115 = .ok (.ifCond .ne 7, 3) := by decide +kernel
theorem dX2_shape_118 : decode cX2_shape 118 = .ok (.iconst 0, 1) := by decide +kernel
theorem dX2_shape_119 : decode cX2_shape 119 = .ok (.goto 23, 3) := by decide +kernel
theorem dX2_shape_122 : decode cX2_shape 122 = .ok (.aload_n 0, 1) := by decide +kernel
theorem dX2_shape_123 : decode cX2_shape 123 = .ok (.getfield 15, 3) := by decide +kernel
theorem dX2_shape_126 : decode cX2_shape 126 = .ok (.iload 5, 2) := by decide +kernel
theorem dX2_shape_128 : decode cX2_shape 128 = .ok (.iconst 1, 1) := by decide +kernel
theorem dX2_shape_129 : decode cX2_shape 129 = .ok (.isub, 1) := by decide +kernel
theorem dX2_shape_130 : decode cX2_shape 130 = .ok (.iaload, 1) := by decide +kernel
theorem dX2_shape_131 : decode cX2_shape 131 = .ok (.iload 6, 2) := by decide +kernel
theorem dX2_shape_133 : decode cX2_shape 133 = .ok (.ifCond .eq 7, 3) := by decide +kernel
theorem dX2_shape_136 : decode cX2_shape 136 = .ok (.iconst 1, 1) := by decide +kernel
theorem dX2_shape_137 : decode cX2_shape 137 = .ok (.goto 4, 3) := by decide +kernel
theorem dX2_shape_140 : decode cX2_shape 140 = .ok (.iconst 0, 1) := by decide +kernel
theorem dX2_shape_141 : decode cX2_shape 141 = .ok (.iadd, 1) := by decide +kernel
theorem dX2_shape_142 : decode cX2_shape 142 = .ok (.iastore, 1) := by decide +kernel
theorem dX2_shape_143 : decode cX2_shape 143 = .ok (.iinc 5 1, 3) := by decide +kernel
theorem dX2_shape_146 : decode cX2_shape 146 = .ok (.goto (-107), 3) := by decide +kernel
theorem dX2_shape_149 : decode cX2_shape 149 = .ok (.iconst 0, 1) := by decide +kernel
theorem dX2_shape_150 : decode cX2_shape 150 = .ok (.istore 5, 2) := by decide +kernel
theorem dX2_shape_152 : decode cX2_shape 152 = .ok (.iload 5, 2) := by decide +kernel
theorem dX2_shape_154 : decode cX2_shape 154 = .ok (.aload_n 0, 1) := by decide +kernel
theorem dX2_shape_155 : decode cX2_shape 155 = .ok (.getfield 34, 3) := by decide +kernel
theorem dX2_shape_158 : decode cX2_shape 158 = .ok (.if_icmp .ge 34, 3) := by decide +kernel
theorem dX2_shape_161 : decode cX2_shape 161 = .ok (.aload_n 0, 1) := by decide +kernel
theorem dX2_shape_162 : decode cX2_shape 162 = .ok (.getfield 9, 3) := by decide +kernel
theorem dX2_shape_165 : decode cX2_shape 165 = .ok (.iload 5, 2) := by decide +kernel
theorem dX2_shape_167 : decode cX2_shape 167 = .ok (.iaload, 1) := by decide +kernel
theorem dX2_shape_168 : decode cX2_shape 168 = .ok (.iload_n 1, 1) := by decide +kernel
theorem dX2_shape_169 : decode cX2_shape 169 = .ok (.iconst 1, 1) := by decide +kernel
theorem dX2_shape_170 : decode cX2_shape 170 = .ok (.isub, 1) := by decide +kernel
theorem dX2_shape_171 : decode cX2_shape 171 = .ok (.if_icmp .ge 15, 3) := by decide +kernel
theorem dX2_shape_174 : decode cX2_shape 174 = .ok (.aload_n 0, 1) := by decide +kernel
theorem dX2_shape_175 : decode cX2_shape 175 = .ok (.iload 5, 2) := by decide +kernel
theorem dX2_shape_177 : decode cX2_shape 177 = .ok (.iload 5, 2) := by decide +kernel
theorem dX2_shape_179 : decode cX2_shape 179 = .ok (.iconst 1, 1) := by decide +kernel
theorem dX2_shape_180 : decode cX2_shape 180 = .ok (.iadd, 1) := by decide +kernel
theorem dX2_shape_181 : decode cX2_shape 181 = .ok (.iconst 2, 1) := by decide +kernel
theorem dX2_shape_182 : decode cX2_shape 182 = .ok (.iconst 1, 1) := by decide +kernel
theorem dX2_shape_183 : decode cX2_shape 183 = .ok (.invokevirtual 50, 3) := by decide +kernel
theorem dX2_shape_186 : decode cX2_shape 186 = .ok (.iinc 5 1, 3) := by decide +kernel
theorem dX2_shape_189 : decode cX2_shape 189 = .ok (.goto (-37), 3) := by decide +kernel
theorem dX2_shape_192 : decode cX2_shape 192 = .ok (.iconst 0, 1) := by decide +kernel
theorem dX2_shape_193 : decode cX2_shape 193 = .ok (.istore 5, 2) := by decide +kernel
theorem dX2_shape_195 : decode cX2_shape 195 = .ok (.iload 5, 2) := by decide +kernel
theorem dX2_shape_197 : decode cX2_shape 197 = .ok (.aload_n 0, 1) := by decide +kernel
theorem dX2_shape_198 : decode cX2_shape 198 = .ok (.getfield 34, 3) := by decide +kernel
theorem dX2_shape_201 : decode cX2_shape 201 = .ok (.iload_n 1, 1) := by decide +kernel
theorem dX2_shape_202 : decode cX2_shape 202 = .ok (.isub, 1) := by decide +kernel
theorem dX2_shape_203 : decode cX2_shape 203 = .ok (.if_icmp .ge 21, 3) := by decide +kernel
theorem dX2_shape_206 : decode cX2_shape 206 = .ok (.aload_n 0, 1) := by decide +kernel
theorem dX2_shape_207 : decode cX2_shape 207 = .ok (.iload 5, 2) := by decide +kernel
theorem dX2_shape_209 : decode cX2_shape 209 = .ok (.iload 5, 2) := by decide +kernel
theorem dX2_shape_211 : decode cX2_shape 211 = .ok (.iload_n 1, 1) := by decide +kernel
theorem dX2_shape_212 : decode cX2_shape 212 = .ok (.iadd, 1) := by decide +kernel
theorem dX2_shape_213 : decode cX2_shape 213 = .ok (.iconst 3, 1) := by decide +kernel
theorem dX2_shape_214 : decode cX2_shape 214 = .ok (.iconst 0, 1) := by decide +kernel
theorem dX2_shape_215 : decode cX2_shape 215 = .ok (.invokevirtual 50, 3) := by decide +kernel
theorem dX2_shape_218 : decode cX2_shape 218 = .ok (.iinc 5 1, 3) := by decide +kernel
theorem dX2_shape_221 : decode cX2_shape 221 = .ok (.goto (-26), 3) := by decide +kernel
theorem dX2_shape_224 : decode cX2_shape 224 = .ok (.return_, 1) := by decide +kernel
set_option maxHeartbeats 4000000 in
set_option maxRecDepth 100000 in
theorem wX2_shape_195 {p : Program} {l : Launch} {e : Env} {s : State} {m : MethodId} {args : Array Value} {below : List Frame} {meth : Method} {c : Code} (bs : Nat) (D : va_G) (y : Y3) (n : Nat) (k195_ : Int32 → Int32 → MI → MJ → Option (M2)) (r : M2) (Gc : Gx p s m args meth c cX2_shape 7 RX2 bs D y none 44) (hk195_ : ∀ (x1 : Int32) (x5 : Int32) (I : MI) (J : MJ) (H : Heap) (locs : List Loc) (ls : Array Slot), va_P D vwCl (wl bs y I J) H → va_S (FA bs) s.heap H locs → lv_has ls 7 [(0, .ref (bs + 16)), (1, .int x1), (5, .int x5)] → k195_ x1 x5 I J = some r → W p l e (rmm 1 24) s m args below meth c H locs 0 0 (QV below args s bs D y r) (F0 m 195 ls [])) (x1 : Int32) (x5 : Int32) (I : MI) (J : MJ) (H : Heap) (locs : List Loc) (ls : Array Slot) (hP : va_P D vwCl (wl bs y I J) H) (hS : va_S (FA bs) s.heap H locs) (hl : lv_has ls 7 [(0, .ref (bs + 16)), (1, .int x1), (5, .int x5)]) (h : fX2_shape_195 n k195_ x1 x5 I J = some r) : W p l e (rmm 1 24) s m args below meth c H locs 0 0 (QV below args s bs D y r) (F0 m 195 ls []) := by
  obtain ⟨hx, hb, hml, hown, hts, hK, hN, hL, hr, hlocks, hcb⟩ := id Gc
  unfold fX2_shape_195 at h
  refine lv_iload hx hb dX2_shape_195 (lv_at hl 2 rfl) ?_
  refine lv_aload_n hx hb dX2_shape_197 rfl (lv_at hl 0 rfl) ?_
  refine g_I (C := RX2) (T := TX2) (N := 10) (ci := 2) 16 1 hx hb hts hown hK hP in_X2 rfl hcb okF_16_1 fl_24 dX2_shape_198 ?_
  refine lv_iload_n hx hb dX2_shape_201 rfl (lv_at hl 1 rfl) ?_
  refine lv_isub hx hb dX2_shape_202 ?_
  refine lv_icmp_ge (tgt := 224) hx hb dX2_shape_203 (by decide) (fun c203 => ?_) (fun c203 => ?_)
  · replace h := if_t c203 h
    exact r_V hx hb hr hlocks hP hK hN hL hS h dX2_shape_224
  · replace h := if_f c203 h
    refine lv_aload_n hx hb dX2_shape_206 rfl (lv_at hl 0 rfl) ?_
    refine lv_iload hx hb dX2_shape_207 (lv_at hl 2 rfl) ?_
    refine lv_iload hx hb dX2_shape_209 (lv_at hl 2 rfl) ?_
    refine lv_iload_n hx hb dX2_shape_211 rfl (lv_at hl 1 rfl) ?_
    refine lv_iadd hx hb dX2_shape_212 ?_
    refine lv_iconst (v := (3 : Int32)) hx hb dX2_shape_213 (by decide) ?_
    refine lv_iconst (v := (0 : Int32)) hx hb dX2_shape_214 (by decide) ?_
    obtain ⟨r215, er215, h⟩ := bd_s1 h
    refine c_VV (k := 16) (ci := 2) (As := [.int x5, .int (x5 + x1), .int (3 : Int32), .int (0 : Int32)]) (rest := []) hx hb hml hown hts hK hN hL hP hS (cX2_addJoint_ l bs D y hcb n x5 (x5 + x1) (3 : Int32) (0 : Int32) I J r215 er215) ok_X2_addJoint ov_X2_addJoint ml_13 ⟨Nat.le_of_ble_eq_true rfl, Nat.le_of_ble_eq_true rfl⟩ rfl hcb kd_16 hl.1 rfl rfl (Nat.le_of_ble_eq_true rfl) ⟨Nat.zero_le _, Nat.zero_le _⟩ dX2_shape_215 (fun H locs hP hS => ?_)
    refine lv_iinc (v := (x5 + (1 : Int32))) (lv' := [(5, .int (x5 + (1 : Int32))), (0, .ref (bs + 16)), (1, .int x1)]) hx hb dX2_shape_218 hl (k := 2) rfl rfl (by decide) rfl (fun ls hl => ?_)
    refine lv_goto (tgt := 195) hx hb dX2_shape_221 (by decide) ?_
    exact hk195_ x1 (x5 + (1 : Int32)) r215.1 r215.2 _ _ _ hP hS (lv_sub hl [1, 2, 0] rfl) h
theorem vX2_shape_195 {p : Program} {l : Launch} {e : Env} {s : State} {m : MethodId} {args : Array Value} {below : List Frame} {meth : Method} {c : Code} (bs : Nat) (D : va_G) (y : Y3) (n : Nat) (r : M2) (Gc : Gx p s m args meth c cX2_shape 7 RX2 bs D y none 44)  : ∀ (q : Nat) (x1 : Int32) (x5 : Int32) (I : MI) (J : MJ) (H : Heap) (locs : List Loc) (ls : Array Slot), va_P D vwCl (wl bs y I J) H → va_S (FA bs) s.heap H locs → lv_has ls 7 [(0, .ref (bs + 16)), (1, .int x1), (5, .int x5)] → lX2_shape_195 n  q x1 x5 I J = some r → W p l e (rmm 1 24) s m args below meth c H locs 0 0 (QV below args s bs D y r) (F0 m 195 ls []) := by
  intro q
  induction q with
  | zero =>
    intro x1 x5 I J H locs ls hP hS hl h
    have h : (none : Option (M2)) = some r := h
    cases h
  | succ q ih =>
    intro x1 x5 I J H locs ls hP hS hl h
    have h : fX2_shape_195 n  (lX2_shape_195 n  q) x1 x5 I J = some r := h
    exact wX2_shape_195 bs D y n  (lX2_shape_195 n  q) r Gc  ih x1 x5 I J H locs ls hP hS hl h
set_option maxHeartbeats 4000000 in
set_option maxRecDepth 100000 in
theorem wX2_shape_186 {p : Program} {l : Launch} {e : Env} {s : State} {m : MethodId} {args : Array Value} {below : List Frame} {meth : Method} {c : Code} (bs : Nat) (D : va_G) (y : Y3) (n : Nat) (k152_ : Int32 → Int32 → MI → MJ → Option (M2)) (r : M2) (Gc : Gx p s m args meth c cX2_shape 7 RX2 bs D y none 44) (hk152_ : ∀ (x1 : Int32) (x5 : Int32) (I : MI) (J : MJ) (H : Heap) (locs : List Loc) (ls : Array Slot), va_P D vwCl (wl bs y I J) H → va_S (FA bs) s.heap H locs → lv_has ls 7 [(0, .ref (bs + 16)), (1, .int x1), (5, .int x5)] → k152_ x1 x5 I J = some r → W p l e (rmm 1 24) s m args below meth c H locs 0 0 (QV below args s bs D y r) (F0 m 152 ls [])) (x1 : Int32) (x5 : Int32) (I : MI) (J : MJ) (H : Heap) (locs : List Loc) (ls : Array Slot) (hP : va_P D vwCl (wl bs y I J) H) (hS : va_S (FA bs) s.heap H locs) (hl : lv_has ls 7 [(0, .ref (bs + 16)), (1, .int x1), (5, .int x5)]) (h : fX2_shape_186 n k152_ x1 x5 I J = some r) : W p l e (rmm 1 24) s m args below meth c H locs 0 0 (QV below args s bs D y r) (F0 m 186 ls []) := by
  obtain ⟨hx, hb, hml, hown, hts, hK, hN, hL, hr, hlocks, hcb⟩ := id Gc
  unfold fX2_shape_186 at h
  refine lv_iinc (v := (x5 + (1 : Int32))) (lv' := [(5, .int (x5 + (1 : Int32))), (0, .ref (bs + 16)), (1, .int x1)]) hx hb dX2_shape_186 hl (k := 2) rfl rfl (by decide) rfl (fun ls hl => ?_)
  refine lv_goto (tgt := 152) hx hb dX2_shape_189 (by decide) ?_
  exact hk152_ x1 (x5 + (1 : Int32)) I J _ _ _ hP hS (lv_sub hl [1, 2, 0] rfl) h
set_option maxHeartbeats 4000000 in
set_option maxRecDepth 100000 in
theorem wX2_shape_152 {p : Program} {l : Launch} {e : Env} {s : State} {m : MethodId} {args : Array Value} {below : List Frame} {meth : Method} {c : Code} (bs : Nat) (D : va_G) (y : Y3) (n : Nat) (k152_ : Int32 → Int32 → MI → MJ → Option (M2)) (r : M2) (Gc : Gx p s m args meth c cX2_shape 7 RX2 bs D y none 44) (hk152_ : ∀ (x1 : Int32) (x5 : Int32) (I : MI) (J : MJ) (H : Heap) (locs : List Loc) (ls : Array Slot), va_P D vwCl (wl bs y I J) H → va_S (FA bs) s.heap H locs → lv_has ls 7 [(0, .ref (bs + 16)), (1, .int x1), (5, .int x5)] → k152_ x1 x5 I J = some r → W p l e (rmm 1 24) s m args below meth c H locs 0 0 (QV below args s bs D y r) (F0 m 152 ls [])) (x1 : Int32) (x5 : Int32) (I : MI) (J : MJ) (H : Heap) (locs : List Loc) (ls : Array Slot) (hP : va_P D vwCl (wl bs y I J) H) (hS : va_S (FA bs) s.heap H locs) (hl : lv_has ls 7 [(0, .ref (bs + 16)), (1, .int x1), (5, .int x5)]) (h : fX2_shape_152 n k152_ x1 x5 I J = some r) : W p l e (rmm 1 24) s m args below meth c H locs 0 0 (QV below args s bs D y r) (F0 m 152 ls []) := by
  obtain ⟨hx, hb, hml, hown, hts, hK, hN, hL, hr, hlocks, hcb⟩ := id Gc
  unfold fX2_shape_152 at h
  refine lv_iload hx hb dX2_shape_152 (lv_at hl 2 rfl) ?_
  refine lv_aload_n hx hb dX2_shape_154 rfl (lv_at hl 0 rfl) ?_
  refine g_I (C := RX2) (T := TX2) (N := 10) (ci := 2) 16 1 hx hb hts hown hK hP in_X2 rfl hcb okF_16_1 fl_24 dX2_shape_155 ?_
  refine lv_icmp_ge (tgt := 192) hx hb dX2_shape_158 (by decide) (fun c158 => ?_) (fun c158 => ?_)
  · replace h := if_t c158 h
    refine lv_iconst (v := (0 : Int32)) hx hb dX2_shape_192 (by decide) ?_
    refine lv_istore (lv' := [(5, .int (0 : Int32)), (0, .ref (bs + 16)), (1, .int x1)]) hx hb dX2_shape_193 hl (by decide) rfl (fun ls hl => ?_)
    exact vX2_shape_195 bs D y n  r Gc  n x1 (0 : Int32) I J _ _ _ hP hS (lv_sub hl [1, 2, 0] rfl) h
  · replace h := if_f c158 h
    refine lv_aload_n hx hb dX2_shape_161 rfl (lv_at hl 0 rfl) ?_
    refine g_R (C := RX2) (T := TX2) (N := 10) (ci := 2) 16 3 17 hx hb hts hown hK hP in_X2 rfl hcb okF_16_3 rfc_16_3 fl_25 dX2_shape_162 ?_
    refine lv_iload hx hb dX2_shape_165 (lv_at hl 2 rfl) ?_
    obtain ⟨hi167, h⟩ := if_s1 h
    refine a_I 17 hx hb hK hP hcb aln_17 hi167 dX2_shape_167 ?_
    refine lv_iload_n hx hb dX2_shape_168 rfl (lv_at hl 1 rfl) ?_
    refine lv_iconst (v := (1 : Int32)) hx hb dX2_shape_169 (by decide) ?_
    refine lv_isub hx hb dX2_shape_170 ?_
    refine lv_icmp_ge (tgt := 186) hx hb dX2_shape_171 (by decide) (fun c171 => ?_) (fun c171 => ?_)
    · replace h := if_t c171 h
      exact wX2_shape_186 bs D y n k152_ r Gc hk152_ x1 x5 I J _ _ _ hP hS (lv_sub hl [0, 1, 2] rfl) h
    · replace h := if_f c171 h
      refine lv_aload_n hx hb dX2_shape_174 rfl (lv_at hl 0 rfl) ?_
      refine lv_iload hx hb dX2_shape_175 (lv_at hl 2 rfl) ?_
      refine lv_iload hx hb dX2_shape_177 (lv_at hl 2 rfl) ?_
      refine lv_iconst (v := (1 : Int32)) hx hb dX2_shape_179 (by decide) ?_
      refine lv_iadd hx hb dX2_shape_180 ?_
      refine lv_iconst (v := (2 : Int32)) hx hb dX2_shape_181 (by decide) ?_
      refine lv_iconst (v := (1 : Int32)) hx hb dX2_shape_182 (by decide) ?_
      obtain ⟨r183, er183, h⟩ := bd_s1 h
      refine c_VV (k := 16) (ci := 2) (As := [.int x5, .int (x5 + (1 : Int32)), .int (2 : Int32), .int (1 : Int32)]) (rest := []) hx hb hml hown hts hK hN hL hP hS (cX2_addJoint_ l bs D y hcb n x5 (x5 + (1 : Int32)) (2 : Int32) (1 : Int32) I J r183 er183) ok_X2_addJoint ov_X2_addJoint ml_13 ⟨Nat.le_of_ble_eq_true rfl, Nat.le_of_ble_eq_true rfl⟩ rfl hcb kd_16 hl.1 rfl rfl (Nat.le_of_ble_eq_true rfl) ⟨Nat.zero_le _, Nat.zero_le _⟩ dX2_shape_183 (fun H locs hP hS => ?_)
      exact wX2_shape_186 bs D y n k152_ r Gc hk152_ x1 x5 r183.1 r183.2 _ _ _ hP hS (lv_sub hl [0, 1, 2] rfl) h
theorem vX2_shape_152 {p : Program} {l : Launch} {e : Env} {s : State} {m : MethodId} {args : Array Value} {below : List Frame} {meth : Method} {c : Code} (bs : Nat) (D : va_G) (y : Y3) (n : Nat) (r : M2) (Gc : Gx p s m args meth c cX2_shape 7 RX2 bs D y none 44)  : ∀ (q : Nat) (x1 : Int32) (x5 : Int32) (I : MI) (J : MJ) (H : Heap) (locs : List Loc) (ls : Array Slot), va_P D vwCl (wl bs y I J) H → va_S (FA bs) s.heap H locs → lv_has ls 7 [(0, .ref (bs + 16)), (1, .int x1), (5, .int x5)] → lX2_shape_152 n  q x1 x5 I J = some r → W p l e (rmm 1 24) s m args below meth c H locs 0 0 (QV below args s bs D y r) (F0 m 152 ls []) := by
  intro q
  induction q with
  | zero =>
    intro x1 x5 I J H locs ls hP hS hl h
    have h : (none : Option (M2)) = some r := h
    cases h
  | succ q ih =>
    intro x1 x5 I J H locs ls hP hS hl h
    have h : fX2_shape_152 n  (lX2_shape_152 n  q) x1 x5 I J = some r := h
    exact wX2_shape_152 bs D y n  (lX2_shape_152 n  q) r Gc  ih x1 x5 I J H locs ls hP hS hl h
set_option maxHeartbeats 4000000 in
set_option maxRecDepth 100000 in
theorem wX2_shape_142 {p : Program} {l : Launch} {e : Env} {s : State} {m : MethodId} {args : Array Value} {below : List Frame} {meth : Method} {c : Code} (bs : Nat) (D : va_G) (y : Y3) (n : Nat) (k39_ : Int32 → Int32 → MI → MJ → Option (M2)) (r : M2) (Gc : Gx p s m args meth c cX2_shape 7 RX2 bs D y none 44) (hk39_ : ∀ (x1 : Int32) (x5 : Int32) (I : MI) (J : MJ) (H : Heap) (locs : List Loc) (ls : Array Slot), va_P D vwCl (wl bs y I J) H → va_S (FA bs) s.heap H locs → lv_has ls 7 [(0, .ref (bs + 16)), (1, .int x1), (5, .int x5)] → k39_ x1 x5 I J = some r → W p l e (rmm 1 24) s m args below meth c H locs 0 0 (QV below args s bs D y r) (F0 m 39 ls [])) (x1 : Int32) (x5 : Int32) (s1 : Int32) (s2 : Int32) (I : MI) (J : MJ) (H : Heap) (locs : List Loc) (ls : Array Slot) (hP : va_P D vwCl (wl bs y I J) H) (hS : va_S (FA bs) s.heap H locs) (hl : lv_has ls 7 [(0, .ref (bs + 16)), (1, .int x1), (5, .int x5)]) (h : fX2_shape_142 n k39_ x1 x5 s1 s2 I J = some r) : W p l e (rmm 1 24) s m args below meth c H locs 0 0 (QV below args s bs D y r) (F0 m 142 ls [.int s2, .int s1, .ref (bs + 18)]) := by
  obtain ⟨hx, hb, hml, hown, hts, hK, hN, hL, hr, hlocks, hcb⟩ := id Gc
  unfold fX2_shape_142 at h
  obtain ⟨hi142, h⟩ := if_s1 h
  obtain ⟨I142, eI142, h⟩ := lt_s1 h
  refine t_I 18 eI142 hx hb hK hP hS hcb aln_18 hi142 dX2_shape_142 (fun H locs hP hS => ?_)
  refine lv_iinc (v := (x5 + (1 : Int32))) (lv' := [(5, .int (x5 + (1 : Int32))), (0, .ref (bs + 16)), (1, .int x1)]) hx hb dX2_shape_143 hl (k := 2) rfl rfl (by decide) rfl (fun ls hl => ?_)
  refine lv_goto (tgt := 39) hx hb dX2_shape_146 (by decide) ?_
  exact hk39_ x1 (x5 + (1 : Int32)) I142 J _ _ _ hP hS (lv_sub hl [1, 2, 0] rfl) h
set_option maxHeartbeats 4000000 in
set_option maxRecDepth 100000 in
theorem wX2_shape_141 {p : Program} {l : Launch} {e : Env} {s : State} {m : MethodId} {args : Array Value} {below : List Frame} {meth : Method} {c : Code} (bs : Nat) (D : va_G) (y : Y3) (n : Nat) (k39_ : Int32 → Int32 → MI → MJ → Option (M2)) (r : M2) (Gc : Gx p s m args meth c cX2_shape 7 RX2 bs D y none 44) (hk39_ : ∀ (x1 : Int32) (x5 : Int32) (I : MI) (J : MJ) (H : Heap) (locs : List Loc) (ls : Array Slot), va_P D vwCl (wl bs y I J) H → va_S (FA bs) s.heap H locs → lv_has ls 7 [(0, .ref (bs + 16)), (1, .int x1), (5, .int x5)] → k39_ x1 x5 I J = some r → W p l e (rmm 1 24) s m args below meth c H locs 0 0 (QV below args s bs D y r) (F0 m 39 ls [])) (x1 : Int32) (x5 : Int32) (s1 : Int32) (s2 : Int32) (s3 : Int32) (I : MI) (J : MJ) (H : Heap) (locs : List Loc) (ls : Array Slot) (hP : va_P D vwCl (wl bs y I J) H) (hS : va_S (FA bs) s.heap H locs) (hl : lv_has ls 7 [(0, .ref (bs + 16)), (1, .int x1), (5, .int x5)]) (h : fX2_shape_141 n k39_ x1 x5 s1 s2 s3 I J = some r) : W p l e (rmm 1 24) s m args below meth c H locs 0 0 (QV below args s bs D y r) (F0 m 141 ls [.int s3, .int s2, .int s1, .ref (bs + 18)]) := by
  obtain ⟨hx, hb, hml, hown, hts, hK, hN, hL, hr, hlocks, hcb⟩ := id Gc
  unfold fX2_shape_141 at h
  refine lv_iadd hx hb dX2_shape_141 ?_
  exact wX2_shape_142 bs D y n k39_ r Gc hk39_ x1 x5 s1 (s2 + s3) I J _ _ _ hP hS (lv_sub hl [0, 1, 2] rfl) h
set_option maxHeartbeats 4000000 in
set_option maxRecDepth 100000 in
theorem wX2_shape_106 {p : Program} {l : Launch} {e : Env} {s : State} {m : MethodId} {args : Array Value} {below : List Frame} {meth : Method} {c : Code} (bs : Nat) (D : va_G) (y : Y3) (n : Nat) (k39_ : Int32 → Int32 → MI → MJ → Option (M2)) (r : M2) (Gc : Gx p s m args meth c cX2_shape 7 RX2 bs D y none 44) (hk39_ : ∀ (x1 : Int32) (x5 : Int32) (I : MI) (J : MJ) (H : Heap) (locs : List Loc) (ls : Array Slot), va_P D vwCl (wl bs y I J) H → va_S (FA bs) s.heap H locs → lv_has ls 7 [(0, .ref (bs + 16)), (1, .int x1), (5, .int x5)] → k39_ x1 x5 I J = some r → W p l e (rmm 1 24) s m args below meth c H locs 0 0 (QV below args s bs D y r) (F0 m 39 ls [])) (x1 : Int32) (x5 : Int32) (x6 : Int32) (s1 : Int32) (s2 : Int32) (I : MI) (J : MJ) (H : Heap) (locs : List Loc) (ls : Array Slot) (hP : va_P D vwCl (wl bs y I J) H) (hS : va_S (FA bs) s.heap H locs) (hl : lv_has ls 7 [(0, .ref (bs + 16)), (1, .int x1), (5, .int x5), (6, .int x6)]) (h : fX2_shape_106 n k39_ x1 x5 x6 s1 s2 I J = some r) : W p l e (rmm 1 24) s m args below meth c H locs 0 0 (QV below args s bs D y r) (F0 m 106 ls [.int s2, .int s1, .ref (bs + 17)]) := by
  obtain ⟨hx, hb, hml, hown, hts, hK, hN, hL, hr, hlocks, hcb⟩ := id Gc
  unfold fX2_shape_106 at h
  obtain ⟨hi106, h⟩ := if_s1 h
  obtain ⟨I106, eI106, h⟩ := lt_s1 h
  refine t_I 17 eI106 hx hb hK hP hS hcb aln_17 hi106 dX2_shape_106 (fun H locs hP hS => ?_)
  refine lv_aload_n hx hb dX2_shape_107 rfl (lv_at hl 0 rfl) ?_
  refine g_R (C := RX2) (T := TX2) (N := 10) (ci := 2) 16 4 18 hx hb hts hown hK hP in_X2 rfl hcb okF_16_4 rfc_16_4 fl_26 dX2_shape_108 ?_
  refine lv_iload hx hb dX2_shape_111 (lv_at hl 2 rfl) ?_
  refine lv_iload hx hb dX2_shape_113 (lv_at hl 2 rfl) ?_
  refine lv_if_ne (tgt := 122) hx hb dX2_shape_115 (by decide) (fun c115 => ?_) (fun c115 => ?_)
  · replace h := if_f c115 h
    refine lv_aload_n hx hb dX2_shape_122 rfl (lv_at hl 0 rfl) ?_
    refine g_R (C := RX2) (T := TX2) (N := 10) (ci := 2) 16 4 18 hx hb hts hown hK hP in_X2 rfl hcb okF_16_4 rfc_16_4 fl_26 dX2_shape_123 ?_
    refine lv_iload hx hb dX2_shape_126 (lv_at hl 2 rfl) ?_
    refine lv_iconst (v := (1 : Int32)) hx hb dX2_shape_128 (by decide) ?_
    refine lv_isub hx hb dX2_shape_129 ?_
    obtain ⟨hi130, h⟩ := if_s1 h
    refine a_I 18 hx hb hK hP hcb aln_18 hi130 dX2_shape_130 ?_
    refine lv_iload hx hb dX2_shape_131 (lv_at hl 3 rfl) ?_
    refine lv_if_eq (tgt := 140) hx hb dX2_shape_133 (by decide) (fun c133 => ?_) (fun c133 => ?_)
    · replace h := if_t c133 h
      refine lv_iconst (v := (0 : Int32)) hx hb dX2_shape_140 (by decide) ?_
      exact wX2_shape_141 bs D y n k39_ r Gc hk39_ x1 x5 x5 (I106 18 ((x5 - (1 : Int32))).toNatClampNeg) (0 : Int32) I106 J _ _ _ hP hS (lv_sub hl [0, 1, 2] rfl) h
    · replace h := if_f c133 h
      refine lv_iconst (v := (1 : Int32)) hx hb dX2_shape_136 (by decide) ?_
      refine lv_goto (tgt := 141) hx hb dX2_shape_137 (by decide) ?_
      exact wX2_shape_141 bs D y n k39_ r Gc hk39_ x1 x5 x5 (I106 18 ((x5 - (1 : Int32))).toNatClampNeg) (1 : Int32) I106 J _ _ _ hP hS (lv_sub hl [0, 1, 2] rfl) h
  · replace h := if_t c115 h
    refine lv_iconst (v := (0 : Int32)) hx hb dX2_shape_118 (by decide) ?_
    refine lv_goto (tgt := 142) hx hb dX2_shape_119 (by decide) ?_
    exact wX2_shape_142 bs D y n k39_ r Gc hk39_ x1 x5 x5 (0 : Int32) I106 J _ _ _ hP hS (lv_sub hl [0, 1, 2] rfl) h
set_option maxHeartbeats 4000000 in
set_option maxRecDepth 100000 in
theorem wX2_shape_91 {p : Program} {l : Launch} {e : Env} {s : State} {m : MethodId} {args : Array Value} {below : List Frame} {meth : Method} {c : Code} (bs : Nat) (D : va_G) (y : Y3) (n : Nat) (k39_ : Int32 → Int32 → MI → MJ → Option (M2)) (r : M2) (Gc : Gx p s m args meth c cX2_shape 7 RX2 bs D y none 44) (hk39_ : ∀ (x1 : Int32) (x5 : Int32) (I : MI) (J : MJ) (H : Heap) (locs : List Loc) (ls : Array Slot), va_P D vwCl (wl bs y I J) H → va_S (FA bs) s.heap H locs → lv_has ls 7 [(0, .ref (bs + 16)), (1, .int x1), (5, .int x5)] → k39_ x1 x5 I J = some r → W p l e (rmm 1 24) s m args below meth c H locs 0 0 (QV below args s bs D y r) (F0 m 39 ls [])) (x1 : Int32) (x5 : Int32) (x6 : Int32) (s1 : Int32) (I : MI) (J : MJ) (H : Heap) (locs : List Loc) (ls : Array Slot) (hP : va_P D vwCl (wl bs y I J) H) (hS : va_S (FA bs) s.heap H locs) (hl : lv_has ls 7 [(0, .ref (bs + 16)), (1, .int x1), (5, .int x5), (6, .int x6)]) (h : fX2_shape_91 n k39_ x1 x5 x6 s1 I J = some r) : W p l e (rmm 1 24) s m args below meth c H locs 0 0 (QV below args s bs D y r) (F0 m 91 ls [.int s1, .ref (bs + 17)]) := by
  obtain ⟨hx, hb, hml, hown, hts, hK, hN, hL, hr, hlocks, hcb⟩ := id Gc
  unfold fX2_shape_91 at h
  refine lv_iconst (v := (0 : Int32)) hx hb dX2_shape_91 (by decide) ?_
  refine lv_goto (tgt := 106) hx hb dX2_shape_92 (by decide) ?_
  exact wX2_shape_106 bs D y n k39_ r Gc hk39_ x1 x5 x6 s1 (0 : Int32) I J _ _ _ hP hS (lv_sub hl [0, 1, 2, 3] rfl) h
set_option maxHeartbeats 4000000 in
set_option maxRecDepth 100000 in
theorem wX2_shape_73 {p : Program} {l : Launch} {e : Env} {s : State} {m : MethodId} {args : Array Value} {below : List Frame} {meth : Method} {c : Code} (bs : Nat) (D : va_G) (y : Y3) (n : Nat) (k39_ : Int32 → Int32 → MI → MJ → Option (M2)) (r : M2) (Gc : Gx p s m args meth c cX2_shape 7 RX2 bs D y none 44) (hk39_ : ∀ (x1 : Int32) (x5 : Int32) (I : MI) (J : MJ) (H : Heap) (locs : List Loc) (ls : Array Slot), va_P D vwCl (wl bs y I J) H → va_S (FA bs) s.heap H locs → lv_has ls 7 [(0, .ref (bs + 16)), (1, .int x1), (5, .int x5)] → k39_ x1 x5 I J = some r → W p l e (rmm 1 24) s m args below meth c H locs 0 0 (QV below args s bs D y r) (F0 m 39 ls [])) (x1 : Int32) (x5 : Int32) (s0 : Int32) (I : MI) (J : MJ) (H : Heap) (locs : List Loc) (ls : Array Slot) (hP : va_P D vwCl (wl bs y I J) H) (hS : va_S (FA bs) s.heap H locs) (hl : lv_has ls 7 [(0, .ref (bs + 16)), (1, .int x1), (5, .int x5)]) (h : fX2_shape_73 n k39_ x1 x5 s0 I J = some r) : W p l e (rmm 1 24) s m args below meth c H locs 0 0 (QV below args s bs D y r) (F0 m 73 ls [.int s0]) := by
  obtain ⟨hx, hb, hml, hown, hts, hK, hN, hL, hr, hlocks, hcb⟩ := id Gc
  unfold fX2_shape_73 at h
  refine lv_istore (lv' := [(6, .int s0), (0, .ref (bs + 16)), (1, .int x1), (5, .int x5)]) hx hb dX2_shape_73 hl (by decide) rfl (fun ls hl => ?_)
  refine lv_aload_n hx hb dX2_shape_75 rfl (lv_at hl 1 rfl) ?_
  refine g_R (C := RX2) (T := TX2) (N := 10) (ci := 2) 16 3 17 hx hb hts hown hK hP in_X2 rfl hcb okF_16_3 rfc_16_3 fl_25 dX2_shape_76 ?_
  refine lv_iload hx hb dX2_shape_79 (lv_at hl 3 rfl) ?_
  refine lv_iload hx hb dX2_shape_81 (lv_at hl 3 rfl) ?_
  refine lv_if_eq (tgt := 91) hx hb dX2_shape_83 (by decide) (fun c83 => ?_) (fun c83 => ?_)
  · replace h := if_t c83 h
    exact wX2_shape_91 bs D y n k39_ r Gc hk39_ x1 x5 s0 x5 I J _ _ _ hP hS (lv_sub hl [1, 2, 3, 0] rfl) h
  · replace h := if_f c83 h
    refine lv_iload hx hb dX2_shape_86 (lv_at hl 0 rfl) ?_
    refine lv_if_eq (tgt := 95) hx hb dX2_shape_88 (by decide) (fun c88 => ?_) (fun c88 => ?_)
    · replace h := if_t c88 h
      refine lv_aload_n hx hb dX2_shape_95 rfl (lv_at hl 1 rfl) ?_
      refine g_R (C := RX2) (T := TX2) (N := 10) (ci := 2) 16 3 17 hx hb hts hown hK hP in_X2 rfl hcb okF_16_3 rfc_16_3 fl_25 dX2_shape_96 ?_
      refine lv_iload hx hb dX2_shape_99 (lv_at hl 3 rfl) ?_
      refine lv_iconst (v := (1 : Int32)) hx hb dX2_shape_101 (by decide) ?_
      refine lv_isub hx hb dX2_shape_102 ?_
      obtain ⟨hi103, h⟩ := if_s1 h
      refine a_I 17 hx hb hK hP hcb aln_17 hi103 dX2_shape_103 ?_
      refine lv_iconst (v := (1 : Int32)) hx hb dX2_shape_104 (by decide) ?_
      refine lv_iadd hx hb dX2_shape_105 ?_
      exact wX2_shape_106 bs D y n k39_ r Gc hk39_ x1 x5 s0 x5 ((I 17 ((x5 - (1 : Int32))).toNatClampNeg) + (1 : Int32)) I J _ _ _ hP hS (lv_sub hl [1, 2, 3, 0] rfl) h
    · replace h := if_f c88 h
      exact wX2_shape_91 bs D y n k39_ r Gc hk39_ x1 x5 s0 x5 I J _ _ _ hP hS (lv_sub hl [1, 2, 3, 0] rfl) h
set_option maxHeartbeats 4000000 in
set_option maxRecDepth 100000 in
theorem wX2_shape_72 {p : Program} {l : Launch} {e : Env} {s : State} {m : MethodId} {args : Array Value} {below : List Frame} {meth : Method} {c : Code} (bs : Nat) (D : va_G) (y : Y3) (n : Nat) (k39_ : Int32 → Int32 → MI → MJ → Option (M2)) (r : M2) (Gc : Gx p s m args meth c cX2_shape 7 RX2 bs D y none 44) (hk39_ : ∀ (x1 : Int32) (x5 : Int32) (I : MI) (J : MJ) (H : Heap) (locs : List Loc) (ls : Array Slot), va_P D vwCl (wl bs y I J) H → va_S (FA bs) s.heap H locs → lv_has ls 7 [(0, .ref (bs + 16)), (1, .int x1), (5, .int x5)] → k39_ x1 x5 I J = some r → W p l e (rmm 1 24) s m args below meth c H locs 0 0 (QV below args s bs D y r) (F0 m 39 ls [])) (x1 : Int32) (x5 : Int32) (I : MI) (J : MJ) (H : Heap) (locs : List Loc) (ls : Array Slot) (hP : va_P D vwCl (wl bs y I J) H) (hS : va_S (FA bs) s.heap H locs) (hl : lv_has ls 7 [(0, .ref (bs + 16)), (1, .int x1), (5, .int x5)]) (h : fX2_shape_72 n k39_ x1 x5 I J = some r) : W p l e (rmm 1 24) s m args below meth c H locs 0 0 (QV below args s bs D y r) (F0 m 72 ls []) := by
  obtain ⟨hx, hb, hml, hown, hts, hK, hN, hL, hr, hlocks, hcb⟩ := id Gc
  unfold fX2_shape_72 at h
  refine lv_iconst (v := (0 : Int32)) hx hb dX2_shape_72 (by decide) ?_
  exact wX2_shape_73 bs D y n k39_ r Gc hk39_ x1 x5 (0 : Int32) I J _ _ _ hP hS (lv_sub hl [0, 1, 2] rfl) h
set_option maxHeartbeats 4000000 in
set_option maxRecDepth 100000 in
theorem wX2_shape_39 {p : Program} {l : Launch} {e : Env} {s : State} {m : MethodId} {args : Array Value} {below : List Frame} {meth : Method} {c : Code} (bs : Nat) (D : va_G) (y : Y3) (n : Nat) (k39_ : Int32 → Int32 → MI → MJ → Option (M2)) (r : M2) (Gc : Gx p s m args meth c cX2_shape 7 RX2 bs D y none 44) (hk39_ : ∀ (x1 : Int32) (x5 : Int32) (I : MI) (J : MJ) (H : Heap) (locs : List Loc) (ls : Array Slot), va_P D vwCl (wl bs y I J) H → va_S (FA bs) s.heap H locs → lv_has ls 7 [(0, .ref (bs + 16)), (1, .int x1), (5, .int x5)] → k39_ x1 x5 I J = some r → W p l e (rmm 1 24) s m args below meth c H locs 0 0 (QV below args s bs D y r) (F0 m 39 ls [])) (x1 : Int32) (x5 : Int32) (I : MI) (J : MJ) (H : Heap) (locs : List Loc) (ls : Array Slot) (hP : va_P D vwCl (wl bs y I J) H) (hS : va_S (FA bs) s.heap H locs) (hl : lv_has ls 7 [(0, .ref (bs + 16)), (1, .int x1), (5, .int x5)]) (h : fX2_shape_39 n k39_ x1 x5 I J = some r) : W p l e (rmm 1 24) s m args below meth c H locs 0 0 (QV below args s bs D y r) (F0 m 39 ls []) := by
  obtain ⟨hx, hb, hml, hown, hts, hK, hN, hL, hr, hlocks, hcb⟩ := id Gc
  unfold fX2_shape_39 at h
  refine lv_iload hx hb dX2_shape_39 (lv_at hl 2 rfl) ?_
  refine lv_aload_n hx hb dX2_shape_41 rfl (lv_at hl 0 rfl) ?_
  refine g_I (C := RX2) (T := TX2) (N := 10) (ci := 2) 16 1 hx hb hts hown hK hP in_X2 rfl hcb okF_16_1 fl_24 dX2_shape_42 ?_
  refine lv_icmp_ge (tgt := 149) hx hb dX2_shape_45 (by decide) (fun c45 => ?_) (fun c45 => ?_)
  · replace h := if_t c45 h
    refine lv_iconst (v := (0 : Int32)) hx hb dX2_shape_149 (by decide) ?_
    refine lv_istore (lv' := [(5, .int (0 : Int32)), (0, .ref (bs + 16)), (1, .int x1)]) hx hb dX2_shape_150 hl (by decide) rfl (fun ls hl => ?_)
    exact vX2_shape_152 bs D y n  r Gc  n x1 (0 : Int32) I J _ _ _ hP hS (lv_sub hl [1, 2, 0] rfl) h
  · replace h := if_f c45 h
    refine lv_iload hx hb dX2_shape_48 (lv_at hl 2 rfl) ?_
    refine lv_if_le (tgt := 72) hx hb dX2_shape_50 (by decide) (fun c50 => ?_) (fun c50 => ?_)
    · replace h := if_t c50 h
      exact wX2_shape_72 bs D y n k39_ r Gc hk39_ x1 x5 I J _ _ _ hP hS (lv_sub hl [0, 1, 2] rfl) h
    · replace h := if_f c50 h
      refine lv_aload_n hx hb dX2_shape_53 rfl (lv_at hl 0 rfl) ?_
      refine g_R (C := RX2) (T := TX2) (N := 10) (ci := 2) 16 3 17 hx hb hts hown hK hP in_X2 rfl hcb okF_16_3 rfc_16_3 fl_25 dX2_shape_54 ?_
      refine lv_iload hx hb dX2_shape_57 (lv_at hl 2 rfl) ?_
      refine lv_iconst (v := (1 : Int32)) hx hb dX2_shape_59 (by decide) ?_
      refine lv_isub hx hb dX2_shape_60 ?_
      obtain ⟨hi61, h⟩ := if_s1 h
      refine a_I 17 hx hb hK hP hcb aln_17 hi61 dX2_shape_61 ?_
      refine lv_iload_n hx hb dX2_shape_62 rfl (lv_at hl 1 rfl) ?_
      refine lv_iconst (v := (1 : Int32)) hx hb dX2_shape_63 (by decide) ?_
      refine lv_isub hx hb dX2_shape_64 ?_
      refine lv_icmp_ne (tgt := 72) hx hb dX2_shape_65 (by decide) (fun c65 => ?_) (fun c65 => ?_)
      · replace h := if_f c65 h
        exact wX2_shape_72 bs D y n k39_ r Gc hk39_ x1 x5 I J _ _ _ hP hS (lv_sub hl [0, 1, 2] rfl) h
      · replace h := if_t c65 h
        refine lv_iconst (v := (1 : Int32)) hx hb dX2_shape_68 (by decide) ?_
        refine lv_goto (tgt := 73) hx hb dX2_shape_69 (by decide) ?_
        exact wX2_shape_73 bs D y n k39_ r Gc hk39_ x1 x5 (1 : Int32) I J _ _ _ hP hS (lv_sub hl [0, 1, 2] rfl) h
theorem vX2_shape_39 {p : Program} {l : Launch} {e : Env} {s : State} {m : MethodId} {args : Array Value} {below : List Frame} {meth : Method} {c : Code} (bs : Nat) (D : va_G) (y : Y3) (n : Nat) (r : M2) (Gc : Gx p s m args meth c cX2_shape 7 RX2 bs D y none 44)  : ∀ (q : Nat) (x1 : Int32) (x5 : Int32) (I : MI) (J : MJ) (H : Heap) (locs : List Loc) (ls : Array Slot), va_P D vwCl (wl bs y I J) H → va_S (FA bs) s.heap H locs → lv_has ls 7 [(0, .ref (bs + 16)), (1, .int x1), (5, .int x5)] → lX2_shape_39 n  q x1 x5 I J = some r → W p l e (rmm 1 24) s m args below meth c H locs 0 0 (QV below args s bs D y r) (F0 m 39 ls []) := by
  intro q
  induction q with
  | zero =>
    intro x1 x5 I J H locs ls hP hS hl h
    have h : (none : Option (M2)) = some r := h
    cases h
  | succ q ih =>
    intro x1 x5 I J H locs ls hP hS hl h
    have h : fX2_shape_39 n  (lX2_shape_39 n  q) x1 x5 I J = some r := h
    exact wX2_shape_39 bs D y n  (lX2_shape_39 n  q) r Gc  ih x1 x5 I J H locs ls hP hS hl h
set_option maxHeartbeats 4000000 in
set_option maxRecDepth 100000 in
theorem cX2_shape_ (l : Launch) (bs : Nat) (D : va_G) (y : Y3) (hcb : 44 ≤ y.2.2.2) (n : Nat) (x1 : Int32) (x2 : Int32) (x3 : Int32) (x4 : Int32) (I : MI) (J : MJ) (r : M2) (h : fX2_shape n x1 x2 x3 x4 I J = some r) : Met l yX2_shape (.code yX2_shape cX2_shape 7 none :: gtb) (rmm 1 24) (va_Pc [.ref (bs + 16), .int x1, .int x2, .int x3, .int x4] (HB bs D y I J)) (QcV bs D y r) 0 0 (FA bs) := by
  refine Met.ofW (cc := cX2_shape) (maxL := 7) (ret := none) (by decide) rfl ?_
  intro p e s m args below meth c s₁ B hml hv
  obtain ⟨rfl, hP, hK, hN, hL⟩ := hv
  have hx := B.exec
  have hb := B.bytes
  have hr := B.returns
  have hts0 := atoms_spec (ws := .code yX2_shape cX2_shape 7 none :: gtb) B.pre
  have hts : ∀ w ∈ gtb, w.before [.ref (bs + 16), .int x1, .int x2, .int x3, .int x4].toArray s = true := fun w hw => hts0 w (List.mem_cons_of_mem _ hw)
  have hown : s.vm.findClass RX2 = some m.cls := findClass_of_methodNamed B.named
  have hlocks := B.notSynchronized
  have hS : va_S (FA bs) s.heap s.heap [] := va_S.rf
  have Gc : Gx p s m [.ref (bs + 16), .int x1, .int x2, .int x3, .int x4].toArray meth c cX2_shape 7 RX2 bs D y none 44 := ⟨hx, hb, hml, hown, hts, hK, hN, hL, hr, hlocks, hcb⟩
  have hl := lv_entry [.ref (bs + 16), .int x1, .int x2, .int x3, .int x4] (n := 7) (Nat.le_of_ble_eq_true rfl)
  rw [lg_entry_eq]
  generalize (lg_sl [.ref (bs + 16), .int x1, .int x2, .int x3, .int x4] ++ List.replicate (7 - (lg_sl [.ref (bs + 16), .int x1, .int x2, .int x3, .int x4]).length) Slot.unset).toArray = ls at hl ⊢
  have hl : lv_has ls 7 [(0, .ref (bs + 16)), (1, .int x1), (2, .int x2), (3, .int x3), (4, .int x4)] := hl
  change W p l e (rmm 1 24) s m [.ref (bs + 16), .int x1, .int x2, .int x3, .int x4].toArray below meth c s.heap [] 0 0 (QV below [.ref (bs + 16), .int x1, .int x2, .int x3, .int x4].toArray s bs D y r) (F0 m 0 ls [])
  unfold fX2_shape at h
  refine lv_aload_n hx hb dX2_shape_0 rfl (lv_at hl 0 rfl) ?_
  refine lv_iload_n hx hb dX2_shape_1 rfl (lv_at hl 3 rfl) ?_
  obtain ⟨I2, eI2, h⟩ := lt_s1 h
  refine s_I (C := RX2) (T := TX2) (N := 10) (ci := 2) (ty := .int) 16 8 eI2 tyX2 hx hb hts hown hK hP hS in_X2 tyX2_ok nmX2 rfl hcb okF_16_8 fl_27 rfl (by decide +kernel) rfl rfl dX2_shape_2 (fun H locs hP hS => ?_)
  refine lv_aload_n hx hb dX2_shape_5 rfl (lv_at hl 0 rfl) ?_
  refine lv_iload hx hb dX2_shape_6 (lv_at hl 4 rfl) ?_
  obtain ⟨I8, eI8, h⟩ := lt_s1 h
  refine s_I (C := RX2) (T := TX2) (N := 10) (ci := 2) (ty := .int) 16 0 eI8 tyX2 hx hb hts hown hK hP hS in_X2 tyX2_ok nmX2 rfl hcb okF_16_0 fl_28 rfl (by decide +kernel) rfl rfl dX2_shape_8 (fun H locs hP hS => ?_)
  refine lv_aload_n hx hb dX2_shape_11 rfl (lv_at hl 0 rfl) ?_
  refine lv_iload_n hx hb dX2_shape_12 rfl (lv_at hl 1 rfl) ?_
  refine lv_iload_n hx hb dX2_shape_13 rfl (lv_at hl 2 rfl) ?_
  refine lv_imul hx hb dX2_shape_14 ?_
  obtain ⟨I15, eI15, h⟩ := lt_s1 h
  refine s_I (C := RX2) (T := TX2) (N := 10) (ci := 2) (ty := .int) 16 1 eI15 tyX2 hx hb hts hown hK hP hS in_X2 tyX2_ok nmX2 rfl hcb okF_16_1 fl_24 rfl (by decide +kernel) rfl rfl dX2_shape_15 (fun H locs hP hS => ?_)
  refine lv_aload_n hx hb dX2_shape_18 rfl (lv_at hl 0 rfl) ?_
  refine lv_iconst (v := (0 : Int32)) hx hb dX2_shape_19 (by decide) ?_
  obtain ⟨I20, eI20, h⟩ := lt_s1 h
  refine s_I (C := RX2) (T := TX2) (N := 10) (ci := 2) (ty := .int) 16 2 eI20 tyX2 hx hb hts hown hK hP hS in_X2 tyX2_ok nmX2 rfl hcb okF_16_2 fl_21 rfl (by decide +kernel) rfl rfl dX2_shape_20 (fun H locs hP hS => ?_)
  refine lv_aload_n hx hb dX2_shape_23 rfl (lv_at hl 0 rfl) ?_
  refine lv_lconst (v := (0 : Int64)) hx hb dX2_shape_24 (by decide) ?_
  obtain ⟨J25, eJ25, h⟩ := lt_s1 h
  refine s_J (C := RX2) (T := TX2) (N := 10) (ci := 2) 16 9 eJ25 tyX2 hx hb hts hown hK hP hS in_X2 tyX2_ok nmX2 rfl hcb okF_16_9 fl_29 rfl (by decide +kernel) dX2_shape_25 (fun H locs hP hS => ?_)
  refine lv_aload_n hx hb dX2_shape_28 rfl (lv_at hl 0 rfl) ?_
  refine g_R (C := RX2) (T := TX2) (N := 10) (ci := 2) 16 7 21 hx hb hts hown hK hP in_X2 rfl hcb okF_16_7 rfc_16_7 fl_23 dX2_shape_29 ?_
  refine lv_iconst (v := (-1 : Int32)) hx hb dX2_shape_32 (by decide) ?_
  obtain ⟨r33, er33, h⟩ := bd_s1 h
  refine c_SV (As := [.ref (bs + 21), .int (-1 : Int32)]) (rest := []) hx hb hml hown hts hK hN hL hP hS (cJ7_fill_53178_ l bs D y hcb n 21 (-1 : Int32) I20 J25 r33 er33) ok_J7_fill_53178 ov_J7_fill_53178 ml_14 ⟨Nat.le_of_ble_eq_true rfl, Nat.le_of_ble_eq_true rfl⟩ hl.1 rfl rfl (Nat.le_of_ble_eq_true rfl) ⟨Nat.zero_le _, Nat.zero_le _⟩ dX2_shape_33 (fun H locs hP hS => ?_)
  refine lv_iconst (v := (0 : Int32)) hx hb dX2_shape_36 (by decide) ?_
  refine lv_istore (lv' := [(5, .int (0 : Int32)), (0, .ref (bs + 16)), (1, .int x1), (2, .int x2), (3, .int x3), (4, .int x4)]) hx hb dX2_shape_37 hl (by decide) rfl (fun ls hl => ?_)
  exact vX2_shape_39 bs D y n  r Gc  n x1 (0 : Int32) r33.1 r33.2 _ _ _ hP hS (lv_sub hl [1, 2, 0] rfl) h
