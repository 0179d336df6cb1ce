/-! walks: X10_isJoint X10_joint X10_way X10_side X10_longestOf X10_longest X10_puts X10_sumOf X10_frames X10_whyNoByte X10_octet X10_bend X10_check X10_bitsThere X10_back X10_start X10_netIs -/
theorem dX10_isJoint_0 : decode cX10_isJoint 0 = .ok (.iload_n 1, 1) := by decide +kernel
theorem dX10_isJoint_1 : decode cX10_isJoint 1 = .ok (.ifCond .lt 15, 3) := by decide +kernel
theorem dX10_isJoint_4 : decode cX10_isJoint 4 = .ok (.iload_n 1, 1) := by decide +kernel
theorem dX10_isJoint_5 : decode cX10_isJoint 5 = .ok (.aload_n 0, 1) := by decide +kernel
theorem dX10_isJoint_6 : decode cX10_isJoint 6 = .ok (.invokevirtual 230, 3) := by decide +kernel
theorem dX10_isJoint_9 : decode cX10_isJoint 9 = .ok (.if_icmp .ge 7, 3) := by decide +kernel
theorem dX10_isJoint_12 : decode cX10_isJoint 12 = .ok (.iconst 1, 1) := by decide +kernel
theorem dX10_isJoint_13 : decode cX10_isJoint 13 = .ok (.goto 4, 3) := by decide +kernel
theorem dX10_isJoint_16 : decode cX10_isJoint 16 = .ok (.iconst 0, 1) := by decide +kernel
theorem dX10_isJoint_17 : decode cX10_isJoint 17 = .ok (.ireturn, 1) := by decide +kernel
set_option maxHeartbeats 4000000 in
set_option maxRecDepth 100000 in
theorem cX10_isJoint_ (l : Launch) (bs : Nat) (D : va_G) (y : Y3) (hcb : 76 ≤ y.2.2.2) (n : Nat) (x1 : Int32) (I : MI) (J : MJ) (r : Int32 × M2) (h : fX10_isJoint n x1 I J = some r) : Met l yX10_isJoint (.code yX10_isJoint cX10_isJoint 2 (some .boolean) :: gtb) (rmm 1 20) (va_Pc [.ref (bs + 44), .int x1] (HB bs D y I J)) (QcI bs D y r) 0 0 (FA bs) := by
  refine Met.ofW (cc := cX10_isJoint) (maxL := 2) (ret := (some .boolean)) (by decide) rfl ?_
  intro p e s m args below meth c s₁ B hml hv
  obtain ⟨rfl, hP, hK, hN, hL⟩ := hv
  have hx := B.exec
  have hb := B.bytes
  have hr := B.returns
  have hts0 := atoms_spec (ws := .code yX10_isJoint cX10_isJoint 2 (some .boolean) :: gtb) B.pre
  have hts : ∀ w ∈ gtb, w.before [.ref (bs + 44), .int x1].toArray s = true := fun w hw => hts0 w (List.mem_cons_of_mem _ hw)
  have hown : s.vm.findClass RX10 = some m.cls := findClass_of_methodNamed B.named
  have hlocks := B.notSynchronized
  have hS : va_S (FA bs) s.heap s.heap [] := va_S.rf
  have Gc : Gx p s m [.ref (bs + 44), .int x1].toArray meth c cX10_isJoint 2 RX10 bs D y (some .boolean) 76 := ⟨hx, hb, hml, hown, hts, hK, hN, hL, hr, hlocks, hcb⟩
  have hl := lv_entry [.ref (bs + 44), .int x1] (n := 2) (Nat.le_of_ble_eq_true rfl)
  rw [lg_entry_eq]
  generalize (lg_sl [.ref (bs + 44), .int x1] ++ List.replicate (2 - (lg_sl [.ref (bs + 44), .int x1]).length) Slot.unset).toArray = ls at hl ⊢
  have hl : lv_has ls 2 [(0, .ref (bs + 44)), (1, .int x1)] := hl
  change W p l e (rmm 1 20) s m [.ref (bs + 44), .int x1].toArray below meth c s.heap [] 0 0 (QI below [.ref (bs + 44), .int x1].toArray s bs D y r) (F0 m 0 ls [])
  unfold fX10_isJoint at h
  refine lv_iload_n hx hb dX10_isJoint_0 rfl (lv_at hl 1 rfl) ?_
  refine lv_if_lt (tgt := 16) hx hb dX10_isJoint_1 (by decide) (fun c1 => ?_) (fun c1 => ?_)
  · replace h := if_t c1 h
    refine lv_iconst (v := (0 : Int32)) hx hb dX10_isJoint_16 (by decide) ?_
    exact r_Z hx hb hr hlocks hP hK hN hL hS (by decide) h dX10_isJoint_17
  · replace h := if_f c1 h
    refine lv_iload_n hx hb dX10_isJoint_4 rfl (lv_at hl 1 rfl) ?_
    refine lv_aload_n hx hb dX10_isJoint_5 rfl (lv_at hl 0 rfl) ?_
    obtain ⟨r6, er6, h⟩ := bd_s1 h
    refine c_VI (k := 44) (ci := 10) (As := []) (rest := [.int x1]) hx hb hml hown hts hK hN hL hP hS (cX10_joints_ l bs D y hcb n  I J r6 er6) ok_X10_joints ov_X10_joints ml_135 ⟨Nat.le_of_ble_eq_true rfl, Nat.le_of_ble_eq_true rfl⟩ rfl hcb kd_44 hl.1 rfl rfl (Nat.le_of_ble_eq_true rfl) ⟨Nat.zero_le _, Nat.zero_le _⟩ dX10_isJoint_6 (fun H locs hP hS => ?_)
    refine lv_icmp_ge (tgt := 16) hx hb dX10_isJoint_9 (by decide) (fun c9 => ?_) (fun c9 => ?_)
    · replace h := if_t c9 h
      refine lv_iconst (v := (0 : Int32)) hx hb dX10_isJoint_16 (by decide) ?_
      exact r_Z hx hb hr hlocks hP hK hN hL hS (by decide) h dX10_isJoint_17
    · replace h := if_f c9 h
      refine lv_iconst (v := (1 : Int32)) hx hb dX10_isJoint_12 (by decide) ?_
      refine lv_goto (tgt := 17) hx hb dX10_isJoint_13 (by decide) ?_
      exact r_Z hx hb hr hlocks hP hK hN hL hS (by decide) h dX10_isJoint_17
theorem dX10_joint_0 : decode cX10_joint 0 = .ok (.aload_n 0, 1) := by decide +kernel
theorem dX10_joint_1 : decode cX10_joint 1 = .ok (.iload_n 1, 1) := by decide +kernel
theorem dX10_joint_2 : decode cX10_joint 2 = .ok (.invokevirtual 305, 3) := by decide +kernel
theorem dX10_joint_5 : decode cX10_joint 5 = .ok (.ifCond .ne 10, 3) := by decide +kernel
theorem dX10_joint_8 : decode cX10_joint 8 = .ok (.aload_n 0, 1) := by decide +kernel
theorem dX10_joint_9 : decode cX10_joint 9 = .ok (.bipush (-3), 2) := by decide +kernel
theorem dX10_joint_11 : decode cX10_joint 11 = .ok (.invokevirtual 151, 3) := by decide +kernel
theorem dX10_joint_14 : decode cX10_joint 14 = .ok (.ireturn, 1) := by decide +kernel
theorem dX10_joint_15 : decode cX10_joint 15 = .ok (.aload_n 0, 1) := by decide +kernel
theorem dX10_joint_16 : decode cX10_joint 16 = .ok (.getfield 133, 3) := by decide +kernel
theorem dX10_joint_19 : decode cX10_joint 19 = .ok (.ifCond .eq 12, 3) := by decide +kernel
theorem dX10_joint_22 : decode cX10_joint 22 = .ok (.aload_n 0, 1) := by decide +kernel
theorem dX10_joint_23 : decode cX10_joint 23 = .ok (.getfield 78, 3) := by decide +kernel
theorem dX10_joint_26 : decode cX10_joint 26 = .ok (.iload_n 1, 1) := by decide +kernel
theorem dX10_joint_27 : decode cX10_joint 27 = .ok (.iaload, 1) := by decide +kernel
theorem dX10_joint_28 : decode cX10_joint 28 = .ok (.goto 9, 3) := by decide +kernel
theorem dX10_joint_31 : decode cX10_joint 31 = .ok (.aload_n 0, 1) := by decide +kernel
theorem dX10_joint_32 : decode cX10_joint 32 = .ok (.bipush (-2), 2) := by decide +kernel
theorem dX10_joint_34 : decode cX10_joint 34 = .ok (.invokevirtual 151, 3) := by decide +kernel
theorem dX10_joint_37 : decode cX10_joint 37 = .ok (.ireturn, 1) := by decide +kernel
set_option maxHeartbeats 4000000 in
set_option maxRecDepth 100000 in
theorem cX10_joint_ (l : Launch) (bs : Nat) (D : va_G) (y : Y3) (hcb : 76 ≤ y.2.2.2) (n : Nat) (x1 : Int32) (I : MI) (J : MJ) (r : Int32 × M2) (h : fX10_joint n x1 I J = some r) : Met l yX10_joint (.code yX10_joint cX10_joint 2 (some .int) :: gtb) (rmm 2 41) (va_Pc [.ref (bs + 44), .int x1] (HB bs D y I J)) (QcI bs D y r) 0 0 (FA bs) := by
  refine Met.ofW (cc := cX10_joint) (maxL := 2) (ret := (some .int)) (by decide) rfl ?_
  intro p e s m args below meth c s₁ B hml hv
  obtain ⟨rfl, hP, hK, hN, hL⟩ := hv
  have hx := B.exec
  have hb := B.bytes
  have hr := B.returns
  have hts0 := atoms_spec (ws := .code yX10_joint cX10_joint 2 (some .int) :: gtb) B.pre
  have hts : ∀ w ∈ gtb, w.before [.ref (bs + 44), .int x1].toArray s = true := fun w hw => hts0 w (List.mem_cons_of_mem _ hw)
  have hown : s.vm.findClass RX10 = some m.cls := findClass_of_methodNamed B.named
  have hlocks := B.notSynchronized
  have hS : va_S (FA bs) s.heap s.heap [] := va_S.rf
  have Gc : Gx p s m [.ref (bs + 44), .int x1].toArray meth c cX10_joint 2 RX10 bs D y (some .int) 76 := ⟨hx, hb, hml, hown, hts, hK, hN, hL, hr, hlocks, hcb⟩
  have hl := lv_entry [.ref (bs + 44), .int x1] (n := 2) (Nat.le_of_ble_eq_true rfl)
  rw [lg_entry_eq]
  generalize (lg_sl [.ref (bs + 44), .int x1] ++ List.replicate (2 - (lg_sl [.ref (bs + 44), .int x1]).length) Slot.unset).toArray = ls at hl ⊢
  have hl : lv_has ls 2 [(0, .ref (bs + 44)), (1, .int x1)] := hl
  change W p l e (rmm 2 41) s m [.ref (bs + 44), .int x1].toArray below meth c s.heap [] 0 0 (QI below [.ref (bs + 44), .int x1].toArray s bs D y r) (F0 m 0 ls [])
  unfold fX10_joint at h
  refine lv_aload_n hx hb dX10_joint_0 rfl (lv_at hl 0 rfl) ?_
  refine lv_iload_n hx hb dX10_joint_1 rfl (lv_at hl 1 rfl) ?_
  obtain ⟨r2, er2, h⟩ := bd_s1 h
  refine c_VI (k := 44) (ci := 10) (As := [.int x1]) (rest := []) hx hb hml hown hts hK hN hL hP hS (cX10_isJoint_ l bs D y hcb n x1 I J r2 er2) ok_X10_isJoint ov_X10_isJoint ml_157 ⟨Nat.le_of_ble_eq_true rfl, Nat.le_of_ble_eq_true rfl⟩ rfl hcb kd_44 hl.1 rfl rfl (Nat.le_of_ble_eq_true rfl) ⟨Nat.zero_le _, Nat.zero_le _⟩ dX10_joint_2 (fun H locs hP hS => ?_)
  refine lv_if_ne (tgt := 15) hx hb dX10_joint_5 (by decide) (fun c5 => ?_) (fun c5 => ?_)
  · replace h := if_f c5 h
    refine lv_aload_n hx hb dX10_joint_15 rfl (lv_at hl 0 rfl) ?_
    refine g_I (C := RX10) (T := TX10) (N := 49) (ci := 10) 44 13 hx hb hts hown hK hP in_X10 rfl hcb okF_44_13 fl_150 dX10_joint_16 ?_
    refine lv_if_eq (tgt := 31) hx hb dX10_joint_19 (by decide) (fun c19 => ?_) (fun c19 => ?_)
    · replace h := if_t c19 h
      refine lv_aload_n hx hb dX10_joint_31 rfl (lv_at hl 0 rfl) ?_
      refine lv_bipush (v := (-2 : Int32)) hx hb dX10_joint_32 (by decide) ?_
      obtain ⟨r34, er34, h⟩ := bd_s1 h
      refine c_VI (k := 44) (ci := 10) (As := [.int (-2 : Int32)]) (rest := []) hx hb hml hown hts hK hN hL hP hS (cX10_no_ l bs D y hcb n (-2 : Int32) r2.2.1 r2.2.2 r34 er34) ok_X10_no ov_X10_no ml_118 ⟨Nat.le_of_ble_eq_true rfl, Nat.le_of_ble_eq_true rfl⟩ rfl hcb kd_44 hl.1 rfl rfl (Nat.le_of_ble_eq_true rfl) ⟨Nat.zero_le _, Nat.zero_le _⟩ dX10_joint_34 (fun H locs hP hS => ?_)
      exact r_I hx hb hr hlocks hP hK hN hL hS h dX10_joint_37
    · replace h := if_f c19 h
      refine lv_aload_n hx hb dX10_joint_22 rfl (lv_at hl 0 rfl) ?_
      refine g_R (C := RX10) (T := TX10) (N := 49) (ci := 10) 44 31 63 hx hb hts hown hK hP in_X10 rfl hcb okF_44_31 rfc_44_31 fl_174 dX10_joint_23 ?_
      refine lv_iload_n hx hb dX10_joint_26 rfl (lv_at hl 1 rfl) ?_
      obtain ⟨hi27, h⟩ := if_s1 h
      refine a_I 63 hx hb hK hP hcb aln_63 hi27 dX10_joint_27 ?_
      refine lv_goto (tgt := 37) hx hb dX10_joint_28 (by decide) ?_
      exact r_I hx hb hr hlocks hP hK hN hL hS h dX10_joint_37
  · replace h := if_t c5 h
    refine lv_aload_n hx hb dX10_joint_8 rfl (lv_at hl 0 rfl) ?_
    refine lv_bipush (v := (-3 : Int32)) hx hb dX10_joint_9 (by decide) ?_
    obtain ⟨r11, er11, h⟩ := bd_s1 h
    refine c_VI (k := 44) (ci := 10) (As := [.int (-3 : Int32)]) (rest := []) hx hb hml hown hts hK hN hL hP hS (cX10_no_ l bs D y hcb n (-3 : Int32) r2.2.1 r2.2.2 r11 er11) ok_X10_no ov_X10_no ml_118 ⟨Nat.le_of_ble_eq_true rfl, Nat.le_of_ble_eq_true rfl⟩ rfl hcb kd_44 hl.1 rfl rfl (Nat.le_of_ble_eq_true rfl) ⟨Nat.zero_le _, Nat.zero_le _⟩ dX10_joint_11 (fun H locs hP hS => ?_)
    exact r_I hx hb hr hlocks hP hK hN hL hS h dX10_joint_14
theorem dX10_way_0 : decode cX10_way 0 = .ok (.aload_n 0, 1) := by decide +kernel
theorem dX10_way_1 : decode cX10_way 1 = .ok (.iload_n 1, 1) := by decide +kernel
theorem dX10_way_2 : decode cX10_way 2 = .ok (.invokevirtual 172, 3) := by decide +kernel
theorem dX10_way_5 : decode cX10_way 5 = .ok (.ifCond .ne 10, 3) := by decide +kernel
theorem dX10_way_8 : decode cX10_way 8 = .ok (.aload_n 0, 1) := by decide +kernel
theorem dX10_way_9 : decode cX10_way 9 = .ok (.bipush (-3), 2) := by decide +kernel
theorem dX10_way_11 : decode cX10_way 11 = .ok (.invokevirtual 151, 3) := by decide +kernel
theorem dX10_way_14 : decode cX10_way 14 = .ok (.ireturn, 1) := by decide +kernel
theorem dX10_way_15 : decode cX10_way 15 = .ok (.iload_n 2, 1) := by decide +kernel
theorem dX10_way_16 : decode cX10_way 16 = .ok (.ifCond .ge 10, 3) := by decide +kernel
theorem dX10_way_19 : decode cX10_way 19 = .ok (.aload_n 0, 1) := by decide +kernel
theorem dX10_way_20 : decode cX10_way 20 = .ok (.bipush (-4), 2) := by decide +kernel
theorem dX10_way_22 : decode cX10_way 22 = .ok (.invokevirtual 151, 3) := by decide +kernel
theorem dX10_way_25 : decode cX10_way 25 = .ok (.ireturn, 1) := by decide +kernel
theorem dX10_way_26 : decode cX10_way 26 = .ok (.aload_n 0, 1) := by decide +kernel
theorem dX10_way_27 : decode cX10_way 27 = .ok (.getfield 133, 3) := by decide +kernel
theorem dX10_way_30 : decode cX10_way 30 = .ok (.ifCond .eq 11, 3) := by decide +kernel
theorem dX10_way_33 : decode cX10_way 33 = .ok (.aload_n 0, 1) := by decide +kernel
theorem dX10_way_34 : decode cX10_way 34 = .ok (.iload_n 1, 1) := by decide +kernel
theorem dX10_way_35 : decode cX10_way 35 = .ok (.invokevirtual 236, 3) := by decide +kernel
theorem dX10_way_38 : decode cX10_way 38 = .ok (.ifCond .ne 10, 3) := by decide +kernel
theorem dX10_way_41 : decode cX10_way 41 = .ok (.aload_n 0, 1) := by decide +kernel
theorem dX10_way_42 : decode cX10_way 42 = .ok (.bipush (-2), 2) := by decide +kernel
theorem dX10_way_44 : decode cX10_way 44 = .ok (.invokevirtual 151, 3) := by decide +kernel
theorem dX10_way_47 : decode cX10_way 47 = .ok (.ireturn, 1) := by decide +kernel
theorem dX10_way_48 : decode cX10_way 48 = .ok (.iload_n 2, 1) := by decide +kernel
theorem dX10_way_49 : decode cX10_way 49 = .ok (.istore_n 3, 1) := by decide +kernel
theorem dX10_way_50 : decode cX10_way 50 = .ok (.iconst 0, 1) := by decide +kernel
theorem dX10_way_51 : decode cX10_way 51 = .ok (.istore 4, 2) := by decide +kernel
theorem dX10_way_53 : decode cX10_way 53 = .ok (.iload 4, 2) := by decide +kernel
theorem dX10_way_55 : decode cX10_way 55 = .ok (.aload_n 0, 1) := by decide +kernel
theorem dX10_way_56 : decode cX10_way 56 = .ok (.invokevirtual 230, 3) := by decide +kernel
theorem dX10_way_59 : decode cX10_way 59 = .ok (.if_icmp .ge 37, 3) := by decide +kernel
theorem dX10_way_62 : decode cX10_way 62 = .ok (.aload_n 0, 1) := by decide +kernel
theorem dX10_way_63 : decode cX10_way 63 = .ok (.getfield 75, 3) := by decide +kernel
theorem dX10_way_66 : decode cX10_way 66 = .ok (.bipush 60, 2) := by decide +kernel
theorem dX10_way_68 : decode cX10_way 68 = .ok (.iload_n 1, 1) := by decide +kernel
theorem dX10_way_69 : decode cX10_way 69 = .ok (.imul, 1) := by decide +kernel
theorem dX10_way_70 : decode cX10_way 70 = .ok (.iload 4, 2) := by decide +kernel
theorem dX10_way_72 : decode cX10_way 72 = .ok (.iadd, 1) := by decide +kernel
theorem dX10_way_73 : decode cX10_way 73 = .ok (.baload, 1) := by decide +kernel
theorem dX10_way_74 : decode cX10_way 74 = .ok (.ifCond .ne 6, 3) := by decide +kernel
theorem dX10_way_77 : decode cX10_way 77 = .ok (.goto 13, 3) := by decide +kernel
theorem dX10_way_80 : decode cX10_way 80 = .ok (.iload_n 3, 1) := by decide +kernel
theorem dX10_way_81 : decode cX10_way 81 = .ok (.ifCond .ne 6, 3) := by decide +kernel
theorem dX10_way_84 : decode cX10_way 84 = .ok (.iload 4, 2) := by decide +kernel
theorem dX10_way_86 : decode cX10_way 86 = .ok (.ireturn, 1) := by decide +kernel
theorem dX10_way_87 : decode cX10_way 87 = .ok (.iinc 3 (-1), 3) := by decide +kernel
theorem dX10_way_90 : decode cX10_way 90 = .ok (.iinc 4 1, 3) := by decide +kernel
theorem dX10_way_93 : decode cX10_way 93 = .ok (.goto (-40), 3) := by decide +kernel
theorem dX10_way_96 : decode cX10_way 96 = .ok (.iconst (-1), 1) := by decide +kernel
theorem dX10_way_97 : decode cX10_way 97 = .ok (.ireturn, 1) := by decide +kernel
set_option maxHeartbeats 4000000 in
set_option maxRecDepth 100000 in
theorem wX10_way_90 {p : Program} {l : Launch} {e : Env} {s : State} {m : MethodId} {args : Array Value} {below : List Frame} {meth : Method} {c : Code} (bs : Nat) (D : va_G) (y : Y3) (n : Nat) (k53_ : Int32 → Int32 → Int32 → MI → MJ → Option (Int32 × M2)) (r : Int32 × M2) (Gc : Gx p s m args meth c cX10_way 5 RX10 bs D y (some .int) 76) (hk53_ : ∀ (x1 : Int32) (x3 : Int32) (x4 : Int32) (I : MI) (J : MJ) (H : Heap) (locs : List Loc) (ls : Array Slot), va_P D vwCl (wl bs y I J) H → va_S (FA bs) s.heap H locs → lv_has ls 5 [(0, .ref (bs + 44)), (1, .int x1), (3, .int x3), (4, .int x4)] → k53_ x1 x3 x4 I J = some r → W p l e (rmm 1 21) s m args below meth c H locs 0 0 (QI below args s bs D y r) (F0 m 53 ls [])) (x1 : Int32) (x3 : Int32) (x4 : Int32) (I : MI) (J : MJ) (H : Heap) (locs : List Loc) (ls : Array Slot) (hP : va_P D vwCl (wl bs y I J) H) (hS : va_S (FA bs) s.heap H locs) (hl : lv_has ls 5 [(0, .ref (bs + 44)), (1, .int x1), (3, .int x3), (4, .int x4)]) (h : fX10_way_90 n k53_ x1 x3 x4 I J = some r) : W p l e (rmm 1 21) s m args below meth c H locs 0 0 (QI below args s bs D y r) (F0 m 90 ls []) := by
  obtain ⟨hx, hb, hml, hown, hts, hK, hN, hL, hr, hlocks, hcb⟩ := id Gc
  unfold fX10_way_90 at h
  refine lv_iinc (v := (x4 + (1 : Int32))) (lv' := [(4, .int (x4 + (1 : Int32))), (0, .ref (bs + 44)), (1, .int x1), (3, .int x3)]) hx hb dX10_way_90 hl (k := 3) rfl rfl (by decide) rfl (fun ls hl => ?_)
  refine lv_goto (tgt := 53) hx hb dX10_way_93 (by decide) ?_
  exact hk53_ x1 x3 (x4 + (1 : Int32)) I J _ _ _ hP hS (lv_sub hl [1, 2, 3, 0] rfl) h
set_option maxHeartbeats 4000000 in
set_option maxRecDepth 100000 in
theorem wX10_way_53 {p : Program} {l : Launch} {e : Env} {s : State} {m : MethodId} {args : Array Value} {below : List Frame} {meth : Method} {c : Code} (bs : Nat) (D : va_G) (y : Y3) (n : Nat) (k53_ : Int32 → Int32 → Int32 → MI → MJ → Option (Int32 × M2)) (r : Int32 × M2) (Gc : Gx p s m args meth c cX10_way 5 RX10 bs D y (some .int) 76) (hk53_ : ∀ (x1 : Int32) (x3 : Int32) (x4 : Int32) (I : MI) (J : MJ) (H : Heap) (locs : List Loc) (ls : Array Slot), va_P D vwCl (wl bs y I J) H → va_S (FA bs) s.heap H locs → lv_has ls 5 [(0, .ref (bs + 44)), (1, .int x1), (3, .int x3), (4, .int x4)] → k53_ x1 x3 x4 I J = some r → W p l e (rmm 1 21) s m args below meth c H locs 0 0 (QI below args s bs D y r) (F0 m 53 ls [])) (x1 : Int32) (x3 : Int32) (x4 : Int32) (I : MI) (J : MJ) (H : Heap) (locs : List Loc) (ls : Array Slot) (hP : va_P D vwCl (wl bs y I J) H) (hS : va_S (FA bs) s.heap H locs) (hl : lv_has ls 5 [(0, .ref (bs + 44)), (1, .int x1), (3, .int x3), (4, .int x4)]) (h : fX10_way_53 n k53_ x1 x3 x4 I J = some r) : W p l e (rmm 1 21) s m args below meth c H locs 0 0 (QI below args s bs D y r) (F0 m 53 ls []) := by
  obtain ⟨hx, hb, hml, hown, hts, hK, hN, hL, hr, hlocks, hcb⟩ := id Gc
  unfold fX10_way_53 at h
  refine lv_iload hx hb dX10_way_53 (lv_at hl 3 rfl) ?_
  refine lv_aload_n hx hb dX10_way_55 rfl (lv_at hl 0 rfl) ?_
  obtain ⟨r56, er56, h⟩ := bd_s1 h
  refine c_VI (k := 44) (ci := 10) (As := []) (rest := [.int x4]) hx hb hml hown hts hK hN hL hP hS (cX10_joints_ l bs D y hcb n  I J r56 er56) ok_X10_joints ov_X10_joints ml_135 ⟨Nat.le_of_ble_eq_true rfl, Nat.le_of_ble_eq_true rfl⟩ rfl hcb kd_44 hl.1 rfl rfl (Nat.le_of_ble_eq_true rfl) ⟨Nat.zero_le _, Nat.zero_le _⟩ dX10_way_56 (fun H locs hP hS => ?_)
  refine lv_icmp_ge (tgt := 96) hx hb dX10_way_59 (by decide) (fun c59 => ?_) (fun c59 => ?_)
  · replace h := if_t c59 h
    refine lv_iconst (v := (-1 : Int32)) hx hb dX10_way_96 (by decide) ?_
    exact r_I hx hb hr hlocks hP hK hN hL hS h dX10_way_97
  · replace h := if_f c59 h
    refine lv_aload_n hx hb dX10_way_62 rfl (lv_at hl 0 rfl) ?_
    refine g_R (C := RX10) (T := TX10) (N := 49) (ci := 10) 44 30 62 hx hb hts hown hK hP in_X10 rfl hcb okF_44_30 rfc_44_30 fl_178 dX10_way_63 ?_
    refine lv_bipush (v := (60 : Int32)) hx hb dX10_way_66 (by decide) ?_
    refine lv_iload_n hx hb dX10_way_68 rfl (lv_at hl 1 rfl) ?_
    refine lv_imul hx hb dX10_way_69 ?_
    refine lv_iload hx hb dX10_way_70 (lv_at hl 3 rfl) ?_
    refine lv_iadd hx hb dX10_way_72 ?_
    obtain ⟨hi73, h⟩ := if_s1 h
    refine a_Z 62 hx hb hK hP hcb alZ_62 hi73 dX10_way_73 ?_
    refine lv_if_ne (tgt := 80) hx hb dX10_way_74 (by decide) (fun c74 => ?_) (fun c74 => ?_)
    · replace h := if_f c74 h
      refine lv_iload_n hx hb dX10_way_80 rfl (lv_at hl 2 rfl) ?_
      refine lv_if_ne (tgt := 87) hx hb dX10_way_81 (by decide) (fun c81 => ?_) (fun c81 => ?_)
      · replace h := if_f c81 h
        refine lv_iinc (v := (x3 + (-1 : Int32))) (lv' := [(3, .int (x3 + (-1 : Int32))), (0, .ref (bs + 44)), (1, .int x1), (4, .int x4)]) hx hb dX10_way_87 hl (k := 2) rfl rfl (by decide) rfl (fun ls hl => ?_)
        exact wX10_way_90 bs D y n k53_ r Gc hk53_ x1 (x3 + (-1 : Int32)) x4 r56.2.1 r56.2.2 _ _ _ hP hS (lv_sub hl [1, 2, 0, 3] rfl) h
      · replace h := if_t c81 h
        refine lv_iload hx hb dX10_way_84 (lv_at hl 3 rfl) ?_
        exact r_I hx hb hr hlocks hP hK hN hL hS h dX10_way_86
    · replace h := if_t c74 h
      refine lv_goto (tgt := 90) hx hb dX10_way_77 (by decide) ?_
      exact wX10_way_90 bs D y n k53_ r Gc hk53_ x1 x3 x4 r56.2.1 r56.2.2 _ _ _ hP hS (lv_sub hl [0, 1, 2, 3] rfl) h
theorem vX10_way_53 {p : Program} {l : Launch} {e : Env} {s : State} {m : MethodId} {args : Array Value} {below : List Frame} {meth : Method} {c : Code} (bs : Nat) (D : va_G) (y : Y3) (n : Nat) (r : Int32 × M2) (Gc : Gx p s m args meth c cX10_way 5 RX10 bs D y (some .int) 76)  : ∀ (q : Nat) (x1 : Int32) (x3 : Int32) (x4 : Int32) (I : MI) (J : MJ) (H : Heap) (locs : List Loc) (ls : Array Slot), va_P D vwCl (wl bs y I J) H → va_S (FA bs) s.heap H locs → lv_has ls 5 [(0, .ref (bs + 44)), (1, .int x1), (3, .int x3), (4, .int x4)] → lX10_way_53 n  q x1 x3 x4 I J = some r → W p l e (rmm 1 21) s m args below meth c H locs 0 0 (QI below args s bs D y r) (F0 m 53 ls []) := by
  intro q
  induction q with
  | zero =>
    intro x1 x3 x4 I J H locs ls hP hS hl h
    have h : (none : Option (Int32 × M2)) = some r := h
    cases h
  | succ q ih =>
    intro x1 x3 x4 I J H locs ls hP hS hl h
    have h : fX10_way_53 n  (lX10_way_53 n  q) x1 x3 x4 I J = some r := h
    exact wX10_way_53 bs D y n  (lX10_way_53 n  q) r Gc  ih x1 x3 x4 I J H locs ls hP hS hl h
set_option maxHeartbeats 4000000 in
set_option maxRecDepth 100000 in
theorem wX10_way_41 {p : Program} {l : Launch} {e : Env} {s : State} {m : MethodId} {args : Array Value} {below : List Frame} {meth : Method} {c : Code} (bs : Nat) (D : va_G) (y : Y3) (n : Nat) (r : Int32 × M2) (Gc : Gx p s m args meth c cX10_way 5 RX10 bs D y (some .int) 76)  (I : MI) (J : MJ) (H : Heap) (locs : List Loc) (ls : Array Slot) (hP : va_P D vwCl (wl bs y I J) H) (hS : va_S (FA bs) s.heap H locs) (hl : lv_has ls 5 [(0, .ref (bs + 44))]) (h : fX10_way_41 n   I J = some r) : W p l e (rmm 1 21) s m args below meth c H locs 0 0 (QI below args s bs D y r) (F0 m 41 ls []) := by
  obtain ⟨hx, hb, hml, hown, hts, hK, hN, hL, hr, hlocks, hcb⟩ := id Gc
  unfold fX10_way_41 at h
  refine lv_aload_n hx hb dX10_way_41 rfl (lv_at hl 0 rfl) ?_
  refine lv_bipush (v := (-2 : Int32)) hx hb dX10_way_42 (by decide) ?_
  obtain ⟨r44, er44, h⟩ := bd_s1 h
  refine c_VI (k := 44) (ci := 10) (As := [.int (-2 : Int32)]) (rest := []) hx hb hml hown hts hK hN hL hP hS (cX10_no_ l bs D y hcb n (-2 : Int32) I J r44 er44) ok_X10_no ov_X10_no ml_118 ⟨Nat.le_of_ble_eq_true rfl, Nat.le_of_ble_eq_true rfl⟩ rfl hcb kd_44 hl.1 rfl rfl (Nat.le_of_ble_eq_true rfl) ⟨Nat.zero_le _, Nat.zero_le _⟩ dX10_way_44 (fun H locs hP hS => ?_)
  exact r_I hx hb hr hlocks hP hK hN hL hS h dX10_way_47
set_option maxHeartbeats 4000000 in
set_option maxRecDepth 100000 in
theorem cX10_way_ (l : Launch) (bs : Nat) (D : va_G) (y : Y3) (hcb : 76 ≤ y.2.2.2) (n : Nat) (x1 : Int32) (x2 : Int32) (I : MI) (J : MJ) (r : Int32 × M2) (h : fX10_way n x1 x2 I J = some r) : Met l yX10_way (.code yX10_way cX10_way 5 (some .int) :: gtb) (rmm 1 21) (va_Pc [.ref (bs + 44), .int x1, .int x2] (HB bs D y I J)) (QcI bs D y r) 0 0 (FA bs) := by
  refine Met.ofW (cc := cX10_way) (maxL := 5) (ret := (some .int)) (by decide) rfl ?_
  intro p e s m args below meth c s₁ B hml hv
  obtain ⟨rfl, hP, hK, hN, hL⟩ := hv
  have hx := B.exec
  have hb := B.bytes
  have hr := B.returns
  have hts0 := atoms_spec (ws := .code yX10_way cX10_way 5 (some .int) :: gtb) B.pre
  have hts : ∀ w ∈ gtb, w.before [.ref (bs + 44), .int x1, .int x2].toArray s = true := fun w hw => hts0 w (List.mem_cons_of_mem _ hw)
  have hown : s.vm.findClass RX10 = some m.cls := findClass_of_methodNamed B.named
  have hlocks := B.notSynchronized
  have hS : va_S (FA bs) s.heap s.heap [] := va_S.rf
  have Gc : Gx p s m [.ref (bs + 44), .int x1, .int x2].toArray meth c cX10_way 5 RX10 bs D y (some .int) 76 := ⟨hx, hb, hml, hown, hts, hK, hN, hL, hr, hlocks, hcb⟩
  have hl := lv_entry [.ref (bs + 44), .int x1, .int x2] (n := 5) (Nat.le_of_ble_eq_true rfl)
  rw [lg_entry_eq]
  generalize (lg_sl [.ref (bs + 44), .int x1, .int x2] ++ List.replicate (5 - (lg_sl [.ref (bs + 44), .int x1, .int x2]).length) Slot.unset).toArray = ls at hl ⊢
  have hl : lv_has ls 5 [(0, .ref (bs + 44)), (1, .int x1), (2, .int x2)] := hl
  change W p l e (rmm 1 21) s m [.ref (bs + 44), .int x1, .int x2].toArray below meth c s.heap [] 0 0 (QI below [.ref (bs + 44), .int x1, .int x2].toArray s bs D y r) (F0 m 0 ls [])
  unfold fX10_way at h
  refine lv_aload_n hx hb dX10_way_0 rfl (lv_at hl 0 rfl) ?_
  refine lv_iload_n hx hb dX10_way_1 rfl (lv_at hl 1 rfl) ?_
  obtain ⟨r2, er2, h⟩ := bd_s1 h
  refine c_VI (k := 44) (ci := 10) (As := [.int x1]) (rest := []) hx hb hml hown hts hK hN hL hP hS (cX10_isCell_ l bs D y hcb n x1 I J r2 er2) ok_X10_isCell ov_X10_isCell ml_122 ⟨Nat.le_of_ble_eq_true rfl, Nat.le_of_ble_eq_true rfl⟩ rfl hcb kd_44 hl.1 rfl rfl (Nat.le_of_ble_eq_true rfl) ⟨Nat.zero_le _, Nat.zero_le _⟩ dX10_way_2 (fun H locs hP hS => ?_)
  refine lv_if_ne (tgt := 15) hx hb dX10_way_5 (by decide) (fun c5 => ?_) (fun c5 => ?_)
  · replace h := if_f c5 h
    refine lv_iload_n hx hb dX10_way_15 rfl (lv_at hl 2 rfl) ?_
    refine lv_if_ge (tgt := 26) hx hb dX10_way_16 (by decide) (fun c16 => ?_) (fun c16 => ?_)
    · replace h := if_t c16 h
      refine lv_aload_n hx hb dX10_way_26 rfl (lv_at hl 0 rfl) ?_
      refine g_I (C := RX10) (T := TX10) (N := 49) (ci := 10) 44 13 hx hb hts hown hK hP in_X10 rfl hcb okF_44_13 fl_150 dX10_way_27 ?_
      refine lv_if_eq (tgt := 41) hx hb dX10_way_30 (by decide) (fun c30 => ?_) (fun c30 => ?_)
      · replace h := if_t c30 h
        exact wX10_way_41 bs D y n  r Gc   r2.2.1 r2.2.2 _ _ _ hP hS (lv_sub hl [0] rfl) h
      · replace h := if_f c30 h
        refine lv_aload_n hx hb dX10_way_33 rfl (lv_at hl 0 rfl) ?_
        refine lv_iload_n hx hb dX10_way_34 rfl (lv_at hl 1 rfl) ?_
        obtain ⟨r35, er35, h⟩ := bd_s1 h
        refine c_VI (k := 44) (ci := 10) (As := [.int x1]) (rest := []) hx hb hml hown hts hK hN hL hP hS (cX10_isThing_ l bs D y hcb n x1 r2.2.1 r2.2.2 r35 er35) ok_X10_isThing ov_X10_isThing ml_137 ⟨Nat.le_of_ble_eq_true rfl, Nat.le_of_ble_eq_true rfl⟩ rfl hcb kd_44 hl.1 rfl rfl (Nat.le_of_ble_eq_true rfl) ⟨Nat.zero_le _, Nat.zero_le _⟩ dX10_way_35 (fun H locs hP hS => ?_)
        refine lv_if_ne (tgt := 48) hx hb dX10_way_38 (by decide) (fun c38 => ?_) (fun c38 => ?_)
        · replace h := if_f c38 h
          refine lv_iload_n hx hb dX10_way_48 rfl (lv_at hl 2 rfl) ?_
          refine lv_istore_n (lv' := [(3, .int x2), (0, .ref (bs + 44)), (1, .int x1), (2, .int x2)]) hx hb dX10_way_49 rfl hl (by decide) rfl (fun ls hl => ?_)
          refine lv_iconst (v := (0 : Int32)) hx hb dX10_way_50 (by decide) ?_
          refine lv_istore (lv' := [(4, .int (0 : Int32)), (3, .int x2), (0, .ref (bs + 44)), (1, .int x1), (2, .int x2)]) hx hb dX10_way_51 hl (by decide) rfl (fun ls hl => ?_)
          exact vX10_way_53 bs D y n  r Gc  n x1 x2 (0 : Int32) r35.2.1 r35.2.2 _ _ _ hP hS (lv_sub hl [2, 3, 1, 0] rfl) h
        · replace h := if_t c38 h
          exact wX10_way_41 bs D y n  r Gc   r35.2.1 r35.2.2 _ _ _ hP hS (lv_sub hl [0] rfl) h
    · replace h := if_f c16 h
      refine lv_aload_n hx hb dX10_way_19 rfl (lv_at hl 0 rfl) ?_
      refine lv_bipush (v := (-4 : Int32)) hx hb dX10_way_20 (by decide) ?_
      obtain ⟨r22, er22, h⟩ := bd_s1 h
      refine c_VI (k := 44) (ci := 10) (As := [.int (-4 : Int32)]) (rest := []) hx hb hml hown hts hK hN hL hP hS (cX10_no_ l bs D y hcb n (-4 : Int32) r2.2.1 r2.2.2 r22 er22) ok_X10_no ov_X10_no ml_118 ⟨Nat.le_of_ble_eq_true rfl, Nat.le_of_ble_eq_true rfl⟩ rfl hcb kd_44 hl.1 rfl rfl (Nat.le_of_ble_eq_true rfl) ⟨Nat.zero_le _, Nat.zero_le _⟩ dX10_way_22 (fun H locs hP hS => ?_)
      exact r_I hx hb hr hlocks hP hK hN hL hS h dX10_way_25
  · replace h := if_t c5 h
    refine lv_aload_n hx hb dX10_way_8 rfl (lv_at hl 0 rfl) ?_
    refine lv_bipush (v := (-3 : Int32)) hx hb dX10_way_9 (by decide) ?_
    obtain ⟨r11, er11, h⟩ := bd_s1 h
    refine c_VI (k := 44) (ci := 10) (As := [.int (-3 : Int32)]) (rest := []) hx hb hml hown hts hK hN hL hP hS (cX10_no_ l bs D y hcb n (-3 : Int32) r2.2.1 r2.2.2 r11 er11) ok_X10_no ov_X10_no ml_118 ⟨Nat.le_of_ble_eq_true rfl, Nat.le_of_ble_eq_true rfl⟩ rfl hcb kd_44 hl.1 rfl rfl (Nat.le_of_ble_eq_true rfl) ⟨Nat.zero_le _, Nat.zero_le _⟩ dX10_way_11 (fun H locs hP hS => ?_)
    exact r_I hx hb hr hlocks hP hK hN hL hS h dX10_way_14
theorem dX10_side_0 : decode cX10_side 0 = .ok (.aload_n 0, 1) := by decide +kernel
theorem dX10_side_1 : decode cX10_side 1 = .ok (.iload_n 1, 1) := by decide +kernel
theorem dX10_side_2 : decode cX10_side 2 = .ok (.invokevirtual 305, 3) := by decide +kernel
theorem dX10_side_5 : decode cX10_side 5 = .ok (.ifCond .ne 10, 3) := by decide +kernel
theorem dX10_side_8 : decode cX10_side 8 = .ok (.aload_n 0, 1) := by decide +kernel
theorem dX10_side_9 : decode cX10_side 9 = .ok (.bipush (-3), 2) := by decide +kernel
theorem dX10_side_11 : decode cX10_side 11 = .ok (.invokevirtual 151, 3) := by decide +kernel
theorem dX10_side_14 : decode cX10_side 14 = .ok (.ireturn, 1) := by decide +kernel
theorem dX10_side_15 : decode cX10_side 15 = .ok (.iload_n 2, 1) := by decide +kernel
theorem dX10_side_16 : decode cX10_side 16 = .ok (.i2l, 1) := by decide +kernel
theorem dX10_side_17 : decode cX10_side 17 = .ok (.lconst 0, 1) := by decide +kernel
theorem dX10_side_18 : decode cX10_side 18 = .ok (.ldc2_w 162, 3) := by decide +kernel
theorem dX10_side_21 : decode cX10_side 21 = .ok (.invokestatic 164, 3) := by decide +kernel
theorem dX10_side_24 : decode cX10_side 24 = .ok (.ifCond .ne 10, 3) := by decide +kernel
theorem dX10_side_27 : decode cX10_side 27 = .ok (.aload_n 0, 1) := by decide +kernel
theorem dX10_side_28 : decode cX10_side 28 = .ok (.bipush (-7), 2) := by decide +kernel
theorem dX10_side_30 : decode cX10_side 30 = .ok (.invokevirtual 151, 3) := by decide +kernel
theorem dX10_side_33 : decode cX10_side 33 = .ok (.ireturn, 1) := by decide +kernel
theorem dX10_side_34 : decode cX10_side 34 = .ok (.iload_n 2, 1) := by decide +kernel
theorem dX10_side_35 : decode cX10_side 35 = .ok (.ifCond .ne 11, 3) := by decide +kernel
theorem dX10_side_38 : decode cX10_side 38 = .ok (.aload_n 0, 1) := by decide +kernel
theorem dX10_side_39 : decode cX10_side 39 = .ok (.iload_n 1, 1) := by decide +kernel
theorem dX10_side_40 : decode cX10_side 40 = .ok (.invokevirtual 278, 3) := by decide +kernel
theorem dX10_side_43 : decode cX10_side 43 = .ok (.goto 33, 3) := by decide +kernel
theorem dX10_side_46 : decode cX10_side 46 = .ok (.iload_n 2, 1) := by decide +kernel
theorem dX10_side_47 : decode cX10_side 47 = .ok (.iconst 1, 1) := by decide +kernel
theorem dX10_side_48 : decode cX10_side 48 = .ok (.if_icmp .ne 11, 3) := by decide +kernel
theorem dX10_side_51 : decode cX10_side 51 = .ok (.aload_n 0, 1) := by decide +kernel
theorem dX10_side_52 : decode cX10_side 52 = .ok (.iload_n 1, 1) := by decide +kernel
theorem dX10_side_53 : decode cX10_side 53 = .ok (.invokevirtual 282, 3) := by decide +kernel
theorem dX10_side_56 : decode cX10_side 56 = .ok (.goto 20, 3) := by decide +kernel
theorem dX10_side_59 : decode cX10_side 59 = .ok (.aload_n 0, 1) := by decide +kernel
theorem dX10_side_60 : decode cX10_side 60 = .ok (.getfield 133, 3) := by decide +kernel
theorem dX10_side_63 : decode cX10_side 63 = .ok (.ifCond .eq 12, 3) := by decide +kernel
theorem dX10_side_66 : decode cX10_side 66 = .ok (.aload_n 0, 1) := by decide +kernel
theorem dX10_side_67 : decode cX10_side 67 = .ok (.getfield 81, 3) := by decide +kernel
theorem dX10_side_70 : decode cX10_side 70 = .ok (.iload_n 1, 1) := by decide +kernel
theorem dX10_side_71 : decode cX10_side 71 = .ok (.iaload, 1) := by decide +kernel
theorem dX10_side_72 : decode cX10_side 72 = .ok (.goto 4, 3) := by decide +kernel
theorem dX10_side_75 : decode cX10_side 75 = .ok (.iconst 0, 1) := by decide +kernel
theorem dX10_side_76 : decode cX10_side 76 = .ok (.ireturn, 1) := by decide +kernel
set_option maxHeartbeats 4000000 in
set_option maxRecDepth 100000 in
theorem cX10_side_ (l : Launch) (bs : Nat) (D : va_G) (y : Y3) (hcb : 76 ≤ y.2.2.2) (n : Nat) (x1 : Int32) (x2 : Int32) (I : MI) (J : MJ) (r : Int32 × M2) (h : fX10_side n x1 x2 I J = some r) : Met l yX10_side (.code yX10_side cX10_side 3 (some .int) :: gtb) (rmm 2 43) (va_Pc [.ref (bs + 44), .int x1, .int x2] (HB bs D y I J)) (QcI bs D y r) 0 0 (FA bs) := by
  refine Met.ofW (cc := cX10_side) (maxL := 3) (ret := (some .int)) (by decide) rfl ?_
  intro p e s m args below meth c s₁ B hml hv
  obtain ⟨rfl, hP, hK, hN, hL⟩ := hv
  have hx := B.exec
  have hb := B.bytes
  have hr := B.returns
  have hts0 := atoms_spec (ws := .code yX10_side cX10_side 3 (some .int) :: gtb) B.pre
  have hts : ∀ w ∈ gtb, w.before [.ref (bs + 44), .int x1, .int x2].toArray s = true := fun w hw => hts0 w (List.mem_cons_of_mem _ hw)
  have hown : s.vm.findClass RX10 = some m.cls := findClass_of_methodNamed B.named
  have hlocks := B.notSynchronized
  have hS : va_S (FA bs) s.heap s.heap [] := va_S.rf
  have Gc : Gx p s m [.ref (bs + 44), .int x1, .int x2].toArray meth c cX10_side 3 RX10 bs D y (some .int) 76 := ⟨hx, hb, hml, hown, hts, hK, hN, hL, hr, hlocks, hcb⟩
  have hl := lv_entry [.ref (bs + 44), .int x1, .int x2] (n := 3) (Nat.le_of_ble_eq_true rfl)
  rw [lg_entry_eq]
  generalize (lg_sl [.ref (bs + 44), .int x1, .int x2] ++ List.replicate (3 - (lg_sl [.ref (bs + 44), .int x1, .int x2]).length) Slot.unset).toArray = ls at hl ⊢
  have hl : lv_has ls 3 [(0, .ref (bs + 44)), (1, .int x1), (2, .int x2)] := hl
  change W p l e (rmm 2 43) s m [.ref (bs + 44), .int x1, .int x2].toArray below meth c s.heap [] 0 0 (QI below [.ref (bs + 44), .int x1, .int x2].toArray s bs D y r) (F0 m 0 ls [])
  unfold fX10_side at h
  refine lv_aload_n hx hb dX10_side_0 rfl (lv_at hl 0 rfl) ?_
  refine lv_iload_n hx hb dX10_side_1 rfl (lv_at hl 1 rfl) ?_
  obtain ⟨r2, er2, h⟩ := bd_s1 h
  refine c_VI (k := 44) (ci := 10) (As := [.int x1]) (rest := []) hx hb hml hown hts hK hN hL hP hS (cX10_isJoint_ l bs D y hcb n x1 I J r2 er2) ok_X10_isJoint ov_X10_isJoint ml_157 ⟨Nat.le_of_ble_eq_true rfl, Nat.le_of_ble_eq_true rfl⟩ rfl hcb kd_44 hl.1 rfl rfl (Nat.le_of_ble_eq_true rfl) ⟨Nat.zero_le _, Nat.zero_le _⟩ dX10_side_2 (fun H locs hP hS => ?_)
  refine lv_if_ne (tgt := 15) hx hb dX10_side_5 (by decide) (fun c5 => ?_) (fun c5 => ?_)
  · replace h := if_f c5 h
    refine lv_iload_n hx hb dX10_side_15 rfl (lv_at hl 2 rfl) ?_
    refine lv_i2l (v := (x2).toInt64) hx hb dX10_side_16 rfl ?_
    refine lv_lconst (v := (0 : Int64)) hx hb dX10_side_17 (by decide) ?_
    refine lv_ldc2 hx hb hown (hts _ cl_9) dX10_side_18 ?_
    obtain ⟨r21, er21, h⟩ := bd_s1 h
    refine c_SI (As := [.long (x2).toInt64, .long (0 : Int64), .long (2 : Int64)]) (rest := []) hx hb hml hown hts hK hN hL hP hS (cX10_isIn_ l bs D y hcb n (x2).toInt64 (0 : Int64) (2 : Int64) r2.2.1 r2.2.2 r21 er21) ok_X10_isIn ov_X10_isIn ml_120 ⟨Nat.le_of_ble_eq_true rfl, Nat.le_of_ble_eq_true rfl⟩ hl.1 rfl rfl (Nat.le_of_ble_eq_true rfl) ⟨Nat.zero_le _, Nat.zero_le _⟩ dX10_side_21 (fun H locs hP hS => ?_)
    refine lv_if_ne (tgt := 34) hx hb dX10_side_24 (by decide) (fun c24 => ?_) (fun c24 => ?_)
    · replace h := if_f c24 h
      refine lv_iload_n hx hb dX10_side_34 rfl (lv_at hl 2 rfl) ?_
      refine lv_if_ne (tgt := 46) hx hb dX10_side_35 (by decide) (fun c35 => ?_) (fun c35 => ?_)
      · replace h := if_f c35 h
        refine lv_iload_n hx hb dX10_side_46 rfl (lv_at hl 2 rfl) ?_
        refine lv_iconst (v := (1 : Int32)) hx hb dX10_side_47 (by decide) ?_
        refine lv_icmp_ne (tgt := 59) hx hb dX10_side_48 (by decide) (fun c48 => ?_) (fun c48 => ?_)
        · replace h := if_f c48 h
          refine lv_aload_n hx hb dX10_side_59 rfl (lv_at hl 0 rfl) ?_
          refine g_I (C := RX10) (T := TX10) (N := 49) (ci := 10) 44 13 hx hb hts hown hK hP in_X10 rfl hcb okF_44_13 fl_150 dX10_side_60 ?_
          refine lv_if_eq (tgt := 75) hx hb dX10_side_63 (by decide) (fun c63 => ?_) (fun c63 => ?_)
          · replace h := if_t c63 h
            refine lv_iconst (v := (0 : Int32)) hx hb dX10_side_75 (by decide) ?_
            exact r_I hx hb hr hlocks hP hK hN hL hS h dX10_side_76
          · replace h := if_f c63 h
            refine lv_aload_n hx hb dX10_side_66 rfl (lv_at hl 0 rfl) ?_
            refine g_R (C := RX10) (T := TX10) (N := 49) (ci := 10) 44 32 64 hx hb hts hown hK hP in_X10 rfl hcb okF_44_32 rfc_44_32 fl_175 dX10_side_67 ?_
            refine lv_iload_n hx hb dX10_side_70 rfl (lv_at hl 1 rfl) ?_
            obtain ⟨hi71, h⟩ := if_s1 h
            refine a_I 64 hx hb hK hP hcb aln_64 hi71 dX10_side_71 ?_
            refine lv_goto (tgt := 76) hx hb dX10_side_72 (by decide) ?_
            exact r_I hx hb hr hlocks hP hK hN hL hS h dX10_side_76
        · replace h := if_t c48 h
          refine lv_aload_n hx hb dX10_side_51 rfl (lv_at hl 0 rfl) ?_
          refine lv_iload_n hx hb dX10_side_52 rfl (lv_at hl 1 rfl) ?_
          obtain ⟨r53, er53, h⟩ := bd_s1 h
          refine c_VI (k := 44) (ci := 10) (As := [.int x1]) (rest := []) hx hb hml hown hts hK hN hL hP hS (cX10_greater_ l bs D y hcb n x1 r21.2.1 r21.2.2 r53 er53) ok_X10_greater ov_X10_greater ml_151 ⟨Nat.le_of_ble_eq_true rfl, Nat.le_of_ble_eq_true rfl⟩ rfl hcb kd_44 hl.1 rfl rfl (Nat.le_of_ble_eq_true rfl) ⟨Nat.zero_le _, Nat.zero_le _⟩ dX10_side_53 (fun H locs hP hS => ?_)
          refine lv_goto (tgt := 76) hx hb dX10_side_56 (by decide) ?_
          exact r_I hx hb hr hlocks hP hK hN hL hS h dX10_side_76
      · replace h := if_t c35 h
        refine lv_aload_n hx hb dX10_side_38 rfl (lv_at hl 0 rfl) ?_
        refine lv_iload_n hx hb dX10_side_39 rfl (lv_at hl 1 rfl) ?_
        obtain ⟨r40, er40, h⟩ := bd_s1 h
        refine c_VI (k := 44) (ci := 10) (As := [.int x1]) (rest := []) hx hb hml hown hts hK hN hL hP hS (cX10_lesser_ l bs D y hcb n x1 r21.2.1 r21.2.2 r40 er40) ok_X10_lesser ov_X10_lesser ml_149 ⟨Nat.le_of_ble_eq_true rfl, Nat.le_of_ble_eq_true rfl⟩ rfl hcb kd_44 hl.1 rfl rfl (Nat.le_of_ble_eq_true rfl) ⟨Nat.zero_le _, Nat.zero_le _⟩ dX10_side_40 (fun H locs hP hS => ?_)
        refine lv_goto (tgt := 76) hx hb dX10_side_43 (by decide) ?_
        exact r_I hx hb hr hlocks hP hK hN hL hS h dX10_side_76
    · replace h := if_t c24 h
      refine lv_aload_n hx hb dX10_side_27 rfl (lv_at hl 0 rfl) ?_
      refine lv_bipush (v := (-7 : Int32)) hx hb dX10_side_28 (by decide) ?_
      obtain ⟨r30, er30, h⟩ := bd_s1 h
      refine c_VI (k := 44) (ci := 10) (As := [.int (-7 : Int32)]) (rest := []) hx hb hml hown hts hK hN hL hP hS (cX10_no_ l bs D y hcb n (-7 : Int32) r21.2.1 r21.2.2 r30 er30) ok_X10_no ov_X10_no ml_118 ⟨Nat.le_of_ble_eq_true rfl, Nat.le_of_ble_eq_true rfl⟩ rfl hcb kd_44 hl.1 rfl rfl (Nat.le_of_ble_eq_true rfl) ⟨Nat.zero_le _, Nat.zero_le _⟩ dX10_side_30 (fun H locs hP hS => ?_)
      exact r_I hx hb hr hlocks hP hK hN hL hS h dX10_side_33
  · replace h := if_t c5 h
    refine lv_aload_n hx hb dX10_side_8 rfl (lv_at hl 0 rfl) ?_
    refine lv_bipush (v := (-3 : Int32)) hx hb dX10_side_9 (by decide) ?_
    obtain ⟨r11, er11, h⟩ := bd_s1 h
    refine c_VI (k := 44) (ci := 10) (As := [.int (-3 : Int32)]) (rest := []) hx hb hml hown hts hK hN hL hP hS (cX10_no_ l bs D y hcb n (-3 : Int32) r2.2.1 r2.2.2 r11 er11) ok_X10_no ov_X10_no ml_118 ⟨Nat.le_of_ble_eq_true rfl, Nat.le_of_ble_eq_true rfl⟩ rfl hcb kd_44 hl.1 rfl rfl (Nat.le_of_ble_eq_true rfl) ⟨Nat.zero_le _, Nat.zero_le _⟩ dX10_side_11 (fun H locs hP hS => ?_)
    exact r_I hx hb hr hlocks hP hK hN hL hS h dX10_side_14
theorem dX10_longestOf_0 : decode cX10_longestOf 0 = .ok (.aload_n 0, 1) := by decide +kernel
theorem dX10_longestOf_1 : decode cX10_longestOf 1 = .ok (.iload_n 1, 1) := by decide +kernel
theorem dX10_longestOf_2 : decode cX10_longestOf 2 = .ok (.invokevirtual 267, 3) := by decide +kernel
theorem dX10_longestOf_5 : decode cX10_longestOf 5 = .ok (.lstore_n 2, 1) := by decide +kernel
theorem dX10_longestOf_6 : decode cX10_longestOf 6 = .ok (.iconst 0, 1) := by decide +kernel
theorem dX10_longestOf_7 : decode cX10_longestOf 7 = .ok (.istore 4, 2) := by decide +kernel
theorem dX10_longestOf_9 : decode cX10_longestOf 9 = .ok (.iload 4, 2) := by decide +kernel
theorem dX10_longestOf_11 : decode cX10_longestOf 11 = .ok (.aload_n 0, 1) := by decide +kernel
theorem dX10_longestOf_12 : decode cX10_longestOf 12 = .ok (.invokevirtual 216, 3) := by decide +kernel
theorem dX10_longestOf_15 : decode cX10_longestOf 15 = .ok (.if_icmp .ge 34, 3) := by decide +kernel
theorem dX10_longestOf_18 : decode cX10_longestOf 18 = .ok (.aload_n 0, 1) := by decide +kernel
theorem dX10_longestOf_19 : decode cX10_longestOf 19 = .ok (.getfield 84, 3) := by decide +kernel
theorem dX10_longestOf_22 : decode cX10_longestOf 22 = .ok (.iload 4, 2) := by decide +kernel
theorem dX10_longestOf_24 : decode cX10_longestOf 24 = .ok (.iload 4, 2) := by decide +kernel
theorem dX10_longestOf_26 : decode cX10_longestOf 26 = .ok (.aload_n 0, 1) := by decide +kernel
theorem dX10_longestOf_27 : decode cX10_longestOf 27 = .ok (.getfield 72, 3) := by decide +kernel
theorem dX10_longestOf_30 : decode cX10_longestOf 30 = .ok (.iload_n 1, 1) := by decide +kernel
theorem dX10_longestOf_31 : decode cX10_longestOf 31 = .ok (.iaload, 1) := by decide +kernel
theorem dX10_longestOf_32 : decode cX10_longestOf 32 = .ok (.if_icmp .ne 7, 3) := by decide +kernel
theorem dX10_longestOf_35 : decode cX10_longestOf 35 = .ok (.iconst 0, 1) := by decide +kernel
theorem dX10_longestOf_36 : decode cX10_longestOf 36 = .ok (.goto 6, 3) := by decide +kernel
theorem dX10_longestOf_39 : decode cX10_longestOf 39 = .ok (.sipush 1000, 3) := by decide +kernel
theorem dX10_longestOf_42 : decode cX10_longestOf 42 = .ok (.iastore, 1) := by decide +kernel
theorem dX10_longestOf_43 : decode cX10_longestOf 43 = .ok (.iinc 4 1, 3) := by decide +kernel
theorem dX10_longestOf_46 : decode cX10_longestOf 46 = .ok (.goto (-37), 3) := by decide +kernel
theorem dX10_longestOf_49 : decode cX10_longestOf 49 = .ok (.iconst 0, 1) := by decide +kernel
theorem dX10_longestOf_50 : decode cX10_longestOf 50 = .ok (.istore 4, 2) := by decide +kernel
theorem dX10_longestOf_52 : decode cX10_longestOf 52 = .ok (.iload 4, 2) := by decide +kernel
theorem dX10_longestOf_54 : decode cX10_longestOf 54 = .ok (.aload_n 0, 1) := by decide +kernel
theorem dX10_longestOf_55 : decode cX10_longestOf 55 = .ok (.invokevirtual 216, 3) := by decide +kernel
theorem dX10_longestOf_58 : decode cX10_longestOf 58 = .ok (.if_icmp .ge 131, 3) := by decide +kernel
theorem dX10_longestOf_61 : decode cX10_longestOf 61 = .ok (.iconst 0, 1) := by decide +kernel
theorem dX10_longestOf_62 : decode cX10_longestOf 62 = .ok (.istore 5, 2) := by decide +kernel
theorem dX10_longestOf_64 : decode cX10_longestOf 64 = .ok (.iload 5, 2) := by decide +kernel
theorem dX10_longestOf_66 : decode cX10_longestOf 66 = .ok (.aload_n 0, 1) := by decide +kernel
theorem dX10_longestOf_67 : decode cX10_longestOf 67 = .ok (.invokevirtual 230, 3) := by decide +kernel
theorem dX10_longestOf_70 : decode cX10_longestOf 70 = .ok (.if_icmp .ge 113, 3) := by decide +kernel
theorem dX10_longestOf_73 : decode cX10_longestOf 73 = .ok (.aload_n 0, 1) := by decide +kernel
theorem dX10_longestOf_74 : decode cX10_longestOf 74 = .ok (.iload 5, 2) := by decide +kernel
theorem dX10_longestOf_76 : decode cX10_longestOf 76 = .ok (.invokevirtual 278, 3) := by decide +kernel
theorem dX10_longestOf_79 : decode cX10_longestOf 79 = .ok (.istore 6, 2) := by decide +kernel
theorem dX10_longestOf_81 : decode cX10_longestOf 81 = .ok (.aload_n 0, 1) := by decide +kernel
theorem dX10_longestOf_82 : decode cX10_longestOf 82 = .ok (.iload 5, 2) := by decide +kernel
theorem dX10_longestOf_84 : decode cX10_longestOf 84 = .ok (.invokevirtual 282, 3) := by decide +kernel
theorem dX10_longestOf_87 : decode cX10_longestOf 87 = .ok (.istore 7, 2) := by decide +kernel
theorem dX10_longestOf_89 : decode cX10_longestOf 89 = .ok (.aload_n 0, 1) := by decide +kernel
theorem dX10_longestOf_90 : decode cX10_longestOf 90 = .ok (.getfield 75, 3) := by decide +kernel
theorem dX10_longestOf_93 : decode cX10_longestOf 93 = .ok (.bipush 60, 2) := by decide +kernel
theorem dX10_longestOf_95 : decode cX10_longestOf 95 = .ok (.iload_n 1, 1) := by decide +kernel
theorem dX10_longestOf_96 : decode cX10_longestOf 96 = .ok (.imul, 1) := by decide +kernel
theorem dX10_longestOf_97 : decode cX10_longestOf 97 = .ok (.iload 5, 2) := by decide +kernel
theorem dX10_longestOf_99 : decode cX10_longestOf 99 = .ok (.iadd, 1) := by decide +kernel
theorem dX10_longestOf_100 : decode cX10_longestOf 100 = .ok (.baload, 1) := by decide +kernel
theorem dX10_longestOf_101 : decode cX10_longestOf 101 = .ok (.ifCond .ne 6, 3) := by decide +kernel
theorem dX10_longestOf_104 : decode cX10_longestOf 104 = .ok (.goto 73, 3) := by decide +kernel
theorem dX10_longestOf_107 : decode cX10_longestOf 107 = .ok (.aload_n 0, 1) := by decide +kernel
theorem dX10_longestOf_108 : decode cX10_longestOf 108 = .ok (.getfield 84, 3) := by decide +kernel
theorem dX10_longestOf_111 : decode cX10_longestOf 111 = .ok (.iload 6, 2) := by decide +kernel
theorem dX10_longestOf_113 : decode cX10_longestOf 113 = .ok (.iaload, 1) := by decide +kernel
theorem dX10_longestOf_114 : decode cX10_longestOf 114 = .ok (.iconst 1, 1) := by decide +kernel
theorem dX10_longestOf_115 : decode cX10_longestOf 115 = .ok (.iadd, 1) := by decide +kernel
theorem dX10_longestOf_116 : decode cX10_longestOf 116 = .ok (.aload_n 0, 1) := by decide +kernel
theorem dX10_longestOf_117 : decode cX10_longestOf 117 = .ok (.getfield 84, 3) := by decide +kernel
theorem dX10_longestOf_120 : decode cX10_longestOf 120 = .ok (.iload 7, 2) := by decide +kernel
theorem dX10_longestOf_122 : decode cX10_longestOf 122 = .ok (.iaload, 1) := by decide +kernel
theorem dX10_longestOf_123 : decode cX10_longestOf 123 = .ok (.if_icmp .ge 19, 3) := by decide +kernel
theorem dX10_longestOf_126 : decode cX10_longestOf 126 = .ok (.aload_n 0, 1) := by decide +kernel
theorem dX10_longestOf_127 : decode cX10_longestOf 127 = .ok (.getfield 84, 3) := by decide +kernel
theorem dX10_longestOf_130 : decode cX10_longestOf 130 = .ok (.iload 7, 2) := by decide +kernel
theorem dX10_longestOf_132 : decode cX10_longestOf 132 = .ok (.aload_n 0, 1) := by decide +kernel
theorem dX10_longestOf_133 : decode cX10_longestOf 133 = .ok (.getfield 84, 3) := by decide +kernel
theorem dX10_longestOf_136 : decode cX10_longestOf 136 = .ok (.iload 6, 2) := by decide +kernel
theorem dX10_longestOf_138 : decode cX10_longestOf 138 = .ok (.iaload, 1) := by decide +kernel
theorem dX10_longestOf_139 : decode cX10_longestOf 139 = .ok (.iconst 1, 1) := by decide +kernel
theorem dX10_longestOf_140 : decode cX10_longestOf 140 = .ok (.iadd, 1) := by decide +kernel
theorem dX10_longestOf_141 : decode cX10_longestOf 141 = .ok (.iastore, 1) := by decide +kernel
theorem dX10_longestOf_142 : decode cX10_longestOf 142 = .ok (.aload_n 0, 1) := by decide +kernel
theorem dX10_longestOf_143 : decode cX10_longestOf 143 = .ok (.getfield 84, 3) := by decide +kernel
theorem dX10_longestOf_146 : decode cX10_longestOf 146 = .ok (.iload 7, 2) := by decide +kernel
theorem dX10_longestOf_148 : decode cX10_longestOf 148 = .ok (.iaload, 1) := by decide +kernel
theorem dX10_longestOf_149 : decode cX10_longestOf 149 = .ok (.iconst 1, 1) := by decide +kernel
theorem dX10_longestOf_150 : decode cX10_longestOf 150 = .ok (.iadd, 1) := by decide +kernel
theorem dX10_longestOf_151 : decode cX10_longestOf 151 = .ok (.aload_n 0, 1) := by decide +kernel
theorem dX10_longestOf_152 : decode cX10_longestOf 152 = .ok (.getfield 84, 3) := by decide +kernel
theorem dX10_longestOf_155 : decode cX10_longestOf 155 = .ok (.iload 6, 2) := by decide +kernel
theorem dX10_longestOf_157 : decode cX10_longestOf 157 = .ok (.iaload, 1) := by decide +kernel
theorem dX10_longestOf_158 : decode cX10_longestOf 158 = .ok (.if_icmp .ge 19, 3) := by decide +kernel
theorem dX10_longestOf_161 : decode cX10_longestOf 161 = .ok (.aload_n 0, 1) := by decide +kernel
theorem dX10_longestOf_162 : decode cX10_longestOf 162 = .ok (.getfield 84, 3) := by decide +kernel
theorem dX10_longestOf_165 : decode cX10_longestOf 165 = .ok (.iload 6, 2) := by decide +kernel
theorem dX10_longestOf_167 : decode cX10_longestOf 167 = .ok (.aload_n 0, 1) := by decide +kernel
theorem dX10_longestOf_168 : decode cX10_longestOf 168 = .ok (.getfield 84, 3) := by decide +kernel
theorem dX10_longestOf_171 : decode cX10_longestOf 171 = .ok (.iload 7, 2) := by decide +kernel
theorem dX10_longestOf_173 : decode cX10_longestOf 173 = .ok (.iaload, 1) := by decide +kernel
theorem dX10_longestOf_174 : decode cX10_longestOf 174 = .ok (.iconst 1, 1) := by decide +kernel
theorem dX10_longestOf_175 : decode cX10_longestOf 175 = .ok (.iadd, 1) := by decide +kernel
theorem dX10_longestOf_176 : decode cX10_longestOf 176 = .ok (.iastore, 1) := by decide +kernel
theorem dX10_longestOf_177 : decode cX10_longestOf 177 = .ok (.iinc 5 1, 3) := by decide +kernel
theorem dX10_longestOf_180 : decode cX10_longestOf 180 = .ok (.goto (-116), 3) := by decide +kernel
theorem dX10_longestOf_183 : decode cX10_longestOf 183 = .ok (.iinc 4 1, 3) := by decide +kernel
theorem dX10_longestOf_186 : decode cX10_longestOf 186 = .ok (.goto (-134), 3) := by decide +kernel
theorem dX10_longestOf_189 : decode cX10_longestOf 189 = .ok (.iconst 0, 1) := by decide +kernel
theorem dX10_longestOf_190 : decode cX10_longestOf 190 = .ok (.istore 4, 2) := by decide +kernel
theorem dX10_longestOf_192 : decode cX10_longestOf 192 = .ok (.iconst 0, 1) := by decide +kernel
theorem dX10_longestOf_193 : decode cX10_longestOf 193 = .ok (.istore 5, 2) := by decide +kernel
theorem dX10_longestOf_195 : decode cX10_longestOf 195 = .ok (.iload 5, 2) := by decide +kernel
theorem dX10_longestOf_197 : decode cX10_longestOf 197 = .ok (.aload_n 0, 1) := by decide +kernel
theorem dX10_longestOf_198 : decode cX10_longestOf 198 = .ok (.invokevirtual 216, 3) := by decide +kernel
theorem dX10_longestOf_201 : decode cX10_longestOf 201 = .ok (.if_icmp .ge 41, 3) := by decide +kernel
theorem dX10_longestOf_204 : decode cX10_longestOf 204 = .ok (.lload_n 2, 1) := by decide +kernel
theorem dX10_longestOf_205 : decode cX10_longestOf 205 = .ok (.iload 5, 2) := by decide +kernel
theorem dX10_longestOf_207 : decode cX10_longestOf 207 = .ok (.lshr, 1) := by decide +kernel
theorem dX10_longestOf_208 : decode cX10_longestOf 208 = .ok (.lconst 1, 1) := by decide +kernel
theorem dX10_longestOf_209 : decode cX10_longestOf 209 = .ok (.land, 1) := by decide +kernel
theorem dX10_longestOf_210 : decode cX10_longestOf 210 = .ok (.lconst 1, 1) := by decide +kernel
theorem dX10_longestOf_211 : decode cX10_longestOf 211 = .ok (.lcmp, 1) := by decide +kernel
theorem dX10_longestOf_212 : decode cX10_longestOf 212 = .ok (.ifCond .ne 24, 3) := by decide +kernel
theorem dX10_longestOf_215 : decode cX10_longestOf 215 = .ok (.aload_n 0, 1) := by decide +kernel
theorem dX10_longestOf_216 : decode cX10_longestOf 216 = .ok (.getfield 84, 3) := by decide +kernel
theorem dX10_longestOf_219 : decode cX10_longestOf 219 = .ok (.iload 5, 2) := by decide +kernel
theorem dX10_longestOf_221 : decode cX10_longestOf 221 = .ok (.iaload, 1) := by decide +kernel
theorem dX10_longestOf_222 : decode cX10_longestOf 222 = .ok (.iload 4, 2) := by decide +kernel
theorem dX10_longestOf_224 : decode cX10_longestOf 224 = .ok (.if_icmp .le 12, 3) := by decide +kernel
theorem dX10_longestOf_227 : decode cX10_longestOf 227 = .ok (.aload_n 0, 1) := by decide +kernel
theorem dX10_longestOf_228 : decode cX10_longestOf 228 = .ok (.getfield 84, 3) := by decide +kernel
theorem dX10_longestOf_231 : decode cX10_longestOf 231 = .ok (.iload 5, 2) := by decide +kernel
theorem dX10_longestOf_233 : decode cX10_longestOf 233 = .ok (.iaload, 1) := by decide +kernel
theorem dX10_longestOf_234 : decode cX10_longestOf 234 = .ok (.istore 4, 2) := by decide +kernel
theorem dX10_longestOf_236 : decode cX10_longestOf 236 = .ok (.iinc 5 1, 3) := by decide +kernel
theorem dX10_longestOf_239 : decode cX10_longestOf 239 = .ok (.goto (-44), 3) := by decide +kernel
theorem dX10_longestOf_242 : decode cX10_longestOf 242 = .ok (.iload 4, 2) := by decide +kernel
theorem dX10_longestOf_244 : decode cX10_longestOf 244 = .ok (.ireturn, 1) := by decide +kernel
set_option maxHeartbeats 4000000 in
set_option maxRecDepth 100000 in
theorem wX10_longestOf_236 {p : Program} {l : Launch} {e : Env} {s : State} {m : MethodId} {args : Array Value} {below : List Frame} {meth : Method} {c : Code} (bs : Nat) (D : va_G) (y : Y3) (n : Nat) (k195_ : Int64 → Int32 → Int32 → MI → MJ → Option (Int32 × M2)) (r : Int32 × M2) (Gc : Gx p s m args meth c cX10_longestOf 8 RX10 bs D y (some .int) 76) (hk195_ : ∀ (x2 : Int64) (x4 : Int32) (x5 : Int32) (I : MI) (J : MJ) (H : Heap) (locs : List Loc) (ls : Array Slot), va_P D vwCl (wl bs y I J) H → va_S (FA bs) s.heap H locs → lv_has ls 8 [(0, .ref (bs + 44)), (2, .long x2), (4, .int x4), (5, .int x5)] → k195_ x2 x4 x5 I J = some r → W p l e (rmm 2 47) s m args below meth c H locs 0 0 (QI below args s bs D y r) (F0 m 195 ls [])) (x2 : Int64) (x4 : Int32) (x5 : Int32) (I : MI) (J : MJ) (H : Heap) (locs : List Loc) (ls : Array Slot) (hP : va_P D vwCl (wl bs y I J) H) (hS : va_S (FA bs) s.heap H locs) (hl : lv_has ls 8 [(0, .ref (bs + 44)), (2, .long x2), (4, .int x4), (5, .int x5)]) (h : fX10_longestOf_236 n k195_ x2 x4 x5 I J = some r) : W p l e (rmm 2 47) s m args below meth c H locs 0 0 (QI below args s bs D y r) (F0 m 236 ls []) := by
  obtain ⟨hx, hb, hml, hown, hts, hK, hN, hL, hr, hlocks, hcb⟩ := id Gc
  unfold fX10_longestOf_236 at h
  refine lv_iinc (v := (x5 + (1 : Int32))) (lv' := [(5, .int (x5 + (1 : Int32))), (0, .ref (bs + 44)), (2, .long x2), (4, .int x4)]) hx hb dX10_longestOf_236 hl (k := 3) rfl rfl (by decide) rfl (fun ls hl => ?_)
  refine lv_goto (tgt := 195) hx hb dX10_longestOf_239 (by decide) ?_
  exact hk195_ x2 x4 (x5 + (1 : Int32)) I J _ _ _ hP hS (lv_sub hl [1, 2, 3, 0] rfl) h
set_option maxHeartbeats 4000000 in
set_option maxRecDepth 100000 in
theorem wX10_longestOf_195 {p : Program} {l : Launch} {e : Env} {s : State} {m : MethodId} {args : Array Value} {below : List Frame} {meth : Method} {c : Code} (bs : Nat) (D : va_G) (y : Y3) (n : Nat) (k195_ : Int64 → Int32 → Int32 → MI → MJ → Option (Int32 × M2)) (r : Int32 × M2) (Gc : Gx p s m args meth c cX10_longestOf 8 RX10 bs D y (some .int) 76) (hk195_ : ∀ (x2 : Int64) (x4 : Int32) (x5 : Int32) (I : MI) (J : MJ) (H : Heap) (locs : List Loc) (ls : Array Slot), va_P D vwCl (wl bs y I J) H → va_S (FA bs) s.heap H locs → lv_has ls 8 [(0, .ref (bs + 44)), (2, .long x2), (4, .int x4), (5, .int x5)] → k195_ x2 x4 x5 I J = some r → W p l e (rmm 2 47) s m args below meth c H locs 0 0 (QI below args s bs D y r) (F0 m 195 ls [])) (x2 : Int64) (x4 : Int32) (x5 : Int32) (I : MI) (J : MJ) (H : Heap) (locs : List Loc) (ls : Array Slot) (hP : va_P D vwCl (wl bs y I J) H) (hS : va_S (FA bs) s.heap H locs) (hl : lv_has ls 8 [(0, .ref (bs + 44)), (2, .long x2), (4, .int x4), (5, .int x5)]) (h : fX10_longestOf_195 n k195_ x2 x4 x5 I J = some r) : W p l e (rmm 2 47) s m args below meth c H locs 0 0 (QI below args s bs D y r) (F0 m 195 ls []) := by
  obtain ⟨hx, hb, hml, hown, hts, hK, hN, hL, hr, hlocks, hcb⟩ := id Gc
  unfold fX10_longestOf_195 at h
  refine lv_iload hx hb dX10_longestOf_195 (lv_at hl 3 rfl) ?_
  refine lv_aload_n hx hb dX10_longestOf_197 rfl (lv_at hl 0 rfl) ?_
  obtain ⟨r198, er198, h⟩ := bd_s1 h
  refine c_VI (k := 44) (ci := 10) (As := []) (rest := [.int x5]) hx hb hml hown hts hK hN hL hP hS (cX10_tiles_ l bs D y hcb n  I J r198 er198) ok_X10_tiles ov_X10_tiles ml_132 ⟨Nat.le_of_ble_eq_true rfl, Nat.le_of_ble_eq_true rfl⟩ rfl hcb kd_44 hl.1 rfl rfl (Nat.le_of_ble_eq_true rfl) ⟨Nat.zero_le _, Nat.zero_le _⟩ dX10_longestOf_198 (fun H locs hP hS => ?_)
  refine lv_icmp_ge (tgt := 242) hx hb dX10_longestOf_201 (by decide) (fun c201 => ?_) (fun c201 => ?_)
  · replace h := if_t c201 h
    refine lv_iload hx hb dX10_longestOf_242 (lv_at hl 2 rfl) ?_
    exact r_I hx hb hr hlocks hP hK hN hL hS h dX10_longestOf_244
  · replace h := if_f c201 h
    refine lv_lload_n hx hb dX10_longestOf_204 rfl (lv_at hl 1 rfl) ?_
    refine lv_iload hx hb dX10_longestOf_205 (lv_at hl 3 rfl) ?_
    refine lv_lshr (v := (shrL x2 x5)) hx hb dX10_longestOf_207 rfl ?_
    refine lv_lconst (v := (1 : Int64)) hx hb dX10_longestOf_208 (by decide) ?_
    refine lv_land hx hb dX10_longestOf_209 ?_
    refine lv_lconst (v := (1 : Int64)) hx hb dX10_longestOf_210 (by decide) ?_
    refine W.lcmp hx hb dX10_longestOf_211 ?_
    refine lv_if_ne (tgt := 236) hx hb dX10_longestOf_212 (by decide) (fun c212 => ?_) (fun c212 => ?_)
    · replace h := if_f c212 h
      exact wX10_longestOf_236 bs D y n k195_ r Gc hk195_ x2 x4 x5 r198.2.1 r198.2.2 _ _ _ hP hS (lv_sub hl [0, 1, 2, 3] rfl) h
    · replace h := if_t c212 h
      refine lv_aload_n hx hb dX10_longestOf_215 rfl (lv_at hl 0 rfl) ?_
      refine g_R (C := RX10) (T := TX10) (N := 49) (ci := 10) 44 33 65 hx hb hts hown hK hP in_X10 rfl hcb okF_44_33 rfc_44_33 fl_176 dX10_longestOf_216 ?_
      refine lv_iload hx hb dX10_longestOf_219 (lv_at hl 3 rfl) ?_
      obtain ⟨hi221, h⟩ := if_s1 h
      refine a_I 65 hx hb hK hP hcb aln_65 hi221 dX10_longestOf_221 ?_
      refine lv_iload hx hb dX10_longestOf_222 (lv_at hl 2 rfl) ?_
      refine lv_icmp_le (tgt := 236) hx hb dX10_longestOf_224 (by decide) (fun c224 => ?_) (fun c224 => ?_)
      · replace h := if_t c224 h
        exact wX10_longestOf_236 bs D y n k195_ r Gc hk195_ x2 x4 x5 r198.2.1 r198.2.2 _ _ _ hP hS (lv_sub hl [0, 1, 2, 3] rfl) h
      · replace h := if_f c224 h
        refine lv_aload_n hx hb dX10_longestOf_227 rfl (lv_at hl 0 rfl) ?_
        refine g_R (C := RX10) (T := TX10) (N := 49) (ci := 10) 44 33 65 hx hb hts hown hK hP in_X10 rfl hcb okF_44_33 rfc_44_33 fl_176 dX10_longestOf_228 ?_
        refine lv_iload hx hb dX10_longestOf_231 (lv_at hl 3 rfl) ?_
        obtain ⟨hi233, h⟩ := if_s1 h
        refine a_I 65 hx hb hK hP hcb aln_65 hi233 dX10_longestOf_233 ?_
        obtain ⟨v234, ev234, h⟩ := lt_s1 h
        refine top_i ev234 ?_
        refine lv_istore (lv' := [(4, .int v234), (0, .ref (bs + 44)), (2, .long x2), (5, .int x5)]) hx hb dX10_longestOf_234 hl (by decide) rfl (fun ls hl => ?_)
        exact wX10_longestOf_236 bs D y n k195_ r Gc hk195_ x2 v234 x5 r198.2.1 r198.2.2 _ _ _ hP hS (lv_sub hl [1, 2, 0, 3] rfl) h
theorem vX10_longestOf_195 {p : Program} {l : Launch} {e : Env} {s : State} {m : MethodId} {args : Array Value} {below : List Frame} {meth : Method} {c : Code} (bs : Nat) (D : va_G) (y : Y3) (n : Nat) (r : Int32 × M2) (Gc : Gx p s m args meth c cX10_longestOf 8 RX10 bs D y (some .int) 76)  : ∀ (q : Nat) (x2 : Int64) (x4 : Int32) (x5 : Int32) (I : MI) (J : MJ) (H : Heap) (locs : List Loc) (ls : Array Slot), va_P D vwCl (wl bs y I J) H → va_S (FA bs) s.heap H locs → lv_has ls 8 [(0, .ref (bs + 44)), (2, .long x2), (4, .int x4), (5, .int x5)] → lX10_longestOf_195 n  q x2 x4 x5 I J = some r → W p l e (rmm 2 47) s m args below meth c H locs 0 0 (QI below args s bs D y r) (F0 m 195 ls []) := by
  intro q
  induction q with
  | zero =>
    intro x2 x4 x5 I J H locs ls hP hS hl h
    have h : (none : Option (Int32 × M2)) = some r := h
    cases h
  | succ q ih =>
    intro x2 x4 x5 I J H locs ls hP hS hl h
    have h : fX10_longestOf_195 n  (lX10_longestOf_195 n  q) x2 x4 x5 I J = some r := h
    exact wX10_longestOf_195 bs D y n  (lX10_longestOf_195 n  q) r Gc  ih x2 x4 x5 I J H locs ls hP hS hl h
set_option maxHeartbeats 4000000 in
set_option maxRecDepth 100000 in
theorem wX10_longestOf_177 {p : Program} {l : Launch} {e : Env} {s : State} {m : MethodId} {args : Array Value} {below : List Frame} {meth : Method} {c : Code} (bs : Nat) (D : va_G) (y : Y3) (n : Nat) (k52_ : Int32 → Int64 → Int32 → MI → MJ → Option (Int32 × M2)) (k64_ : Int32 → Int64 → Int32 → Int32 → MI → MJ → Option (Int32 × M2)) (r : Int32 × M2) (Gc : Gx p s m args meth c cX10_longestOf 8 RX10 bs D y (some .int) 76) (hk52_ : ∀ (x1 : Int32) (x2 : Int64) (x4 : Int32) (I : MI) (J : MJ) (H : Heap) (locs : List Loc) (ls : Array Slot), va_P D vwCl (wl bs y I J) H → va_S (FA bs) s.heap H locs → lv_has ls 8 [(0, .ref (bs + 44)), (1, .int x1), (2, .long x2), (4, .int x4)] → k52_ x1 x2 x4 I J = some r → W p l e (rmm 2 47) s m args below meth c H locs 0 0 (QI below args s bs D y r) (F0 m 52 ls [])) (hk64_ : ∀ (x1 : Int32) (x2 : Int64) (x4 : Int32) (x5 : Int32) (I : MI) (J : MJ) (H : Heap) (locs : List Loc) (ls : Array Slot), va_P D vwCl (wl bs y I J) H → va_S (FA bs) s.heap H locs → lv_has ls 8 [(0, .ref (bs + 44)), (1, .int x1), (2, .long x2), (4, .int x4), (5, .int x5)] → k64_ x1 x2 x4 x5 I J = some r → W p l e (rmm 2 47) s m args below meth c H locs 0 0 (QI below args s bs D y r) (F0 m 64 ls [])) (x1 : Int32) (x2 : Int64) (x4 : Int32) (x5 : Int32) (I : MI) (J : MJ) (H : Heap) (locs : List Loc) (ls : Array Slot) (hP : va_P D vwCl (wl bs y I J) H) (hS : va_S (FA bs) s.heap H locs) (hl : lv_has ls 8 [(0, .ref (bs + 44)), (1, .int x1), (2, .long x2), (4, .int x4), (5, .int x5)]) (h : fX10_longestOf_177 n k52_ k64_ x1 x2 x4 x5 I J = some r) : W p l e (rmm 2 47) s m args below meth c H locs 0 0 (QI below args s bs D y r) (F0 m 177 ls []) := by
  obtain ⟨hx, hb, hml, hown, hts, hK, hN, hL, hr, hlocks, hcb⟩ := id Gc
  unfold fX10_longestOf_177 at h
  refine lv_iinc (v := (x5 + (1 : Int32))) (lv' := [(5, .int (x5 + (1 : Int32))), (0, .ref (bs + 44)), (1, .int x1), (2, .long x2), (4, .int x4)]) hx hb dX10_longestOf_177 hl (k := 4) rfl rfl (by decide) rfl (fun ls hl => ?_)
  refine lv_goto (tgt := 64) hx hb dX10_longestOf_180 (by decide) ?_
  exact hk64_ x1 x2 x4 (x5 + (1 : Int32)) I J _ _ _ hP hS (lv_sub hl [1, 2, 3, 4, 0] rfl) h
set_option maxHeartbeats 4000000 in
set_option maxRecDepth 100000 in
theorem wX10_longestOf_142 {p : Program} {l : Launch} {e : Env} {s : State} {m : MethodId} {args : Array Value} {below : List Frame} {meth : Method} {c : Code} (bs : Nat) (D : va_G) (y : Y3) (n : Nat) (k52_ : Int32 → Int64 → Int32 → MI → MJ → Option (Int32 × M2)) (k64_ : Int32 → Int64 → Int32 → Int32 → MI → MJ → Option (Int32 × M2)) (r : Int32 × M2) (Gc : Gx p s m args meth c cX10_longestOf 8 RX10 bs D y (some .int) 76) (hk52_ : ∀ (x1 : Int32) (x2 : Int64) (x4 : Int32) (I : MI) (J : MJ) (H : Heap) (locs : List Loc) (ls : Array Slot), va_P D vwCl (wl bs y I J) H → va_S (FA bs) s.heap H locs → lv_has ls 8 [(0, .ref (bs + 44)), (1, .int x1), (2, .long x2), (4, .int x4)] → k52_ x1 x2 x4 I J = some r → W p l e (rmm 2 47) s m args below meth c H locs 0 0 (QI below args s bs D y r) (F0 m 52 ls [])) (hk64_ : ∀ (x1 : Int32) (x2 : Int64) (x4 : Int32) (x5 : Int32) (I : MI) (J : MJ) (H : Heap) (locs : List Loc) (ls : Array Slot), va_P D vwCl (wl bs y I J) H → va_S (FA bs) s.heap H locs → lv_has ls 8 [(0, .ref (bs + 44)), (1, .int x1), (2, .long x2), (4, .int x4), (5, .int x5)] → k64_ x1 x2 x4 x5 I J = some r → W p l e (rmm 2 47) s m args below meth c H locs 0 0 (QI below args s bs D y r) (F0 m 64 ls [])) (x1 : Int32) (x2 : Int64) (x4 : Int32) (x5 : Int32) (x6 : Int32) (x7 : Int32) (I : MI) (J : MJ) (H : Heap) (locs : List Loc) (ls : Array Slot) (hP : va_P D vwCl (wl bs y I J) H) (hS : va_S (FA bs) s.heap H locs) (hl : lv_has ls 8 [(0, .ref (bs + 44)), (1, .int x1), (2, .long x2), (4, .int x4), (5, .int x5), (6, .int x6), (7, .int x7)]) (h : fX10_longestOf_142 n k52_ k64_ x1 x2 x4 x5 x6 x7 I J = some r) : W p l e (rmm 2 47) s m args below meth c H locs 0 0 (QI below args s bs D y r) (F0 m 142 ls []) := by
  obtain ⟨hx, hb, hml, hown, hts, hK, hN, hL, hr, hlocks, hcb⟩ := id Gc
  unfold fX10_longestOf_142 at h
  refine lv_aload_n hx hb dX10_longestOf_142 rfl (lv_at hl 0 rfl) ?_
  refine g_R (C := RX10) (T := TX10) (N := 49) (ci := 10) 44 33 65 hx hb hts hown hK hP in_X10 rfl hcb okF_44_33 rfc_44_33 fl_176 dX10_longestOf_143 ?_
  refine lv_iload hx hb dX10_longestOf_146 (lv_at hl 6 rfl) ?_
  obtain ⟨hi148, h⟩ := if_s1 h
  refine a_I 65 hx hb hK hP hcb aln_65 hi148 dX10_longestOf_148 ?_
  refine lv_iconst (v := (1 : Int32)) hx hb dX10_longestOf_149 (by decide) ?_
  refine lv_iadd hx hb dX10_longestOf_150 ?_
  refine lv_aload_n hx hb dX10_longestOf_151 rfl (lv_at hl 0 rfl) ?_
  refine g_R (C := RX10) (T := TX10) (N := 49) (ci := 10) 44 33 65 hx hb hts hown hK hP in_X10 rfl hcb okF_44_33 rfc_44_33 fl_176 dX10_longestOf_152 ?_
  refine lv_iload hx hb dX10_longestOf_155 (lv_at hl 5 rfl) ?_
  obtain ⟨hi157, h⟩ := if_s1 h
  refine a_I 65 hx hb hK hP hcb aln_65 hi157 dX10_longestOf_157 ?_
  refine lv_icmp_ge (tgt := 177) hx hb dX10_longestOf_158 (by decide) (fun c158 => ?_) (fun c158 => ?_)
  · replace h := if_t c158 h
    exact wX10_longestOf_177 bs D y n k52_ k64_ r Gc hk52_ hk64_ x1 x2 x4 x5 I J _ _ _ hP hS (lv_sub hl [0, 1, 2, 3, 4] rfl) h
  · replace h := if_f c158 h
    refine lv_aload_n hx hb dX10_longestOf_161 rfl (lv_at hl 0 rfl) ?_
    refine g_R (C := RX10) (T := TX10) (N := 49) (ci := 10) 44 33 65 hx hb hts hown hK hP in_X10 rfl hcb okF_44_33 rfc_44_33 fl_176 dX10_longestOf_162 ?_
    refine lv_iload hx hb dX10_longestOf_165 (lv_at hl 5 rfl) ?_
    refine lv_aload_n hx hb dX10_longestOf_167 rfl (lv_at hl 0 rfl) ?_
    refine g_R (C := RX10) (T := TX10) (N := 49) (ci := 10) 44 33 65 hx hb hts hown hK hP in_X10 rfl hcb okF_44_33 rfc_44_33 fl_176 dX10_longestOf_168 ?_
    refine lv_iload hx hb dX10_longestOf_171 (lv_at hl 6 rfl) ?_
    obtain ⟨hi173, h⟩ := if_s1 h
    refine a_I 65 hx hb hK hP hcb aln_65 hi173 dX10_longestOf_173 ?_
    refine lv_iconst (v := (1 : Int32)) hx hb dX10_longestOf_174 (by decide) ?_
    refine lv_iadd hx hb dX10_longestOf_175 ?_
    obtain ⟨hi176, h⟩ := if_s1 h
    obtain ⟨I176, eI176, h⟩ := lt_s1 h
    refine t_I 65 eI176 hx hb hK hP hS hcb aln_65 hi176 dX10_longestOf_176 (fun H locs hP hS => ?_)
    exact wX10_longestOf_177 bs D y n k52_ k64_ r Gc hk52_ hk64_ x1 x2 x4 x5 I176 J _ _ _ hP hS (lv_sub hl [0, 1, 2, 3, 4] rfl) h
set_option maxHeartbeats 4000000 in
set_option maxRecDepth 100000 in
theorem wX10_longestOf_64 {p : Program} {l : Launch} {e : Env} {s : State} {m : MethodId} {args : Array Value} {below : List Frame} {meth : Method} {c : Code} (bs : Nat) (D : va_G) (y : Y3) (n : Nat) (k52_ : Int32 → Int64 → Int32 → MI → MJ → Option (Int32 × M2)) (k64_ : Int32 → Int64 → Int32 → Int32 → MI → MJ → Option (Int32 × M2)) (r : Int32 × M2) (Gc : Gx p s m args meth c cX10_longestOf 8 RX10 bs D y (some .int) 76) (hk52_ : ∀ (x1 : Int32) (x2 : Int64) (x4 : Int32) (I : MI) (J : MJ) (H : Heap) (locs : List Loc) (ls : Array Slot), va_P D vwCl (wl bs y I J) H → va_S (FA bs) s.heap H locs → lv_has ls 8 [(0, .ref (bs + 44)), (1, .int x1), (2, .long x2), (4, .int x4)] → k52_ x1 x2 x4 I J = some r → W p l e (rmm 2 47) s m args below meth c H locs 0 0 (QI below args s bs D y r) (F0 m 52 ls [])) (hk64_ : ∀ (x1 : Int32) (x2 : Int64) (x4 : Int32) (x5 : Int32) (I : MI) (J : MJ) (H : Heap) (locs : List Loc) (ls : Array Slot), va_P D vwCl (wl bs y I J) H → va_S (FA bs) s.heap H locs → lv_has ls 8 [(0, .ref (bs + 44)), (1, .int x1), (2, .long x2), (4, .int x4), (5, .int x5)] → k64_ x1 x2 x4 x5 I J = some r → W p l e (rmm 2 47) s m args below meth c H locs 0 0 (QI below args s bs D y r) (F0 m 64 ls [])) (x1 : Int32) (x2 : Int64) (x4 : Int32) (x5 : Int32) (I : MI) (J : MJ) (H : Heap) (locs : List Loc) (ls : Array Slot) (hP : va_P D vwCl (wl bs y I J) H) (hS : va_S (FA bs) s.heap H locs) (hl : lv_has ls 8 [(0, .ref (bs + 44)), (1, .int x1), (2, .long x2), (4, .int x4), (5, .int x5)]) (h : fX10_longestOf_64 n k52_ k64_ x1 x2 x4 x5 I J = some r) : W p l e (rmm 2 47) s m args below meth c H locs 0 0 (QI below args s bs D y r) (F0 m 64 ls []) := by
  obtain ⟨hx, hb, hml, hown, hts, hK, hN, hL, hr, hlocks, hcb⟩ := id Gc
  unfold fX10_longestOf_64 at h
  refine lv_iload hx hb dX10_longestOf_64 (lv_at hl 4 rfl) ?_
  refine lv_aload_n hx hb dX10_longestOf_66 rfl (lv_at hl 0 rfl) ?_
  obtain ⟨r67, er67, h⟩ := bd_s1 h
  refine c_VI (k := 44) (ci := 10) (As := []) (rest := [.int x5]) hx hb hml hown hts hK hN hL hP hS (cX10_joints_ l bs D y hcb n  I J r67 er67) ok_X10_joints ov_X10_joints ml_135 ⟨Nat.le_of_ble_eq_true rfl, Nat.le_of_ble_eq_true rfl⟩ rfl hcb kd_44 hl.1 rfl rfl (Nat.le_of_ble_eq_true rfl) ⟨Nat.zero_le _, Nat.zero_le _⟩ dX10_longestOf_67 (fun H locs hP hS => ?_)
  refine lv_icmp_ge (tgt := 183) hx hb dX10_longestOf_70 (by decide) (fun c70 => ?_) (fun c70 => ?_)
  · replace h := if_t c70 h
    refine lv_iinc (v := (x4 + (1 : Int32))) (lv' := [(4, .int (x4 + (1 : Int32))), (0, .ref (bs + 44)), (1, .int x1), (2, .long x2), (5, .int x5)]) hx hb dX10_longestOf_183 hl (k := 3) rfl rfl (by decide) rfl (fun ls hl => ?_)
    refine lv_goto (tgt := 52) hx hb dX10_longestOf_186 (by decide) ?_
    exact hk52_ x1 x2 (x4 + (1 : Int32)) r67.2.1 r67.2.2 _ _ _ hP hS (lv_sub hl [1, 2, 3, 0] rfl) h
  · replace h := if_f c70 h
    refine lv_aload_n hx hb dX10_longestOf_73 rfl (lv_at hl 0 rfl) ?_
    refine lv_iload hx hb dX10_longestOf_74 (lv_at hl 4 rfl) ?_
    obtain ⟨r76, er76, h⟩ := bd_s1 h
    refine c_VI (k := 44) (ci := 10) (As := [.int x5]) (rest := []) hx hb hml hown hts hK hN hL hP hS (cX10_lesser_ l bs D y hcb n x5 r67.2.1 r67.2.2 r76 er76) ok_X10_lesser ov_X10_lesser ml_149 ⟨Nat.le_of_ble_eq_true rfl, Nat.le_of_ble_eq_true rfl⟩ rfl hcb kd_44 hl.1 rfl rfl (Nat.le_of_ble_eq_true rfl) ⟨Nat.zero_le _, Nat.zero_le _⟩ dX10_longestOf_76 (fun H locs hP hS => ?_)
    obtain ⟨v79, ev79, h⟩ := lt_s1 h
    refine top_i ev79 ?_
    refine lv_istore (lv' := [(6, .int v79), (0, .ref (bs + 44)), (1, .int x1), (2, .long x2), (4, .int x4), (5, .int x5)]) hx hb dX10_longestOf_79 hl (by decide) rfl (fun ls hl => ?_)
    refine lv_aload_n hx hb dX10_longestOf_81 rfl (lv_at hl 1 rfl) ?_
    refine lv_iload hx hb dX10_longestOf_82 (lv_at hl 5 rfl) ?_
    obtain ⟨r84, er84, h⟩ := bd_s1 h
    refine c_VI (k := 44) (ci := 10) (As := [.int x5]) (rest := []) hx hb hml hown hts hK hN hL hP hS (cX10_greater_ l bs D y hcb n x5 r76.2.1 r76.2.2 r84 er84) ok_X10_greater ov_X10_greater ml_151 ⟨Nat.le_of_ble_eq_true rfl, Nat.le_of_ble_eq_true rfl⟩ rfl hcb kd_44 hl.1 rfl rfl (Nat.le_of_ble_eq_true rfl) ⟨Nat.zero_le _, Nat.zero_le _⟩ dX10_longestOf_84 (fun H locs hP hS => ?_)
    obtain ⟨v87, ev87, h⟩ := lt_s1 h
    refine top_i ev87 ?_
    refine lv_istore (lv' := [(7, .int v87), (6, .int v79), (0, .ref (bs + 44)), (1, .int x1), (2, .long x2), (4, .int x4), (5, .int x5)]) hx hb dX10_longestOf_87 hl (by decide) rfl (fun ls hl => ?_)
    refine lv_aload_n hx hb dX10_longestOf_89 rfl (lv_at hl 2 rfl) ?_
    refine g_R (C := RX10) (T := TX10) (N := 49) (ci := 10) 44 30 62 hx hb hts hown hK hP in_X10 rfl hcb okF_44_30 rfc_44_30 fl_178 dX10_longestOf_90 ?_
    refine lv_bipush (v := (60 : Int32)) hx hb dX10_longestOf_93 (by decide) ?_
    refine lv_iload_n hx hb dX10_longestOf_95 rfl (lv_at hl 3 rfl) ?_
    refine lv_imul hx hb dX10_longestOf_96 ?_
    refine lv_iload hx hb dX10_longestOf_97 (lv_at hl 6 rfl) ?_
    refine lv_iadd hx hb dX10_longestOf_99 ?_
    obtain ⟨hi100, h⟩ := if_s1 h
    refine a_Z 62 hx hb hK hP hcb alZ_62 hi100 dX10_longestOf_100 ?_
    refine lv_if_ne (tgt := 107) hx hb dX10_longestOf_101 (by decide) (fun c101 => ?_) (fun c101 => ?_)
    · replace h := if_f c101 h
      refine lv_aload_n hx hb dX10_longestOf_107 rfl (lv_at hl 2 rfl) ?_
      refine g_R (C := RX10) (T := TX10) (N := 49) (ci := 10) 44 33 65 hx hb hts hown hK hP in_X10 rfl hcb okF_44_33 rfc_44_33 fl_176 dX10_longestOf_108 ?_
      refine lv_iload hx hb dX10_longestOf_111 (lv_at hl 1 rfl) ?_
      obtain ⟨hi113, h⟩ := if_s1 h
      refine a_I 65 hx hb hK hP hcb aln_65 hi113 dX10_longestOf_113 ?_
      refine lv_iconst (v := (1 : Int32)) hx hb dX10_longestOf_114 (by decide) ?_
      refine lv_iadd hx hb dX10_longestOf_115 ?_
      refine lv_aload_n hx hb dX10_longestOf_116 rfl (lv_at hl 2 rfl) ?_
      refine g_R (C := RX10) (T := TX10) (N := 49) (ci := 10) 44 33 65 hx hb hts hown hK hP in_X10 rfl hcb okF_44_33 rfc_44_33 fl_176 dX10_longestOf_117 ?_
      refine lv_iload hx hb dX10_longestOf_120 (lv_at hl 0 rfl) ?_
      obtain ⟨hi122, h⟩ := if_s1 h
      refine a_I 65 hx hb hK hP hcb aln_65 hi122 dX10_longestOf_122 ?_
      refine lv_icmp_ge (tgt := 142) hx hb dX10_longestOf_123 (by decide) (fun c123 => ?_) (fun c123 => ?_)
      · replace h := if_t c123 h
        exact wX10_longestOf_142 bs D y n k52_ k64_ r Gc hk52_ hk64_ x1 x2 x4 x5 v79 v87 r84.2.1 r84.2.2 _ _ _ hP hS (lv_sub hl [2, 3, 4, 5, 6, 1, 0] rfl) h
      · replace h := if_f c123 h
        refine lv_aload_n hx hb dX10_longestOf_126 rfl (lv_at hl 2 rfl) ?_
        refine g_R (C := RX10) (T := TX10) (N := 49) (ci := 10) 44 33 65 hx hb hts hown hK hP in_X10 rfl hcb okF_44_33 rfc_44_33 fl_176 dX10_longestOf_127 ?_
        refine lv_iload hx hb dX10_longestOf_130 (lv_at hl 0 rfl) ?_
        refine lv_aload_n hx hb dX10_longestOf_132 rfl (lv_at hl 2 rfl) ?_
        refine g_R (C := RX10) (T := TX10) (N := 49) (ci := 10) 44 33 65 hx hb hts hown hK hP in_X10 rfl hcb okF_44_33 rfc_44_33 fl_176 dX10_longestOf_133 ?_
        refine lv_iload hx hb dX10_longestOf_136 (lv_at hl 1 rfl) ?_
        obtain ⟨hi138, h⟩ := if_s1 h
        refine a_I 65 hx hb hK hP hcb aln_65 hi138 dX10_longestOf_138 ?_
        refine lv_iconst (v := (1 : Int32)) hx hb dX10_longestOf_139 (by decide) ?_
        refine lv_iadd hx hb dX10_longestOf_140 ?_
        obtain ⟨hi141, h⟩ := if_s1 h
        obtain ⟨I141, eI141, h⟩ := lt_s1 h
        refine t_I 65 eI141 hx hb hK hP hS hcb aln_65 hi141 dX10_longestOf_141 (fun H locs hP hS => ?_)
        exact wX10_longestOf_142 bs D y n k52_ k64_ r Gc hk52_ hk64_ x1 x2 x4 x5 v79 v87 I141 r84.2.2 _ _ _ hP hS (lv_sub hl [2, 3, 4, 5, 6, 1, 0] rfl) h
    · replace h := if_t c101 h
      refine lv_goto (tgt := 177) hx hb dX10_longestOf_104 (by decide) ?_
      exact wX10_longestOf_177 bs D y n k52_ k64_ r Gc hk52_ hk64_ x1 x2 x4 x5 r84.2.1 r84.2.2 _ _ _ hP hS (lv_sub hl [2, 3, 4, 5, 6] rfl) h
theorem vX10_longestOf_64 {p : Program} {l : Launch} {e : Env} {s : State} {m : MethodId} {args : Array Value} {below : List Frame} {meth : Method} {c : Code} (bs : Nat) (D : va_G) (y : Y3) (n : Nat) (k52_ : Int32 → Int64 → Int32 → MI → MJ → Option (Int32 × M2)) (r : Int32 × M2) (Gc : Gx p s m args meth c cX10_longestOf 8 RX10 bs D y (some .int) 76) (hk52_ : ∀ (x1 : Int32) (x2 : Int64) (x4 : Int32) (I : MI) (J : MJ) (H : Heap) (locs : List Loc) (ls : Array Slot), va_P D vwCl (wl bs y I J) H → va_S (FA bs) s.heap H locs → lv_has ls 8 [(0, .ref (bs + 44)), (1, .int x1), (2, .long x2), (4, .int x4)] → k52_ x1 x2 x4 I J = some r → W p l e (rmm 2 47) s m args below meth c H locs 0 0 (QI below args s bs D y r) (F0 m 52 ls [])) : ∀ (q : Nat) (x1 : Int32) (x2 : Int64) (x4 : Int32) (x5 : Int32) (I : MI) (J : MJ) (H : Heap) (locs : List Loc) (ls : Array Slot), va_P D vwCl (wl bs y I J) H → va_S (FA bs) s.heap H locs → lv_has ls 8 [(0, .ref (bs + 44)), (1, .int x1), (2, .long x2), (4, .int x4), (5, .int x5)] → lX10_longestOf_64 n k52_ q x1 x2 x4 x5 I J = some r → W p l e (rmm 2 47) s m args below meth c H locs 0 0 (QI below args s bs D y r) (F0 m 64 ls []) := by
  intro q
  induction q with
  | zero =>
    intro x1 x2 x4 x5 I J H locs ls hP hS hl h
    have h : (none : Option (Int32 × M2)) = some r := h
    cases h
  | succ q ih =>
    intro x1 x2 x4 x5 I J H locs ls hP hS hl h
    have h : fX10_longestOf_64 n k52_ (lX10_longestOf_64 n k52_ q) x1 x2 x4 x5 I J = some r := h
    exact wX10_longestOf_64 bs D y n k52_ (lX10_longestOf_64 n k52_ q) r Gc hk52_ ih x1 x2 x4 x5 I J H locs ls hP hS hl h
set_option maxHeartbeats 4000000 in
set_option maxRecDepth 100000 in
theorem wX10_longestOf_52 {p : Program} {l : Launch} {e : Env} {s : State} {m : MethodId} {args : Array Value} {below : List Frame} {meth : Method} {c : Code} (bs : Nat) (D : va_G) (y : Y3) (n : Nat) (k52_ : Int32 → Int64 → Int32 → MI → MJ → Option (Int32 × M2)) (r : Int32 × M2) (Gc : Gx p s m args meth c cX10_longestOf 8 RX10 bs D y (some .int) 76) (hk52_ : ∀ (x1 : Int32) (x2 : Int64) (x4 : Int32) (I : MI) (J : MJ) (H : Heap) (locs : List Loc) (ls : Array Slot), va_P D vwCl (wl bs y I J) H → va_S (FA bs) s.heap H locs → lv_has ls 8 [(0, .ref (bs + 44)), (1, .int x1), (2, .long x2), (4, .int x4)] → k52_ x1 x2 x4 I J = some r → W p l e (rmm 2 47) s m args below meth c H locs 0 0 (QI below args s bs D y r) (F0 m 52 ls [])) (x1 : Int32) (x2 : Int64) (x4 : Int32) (I : MI) (J : MJ) (H : Heap) (locs : List Loc) (ls : Array Slot) (hP : va_P D vwCl (wl bs y I J) H) (hS : va_S (FA bs) s.heap H locs) (hl : lv_has ls 8 [(0, .ref (bs + 44)), (1, .int x1), (2, .long x2), (4, .int x4)]) (h : fX10_longestOf_52 n k52_ x1 x2 x4 I J = some r) : W p l e (rmm 2 47) s m args below meth c H locs 0 0 (QI below args s bs D y r) (F0 m 52 ls []) := by
  obtain ⟨hx, hb, hml, hown, hts, hK, hN, hL, hr, hlocks, hcb⟩ := id Gc
  unfold fX10_longestOf_52 at h
  refine lv_iload hx hb dX10_longestOf_52 (lv_at hl 3 rfl) ?_
  refine lv_aload_n hx hb dX10_longestOf_54 rfl (lv_at hl 0 rfl) ?_
  obtain ⟨r55, er55, h⟩ := bd_s1 h
  refine c_VI (k := 44) (ci := 10) (As := []) (rest := [.int x4]) hx hb hml hown hts hK hN hL hP hS (cX10_tiles_ l bs D y hcb n  I J r55 er55) ok_X10_tiles ov_X10_tiles ml_132 ⟨Nat.le_of_ble_eq_true rfl, Nat.le_of_ble_eq_true rfl⟩ rfl hcb kd_44 hl.1 rfl rfl (Nat.le_of_ble_eq_true rfl) ⟨Nat.zero_le _, Nat.zero_le _⟩ dX10_longestOf_55 (fun H locs hP hS => ?_)
  refine lv_icmp_ge (tgt := 189) hx hb dX10_longestOf_58 (by decide) (fun c58 => ?_) (fun c58 => ?_)
  · replace h := if_t c58 h
    refine lv_iconst (v := (0 : Int32)) hx hb dX10_longestOf_189 (by decide) ?_
    refine lv_istore (lv' := [(4, .int (0 : Int32)), (0, .ref (bs + 44)), (1, .int x1), (2, .long x2)]) hx hb dX10_longestOf_190 hl (by decide) rfl (fun ls hl => ?_)
    refine lv_iconst (v := (0 : Int32)) hx hb dX10_longestOf_192 (by decide) ?_
    refine lv_istore (lv' := [(5, .int (0 : Int32)), (4, .int (0 : Int32)), (0, .ref (bs + 44)), (1, .int x1), (2, .long x2)]) hx hb dX10_longestOf_193 hl (by decide) rfl (fun ls hl => ?_)
    exact vX10_longestOf_195 bs D y n  r Gc  n x2 (0 : Int32) (0 : Int32) r55.2.1 r55.2.2 _ _ _ hP hS (lv_sub hl [2, 4, 1, 0] rfl) h
  · replace h := if_f c58 h
    refine lv_iconst (v := (0 : Int32)) hx hb dX10_longestOf_61 (by decide) ?_
    refine lv_istore (lv' := [(5, .int (0 : Int32)), (0, .ref (bs + 44)), (1, .int x1), (2, .long x2), (4, .int x4)]) hx hb dX10_longestOf_62 hl (by decide) rfl (fun ls hl => ?_)
    exact vX10_longestOf_64 bs D y n k52_ r Gc hk52_ n x1 x2 x4 (0 : Int32) r55.2.1 r55.2.2 _ _ _ hP hS (lv_sub hl [1, 2, 3, 4, 0] rfl) h
theorem vX10_longestOf_52 {p : Program} {l : Launch} {e : Env} {s : State} {m : MethodId} {args : Array Value} {below : List Frame} {meth : Method} {c : Code} (bs : Nat) (D : va_G) (y : Y3) (n : Nat) (r : Int32 × M2) (Gc : Gx p s m args meth c cX10_longestOf 8 RX10 bs D y (some .int) 76)  : ∀ (q : Nat) (x1 : Int32) (x2 : Int64) (x4 : Int32) (I : MI) (J : MJ) (H : Heap) (locs : List Loc) (ls : Array Slot), va_P D vwCl (wl bs y I J) H → va_S (FA bs) s.heap H locs → lv_has ls 8 [(0, .ref (bs + 44)), (1, .int x1), (2, .long x2), (4, .int x4)] → lX10_longestOf_52 n  q x1 x2 x4 I J = some r → W p l e (rmm 2 47) s m args below meth c H locs 0 0 (QI below args s bs D y r) (F0 m 52 ls []) := by
  intro q
  induction q with
  | zero =>
    intro x1 x2 x4 I J H locs ls hP hS hl h
    have h : (none : Option (Int32 × M2)) = some r := h
    cases h
  | succ q ih =>
    intro x1 x2 x4 I J H locs ls hP hS hl h
    have h : fX10_longestOf_52 n  (lX10_longestOf_52 n  q) x1 x2 x4 I J = some r := h
    exact wX10_longestOf_52 bs D y n  (lX10_longestOf_52 n  q) r Gc  ih x1 x2 x4 I J H locs ls hP hS hl h
set_option maxHeartbeats 4000000 in
set_option maxRecDepth 100000 in
theorem wX10_longestOf_42 {p : Program} {l : Launch} {e : Env} {s : State} {m : MethodId} {args : Array Value} {below : List Frame} {meth : Method} {c : Code} (bs : Nat) (D : va_G) (y : Y3) (n : Nat) (k9_ : Int32 → Int64 → Int32 → MI → MJ → Option (Int32 × M2)) (r : Int32 × M2) (Gc : Gx p s m args meth c cX10_longestOf 8 RX10 bs D y (some .int) 76) (hk9_ : ∀ (x1 : Int32) (x2 : Int64) (x4 : Int32) (I : MI) (J : MJ) (H : Heap) (locs : List Loc) (ls : Array Slot), va_P D vwCl (wl bs y I J) H → va_S (FA bs) s.heap H locs → lv_has ls 8 [(0, .ref (bs + 44)), (1, .int x1), (2, .long x2), (4, .int x4)] → k9_ x1 x2 x4 I J = some r → W p l e (rmm 2 47) s m args below meth c H locs 0 0 (QI below args s bs D y r) (F0 m 9 ls [])) (x1 : Int32) (x2 : Int64) (x4 : Int32) (s1 : Int32) (s2 : Int32) (I : MI) (J : MJ) (H : Heap) (locs : List Loc) (ls : Array Slot) (hP : va_P D vwCl (wl bs y I J) H) (hS : va_S (FA bs) s.heap H locs) (hl : lv_has ls 8 [(0, .ref (bs + 44)), (1, .int x1), (2, .long x2), (4, .int x4)]) (h : fX10_longestOf_42 n k9_ x1 x2 x4 s1 s2 I J = some r) : W p l e (rmm 2 47) s m args below meth c H locs 0 0 (QI below args s bs D y r) (F0 m 42 ls [.int s2, .int s1, .ref (bs + 65)]) := by
  obtain ⟨hx, hb, hml, hown, hts, hK, hN, hL, hr, hlocks, hcb⟩ := id Gc
  unfold fX10_longestOf_42 at h
  obtain ⟨hi42, h⟩ := if_s1 h
  obtain ⟨I42, eI42, h⟩ := lt_s1 h
  refine t_I 65 eI42 hx hb hK hP hS hcb aln_65 hi42 dX10_longestOf_42 (fun H locs hP hS => ?_)
  refine lv_iinc (v := (x4 + (1 : Int32))) (lv' := [(4, .int (x4 + (1 : Int32))), (0, .ref (bs + 44)), (1, .int x1), (2, .long x2)]) hx hb dX10_longestOf_43 hl (k := 3) rfl rfl (by decide) rfl (fun ls hl => ?_)
  refine lv_goto (tgt := 9) hx hb dX10_longestOf_46 (by decide) ?_
  exact hk9_ x1 x2 (x4 + (1 : Int32)) I42 J _ _ _ hP hS (lv_sub hl [1, 2, 3, 0] rfl) h
set_option maxHeartbeats 4000000 in
set_option maxRecDepth 100000 in
theorem wX10_longestOf_9 {p : Program} {l : Launch} {e : Env} {s : State} {m : MethodId} {args : Array Value} {below : List Frame} {meth : Method} {c : Code} (bs : Nat) (D : va_G) (y : Y3) (n : Nat) (k9_ : Int32 → Int64 → Int32 → MI → MJ → Option (Int32 × M2)) (r : Int32 × M2) (Gc : Gx p s m args meth c cX10_longestOf 8 RX10 bs D y (some .int) 76) (hk9_ : ∀ (x1 : Int32) (x2 : Int64) (x4 : Int32) (I : MI) (J : MJ) (H : Heap) (locs : List Loc) (ls : Array Slot), va_P D vwCl (wl bs y I J) H → va_S (FA bs) s.heap H locs → lv_has ls 8 [(0, .ref (bs + 44)), (1, .int x1), (2, .long x2), (4, .int x4)] → k9_ x1 x2 x4 I J = some r → W p l e (rmm 2 47) s m args below meth c H locs 0 0 (QI below args s bs D y r) (F0 m 9 ls [])) (x1 : Int32) (x2 : Int64) (x4 : Int32) (I : MI) (J : MJ) (H : Heap) (locs : List Loc) (ls : Array Slot) (hP : va_P D vwCl (wl bs y I J) H) (hS : va_S (FA bs) s.heap H locs) (hl : lv_has ls 8 [(0, .ref (bs + 44)), (1, .int x1), (2, .long x2), (4, .int x4)]) (h : fX10_longestOf_9 n k9_ x1 x2 x4 I J = some r) : W p l e (rmm 2 47) s m args below meth c H locs 0 0 (QI below args s bs D y r) (F0 m 9 ls []) := by
  obtain ⟨hx, hb, hml, hown, hts, hK, hN, hL, hr, hlocks, hcb⟩ := id Gc
  unfold fX10_longestOf_9 at h
  refine lv_iload hx hb dX10_longestOf_9 (lv_at hl 3 rfl) ?_
  refine lv_aload_n hx hb dX10_longestOf_11 rfl (lv_at hl 0 rfl) ?_
  obtain ⟨r12, er12, h⟩ := bd_s1 h
  refine c_VI (k := 44) (ci := 10) (As := []) (rest := [.int x4]) hx hb hml hown hts hK hN hL hP hS (cX10_tiles_ l bs D y hcb n  I J r12 er12) ok_X10_tiles ov_X10_tiles ml_132 ⟨Nat.le_of_ble_eq_true rfl, Nat.le_of_ble_eq_true rfl⟩ rfl hcb kd_44 hl.1 rfl rfl (Nat.le_of_ble_eq_true rfl) ⟨Nat.zero_le _, Nat.zero_le _⟩ dX10_longestOf_12 (fun H locs hP hS => ?_)
  refine lv_icmp_ge (tgt := 49) hx hb dX10_longestOf_15 (by decide) (fun c15 => ?_) (fun c15 => ?_)
  · replace h := if_t c15 h
    refine lv_iconst (v := (0 : Int32)) hx hb dX10_longestOf_49 (by decide) ?_
    refine lv_istore (lv' := [(4, .int (0 : Int32)), (0, .ref (bs + 44)), (1, .int x1), (2, .long x2)]) hx hb dX10_longestOf_50 hl (by decide) rfl (fun ls hl => ?_)
    exact vX10_longestOf_52 bs D y n  r Gc  n x1 x2 (0 : Int32) r12.2.1 r12.2.2 _ _ _ hP hS (lv_sub hl [1, 2, 3, 0] rfl) h
  · replace h := if_f c15 h
    refine lv_aload_n hx hb dX10_longestOf_18 rfl (lv_at hl 0 rfl) ?_
    refine g_R (C := RX10) (T := TX10) (N := 49) (ci := 10) 44 33 65 hx hb hts hown hK hP in_X10 rfl hcb okF_44_33 rfc_44_33 fl_176 dX10_longestOf_19 ?_
    refine lv_iload hx hb dX10_longestOf_22 (lv_at hl 3 rfl) ?_
    refine lv_iload hx hb dX10_longestOf_24 (lv_at hl 3 rfl) ?_
    refine lv_aload_n hx hb dX10_longestOf_26 rfl (lv_at hl 0 rfl) ?_
    refine g_R (C := RX10) (T := TX10) (N := 49) (ci := 10) 44 29 61 hx hb hts hown hK hP in_X10 rfl hcb okF_44_29 rfc_44_29 fl_173 dX10_longestOf_27 ?_
    refine lv_iload_n hx hb dX10_longestOf_30 rfl (lv_at hl 1 rfl) ?_
    obtain ⟨hi31, h⟩ := if_s1 h
    refine a_I 61 hx hb hK hP hcb aln_61 hi31 dX10_longestOf_31 ?_
    refine lv_icmp_ne (tgt := 39) hx hb dX10_longestOf_32 (by decide) (fun c32 => ?_) (fun c32 => ?_)
    · replace h := if_f c32 h
      refine lv_sipush (v := (1000 : Int32)) hx hb dX10_longestOf_39 (by decide) ?_
      exact wX10_longestOf_42 bs D y n k9_ r Gc hk9_ x1 x2 x4 x4 (1000 : Int32) r12.2.1 r12.2.2 _ _ _ hP hS (lv_sub hl [0, 1, 2, 3] rfl) h
    · replace h := if_t c32 h
      refine lv_iconst (v := (0 : Int32)) hx hb dX10_longestOf_35 (by decide) ?_
      refine lv_goto (tgt := 42) hx hb dX10_longestOf_36 (by decide) ?_
      exact wX10_longestOf_42 bs D y n k9_ r Gc hk9_ x1 x2 x4 x4 (0 : Int32) r12.2.1 r12.2.2 _ _ _ hP hS (lv_sub hl [0, 1, 2, 3] rfl) h
theorem vX10_longestOf_9 {p : Program} {l : Launch} {e : Env} {s : State} {m : MethodId} {args : Array Value} {below : List Frame} {meth : Method} {c : Code} (bs : Nat) (D : va_G) (y : Y3) (n : Nat) (r : Int32 × M2) (Gc : Gx p s m args meth c cX10_longestOf 8 RX10 bs D y (some .int) 76)  : ∀ (q : Nat) (x1 : Int32) (x2 : Int64) (x4 : Int32) (I : MI) (J : MJ) (H : Heap) (locs : List Loc) (ls : Array Slot), va_P D vwCl (wl bs y I J) H → va_S (FA bs) s.heap H locs → lv_has ls 8 [(0, .ref (bs + 44)), (1, .int x1), (2, .long x2), (4, .int x4)] → lX10_longestOf_9 n  q x1 x2 x4 I J = some r → W p l e (rmm 2 47) s m args below meth c H locs 0 0 (QI below args s bs D y r) (F0 m 9 ls []) := by
  intro q
  induction q with
  | zero =>
    intro x1 x2 x4 I J H locs ls hP hS hl h
    have h : (none : Option (Int32 × M2)) = some r := h
    cases h
  | succ q ih =>
    intro x1 x2 x4 I J H locs ls hP hS hl h
    have h : fX10_longestOf_9 n  (lX10_longestOf_9 n  q) x1 x2 x4 I J = some r := h
    exact wX10_longestOf_9 bs D y n  (lX10_longestOf_9 n  q) r Gc  ih x1 x2 x4 I J H locs ls hP hS hl h
set_option maxHeartbeats 4000000 in
set_option maxRecDepth 100000 in
theorem cX10_longestOf_ (l : Launch) (bs : Nat) (D : va_G) (y : Y3) (hcb : 76 ≤ y.2.2.2) (n : Nat) (x1 : Int32) (I : MI) (J : MJ) (r : Int32 × M2) (h : fX10_longestOf n x1 I J = some r) : Met l yX10_longestOf (.code yX10_longestOf cX10_longestOf 8 (some .int) :: gtb) (rmm 2 47) (va_Pc [.ref (bs + 44), .int x1] (HB bs D y I J)) (QcI bs D y r) 0 0 (FA bs) := by
  refine Met.ofW (cc := cX10_longestOf) (maxL := 8) (ret := (some .int)) (by decide) rfl ?_
  intro p e s m args below meth c s₁ B hml hv
  obtain ⟨rfl, hP, hK, hN, hL⟩ := hv
  have hx := B.exec
  have hb := B.bytes
  have hr := B.returns
  have hts0 := atoms_spec (ws := .code yX10_longestOf cX10_longestOf 8 (some .int) :: gtb) B.pre
  have hts : ∀ w ∈ gtb, w.before [.ref (bs + 44), .int x1].toArray s = true := fun w hw => hts0 w (List.mem_cons_of_mem _ hw)
  have hown : s.vm.findClass RX10 = some m.cls := findClass_of_methodNamed B.named
  have hlocks := B.notSynchronized
  have hS : va_S (FA bs) s.heap s.heap [] := va_S.rf
  have Gc : Gx p s m [.ref (bs + 44), .int x1].toArray meth c cX10_longestOf 8 RX10 bs D y (some .int) 76 := ⟨hx, hb, hml, hown, hts, hK, hN, hL, hr, hlocks, hcb⟩
  have hl := lv_entry [.ref (bs + 44), .int x1] (n := 8) (Nat.le_of_ble_eq_true rfl)
  rw [lg_entry_eq]
  generalize (lg_sl [.ref (bs + 44), .int x1] ++ List.replicate (8 - (lg_sl [.ref (bs + 44), .int x1]).length) Slot.unset).toArray = ls at hl ⊢
  have hl : lv_has ls 8 [(0, .ref (bs + 44)), (1, .int x1)] := hl
  change W p l e (rmm 2 47) s m [.ref (bs + 44), .int x1].toArray below meth c s.heap [] 0 0 (QI below [.ref (bs + 44), .int x1].toArray s bs D y r) (F0 m 0 ls [])
  unfold fX10_longestOf at h
  refine lv_aload_n hx hb dX10_longestOf_0 rfl (lv_at hl 0 rfl) ?_
  refine lv_iload_n hx hb dX10_longestOf_1 rfl (lv_at hl 1 rfl) ?_
  obtain ⟨r2, er2, h⟩ := bd_s1 h
  refine c_VJ (k := 44) (ci := 10) (As := [.int x1]) (rest := []) hx hb hml hown hts hK hN hL hP hS (cX10_endsOf_ l bs D y hcb n x1 I J r2 er2) ok_X10_endsOf ov_X10_endsOf ml_143 ⟨Nat.le_of_ble_eq_true rfl, Nat.le_of_ble_eq_true rfl⟩ rfl hcb kd_44 hl.1 rfl rfl (Nat.le_of_ble_eq_true rfl) ⟨Nat.zero_le _, Nat.zero_le _⟩ dX10_longestOf_2 (fun H locs hP hS => ?_)
  obtain ⟨v5, ev5, h⟩ := lt_s1 h
  refine top_j ev5 ?_
  refine lv_lstore_n (lv' := [(2, .long v5), (0, .ref (bs + 44)), (1, .int x1)]) hx hb dX10_longestOf_5 rfl hl (by decide) rfl (fun ls hl => ?_)
  refine lv_iconst (v := (0 : Int32)) hx hb dX10_longestOf_6 (by decide) ?_
  refine lv_istore (lv' := [(4, .int (0 : Int32)), (2, .long v5), (0, .ref (bs + 44)), (1, .int x1)]) hx hb dX10_longestOf_7 hl (by decide) rfl (fun ls hl => ?_)
  exact vX10_longestOf_9 bs D y n  r Gc  n x1 v5 (0 : Int32) r2.2.1 r2.2.2 _ _ _ hP hS (lv_sub hl [2, 3, 1, 0] rfl) h
theorem dX10_longest_0 : decode cX10_longest 0 = .ok (.aload_n 0, 1) := by decide +kernel
theorem dX10_longest_1 : decode cX10_longest 1 = .ok (.getfield 133, 3) := by decide +kernel
theorem dX10_longest_4 : decode cX10_longest 4 = .ok (.ifCond .ne 10, 3) := by decide +kernel
theorem dX10_longest_7 : decode cX10_longest 7 = .ok (.aload_n 0, 1) := by decide +kernel
theorem dX10_longest_8 : decode cX10_longest 8 = .ok (.bipush (-2), 2) := by decide +kernel
theorem dX10_longest_10 : decode cX10_longest 10 = .ok (.invokevirtual 151, 3) := by decide +kernel
theorem dX10_longest_13 : decode cX10_longest 13 = .ok (.ireturn, 1) := by decide +kernel
theorem dX10_longest_14 : decode cX10_longest 14 = .ok (.iconst 0, 1) := by decide +kernel
theorem dX10_longest_15 : decode cX10_longest 15 = .ok (.istore_n 1, 1) := by decide +kernel
theorem dX10_longest_16 : decode cX10_longest 16 = .ok (.iconst 0, 1) := by decide +kernel
theorem dX10_longest_17 : decode cX10_longest 17 = .ok (.istore_n 2, 1) := by decide +kernel
theorem dX10_longest_18 : decode cX10_longest 18 = .ok (.iload_n 2, 1) := by decide +kernel
theorem dX10_longest_19 : decode cX10_longest 19 = .ok (.aload_n 0, 1) := by decide +kernel
theorem dX10_longest_20 : decode cX10_longest 20 = .ok (.getfield 123, 3) := by decide +kernel
theorem dX10_longest_23 : decode cX10_longest 23 = .ok (.if_icmp .ge 38, 3) := by decide +kernel
theorem dX10_longest_26 : decode cX10_longest 26 = .ok (.aload_n 0, 1) := by decide +kernel
theorem dX10_longest_27 : decode cX10_longest 27 = .ok (.iload_n 2, 1) := by decide +kernel
theorem dX10_longest_28 : decode cX10_longest 28 = .ok (.invokevirtual 236, 3) := by decide +kernel
theorem dX10_longest_31 : decode cX10_longest 31 = .ok (.ifCond .eq 11, 3) := by decide +kernel
theorem dX10_longest_34 : decode cX10_longest 34 = .ok (.aload_n 0, 1) := by decide +kernel
theorem dX10_longest_35 : decode cX10_longest 35 = .ok (.iload_n 2, 1) := by decide +kernel
theorem dX10_longest_36 : decode cX10_longest 36 = .ok (.invokevirtual 308, 3) := by decide +kernel
theorem dX10_longest_39 : decode cX10_longest 39 = .ok (.goto 4, 3) := by decide +kernel
theorem dX10_longest_42 : decode cX10_longest 42 = .ok (.iconst 0, 1) := by decide +kernel
theorem dX10_longest_43 : decode cX10_longest 43 = .ok (.istore_n 3, 1) := by decide +kernel
theorem dX10_longest_44 : decode cX10_longest 44 = .ok (.iload_n 3, 1) := by decide +kernel
theorem dX10_longest_45 : decode cX10_longest 45 = .ok (.iload_n 1, 1) := by decide +kernel
theorem dX10_longest_46 : decode cX10_longest 46 = .ok (.if_icmp .le 7, 3) := by decide +kernel
theorem dX10_longest_49 : decode cX10_longest 49 = .ok (.iload_n 3, 1) := by decide +kernel
theorem dX10_longest_50 : decode cX10_longest 50 = .ok (.goto 4, 3) := by decide +kernel
theorem dX10_longest_53 : decode cX10_longest 53 = .ok (.iload_n 1, 1) := by decide +kernel
theorem dX10_longest_54 : decode cX10_longest 54 = .ok (.istore_n 1, 1) := by decide +kernel
theorem dX10_longest_55 : decode cX10_longest 55 = .ok (.iinc 2 1, 3) := by decide +kernel
theorem dX10_longest_58 : decode cX10_longest 58 = .ok (.goto (-40), 3) := by decide +kernel
theorem dX10_longest_61 : decode cX10_longest 61 = .ok (.iload_n 1, 1) := by decide +kernel
theorem dX10_longest_62 : decode cX10_longest 62 = .ok (.ireturn, 1) := by decide +kernel
set_option maxHeartbeats 4000000 in
set_option maxRecDepth 100000 in
theorem wX10_longest_54 {p : Program} {l : Launch} {e : Env} {s : State} {m : MethodId} {args : Array Value} {below : List Frame} {meth : Method} {c : Code} (bs : Nat) (D : va_G) (y : Y3) (n : Nat) (k18_ : Int32 → Int32 → MI → MJ → Option (Int32 × M2)) (r : Int32 × M2) (Gc : Gx p s m args meth c cX10_longest 4 RX10 bs D y (some .int) 76) (hk18_ : ∀ (x1 : Int32) (x2 : Int32) (I : MI) (J : MJ) (H : Heap) (locs : List Loc) (ls : Array Slot), va_P D vwCl (wl bs y I J) H → va_S (FA bs) s.heap H locs → lv_has ls 4 [(0, .ref (bs + 44)), (1, .int x1), (2, .int x2)] → k18_ x1 x2 I J = some r → W p l e (rmm 3 74) s m args below meth c H locs 0 0 (QI below args s bs D y r) (F0 m 18 ls [])) (x2 : Int32) (s0 : Int32) (I : MI) (J : MJ) (H : Heap) (locs : List Loc) (ls : Array Slot) (hP : va_P D vwCl (wl bs y I J) H) (hS : va_S (FA bs) s.heap H locs) (hl : lv_has ls 4 [(0, .ref (bs + 44)), (2, .int x2)]) (h : fX10_longest_54 n k18_ x2 s0 I J = some r) : W p l e (rmm 3 74) s m args below meth c H locs 0 0 (QI below args s bs D y r) (F0 m 54 ls [.int s0]) := by
  obtain ⟨hx, hb, hml, hown, hts, hK, hN, hL, hr, hlocks, hcb⟩ := id Gc
  unfold fX10_longest_54 at h
  refine lv_istore_n (lv' := [(1, .int s0), (0, .ref (bs + 44)), (2, .int x2)]) hx hb dX10_longest_54 rfl hl (by decide) rfl (fun ls hl => ?_)
  refine lv_iinc (v := (x2 + (1 : Int32))) (lv' := [(2, .int (x2 + (1 : Int32))), (1, .int s0), (0, .ref (bs + 44))]) hx hb dX10_longest_55 hl (k := 2) rfl rfl (by decide) rfl (fun ls hl => ?_)
  refine lv_goto (tgt := 18) hx hb dX10_longest_58 (by decide) ?_
  exact hk18_ s0 (x2 + (1 : Int32)) I J _ _ _ hP hS (lv_sub hl [2, 1, 0] rfl) h
set_option maxHeartbeats 4000000 in
set_option maxRecDepth 100000 in
theorem wX10_longest_43 {p : Program} {l : Launch} {e : Env} {s : State} {m : MethodId} {args : Array Value} {below : List Frame} {meth : Method} {c : Code} (bs : Nat) (D : va_G) (y : Y3) (n : Nat) (k18_ : Int32 → Int32 → MI → MJ → Option (Int32 × M2)) (r : Int32 × M2) (Gc : Gx p s m args meth c cX10_longest 4 RX10 bs D y (some .int) 76) (hk18_ : ∀ (x1 : Int32) (x2 : Int32) (I : MI) (J : MJ) (H : Heap) (locs : List Loc) (ls : Array Slot), va_P D vwCl (wl bs y I J) H → va_S (FA bs) s.heap H locs → lv_has ls 4 [(0, .ref (bs + 44)), (1, .int x1), (2, .int x2)] → k18_ x1 x2 I J = some r → W p l e (rmm 3 74) s m args below meth c H locs 0 0 (QI below args s bs D y r) (F0 m 18 ls [])) (x1 : Int32) (x2 : Int32) (s0 : Int32) (I : MI) (J : MJ) (H : Heap) (locs : List Loc) (ls : Array Slot) (hP : va_P D vwCl (wl bs y I J) H) (hS : va_S (FA bs) s.heap H locs) (hl : lv_has ls 4 [(0, .ref (bs + 44)), (1, .int x1), (2, .int x2)]) (h : fX10_longest_43 n k18_ x1 x2 s0 I J = some r) : W p l e (rmm 3 74) s m args below meth c H locs 0 0 (QI below args s bs D y r) (F0 m 43 ls [.int s0]) := by
  obtain ⟨hx, hb, hml, hown, hts, hK, hN, hL, hr, hlocks, hcb⟩ := id Gc
  unfold fX10_longest_43 at h
  refine lv_istore_n (lv' := [(3, .int s0), (0, .ref (bs + 44)), (1, .int x1), (2, .int x2)]) hx hb dX10_longest_43 rfl hl (by decide) rfl (fun ls hl => ?_)
  refine lv_iload_n hx hb dX10_longest_44 rfl (lv_at hl 0 rfl) ?_
  refine lv_iload_n hx hb dX10_longest_45 rfl (lv_at hl 2 rfl) ?_
  refine lv_icmp_le (tgt := 53) hx hb dX10_longest_46 (by decide) (fun c46 => ?_) (fun c46 => ?_)
  · replace h := if_t c46 h
    refine lv_iload_n hx hb dX10_longest_53 rfl (lv_at hl 2 rfl) ?_
    exact wX10_longest_54 bs D y n k18_ r Gc hk18_ x2 x1 I J _ _ _ hP hS (lv_sub hl [1, 3] rfl) h
  · replace h := if_f c46 h
    refine lv_iload_n hx hb dX10_longest_49 rfl (lv_at hl 0 rfl) ?_
    refine lv_goto (tgt := 54) hx hb dX10_longest_50 (by decide) ?_
    exact wX10_longest_54 bs D y n k18_ r Gc hk18_ x2 s0 I J _ _ _ hP hS (lv_sub hl [1, 3] rfl) h
set_option maxHeartbeats 4000000 in
set_option maxRecDepth 100000 in
theorem wX10_longest_18 {p : Program} {l : Launch} {e : Env} {s : State} {m : MethodId} {args : Array Value} {below : List Frame} {meth : Method} {c : Code} (bs : Nat) (D : va_G) (y : Y3) (n : Nat) (k18_ : Int32 → Int32 → MI → MJ → Option (Int32 × M2)) (r : Int32 × M2) (Gc : Gx p s m args meth c cX10_longest 4 RX10 bs D y (some .int) 76) (hk18_ : ∀ (x1 : Int32) (x2 : Int32) (I : MI) (J : MJ) (H : Heap) (locs : List Loc) (ls : Array Slot), va_P D vwCl (wl bs y I J) H → va_S (FA bs) s.heap H locs → lv_has ls 4 [(0, .ref (bs + 44)), (1, .int x1), (2, .int x2)] → k18_ x1 x2 I J = some r → W p l e (rmm 3 74) s m args below meth c H locs 0 0 (QI below args s bs D y r) (F0 m 18 ls [])) (x1 : Int32) (x2 : Int32) (I : MI) (J : MJ) (H : Heap) (locs : List Loc) (ls : Array Slot) (hP : va_P D vwCl (wl bs y I J) H) (hS : va_S (FA bs) s.heap H locs) (hl : lv_has ls 4 [(0, .ref (bs + 44)), (1, .int x1), (2, .int x2)]) (h : fX10_longest_18 n k18_ x1 x2 I J = some r) : W p l e (rmm 3 74) s m args below meth c H locs 0 0 (QI below args s bs D y r) (F0 m 18 ls []) := by
  obtain ⟨hx, hb, hml, hown, hts, hK, hN, hL, hr, hlocks, hcb⟩ := id Gc
  unfold fX10_longest_18 at h
  refine lv_iload_n hx hb dX10_longest_18 rfl (lv_at hl 2 rfl) ?_
  refine lv_aload_n hx hb dX10_longest_19 rfl (lv_at hl 0 rfl) ?_
  refine g_I (C := RX10) (T := TX10) (N := 49) (ci := 10) 44 6 hx hb hts hown hK hP in_X10 rfl hcb okF_44_6 fl_141 dX10_longest_20 ?_
  refine lv_icmp_ge (tgt := 61) hx hb dX10_longest_23 (by decide) (fun c23 => ?_) (fun c23 => ?_)
  · replace h := if_t c23 h
    refine lv_iload_n hx hb dX10_longest_61 rfl (lv_at hl 1 rfl) ?_
    exact r_I hx hb hr hlocks hP hK hN hL hS h dX10_longest_62
  · replace h := if_f c23 h
    refine lv_aload_n hx hb dX10_longest_26 rfl (lv_at hl 0 rfl) ?_
    refine lv_iload_n hx hb dX10_longest_27 rfl (lv_at hl 2 rfl) ?_
    obtain ⟨r28, er28, h⟩ := bd_s1 h
    refine c_VI (k := 44) (ci := 10) (As := [.int x2]) (rest := []) hx hb hml hown hts hK hN hL hP hS (cX10_isThing_ l bs D y hcb n x2 I J r28 er28) ok_X10_isThing ov_X10_isThing ml_137 ⟨Nat.le_of_ble_eq_true rfl, Nat.le_of_ble_eq_true rfl⟩ rfl hcb kd_44 hl.1 rfl rfl (Nat.le_of_ble_eq_true rfl) ⟨Nat.zero_le _, Nat.zero_le _⟩ dX10_longest_28 (fun H locs hP hS => ?_)
    refine lv_if_eq (tgt := 42) hx hb dX10_longest_31 (by decide) (fun c31 => ?_) (fun c31 => ?_)
    · replace h := if_t c31 h
      refine lv_iconst (v := (0 : Int32)) hx hb dX10_longest_42 (by decide) ?_
      exact wX10_longest_43 bs D y n k18_ r Gc hk18_ x1 x2 (0 : Int32) r28.2.1 r28.2.2 _ _ _ hP hS (lv_sub hl [0, 1, 2] rfl) h
    · replace h := if_f c31 h
      refine lv_aload_n hx hb dX10_longest_34 rfl (lv_at hl 0 rfl) ?_
      refine lv_iload_n hx hb dX10_longest_35 rfl (lv_at hl 2 rfl) ?_
      obtain ⟨r36, er36, h⟩ := bd_s1 h
      refine c_VI (k := 44) (ci := 10) (As := [.int x2]) (rest := []) hx hb hml hown hts hK hN hL hP hS (cX10_longestOf_ l bs D y hcb n x2 r28.2.1 r28.2.2 r36 er36) ok_X10_longestOf ov_X10_longestOf ml_158 ⟨Nat.le_of_ble_eq_true rfl, Nat.le_of_ble_eq_true rfl⟩ rfl hcb kd_44 hl.1 rfl rfl (Nat.le_of_ble_eq_true rfl) ⟨Nat.zero_le _, Nat.zero_le _⟩ dX10_longest_36 (fun H locs hP hS => ?_)
      refine lv_goto (tgt := 43) hx hb dX10_longest_39 (by decide) ?_
      exact wX10_longest_43 bs D y n k18_ r Gc hk18_ x1 x2 r36.1 r36.2.1 r36.2.2 _ _ _ hP hS (lv_sub hl [0, 1, 2] rfl) h
theorem vX10_longest_18 {p : Program} {l : Launch} {e : Env} {s : State} {m : MethodId} {args : Array Value} {below : List Frame} {meth : Method} {c : Code} (bs : Nat) (D : va_G) (y : Y3) (n : Nat) (r : Int32 × M2) (Gc : Gx p s m args meth c cX10_longest 4 RX10 bs D y (some .int) 76)  : ∀ (q : Nat) (x1 : Int32) (x2 : Int32) (I : MI) (J : MJ) (H : Heap) (locs : List Loc) (ls : Array Slot), va_P D vwCl (wl bs y I J) H → va_S (FA bs) s.heap H locs → lv_has ls 4 [(0, .ref (bs + 44)), (1, .int x1), (2, .int x2)] → lX10_longest_18 n  q x1 x2 I J = some r → W p l e (rmm 3 74) s m args below meth c H locs 0 0 (QI below args s bs D y r) (F0 m 18 ls []) := by
  intro q
  induction q with
  | zero =>
    intro x1 x2 I J H locs ls hP hS hl h
    have h : (none : Option (Int32 × M2)) = some r := h
    cases h
  | succ q ih =>
    intro x1 x2 I J H locs ls hP hS hl h
    have h : fX10_longest_18 n  (lX10_longest_18 n  q) x1 x2 I J = some r := h
    exact wX10_longest_18 bs D y n  (lX10_longest_18 n  q) r Gc  ih x1 x2 I J H locs ls hP hS hl h
set_option maxHeartbeats 4000000 in
set_option maxRecDepth 100000 in
theorem cX10_longest_ (l : Launch) (bs : Nat) (D : va_G) (y : Y3) (hcb : 76 ≤ y.2.2.2) (n : Nat) (I : MI) (J : MJ) (r : Int32 × M2) (h : fX10_longest n  I J = some r) : Met l yX10_longest (.code yX10_longest cX10_longest 4 (some .int) :: gtb) (rmm 3 74) (va_Pc [.ref (bs + 44)] (HB bs D y I J)) (QcI bs D y r) 0 0 (FA bs) := by
  refine Met.ofW (cc := cX10_longest) (maxL := 4) (ret := (some .int)) (by decide) rfl ?_
  intro p e s m args below meth c s₁ B hml hv
  obtain ⟨rfl, hP, hK, hN, hL⟩ := hv
  have hx := B.exec
  have hb := B.bytes
  have hr := B.returns
  have hts0 := atoms_spec (ws := .code yX10_longest cX10_longest 4 (some .int) :: gtb) B.pre
  have hts : ∀ w ∈ gtb, w.before [.ref (bs + 44)].toArray s = true := fun w hw => hts0 w (List.mem_cons_of_mem _ hw)
  have hown : s.vm.findClass RX10 = some m.cls := findClass_of_methodNamed B.named
  have hlocks := B.notSynchronized
  have hS : va_S (FA bs) s.heap s.heap [] := va_S.rf
  have Gc : Gx p s m [.ref (bs + 44)].toArray meth c cX10_longest 4 RX10 bs D y (some .int) 76 := ⟨hx, hb, hml, hown, hts, hK, hN, hL, hr, hlocks, hcb⟩
  have hl := lv_entry [.ref (bs + 44)] (n := 4) (Nat.le_of_ble_eq_true rfl)
  rw [lg_entry_eq]
  generalize (lg_sl [.ref (bs + 44)] ++ List.replicate (4 - (lg_sl [.ref (bs + 44)]).length) Slot.unset).toArray = ls at hl ⊢
  have hl : lv_has ls 4 [(0, .ref (bs + 44))] := hl
  change W p l e (rmm 3 74) s m [.ref (bs + 44)].toArray below meth c s.heap [] 0 0 (QI below [.ref (bs + 44)].toArray s bs D y r) (F0 m 0 ls [])
  unfold fX10_longest at h
  refine lv_aload_n hx hb dX10_longest_0 rfl (lv_at hl 0 rfl) ?_
  refine g_I (C := RX10) (T := TX10) (N := 49) (ci := 10) 44 13 hx hb hts hown hK hP in_X10 rfl hcb okF_44_13 fl_150 dX10_longest_1 ?_
  refine lv_if_ne (tgt := 14) hx hb dX10_longest_4 (by decide) (fun c4 => ?_) (fun c4 => ?_)
  · replace h := if_f c4 h
    refine lv_iconst (v := (0 : Int32)) hx hb dX10_longest_14 (by decide) ?_
    refine lv_istore_n (lv' := [(1, .int (0 : Int32)), (0, .ref (bs + 44))]) hx hb dX10_longest_15 rfl hl (by decide) rfl (fun ls hl => ?_)
    refine lv_iconst (v := (0 : Int32)) hx hb dX10_longest_16 (by decide) ?_
    refine lv_istore_n (lv' := [(2, .int (0 : Int32)), (1, .int (0 : Int32)), (0, .ref (bs + 44))]) hx hb dX10_longest_17 rfl hl (by decide) rfl (fun ls hl => ?_)
    exact vX10_longest_18 bs D y n  r Gc  n (0 : Int32) (0 : Int32) I J _ _ _ hP hS (lv_sub hl [2, 1, 0] rfl) h
  · replace h := if_t c4 h
    refine lv_aload_n hx hb dX10_longest_7 rfl (lv_at hl 0 rfl) ?_
    refine lv_bipush (v := (-2 : Int32)) hx hb dX10_longest_8 (by decide) ?_
    obtain ⟨r10, er10, h⟩ := bd_s1 h
    refine c_VI (k := 44) (ci := 10) (As := [.int (-2 : Int32)]) (rest := []) hx hb hml hown hts hK hN hL hP hS (cX10_no_ l bs D y hcb n (-2 : Int32) I J r10 er10) ok_X10_no ov_X10_no ml_118 ⟨Nat.le_of_ble_eq_true rfl, Nat.le_of_ble_eq_true rfl⟩ rfl hcb kd_44 hl.1 rfl rfl (Nat.le_of_ble_eq_true rfl) ⟨Nat.zero_le _, Nat.zero_le _⟩ dX10_longest_10 (fun H locs hP hS => ?_)
    exact r_I hx hb hr hlocks hP hK hN hL hS h dX10_longest_13
theorem dX10_puts_0 : decode cX10_puts 0 = .ok (.aload_n 0, 1) := by decide +kernel
theorem dX10_puts_1 : decode cX10_puts 1 = .ok (.getfield 93, 3) := by decide +kernel
theorem dX10_puts_4 : decode cX10_puts 4 = .ok (.bipush 40, 2) := by decide +kernel
theorem dX10_puts_6 : decode cX10_puts 6 = .ok (.iload_n 1, 1) := by decide +kernel
theorem dX10_puts_7 : decode cX10_puts 7 = .ok (.imul, 1) := by decide +kernel
theorem dX10_puts_8 : decode cX10_puts 8 = .ok (.aload_n 0, 1) := by decide +kernel
theorem dX10_puts_9 : decode cX10_puts 9 = .ok (.getfield 96, 3) := by decide +kernel
theorem dX10_puts_12 : decode cX10_puts 12 = .ok (.iload_n 1, 1) := by decide +kernel
theorem dX10_puts_13 : decode cX10_puts 13 = .ok (.iaload, 1) := by decide +kernel
theorem dX10_puts_14 : decode cX10_puts 14 = .ok (.iadd, 1) := by decide +kernel
theorem dX10_puts_15 : decode cX10_puts 15 = .ok (.iload_n 2, 1) := by decide +kernel
theorem dX10_puts_16 : decode cX10_puts 16 = .ok (.sipush 255, 3) := by decide +kernel
theorem dX10_puts_19 : decode cX10_puts 19 = .ok (.iand, 1) := by decide +kernel
theorem dX10_puts_20 : decode cX10_puts 20 = .ok (.iastore, 1) := by decide +kernel
theorem dX10_puts_21 : decode cX10_puts 21 = .ok (.aload_n 0, 1) := by decide +kernel
theorem dX10_puts_22 : decode cX10_puts 22 = .ok (.getfield 96, 3) := by decide +kernel
theorem dX10_puts_25 : decode cX10_puts 25 = .ok (.iload_n 1, 1) := by decide +kernel
theorem dX10_puts_26 : decode cX10_puts 26 = .ok (.dup2, 1) := by decide +kernel
theorem dX10_puts_27 : decode cX10_puts 27 = .ok (.iaload, 1) := by decide +kernel
theorem dX10_puts_28 : decode cX10_puts 28 = .ok (.iconst 1, 1) := by decide +kernel
theorem dX10_puts_29 : decode cX10_puts 29 = .ok (.iadd, 1) := by decide +kernel
theorem dX10_puts_30 : decode cX10_puts 30 = .ok (.iastore, 1) := by decide +kernel
theorem dX10_puts_31 : decode cX10_puts 31 = .ok (.return_, 1) := by decide +kernel
set_option maxHeartbeats 4000000 in
set_option maxRecDepth 100000 in
theorem cX10_puts_ (l : Launch) (bs : Nat) (D : va_G) (y : Y3) (hcb : 76 ≤ y.2.2.2) (n : Nat) (x1 : Int32) (x2 : Int32) (I : MI) (J : MJ) (r : M2) (h : fX10_puts n x1 x2 I J = some r) : Met l yX10_puts (.code yX10_puts cX10_puts 3 none :: gtb) (rmm 0 0) (va_Pc [.ref (bs + 44), .int x1, .int x2] (HB bs D y I J)) (QcV bs D y r) 0 0 (FA bs) := by
  refine Met.ofW (cc := cX10_puts) (maxL := 3) (ret := none) (by decide) rfl ?_
  intro p e s m args below meth c s₁ B hml hv
  obtain ⟨rfl, hP, hK, hN, hL⟩ := hv
  have hx := B.exec
  have hb := B.bytes
  have hr := B.returns
  have hts0 := atoms_spec (ws := .code yX10_puts cX10_puts 3 none :: gtb) B.pre
  have hts : ∀ w ∈ gtb, w.before [.ref (bs + 44), .int x1, .int x2].toArray s = true := fun w hw => hts0 w (List.mem_cons_of_mem _ hw)
  have hown : s.vm.findClass RX10 = some m.cls := findClass_of_methodNamed B.named
  have hlocks := B.notSynchronized
  have hS : va_S (FA bs) s.heap s.heap [] := va_S.rf
  have Gc : Gx p s m [.ref (bs + 44), .int x1, .int x2].toArray meth c cX10_puts 3 RX10 bs D y none 76 := ⟨hx, hb, hml, hown, hts, hK, hN, hL, hr, hlocks, hcb⟩
  have hl := lv_entry [.ref (bs + 44), .int x1, .int x2] (n := 3) (Nat.le_of_ble_eq_true rfl)
  rw [lg_entry_eq]
  generalize (lg_sl [.ref (bs + 44), .int x1, .int x2] ++ List.replicate (3 - (lg_sl [.ref (bs + 44), .int x1, .int x2]).length) Slot.unset).toArray = ls at hl ⊢
  have hl : lv_has ls 3 [(0, .ref (bs + 44)), (1, .int x1), (2, .int x2)] := hl
  change W p l e (rmm 0 0) s m [.ref (bs + 44), .int x1, .int x2].toArray below meth c s.heap [] 0 0 (QV below [.ref (bs + 44), .int x1, .int x2].toArray s bs D y r) (F0 m 0 ls [])
  unfold fX10_puts at h
  refine lv_aload_n hx hb dX10_puts_0 rfl (lv_at hl 0 rfl) ?_
  refine g_R (C := RX10) (T := TX10) (N := 49) (ci := 10) 44 36 68 hx hb hts hown hK hP in_X10 rfl hcb okF_44_36 rfc_44_36 fl_180 dX10_puts_1 ?_
  refine lv_bipush (v := (40 : Int32)) hx hb dX10_puts_4 (by decide) ?_
  refine lv_iload_n hx hb dX10_puts_6 rfl (lv_at hl 1 rfl) ?_
  refine lv_imul hx hb dX10_puts_7 ?_
  refine lv_aload_n hx hb dX10_puts_8 rfl (lv_at hl 0 rfl) ?_
  refine g_R (C := RX10) (T := TX10) (N := 49) (ci := 10) 44 37 69 hx hb hts hown hK hP in_X10 rfl hcb okF_44_37 rfc_44_37 fl_181 dX10_puts_9 ?_
  refine lv_iload_n hx hb dX10_puts_12 rfl (lv_at hl 1 rfl) ?_
  obtain ⟨hi13, h⟩ := if_s1 h
  refine a_I 69 hx hb hK hP hcb aln_69 hi13 dX10_puts_13 ?_
  refine lv_iadd hx hb dX10_puts_14 ?_
  refine lv_iload_n hx hb dX10_puts_15 rfl (lv_at hl 2 rfl) ?_
  refine lv_sipush (v := (255 : Int32)) hx hb dX10_puts_16 (by decide) ?_
  refine lv_iand hx hb dX10_puts_19 ?_
  obtain ⟨hi20, h⟩ := if_s1 h
  obtain ⟨I20, eI20, h⟩ := lt_s1 h
  refine t_I 68 eI20 hx hb hK hP hS hcb aln_68 hi20 dX10_puts_20 (fun H locs hP hS => ?_)
  refine lv_aload_n hx hb dX10_puts_21 rfl (lv_at hl 0 rfl) ?_
  refine g_R (C := RX10) (T := TX10) (N := 49) (ci := 10) 44 37 69 hx hb hts hown hK hP in_X10 rfl hcb okF_44_37 rfc_44_37 fl_181 dX10_puts_22 ?_
  refine lv_iload_n hx hb dX10_puts_25 rfl (lv_at hl 1 rfl) ?_
  refine lv_dup2_11 hx hb dX10_puts_26 rfl rfl ?_
  obtain ⟨hi27, h⟩ := if_s1 h
  refine a_I 69 hx hb hK hP hcb aln_69 hi27 dX10_puts_27 ?_
  refine lv_iconst (v := (1 : Int32)) hx hb dX10_puts_28 (by decide) ?_
  refine lv_iadd hx hb dX10_puts_29 ?_
  obtain ⟨hi30, h⟩ := if_s1 h
  obtain ⟨I30, eI30, h⟩ := lt_s1 h
  refine t_I 69 eI30 hx hb hK hP hS hcb aln_69 hi30 dX10_puts_30 (fun H locs hP hS => ?_)
  exact r_V hx hb hr hlocks hP hK hN hL hS h dX10_puts_31
theorem dX10_sumOf_0 : decode cX10_sumOf 0 = .ok (.sipush 255, 3) := by decide +kernel
theorem dX10_sumOf_3 : decode cX10_sumOf 3 = .ok (.istore_n 2, 1) := by decide +kernel
theorem dX10_sumOf_4 : decode cX10_sumOf 4 = .ok (.iconst 0, 1) := by decide +kernel
theorem dX10_sumOf_5 : decode cX10_sumOf 5 = .ok (.istore_n 3, 1) := by decide +kernel
theorem dX10_sumOf_6 : decode cX10_sumOf 6 = .ok (.iload_n 3, 1) := by decide +kernel
theorem dX10_sumOf_7 : decode cX10_sumOf 7 = .ok (.aload_n 0, 1) := by decide +kernel
theorem dX10_sumOf_8 : decode cX10_sumOf 8 = .ok (.getfield 96, 3) := by decide +kernel
theorem dX10_sumOf_11 : decode cX10_sumOf 11 = .ok (.iload_n 1, 1) := by decide +kernel
theorem dX10_sumOf_12 : decode cX10_sumOf 12 = .ok (.iaload, 1) := by decide +kernel
theorem dX10_sumOf_13 : decode cX10_sumOf 13 = .ok (.iconst 1, 1) := by decide +kernel
theorem dX10_sumOf_14 : decode cX10_sumOf 14 = .ok (.isub, 1) := by decide +kernel
theorem dX10_sumOf_15 : decode cX10_sumOf 15 = .ok (.if_icmp .ge 23, 3) := by decide +kernel
theorem dX10_sumOf_18 : decode cX10_sumOf 18 = .ok (.iload_n 2, 1) := by decide +kernel
theorem dX10_sumOf_19 : decode cX10_sumOf 19 = .ok (.aload_n 0, 1) := by decide +kernel
theorem dX10_sumOf_20 : decode cX10_sumOf 20 = .ok (.getfield 93, 3) := by decide +kernel
theorem dX10_sumOf_23 : decode cX10_sumOf 23 = .ok (.bipush 40, 2) := by decide +kernel
theorem dX10_sumOf_25 : decode cX10_sumOf 25 = .ok (.iload_n 1, 1) := by decide +kernel
theorem dX10_sumOf_26 : decode cX10_sumOf 26 = .ok (.imul, 1) := by decide +kernel
theorem dX10_sumOf_27 : decode cX10_sumOf 27 = .ok (.iload_n 3, 1) := by decide +kernel
theorem dX10_sumOf_28 : decode cX10_sumOf 28 = .ok (.iadd, 1) := by decide +kernel
theorem dX10_sumOf_29 : decode cX10_sumOf 29 = .ok (.iaload, 1) := by decide +kernel
theorem dX10_sumOf_30 : decode cX10_sumOf 30 = .ok (.isub, 1) := by decide +kernel
theorem dX10_sumOf_31 : decode cX10_sumOf 31 = .ok (.istore_n 2, 1) := by decide +kernel
theorem dX10_sumOf_32 : decode cX10_sumOf 32 = .ok (.iinc 3 1, 3) := by decide +kernel
theorem dX10_sumOf_35 : decode cX10_sumOf 35 = .ok (.goto (-29), 3) := by decide +kernel
theorem dX10_sumOf_38 : decode cX10_sumOf 38 = .ok (.iload_n 2, 1) := by decide +kernel
theorem dX10_sumOf_39 : decode cX10_sumOf 39 = .ok (.sipush 255, 3) := by decide +kernel
theorem dX10_sumOf_42 : decode cX10_sumOf 42 = .ok (.iand, 1) := by decide +kernel
theorem dX10_sumOf_43 : decode cX10_sumOf 43 = .ok (.ireturn, 1) := by decide +kernel
set_option maxHeartbeats 4000000 in
set_option maxRecDepth 100000 in
theorem wX10_sumOf_6 {p : Program} {l : Launch} {e : Env} {s : State} {m : MethodId} {args : Array Value} {below : List Frame} {meth : Method} {c : Code} (bs : Nat) (D : va_G) (y : Y3) (n : Nat) (k6_ : Int32 → Int32 → Int32 → MI → MJ → Option (Int32 × M2)) (r : Int32 × M2) (Gc : Gx p s m args meth c cX10_sumOf 4 RX10 bs D y (some .int) 76) (hk6_ : ∀ (x1 : Int32) (x2 : Int32) (x3 : Int32) (I : MI) (J : MJ) (H : Heap) (locs : List Loc) (ls : Array Slot), va_P D vwCl (wl bs y I J) H → va_S (FA bs) s.heap H locs → lv_has ls 4 [(0, .ref (bs + 44)), (1, .int x1), (2, .int x2), (3, .int x3)] → k6_ x1 x2 x3 I J = some r → W p l e (rmm 0 0) s m args below meth c H locs 0 0 (QI below args s bs D y r) (F0 m 6 ls [])) (x1 : Int32) (x2 : Int32) (x3 : Int32) (I : MI) (J : MJ) (H : Heap) (locs : List Loc) (ls : Array Slot) (hP : va_P D vwCl (wl bs y I J) H) (hS : va_S (FA bs) s.heap H locs) (hl : lv_has ls 4 [(0, .ref (bs + 44)), (1, .int x1), (2, .int x2), (3, .int x3)]) (h : fX10_sumOf_6 n k6_ x1 x2 x3 I J = some r) : W p l e (rmm 0 0) s m args below meth c H locs 0 0 (QI below args s bs D y r) (F0 m 6 ls []) := by
  obtain ⟨hx, hb, hml, hown, hts, hK, hN, hL, hr, hlocks, hcb⟩ := id Gc
  unfold fX10_sumOf_6 at h
  refine lv_iload_n hx hb dX10_sumOf_6 rfl (lv_at hl 3 rfl) ?_
  refine lv_aload_n hx hb dX10_sumOf_7 rfl (lv_at hl 0 rfl) ?_
  refine g_R (C := RX10) (T := TX10) (N := 49) (ci := 10) 44 37 69 hx hb hts hown hK hP in_X10 rfl hcb okF_44_37 rfc_44_37 fl_181 dX10_sumOf_8 ?_
  refine lv_iload_n hx hb dX10_sumOf_11 rfl (lv_at hl 1 rfl) ?_
  obtain ⟨hi12, h⟩ := if_s1 h
  refine a_I 69 hx hb hK hP hcb aln_69 hi12 dX10_sumOf_12 ?_
  refine lv_iconst (v := (1 : Int32)) hx hb dX10_sumOf_13 (by decide) ?_
  refine lv_isub hx hb dX10_sumOf_14 ?_
  refine lv_icmp_ge (tgt := 38) hx hb dX10_sumOf_15 (by decide) (fun c15 => ?_) (fun c15 => ?_)
  · replace h := if_t c15 h
    refine lv_iload_n hx hb dX10_sumOf_38 rfl (lv_at hl 2 rfl) ?_
    refine lv_sipush (v := (255 : Int32)) hx hb dX10_sumOf_39 (by decide) ?_
    refine lv_iand hx hb dX10_sumOf_42 ?_
    exact r_I hx hb hr hlocks hP hK hN hL hS h dX10_sumOf_43
  · replace h := if_f c15 h
    refine lv_iload_n hx hb dX10_sumOf_18 rfl (lv_at hl 2 rfl) ?_
    refine lv_aload_n hx hb dX10_sumOf_19 rfl (lv_at hl 0 rfl) ?_
    refine g_R (C := RX10) (T := TX10) (N := 49) (ci := 10) 44 36 68 hx hb hts hown hK hP in_X10 rfl hcb okF_44_36 rfc_44_36 fl_180 dX10_sumOf_20 ?_
    refine lv_bipush (v := (40 : Int32)) hx hb dX10_sumOf_23 (by decide) ?_
    refine lv_iload_n hx hb dX10_sumOf_25 rfl (lv_at hl 1 rfl) ?_
    refine lv_imul hx hb dX10_sumOf_26 ?_
    refine lv_iload_n hx hb dX10_sumOf_27 rfl (lv_at hl 3 rfl) ?_
    refine lv_iadd hx hb dX10_sumOf_28 ?_
    obtain ⟨hi29, h⟩ := if_s1 h
    refine a_I 68 hx hb hK hP hcb aln_68 hi29 dX10_sumOf_29 ?_
    refine lv_isub hx hb dX10_sumOf_30 ?_
    obtain ⟨v31, ev31, h⟩ := lt_s1 h
    refine top_i ev31 ?_
    refine lv_istore_n (lv' := [(2, .int v31), (0, .ref (bs + 44)), (1, .int x1), (3, .int x3)]) hx hb dX10_sumOf_31 rfl hl (by decide) rfl (fun ls hl => ?_)
    refine lv_iinc (v := (x3 + (1 : Int32))) (lv' := [(3, .int (x3 + (1 : Int32))), (2, .int v31), (0, .ref (bs + 44)), (1, .int x1)]) hx hb dX10_sumOf_32 hl (k := 3) rfl rfl (by decide) rfl (fun ls hl => ?_)
    refine lv_goto (tgt := 6) hx hb dX10_sumOf_35 (by decide) ?_
    exact hk6_ x1 v31 (x3 + (1 : Int32)) I J _ _ _ hP hS (lv_sub hl [2, 3, 1, 0] rfl) h
theorem vX10_sumOf_6 {p : Program} {l : Launch} {e : Env} {s : State} {m : MethodId} {args : Array Value} {below : List Frame} {meth : Method} {c : Code} (bs : Nat) (D : va_G) (y : Y3) (n : Nat) (r : Int32 × M2) (Gc : Gx p s m args meth c cX10_sumOf 4 RX10 bs D y (some .int) 76)  : ∀ (q : Nat) (x1 : Int32) (x2 : Int32) (x3 : Int32) (I : MI) (J : MJ) (H : Heap) (locs : List Loc) (ls : Array Slot), va_P D vwCl (wl bs y I J) H → va_S (FA bs) s.heap H locs → lv_has ls 4 [(0, .ref (bs + 44)), (1, .int x1), (2, .int x2), (3, .int x3)] → lX10_sumOf_6 n  q x1 x2 x3 I J = some r → W p l e (rmm 0 0) s m args below meth c H locs 0 0 (QI below args s bs D y r) (F0 m 6 ls []) := by
  intro q
  induction q with
  | zero =>
    intro x1 x2 x3 I J H locs ls hP hS hl h
    have h : (none : Option (Int32 × M2)) = some r := h
    cases h
  | succ q ih =>
    intro x1 x2 x3 I J H locs ls hP hS hl h
    have h : fX10_sumOf_6 n  (lX10_sumOf_6 n  q) x1 x2 x3 I J = some r := h
    exact wX10_sumOf_6 bs D y n  (lX10_sumOf_6 n  q) r Gc  ih x1 x2 x3 I J H locs ls hP hS hl h
set_option maxHeartbeats 4000000 in
set_option maxRecDepth 100000 in
theorem cX10_sumOf_ (l : Launch) (bs : Nat) (D : va_G) (y : Y3) (hcb : 76 ≤ y.2.2.2) (n : Nat) (x1 : Int32) (I : MI) (J : MJ) (r : Int32 × M2) (h : fX10_sumOf n x1 I J = some r) : Met l yX10_sumOf (.code yX10_sumOf cX10_sumOf 4 (some .int) :: gtb) (rmm 0 0) (va_Pc [.ref (bs + 44), .int x1] (HB bs D y I J)) (QcI bs D y r) 0 0 (FA bs) := by
  refine Met.ofW (cc := cX10_sumOf) (maxL := 4) (ret := (some .int)) (by decide) rfl ?_
  intro p e s m args below meth c s₁ B hml hv
  obtain ⟨rfl, hP, hK, hN, hL⟩ := hv
  have hx := B.exec
  have hb := B.bytes
  have hr := B.returns
  have hts0 := atoms_spec (ws := .code yX10_sumOf cX10_sumOf 4 (some .int) :: gtb) B.pre
  have hts : ∀ w ∈ gtb, w.before [.ref (bs + 44), .int x1].toArray s = true := fun w hw => hts0 w (List.mem_cons_of_mem _ hw)
  have hown : s.vm.findClass RX10 = some m.cls := findClass_of_methodNamed B.named
  have hlocks := B.notSynchronized
  have hS : va_S (FA bs) s.heap s.heap [] := va_S.rf
  have Gc : Gx p s m [.ref (bs + 44), .int x1].toArray meth c cX10_sumOf 4 RX10 bs D y (some .int) 76 := ⟨hx, hb, hml, hown, hts, hK, hN, hL, hr, hlocks, hcb⟩
  have hl := lv_entry [.ref (bs + 44), .int x1] (n := 4) (Nat.le_of_ble_eq_true rfl)
  rw [lg_entry_eq]
  generalize (lg_sl [.ref (bs + 44), .int x1] ++ List.replicate (4 - (lg_sl [.ref (bs + 44), .int x1]).length) Slot.unset).toArray = ls at hl ⊢
  have hl : lv_has ls 4 [(0, .ref (bs + 44)), (1, .int x1)] := hl
  change W p l e (rmm 0 0) s m [.ref (bs + 44), .int x1].toArray below meth c s.heap [] 0 0 (QI below [.ref (bs + 44), .int x1].toArray s bs D y r) (F0 m 0 ls [])
  unfold fX10_sumOf at h
  refine lv_sipush (v := (255 : Int32)) hx hb dX10_sumOf_0 (by decide) ?_
  refine lv_istore_n (lv' := [(2, .int (255 : Int32)), (0, .ref (bs + 44)), (1, .int x1)]) hx hb dX10_sumOf_3 rfl hl (by decide) rfl (fun ls hl => ?_)
  refine lv_iconst (v := (0 : Int32)) hx hb dX10_sumOf_4 (by decide) ?_
  refine lv_istore_n (lv' := [(3, .int (0 : Int32)), (2, .int (255 : Int32)), (0, .ref (bs + 44)), (1, .int x1)]) hx hb dX10_sumOf_5 rfl hl (by decide) rfl (fun ls hl => ?_)
  exact vX10_sumOf_6 bs D y n  r Gc  n x1 (255 : Int32) (0 : Int32) I J _ _ _ hP hS (lv_sub hl [2, 3, 1, 0] rfl) h
theorem dX10_frames_0 : decode cX10_frames 0 = .ok (.aload_n 0, 1) := by decide +kernel
theorem dX10_frames_1 : decode cX10_frames 1 = .ok (.getfield 130, 3) := by decide +kernel
theorem dX10_frames_4 : decode cX10_frames 4 = .ok (.ifCond .ne 10, 3) := by decide +kernel
theorem dX10_frames_7 : decode cX10_frames 7 = .ok (.aload_n 0, 1) := by decide +kernel
theorem dX10_frames_8 : decode cX10_frames 8 = .ok (.bipush (-2), 2) := by decide +kernel
theorem dX10_frames_10 : decode cX10_frames 10 = .ok (.invokevirtual 151, 3) := by decide +kernel
theorem dX10_frames_13 : decode cX10_frames 13 = .ok (.ireturn, 1) := by decide +kernel
theorem dX10_frames_14 : decode cX10_frames 14 = .ok (.iconst 0, 1) := by decide +kernel
theorem dX10_frames_15 : decode cX10_frames 15 = .ok (.istore_n 1, 1) := by decide +kernel
theorem dX10_frames_16 : decode cX10_frames 16 = .ok (.iconst 0, 1) := by decide +kernel
theorem dX10_frames_17 : decode cX10_frames 17 = .ok (.istore_n 2, 1) := by decide +kernel
theorem dX10_frames_18 : decode cX10_frames 18 = .ok (.iload_n 2, 1) := by decide +kernel
theorem dX10_frames_19 : decode cX10_frames 19 = .ok (.aload_n 0, 1) := by decide +kernel
theorem dX10_frames_20 : decode cX10_frames 20 = .ok (.invokevirtual 216, 3) := by decide +kernel
theorem dX10_frames_23 : decode cX10_frames 23 = .ok (.if_icmp .ge 16, 3) := by decide +kernel
theorem dX10_frames_26 : decode cX10_frames 26 = .ok (.aload_n 0, 1) := by decide +kernel
theorem dX10_frames_27 : decode cX10_frames 27 = .ok (.getfield 96, 3) := by decide +kernel
theorem dX10_frames_30 : decode cX10_frames 30 = .ok (.iload_n 2, 1) := by decide +kernel
theorem dX10_frames_31 : decode cX10_frames 31 = .ok (.iconst 0, 1) := by decide +kernel
theorem dX10_frames_32 : decode cX10_frames 32 = .ok (.iastore, 1) := by decide +kernel
theorem dX10_frames_33 : decode cX10_frames 33 = .ok (.iinc 2 1, 3) := by decide +kernel
theorem dX10_frames_36 : decode cX10_frames 36 = .ok (.goto (-18), 3) := by decide +kernel
theorem dX10_frames_39 : decode cX10_frames 39 = .ok (.iconst 0, 1) := by decide +kernel
theorem dX10_frames_40 : decode cX10_frames 40 = .ok (.istore_n 2, 1) := by decide +kernel
theorem dX10_frames_41 : decode cX10_frames 41 = .ok (.iload_n 2, 1) := by decide +kernel
theorem dX10_frames_42 : decode cX10_frames 42 = .ok (.aload_n 0, 1) := by decide +kernel
theorem dX10_frames_43 : decode cX10_frames 43 = .ok (.getfield 123, 3) := by decide +kernel
theorem dX10_frames_46 : decode cX10_frames 46 = .ok (.if_icmp .ge 140, 3) := by decide +kernel
theorem dX10_frames_49 : decode cX10_frames 49 = .ok (.aload_n 0, 1) := by decide +kernel
theorem dX10_frames_50 : decode cX10_frames 50 = .ok (.iload_n 2, 1) := by decide +kernel
theorem dX10_frames_51 : decode cX10_frames 51 = .ok (.invokevirtual 236, 3) := by decide +kernel
theorem dX10_frames_54 : decode cX10_frames 54 = .ok (.ifCond .ne 6, 3) := by decide +kernel
theorem dX10_frames_57 : decode cX10_frames 57 = .ok (.goto 123, 3) := by decide +kernel
theorem dX10_frames_60 : decode cX10_frames 60 = .ok (.aload_n 0, 1) := by decide +kernel
theorem dX10_frames_61 : decode cX10_frames 61 = .ok (.getfield 72, 3) := by decide +kernel
theorem dX10_frames_64 : decode cX10_frames 64 = .ok (.iload_n 2, 1) := by decide +kernel
theorem dX10_frames_65 : decode cX10_frames 65 = .ok (.iaload, 1) := by decide +kernel
theorem dX10_frames_66 : decode cX10_frames 66 = .ok (.istore_n 3, 1) := by decide +kernel
theorem dX10_frames_67 : decode cX10_frames 67 = .ok (.aload_n 0, 1) := by decide +kernel
theorem dX10_frames_68 : decode cX10_frames 68 = .ok (.getfield 99, 3) := by decide +kernel
theorem dX10_frames_71 : decode cX10_frames 71 = .ok (.iload_n 2, 1) := by decide +kernel
theorem dX10_frames_72 : decode cX10_frames 72 = .ok (.bipush 40, 2) := by decide +kernel
theorem dX10_frames_74 : decode cX10_frames 74 = .ok (.iload_n 3, 1) := by decide +kernel
theorem dX10_frames_75 : decode cX10_frames 75 = .ok (.imul, 1) := by decide +kernel
theorem dX10_frames_76 : decode cX10_frames 76 = .ok (.aload_n 0, 1) := by decide +kernel
theorem dX10_frames_77 : decode cX10_frames 77 = .ok (.getfield 96, 3) := by decide +kernel
theorem dX10_frames_80 : decode cX10_frames 80 = .ok (.iload_n 3, 1) := by decide +kernel
theorem dX10_frames_81 : decode cX10_frames 81 = .ok (.iaload, 1) := by decide +kernel
theorem dX10_frames_82 : decode cX10_frames 82 = .ok (.iadd, 1) := by decide +kernel
theorem dX10_frames_83 : decode cX10_frames 83 = .ok (.iastore, 1) := by decide +kernel
theorem dX10_frames_84 : decode cX10_frames 84 = .ok (.aload_n 0, 1) := by decide +kernel
theorem dX10_frames_85 : decode cX10_frames 85 = .ok (.iload_n 3, 1) := by decide +kernel
theorem dX10_frames_86 : decode cX10_frames 86 = .ok (.iload_n 2, 1) := by decide +kernel
theorem dX10_frames_87 : decode cX10_frames 87 = .ok (.invokevirtual 311, 3) := by decide +kernel
theorem dX10_frames_90 : decode cX10_frames 90 = .ok (.aload_n 0, 1) := by decide +kernel
theorem dX10_frames_91 : decode cX10_frames 91 = .ok (.iload_n 3, 1) := by decide +kernel
theorem dX10_frames_92 : decode cX10_frames 92 = .ok (.aload_n 0, 1) := by decide +kernel
theorem dX10_frames_93 : decode cX10_frames 93 = .ok (.getfield 7, 3) := by decide +kernel
theorem dX10_frames_96 : decode cX10_frames 96 = .ok (.iload_n 2, 1) := by decide +kernel
theorem dX10_frames_97 : decode cX10_frames 97 = .ok (.iaload, 1) := by decide +kernel
theorem dX10_frames_98 : decode cX10_frames 98 = .ok (.invokevirtual 311, 3) := by decide +kernel
theorem dX10_frames_101 : decode cX10_frames 101 = .ok (.aload_n 0, 1) := by decide +kernel
theorem dX10_frames_102 : decode cX10_frames 102 = .ok (.iload_n 3, 1) := by decide +kernel
theorem dX10_frames_103 : decode cX10_frames 103 = .ok (.aload_n 0, 1) := by decide +kernel
theorem dX10_frames_104 : decode cX10_frames 104 = .ok (.iload_n 2, 1) := by decide +kernel
theorem dX10_frames_105 : decode cX10_frames 105 = .ok (.invokevirtual 261, 3) := by decide +kernel
theorem dX10_frames_108 : decode cX10_frames 108 = .ok (.invokevirtual 311, 3) := by decide +kernel
theorem dX10_frames_111 : decode cX10_frames 111 = .ok (.iconst 0, 1) := by decide +kernel
theorem dX10_frames_112 : decode cX10_frames 112 = .ok (.istore 4, 2) := by decide +kernel
theorem dX10_frames_114 : decode cX10_frames 114 = .ok (.iload 4, 2) := by decide +kernel
theorem dX10_frames_116 : decode cX10_frames 116 = .ok (.aload_n 0, 1) := by decide +kernel
theorem dX10_frames_117 : decode cX10_frames 117 = .ok (.iload_n 2, 1) := by decide +kernel
theorem dX10_frames_118 : decode cX10_frames 118 = .ok (.invokevirtual 261, 3) := by decide +kernel
theorem dX10_frames_121 : decode cX10_frames 121 = .ok (.if_icmp .ge 21, 3) := by decide +kernel
theorem dX10_frames_124 : decode cX10_frames 124 = .ok (.aload_n 0, 1) := by decide +kernel
theorem dX10_frames_125 : decode cX10_frames 125 = .ok (.iload_n 3, 1) := by decide +kernel
theorem dX10_frames_126 : decode cX10_frames 126 = .ok (.aload_n 0, 1) := by decide +kernel
theorem dX10_frames_127 : decode cX10_frames 127 = .ok (.iload_n 2, 1) := by decide +kernel
theorem dX10_frames_128 : decode cX10_frames 128 = .ok (.iload 4, 2) := by decide +kernel
theorem dX10_frames_130 : decode cX10_frames 130 = .ok (.invokevirtual 264, 3) := by decide +kernel
theorem dX10_frames_133 : decode cX10_frames 133 = .ok (.invokevirtual 311, 3) := by decide +kernel
theorem dX10_frames_136 : decode cX10_frames 136 = .ok (.iinc 4 1, 3) := by decide +kernel
theorem dX10_frames_139 : decode cX10_frames 139 = .ok (.goto (-25), 3) := by decide +kernel
theorem dX10_frames_142 : decode cX10_frames 142 = .ok (.aload_n 0, 1) := by decide +kernel
theorem dX10_frames_143 : decode cX10_frames 143 = .ok (.getfield 7, 3) := by decide +kernel
theorem dX10_frames_146 : decode cX10_frames 146 = .ok (.iload_n 2, 1) := by decide +kernel
theorem dX10_frames_147 : decode cX10_frames 147 = .ok (.iaload, 1) := by decide +kernel
theorem dX10_frames_148 : decode cX10_frames 148 = .ok (.iconst 2, 1) := by decide +kernel
theorem dX10_frames_149 : decode cX10_frames 149 = .ok (.if_icmp .eq 6, 3) := by decide +kernel
theorem dX10_frames_152 : decode cX10_frames 152 = .ok (.goto 28, 3) := by decide +kernel
theorem dX10_frames_155 : decode cX10_frames 155 = .ok (.aload_n 0, 1) := by decide +kernel
theorem dX10_frames_156 : decode cX10_frames 156 = .ok (.iload_n 3, 1) := by decide +kernel
theorem dX10_frames_157 : decode cX10_frames 157 = .ok (.aload_n 0, 1) := by decide +kernel
theorem dX10_frames_158 : decode cX10_frames 158 = .ok (.getfield 50, 3) := by decide +kernel
theorem dX10_frames_161 : decode cX10_frames 161 = .ok (.iload_n 2, 1) := by decide +kernel
theorem dX10_frames_162 : decode cX10_frames 162 = .ok (.iaload, 1) := by decide +kernel
theorem dX10_frames_163 : decode cX10_frames 163 = .ok (.invokevirtual 311, 3) := by decide +kernel
theorem dX10_frames_166 : decode cX10_frames 166 = .ok (.aload_n 0, 1) := by decide +kernel
theorem dX10_frames_167 : decode cX10_frames 167 = .ok (.iload_n 3, 1) := by decide +kernel
theorem dX10_frames_168 : decode cX10_frames 168 = .ok (.aload_n 0, 1) := by decide +kernel
theorem dX10_frames_169 : decode cX10_frames 169 = .ok (.getfield 50, 3) := by decide +kernel
theorem dX10_frames_172 : decode cX10_frames 172 = .ok (.iload_n 2, 1) := by decide +kernel
theorem dX10_frames_173 : decode cX10_frames 173 = .ok (.iaload, 1) := by decide +kernel
theorem dX10_frames_174 : decode cX10_frames 174 = .ok (.bipush 8, 2) := by decide +kernel
theorem dX10_frames_176 : decode cX10_frames 176 = .ok (.ishr, 1) := by decide +kernel
theorem dX10_frames_177 : decode cX10_frames 177 = .ok (.invokevirtual 311, 3) := by decide +kernel
theorem dX10_frames_180 : decode cX10_frames 180 = .ok (.iinc 2 1, 3) := by decide +kernel
theorem dX10_frames_183 : decode cX10_frames 183 = .ok (.goto (-142), 3) := by decide +kernel
theorem dX10_frames_186 : decode cX10_frames 186 = .ok (.iconst 0, 1) := by decide +kernel
theorem dX10_frames_187 : decode cX10_frames 187 = .ok (.istore_n 2, 1) := by decide +kernel
theorem dX10_frames_188 : decode cX10_frames 188 = .ok (.iload_n 2, 1) := by decide +kernel
theorem dX10_frames_189 : decode cX10_frames 189 = .ok (.aload_n 0, 1) := by decide +kernel
theorem dX10_frames_190 : decode cX10_frames 190 = .ok (.invokevirtual 216, 3) := by decide +kernel
theorem dX10_frames_193 : decode cX10_frames 193 = .ok (.if_icmp .ge 47, 3) := by decide +kernel
theorem dX10_frames_196 : decode cX10_frames 196 = .ok (.aload_n 0, 1) := by decide +kernel
theorem dX10_frames_197 : decode cX10_frames 197 = .ok (.iload_n 2, 1) := by decide +kernel
theorem dX10_frames_198 : decode cX10_frames 198 = .ok (.iconst 0, 1) := by decide +kernel
theorem dX10_frames_199 : decode cX10_frames 199 = .ok (.invokevirtual 311, 3) := by decide +kernel
theorem dX10_frames_202 : decode cX10_frames 202 = .ok (.aload_n 0, 1) := by decide +kernel
theorem dX10_frames_203 : decode cX10_frames 203 = .ok (.getfield 93, 3) := by decide +kernel
theorem dX10_frames_206 : decode cX10_frames 206 = .ok (.bipush 40, 2) := by decide +kernel
theorem dX10_frames_208 : decode cX10_frames 208 = .ok (.iload_n 2, 1) := by decide +kernel
theorem dX10_frames_209 : decode cX10_frames 209 = .ok (.imul, 1) := by decide +kernel
theorem dX10_frames_210 : decode cX10_frames 210 = .ok (.aload_n 0, 1) := by decide +kernel
theorem dX10_frames_211 : decode cX10_frames 211 = .ok (.getfield 96, 3) := by decide +kernel
theorem dX10_frames_214 : decode cX10_frames 214 = .ok (.iload_n 2, 1) := by decide +kernel
theorem dX10_frames_215 : decode cX10_frames 215 = .ok (.iaload, 1) := by decide +kernel
theorem dX10_frames_216 : decode cX10_frames 216 = .ok (.iadd, 1) := by decide +kernel
theorem dX10_frames_217 : decode cX10_frames 217 = .ok (.iconst 1, 1) := by decide +kernel
theorem dX10_frames_218 : decode cX10_frames 218 = .ok (.isub, 1) := by decide +kernel
theorem dX10_frames_219 : decode cX10_frames 219 = .ok (.aload_n 0, 1) := by decide +kernel
theorem dX10_frames_220 : decode cX10_frames 220 = .ok (.iload_n 2, 1) := by decide +kernel
theorem dX10_frames_221 : decode cX10_frames 221 = .ok (.invokevirtual 314, 3) := by decide +kernel
theorem dX10_frames_224 : decode cX10_frames 224 = .ok (.iastore, 1) := by decide +kernel
theorem dX10_frames_225 : decode cX10_frames 225 = .ok (.iload_n 1, 1) := by decide +kernel
theorem dX10_frames_226 : decode cX10_frames 226 = .ok (.aload_n 0, 1) := by decide +kernel
theorem dX10_frames_227 : decode cX10_frames 227 = .ok (.getfield 96, 3) := by decide +kernel
theorem dX10_frames_230 : decode cX10_frames 230 = .ok (.iload_n 2, 1) := by decide +kernel
theorem dX10_frames_231 : decode cX10_frames 231 = .ok (.iaload, 1) := by decide +kernel
theorem dX10_frames_232 : decode cX10_frames 232 = .ok (.iadd, 1) := by decide +kernel
theorem dX10_frames_233 : decode cX10_frames 233 = .ok (.istore_n 1, 1) := by decide +kernel
theorem dX10_frames_234 : decode cX10_frames 234 = .ok (.iinc 2 1, 3) := by decide +kernel
theorem dX10_frames_237 : decode cX10_frames 237 = .ok (.goto (-49), 3) := by decide +kernel
theorem dX10_frames_240 : decode cX10_frames 240 = .ok (.aload_n 0, 1) := by decide +kernel
theorem dX10_frames_241 : decode cX10_frames 241 = .ok (.iconst 1, 1) := by decide +kernel
theorem dX10_frames_242 : decode cX10_frames 242 = .ok (.putfield 136, 3) := by decide +kernel
theorem dX10_frames_245 : decode cX10_frames 245 = .ok (.aload_n 0, 1) := by decide +kernel
theorem dX10_frames_246 : decode cX10_frames 246 = .ok (.invokevirtual 142, 3) := by decide +kernel
theorem dX10_frames_249 : decode cX10_frames 249 = .ok (.iload_n 1, 1) := by decide +kernel
theorem dX10_frames_250 : decode cX10_frames 250 = .ok (.ireturn, 1) := by decide +kernel
set_option maxHeartbeats 4000000 in
set_option maxRecDepth 100000 in
theorem wX10_frames_188 {p : Program} {l : Launch} {e : Env} {s : State} {m : MethodId} {args : Array Value} {below : List Frame} {meth : Method} {c : Code} (bs : Nat) (D : va_G) (y : Y3) (n : Nat) (k188_ : Int32 → Int32 → MI → MJ → Option (Int32 × M2)) (r : Int32 × M2) (Gc : Gx p s m args meth c cX10_frames 5 RX10 bs D y (some .int) 76) (hk188_ : ∀ (x1 : Int32) (x2 : Int32) (I : MI) (J : MJ) (H : Heap) (locs : List Loc) (ls : Array Slot), va_P D vwCl (wl bs y I J) H → va_S (FA bs) s.heap H locs → lv_has ls 5 [(0, .ref (bs + 44)), (1, .int x1), (2, .int x2)] → k188_ x1 x2 I J = some r → W p l e (rmm 1 23) s m args below meth c H locs 0 0 (QI below args s bs D y r) (F0 m 188 ls [])) (x1 : Int32) (x2 : Int32) (I : MI) (J : MJ) (H : Heap) (locs : List Loc) (ls : Array Slot) (hP : va_P D vwCl (wl bs y I J) H) (hS : va_S (FA bs) s.heap H locs) (hl : lv_has ls 5 [(0, .ref (bs + 44)), (1, .int x1), (2, .int x2)]) (h : fX10_frames_188 n k188_ x1 x2 I J = some r) : W p l e (rmm 1 23) s m args below meth c H locs 0 0 (QI below args s bs D y r) (F0 m 188 ls []) := by
  obtain ⟨hx, hb, hml, hown, hts, hK, hN, hL, hr, hlocks, hcb⟩ := id Gc
  unfold fX10_frames_188 at h
  refine lv_iload_n hx hb dX10_frames_188 rfl (lv_at hl 2 rfl) ?_
  refine lv_aload_n hx hb dX10_frames_189 rfl (lv_at hl 0 rfl) ?_
  obtain ⟨r190, er190, h⟩ := bd_s1 h
  refine c_VI (k := 44) (ci := 10) (As := []) (rest := [.int x2]) hx hb hml hown hts hK hN hL hP hS (cX10_tiles_ l bs D y hcb n  I J r190 er190) ok_X10_tiles ov_X10_tiles ml_132 ⟨Nat.le_of_ble_eq_true rfl, Nat.le_of_ble_eq_true rfl⟩ rfl hcb kd_44 hl.1 rfl rfl (Nat.le_of_ble_eq_true rfl) ⟨Nat.zero_le _, Nat.zero_le _⟩ dX10_frames_190 (fun H locs hP hS => ?_)
  refine lv_icmp_ge (tgt := 240) hx hb dX10_frames_193 (by decide) (fun c193 => ?_) (fun c193 => ?_)
  · replace h := if_t c193 h
    refine lv_aload_n hx hb dX10_frames_240 rfl (lv_at hl 0 rfl) ?_
    refine lv_iconst (v := (1 : Int32)) hx hb dX10_frames_241 (by decide) ?_
    obtain ⟨I242, eI242, h⟩ := lt_s1 h
    refine s_I (C := RX10) (T := TX10) (N := 49) (ci := 10) (ty := .boolean) 44 14 eI242 tyX10 hx hb hts hown hK hP hS in_X10 tyX10_ok nmX10 rfl hcb okF_44_14 fl_151 rfl (by decide +kernel) (by decide) rfl dX10_frames_242 (fun H locs hP hS => ?_)
    refine lv_aload_n hx hb dX10_frames_245 rfl (lv_at hl 0 rfl) ?_
    obtain ⟨r246, er246, h⟩ := bd_s1 h
    refine c_VV (k := 44) (ci := 10) (As := []) (rest := []) hx hb hml hown hts hK hN hL hP hS (cX10_begins_ l bs D y hcb n  I242 r190.2.2 r246 er246) ok_X10_begins ov_X10_begins ml_116 ⟨Nat.le_of_ble_eq_true rfl, Nat.le_of_ble_eq_true rfl⟩ rfl hcb kd_44 hl.1 rfl rfl (Nat.le_of_ble_eq_true rfl) ⟨Nat.zero_le _, Nat.zero_le _⟩ dX10_frames_246 (fun H locs hP hS => ?_)
    refine lv_iload_n hx hb dX10_frames_249 rfl (lv_at hl 1 rfl) ?_
    exact r_I hx hb hr hlocks hP hK hN hL hS h dX10_frames_250
  · replace h := if_f c193 h
    refine lv_aload_n hx hb dX10_frames_196 rfl (lv_at hl 0 rfl) ?_
    refine lv_iload_n hx hb dX10_frames_197 rfl (lv_at hl 2 rfl) ?_
    refine lv_iconst (v := (0 : Int32)) hx hb dX10_frames_198 (by decide) ?_
    obtain ⟨r199, er199, h⟩ := bd_s1 h
    refine c_VV (k := 44) (ci := 10) (As := [.int x2, .int (0 : Int32)]) (rest := []) hx hb hml hown hts hK hN hL hP hS (cX10_puts_ l bs D y hcb n x2 (0 : Int32) r190.2.1 r190.2.2 r199 er199) ok_X10_puts ov_X10_puts ml_159 ⟨Nat.le_of_ble_eq_true rfl, Nat.le_of_ble_eq_true rfl⟩ rfl hcb kd_44 hl.1 rfl rfl (Nat.le_of_ble_eq_true rfl) ⟨Nat.zero_le _, Nat.zero_le _⟩ dX10_frames_199 (fun H locs hP hS => ?_)
    refine lv_aload_n hx hb dX10_frames_202 rfl (lv_at hl 0 rfl) ?_
    refine g_R (C := RX10) (T := TX10) (N := 49) (ci := 10) 44 36 68 hx hb hts hown hK hP in_X10 rfl hcb okF_44_36 rfc_44_36 fl_180 dX10_frames_203 ?_
    refine lv_bipush (v := (40 : Int32)) hx hb dX10_frames_206 (by decide) ?_
    refine lv_iload_n hx hb dX10_frames_208 rfl (lv_at hl 2 rfl) ?_
    refine lv_imul hx hb dX10_frames_209 ?_
    refine lv_aload_n hx hb dX10_frames_210 rfl (lv_at hl 0 rfl) ?_
    refine g_R (C := RX10) (T := TX10) (N := 49) (ci := 10) 44 37 69 hx hb hts hown hK hP in_X10 rfl hcb okF_44_37 rfc_44_37 fl_181 dX10_frames_211 ?_
    refine lv_iload_n hx hb dX10_frames_214 rfl (lv_at hl 2 rfl) ?_
    obtain ⟨hi215, h⟩ := if_s1 h
    refine a_I 69 hx hb hK hP hcb aln_69 hi215 dX10_frames_215 ?_
    refine lv_iadd hx hb dX10_frames_216 ?_
    refine lv_iconst (v := (1 : Int32)) hx hb dX10_frames_217 (by decide) ?_
    refine lv_isub hx hb dX10_frames_218 ?_
    refine lv_aload_n hx hb dX10_frames_219 rfl (lv_at hl 0 rfl) ?_
    refine lv_iload_n hx hb dX10_frames_220 rfl (lv_at hl 2 rfl) ?_
    obtain ⟨r221, er221, h⟩ := bd_s1 h
    refine c_VI (k := 44) (ci := 10) (As := [.int x2]) (rest := [.int ((((40 : Int32) * x2) + (r199.1 69 (x2).toNatClampNeg)) - (1 : Int32)), .ref (bs + 68)]) hx hb hml hown hts hK hN hL hP hS (cX10_sumOf_ l bs D y hcb n x2 r199.1 r199.2 r221 er221) ok_X10_sumOf ov_X10_sumOf ml_160 ⟨Nat.le_of_ble_eq_true rfl, Nat.le_of_ble_eq_true rfl⟩ rfl hcb kd_44 hl.1 rfl rfl (Nat.le_of_ble_eq_true rfl) ⟨Nat.zero_le _, Nat.zero_le _⟩ dX10_frames_221 (fun H locs hP hS => ?_)
    obtain ⟨hi224, h⟩ := if_s1 h
    obtain ⟨I224, eI224, h⟩ := lt_s1 h
    refine t_I 68 eI224 hx hb hK hP hS hcb aln_68 hi224 dX10_frames_224 (fun H locs hP hS => ?_)
    refine lv_iload_n hx hb dX10_frames_225 rfl (lv_at hl 1 rfl) ?_
    refine lv_aload_n hx hb dX10_frames_226 rfl (lv_at hl 0 rfl) ?_
    refine g_R (C := RX10) (T := TX10) (N := 49) (ci := 10) 44 37 69 hx hb hts hown hK hP in_X10 rfl hcb okF_44_37 rfc_44_37 fl_181 dX10_frames_227 ?_
    refine lv_iload_n hx hb dX10_frames_230 rfl (lv_at hl 2 rfl) ?_
    obtain ⟨hi231, h⟩ := if_s1 h
    refine a_I 69 hx hb hK hP hcb aln_69 hi231 dX10_frames_231 ?_
    refine lv_iadd hx hb dX10_frames_232 ?_
    obtain ⟨v233, ev233, h⟩ := lt_s1 h
    refine top_i ev233 ?_
    refine lv_istore_n (lv' := [(1, .int v233), (0, .ref (bs + 44)), (2, .int x2)]) hx hb dX10_frames_233 rfl hl (by decide) rfl (fun ls hl => ?_)
    refine lv_iinc (v := (x2 + (1 : Int32))) (lv' := [(2, .int (x2 + (1 : Int32))), (1, .int v233), (0, .ref (bs + 44))]) hx hb dX10_frames_234 hl (k := 2) rfl rfl (by decide) rfl (fun ls hl => ?_)
    refine lv_goto (tgt := 188) hx hb dX10_frames_237 (by decide) ?_
    exact hk188_ v233 (x2 + (1 : Int32)) I224 r221.2.2 _ _ _ hP hS (lv_sub hl [2, 1, 0] rfl) h
theorem vX10_frames_188 {p : Program} {l : Launch} {e : Env} {s : State} {m : MethodId} {args : Array Value} {below : List Frame} {meth : Method} {c : Code} (bs : Nat) (D : va_G) (y : Y3) (n : Nat) (r : Int32 × M2) (Gc : Gx p s m args meth c cX10_frames 5 RX10 bs D y (some .int) 76)  : ∀ (q : Nat) (x1 : Int32) (x2 : Int32) (I : MI) (J : MJ) (H : Heap) (locs : List Loc) (ls : Array Slot), va_P D vwCl (wl bs y I J) H → va_S (FA bs) s.heap H locs → lv_has ls 5 [(0, .ref (bs + 44)), (1, .int x1), (2, .int x2)] → lX10_frames_188 n  q x1 x2 I J = some r → W p l e (rmm 1 23) s m args below meth c H locs 0 0 (QI below args s bs D y r) (F0 m 188 ls []) := by
  intro q
  induction q with
  | zero =>
    intro x1 x2 I J H locs ls hP hS hl h
    have h : (none : Option (Int32 × M2)) = some r := h
    cases h
  | succ q ih =>
    intro x1 x2 I J H locs ls hP hS hl h
    have h : fX10_frames_188 n  (lX10_frames_188 n  q) x1 x2 I J = some r := h
    exact wX10_frames_188 bs D y n  (lX10_frames_188 n  q) r Gc  ih x1 x2 I J H locs ls hP hS hl h
set_option maxHeartbeats 4000000 in
set_option maxRecDepth 100000 in
theorem wX10_frames_180 {p : Program} {l : Launch} {e : Env} {s : State} {m : MethodId} {args : Array Value} {below : List Frame} {meth : Method} {c : Code} (bs : Nat) (D : va_G) (y : Y3) (n : Nat) (k41_ : Int32 → Int32 → MI → MJ → Option (Int32 × M2)) (r : Int32 × M2) (Gc : Gx p s m args meth c cX10_frames 5 RX10 bs D y (some .int) 76) (hk41_ : ∀ (x1 : Int32) (x2 : Int32) (I : MI) (J : MJ) (H : Heap) (locs : List Loc) (ls : Array Slot), va_P D vwCl (wl bs y I J) H → va_S (FA bs) s.heap H locs → lv_has ls 5 [(0, .ref (bs + 44)), (1, .int x1), (2, .int x2)] → k41_ x1 x2 I J = some r → W p l e (rmm 1 23) s m args below meth c H locs 0 0 (QI below args s bs D y r) (F0 m 41 ls [])) (x1 : Int32) (x2 : Int32) (I : MI) (J : MJ) (H : Heap) (locs : List Loc) (ls : Array Slot) (hP : va_P D vwCl (wl bs y I J) H) (hS : va_S (FA bs) s.heap H locs) (hl : lv_has ls 5 [(0, .ref (bs + 44)), (1, .int x1), (2, .int x2)]) (h : fX10_frames_180 n k41_ x1 x2 I J = some r) : W p l e (rmm 1 23) s m args below meth c H locs 0 0 (QI below args s bs D y r) (F0 m 180 ls []) := by
  obtain ⟨hx, hb, hml, hown, hts, hK, hN, hL, hr, hlocks, hcb⟩ := id Gc
  unfold fX10_frames_180 at h
  refine lv_iinc (v := (x2 + (1 : Int32))) (lv' := [(2, .int (x2 + (1 : Int32))), (0, .ref (bs + 44)), (1, .int x1)]) hx hb dX10_frames_180 hl (k := 2) rfl rfl (by decide) rfl (fun ls hl => ?_)
  refine lv_goto (tgt := 41) hx hb dX10_frames_183 (by decide) ?_
  exact hk41_ x1 (x2 + (1 : Int32)) I J _ _ _ hP hS (lv_sub hl [1, 2, 0] rfl) h
set_option maxHeartbeats 4000000 in
set_option maxRecDepth 100000 in
theorem wX10_frames_114 {p : Program} {l : Launch} {e : Env} {s : State} {m : MethodId} {args : Array Value} {below : List Frame} {meth : Method} {c : Code} (bs : Nat) (D : va_G) (y : Y3) (n : Nat) (k41_ : Int32 → Int32 → MI → MJ → Option (Int32 × M2)) (k114_ : Int32 → Int32 → Int32 → Int32 → MI → MJ → Option (Int32 × M2)) (r : Int32 × M2) (Gc : Gx p s m args meth c cX10_frames 5 RX10 bs D y (some .int) 76) (hk41_ : ∀ (x1 : Int32) (x2 : Int32) (I : MI) (J : MJ) (H : Heap) (locs : List Loc) (ls : Array Slot), va_P D vwCl (wl bs y I J) H → va_S (FA bs) s.heap H locs → lv_has ls 5 [(0, .ref (bs + 44)), (1, .int x1), (2, .int x2)] → k41_ x1 x2 I J = some r → W p l e (rmm 1 23) s m args below meth c H locs 0 0 (QI below args s bs D y r) (F0 m 41 ls [])) (hk114_ : ∀ (x1 : Int32) (x2 : Int32) (x3 : Int32) (x4 : Int32) (I : MI) (J : MJ) (H : Heap) (locs : List Loc) (ls : Array Slot), va_P D vwCl (wl bs y I J) H → va_S (FA bs) s.heap H locs → lv_has ls 5 [(0, .ref (bs + 44)), (1, .int x1), (2, .int x2), (3, .int x3), (4, .int x4)] → k114_ x1 x2 x3 x4 I J = some r → W p l e (rmm 1 23) s m args below meth c H locs 0 0 (QI below args s bs D y r) (F0 m 114 ls [])) (x1 : Int32) (x2 : Int32) (x3 : Int32) (x4 : Int32) (I : MI) (J : MJ) (H : Heap) (locs : List Loc) (ls : Array Slot) (hP : va_P D vwCl (wl bs y I J) H) (hS : va_S (FA bs) s.heap H locs) (hl : lv_has ls 5 [(0, .ref (bs + 44)), (1, .int x1), (2, .int x2), (3, .int x3), (4, .int x4)]) (h : fX10_frames_114 n k41_ k114_ x1 x2 x3 x4 I J = some r) : W p l e (rmm 1 23) s m args below meth c H locs 0 0 (QI below args s bs D y r) (F0 m 114 ls []) := by
  obtain ⟨hx, hb, hml, hown, hts, hK, hN, hL, hr, hlocks, hcb⟩ := id Gc
  unfold fX10_frames_114 at h
  refine lv_iload hx hb dX10_frames_114 (lv_at hl 4 rfl) ?_
  refine lv_aload_n hx hb dX10_frames_116 rfl (lv_at hl 0 rfl) ?_
  refine lv_iload_n hx hb dX10_frames_117 rfl (lv_at hl 2 rfl) ?_
  obtain ⟨r118, er118, h⟩ := bd_s1 h
  refine c_VI (k := 44) (ci := 10) (As := [.int x2]) (rest := [.int x4]) hx hb hml hown hts hK hN hL hP hS (cX10_lettersOf_ l bs D y hcb n x2 I J r118 er118) ok_X10_lettersOf ov_X10_lettersOf ml_141 ⟨Nat.le_of_ble_eq_true rfl, Nat.le_of_ble_eq_true rfl⟩ rfl hcb kd_44 hl.1 rfl rfl (Nat.le_of_ble_eq_true rfl) ⟨Nat.zero_le _, Nat.zero_le _⟩ dX10_frames_118 (fun H locs hP hS => ?_)
  refine lv_icmp_ge (tgt := 142) hx hb dX10_frames_121 (by decide) (fun c121 => ?_) (fun c121 => ?_)
  · replace h := if_t c121 h
    refine lv_aload_n hx hb dX10_frames_142 rfl (lv_at hl 0 rfl) ?_
    refine g_R (C := RX10) (T := TX10) (N := 49) (ci := 10) 44 0 45 hx hb hts hown hK hP in_X10 rfl hcb okF_44_0 rfc_44_0 fl_146 dX10_frames_143 ?_
    refine lv_iload_n hx hb dX10_frames_146 rfl (lv_at hl 2 rfl) ?_
    obtain ⟨hi147, h⟩ := if_s1 h
    refine a_I 45 hx hb hK hP hcb aln_45 hi147 dX10_frames_147 ?_
    refine lv_iconst (v := (2 : Int32)) hx hb dX10_frames_148 (by decide) ?_
    refine lv_icmp_eq (tgt := 155) hx hb dX10_frames_149 (by decide) (fun c149 => ?_) (fun c149 => ?_)
    · replace h := if_t c149 h
      refine lv_aload_n hx hb dX10_frames_155 rfl (lv_at hl 0 rfl) ?_
      refine lv_iload_n hx hb dX10_frames_156 rfl (lv_at hl 3 rfl) ?_
      refine lv_aload_n hx hb dX10_frames_157 rfl (lv_at hl 0 rfl) ?_
      refine g_R (C := RX10) (T := TX10) (N := 49) (ci := 10) 44 22 58 hx hb hts hown hK hP in_X10 rfl hcb okF_44_22 rfc_44_22 fl_166 dX10_frames_158 ?_
      refine lv_iload_n hx hb dX10_frames_161 rfl (lv_at hl 2 rfl) ?_
      obtain ⟨hi162, h⟩ := if_s1 h
      refine a_I 58 hx hb hK hP hcb aln_58 hi162 dX10_frames_162 ?_
      obtain ⟨r163, er163, h⟩ := bd_s1 h
      refine c_VV (k := 44) (ci := 10) (As := [.int x3, .int (r118.2.1 58 (x2).toNatClampNeg)]) (rest := []) hx hb hml hown hts hK hN hL hP hS (cX10_puts_ l bs D y hcb n x3 (r118.2.1 58 (x2).toNatClampNeg) r118.2.1 r118.2.2 r163 er163) ok_X10_puts ov_X10_puts ml_159 ⟨Nat.le_of_ble_eq_true rfl, Nat.le_of_ble_eq_true rfl⟩ rfl hcb kd_44 hl.1 rfl rfl (Nat.le_of_ble_eq_true rfl) ⟨Nat.zero_le _, Nat.zero_le _⟩ dX10_frames_163 (fun H locs hP hS => ?_)
      refine lv_aload_n hx hb dX10_frames_166 rfl (lv_at hl 0 rfl) ?_
      refine lv_iload_n hx hb dX10_frames_167 rfl (lv_at hl 3 rfl) ?_
      refine lv_aload_n hx hb dX10_frames_168 rfl (lv_at hl 0 rfl) ?_
      refine g_R (C := RX10) (T := TX10) (N := 49) (ci := 10) 44 22 58 hx hb hts hown hK hP in_X10 rfl hcb okF_44_22 rfc_44_22 fl_166 dX10_frames_169 ?_
      refine lv_iload_n hx hb dX10_frames_172 rfl (lv_at hl 2 rfl) ?_
      obtain ⟨hi173, h⟩ := if_s1 h
      refine a_I 58 hx hb hK hP hcb aln_58 hi173 dX10_frames_173 ?_
      refine lv_bipush (v := (8 : Int32)) hx hb dX10_frames_174 (by decide) ?_
      refine lv_ishr hx hb dX10_frames_176 ?_
      obtain ⟨r177, er177, h⟩ := bd_s1 h
      refine c_VV (k := 44) (ci := 10) (As := [.int x3, .int ((r163.1 58 (x2).toNatClampNeg) >>> ((8 : Int32) &&& 31))]) (rest := []) hx hb hml hown hts hK hN hL hP hS (cX10_puts_ l bs D y hcb n x3 ((r163.1 58 (x2).toNatClampNeg) >>> ((8 : Int32) &&& 31)) r163.1 r163.2 r177 er177) ok_X10_puts ov_X10_puts ml_159 ⟨Nat.le_of_ble_eq_true rfl, Nat.le_of_ble_eq_true rfl⟩ rfl hcb kd_44 hl.1 rfl rfl (Nat.le_of_ble_eq_true rfl) ⟨Nat.zero_le _, Nat.zero_le _⟩ dX10_frames_177 (fun H locs hP hS => ?_)
      exact wX10_frames_180 bs D y n k41_ r Gc hk41_ x1 x2 r177.1 r177.2 _ _ _ hP hS (lv_sub hl [0, 1, 2] rfl) h
    · replace h := if_f c149 h
      refine lv_goto (tgt := 180) hx hb dX10_frames_152 (by decide) ?_
      exact wX10_frames_180 bs D y n k41_ r Gc hk41_ x1 x2 r118.2.1 r118.2.2 _ _ _ hP hS (lv_sub hl [0, 1, 2] rfl) h
  · replace h := if_f c121 h
    refine lv_aload_n hx hb dX10_frames_124 rfl (lv_at hl 0 rfl) ?_
    refine lv_iload_n hx hb dX10_frames_125 rfl (lv_at hl 3 rfl) ?_
    refine lv_aload_n hx hb dX10_frames_126 rfl (lv_at hl 0 rfl) ?_
    refine lv_iload_n hx hb dX10_frames_127 rfl (lv_at hl 2 rfl) ?_
    refine lv_iload hx hb dX10_frames_128 (lv_at hl 4 rfl) ?_
    obtain ⟨r130, er130, h⟩ := bd_s1 h
    refine c_VI (k := 44) (ci := 10) (As := [.int x2, .int x4]) (rest := [.int x3, .ref (bs + 44)]) hx hb hml hown hts hK hN hL hP hS (cX10_letter_ l bs D y hcb n x2 x4 r118.2.1 r118.2.2 r130 er130) ok_X10_letter ov_X10_letter ml_142 ⟨Nat.le_of_ble_eq_true rfl, Nat.le_of_ble_eq_true rfl⟩ rfl hcb kd_44 hl.1 rfl rfl (Nat.le_of_ble_eq_true rfl) ⟨Nat.zero_le _, Nat.zero_le _⟩ dX10_frames_130 (fun H locs hP hS => ?_)
    obtain ⟨r133, er133, h⟩ := bd_s1 h
    refine c_VV (k := 44) (ci := 10) (As := [.int x3, .int r130.1]) (rest := []) hx hb hml hown hts hK hN hL hP hS (cX10_puts_ l bs D y hcb n x3 r130.1 r130.2.1 r130.2.2 r133 er133) ok_X10_puts ov_X10_puts ml_159 ⟨Nat.le_of_ble_eq_true rfl, Nat.le_of_ble_eq_true rfl⟩ rfl hcb kd_44 hl.1 rfl rfl (Nat.le_of_ble_eq_true rfl) ⟨Nat.zero_le _, Nat.zero_le _⟩ dX10_frames_133 (fun H locs hP hS => ?_)
    refine lv_iinc (v := (x4 + (1 : Int32))) (lv' := [(4, .int (x4 + (1 : Int32))), (0, .ref (bs + 44)), (1, .int x1), (2, .int x2), (3, .int x3)]) hx hb dX10_frames_136 hl (k := 4) rfl rfl (by decide) rfl (fun ls hl => ?_)
    refine lv_goto (tgt := 114) hx hb dX10_frames_139 (by decide) ?_
    exact hk114_ x1 x2 x3 (x4 + (1 : Int32)) r133.1 r133.2 _ _ _ hP hS (lv_sub hl [1, 2, 3, 4, 0] rfl) h
theorem vX10_frames_114 {p : Program} {l : Launch} {e : Env} {s : State} {m : MethodId} {args : Array Value} {below : List Frame} {meth : Method} {c : Code} (bs : Nat) (D : va_G) (y : Y3) (n : Nat) (k41_ : Int32 → Int32 → MI → MJ → Option (Int32 × M2)) (r : Int32 × M2) (Gc : Gx p s m args meth c cX10_frames 5 RX10 bs D y (some .int) 76) (hk41_ : ∀ (x1 : Int32) (x2 : Int32) (I : MI) (J : MJ) (H : Heap) (locs : List Loc) (ls : Array Slot), va_P D vwCl (wl bs y I J) H → va_S (FA bs) s.heap H locs → lv_has ls 5 [(0, .ref (bs + 44)), (1, .int x1), (2, .int x2)] → k41_ x1 x2 I J = some r → W p l e (rmm 1 23) s m args below meth c H locs 0 0 (QI below args s bs D y r) (F0 m 41 ls [])) : ∀ (q : Nat) (x1 : Int32) (x2 : Int32) (x3 : Int32) (x4 : Int32) (I : MI) (J : MJ) (H : Heap) (locs : List Loc) (ls : Array Slot), va_P D vwCl (wl bs y I J) H → va_S (FA bs) s.heap H locs → lv_has ls 5 [(0, .ref (bs + 44)), (1, .int x1), (2, .int x2), (3, .int x3), (4, .int x4)] → lX10_frames_114 n k41_ q x1 x2 x3 x4 I J = some r → W p l e (rmm 1 23) s m args below meth c H locs 0 0 (QI below args s bs D y r) (F0 m 114 ls []) := by
  intro q
  induction q with
  | zero =>
    intro x1 x2 x3 x4 I J H locs ls hP hS hl h
    have h : (none : Option (Int32 × M2)) = some r := h
    cases h
  | succ q ih =>
    intro x1 x2 x3 x4 I J H locs ls hP hS hl h
    have h : fX10_frames_114 n k41_ (lX10_frames_114 n k41_ q) x1 x2 x3 x4 I J = some r := h
    exact wX10_frames_114 bs D y n k41_ (lX10_frames_114 n k41_ q) r Gc hk41_ ih x1 x2 x3 x4 I J H locs ls hP hS hl h
set_option maxHeartbeats 4000000 in
set_option maxRecDepth 100000 in
theorem wX10_frames_41 {p : Program} {l : Launch} {e : Env} {s : State} {m : MethodId} {args : Array Value} {below : List Frame} {meth : Method} {c : Code} (bs : Nat) (D : va_G) (y : Y3) (n : Nat) (k41_ : Int32 → Int32 → MI → MJ → Option (Int32 × M2)) (r : Int32 × M2) (Gc : Gx p s m args meth c cX10_frames 5 RX10 bs D y (some .int) 76) (hk41_ : ∀ (x1 : Int32) (x2 : Int32) (I : MI) (J : MJ) (H : Heap) (locs : List Loc) (ls : Array Slot), va_P D vwCl (wl bs y I J) H → va_S (FA bs) s.heap H locs → lv_has ls 5 [(0, .ref (bs + 44)), (1, .int x1), (2, .int x2)] → k41_ x1 x2 I J = some r → W p l e (rmm 1 23) s m args below meth c H locs 0 0 (QI below args s bs D y r) (F0 m 41 ls [])) (x1 : Int32) (x2 : Int32) (I : MI) (J : MJ) (H : Heap) (locs : List Loc) (ls : Array Slot) (hP : va_P D vwCl (wl bs y I J) H) (hS : va_S (FA bs) s.heap H locs) (hl : lv_has ls 5 [(0, .ref (bs + 44)), (1, .int x1), (2, .int x2)]) (h : fX10_frames_41 n k41_ x1 x2 I J = some r) : W p l e (rmm 1 23) s m args below meth c H locs 0 0 (QI below args s bs D y r) (F0 m 41 ls []) := by
  obtain ⟨hx, hb, hml, hown, hts, hK, hN, hL, hr, hlocks, hcb⟩ := id Gc
  unfold fX10_frames_41 at h
  refine lv_iload_n hx hb dX10_frames_41 rfl (lv_at hl 2 rfl) ?_
  refine lv_aload_n hx hb dX10_frames_42 rfl (lv_at hl 0 rfl) ?_
  refine g_I (C := RX10) (T := TX10) (N := 49) (ci := 10) 44 6 hx hb hts hown hK hP in_X10 rfl hcb okF_44_6 fl_141 dX10_frames_43 ?_
  refine lv_icmp_ge (tgt := 186) hx hb dX10_frames_46 (by decide) (fun c46 => ?_) (fun c46 => ?_)
  · replace h := if_t c46 h
    refine lv_iconst (v := (0 : Int32)) hx hb dX10_frames_186 (by decide) ?_
    refine lv_istore_n (lv' := [(2, .int (0 : Int32)), (0, .ref (bs + 44)), (1, .int x1)]) hx hb dX10_frames_187 rfl hl (by decide) rfl (fun ls hl => ?_)
    exact vX10_frames_188 bs D y n  r Gc  n x1 (0 : Int32) I J _ _ _ hP hS (lv_sub hl [1, 2, 0] rfl) h
  · replace h := if_f c46 h
    refine lv_aload_n hx hb dX10_frames_49 rfl (lv_at hl 0 rfl) ?_
    refine lv_iload_n hx hb dX10_frames_50 rfl (lv_at hl 2 rfl) ?_
    obtain ⟨r51, er51, h⟩ := bd_s1 h
    refine c_VI (k := 44) (ci := 10) (As := [.int x2]) (rest := []) hx hb hml hown hts hK hN hL hP hS (cX10_isThing_ l bs D y hcb n x2 I J r51 er51) ok_X10_isThing ov_X10_isThing ml_137 ⟨Nat.le_of_ble_eq_true rfl, Nat.le_of_ble_eq_true rfl⟩ rfl hcb kd_44 hl.1 rfl rfl (Nat.le_of_ble_eq_true rfl) ⟨Nat.zero_le _, Nat.zero_le _⟩ dX10_frames_51 (fun H locs hP hS => ?_)
    refine lv_if_ne (tgt := 60) hx hb dX10_frames_54 (by decide) (fun c54 => ?_) (fun c54 => ?_)
    · replace h := if_f c54 h
      refine lv_aload_n hx hb dX10_frames_60 rfl (lv_at hl 0 rfl) ?_
      refine g_R (C := RX10) (T := TX10) (N := 49) (ci := 10) 44 29 61 hx hb hts hown hK hP in_X10 rfl hcb okF_44_29 rfc_44_29 fl_173 dX10_frames_61 ?_
      refine lv_iload_n hx hb dX10_frames_64 rfl (lv_at hl 2 rfl) ?_
      obtain ⟨hi65, h⟩ := if_s1 h
      refine a_I 61 hx hb hK hP hcb aln_61 hi65 dX10_frames_65 ?_
      obtain ⟨v66, ev66, h⟩ := lt_s1 h
      refine top_i ev66 ?_
      refine lv_istore_n (lv' := [(3, .int v66), (0, .ref (bs + 44)), (1, .int x1), (2, .int x2)]) hx hb dX10_frames_66 rfl hl (by decide) rfl (fun ls hl => ?_)
      refine lv_aload_n hx hb dX10_frames_67 rfl (lv_at hl 1 rfl) ?_
      refine g_R (C := RX10) (T := TX10) (N := 49) (ci := 10) 44 38 70 hx hb hts hown hK hP in_X10 rfl hcb okF_44_38 rfc_44_38 fl_182 dX10_frames_68 ?_
      refine lv_iload_n hx hb dX10_frames_71 rfl (lv_at hl 3 rfl) ?_
      refine lv_bipush (v := (40 : Int32)) hx hb dX10_frames_72 (by decide) ?_
      refine lv_iload_n hx hb dX10_frames_74 rfl (lv_at hl 0 rfl) ?_
      refine lv_imul hx hb dX10_frames_75 ?_
      refine lv_aload_n hx hb dX10_frames_76 rfl (lv_at hl 1 rfl) ?_
      refine g_R (C := RX10) (T := TX10) (N := 49) (ci := 10) 44 37 69 hx hb hts hown hK hP in_X10 rfl hcb okF_44_37 rfc_44_37 fl_181 dX10_frames_77 ?_
      refine lv_iload_n hx hb dX10_frames_80 rfl (lv_at hl 0 rfl) ?_
      obtain ⟨hi81, h⟩ := if_s1 h
      refine a_I 69 hx hb hK hP hcb aln_69 hi81 dX10_frames_81 ?_
      refine lv_iadd hx hb dX10_frames_82 ?_
      obtain ⟨hi83, h⟩ := if_s1 h
      obtain ⟨I83, eI83, h⟩ := lt_s1 h
      refine t_I 70 eI83 hx hb hK hP hS hcb aln_70 hi83 dX10_frames_83 (fun H locs hP hS => ?_)
      refine lv_aload_n hx hb dX10_frames_84 rfl (lv_at hl 1 rfl) ?_
      refine lv_iload_n hx hb dX10_frames_85 rfl (lv_at hl 0 rfl) ?_
      refine lv_iload_n hx hb dX10_frames_86 rfl (lv_at hl 3 rfl) ?_
      obtain ⟨r87, er87, h⟩ := bd_s1 h
      refine c_VV (k := 44) (ci := 10) (As := [.int v66, .int x2]) (rest := []) hx hb hml hown hts hK hN hL hP hS (cX10_puts_ l bs D y hcb n v66 x2 I83 r51.2.2 r87 er87) ok_X10_puts ov_X10_puts ml_159 ⟨Nat.le_of_ble_eq_true rfl, Nat.le_of_ble_eq_true rfl⟩ rfl hcb kd_44 hl.1 rfl rfl (Nat.le_of_ble_eq_true rfl) ⟨Nat.zero_le _, Nat.zero_le _⟩ dX10_frames_87 (fun H locs hP hS => ?_)
      refine lv_aload_n hx hb dX10_frames_90 rfl (lv_at hl 1 rfl) ?_
      refine lv_iload_n hx hb dX10_frames_91 rfl (lv_at hl 0 rfl) ?_
      refine lv_aload_n hx hb dX10_frames_92 rfl (lv_at hl 1 rfl) ?_
      refine g_R (C := RX10) (T := TX10) (N := 49) (ci := 10) 44 0 45 hx hb hts hown hK hP in_X10 rfl hcb okF_44_0 rfc_44_0 fl_146 dX10_frames_93 ?_
      refine lv_iload_n hx hb dX10_frames_96 rfl (lv_at hl 3 rfl) ?_
      obtain ⟨hi97, h⟩ := if_s1 h
      refine a_I 45 hx hb hK hP hcb aln_45 hi97 dX10_frames_97 ?_
      obtain ⟨r98, er98, h⟩ := bd_s1 h
      refine c_VV (k := 44) (ci := 10) (As := [.int v66, .int (r87.1 45 (x2).toNatClampNeg)]) (rest := []) hx hb hml hown hts hK hN hL hP hS (cX10_puts_ l bs D y hcb n v66 (r87.1 45 (x2).toNatClampNeg) r87.1 r87.2 r98 er98) ok_X10_puts ov_X10_puts ml_159 ⟨Nat.le_of_ble_eq_true rfl, Nat.le_of_ble_eq_true rfl⟩ rfl hcb kd_44 hl.1 rfl rfl (Nat.le_of_ble_eq_true rfl) ⟨Nat.zero_le _, Nat.zero_le _⟩ dX10_frames_98 (fun H locs hP hS => ?_)
      refine lv_aload_n hx hb dX10_frames_101 rfl (lv_at hl 1 rfl) ?_
      refine lv_iload_n hx hb dX10_frames_102 rfl (lv_at hl 0 rfl) ?_
      refine lv_aload_n hx hb dX10_frames_103 rfl (lv_at hl 1 rfl) ?_
      refine lv_iload_n hx hb dX10_frames_104 rfl (lv_at hl 3 rfl) ?_
      obtain ⟨r105, er105, h⟩ := bd_s1 h
      refine c_VI (k := 44) (ci := 10) (As := [.int x2]) (rest := [.int v66, .ref (bs + 44)]) hx hb hml hown hts hK hN hL hP hS (cX10_lettersOf_ l bs D y hcb n x2 r98.1 r98.2 r105 er105) ok_X10_lettersOf ov_X10_lettersOf ml_141 ⟨Nat.le_of_ble_eq_true rfl, Nat.le_of_ble_eq_true rfl⟩ rfl hcb kd_44 hl.1 rfl rfl (Nat.le_of_ble_eq_true rfl) ⟨Nat.zero_le _, Nat.zero_le _⟩ dX10_frames_105 (fun H locs hP hS => ?_)
      obtain ⟨r108, er108, h⟩ := bd_s1 h
      refine c_VV (k := 44) (ci := 10) (As := [.int v66, .int r105.1]) (rest := []) hx hb hml hown hts hK hN hL hP hS (cX10_puts_ l bs D y hcb n v66 r105.1 r105.2.1 r105.2.2 r108 er108) ok_X10_puts ov_X10_puts ml_159 ⟨Nat.le_of_ble_eq_true rfl, Nat.le_of_ble_eq_true rfl⟩ rfl hcb kd_44 hl.1 rfl rfl (Nat.le_of_ble_eq_true rfl) ⟨Nat.zero_le _, Nat.zero_le _⟩ dX10_frames_108 (fun H locs hP hS => ?_)
      refine lv_iconst (v := (0 : Int32)) hx hb dX10_frames_111 (by decide) ?_
      refine lv_istore (lv' := [(4, .int (0 : Int32)), (3, .int v66), (0, .ref (bs + 44)), (1, .int x1), (2, .int x2)]) hx hb dX10_frames_112 hl (by decide) rfl (fun ls hl => ?_)
      exact vX10_frames_114 bs D y n k41_ r Gc hk41_ n x1 x2 v66 (0 : Int32) r108.1 r108.2 _ _ _ hP hS (lv_sub hl [2, 3, 4, 1, 0] rfl) h
    · replace h := if_t c54 h
      refine lv_goto (tgt := 180) hx hb dX10_frames_57 (by decide) ?_
      exact wX10_frames_180 bs D y n k41_ r Gc hk41_ x1 x2 r51.2.1 r51.2.2 _ _ _ hP hS (lv_sub hl [0, 1, 2] rfl) h
theorem vX10_frames_41 {p : Program} {l : Launch} {e : Env} {s : State} {m : MethodId} {args : Array Value} {below : List Frame} {meth : Method} {c : Code} (bs : Nat) (D : va_G) (y : Y3) (n : Nat) (r : Int32 × M2) (Gc : Gx p s m args meth c cX10_frames 5 RX10 bs D y (some .int) 76)  : ∀ (q : Nat) (x1 : Int32) (x2 : Int32) (I : MI) (J : MJ) (H : Heap) (locs : List Loc) (ls : Array Slot), va_P D vwCl (wl bs y I J) H → va_S (FA bs) s.heap H locs → lv_has ls 5 [(0, .ref (bs + 44)), (1, .int x1), (2, .int x2)] → lX10_frames_41 n  q x1 x2 I J = some r → W p l e (rmm 1 23) s m args below meth c H locs 0 0 (QI below args s bs D y r) (F0 m 41 ls []) := by
  intro q
  induction q with
  | zero =>
    intro x1 x2 I J H locs ls hP hS hl h
    have h : (none : Option (Int32 × M2)) = some r := h
    cases h
  | succ q ih =>
    intro x1 x2 I J H locs ls hP hS hl h
    have h : fX10_frames_41 n  (lX10_frames_41 n  q) x1 x2 I J = some r := h
    exact wX10_frames_41 bs D y n  (lX10_frames_41 n  q) r Gc  ih x1 x2 I J H locs ls hP hS hl h
set_option maxHeartbeats 4000000 in
set_option maxRecDepth 100000 in
theorem wX10_frames_18 {p : Program} {l : Launch} {e : Env} {s : State} {m : MethodId} {args : Array Value} {below : List Frame} {meth : Method} {c : Code} (bs : Nat) (D : va_G) (y : Y3) (n : Nat) (k18_ : Int32 → Int32 → MI → MJ → Option (Int32 × M2)) (r : Int32 × M2) (Gc : Gx p s m args meth c cX10_frames 5 RX10 bs D y (some .int) 76) (hk18_ : ∀ (x1 : Int32) (x2 : Int32) (I : MI) (J : MJ) (H : Heap) (locs : List Loc) (ls : Array Slot), va_P D vwCl (wl bs y I J) H → va_S (FA bs) s.heap H locs → lv_has ls 5 [(0, .ref (bs + 44)), (1, .int x1), (2, .int x2)] → k18_ x1 x2 I J = some r → W p l e (rmm 1 23) s m args below meth c H locs 0 0 (QI below args s bs D y r) (F0 m 18 ls [])) (x1 : Int32) (x2 : Int32) (I : MI) (J : MJ) (H : Heap) (locs : List Loc) (ls : Array Slot) (hP : va_P D vwCl (wl bs y I J) H) (hS : va_S (FA bs) s.heap H locs) (hl : lv_has ls 5 [(0, .ref (bs + 44)), (1, .int x1), (2, .int x2)]) (h : fX10_frames_18 n k18_ x1 x2 I J = some r) : W p l e (rmm 1 23) s m args below meth c H locs 0 0 (QI below args s bs D y r) (F0 m 18 ls []) := by
  obtain ⟨hx, hb, hml, hown, hts, hK, hN, hL, hr, hlocks, hcb⟩ := id Gc
  unfold fX10_frames_18 at h
  refine lv_iload_n hx hb dX10_frames_18 rfl (lv_at hl 2 rfl) ?_
  refine lv_aload_n hx hb dX10_frames_19 rfl (lv_at hl 0 rfl) ?_
  obtain ⟨r20, er20, h⟩ := bd_s1 h
  refine c_VI (k := 44) (ci := 10) (As := []) (rest := [.int x2]) hx hb hml hown hts hK hN hL hP hS (cX10_tiles_ l bs D y hcb n  I J r20 er20) ok_X10_tiles ov_X10_tiles ml_132 ⟨Nat.le_of_ble_eq_true rfl, Nat.le_of_ble_eq_true rfl⟩ rfl hcb kd_44 hl.1 rfl rfl (Nat.le_of_ble_eq_true rfl) ⟨Nat.zero_le _, Nat.zero_le _⟩ dX10_frames_20 (fun H locs hP hS => ?_)
  refine lv_icmp_ge (tgt := 39) hx hb dX10_frames_23 (by decide) (fun c23 => ?_) (fun c23 => ?_)
  · replace h := if_t c23 h
    refine lv_iconst (v := (0 : Int32)) hx hb dX10_frames_39 (by decide) ?_
    refine lv_istore_n (lv' := [(2, .int (0 : Int32)), (0, .ref (bs + 44)), (1, .int x1)]) hx hb dX10_frames_40 rfl hl (by decide) rfl (fun ls hl => ?_)
    exact vX10_frames_41 bs D y n  r Gc  n x1 (0 : Int32) r20.2.1 r20.2.2 _ _ _ hP hS (lv_sub hl [1, 2, 0] rfl) h
  · replace h := if_f c23 h
    refine lv_aload_n hx hb dX10_frames_26 rfl (lv_at hl 0 rfl) ?_
    refine g_R (C := RX10) (T := TX10) (N := 49) (ci := 10) 44 37 69 hx hb hts hown hK hP in_X10 rfl hcb okF_44_37 rfc_44_37 fl_181 dX10_frames_27 ?_
    refine lv_iload_n hx hb dX10_frames_30 rfl (lv_at hl 2 rfl) ?_
    refine lv_iconst (v := (0 : Int32)) hx hb dX10_frames_31 (by decide) ?_
    obtain ⟨hi32, h⟩ := if_s1 h
    obtain ⟨I32, eI32, h⟩ := lt_s1 h
    refine t_I 69 eI32 hx hb hK hP hS hcb aln_69 hi32 dX10_frames_32 (fun H locs hP hS => ?_)
    refine lv_iinc (v := (x2 + (1 : Int32))) (lv' := [(2, .int (x2 + (1 : Int32))), (0, .ref (bs + 44)), (1, .int x1)]) hx hb dX10_frames_33 hl (k := 2) rfl rfl (by decide) rfl (fun ls hl => ?_)
    refine lv_goto (tgt := 18) hx hb dX10_frames_36 (by decide) ?_
    exact hk18_ x1 (x2 + (1 : Int32)) I32 r20.2.2 _ _ _ hP hS (lv_sub hl [1, 2, 0] rfl) h
theorem vX10_frames_18 {p : Program} {l : Launch} {e : Env} {s : State} {m : MethodId} {args : Array Value} {below : List Frame} {meth : Method} {c : Code} (bs : Nat) (D : va_G) (y : Y3) (n : Nat) (r : Int32 × M2) (Gc : Gx p s m args meth c cX10_frames 5 RX10 bs D y (some .int) 76)  : ∀ (q : Nat) (x1 : Int32) (x2 : Int32) (I : MI) (J : MJ) (H : Heap) (locs : List Loc) (ls : Array Slot), va_P D vwCl (wl bs y I J) H → va_S (FA bs) s.heap H locs → lv_has ls 5 [(0, .ref (bs + 44)), (1, .int x1), (2, .int x2)] → lX10_frames_18 n  q x1 x2 I J = some r → W p l e (rmm 1 23) s m args below meth c H locs 0 0 (QI below args s bs D y r) (F0 m 18 ls []) := by
  intro q
  induction q with
  | zero =>
    intro x1 x2 I J H locs ls hP hS hl h
    have h : (none : Option (Int32 × M2)) = some r := h
    cases h
  | succ q ih =>
    intro x1 x2 I J H locs ls hP hS hl h
    have h : fX10_frames_18 n  (lX10_frames_18 n  q) x1 x2 I J = some r := h
    exact wX10_frames_18 bs D y n  (lX10_frames_18 n  q) r Gc  ih x1 x2 I J H locs ls hP hS hl h
set_option maxHeartbeats 4000000 in
set_option maxRecDepth 100000 in
theorem cX10_frames_ (l : Launch) (bs : Nat) (D : va_G) (y : Y3) (hcb : 76 ≤ y.2.2.2) (n : Nat) (I : MI) (J : MJ) (r : Int32 × M2) (h : fX10_frames n  I J = some r) : Met l yX10_frames (.code yX10_frames cX10_frames 5 (some .int) :: gtb) (rmm 1 23) (va_Pc [.ref (bs + 44)] (HB bs D y I J)) (QcI bs D y r) 0 0 (FA bs) := by
  refine Met.ofW (cc := cX10_frames) (maxL := 5) (ret := (some .int)) (by decide) rfl ?_
  intro p e s m args below meth c s₁ B hml hv
  obtain ⟨rfl, hP, hK, hN, hL⟩ := hv
  have hx := B.exec
  have hb := B.bytes
  have hr := B.returns
  have hts0 := atoms_spec (ws := .code yX10_frames cX10_frames 5 (some .int) :: gtb) B.pre
  have hts : ∀ w ∈ gtb, w.before [.ref (bs + 44)].toArray s = true := fun w hw => hts0 w (List.mem_cons_of_mem _ hw)
  have hown : s.vm.findClass RX10 = some m.cls := findClass_of_methodNamed B.named
  have hlocks := B.notSynchronized
  have hS : va_S (FA bs) s.heap s.heap [] := va_S.rf
  have Gc : Gx p s m [.ref (bs + 44)].toArray meth c cX10_frames 5 RX10 bs D y (some .int) 76 := ⟨hx, hb, hml, hown, hts, hK, hN, hL, hr, hlocks, hcb⟩
  have hl := lv_entry [.ref (bs + 44)] (n := 5) (Nat.le_of_ble_eq_true rfl)
  rw [lg_entry_eq]
  generalize (lg_sl [.ref (bs + 44)] ++ List.replicate (5 - (lg_sl [.ref (bs + 44)]).length) Slot.unset).toArray = ls at hl ⊢
  have hl : lv_has ls 5 [(0, .ref (bs + 44))] := hl
  change W p l e (rmm 1 23) s m [.ref (bs + 44)].toArray below meth c s.heap [] 0 0 (QI below [.ref (bs + 44)].toArray s bs D y r) (F0 m 0 ls [])
  unfold fX10_frames at h
  refine lv_aload_n hx hb dX10_frames_0 rfl (lv_at hl 0 rfl) ?_
  refine g_I (C := RX10) (T := TX10) (N := 49) (ci := 10) 44 12 hx hb hts hown hK hP in_X10 rfl hcb okF_44_12 fl_149 dX10_frames_1 ?_
  refine lv_if_ne (tgt := 14) hx hb dX10_frames_4 (by decide) (fun c4 => ?_) (fun c4 => ?_)
  · replace h := if_f c4 h
    refine lv_iconst (v := (0 : Int32)) hx hb dX10_frames_14 (by decide) ?_
    refine lv_istore_n (lv' := [(1, .int (0 : Int32)), (0, .ref (bs + 44))]) hx hb dX10_frames_15 rfl hl (by decide) rfl (fun ls hl => ?_)
    refine lv_iconst (v := (0 : Int32)) hx hb dX10_frames_16 (by decide) ?_
    refine lv_istore_n (lv' := [(2, .int (0 : Int32)), (1, .int (0 : Int32)), (0, .ref (bs + 44))]) hx hb dX10_frames_17 rfl hl (by decide) rfl (fun ls hl => ?_)
    exact vX10_frames_18 bs D y n  r Gc  n (0 : Int32) (0 : Int32) I J _ _ _ hP hS (lv_sub hl [2, 1, 0] rfl) h
  · replace h := if_t c4 h
    refine lv_aload_n hx hb dX10_frames_7 rfl (lv_at hl 0 rfl) ?_
    refine lv_bipush (v := (-2 : Int32)) hx hb dX10_frames_8 (by decide) ?_
    obtain ⟨r10, er10, h⟩ := bd_s1 h
    refine c_VI (k := 44) (ci := 10) (As := [.int (-2 : Int32)]) (rest := []) hx hb hml hown hts hK hN hL hP hS (cX10_no_ l bs D y hcb n (-2 : Int32) I J r10 er10) ok_X10_no ov_X10_no ml_118 ⟨Nat.le_of_ble_eq_true rfl, Nat.le_of_ble_eq_true rfl⟩ rfl hcb kd_44 hl.1 rfl rfl (Nat.le_of_ble_eq_true rfl) ⟨Nat.zero_le _, Nat.zero_le _⟩ dX10_frames_10 (fun H locs hP hS => ?_)
    exact r_I hx hb hr hlocks hP hK hN hL hS h dX10_frames_13
theorem dX10_whyNoByte_0 : decode cX10_whyNoByte 0 = .ok (.aload_n 0, 1) := by decide +kernel
theorem dX10_whyNoByte_1 : decode cX10_whyNoByte 1 = .ok (.iload_n 1, 1) := by decide +kernel
theorem dX10_whyNoByte_2 : decode cX10_whyNoByte 2 = .ok (.invokevirtual 233, 3) := by decide +kernel
theorem dX10_whyNoByte_5 : decode cX10_whyNoByte 5 = .ok (.ifCond .ne 6, 3) := by decide +kernel
theorem dX10_whyNoByte_8 : decode cX10_whyNoByte 8 = .ok (.bipush (-3), 2) := by decide +kernel
theorem dX10_whyNoByte_10 : decode cX10_whyNoByte 10 = .ok (.ireturn, 1) := by decide +kernel
theorem dX10_whyNoByte_11 : decode cX10_whyNoByte 11 = .ok (.aload_n 0, 1) := by decide +kernel
theorem dX10_whyNoByte_12 : decode cX10_whyNoByte 12 = .ok (.getfield 136, 3) := by decide +kernel
theorem dX10_whyNoByte_15 : decode cX10_whyNoByte 15 = .ok (.ifCond .ne 6, 3) := by decide +kernel
theorem dX10_whyNoByte_18 : decode cX10_whyNoByte 18 = .ok (.bipush (-2), 2) := by decide +kernel
theorem dX10_whyNoByte_20 : decode cX10_whyNoByte 20 = .ok (.ireturn, 1) := by decide +kernel
theorem dX10_whyNoByte_21 : decode cX10_whyNoByte 21 = .ok (.iload_n 2, 1) := by decide +kernel
theorem dX10_whyNoByte_22 : decode cX10_whyNoByte 22 = .ok (.i2l, 1) := by decide +kernel
theorem dX10_whyNoByte_23 : decode cX10_whyNoByte 23 = .ok (.lconst 0, 1) := by decide +kernel
theorem dX10_whyNoByte_24 : decode cX10_whyNoByte 24 = .ok (.aload_n 0, 1) := by decide +kernel
theorem dX10_whyNoByte_25 : decode cX10_whyNoByte 25 = .ok (.getfield 96, 3) := by decide +kernel
theorem dX10_whyNoByte_28 : decode cX10_whyNoByte 28 = .ok (.iload_n 1, 1) := by decide +kernel
theorem dX10_whyNoByte_29 : decode cX10_whyNoByte 29 = .ok (.iaload, 1) := by decide +kernel
theorem dX10_whyNoByte_30 : decode cX10_whyNoByte 30 = .ok (.iconst 1, 1) := by decide +kernel
theorem dX10_whyNoByte_31 : decode cX10_whyNoByte 31 = .ok (.isub, 1) := by decide +kernel
theorem dX10_whyNoByte_32 : decode cX10_whyNoByte 32 = .ok (.i2l, 1) := by decide +kernel
theorem dX10_whyNoByte_33 : decode cX10_whyNoByte 33 = .ok (.invokestatic 164, 3) := by decide +kernel
theorem dX10_whyNoByte_36 : decode cX10_whyNoByte 36 = .ok (.ifCond .eq 7, 3) := by decide +kernel
theorem dX10_whyNoByte_39 : decode cX10_whyNoByte 39 = .ok (.iconst 0, 1) := by decide +kernel
theorem dX10_whyNoByte_40 : decode cX10_whyNoByte 40 = .ok (.goto 5, 3) := by decide +kernel
theorem dX10_whyNoByte_43 : decode cX10_whyNoByte 43 = .ok (.bipush (-3), 2) := by decide +kernel
theorem dX10_whyNoByte_45 : decode cX10_whyNoByte 45 = .ok (.ireturn, 1) := by decide +kernel
set_option maxHeartbeats 4000000 in
set_option maxRecDepth 100000 in
theorem cX10_whyNoByte_ (l : Launch) (bs : Nat) (D : va_G) (y : Y3) (hcb : 76 ≤ y.2.2.2) (n : Nat) (x1 : Int32) (x2 : Int32) (I : MI) (J : MJ) (r : Int32 × M2) (h : fX10_whyNoByte n x1 x2 I J = some r) : Met l yX10_whyNoByte (.code yX10_whyNoByte cX10_whyNoByte 3 (some .int) :: gtb) (rmm 2 41) (va_Pc [.ref (bs + 44), .int x1, .int x2] (HB bs D y I J)) (QcI bs D y r) 0 0 (FA bs) := by
  refine Met.ofW (cc := cX10_whyNoByte) (maxL := 3) (ret := (some .int)) (by decide) rfl ?_
  intro p e s m args below meth c s₁ B hml hv
  obtain ⟨rfl, hP, hK, hN, hL⟩ := hv
  have hx := B.exec
  have hb := B.bytes
  have hr := B.returns
  have hts0 := atoms_spec (ws := .code yX10_whyNoByte cX10_whyNoByte 3 (some .int) :: gtb) B.pre
  have hts : ∀ w ∈ gtb, w.before [.ref (bs + 44), .int x1, .int x2].toArray s = true := fun w hw => hts0 w (List.mem_cons_of_mem _ hw)
  have hown : s.vm.findClass RX10 = some m.cls := findClass_of_methodNamed B.named
  have hlocks := B.notSynchronized
  have hS : va_S (FA bs) s.heap s.heap [] := va_S.rf
  have Gc : Gx p s m [.ref (bs + 44), .int x1, .int x2].toArray meth c cX10_whyNoByte 3 RX10 bs D y (some .int) 76 := ⟨hx, hb, hml, hown, hts, hK, hN, hL, hr, hlocks, hcb⟩
  have hl := lv_entry [.ref (bs + 44), .int x1, .int x2] (n := 3) (Nat.le_of_ble_eq_true rfl)
  rw [lg_entry_eq]
  generalize (lg_sl [.ref (bs + 44), .int x1, .int x2] ++ List.replicate (3 - (lg_sl [.ref (bs + 44), .int x1, .int x2]).length) Slot.unset).toArray = ls at hl ⊢
  have hl : lv_has ls 3 [(0, .ref (bs + 44)), (1, .int x1), (2, .int x2)] := hl
  change W p l e (rmm 2 41) s m [.ref (bs + 44), .int x1, .int x2].toArray below meth c s.heap [] 0 0 (QI below [.ref (bs + 44), .int x1, .int x2].toArray s bs D y r) (F0 m 0 ls [])
  unfold fX10_whyNoByte at h
  refine lv_aload_n hx hb dX10_whyNoByte_0 rfl (lv_at hl 0 rfl) ?_
  refine lv_iload_n hx hb dX10_whyNoByte_1 rfl (lv_at hl 1 rfl) ?_
  obtain ⟨r2, er2, h⟩ := bd_s1 h
  refine c_VI (k := 44) (ci := 10) (As := [.int x1]) (rest := []) hx hb hml hown hts hK hN hL hP hS (cX10_isTile_ l bs D y hcb n x1 I J r2 er2) ok_X10_isTile ov_X10_isTile ml_136 ⟨Nat.le_of_ble_eq_true rfl, Nat.le_of_ble_eq_true rfl⟩ rfl hcb kd_44 hl.1 rfl rfl (Nat.le_of_ble_eq_true rfl) ⟨Nat.zero_le _, Nat.zero_le _⟩ dX10_whyNoByte_2 (fun H locs hP hS => ?_)
  refine lv_if_ne (tgt := 11) hx hb dX10_whyNoByte_5 (by decide) (fun c5 => ?_) (fun c5 => ?_)
  · replace h := if_f c5 h
    refine lv_aload_n hx hb dX10_whyNoByte_11 rfl (lv_at hl 0 rfl) ?_
    refine g_I (C := RX10) (T := TX10) (N := 49) (ci := 10) 44 14 hx hb hts hown hK hP in_X10 rfl hcb okF_44_14 fl_151 dX10_whyNoByte_12 ?_
    refine lv_if_ne (tgt := 21) hx hb dX10_whyNoByte_15 (by decide) (fun c15 => ?_) (fun c15 => ?_)
    · replace h := if_f c15 h
      refine lv_iload_n hx hb dX10_whyNoByte_21 rfl (lv_at hl 2 rfl) ?_
      refine lv_i2l (v := (x2).toInt64) hx hb dX10_whyNoByte_22 rfl ?_
      refine lv_lconst (v := (0 : Int64)) hx hb dX10_whyNoByte_23 (by decide) ?_
      refine lv_aload_n hx hb dX10_whyNoByte_24 rfl (lv_at hl 0 rfl) ?_
      refine g_R (C := RX10) (T := TX10) (N := 49) (ci := 10) 44 37 69 hx hb hts hown hK hP in_X10 rfl hcb okF_44_37 rfc_44_37 fl_181 dX10_whyNoByte_25 ?_
      refine lv_iload_n hx hb dX10_whyNoByte_28 rfl (lv_at hl 1 rfl) ?_
      obtain ⟨hi29, h⟩ := if_s1 h
      refine a_I 69 hx hb hK hP hcb aln_69 hi29 dX10_whyNoByte_29 ?_
      refine lv_iconst (v := (1 : Int32)) hx hb dX10_whyNoByte_30 (by decide) ?_
      refine lv_isub hx hb dX10_whyNoByte_31 ?_
      refine lv_i2l (v := (((r2.2.1 69 (x1).toNatClampNeg) - (1 : Int32))).toInt64) hx hb dX10_whyNoByte_32 rfl ?_
      obtain ⟨r33, er33, h⟩ := bd_s1 h
      refine c_SI (As := [.long (x2).toInt64, .long (0 : Int64), .long (((r2.2.1 69 (x1).toNatClampNeg) - (1 : Int32))).toInt64]) (rest := []) hx hb hml hown hts hK hN hL hP hS (cX10_isIn_ l bs D y hcb n (x2).toInt64 (0 : Int64) (((r2.2.1 69 (x1).toNatClampNeg) - (1 : Int32))).toInt64 r2.2.1 r2.2.2 r33 er33) ok_X10_isIn ov_X10_isIn ml_120 ⟨Nat.le_of_ble_eq_true rfl, Nat.le_of_ble_eq_true rfl⟩ hl.1 rfl rfl (Nat.le_of_ble_eq_true rfl) ⟨Nat.zero_le _, Nat.zero_le _⟩ dX10_whyNoByte_33 (fun H locs hP hS => ?_)
      refine lv_if_eq (tgt := 43) hx hb dX10_whyNoByte_36 (by decide) (fun c36 => ?_) (fun c36 => ?_)
      · replace h := if_t c36 h
        refine lv_bipush (v := (-3 : Int32)) hx hb dX10_whyNoByte_43 (by decide) ?_
        exact r_I hx hb hr hlocks hP hK hN hL hS h dX10_whyNoByte_45
      · replace h := if_f c36 h
        refine lv_iconst (v := (0 : Int32)) hx hb dX10_whyNoByte_39 (by decide) ?_
        refine lv_goto (tgt := 45) hx hb dX10_whyNoByte_40 (by decide) ?_
        exact r_I hx hb hr hlocks hP hK hN hL hS h dX10_whyNoByte_45
    · replace h := if_t c15 h
      refine lv_bipush (v := (-2 : Int32)) hx hb dX10_whyNoByte_18 (by decide) ?_
      exact r_I hx hb hr hlocks hP hK hN hL hS h dX10_whyNoByte_20
  · replace h := if_t c5 h
    refine lv_bipush (v := (-3 : Int32)) hx hb dX10_whyNoByte_8 (by decide) ?_
    exact r_I hx hb hr hlocks hP hK hN hL hS h dX10_whyNoByte_10
theorem dX10_octet_0 : decode cX10_octet 0 = .ok (.aload_n 0, 1) := by decide +kernel
theorem dX10_octet_1 : decode cX10_octet 1 = .ok (.iload_n 1, 1) := by decide +kernel
theorem dX10_octet_2 : decode cX10_octet 2 = .ok (.iload_n 2, 1) := by decide +kernel
theorem dX10_octet_3 : decode cX10_octet 3 = .ok (.invokevirtual 317, 3) := by decide +kernel
theorem dX10_octet_6 : decode cX10_octet 6 = .ok (.istore_n 3, 1) := by decide +kernel
theorem dX10_octet_7 : decode cX10_octet 7 = .ok (.iload_n 3, 1) := by decide +kernel
theorem dX10_octet_8 : decode cX10_octet 8 = .ok (.ifCond .eq 11, 3) := by decide +kernel
theorem dX10_octet_11 : decode cX10_octet 11 = .ok (.aload_n 0, 1) := by decide +kernel
theorem dX10_octet_12 : decode cX10_octet 12 = .ok (.iload_n 3, 1) := by decide +kernel
theorem dX10_octet_13 : decode cX10_octet 13 = .ok (.invokevirtual 151, 3) := by decide +kernel
theorem dX10_octet_16 : decode cX10_octet 16 = .ok (.goto 14, 3) := by decide +kernel
theorem dX10_octet_19 : decode cX10_octet 19 = .ok (.aload_n 0, 1) := by decide +kernel
theorem dX10_octet_20 : decode cX10_octet 20 = .ok (.getfield 93, 3) := by decide +kernel
theorem dX10_octet_23 : decode cX10_octet 23 = .ok (.bipush 40, 2) := by decide +kernel
theorem dX10_octet_25 : decode cX10_octet 25 = .ok (.iload_n 1, 1) := by decide +kernel
theorem dX10_octet_26 : decode cX10_octet 26 = .ok (.imul, 1) := by decide +kernel
theorem dX10_octet_27 : decode cX10_octet 27 = .ok (.iload_n 2, 1) := by decide +kernel
theorem dX10_octet_28 : decode cX10_octet 28 = .ok (.iadd, 1) := by decide +kernel
theorem dX10_octet_29 : decode cX10_octet 29 = .ok (.iaload, 1) := by decide +kernel
theorem dX10_octet_30 : decode cX10_octet 30 = .ok (.ireturn, 1) := by decide +kernel
set_option maxHeartbeats 4000000 in
set_option maxRecDepth 100000 in
theorem cX10_octet_ (l : Launch) (bs : Nat) (D : va_G) (y : Y3) (hcb : 76 ≤ y.2.2.2) (n : Nat) (x1 : Int32) (x2 : Int32) (I : MI) (J : MJ) (r : Int32 × M2) (h : fX10_octet n x1 x2 I J = some r) : Met l yX10_octet (.code yX10_octet cX10_octet 4 (some .int) :: gtb) (rmm 3 63) (va_Pc [.ref (bs + 44), .int x1, .int x2] (HB bs D y I J)) (QcI bs D y r) 0 0 (FA bs) := by
  refine Met.ofW (cc := cX10_octet) (maxL := 4) (ret := (some .int)) (by decide) rfl ?_
  intro p e s m args below meth c s₁ B hml hv
  obtain ⟨rfl, hP, hK, hN, hL⟩ := hv
  have hx := B.exec
  have hb := B.bytes
  have hr := B.returns
  have hts0 := atoms_spec (ws := .code yX10_octet cX10_octet 4 (some .int) :: gtb) B.pre
  have hts : ∀ w ∈ gtb, w.before [.ref (bs + 44), .int x1, .int x2].toArray s = true := fun w hw => hts0 w (List.mem_cons_of_mem _ hw)
  have hown : s.vm.findClass RX10 = some m.cls := findClass_of_methodNamed B.named
  have hlocks := B.notSynchronized
  have hS : va_S (FA bs) s.heap s.heap [] := va_S.rf
  have Gc : Gx p s m [.ref (bs + 44), .int x1, .int x2].toArray meth c cX10_octet 4 RX10 bs D y (some .int) 76 := ⟨hx, hb, hml, hown, hts, hK, hN, hL, hr, hlocks, hcb⟩
  have hl := lv_entry [.ref (bs + 44), .int x1, .int x2] (n := 4) (Nat.le_of_ble_eq_true rfl)
  rw [lg_entry_eq]
  generalize (lg_sl [.ref (bs + 44), .int x1, .int x2] ++ List.replicate (4 - (lg_sl [.ref (bs + 44), .int x1, .int x2]).length) Slot.unset).toArray = ls at hl ⊢
  have hl : lv_has ls 4 [(0, .ref (bs + 44)), (1, .int x1), (2, .int x2)] := hl
  change W p l e (rmm 3 63) s m [.ref (bs + 44), .int x1, .int x2].toArray below meth c s.heap [] 0 0 (QI below [.ref (bs + 44), .int x1, .int x2].toArray s bs D y r) (F0 m 0 ls [])
  unfold fX10_octet at h
  refine lv_aload_n hx hb dX10_octet_0 rfl (lv_at hl 0 rfl) ?_
  refine lv_iload_n hx hb dX10_octet_1 rfl (lv_at hl 1 rfl) ?_
  refine lv_iload_n hx hb dX10_octet_2 rfl (lv_at hl 2 rfl) ?_
  obtain ⟨r3, er3, h⟩ := bd_s1 h
  refine c_VI (k := 44) (ci := 10) (As := [.int x1, .int x2]) (rest := []) hx hb hml hown hts hK hN hL hP hS (cX10_whyNoByte_ l bs D y hcb n x1 x2 I J r3 er3) ok_X10_whyNoByte ov_X10_whyNoByte ml_161 ⟨Nat.le_of_ble_eq_true rfl, Nat.le_of_ble_eq_true rfl⟩ rfl hcb kd_44 hl.1 rfl rfl (Nat.le_of_ble_eq_true rfl) ⟨Nat.zero_le _, Nat.zero_le _⟩ dX10_octet_3 (fun H locs hP hS => ?_)
  obtain ⟨v6, ev6, h⟩ := lt_s1 h
  refine top_i ev6 ?_
  refine lv_istore_n (lv' := [(3, .int v6), (0, .ref (bs + 44)), (1, .int x1), (2, .int x2)]) hx hb dX10_octet_6 rfl hl (by decide) rfl (fun ls hl => ?_)
  refine lv_iload_n hx hb dX10_octet_7 rfl (lv_at hl 0 rfl) ?_
  refine lv_if_eq (tgt := 19) hx hb dX10_octet_8 (by decide) (fun c8 => ?_) (fun c8 => ?_)
  · replace h := if_t c8 h
    refine lv_aload_n hx hb dX10_octet_19 rfl (lv_at hl 1 rfl) ?_
    refine g_R (C := RX10) (T := TX10) (N := 49) (ci := 10) 44 36 68 hx hb hts hown hK hP in_X10 rfl hcb okF_44_36 rfc_44_36 fl_180 dX10_octet_20 ?_
    refine lv_bipush (v := (40 : Int32)) hx hb dX10_octet_23 (by decide) ?_
    refine lv_iload_n hx hb dX10_octet_25 rfl (lv_at hl 2 rfl) ?_
    refine lv_imul hx hb dX10_octet_26 ?_
    refine lv_iload_n hx hb dX10_octet_27 rfl (lv_at hl 3 rfl) ?_
    refine lv_iadd hx hb dX10_octet_28 ?_
    obtain ⟨hi29, h⟩ := if_s1 h
    refine a_I 68 hx hb hK hP hcb aln_68 hi29 dX10_octet_29 ?_
    exact r_I hx hb hr hlocks hP hK hN hL hS h dX10_octet_30
  · replace h := if_f c8 h
    refine lv_aload_n hx hb dX10_octet_11 rfl (lv_at hl 1 rfl) ?_
    refine lv_iload_n hx hb dX10_octet_12 rfl (lv_at hl 0 rfl) ?_
    obtain ⟨r13, er13, h⟩ := bd_s1 h
    refine c_VI (k := 44) (ci := 10) (As := [.int v6]) (rest := []) hx hb hml hown hts hK hN hL hP hS (cX10_no_ l bs D y hcb n v6 r3.2.1 r3.2.2 r13 er13) ok_X10_no ov_X10_no ml_118 ⟨Nat.le_of_ble_eq_true rfl, Nat.le_of_ble_eq_true rfl⟩ rfl hcb kd_44 hl.1 rfl rfl (Nat.le_of_ble_eq_true rfl) ⟨Nat.zero_le _, Nat.zero_le _⟩ dX10_octet_13 (fun H locs hP hS => ?_)
    refine lv_goto (tgt := 30) hx hb dX10_octet_16 (by decide) ?_
    exact r_I hx hb hr hlocks hP hK hN hL hS h dX10_octet_30
theorem dX10_bend_0 : decode cX10_bend 0 = .ok (.aload_n 0, 1) := by decide +kernel
theorem dX10_bend_1 : decode cX10_bend 1 = .ok (.iload_n 1, 1) := by decide +kernel
theorem dX10_bend_2 : decode cX10_bend 2 = .ok (.iload_n 2, 1) := by decide +kernel
theorem dX10_bend_3 : decode cX10_bend 3 = .ok (.invokevirtual 317, 3) := by decide +kernel
theorem dX10_bend_6 : decode cX10_bend 6 = .ok (.istore 4, 2) := by decide +kernel
theorem dX10_bend_8 : decode cX10_bend 8 = .ok (.iload 4, 2) := by decide +kernel
theorem dX10_bend_10 : decode cX10_bend 10 = .ok (.ifCond .ne 19, 3) := by decide +kernel
theorem dX10_bend_13 : decode cX10_bend 13 = .ok (.iload_n 3, 1) := by decide +kernel
theorem dX10_bend_14 : decode cX10_bend 14 = .ok (.i2l, 1) := by decide +kernel
theorem dX10_bend_15 : decode cX10_bend 15 = .ok (.lconst 1, 1) := by decide +kernel
theorem dX10_bend_16 : decode cX10_bend 16 = .ok (.ldc2_w 320, 3) := by decide +kernel
theorem dX10_bend_19 : decode cX10_bend 19 = .ok (.invokestatic 164, 3) := by decide +kernel
theorem dX10_bend_22 : decode cX10_bend 22 = .ok (.ifCond .ne 7, 3) := by decide +kernel
theorem dX10_bend_25 : decode cX10_bend 25 = .ok (.bipush (-7), 2) := by decide +kernel
theorem dX10_bend_27 : decode cX10_bend 27 = .ok (.istore 4, 2) := by decide +kernel
theorem dX10_bend_29 : decode cX10_bend 29 = .ok (.iload 4, 2) := by decide +kernel
theorem dX10_bend_31 : decode cX10_bend 31 = .ok (.ifCond .eq 10, 3) := by decide +kernel
theorem dX10_bend_34 : decode cX10_bend 34 = .ok (.aload_n 0, 1) := by decide +kernel
theorem dX10_bend_35 : decode cX10_bend 35 = .ok (.iload 4, 2) := by decide +kernel
theorem dX10_bend_37 : decode cX10_bend 37 = .ok (.invokevirtual 151, 3) := by decide +kernel
theorem dX10_bend_40 : decode cX10_bend 40 = .ok (.ireturn, 1) := by decide +kernel
theorem dX10_bend_41 : decode cX10_bend 41 = .ok (.aload_n 0, 1) := by decide +kernel
theorem dX10_bend_42 : decode cX10_bend 42 = .ok (.getfield 93, 3) := by decide +kernel
theorem dX10_bend_45 : decode cX10_bend 45 = .ok (.bipush 40, 2) := by decide +kernel
theorem dX10_bend_47 : decode cX10_bend 47 = .ok (.iload_n 1, 1) := by decide +kernel
theorem dX10_bend_48 : decode cX10_bend 48 = .ok (.imul, 1) := by decide +kernel
theorem dX10_bend_49 : decode cX10_bend 49 = .ok (.iload_n 2, 1) := by decide +kernel
theorem dX10_bend_50 : decode cX10_bend 50 = .ok (.iadd, 1) := by decide +kernel
theorem dX10_bend_51 : decode cX10_bend 51 = .ok (.dup2, 1) := by decide +kernel
theorem dX10_bend_52 : decode cX10_bend 52 = .ok (.iaload, 1) := by decide +kernel
theorem dX10_bend_53 : decode cX10_bend 53 = .ok (.iload_n 3, 1) := by decide +kernel
theorem dX10_bend_54 : decode cX10_bend 54 = .ok (.ixor, 1) := by decide +kernel
theorem dX10_bend_55 : decode cX10_bend 55 = .ok (.iastore, 1) := by decide +kernel
theorem dX10_bend_56 : decode cX10_bend 56 = .ok (.aload_n 0, 1) := by decide +kernel
theorem dX10_bend_57 : decode cX10_bend 57 = .ok (.getfield 93, 3) := by decide +kernel
theorem dX10_bend_60 : decode cX10_bend 60 = .ok (.bipush 40, 2) := by decide +kernel
theorem dX10_bend_62 : decode cX10_bend 62 = .ok (.iload_n 1, 1) := by decide +kernel
theorem dX10_bend_63 : decode cX10_bend 63 = .ok (.imul, 1) := by decide +kernel
theorem dX10_bend_64 : decode cX10_bend 64 = .ok (.iload_n 2, 1) := by decide +kernel
theorem dX10_bend_65 : decode cX10_bend 65 = .ok (.iadd, 1) := by decide +kernel
theorem dX10_bend_66 : decode cX10_bend 66 = .ok (.iaload, 1) := by decide +kernel
theorem dX10_bend_67 : decode cX10_bend 67 = .ok (.ireturn, 1) := by decide +kernel
set_option maxHeartbeats 4000000 in
set_option maxRecDepth 100000 in
theorem wX10_bend_29 {p : Program} {l : Launch} {e : Env} {s : State} {m : MethodId} {args : Array Value} {below : List Frame} {meth : Method} {c : Code} (bs : Nat) (D : va_G) (y : Y3) (n : Nat) (r : Int32 × M2) (Gc : Gx p s m args meth c cX10_bend 5 RX10 bs D y (some .int) 76)  (x1 : Int32) (x2 : Int32) (x3 : Int32) (x4 : Int32) (I : MI) (J : MJ) (H : Heap) (locs : List Loc) (ls : Array Slot) (hP : va_P D vwCl (wl bs y I J) H) (hS : va_S (FA bs) s.heap H locs) (hl : lv_has ls 5 [(0, .ref (bs + 44)), (1, .int x1), (2, .int x2), (3, .int x3), (4, .int x4)]) (h : fX10_bend_29 n  x1 x2 x3 x4 I J = some r) : W p l e (rmm 3 63) s m args below meth c H locs 0 0 (QI below args s bs D y r) (F0 m 29 ls []) := by
  obtain ⟨hx, hb, hml, hown, hts, hK, hN, hL, hr, hlocks, hcb⟩ := id Gc
  unfold fX10_bend_29 at h
  refine lv_iload hx hb dX10_bend_29 (lv_at hl 4 rfl) ?_
  refine lv_if_eq (tgt := 41) hx hb dX10_bend_31 (by decide) (fun c31 => ?_) (fun c31 => ?_)
  · replace h := if_t c31 h
    refine lv_aload_n hx hb dX10_bend_41 rfl (lv_at hl 0 rfl) ?_
    refine g_R (C := RX10) (T := TX10) (N := 49) (ci := 10) 44 36 68 hx hb hts hown hK hP in_X10 rfl hcb okF_44_36 rfc_44_36 fl_180 dX10_bend_42 ?_
    refine lv_bipush (v := (40 : Int32)) hx hb dX10_bend_45 (by decide) ?_
    refine lv_iload_n hx hb dX10_bend_47 rfl (lv_at hl 1 rfl) ?_
    refine lv_imul hx hb dX10_bend_48 ?_
    refine lv_iload_n hx hb dX10_bend_49 rfl (lv_at hl 2 rfl) ?_
    refine lv_iadd hx hb dX10_bend_50 ?_
    refine lv_dup2_11 hx hb dX10_bend_51 rfl rfl ?_
    obtain ⟨hi52, h⟩ := if_s1 h
    refine a_I 68 hx hb hK hP hcb aln_68 hi52 dX10_bend_52 ?_
    refine lv_iload_n hx hb dX10_bend_53 rfl (lv_at hl 3 rfl) ?_
    refine lv_ixor hx hb dX10_bend_54 ?_
    obtain ⟨hi55, h⟩ := if_s1 h
    obtain ⟨I55, eI55, h⟩ := lt_s1 h
    refine t_I 68 eI55 hx hb hK hP hS hcb aln_68 hi55 dX10_bend_55 (fun H locs hP hS => ?_)
    refine lv_aload_n hx hb dX10_bend_56 rfl (lv_at hl 0 rfl) ?_
    refine g_R (C := RX10) (T := TX10) (N := 49) (ci := 10) 44 36 68 hx hb hts hown hK hP in_X10 rfl hcb okF_44_36 rfc_44_36 fl_180 dX10_bend_57 ?_
    refine lv_bipush (v := (40 : Int32)) hx hb dX10_bend_60 (by decide) ?_
    refine lv_iload_n hx hb dX10_bend_62 rfl (lv_at hl 1 rfl) ?_
    refine lv_imul hx hb dX10_bend_63 ?_
    refine lv_iload_n hx hb dX10_bend_64 rfl (lv_at hl 2 rfl) ?_
    refine lv_iadd hx hb dX10_bend_65 ?_
    obtain ⟨hi66, h⟩ := if_s1 h
    refine a_I 68 hx hb hK hP hcb aln_68 hi66 dX10_bend_66 ?_
    exact r_I hx hb hr hlocks hP hK hN hL hS h dX10_bend_67
  · replace h := if_f c31 h
    refine lv_aload_n hx hb dX10_bend_34 rfl (lv_at hl 0 rfl) ?_
    refine lv_iload hx hb dX10_bend_35 (lv_at hl 4 rfl) ?_
    obtain ⟨r37, er37, h⟩ := bd_s1 h
    refine c_VI (k := 44) (ci := 10) (As := [.int x4]) (rest := []) hx hb hml hown hts hK hN hL hP hS (cX10_no_ l bs D y hcb n x4 I J r37 er37) ok_X10_no ov_X10_no ml_118 ⟨Nat.le_of_ble_eq_true rfl, Nat.le_of_ble_eq_true rfl⟩ rfl hcb kd_44 hl.1 rfl rfl (Nat.le_of_ble_eq_true rfl) ⟨Nat.zero_le _, Nat.zero_le _⟩ dX10_bend_37 (fun H locs hP hS => ?_)
    exact r_I hx hb hr hlocks hP hK hN hL hS h dX10_bend_40
set_option maxHeartbeats 4000000 in
set_option maxRecDepth 100000 in
theorem cX10_bend_ (l : Launch) (bs : Nat) (D : va_G) (y : Y3) (hcb : 76 ≤ y.2.2.2) (n : Nat) (x1 : Int32) (x2 : Int32) (x3 : Int32) (I : MI) (J : MJ) (r : Int32 × M2) (h : fX10_bend n x1 x2 x3 I J = some r) : Met l yX10_bend (.code yX10_bend cX10_bend 5 (some .int) :: gtb) (rmm 3 63) (va_Pc [.ref (bs + 44), .int x1, .int x2, .int x3] (HB bs D y I J)) (QcI bs D y r) 0 0 (FA bs) := by
  refine Met.ofW (cc := cX10_bend) (maxL := 5) (ret := (some .int)) (by decide) rfl ?_
  intro p e s m args below meth c s₁ B hml hv
  obtain ⟨rfl, hP, hK, hN, hL⟩ := hv
  have hx := B.exec
  have hb := B.bytes
  have hr := B.returns
  have hts0 := atoms_spec (ws := .code yX10_bend cX10_bend 5 (some .int) :: gtb) B.pre
  have hts : ∀ w ∈ gtb, w.before [.ref (bs + 44), .int x1, .int x2, .int x3].toArray s = true := fun w hw => hts0 w (List.mem_cons_of_mem _ hw)
  have hown : s.vm.findClass RX10 = some m.cls := findClass_of_methodNamed B.named
  have hlocks := B.notSynchronized
  have hS : va_S (FA bs) s.heap s.heap [] := va_S.rf
  have Gc : Gx p s m [.ref (bs + 44), .int x1, .int x2, .int x3].toArray meth c cX10_bend 5 RX10 bs D y (some .int) 76 := ⟨hx, hb, hml, hown, hts, hK, hN, hL, hr, hlocks, hcb⟩
  have hl := lv_entry [.ref (bs + 44), .int x1, .int x2, .int x3] (n := 5) (Nat.le_of_ble_eq_true rfl)
  rw [lg_entry_eq]
  generalize (lg_sl [.ref (bs + 44), .int x1, .int x2, .int x3] ++ List.replicate (5 - (lg_sl [.ref (bs + 44), .int x1, .int x2, .int x3]).length) Slot.unset).toArray = ls at hl ⊢
  have hl : lv_has ls 5 [(0, .ref (bs + 44)), (1, .int x1), (2, .int x2), (3, .int x3)] := hl
  change W p l e (rmm 3 63) s m [.ref (bs + 44), .int x1, .int x2, .int x3].toArray below meth c s.heap [] 0 0 (QI below [.ref (bs + 44), .int x1, .int x2, .int x3].toArray s bs D y r) (F0 m 0 ls [])
  unfold fX10_bend at h
  refine lv_aload_n hx hb dX10_bend_0 rfl (lv_at hl 0 rfl) ?_
  refine lv_iload_n hx hb dX10_bend_1 rfl (lv_at hl 1 rfl) ?_
  refine lv_iload_n hx hb dX10_bend_2 rfl (lv_at hl 2 rfl) ?_
  obtain ⟨r3, er3, h⟩ := bd_s1 h
  refine c_VI (k := 44) (ci := 10) (As := [.int x1, .int x2]) (rest := []) hx hb hml hown hts hK hN hL hP hS (cX10_whyNoByte_ l bs D y hcb n x1 x2 I J r3 er3) ok_X10_whyNoByte ov_X10_whyNoByte ml_161 ⟨Nat.le_of_ble_eq_true rfl, Nat.le_of_ble_eq_true rfl⟩ rfl hcb kd_44 hl.1 rfl rfl (Nat.le_of_ble_eq_true rfl) ⟨Nat.zero_le _, Nat.zero_le _⟩ dX10_bend_3 (fun H locs hP hS => ?_)
  obtain ⟨v6, ev6, h⟩ := lt_s1 h
  refine top_i ev6 ?_
  refine lv_istore (lv' := [(4, .int v6), (0, .ref (bs + 44)), (1, .int x1), (2, .int x2), (3, .int x3)]) hx hb dX10_bend_6 hl (by decide) rfl (fun ls hl => ?_)
  refine lv_iload hx hb dX10_bend_8 (lv_at hl 0 rfl) ?_
  refine lv_if_ne (tgt := 29) hx hb dX10_bend_10 (by decide) (fun c10 => ?_) (fun c10 => ?_)
  · replace h := if_f c10 h
    exact wX10_bend_29 bs D y n  r Gc  x1 x2 x3 v6 r3.2.1 r3.2.2 _ _ _ hP hS (lv_sub hl [1, 2, 3, 4, 0] rfl) h
  · replace h := if_t c10 h
    refine lv_iload_n hx hb dX10_bend_13 rfl (lv_at hl 4 rfl) ?_
    refine lv_i2l (v := (x3).toInt64) hx hb dX10_bend_14 rfl ?_
    refine lv_lconst (v := (1 : Int64)) hx hb dX10_bend_15 (by decide) ?_
    refine lv_ldc2 hx hb hown (hts _ cl_18) dX10_bend_16 ?_
    obtain ⟨r19, er19, h⟩ := bd_s1 h
    refine c_SI (As := [.long (x3).toInt64, .long (1 : Int64), .long (255 : Int64)]) (rest := []) hx hb hml hown hts hK hN hL hP hS (cX10_isIn_ l bs D y hcb n (x3).toInt64 (1 : Int64) (255 : Int64) r3.2.1 r3.2.2 r19 er19) ok_X10_isIn ov_X10_isIn ml_120 ⟨Nat.le_of_ble_eq_true rfl, Nat.le_of_ble_eq_true rfl⟩ hl.1 rfl rfl (Nat.le_of_ble_eq_true rfl) ⟨Nat.zero_le _, Nat.zero_le _⟩ dX10_bend_19 (fun H locs hP hS => ?_)
    refine lv_if_ne (tgt := 29) hx hb dX10_bend_22 (by decide) (fun c22 => ?_) (fun c22 => ?_)
    · replace h := if_f c22 h
      exact wX10_bend_29 bs D y n  r Gc  x1 x2 x3 v6 r19.2.1 r19.2.2 _ _ _ hP hS (lv_sub hl [1, 2, 3, 4, 0] rfl) h
    · replace h := if_t c22 h
      refine lv_bipush (v := (-7 : Int32)) hx hb dX10_bend_25 (by decide) ?_
      refine lv_istore (lv' := [(4, .int (-7 : Int32)), (0, .ref (bs + 44)), (1, .int x1), (2, .int x2), (3, .int x3)]) hx hb dX10_bend_27 hl (by decide) rfl (fun ls hl => ?_)
      exact wX10_bend_29 bs D y n  r Gc  x1 x2 x3 (-7 : Int32) r19.2.1 r19.2.2 _ _ _ hP hS (lv_sub hl [1, 2, 3, 4, 0] rfl) h
theorem dX10_check_0 : decode cX10_check 0 = .ok (.aload_n 0, 1) := by decide +kernel
theorem dX10_check_1 : decode cX10_check 1 = .ok (.getfield 136, 3) := by decide +kernel
theorem dX10_check_4 : decode cX10_check 4 = .ok (.ifCond .ne 10, 3) := by decide +kernel
theorem dX10_check_7 : decode cX10_check 7 = .ok (.aload_n 0, 1) := by decide +kernel
theorem dX10_check_8 : decode cX10_check 8 = .ok (.bipush (-2), 2) := by decide +kernel
theorem dX10_check_10 : decode cX10_check 10 = .ok (.invokevirtual 151, 3) := by decide +kernel
theorem dX10_check_13 : decode cX10_check 13 = .ok (.ireturn, 1) := by decide +kernel
theorem dX10_check_14 : decode cX10_check 14 = .ok (.iconst 0, 1) := by decide +kernel
theorem dX10_check_15 : decode cX10_check 15 = .ok (.istore_n 1, 1) := by decide +kernel
theorem dX10_check_16 : decode cX10_check 16 = .ok (.iload_n 1, 1) := by decide +kernel
theorem dX10_check_17 : decode cX10_check 17 = .ok (.aload_n 0, 1) := by decide +kernel
theorem dX10_check_18 : decode cX10_check 18 = .ok (.invokevirtual 216, 3) := by decide +kernel
theorem dX10_check_21 : decode cX10_check 21 = .ok (.if_icmp .ge 37, 3) := by decide +kernel
theorem dX10_check_24 : decode cX10_check 24 = .ok (.aload_n 0, 1) := by decide +kernel
theorem dX10_check_25 : decode cX10_check 25 = .ok (.getfield 93, 3) := by decide +kernel
theorem dX10_check_28 : decode cX10_check 28 = .ok (.bipush 40, 2) := by decide +kernel
theorem dX10_check_30 : decode cX10_check 30 = .ok (.iload_n 1, 1) := by decide +kernel
theorem dX10_check_31 : decode cX10_check 31 = .ok (.imul, 1) := by decide +kernel
theorem dX10_check_32 : decode cX10_check 32 = .ok (.aload_n 0, 1) := by decide +kernel
theorem dX10_check_33 : decode cX10_check 33 = .ok (.getfield 96, 3) := by decide +kernel
theorem dX10_check_36 : decode cX10_check 36 = .ok (.iload_n 1, 1) := by decide +kernel
theorem dX10_check_37 : decode cX10_check 37 = .ok (.iaload, 1) := by decide +kernel
theorem dX10_check_38 : decode cX10_check 38 = .ok (.iadd, 1) := by decide +kernel
theorem dX10_check_39 : decode cX10_check 39 = .ok (.iconst 1, 1) := by decide +kernel
theorem dX10_check_40 : decode cX10_check 40 = .ok (.isub, 1) := by decide +kernel
theorem dX10_check_41 : decode cX10_check 41 = .ok (.iaload, 1) := by decide +kernel
theorem dX10_check_42 : decode cX10_check 42 = .ok (.aload_n 0, 1) := by decide +kernel
theorem dX10_check_43 : decode cX10_check 43 = .ok (.iload_n 1, 1) := by decide +kernel
theorem dX10_check_44 : decode cX10_check 44 = .ok (.invokevirtual 314, 3) := by decide +kernel
theorem dX10_check_47 : decode cX10_check 47 = .ok (.if_icmp .eq 5, 3) := by decide +kernel
theorem dX10_check_50 : decode cX10_check 50 = .ok (.iload_n 1, 1) := by decide +kernel
theorem dX10_check_51 : decode cX10_check 51 = .ok (.ireturn, 1) := by decide +kernel
theorem dX10_check_52 : decode cX10_check 52 = .ok (.iinc 1 1, 3) := by decide +kernel
theorem dX10_check_55 : decode cX10_check 55 = .ok (.goto (-39), 3) := by decide +kernel
theorem dX10_check_58 : decode cX10_check 58 = .ok (.iconst (-1), 1) := by decide +kernel
theorem dX10_check_59 : decode cX10_check 59 = .ok (.ireturn, 1) := by decide +kernel
set_option maxHeartbeats 4000000 in
set_option maxRecDepth 100000 in
theorem wX10_check_16 {p : Program} {l : Launch} {e : Env} {s : State} {m : MethodId} {args : Array Value} {below : List Frame} {meth : Method} {c : Code} (bs : Nat) (D : va_G) (y : Y3) (n : Nat) (k16_ : Int32 → MI → MJ → Option (Int32 × M2)) (r : Int32 × M2) (Gc : Gx p s m args meth c cX10_check 2 RX10 bs D y (some .int) 76) (hk16_ : ∀ (x1 : Int32) (I : MI) (J : MJ) (H : Heap) (locs : List Loc) (ls : Array Slot), va_P D vwCl (wl bs y I J) H → va_S (FA bs) s.heap H locs → lv_has ls 2 [(0, .ref (bs + 44)), (1, .int x1)] → k16_ x1 I J = some r → W p l e (rmm 1 23) s m args below meth c H locs 0 0 (QI below args s bs D y r) (F0 m 16 ls [])) (x1 : Int32) (I : MI) (J : MJ) (H : Heap) (locs : List Loc) (ls : Array Slot) (hP : va_P D vwCl (wl bs y I J) H) (hS : va_S (FA bs) s.heap H locs) (hl : lv_has ls 2 [(0, .ref (bs + 44)), (1, .int x1)]) (h : fX10_check_16 n k16_ x1 I J = some r) : W p l e (rmm 1 23) s m args below meth c H locs 0 0 (QI below args s bs D y r) (F0 m 16 ls []) := by
  obtain ⟨hx, hb, hml, hown, hts, hK, hN, hL, hr, hlocks, hcb⟩ := id Gc
  unfold fX10_check_16 at h
  refine lv_iload_n hx hb dX10_check_16 rfl (lv_at hl 1 rfl) ?_
  refine lv_aload_n hx hb dX10_check_17 rfl (lv_at hl 0 rfl) ?_
  obtain ⟨r18, er18, h⟩ := bd_s1 h
  refine c_VI (k := 44) (ci := 10) (As := []) (rest := [.int x1]) hx hb hml hown hts hK hN hL hP hS (cX10_tiles_ l bs D y hcb n  I J r18 er18) ok_X10_tiles ov_X10_tiles ml_132 ⟨Nat.le_of_ble_eq_true rfl, Nat.le_of_ble_eq_true rfl⟩ rfl hcb kd_44 hl.1 rfl rfl (Nat.le_of_ble_eq_true rfl) ⟨Nat.zero_le _, Nat.zero_le _⟩ dX10_check_18 (fun H locs hP hS => ?_)
  refine lv_icmp_ge (tgt := 58) hx hb dX10_check_21 (by decide) (fun c21 => ?_) (fun c21 => ?_)
  · replace h := if_t c21 h
    refine lv_iconst (v := (-1 : Int32)) hx hb dX10_check_58 (by decide) ?_
    exact r_I hx hb hr hlocks hP hK hN hL hS h dX10_check_59
  · replace h := if_f c21 h
    refine lv_aload_n hx hb dX10_check_24 rfl (lv_at hl 0 rfl) ?_
    refine g_R (C := RX10) (T := TX10) (N := 49) (ci := 10) 44 36 68 hx hb hts hown hK hP in_X10 rfl hcb okF_44_36 rfc_44_36 fl_180 dX10_check_25 ?_
    refine lv_bipush (v := (40 : Int32)) hx hb dX10_check_28 (by decide) ?_
    refine lv_iload_n hx hb dX10_check_30 rfl (lv_at hl 1 rfl) ?_
    refine lv_imul hx hb dX10_check_31 ?_
    refine lv_aload_n hx hb dX10_check_32 rfl (lv_at hl 0 rfl) ?_
    refine g_R (C := RX10) (T := TX10) (N := 49) (ci := 10) 44 37 69 hx hb hts hown hK hP in_X10 rfl hcb okF_44_37 rfc_44_37 fl_181 dX10_check_33 ?_
    refine lv_iload_n hx hb dX10_check_36 rfl (lv_at hl 1 rfl) ?_
    obtain ⟨hi37, h⟩ := if_s1 h
    refine a_I 69 hx hb hK hP hcb aln_69 hi37 dX10_check_37 ?_
    refine lv_iadd hx hb dX10_check_38 ?_
    refine lv_iconst (v := (1 : Int32)) hx hb dX10_check_39 (by decide) ?_
    refine lv_isub hx hb dX10_check_40 ?_
    obtain ⟨hi41, h⟩ := if_s1 h
    refine a_I 68 hx hb hK hP hcb aln_68 hi41 dX10_check_41 ?_
    refine lv_aload_n hx hb dX10_check_42 rfl (lv_at hl 0 rfl) ?_
    refine lv_iload_n hx hb dX10_check_43 rfl (lv_at hl 1 rfl) ?_
    obtain ⟨r44, er44, h⟩ := bd_s1 h
    refine c_VI (k := 44) (ci := 10) (As := [.int x1]) (rest := [.int (r18.2.1 68 (((((40 : Int32) * x1) + (r18.2.1 69 (x1).toNatClampNeg)) - (1 : Int32))).toNatClampNeg)]) hx hb hml hown hts hK hN hL hP hS (cX10_sumOf_ l bs D y hcb n x1 r18.2.1 r18.2.2 r44 er44) ok_X10_sumOf ov_X10_sumOf ml_160 ⟨Nat.le_of_ble_eq_true rfl, Nat.le_of_ble_eq_true rfl⟩ rfl hcb kd_44 hl.1 rfl rfl (Nat.le_of_ble_eq_true rfl) ⟨Nat.zero_le _, Nat.zero_le _⟩ dX10_check_44 (fun H locs hP hS => ?_)
    refine lv_icmp_eq (tgt := 52) hx hb dX10_check_47 (by decide) (fun c47 => ?_) (fun c47 => ?_)
    · replace h := if_t c47 h
      refine lv_iinc (v := (x1 + (1 : Int32))) (lv' := [(1, .int (x1 + (1 : Int32))), (0, .ref (bs + 44))]) hx hb dX10_check_52 hl (k := 1) rfl rfl (by decide) rfl (fun ls hl => ?_)
      refine lv_goto (tgt := 16) hx hb dX10_check_55 (by decide) ?_
      exact hk16_ (x1 + (1 : Int32)) r44.2.1 r44.2.2 _ _ _ hP hS (lv_sub hl [1, 0] rfl) h
    · replace h := if_f c47 h
      refine lv_iload_n hx hb dX10_check_50 rfl (lv_at hl 1 rfl) ?_
      exact r_I hx hb hr hlocks hP hK hN hL hS h dX10_check_51
theorem vX10_check_16 {p : Program} {l : Launch} {e : Env} {s : State} {m : MethodId} {args : Array Value} {below : List Frame} {meth : Method} {c : Code} (bs : Nat) (D : va_G) (y : Y3) (n : Nat) (r : Int32 × M2) (Gc : Gx p s m args meth c cX10_check 2 RX10 bs D y (some .int) 76)  : ∀ (q : Nat) (x1 : Int32) (I : MI) (J : MJ) (H : Heap) (locs : List Loc) (ls : Array Slot), va_P D vwCl (wl bs y I J) H → va_S (FA bs) s.heap H locs → lv_has ls 2 [(0, .ref (bs + 44)), (1, .int x1)] → lX10_check_16 n  q x1 I J = some r → W p l e (rmm 1 23) s m args below meth c H locs 0 0 (QI below args s bs D y r) (F0 m 16 ls []) := by
  intro q
  induction q with
  | zero =>
    intro x1 I J H locs ls hP hS hl h
    have h : (none : Option (Int32 × M2)) = some r := h
    cases h
  | succ q ih =>
    intro x1 I J H locs ls hP hS hl h
    have h : fX10_check_16 n  (lX10_check_16 n  q) x1 I J = some r := h
    exact wX10_check_16 bs D y n  (lX10_check_16 n  q) r Gc  ih x1 I J H locs ls hP hS hl h
set_option maxHeartbeats 4000000 in
set_option maxRecDepth 100000 in
theorem cX10_check_ (l : Launch) (bs : Nat) (D : va_G) (y : Y3) (hcb : 76 ≤ y.2.2.2) (n : Nat) (I : MI) (J : MJ) (r : Int32 × M2) (h : fX10_check n  I J = some r) : Met l yX10_check (.code yX10_check cX10_check 2 (some .int) :: gtb) (rmm 1 23) (va_Pc [.ref (bs + 44)] (HB bs D y I J)) (QcI bs D y r) 0 0 (FA bs) := by
  refine Met.ofW (cc := cX10_check) (maxL := 2) (ret := (some .int)) (by decide) rfl ?_
  intro p e s m args below meth c s₁ B hml hv
  obtain ⟨rfl, hP, hK, hN, hL⟩ := hv
  have hx := B.exec
  have hb := B.bytes
  have hr := B.returns
  have hts0 := atoms_spec (ws := .code yX10_check cX10_check 2 (some .int) :: gtb) B.pre
  have hts : ∀ w ∈ gtb, w.before [.ref (bs + 44)].toArray s = true := fun w hw => hts0 w (List.mem_cons_of_mem _ hw)
  have hown : s.vm.findClass RX10 = some m.cls := findClass_of_methodNamed B.named
  have hlocks := B.notSynchronized
  have hS : va_S (FA bs) s.heap s.heap [] := va_S.rf
  have Gc : Gx p s m [.ref (bs + 44)].toArray meth c cX10_check 2 RX10 bs D y (some .int) 76 := ⟨hx, hb, hml, hown, hts, hK, hN, hL, hr, hlocks, hcb⟩
  have hl := lv_entry [.ref (bs + 44)] (n := 2) (Nat.le_of_ble_eq_true rfl)
  rw [lg_entry_eq]
  generalize (lg_sl [.ref (bs + 44)] ++ List.replicate (2 - (lg_sl [.ref (bs + 44)]).length) Slot.unset).toArray = ls at hl ⊢
  have hl : lv_has ls 2 [(0, .ref (bs + 44))] := hl
  change W p l e (rmm 1 23) s m [.ref (bs + 44)].toArray below meth c s.heap [] 0 0 (QI below [.ref (bs + 44)].toArray s bs D y r) (F0 m 0 ls [])
  unfold fX10_check at h
  refine lv_aload_n hx hb dX10_check_0 rfl (lv_at hl 0 rfl) ?_
  refine g_I (C := RX10) (T := TX10) (N := 49) (ci := 10) 44 14 hx hb hts hown hK hP in_X10 rfl hcb okF_44_14 fl_151 dX10_check_1 ?_
  refine lv_if_ne (tgt := 14) hx hb dX10_check_4 (by decide) (fun c4 => ?_) (fun c4 => ?_)
  · replace h := if_f c4 h
    refine lv_iconst (v := (0 : Int32)) hx hb dX10_check_14 (by decide) ?_
    refine lv_istore_n (lv' := [(1, .int (0 : Int32)), (0, .ref (bs + 44))]) hx hb dX10_check_15 rfl hl (by decide) rfl (fun ls hl => ?_)
    exact vX10_check_16 bs D y n  r Gc  n (0 : Int32) I J _ _ _ hP hS (lv_sub hl [1, 0] rfl) h
  · replace h := if_t c4 h
    refine lv_aload_n hx hb dX10_check_7 rfl (lv_at hl 0 rfl) ?_
    refine lv_bipush (v := (-2 : Int32)) hx hb dX10_check_8 (by decide) ?_
    obtain ⟨r10, er10, h⟩ := bd_s1 h
    refine c_VI (k := 44) (ci := 10) (As := [.int (-2 : Int32)]) (rest := []) hx hb hml hown hts hK hN hL hP hS (cX10_no_ l bs D y hcb n (-2 : Int32) I J r10 er10) ok_X10_no ov_X10_no ml_118 ⟨Nat.le_of_ble_eq_true rfl, Nat.le_of_ble_eq_true rfl⟩ rfl hcb kd_44 hl.1 rfl rfl (Nat.le_of_ble_eq_true rfl) ⟨Nat.zero_le _, Nat.zero_le _⟩ dX10_check_10 (fun H locs hP hS => ?_)
    exact r_I hx hb hr hlocks hP hK hN hL hS h dX10_check_13
theorem dX10_bitsThere_0 : decode cX10_bitsThere 0 = .ok (.aload_n 0, 1) := by decide +kernel
theorem dX10_bitsThere_1 : decode cX10_bitsThere 1 = .ok (.getfield 99, 3) := by decide +kernel
theorem dX10_bitsThere_4 : decode cX10_bitsThere 4 = .ok (.iload_n 1, 1) := by decide +kernel
theorem dX10_bitsThere_5 : decode cX10_bitsThere 5 = .ok (.iaload, 1) := by decide +kernel
theorem dX10_bitsThere_6 : decode cX10_bitsThere 6 = .ok (.iconst 3, 1) := by decide +kernel
theorem dX10_bitsThere_7 : decode cX10_bitsThere 7 = .ok (.iadd, 1) := by decide +kernel
theorem dX10_bitsThere_8 : decode cX10_bitsThere 8 = .ok (.aload_n 0, 1) := by decide +kernel
theorem dX10_bitsThere_9 : decode cX10_bitsThere 9 = .ok (.getfield 47, 3) := by decide +kernel
theorem dX10_bitsThere_12 : decode cX10_bitsThere 12 = .ok (.iload_n 1, 1) := by decide +kernel
theorem dX10_bitsThere_13 : decode cX10_bitsThere 13 = .ok (.iaload, 1) := by decide +kernel
theorem dX10_bitsThere_14 : decode cX10_bitsThere 14 = .ok (.iadd, 1) := by decide +kernel
theorem dX10_bitsThere_15 : decode cX10_bitsThere 15 = .ok (.istore_n 2, 1) := by decide +kernel
theorem dX10_bitsThere_16 : decode cX10_bitsThere 16 = .ok (.aload_n 0, 1) := by decide +kernel
theorem dX10_bitsThere_17 : decode cX10_bitsThere 17 = .ok (.getfield 93, 3) := by decide +kernel
theorem dX10_bitsThere_20 : decode cX10_bitsThere 20 = .ok (.iload_n 2, 1) := by decide +kernel
theorem dX10_bitsThere_21 : decode cX10_bitsThere 21 = .ok (.iaload, 1) := by decide +kernel
theorem dX10_bitsThere_22 : decode cX10_bitsThere 22 = .ok (.aload_n 0, 1) := by decide +kernel
theorem dX10_bitsThere_23 : decode cX10_bitsThere 23 = .ok (.getfield 93, 3) := by decide +kernel
theorem dX10_bitsThere_26 : decode cX10_bitsThere 26 = .ok (.iload_n 2, 1) := by decide +kernel
theorem dX10_bitsThere_27 : decode cX10_bitsThere 27 = .ok (.iconst 1, 1) := by decide +kernel
theorem dX10_bitsThere_28 : decode cX10_bitsThere 28 = .ok (.iadd, 1) := by decide +kernel
theorem dX10_bitsThere_29 : decode cX10_bitsThere 29 = .ok (.iaload, 1) := by decide +kernel
theorem dX10_bitsThere_30 : decode cX10_bitsThere 30 = .ok (.bipush 8, 2) := by decide +kernel
theorem dX10_bitsThere_32 : decode cX10_bitsThere 32 = .ok (.ishl, 1) := by decide +kernel
theorem dX10_bitsThere_33 : decode cX10_bitsThere 33 = .ok (.ior, 1) := by decide +kernel
theorem dX10_bitsThere_34 : decode cX10_bitsThere 34 = .ok (.ireturn, 1) := by decide +kernel
set_option maxHeartbeats 4000000 in
set_option maxRecDepth 100000 in
theorem cX10_bitsThere_ (l : Launch) (bs : Nat) (D : va_G) (y : Y3) (hcb : 76 ≤ y.2.2.2) (n : Nat) (x1 : Int32) (I : MI) (J : MJ) (r : Int32 × M2) (h : fX10_bitsThere n x1 I J = some r) : Met l yX10_bitsThere (.code yX10_bitsThere cX10_bitsThere 3 (some .int) :: gtb) (rmm 0 0) (va_Pc [.ref (bs + 44), .int x1] (HB bs D y I J)) (QcI bs D y r) 0 0 (FA bs) := by
  refine Met.ofW (cc := cX10_bitsThere) (maxL := 3) (ret := (some .int)) (by decide) rfl ?_
  intro p e s m args below meth c s₁ B hml hv
  obtain ⟨rfl, hP, hK, hN, hL⟩ := hv
  have hx := B.exec
  have hb := B.bytes
  have hr := B.returns
  have hts0 := atoms_spec (ws := .code yX10_bitsThere cX10_bitsThere 3 (some .int) :: gtb) B.pre
  have hts : ∀ w ∈ gtb, w.before [.ref (bs + 44), .int x1].toArray s = true := fun w hw => hts0 w (List.mem_cons_of_mem _ hw)
  have hown : s.vm.findClass RX10 = some m.cls := findClass_of_methodNamed B.named
  have hlocks := B.notSynchronized
  have hS : va_S (FA bs) s.heap s.heap [] := va_S.rf
  have Gc : Gx p s m [.ref (bs + 44), .int x1].toArray meth c cX10_bitsThere 3 RX10 bs D y (some .int) 76 := ⟨hx, hb, hml, hown, hts, hK, hN, hL, hr, hlocks, hcb⟩
  have hl := lv_entry [.ref (bs + 44), .int x1] (n := 3) (Nat.le_of_ble_eq_true rfl)
  rw [lg_entry_eq]
  generalize (lg_sl [.ref (bs + 44), .int x1] ++ List.replicate (3 - (lg_sl [.ref (bs + 44), .int x1]).length) Slot.unset).toArray = ls at hl ⊢
  have hl : lv_has ls 3 [(0, .ref (bs + 44)), (1, .int x1)] := hl
  change W p l e (rmm 0 0) s m [.ref (bs + 44), .int x1].toArray below meth c s.heap [] 0 0 (QI below [.ref (bs + 44), .int x1].toArray s bs D y r) (F0 m 0 ls [])
  unfold fX10_bitsThere at h
  refine lv_aload_n hx hb dX10_bitsThere_0 rfl (lv_at hl 0 rfl) ?_
  refine g_R (C := RX10) (T := TX10) (N := 49) (ci := 10) 44 38 70 hx hb hts hown hK hP in_X10 rfl hcb okF_44_38 rfc_44_38 fl_182 dX10_bitsThere_1 ?_
  refine lv_iload_n hx hb dX10_bitsThere_4 rfl (lv_at hl 1 rfl) ?_
  obtain ⟨hi5, h⟩ := if_s1 h
  refine a_I 70 hx hb hK hP hcb aln_70 hi5 dX10_bitsThere_5 ?_
  refine lv_iconst (v := (3 : Int32)) hx hb dX10_bitsThere_6 (by decide) ?_
  refine lv_iadd hx hb dX10_bitsThere_7 ?_
  refine lv_aload_n hx hb dX10_bitsThere_8 rfl (lv_at hl 0 rfl) ?_
  refine g_R (C := RX10) (T := TX10) (N := 49) (ci := 10) 44 21 57 hx hb hts hown hK hP in_X10 rfl hcb okF_44_21 rfc_44_21 fl_164 dX10_bitsThere_9 ?_
  refine lv_iload_n hx hb dX10_bitsThere_12 rfl (lv_at hl 1 rfl) ?_
  obtain ⟨hi13, h⟩ := if_s1 h
  refine a_I 57 hx hb hK hP hcb aln_57 hi13 dX10_bitsThere_13 ?_
  refine lv_iadd hx hb dX10_bitsThere_14 ?_
  obtain ⟨v15, ev15, h⟩ := lt_s1 h
  refine top_i ev15 ?_
  refine lv_istore_n (lv' := [(2, .int v15), (0, .ref (bs + 44)), (1, .int x1)]) hx hb dX10_bitsThere_15 rfl hl (by decide) rfl (fun ls hl => ?_)
  refine lv_aload_n hx hb dX10_bitsThere_16 rfl (lv_at hl 1 rfl) ?_
  refine g_R (C := RX10) (T := TX10) (N := 49) (ci := 10) 44 36 68 hx hb hts hown hK hP in_X10 rfl hcb okF_44_36 rfc_44_36 fl_180 dX10_bitsThere_17 ?_
  refine lv_iload_n hx hb dX10_bitsThere_20 rfl (lv_at hl 0 rfl) ?_
  obtain ⟨hi21, h⟩ := if_s1 h
  refine a_I 68 hx hb hK hP hcb aln_68 hi21 dX10_bitsThere_21 ?_
  refine lv_aload_n hx hb dX10_bitsThere_22 rfl (lv_at hl 1 rfl) ?_
  refine g_R (C := RX10) (T := TX10) (N := 49) (ci := 10) 44 36 68 hx hb hts hown hK hP in_X10 rfl hcb okF_44_36 rfc_44_36 fl_180 dX10_bitsThere_23 ?_
  refine lv_iload_n hx hb dX10_bitsThere_26 rfl (lv_at hl 0 rfl) ?_
  refine lv_iconst (v := (1 : Int32)) hx hb dX10_bitsThere_27 (by decide) ?_
  refine lv_iadd hx hb dX10_bitsThere_28 ?_
  obtain ⟨hi29, h⟩ := if_s1 h
  refine a_I 68 hx hb hK hP hcb aln_68 hi29 dX10_bitsThere_29 ?_
  refine lv_bipush (v := (8 : Int32)) hx hb dX10_bitsThere_30 (by decide) ?_
  refine lv_ishl hx hb dX10_bitsThere_32 ?_
  refine lv_ior hx hb dX10_bitsThere_33 ?_
  exact r_I hx hb hr hlocks hP hK hN hL hS h dX10_bitsThere_34
theorem dX10_back_0 : decode cX10_back 0 = .ok (.aload_n 0, 1) := by decide +kernel
theorem dX10_back_1 : decode cX10_back 1 = .ok (.getfield 136, 3) := by decide +kernel
theorem dX10_back_4 : decode cX10_back 4 = .ok (.ifCond .ne 10, 3) := by decide +kernel
theorem dX10_back_7 : decode cX10_back 7 = .ok (.aload_n 0, 1) := by decide +kernel
theorem dX10_back_8 : decode cX10_back 8 = .ok (.bipush (-2), 2) := by decide +kernel
theorem dX10_back_10 : decode cX10_back 10 = .ok (.invokevirtual 151, 3) := by decide +kernel
theorem dX10_back_13 : decode cX10_back 13 = .ok (.ireturn, 1) := by decide +kernel
theorem dX10_back_14 : decode cX10_back 14 = .ok (.iconst 0, 1) := by decide +kernel
theorem dX10_back_15 : decode cX10_back 15 = .ok (.istore_n 1, 1) := by decide +kernel
theorem dX10_back_16 : decode cX10_back 16 = .ok (.iconst 0, 1) := by decide +kernel
theorem dX10_back_17 : decode cX10_back 17 = .ok (.istore_n 2, 1) := by decide +kernel
theorem dX10_back_18 : decode cX10_back 18 = .ok (.iload_n 2, 1) := by decide +kernel
theorem dX10_back_19 : decode cX10_back 19 = .ok (.aload_n 0, 1) := by decide +kernel
theorem dX10_back_20 : decode cX10_back 20 = .ok (.getfield 123, 3) := by decide +kernel
theorem dX10_back_23 : decode cX10_back 23 = .ok (.if_icmp .ge 50, 3) := by decide +kernel
theorem dX10_back_26 : decode cX10_back 26 = .ok (.iload_n 1, 1) := by decide +kernel
theorem dX10_back_27 : decode cX10_back 27 = .ok (.aload_n 0, 1) := by decide +kernel
theorem dX10_back_28 : decode cX10_back 28 = .ok (.getfield 7, 3) := by decide +kernel
theorem dX10_back_31 : decode cX10_back 31 = .ok (.iload_n 2, 1) := by decide +kernel
theorem dX10_back_32 : decode cX10_back 32 = .ok (.iaload, 1) := by decide +kernel
theorem dX10_back_33 : decode cX10_back 33 = .ok (.iconst 2, 1) := by decide +kernel
theorem dX10_back_34 : decode cX10_back 34 = .ok (.if_icmp .ne 30, 3) := by decide +kernel
theorem dX10_back_37 : decode cX10_back 37 = .ok (.aload_n 0, 1) := by decide +kernel
theorem dX10_back_38 : decode cX10_back 38 = .ok (.getfield 41, 3) := by decide +kernel
theorem dX10_back_41 : decode cX10_back 41 = .ok (.iload_n 2, 1) := by decide +kernel
theorem dX10_back_42 : decode cX10_back 42 = .ok (.baload, 1) := by decide +kernel
theorem dX10_back_43 : decode cX10_back 43 = .ok (.ifCond .eq 21, 3) := by decide +kernel
theorem dX10_back_46 : decode cX10_back 46 = .ok (.aload_n 0, 1) := by decide +kernel
theorem dX10_back_47 : decode cX10_back 47 = .ok (.iload_n 2, 1) := by decide +kernel
theorem dX10_back_48 : decode cX10_back 48 = .ok (.invokevirtual 322, 3) := by decide +kernel
theorem dX10_back_51 : decode cX10_back 51 = .ok (.aload_n 0, 1) := by decide +kernel
theorem dX10_back_52 : decode cX10_back 52 = .ok (.getfield 50, 3) := by decide +kernel
theorem dX10_back_55 : decode cX10_back 55 = .ok (.iload_n 2, 1) := by decide +kernel
theorem dX10_back_56 : decode cX10_back 56 = .ok (.iaload, 1) := by decide +kernel
theorem dX10_back_57 : decode cX10_back 57 = .ok (.if_icmp .eq 7, 3) := by decide +kernel
theorem dX10_back_60 : decode cX10_back 60 = .ok (.iconst 1, 1) := by decide +kernel
theorem dX10_back_61 : decode cX10_back 61 = .ok (.goto 4, 3) := by decide +kernel
theorem dX10_back_64 : decode cX10_back 64 = .ok (.iconst 0, 1) := by decide +kernel
theorem dX10_back_65 : decode cX10_back 65 = .ok (.iadd, 1) := by decide +kernel
theorem dX10_back_66 : decode cX10_back 66 = .ok (.istore_n 1, 1) := by decide +kernel
theorem dX10_back_67 : decode cX10_back 67 = .ok (.iinc 2 1, 3) := by decide +kernel
theorem dX10_back_70 : decode cX10_back 70 = .ok (.goto (-52), 3) := by decide +kernel
theorem dX10_back_73 : decode cX10_back 73 = .ok (.iload_n 1, 1) := by decide +kernel
theorem dX10_back_74 : decode cX10_back 74 = .ok (.ireturn, 1) := by decide +kernel
set_option maxHeartbeats 4000000 in
set_option maxRecDepth 100000 in
theorem wX10_back_65 {p : Program} {l : Launch} {e : Env} {s : State} {m : MethodId} {args : Array Value} {below : List Frame} {meth : Method} {c : Code} (bs : Nat) (D : va_G) (y : Y3) (n : Nat) (k18_ : Int32 → Int32 → MI → MJ → Option (Int32 × M2)) (r : Int32 × M2) (Gc : Gx p s m args meth c cX10_back 3 RX10 bs D y (some .int) 76) (hk18_ : ∀ (x1 : Int32) (x2 : Int32) (I : MI) (J : MJ) (H : Heap) (locs : List Loc) (ls : Array Slot), va_P D vwCl (wl bs y I J) H → va_S (FA bs) s.heap H locs → lv_has ls 3 [(0, .ref (bs + 44)), (1, .int x1), (2, .int x2)] → k18_ x1 x2 I J = some r → W p l e (rmm 1 22) s m args below meth c H locs 0 0 (QI below args s bs D y r) (F0 m 18 ls [])) (x2 : Int32) (s0 : Int32) (s1 : Int32) (I : MI) (J : MJ) (H : Heap) (locs : List Loc) (ls : Array Slot) (hP : va_P D vwCl (wl bs y I J) H) (hS : va_S (FA bs) s.heap H locs) (hl : lv_has ls 3 [(0, .ref (bs + 44)), (2, .int x2)]) (h : fX10_back_65 n k18_ x2 s0 s1 I J = some r) : W p l e (rmm 1 22) s m args below meth c H locs 0 0 (QI below args s bs D y r) (F0 m 65 ls [.int s1, .int s0]) := by
  obtain ⟨hx, hb, hml, hown, hts, hK, hN, hL, hr, hlocks, hcb⟩ := id Gc
  unfold fX10_back_65 at h
  refine lv_iadd hx hb dX10_back_65 ?_
  obtain ⟨v66, ev66, h⟩ := lt_s1 h
  refine top_i ev66 ?_
  refine lv_istore_n (lv' := [(1, .int v66), (0, .ref (bs + 44)), (2, .int x2)]) hx hb dX10_back_66 rfl hl (by decide) rfl (fun ls hl => ?_)
  refine lv_iinc (v := (x2 + (1 : Int32))) (lv' := [(2, .int (x2 + (1 : Int32))), (1, .int v66), (0, .ref (bs + 44))]) hx hb dX10_back_67 hl (k := 2) rfl rfl (by decide) rfl (fun ls hl => ?_)
  refine lv_goto (tgt := 18) hx hb dX10_back_70 (by decide) ?_
  exact hk18_ v66 (x2 + (1 : Int32)) I J _ _ _ hP hS (lv_sub hl [2, 1, 0] rfl) h
set_option maxHeartbeats 4000000 in
set_option maxRecDepth 100000 in
theorem wX10_back_64 {p : Program} {l : Launch} {e : Env} {s : State} {m : MethodId} {args : Array Value} {below : List Frame} {meth : Method} {c : Code} (bs : Nat) (D : va_G) (y : Y3) (n : Nat) (k18_ : Int32 → Int32 → MI → MJ → Option (Int32 × M2)) (r : Int32 × M2) (Gc : Gx p s m args meth c cX10_back 3 RX10 bs D y (some .int) 76) (hk18_ : ∀ (x1 : Int32) (x2 : Int32) (I : MI) (J : MJ) (H : Heap) (locs : List Loc) (ls : Array Slot), va_P D vwCl (wl bs y I J) H → va_S (FA bs) s.heap H locs → lv_has ls 3 [(0, .ref (bs + 44)), (1, .int x1), (2, .int x2)] → k18_ x1 x2 I J = some r → W p l e (rmm 1 22) s m args below meth c H locs 0 0 (QI below args s bs D y r) (F0 m 18 ls [])) (x2 : Int32) (s0 : Int32) (I : MI) (J : MJ) (H : Heap) (locs : List Loc) (ls : Array Slot) (hP : va_P D vwCl (wl bs y I J) H) (hS : va_S (FA bs) s.heap H locs) (hl : lv_has ls 3 [(0, .ref (bs + 44)), (2, .int x2)]) (h : fX10_back_64 n k18_ x2 s0 I J = some r) : W p l e (rmm 1 22) s m args below meth c H locs 0 0 (QI below args s bs D y r) (F0 m 64 ls [.int s0]) := by
  obtain ⟨hx, hb, hml, hown, hts, hK, hN, hL, hr, hlocks, hcb⟩ := id Gc
  unfold fX10_back_64 at h
  refine lv_iconst (v := (0 : Int32)) hx hb dX10_back_64 (by decide) ?_
  exact wX10_back_65 bs D y n k18_ r Gc hk18_ x2 s0 (0 : Int32) I J _ _ _ hP hS (lv_sub hl [0, 1] rfl) h
set_option maxHeartbeats 4000000 in
set_option maxRecDepth 100000 in
theorem wX10_back_18 {p : Program} {l : Launch} {e : Env} {s : State} {m : MethodId} {args : Array Value} {below : List Frame} {meth : Method} {c : Code} (bs : Nat) (D : va_G) (y : Y3) (n : Nat) (k18_ : Int32 → Int32 → MI → MJ → Option (Int32 × M2)) (r : Int32 × M2) (Gc : Gx p s m args meth c cX10_back 3 RX10 bs D y (some .int) 76) (hk18_ : ∀ (x1 : Int32) (x2 : Int32) (I : MI) (J : MJ) (H : Heap) (locs : List Loc) (ls : Array Slot), va_P D vwCl (wl bs y I J) H → va_S (FA bs) s.heap H locs → lv_has ls 3 [(0, .ref (bs + 44)), (1, .int x1), (2, .int x2)] → k18_ x1 x2 I J = some r → W p l e (rmm 1 22) s m args below meth c H locs 0 0 (QI below args s bs D y r) (F0 m 18 ls [])) (x1 : Int32) (x2 : Int32) (I : MI) (J : MJ) (H : Heap) (locs : List Loc) (ls : Array Slot) (hP : va_P D vwCl (wl bs y I J) H) (hS : va_S (FA bs) s.heap H locs) (hl : lv_has ls 3 [(0, .ref (bs + 44)), (1, .int x1), (2, .int x2)]) (h : fX10_back_18 n k18_ x1 x2 I J = some r) : W p l e (rmm 1 22) s m args below meth c H locs 0 0 (QI below args s bs D y r) (F0 m 18 ls []) := by
  obtain ⟨hx, hb, hml, hown, hts, hK, hN, hL, hr, hlocks, hcb⟩ := id Gc
  unfold fX10_back_18 at h
  refine lv_iload_n hx hb dX10_back_18 rfl (lv_at hl 2 rfl) ?_
  refine lv_aload_n hx hb dX10_back_19 rfl (lv_at hl 0 rfl) ?_
  refine g_I (C := RX10) (T := TX10) (N := 49) (ci := 10) 44 6 hx hb hts hown hK hP in_X10 rfl hcb okF_44_6 fl_141 dX10_back_20 ?_
  refine lv_icmp_ge (tgt := 73) hx hb dX10_back_23 (by decide) (fun c23 => ?_) (fun c23 => ?_)
  · replace h := if_t c23 h
    refine lv_iload_n hx hb dX10_back_73 rfl (lv_at hl 1 rfl) ?_
    exact r_I hx hb hr hlocks hP hK hN hL hS h dX10_back_74
  · replace h := if_f c23 h
    refine lv_iload_n hx hb dX10_back_26 rfl (lv_at hl 1 rfl) ?_
    refine lv_aload_n hx hb dX10_back_27 rfl (lv_at hl 0 rfl) ?_
    refine g_R (C := RX10) (T := TX10) (N := 49) (ci := 10) 44 0 45 hx hb hts hown hK hP in_X10 rfl hcb okF_44_0 rfc_44_0 fl_146 dX10_back_28 ?_
    refine lv_iload_n hx hb dX10_back_31 rfl (lv_at hl 2 rfl) ?_
    obtain ⟨hi32, h⟩ := if_s1 h
    refine a_I 45 hx hb hK hP hcb aln_45 hi32 dX10_back_32 ?_
    refine lv_iconst (v := (2 : Int32)) hx hb dX10_back_33 (by decide) ?_
    refine lv_icmp_ne (tgt := 64) hx hb dX10_back_34 (by decide) (fun c34 => ?_) (fun c34 => ?_)
    · replace h := if_f c34 h
      exact wX10_back_64 bs D y n k18_ r Gc hk18_ x2 x1 I J _ _ _ hP hS (lv_sub hl [0, 2] rfl) h
    · replace h := if_t c34 h
      refine lv_aload_n hx hb dX10_back_37 rfl (lv_at hl 0 rfl) ?_
      refine g_R (C := RX10) (T := TX10) (N := 49) (ci := 10) 44 19 55 hx hb hts hown hK hP in_X10 rfl hcb okF_44_19 rfc_44_19 fl_167 dX10_back_38 ?_
      refine lv_iload_n hx hb dX10_back_41 rfl (lv_at hl 2 rfl) ?_
      obtain ⟨hi42, h⟩ := if_s1 h
      refine a_Z 55 hx hb hK hP hcb alZ_55 hi42 dX10_back_42 ?_
      refine lv_if_eq (tgt := 64) hx hb dX10_back_43 (by decide) (fun c43 => ?_) (fun c43 => ?_)
      · replace h := if_t c43 h
        exact wX10_back_64 bs D y n k18_ r Gc hk18_ x2 x1 I J _ _ _ hP hS (lv_sub hl [0, 2] rfl) h
      · replace h := if_f c43 h
        refine lv_aload_n hx hb dX10_back_46 rfl (lv_at hl 0 rfl) ?_
        refine lv_iload_n hx hb dX10_back_47 rfl (lv_at hl 2 rfl) ?_
        obtain ⟨r48, er48, h⟩ := bd_s1 h
        refine c_VI (k := 44) (ci := 10) (As := [.int x2]) (rest := [.int x1]) hx hb hml hown hts hK hN hL hP hS (cX10_bitsThere_ l bs D y hcb n x2 I J r48 er48) ok_X10_bitsThere ov_X10_bitsThere ml_162 ⟨Nat.le_of_ble_eq_true rfl, Nat.le_of_ble_eq_true rfl⟩ rfl hcb kd_44 hl.1 rfl rfl (Nat.le_of_ble_eq_true rfl) ⟨Nat.zero_le _, Nat.zero_le _⟩ dX10_back_48 (fun H locs hP hS => ?_)
        refine lv_aload_n hx hb dX10_back_51 rfl (lv_at hl 0 rfl) ?_
        refine g_R (C := RX10) (T := TX10) (N := 49) (ci := 10) 44 22 58 hx hb hts hown hK hP in_X10 rfl hcb okF_44_22 rfc_44_22 fl_166 dX10_back_52 ?_
        refine lv_iload_n hx hb dX10_back_55 rfl (lv_at hl 2 rfl) ?_
        obtain ⟨hi56, h⟩ := if_s1 h
        refine a_I 58 hx hb hK hP hcb aln_58 hi56 dX10_back_56 ?_
        refine lv_icmp_eq (tgt := 64) hx hb dX10_back_57 (by decide) (fun c57 => ?_) (fun c57 => ?_)
        · replace h := if_t c57 h
          exact wX10_back_64 bs D y n k18_ r Gc hk18_ x2 x1 r48.2.1 r48.2.2 _ _ _ hP hS (lv_sub hl [0, 2] rfl) h
        · replace h := if_f c57 h
          refine lv_iconst (v := (1 : Int32)) hx hb dX10_back_60 (by decide) ?_
          refine lv_goto (tgt := 65) hx hb dX10_back_61 (by decide) ?_
          exact wX10_back_65 bs D y n k18_ r Gc hk18_ x2 x1 (1 : Int32) r48.2.1 r48.2.2 _ _ _ hP hS (lv_sub hl [0, 2] rfl) h
theorem vX10_back_18 {p : Program} {l : Launch} {e : Env} {s : State} {m : MethodId} {args : Array Value} {below : List Frame} {meth : Method} {c : Code} (bs : Nat) (D : va_G) (y : Y3) (n : Nat) (r : Int32 × M2) (Gc : Gx p s m args meth c cX10_back 3 RX10 bs D y (some .int) 76)  : ∀ (q : Nat) (x1 : Int32) (x2 : Int32) (I : MI) (J : MJ) (H : Heap) (locs : List Loc) (ls : Array Slot), va_P D vwCl (wl bs y I J) H → va_S (FA bs) s.heap H locs → lv_has ls 3 [(0, .ref (bs + 44)), (1, .int x1), (2, .int x2)] → lX10_back_18 n  q x1 x2 I J = some r → W p l e (rmm 1 22) s m args below meth c H locs 0 0 (QI below args s bs D y r) (F0 m 18 ls []) := by
  intro q
  induction q with
  | zero =>
    intro x1 x2 I J H locs ls hP hS hl h
    have h : (none : Option (Int32 × M2)) = some r := h
    cases h
  | succ q ih =>
    intro x1 x2 I J H locs ls hP hS hl h
    have h : fX10_back_18 n  (lX10_back_18 n  q) x1 x2 I J = some r := h
    exact wX10_back_18 bs D y n  (lX10_back_18 n  q) r Gc  ih x1 x2 I J H locs ls hP hS hl h
set_option maxHeartbeats 4000000 in
set_option maxRecDepth 100000 in
theorem cX10_back_ (l : Launch) (bs : Nat) (D : va_G) (y : Y3) (hcb : 76 ≤ y.2.2.2) (n : Nat) (I : MI) (J : MJ) (r : Int32 × M2) (h : fX10_back n  I J = some r) : Met l yX10_back (.code yX10_back cX10_back 3 (some .int) :: gtb) (rmm 1 22) (va_Pc [.ref (bs + 44)] (HB bs D y I J)) (QcI bs D y r) 0 0 (FA bs) := by
  refine Met.ofW (cc := cX10_back) (maxL := 3) (ret := (some .int)) (by decide) rfl ?_
  intro p e s m args below meth c s₁ B hml hv
  obtain ⟨rfl, hP, hK, hN, hL⟩ := hv
  have hx := B.exec
  have hb := B.bytes
  have hr := B.returns
  have hts0 := atoms_spec (ws := .code yX10_back cX10_back 3 (some .int) :: gtb) B.pre
  have hts : ∀ w ∈ gtb, w.before [.ref (bs + 44)].toArray s = true := fun w hw => hts0 w (List.mem_cons_of_mem _ hw)
  have hown : s.vm.findClass RX10 = some m.cls := findClass_of_methodNamed B.named
  have hlocks := B.notSynchronized
  have hS : va_S (FA bs) s.heap s.heap [] := va_S.rf
  have Gc : Gx p s m [.ref (bs + 44)].toArray meth c cX10_back 3 RX10 bs D y (some .int) 76 := ⟨hx, hb, hml, hown, hts, hK, hN, hL, hr, hlocks, hcb⟩
  have hl := lv_entry [.ref (bs + 44)] (n := 3) (Nat.le_of_ble_eq_true rfl)
  rw [lg_entry_eq]
  generalize (lg_sl [.ref (bs + 44)] ++ List.replicate (3 - (lg_sl [.ref (bs + 44)]).length) Slot.unset).toArray = ls at hl ⊢
  have hl : lv_has ls 3 [(0, .ref (bs + 44))] := hl
  change W p l e (rmm 1 22) s m [.ref (bs + 44)].toArray below meth c s.heap [] 0 0 (QI below [.ref (bs + 44)].toArray s bs D y r) (F0 m 0 ls [])
  unfold fX10_back at h
  refine lv_aload_n hx hb dX10_back_0 rfl (lv_at hl 0 rfl) ?_
  refine g_I (C := RX10) (T := TX10) (N := 49) (ci := 10) 44 14 hx hb hts hown hK hP in_X10 rfl hcb okF_44_14 fl_151 dX10_back_1 ?_
  refine lv_if_ne (tgt := 14) hx hb dX10_back_4 (by decide) (fun c4 => ?_) (fun c4 => ?_)
  · replace h := if_f c4 h
    refine lv_iconst (v := (0 : Int32)) hx hb dX10_back_14 (by decide) ?_
    refine lv_istore_n (lv' := [(1, .int (0 : Int32)), (0, .ref (bs + 44))]) hx hb dX10_back_15 rfl hl (by decide) rfl (fun ls hl => ?_)
    refine lv_iconst (v := (0 : Int32)) hx hb dX10_back_16 (by decide) ?_
    refine lv_istore_n (lv' := [(2, .int (0 : Int32)), (1, .int (0 : Int32)), (0, .ref (bs + 44))]) hx hb dX10_back_17 rfl hl (by decide) rfl (fun ls hl => ?_)
    exact vX10_back_18 bs D y n  r Gc  n (0 : Int32) (0 : Int32) I J _ _ _ hP hS (lv_sub hl [2, 1, 0] rfl) h
  · replace h := if_t c4 h
    refine lv_aload_n hx hb dX10_back_7 rfl (lv_at hl 0 rfl) ?_
    refine lv_bipush (v := (-2 : Int32)) hx hb dX10_back_8 (by decide) ?_
    obtain ⟨r10, er10, h⟩ := bd_s1 h
    refine c_VI (k := 44) (ci := 10) (As := [.int (-2 : Int32)]) (rest := []) hx hb hml hown hts hK hN hL hP hS (cX10_no_ l bs D y hcb n (-2 : Int32) I J r10 er10) ok_X10_no ov_X10_no ml_118 ⟨Nat.le_of_ble_eq_true rfl, Nat.le_of_ble_eq_true rfl⟩ rfl hcb kd_44 hl.1 rfl rfl (Nat.le_of_ble_eq_true rfl) ⟨Nat.zero_le _, Nat.zero_le _⟩ dX10_back_10 (fun H locs hP hS => ?_)
    exact r_I hx hb hr hlocks hP hK hN hL hS h dX10_back_13
theorem dX10_start_0 : decode cX10_start 0 = .ok (.aload_n 0, 1) := by decide +kernel
theorem dX10_start_1 : decode cX10_start 1 = .ok (.invokevirtual 142, 3) := by decide +kernel
theorem dX10_start_4 : decode cX10_start 4 = .ok (.aload_n 0, 1) := by decide +kernel
theorem dX10_start_5 : decode cX10_start 5 = .ok (.getfield 136, 3) := by decide +kernel
theorem dX10_start_8 : decode cX10_start 8 = .ok (.ifCond .eq 7, 3) := by decide +kernel
theorem dX10_start_11 : decode cX10_start 11 = .ok (.iconst 1, 1) := by decide +kernel
theorem dX10_start_12 : decode cX10_start 12 = .ok (.goto 4, 3) := by decide +kernel
theorem dX10_start_15 : decode cX10_start 15 = .ok (.iconst 0, 1) := by decide +kernel
theorem dX10_start_16 : decode cX10_start 16 = .ok (.ireturn, 1) := by decide +kernel
set_option maxHeartbeats 4000000 in
set_option maxRecDepth 100000 in
theorem cX10_start_ (l : Launch) (bs : Nat) (D : va_G) (y : Y3) (hcb : 76 ≤ y.2.2.2) (n : Nat) (I : MI) (J : MJ) (r : Int32 × M2) (h : fX10_start n  I J = some r) : Met l yX10_start (.code yX10_start cX10_start 1 (some .int) :: gtb) (rmm 1 21) (va_Pc [.ref (bs + 44)] (HB bs D y I J)) (QcI bs D y r) 0 0 (FA bs) := by
  refine Met.ofW (cc := cX10_start) (maxL := 1) (ret := (some .int)) (by decide) rfl ?_
  intro p e s m args below meth c s₁ B hml hv
  obtain ⟨rfl, hP, hK, hN, hL⟩ := hv
  have hx := B.exec
  have hb := B.bytes
  have hr := B.returns
  have hts0 := atoms_spec (ws := .code yX10_start cX10_start 1 (some .int) :: gtb) B.pre
  have hts : ∀ w ∈ gtb, w.before [.ref (bs + 44)].toArray s = true := fun w hw => hts0 w (List.mem_cons_of_mem _ hw)
  have hown : s.vm.findClass RX10 = some m.cls := findClass_of_methodNamed B.named
  have hlocks := B.notSynchronized
  have hS : va_S (FA bs) s.heap s.heap [] := va_S.rf
  have Gc : Gx p s m [.ref (bs + 44)].toArray meth c cX10_start 1 RX10 bs D y (some .int) 76 := ⟨hx, hb, hml, hown, hts, hK, hN, hL, hr, hlocks, hcb⟩
  have hl := lv_entry [.ref (bs + 44)] (n := 1) (Nat.le_of_ble_eq_true rfl)
  rw [lg_entry_eq]
  generalize (lg_sl [.ref (bs + 44)] ++ List.replicate (1 - (lg_sl [.ref (bs + 44)]).length) Slot.unset).toArray = ls at hl ⊢
  have hl : lv_has ls 1 [(0, .ref (bs + 44))] := hl
  change W p l e (rmm 1 21) s m [.ref (bs + 44)].toArray below meth c s.heap [] 0 0 (QI below [.ref (bs + 44)].toArray s bs D y r) (F0 m 0 ls [])
  unfold fX10_start at h
  refine lv_aload_n hx hb dX10_start_0 rfl (lv_at hl 0 rfl) ?_
  obtain ⟨r1, er1, h⟩ := bd_s1 h
  refine c_VV (k := 44) (ci := 10) (As := []) (rest := []) hx hb hml hown hts hK hN hL hP hS (cX10_begins_ l bs D y hcb n  I J r1 er1) ok_X10_begins ov_X10_begins ml_116 ⟨Nat.le_of_ble_eq_true rfl, Nat.le_of_ble_eq_true rfl⟩ rfl hcb kd_44 hl.1 rfl rfl (Nat.le_of_ble_eq_true rfl) ⟨Nat.zero_le _, Nat.zero_le _⟩ dX10_start_1 (fun H locs hP hS => ?_)
  refine lv_aload_n hx hb dX10_start_4 rfl (lv_at hl 0 rfl) ?_
  refine g_I (C := RX10) (T := TX10) (N := 49) (ci := 10) 44 14 hx hb hts hown hK hP in_X10 rfl hcb okF_44_14 fl_151 dX10_start_5 ?_
  refine lv_if_eq (tgt := 15) hx hb dX10_start_8 (by decide) (fun c8 => ?_) (fun c8 => ?_)
  · replace h := if_t c8 h
    refine lv_iconst (v := (0 : Int32)) hx hb dX10_start_15 (by decide) ?_
    exact r_I hx hb hr hlocks hP hK hN hL hS h dX10_start_16
  · replace h := if_f c8 h
    refine lv_iconst (v := (1 : Int32)) hx hb dX10_start_11 (by decide) ?_
    refine lv_goto (tgt := 16) hx hb dX10_start_12 (by decide) ?_
    exact r_I hx hb hr hlocks hP hK hN hL hS h dX10_start_16
theorem dX10_netIs_0 : decode cX10_netIs 0 = .ok (.aload_n 0, 1) := by decide +kernel
theorem dX10_netIs_1 : decode cX10_netIs 1 = .ok (.getfield 102, 3) := by decide +kernel
theorem dX10_netIs_4 : decode cX10_netIs 4 = .ok (.iload_n 1, 1) := by decide +kernel
theorem dX10_netIs_5 : decode cX10_netIs 5 = .ok (.iconst 2, 1) := by decide +kernel
theorem dX10_netIs_6 : decode cX10_netIs 6 = .ok (.idiv, 1) := by decide +kernel
theorem dX10_netIs_7 : decode cX10_netIs 7 = .ok (.baload, 1) := by decide +kernel
theorem dX10_netIs_8 : decode cX10_netIs 8 = .ok (.iload_n 1, 1) := by decide +kernel
theorem dX10_netIs_9 : decode cX10_netIs 9 = .ok (.iconst 2, 1) := by decide +kernel
theorem dX10_netIs_10 : decode cX10_netIs 10 = .ok (.irem, 1) := by decide +kernel
theorem dX10_netIs_11 : decode cX10_netIs 11 = .ok (.iconst 1, 1) := by decide +kernel
theorem dX10_netIs_12 : decode cX10_netIs 12 = .ok (.if_icmp .ne 7, 3) := by decide +kernel
theorem dX10_netIs_15 : decode cX10_netIs 15 = .ok (.iconst 1, 1) := by decide +kernel
theorem dX10_netIs_16 : decode cX10_netIs 16 = .ok (.goto 4, 3) := by decide +kernel
theorem dX10_netIs_19 : decode cX10_netIs 19 = .ok (.iconst 0, 1) := by decide +kernel
theorem dX10_netIs_20 : decode cX10_netIs 20 = .ok (.if_icmp .eq 7, 3) := by decide +kernel
theorem dX10_netIs_23 : decode cX10_netIs 23 = .ok (.iconst 1, 1) := by decide +kernel
theorem dX10_netIs_24 : decode cX10_netIs 24 = .ok (.goto 4, 3) := by decide +kernel
theorem dX10_netIs_27 : decode cX10_netIs 27 = .ok (.iconst 0, 1) := by decide +kernel
theorem dX10_netIs_28 : decode cX10_netIs 28 = .ok (.ireturn, 1) := by decide +kernel
set_option maxHeartbeats 4000000 in
set_option maxRecDepth 100000 in
theorem wX10_netIs_20 {p : Program} {l : Launch} {e : Env} {s : State} {m : MethodId} {args : Array Value} {below : List Frame} {meth : Method} {c : Code} (bs : Nat) (D : va_G) (y : Y3) (n : Nat) (r : Int32 × M2) (Gc : Gx p s m args meth c cX10_netIs 2 RX10 bs D y (some .boolean) 76)  (s0 : Int32) (s1 : Int32) (I : MI) (J : MJ) (H : Heap) (locs : List Loc) (ls : Array Slot) (hP : va_P D vwCl (wl bs y I J) H) (hS : va_S (FA bs) s.heap H locs) (hl : lv_has ls 2 []) (h : fX10_netIs_20 n  s0 s1 I J = some r) : W p l e (rmm 0 0) s m args below meth c H locs 0 0 (QI below args s bs D y r) (F0 m 20 ls [.int s1, .int s0]) := by
  obtain ⟨hx, hb, hml, hown, hts, hK, hN, hL, hr, hlocks, hcb⟩ := id Gc
  unfold fX10_netIs_20 at h
  refine lv_icmp_eq (tgt := 27) hx hb dX10_netIs_20 (by decide) (fun c20 => ?_) (fun c20 => ?_)
  · replace h := if_t c20 h
    refine lv_iconst (v := (0 : Int32)) hx hb dX10_netIs_27 (by decide) ?_
    exact r_Z hx hb hr hlocks hP hK hN hL hS (by decide) h dX10_netIs_28
  · replace h := if_f c20 h
    refine lv_iconst (v := (1 : Int32)) hx hb dX10_netIs_23 (by decide) ?_
    refine lv_goto (tgt := 28) hx hb dX10_netIs_24 (by decide) ?_
    exact r_Z hx hb hr hlocks hP hK hN hL hS (by decide) h dX10_netIs_28
set_option maxHeartbeats 4000000 in
set_option maxRecDepth 100000 in
theorem cX10_netIs_ (l : Launch) (bs : Nat) (D : va_G) (y : Y3) (hcb : 76 ≤ y.2.2.2) (n : Nat) (x1 : Int32) (I : MI) (J : MJ) (r : Int32 × M2) (h : fX10_netIs n x1 I J = some r) : Met l yX10_netIs (.code yX10_netIs cX10_netIs 2 (some .boolean) :: gtb) (rmm 0 0) (va_Pc [.ref (bs + 44), .int x1] (HB bs D y I J)) (QcI bs D y r) 0 0 (FA bs) := by
  refine Met.ofW (cc := cX10_netIs) (maxL := 2) (ret := (some .boolean)) (by decide) rfl ?_
  intro p e s m args below meth c s₁ B hml hv
  obtain ⟨rfl, hP, hK, hN, hL⟩ := hv
  have hx := B.exec
  have hb := B.bytes
  have hr := B.returns
  have hts0 := atoms_spec (ws := .code yX10_netIs cX10_netIs 2 (some .boolean) :: gtb) B.pre
  have hts : ∀ w ∈ gtb, w.before [.ref (bs + 44), .int x1].toArray s = true := fun w hw => hts0 w (List.mem_cons_of_mem _ hw)
  have hown : s.vm.findClass RX10 = some m.cls := findClass_of_methodNamed B.named
  have hlocks := B.notSynchronized
  have hS : va_S (FA bs) s.heap s.heap [] := va_S.rf
  have Gc : Gx p s m [.ref (bs + 44), .int x1].toArray meth c cX10_netIs 2 RX10 bs D y (some .boolean) 76 := ⟨hx, hb, hml, hown, hts, hK, hN, hL, hr, hlocks, hcb⟩
  have hl := lv_entry [.ref (bs + 44), .int x1] (n := 2) (Nat.le_of_ble_eq_true rfl)
  rw [lg_entry_eq]
  generalize (lg_sl [.ref (bs + 44), .int x1] ++ List.replicate (2 - (lg_sl [.ref (bs + 44), .int x1]).length) Slot.unset).toArray = ls at hl ⊢
  have hl : lv_has ls 2 [(0, .ref (bs + 44)), (1, .int x1)] := hl
  change W p l e (rmm 0 0) s m [.ref (bs + 44), .int x1].toArray below meth c s.heap [] 0 0 (QI below [.ref (bs + 44), .int x1].toArray s bs D y r) (F0 m 0 ls [])
  unfold fX10_netIs at h
  refine lv_aload_n hx hb dX10_netIs_0 rfl (lv_at hl 0 rfl) ?_
  refine g_R (C := RX10) (T := TX10) (N := 49) (ci := 10) 44 39 71 hx hb hts hown hK hP in_X10 rfl hcb okF_44_39 rfc_44_39 fl_143 dX10_netIs_1 ?_
  refine lv_iload_n hx hb dX10_netIs_4 rfl (lv_at hl 1 rfl) ?_
  refine lv_iconst (v := (2 : Int32)) hx hb dX10_netIs_5 (by decide) ?_
  refine lv_idiv hx hb dX10_netIs_6 (by decide) ?_
  obtain ⟨hi7, h⟩ := if_s1 h
  refine a_Z 71 hx hb hK hP hcb alZ_71 hi7 dX10_netIs_7 ?_
  refine lv_iload_n hx hb dX10_netIs_8 rfl (lv_at hl 1 rfl) ?_
  refine lv_iconst (v := (2 : Int32)) hx hb dX10_netIs_9 (by decide) ?_
  refine lv_irem hx hb dX10_netIs_10 (by decide) ?_
  refine lv_iconst (v := (1 : Int32)) hx hb dX10_netIs_11 (by decide) ?_
  refine lv_icmp_ne (tgt := 19) hx hb dX10_netIs_12 (by decide) (fun c12 => ?_) (fun c12 => ?_)
  · replace h := if_f c12 h
    refine lv_iconst (v := (0 : Int32)) hx hb dX10_netIs_19 (by decide) ?_
    exact wX10_netIs_20 bs D y n  r Gc  (I 71 ((x1 / (2 : Int32))).toNatClampNeg) (0 : Int32) I J _ _ _ hP hS (lv_sub hl [] rfl) h
  · replace h := if_t c12 h
    refine lv_iconst (v := (1 : Int32)) hx hb dX10_netIs_15 (by decide) ?_
    refine lv_goto (tgt := 20) hx hb dX10_netIs_16 (by decide) ?_
    exact wX10_netIs_20 bs D y n  r Gc  (I 71 ((x1 / (2 : Int32))).toNatClampNeg) (1 : Int32) I J _ _ _ hP hS (lv_sub hl [] rfl) h
