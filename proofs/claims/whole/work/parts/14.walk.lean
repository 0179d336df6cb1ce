/-! walks: X9_gate X9_source X9_out X9_cell X9_wrongGate X9_cuts X9_cut X9_depth X9_tables X9_table X9_cloth X9_broken X9_set X9_tile X9_move X9_swap X9_smooth X9_cost X9_wires X9_lead X9_joint X9_way X9_side -/
theorem dX9_gate_0 : decode cX9_gate 0 = .ok (.iload_n 1, 1) := by decide +kernel
theorem dX9_gate_1 : decode cX9_gate 1 = .ok (.ifCond .lt 8, 3) := by decide +kernel
theorem dX9_gate_4 : decode cX9_gate 4 = .ok (.iload_n 1, 1) := by decide +kernel
theorem dX9_gate_5 : decode cX9_gate 5 = .ok (.iconst 2, 1) := by decide +kernel
theorem dX9_gate_6 : decode cX9_gate 6 = .ok (.if_icmp .le 10, 3) := by decide +kernel
theorem dX9_gate_9 : decode cX9_gate 9 = .ok (.aload_n 0, 1) := by decide +kernel
theorem dX9_gate_10 : decode cX9_gate 10 = .ok (.bipush (-7), 2) := by decide +kernel
theorem dX9_gate_12 : decode cX9_gate 12 = .ok (.invokevirtual 91, 3) := by decide +kernel
theorem dX9_gate_15 : decode cX9_gate 15 = .ok (.ireturn, 1) := by decide +kernel
theorem dX9_gate_16 : decode cX9_gate 16 = .ok (.aload_n 0, 1) := by decide +kernel
theorem dX9_gate_17 : decode cX9_gate 17 = .ok (.getfield 12, 3) := by decide +kernel
theorem dX9_gate_20 : decode cX9_gate 20 = .ok (.iload_n 2, 1) := by decide +kernel
theorem dX9_gate_21 : decode cX9_gate 21 = .ok (.invokevirtual 113, 3) := by decide +kernel
theorem dX9_gate_24 : decode cX9_gate 24 = .ok (.ifCond .eq 14, 3) := by decide +kernel
theorem dX9_gate_27 : decode cX9_gate 27 = .ok (.aload_n 0, 1) := by decide +kernel
theorem dX9_gate_28 : decode cX9_gate 28 = .ok (.getfield 12, 3) := by decide +kernel
theorem dX9_gate_31 : decode cX9_gate 31 = .ok (.iload_n 3, 1) := by decide +kernel
theorem dX9_gate_32 : decode cX9_gate 32 = .ok (.invokevirtual 113, 3) := by decide +kernel
theorem dX9_gate_35 : decode cX9_gate 35 = .ok (.ifCond .ne 10, 3) := by decide +kernel
theorem dX9_gate_38 : decode cX9_gate 38 = .ok (.aload_n 0, 1) := by decide +kernel
theorem dX9_gate_39 : decode cX9_gate 39 = .ok (.bipush (-3), 2) := by decide +kernel
theorem dX9_gate_41 : decode cX9_gate 41 = .ok (.invokevirtual 91, 3) := by decide +kernel
theorem dX9_gate_44 : decode cX9_gate 44 = .ok (.ireturn, 1) := by decide +kernel
theorem dX9_gate_45 : decode cX9_gate 45 = .ok (.aload_n 0, 1) := by decide +kernel
theorem dX9_gate_46 : decode cX9_gate 46 = .ok (.getfield 12, 3) := by decide +kernel
theorem dX9_gate_49 : decode cX9_gate 49 = .ok (.getfield 84, 3) := by decide +kernel
theorem dX9_gate_52 : decode cX9_gate 52 = .ok (.bipush 32, 2) := by decide +kernel
theorem dX9_gate_54 : decode cX9_gate 54 = .ok (.if_icmp .lt 10, 3) := by decide +kernel
theorem dX9_gate_57 : decode cX9_gate 57 = .ok (.aload_n 0, 1) := by decide +kernel
theorem dX9_gate_58 : decode cX9_gate 58 = .ok (.bipush (-8), 2) := by decide +kernel
theorem dX9_gate_60 : decode cX9_gate 60 = .ok (.invokevirtual 91, 3) := by decide +kernel
theorem dX9_gate_63 : decode cX9_gate 63 = .ok (.ireturn, 1) := by decide +kernel
theorem dX9_gate_64 : decode cX9_gate 64 = .ok (.aload_n 0, 1) := by decide +kernel
theorem dX9_gate_65 : decode cX9_gate 65 = .ok (.getfield 12, 3) := by decide +kernel
theorem dX9_gate_68 : decode cX9_gate 68 = .ok (.iload_n 1, 1) := by decide +kernel
theorem dX9_gate_69 : decode cX9_gate 69 = .ok (.iload_n 2, 1) := by decide +kernel
theorem dX9_gate_70 : decode cX9_gate 70 = .ok (.iload_n 3, 1) := by decide +kernel
theorem dX9_gate_71 : decode cX9_gate 71 = .ok (.invokevirtual 117, 3) := by decide +kernel
theorem dX9_gate_74 : decode cX9_gate 74 = .ok (.istore 4, 2) := by decide +kernel
theorem dX9_gate_76 : decode cX9_gate 76 = .ok (.aload_n 0, 1) := by decide +kernel
theorem dX9_gate_77 : decode cX9_gate 77 = .ok (.getfield 19, 3) := by decide +kernel
theorem dX9_gate_80 : decode cX9_gate 80 = .ok (.iload 4, 2) := by decide +kernel
theorem dX9_gate_82 : decode cX9_gate 82 = .ok (.iload_n 2, 1) := by decide +kernel
theorem dX9_gate_83 : decode cX9_gate 83 = .ok (.iconst 1, 1) := by decide +kernel
theorem dX9_gate_84 : decode cX9_gate 84 = .ok (.ishr, 1) := by decide +kernel
theorem dX9_gate_85 : decode cX9_gate 85 = .ok (.iload_n 3, 1) := by decide +kernel
theorem dX9_gate_86 : decode cX9_gate 86 = .ok (.iconst 1, 1) := by decide +kernel
theorem dX9_gate_87 : decode cX9_gate 87 = .ok (.ishr, 1) := by decide +kernel
theorem dX9_gate_88 : decode cX9_gate 88 = .ok (.invokevirtual 121, 3) := by decide +kernel
theorem dX9_gate_91 : decode cX9_gate 91 = .ok (.aload_n 0, 1) := by decide +kernel
theorem dX9_gate_92 : decode cX9_gate 92 = .ok (.invokevirtual 103, 3) := by decide +kernel
theorem dX9_gate_95 : decode cX9_gate 95 = .ok (.iload 4, 2) := by decide +kernel
theorem dX9_gate_97 : decode cX9_gate 97 = .ok (.ireturn, 1) := by decide +kernel
set_option maxHeartbeats 4000000 in
set_option maxRecDepth 100000 in
theorem wX9_gate_38 {p : Program} {l : Launch} {e : Env} {s : State} {m : MethodId} {args : Array Value} {below : List Frame} {meth : Method} {c : Code} (bs : Nat) (D : va_G) (y : Y3) (n : Nat) (r : Int32 × M2) (Gc : Gx p s m args meth c cX9_gate 5 RX9 bs D y (some .int) 44)  (I : MI) (J : MJ) (H : Heap) (locs : List Loc) (ls : Array Slot) (hP : va_P D vwCl (wl bs y I J) H) (hS : va_S (FA bs) s.heap H locs) (hl : lv_has ls 5 [(0, .ref (bs + 0))]) (h : fX9_gate_38 n   I J = some r) : W p l e (rmm 4 107) s m args below meth c H locs 0 0 (QI below args s bs D y r) (F0 m 38 ls []) := by
  obtain ⟨hx, hb, hml, hown, hts, hK, hN, hL, hr, hlocks, hcb⟩ := id Gc
  unfold fX9_gate_38 at h
  refine lv_aload_n hx hb dX9_gate_38 rfl (lv_at hl 0 rfl) ?_
  refine lv_bipush (v := (-3 : Int32)) hx hb dX9_gate_39 (by decide) ?_
  obtain ⟨r41, er41, h⟩ := bd_s1 h
  refine c_VI (k := 0) (ci := 9) (As := [.int (-3 : Int32)]) (rest := []) hx hb hml hown hts hK hN hL hP hS (cX9_refuse_ l bs D y hcb n (-3 : Int32) I J r41 er41) ok_X9_refuse ov_X9_refuse ml_71 ⟨Nat.le_of_ble_eq_true rfl, Nat.le_of_ble_eq_true rfl⟩ rfl hcb kd_0 hl.1 rfl rfl (Nat.le_of_ble_eq_true rfl) ⟨Nat.zero_le _, Nat.zero_le _⟩ dX9_gate_41 (fun H locs hP hS => ?_)
  exact r_I hx hb hr hlocks hP hK hN hL hS h dX9_gate_44
set_option maxHeartbeats 4000000 in
set_option maxRecDepth 100000 in
theorem wX9_gate_9 {p : Program} {l : Launch} {e : Env} {s : State} {m : MethodId} {args : Array Value} {below : List Frame} {meth : Method} {c : Code} (bs : Nat) (D : va_G) (y : Y3) (n : Nat) (r : Int32 × M2) (Gc : Gx p s m args meth c cX9_gate 5 RX9 bs D y (some .int) 44)  (I : MI) (J : MJ) (H : Heap) (locs : List Loc) (ls : Array Slot) (hP : va_P D vwCl (wl bs y I J) H) (hS : va_S (FA bs) s.heap H locs) (hl : lv_has ls 5 [(0, .ref (bs + 0))]) (h : fX9_gate_9 n   I J = some r) : W p l e (rmm 4 107) s m args below meth c H locs 0 0 (QI below args s bs D y r) (F0 m 9 ls []) := by
  obtain ⟨hx, hb, hml, hown, hts, hK, hN, hL, hr, hlocks, hcb⟩ := id Gc
  unfold fX9_gate_9 at h
  refine lv_aload_n hx hb dX9_gate_9 rfl (lv_at hl 0 rfl) ?_
  refine lv_bipush (v := (-7 : Int32)) hx hb dX9_gate_10 (by decide) ?_
  obtain ⟨r12, er12, h⟩ := bd_s1 h
  refine c_VI (k := 0) (ci := 9) (As := [.int (-7 : Int32)]) (rest := []) hx hb hml hown hts hK hN hL hP hS (cX9_refuse_ l bs D y hcb n (-7 : Int32) I J r12 er12) ok_X9_refuse ov_X9_refuse ml_71 ⟨Nat.le_of_ble_eq_true rfl, Nat.le_of_ble_eq_true rfl⟩ rfl hcb kd_0 hl.1 rfl rfl (Nat.le_of_ble_eq_true rfl) ⟨Nat.zero_le _, Nat.zero_le _⟩ dX9_gate_12 (fun H locs hP hS => ?_)
  exact r_I hx hb hr hlocks hP hK hN hL hS h dX9_gate_15
set_option maxHeartbeats 4000000 in
set_option maxRecDepth 100000 in
theorem cX9_gate_ (l : Launch) (bs : Nat) (D : va_G) (y : Y3) (hcb : 44 ≤ y.2.2.2) (n : Nat) (x1 : Int32) (x2 : Int32) (x3 : Int32) (I : MI) (J : MJ) (r : Int32 × M2) (h : fX9_gate n x1 x2 x3 I J = some r) : Met l yX9_gate (.code yX9_gate cX9_gate 5 (some .int) :: gtb) (rmm 4 107) (va_Pc [.ref (bs + 0), .int x1, .int x2, .int x3] (HB bs D y I J)) (QcI bs D y r) 0 0 (FA bs) := by
  refine Met.ofW (cc := cX9_gate) (maxL := 5) (ret := (some .int)) (by decide) rfl ?_
  intro p e s m args below meth c s₁ B hml hv
  obtain ⟨rfl, hP, hK, hN, hL⟩ := hv
  have hx := B.exec
  have hb := B.bytes
  have hr := B.returns
  have hts0 := atoms_spec (ws := .code yX9_gate cX9_gate 5 (some .int) :: gtb) B.pre
  have hts : ∀ w ∈ gtb, w.before [.ref (bs + 0), .int x1, .int x2, .int x3].toArray s = true := fun w hw => hts0 w (List.mem_cons_of_mem _ hw)
  have hown : s.vm.findClass RX9 = some m.cls := findClass_of_methodNamed B.named
  have hlocks := B.notSynchronized
  have hS : va_S (FA bs) s.heap s.heap [] := va_S.rf
  have Gc : Gx p s m [.ref (bs + 0), .int x1, .int x2, .int x3].toArray meth c cX9_gate 5 RX9 bs D y (some .int) 44 := ⟨hx, hb, hml, hown, hts, hK, hN, hL, hr, hlocks, hcb⟩
  have hl := lv_entry [.ref (bs + 0), .int x1, .int x2, .int x3] (n := 5) (Nat.le_of_ble_eq_true rfl)
  rw [lg_entry_eq]
  generalize (lg_sl [.ref (bs + 0), .int x1, .int x2, .int x3] ++ List.replicate (5 - (lg_sl [.ref (bs + 0), .int x1, .int x2, .int x3]).length) Slot.unset).toArray = ls at hl ⊢
  have hl : lv_has ls 5 [(0, .ref (bs + 0)), (1, .int x1), (2, .int x2), (3, .int x3)] := hl
  change W p l e (rmm 4 107) s m [.ref (bs + 0), .int x1, .int x2, .int x3].toArray below meth c s.heap [] 0 0 (QI below [.ref (bs + 0), .int x1, .int x2, .int x3].toArray s bs D y r) (F0 m 0 ls [])
  unfold fX9_gate at h
  refine lv_iload_n hx hb dX9_gate_0 rfl (lv_at hl 1 rfl) ?_
  refine lv_if_lt (tgt := 9) hx hb dX9_gate_1 (by decide) (fun c1 => ?_) (fun c1 => ?_)
  · replace h := if_t c1 h
    exact wX9_gate_9 bs D y n  r Gc   I J _ _ _ hP hS (lv_sub hl [0] rfl) h
  · replace h := if_f c1 h
    refine lv_iload_n hx hb dX9_gate_4 rfl (lv_at hl 1 rfl) ?_
    refine lv_iconst (v := (2 : Int32)) hx hb dX9_gate_5 (by decide) ?_
    refine lv_icmp_le (tgt := 16) hx hb dX9_gate_6 (by decide) (fun c6 => ?_) (fun c6 => ?_)
    · replace h := if_t c6 h
      refine lv_aload_n hx hb dX9_gate_16 rfl (lv_at hl 0 rfl) ?_
      refine g_R (C := RX9) (T := TX9) (N := 10) (ci := 9) 0 0 1 hx hb hts hown hK hP in_X9 rfl hcb okF_0_0 rfc_0_0 fl_106 dX9_gate_17 ?_
      refine lv_iload_n hx hb dX9_gate_20 rfl (lv_at hl 2 rfl) ?_
      obtain ⟨r21, er21, h⟩ := bd_s1 h
      refine c_VI (k := 1) (ci := 3) (As := [.int x2]) (rest := []) hx hb hml hown hts hK hN hL hP hS (cX3_hasSign_ l bs D y hcb n x2 I J r21 er21) ok_X3_hasSign ov_X3_hasSign ml_76 ⟨Nat.le_of_ble_eq_true rfl, Nat.le_of_ble_eq_true rfl⟩ rfl hcb kd_1 hl.1 rfl rfl (Nat.le_of_ble_eq_true rfl) ⟨Nat.zero_le _, Nat.zero_le _⟩ dX9_gate_21 (fun H locs hP hS => ?_)
      refine lv_if_eq (tgt := 38) hx hb dX9_gate_24 (by decide) (fun c24 => ?_) (fun c24 => ?_)
      · replace h := if_t c24 h
        exact wX9_gate_38 bs D y n  r Gc   r21.2.1 r21.2.2 _ _ _ hP hS (lv_sub hl [0] rfl) h
      · replace h := if_f c24 h
        refine lv_aload_n hx hb dX9_gate_27 rfl (lv_at hl 0 rfl) ?_
        refine g_R (C := RX9) (T := TX9) (N := 10) (ci := 9) 0 0 1 hx hb hts hown hK hP in_X9 rfl hcb okF_0_0 rfc_0_0 fl_106 dX9_gate_28 ?_
        refine lv_iload_n hx hb dX9_gate_31 rfl (lv_at hl 3 rfl) ?_
        obtain ⟨r32, er32, h⟩ := bd_s1 h
        refine c_VI (k := 1) (ci := 3) (As := [.int x3]) (rest := []) hx hb hml hown hts hK hN hL hP hS (cX3_hasSign_ l bs D y hcb n x3 r21.2.1 r21.2.2 r32 er32) ok_X3_hasSign ov_X3_hasSign ml_76 ⟨Nat.le_of_ble_eq_true rfl, Nat.le_of_ble_eq_true rfl⟩ rfl hcb kd_1 hl.1 rfl rfl (Nat.le_of_ble_eq_true rfl) ⟨Nat.zero_le _, Nat.zero_le _⟩ dX9_gate_32 (fun H locs hP hS => ?_)
        refine lv_if_ne (tgt := 45) hx hb dX9_gate_35 (by decide) (fun c35 => ?_) (fun c35 => ?_)
        · replace h := if_f c35 h
          refine lv_aload_n hx hb dX9_gate_45 rfl (lv_at hl 0 rfl) ?_
          refine g_R (C := RX9) (T := TX9) (N := 10) (ci := 9) 0 0 1 hx hb hts hown hK hP in_X9 rfl hcb okF_0_0 rfc_0_0 fl_106 dX9_gate_46 ?_
          refine g_I (C := RX3) (T := TX3) (N := 11) (ci := 3) 1 5 hx hb hts hown hK hP in_X3 rfl hcb okF_1_5 fl_107 dX9_gate_49 ?_
          refine lv_bipush (v := (32 : Int32)) hx hb dX9_gate_52 (by decide) ?_
          refine lv_icmp_lt (tgt := 64) hx hb dX9_gate_54 (by decide) (fun c54 => ?_) (fun c54 => ?_)
          · replace h := if_t c54 h
            refine lv_aload_n hx hb dX9_gate_64 rfl (lv_at hl 0 rfl) ?_
            refine g_R (C := RX9) (T := TX9) (N := 10) (ci := 9) 0 0 1 hx hb hts hown hK hP in_X9 rfl hcb okF_0_0 rfc_0_0 fl_106 dX9_gate_65 ?_
            refine lv_iload_n hx hb dX9_gate_68 rfl (lv_at hl 1 rfl) ?_
            refine lv_iload_n hx hb dX9_gate_69 rfl (lv_at hl 2 rfl) ?_
            refine lv_iload_n hx hb dX9_gate_70 rfl (lv_at hl 3 rfl) ?_
            obtain ⟨r71, er71, h⟩ := bd_s1 h
            refine c_VI (k := 1) (ci := 3) (As := [.int x1, .int x2, .int x3]) (rest := []) hx hb hml hown hts hK hN hL hP hS (cX3_addGate_ l bs D y hcb n x1 x2 x3 r32.2.1 r32.2.2 r71 er71) ok_X3_addGate ov_X3_addGate ml_77 ⟨Nat.le_of_ble_eq_true rfl, Nat.le_of_ble_eq_true rfl⟩ rfl hcb kd_1 hl.1 rfl rfl (Nat.le_of_ble_eq_true rfl) ⟨Nat.zero_le _, Nat.zero_le _⟩ dX9_gate_71 (fun H locs hP hS => ?_)
            obtain ⟨v74, ev74, h⟩ := lt_s1 h
            refine top_i ev74 ?_
            refine lv_istore (lv' := [(4, .int v74), (0, .ref (bs + 0)), (1, .int x1), (2, .int x2), (3, .int x3)]) hx hb dX9_gate_74 hl (by decide) rfl (fun ls hl => ?_)
            refine lv_aload_n hx hb dX9_gate_76 rfl (lv_at hl 1 rfl) ?_
            refine g_R (C := RX9) (T := TX9) (N := 10) (ci := 9) 0 1 7 hx hb hts hown hK hP in_X9 rfl hcb okF_0_1 rfc_0_1 fl_109 dX9_gate_77 ?_
            refine lv_iload hx hb dX9_gate_80 (lv_at hl 0 rfl) ?_
            refine lv_iload_n hx hb dX9_gate_82 rfl (lv_at hl 3 rfl) ?_
            refine lv_iconst (v := (1 : Int32)) hx hb dX9_gate_83 (by decide) ?_
            refine lv_ishr hx hb dX9_gate_84 ?_
            refine lv_iload_n hx hb dX9_gate_85 rfl (lv_at hl 4 rfl) ?_
            refine lv_iconst (v := (1 : Int32)) hx hb dX9_gate_86 (by decide) ?_
            refine lv_ishr hx hb dX9_gate_87 ?_
            obtain ⟨r88, er88, h⟩ := bd_s1 h
            refine c_VV (k := 7) (ci := 0) (As := [.int v74, .int (x2 >>> ((1 : Int32) &&& 31)), .int (x3 >>> ((1 : Int32) &&& 31))]) (rest := []) hx hb hml hown hts hK hN hL hP hS (cX0_addGate_ l bs D y hcb n v74 (x2 >>> ((1 : Int32) &&& 31)) (x3 >>> ((1 : Int32) &&& 31)) r71.2.1 r71.2.2 r88 er88) ok_X0_addGate ov_X0_addGate ml_78 ⟨Nat.le_of_ble_eq_true rfl, Nat.le_of_ble_eq_true rfl⟩ rfl hcb kd_7 hl.1 rfl rfl (Nat.le_of_ble_eq_true rfl) ⟨Nat.zero_le _, Nat.zero_le _⟩ dX9_gate_88 (fun H locs hP hS => ?_)
            refine lv_aload_n hx hb dX9_gate_91 rfl (lv_at hl 1 rfl) ?_
            obtain ⟨r92, er92, h⟩ := bd_s1 h
            refine c_VV (k := 0) (ci := 9) (As := []) (rest := []) hx hb hml hown hts hK hN hL hP hS (cX9_forgetTables_ l bs D y hcb n  r88.1 r88.2 r92 er92) ok_X9_forgetTables ov_X9_forgetTables ml_74 ⟨Nat.le_of_ble_eq_true rfl, Nat.le_of_ble_eq_true rfl⟩ rfl hcb kd_0 hl.1 rfl rfl (Nat.le_of_ble_eq_true rfl) ⟨Nat.zero_le _, Nat.zero_le _⟩ dX9_gate_92 (fun H locs hP hS => ?_)
            refine lv_iload hx hb dX9_gate_95 (lv_at hl 0 rfl) ?_
            exact r_I hx hb hr hlocks hP hK hN hL hS h dX9_gate_97
          · replace h := if_f c54 h
            refine lv_aload_n hx hb dX9_gate_57 rfl (lv_at hl 0 rfl) ?_
            refine lv_bipush (v := (-8 : Int32)) hx hb dX9_gate_58 (by decide) ?_
            obtain ⟨r60, er60, h⟩ := bd_s1 h
            refine c_VI (k := 0) (ci := 9) (As := [.int (-8 : Int32)]) (rest := []) hx hb hml hown hts hK hN hL hP hS (cX9_refuse_ l bs D y hcb n (-8 : Int32) r32.2.1 r32.2.2 r60 er60) ok_X9_refuse ov_X9_refuse ml_71 ⟨Nat.le_of_ble_eq_true rfl, Nat.le_of_ble_eq_true rfl⟩ rfl hcb kd_0 hl.1 rfl rfl (Nat.le_of_ble_eq_true rfl) ⟨Nat.zero_le _, Nat.zero_le _⟩ dX9_gate_60 (fun H locs hP hS => ?_)
            exact r_I hx hb hr hlocks hP hK hN hL hS h dX9_gate_63
        · replace h := if_t c35 h
          exact wX9_gate_38 bs D y n  r Gc   r32.2.1 r32.2.2 _ _ _ hP hS (lv_sub hl [0] rfl) h
    · replace h := if_f c6 h
      exact wX9_gate_9 bs D y n  r Gc   I J _ _ _ hP hS (lv_sub hl [0] rfl) h
theorem dX9_source_0 : decode cX9_source 0 = .ok (.aload_n 0, 1) := by decide +kernel
theorem dX9_source_1 : decode cX9_source 1 = .ok (.getfield 12, 3) := by decide +kernel
theorem dX9_source_4 : decode cX9_source 4 = .ok (.iload_n 1, 1) := by decide +kernel
theorem dX9_source_5 : decode cX9_source 5 = .ok (.invokevirtual 124, 3) := by decide +kernel
theorem dX9_source_8 : decode cX9_source 8 = .ok (.ifCond .eq 14, 3) := by decide +kernel
theorem dX9_source_11 : decode cX9_source 11 = .ok (.aload_n 0, 1) := by decide +kernel
theorem dX9_source_12 : decode cX9_source 12 = .ok (.getfield 12, 3) := by decide +kernel
theorem dX9_source_15 : decode cX9_source 15 = .ok (.iload_n 2, 1) := by decide +kernel
theorem dX9_source_16 : decode cX9_source 16 = .ok (.invokevirtual 124, 3) := by decide +kernel
theorem dX9_source_19 : decode cX9_source 19 = .ok (.ifCond .ne 10, 3) := by decide +kernel
theorem dX9_source_22 : decode cX9_source 22 = .ok (.aload_n 0, 1) := by decide +kernel
theorem dX9_source_23 : decode cX9_source 23 = .ok (.bipush (-3), 2) := by decide +kernel
theorem dX9_source_25 : decode cX9_source 25 = .ok (.invokevirtual 91, 3) := by decide +kernel
theorem dX9_source_28 : decode cX9_source 28 = .ok (.ireturn, 1) := by decide +kernel
theorem dX9_source_29 : decode cX9_source 29 = .ok (.aload_n 0, 1) := by decide +kernel
theorem dX9_source_30 : decode cX9_source 30 = .ok (.getfield 12, 3) := by decide +kernel
theorem dX9_source_33 : decode cX9_source 33 = .ok (.getfield 127, 3) := by decide +kernel
theorem dX9_source_36 : decode cX9_source 36 = .ok (.iload_n 1, 1) := by decide +kernel
theorem dX9_source_37 : decode cX9_source 37 = .ok (.iaload, 1) := by decide +kernel
theorem dX9_source_38 : decode cX9_source 38 = .ok (.iconst 1, 1) := by decide +kernel
theorem dX9_source_39 : decode cX9_source 39 = .ok (.if_icmp .eq 10, 3) := by decide +kernel
theorem dX9_source_42 : decode cX9_source 42 = .ok (.aload_n 0, 1) := by decide +kernel
theorem dX9_source_43 : decode cX9_source 43 = .ok (.bipush (-5), 2) := by decide +kernel
theorem dX9_source_45 : decode cX9_source 45 = .ok (.invokevirtual 91, 3) := by decide +kernel
theorem dX9_source_48 : decode cX9_source 48 = .ok (.ireturn, 1) := by decide +kernel
theorem dX9_source_49 : decode cX9_source 49 = .ok (.aload_n 0, 1) := by decide +kernel
theorem dX9_source_50 : decode cX9_source 50 = .ok (.getfield 12, 3) := by decide +kernel
theorem dX9_source_53 : decode cX9_source 53 = .ok (.getfield 130, 3) := by decide +kernel
theorem dX9_source_56 : decode cX9_source 56 = .ok (.iload_n 1, 1) := by decide +kernel
theorem dX9_source_57 : decode cX9_source 57 = .ok (.iaload, 1) := by decide +kernel
theorem dX9_source_58 : decode cX9_source 58 = .ok (.istore_n 3, 1) := by decide +kernel
theorem dX9_source_59 : decode cX9_source 59 = .ok (.aload_n 0, 1) := by decide +kernel
theorem dX9_source_60 : decode cX9_source 60 = .ok (.getfield 12, 3) := by decide +kernel
theorem dX9_source_63 : decode cX9_source 63 = .ok (.getfield 130, 3) := by decide +kernel
theorem dX9_source_66 : decode cX9_source 66 = .ok (.iload_n 1, 1) := by decide +kernel
theorem dX9_source_67 : decode cX9_source 67 = .ok (.iload_n 2, 1) := by decide +kernel
theorem dX9_source_68 : decode cX9_source 68 = .ok (.iastore, 1) := by decide +kernel
theorem dX9_source_69 : decode cX9_source 69 = .ok (.aload_n 0, 1) := by decide +kernel
theorem dX9_source_70 : decode cX9_source 70 = .ok (.invokevirtual 103, 3) := by decide +kernel
theorem dX9_source_73 : decode cX9_source 73 = .ok (.iload_n 3, 1) := by decide +kernel
theorem dX9_source_74 : decode cX9_source 74 = .ok (.ireturn, 1) := by decide +kernel
set_option maxHeartbeats 4000000 in
set_option maxRecDepth 100000 in
theorem wX9_source_22 {p : Program} {l : Launch} {e : Env} {s : State} {m : MethodId} {args : Array Value} {below : List Frame} {meth : Method} {c : Code} (bs : Nat) (D : va_G) (y : Y3) (n : Nat) (r : Int32 × M2) (Gc : Gx p s m args meth c cX9_source 4 RX9 bs D y (some .int) 44)  (I : MI) (J : MJ) (H : Heap) (locs : List Loc) (ls : Array Slot) (hP : va_P D vwCl (wl bs y I J) H) (hS : va_S (FA bs) s.heap H locs) (hl : lv_has ls 4 [(0, .ref (bs + 0))]) (h : fX9_source_22 n   I J = some r) : W p l e (rmm 3 60) s m args below meth c H locs 0 0 (QI below args s bs D y r) (F0 m 22 ls []) := by
  obtain ⟨hx, hb, hml, hown, hts, hK, hN, hL, hr, hlocks, hcb⟩ := id Gc
  unfold fX9_source_22 at h
  refine lv_aload_n hx hb dX9_source_22 rfl (lv_at hl 0 rfl) ?_
  refine lv_bipush (v := (-3 : Int32)) hx hb dX9_source_23 (by decide) ?_
  obtain ⟨r25, er25, h⟩ := bd_s1 h
  refine c_VI (k := 0) (ci := 9) (As := [.int (-3 : Int32)]) (rest := []) hx hb hml hown hts hK hN hL hP hS (cX9_refuse_ l bs D y hcb n (-3 : Int32) I J r25 er25) ok_X9_refuse ov_X9_refuse ml_71 ⟨Nat.le_of_ble_eq_true rfl, Nat.le_of_ble_eq_true rfl⟩ rfl hcb kd_0 hl.1 rfl rfl (Nat.le_of_ble_eq_true rfl) ⟨Nat.zero_le _, Nat.zero_le _⟩ dX9_source_25 (fun H locs hP hS => ?_)
  exact r_I hx hb hr hlocks hP hK hN hL hS h dX9_source_28
set_option maxHeartbeats 4000000 in
set_option maxRecDepth 100000 in
theorem cX9_source_ (l : Launch) (bs : Nat) (D : va_G) (y : Y3) (hcb : 44 ≤ y.2.2.2) (n : Nat) (x1 : Int32) (x2 : Int32) (I : MI) (J : MJ) (r : Int32 × M2) (h : fX9_source n x1 x2 I J = some r) : Met l yX9_source (.code yX9_source cX9_source 4 (some .int) :: gtb) (rmm 3 60) (va_Pc [.ref (bs + 0), .int x1, .int x2] (HB bs D y I J)) (QcI bs D y r) 0 0 (FA bs) := by
  refine Met.ofW (cc := cX9_source) (maxL := 4) (ret := (some .int)) (by decide) rfl ?_
  intro p e s m args below meth c s₁ B hml hv
  obtain ⟨rfl, hP, hK, hN, hL⟩ := hv
  have hx := B.exec
  have hb := B.bytes
  have hr := B.returns
  have hts0 := atoms_spec (ws := .code yX9_source cX9_source 4 (some .int) :: gtb) B.pre
  have hts : ∀ w ∈ gtb, w.before [.ref (bs + 0), .int x1, .int x2].toArray s = true := fun w hw => hts0 w (List.mem_cons_of_mem _ hw)
  have hown : s.vm.findClass RX9 = some m.cls := findClass_of_methodNamed B.named
  have hlocks := B.notSynchronized
  have hS : va_S (FA bs) s.heap s.heap [] := va_S.rf
  have Gc : Gx p s m [.ref (bs + 0), .int x1, .int x2].toArray meth c cX9_source 4 RX9 bs D y (some .int) 44 := ⟨hx, hb, hml, hown, hts, hK, hN, hL, hr, hlocks, hcb⟩
  have hl := lv_entry [.ref (bs + 0), .int x1, .int x2] (n := 4) (Nat.le_of_ble_eq_true rfl)
  rw [lg_entry_eq]
  generalize (lg_sl [.ref (bs + 0), .int x1, .int x2] ++ List.replicate (4 - (lg_sl [.ref (bs + 0), .int x1, .int x2]).length) Slot.unset).toArray = ls at hl ⊢
  have hl : lv_has ls 4 [(0, .ref (bs + 0)), (1, .int x1), (2, .int x2)] := hl
  change W p l e (rmm 3 60) s m [.ref (bs + 0), .int x1, .int x2].toArray below meth c s.heap [] 0 0 (QI below [.ref (bs + 0), .int x1, .int x2].toArray s bs D y r) (F0 m 0 ls [])
  unfold fX9_source at h
  refine lv_aload_n hx hb dX9_source_0 rfl (lv_at hl 0 rfl) ?_
  refine g_R (C := RX9) (T := TX9) (N := 10) (ci := 9) 0 0 1 hx hb hts hown hK hP in_X9 rfl hcb okF_0_0 rfc_0_0 fl_106 dX9_source_1 ?_
  refine lv_iload_n hx hb dX9_source_4 rfl (lv_at hl 1 rfl) ?_
  obtain ⟨r5, er5, h⟩ := bd_s1 h
  refine c_VI (k := 1) (ci := 3) (As := [.int x1]) (rest := []) hx hb hml hown hts hK hN hL hP hS (cX3_has_ l bs D y hcb n x1 I J r5 er5) ok_X3_has ov_X3_has ml_79 ⟨Nat.le_of_ble_eq_true rfl, Nat.le_of_ble_eq_true rfl⟩ rfl hcb kd_1 hl.1 rfl rfl (Nat.le_of_ble_eq_true rfl) ⟨Nat.zero_le _, Nat.zero_le _⟩ dX9_source_5 (fun H locs hP hS => ?_)
  refine lv_if_eq (tgt := 22) hx hb dX9_source_8 (by decide) (fun c8 => ?_) (fun c8 => ?_)
  · replace h := if_t c8 h
    exact wX9_source_22 bs D y n  r Gc   r5.2.1 r5.2.2 _ _ _ hP hS (lv_sub hl [0] rfl) h
  · replace h := if_f c8 h
    refine lv_aload_n hx hb dX9_source_11 rfl (lv_at hl 0 rfl) ?_
    refine g_R (C := RX9) (T := TX9) (N := 10) (ci := 9) 0 0 1 hx hb hts hown hK hP in_X9 rfl hcb okF_0_0 rfc_0_0 fl_106 dX9_source_12 ?_
    refine lv_iload_n hx hb dX9_source_15 rfl (lv_at hl 2 rfl) ?_
    obtain ⟨r16, er16, h⟩ := bd_s1 h
    refine c_VI (k := 1) (ci := 3) (As := [.int x2]) (rest := []) hx hb hml hown hts hK hN hL hP hS (cX3_has_ l bs D y hcb n x2 r5.2.1 r5.2.2 r16 er16) ok_X3_has ov_X3_has ml_79 ⟨Nat.le_of_ble_eq_true rfl, Nat.le_of_ble_eq_true rfl⟩ rfl hcb kd_1 hl.1 rfl rfl (Nat.le_of_ble_eq_true rfl) ⟨Nat.zero_le _, Nat.zero_le _⟩ dX9_source_16 (fun H locs hP hS => ?_)
    refine lv_if_ne (tgt := 29) hx hb dX9_source_19 (by decide) (fun c19 => ?_) (fun c19 => ?_)
    · replace h := if_f c19 h
      refine lv_aload_n hx hb dX9_source_29 rfl (lv_at hl 0 rfl) ?_
      refine g_R (C := RX9) (T := TX9) (N := 10) (ci := 9) 0 0 1 hx hb hts hown hK hP in_X9 rfl hcb okF_0_0 rfc_0_0 fl_106 dX9_source_30 ?_
      refine g_R (C := RX3) (T := TX3) (N := 11) (ci := 3) 1 0 2 hx hb hts hown hK hP in_X3 rfl hcb okF_1_0 rfc_1_0 fl_111 dX9_source_33 ?_
      refine lv_iload_n hx hb dX9_source_36 rfl (lv_at hl 1 rfl) ?_
      obtain ⟨hi37, h⟩ := if_s1 h
      refine a_I 2 hx hb hK hP hcb aln_2 hi37 dX9_source_37 ?_
      refine lv_iconst (v := (1 : Int32)) hx hb dX9_source_38 (by decide) ?_
      refine lv_icmp_eq (tgt := 49) hx hb dX9_source_39 (by decide) (fun c39 => ?_) (fun c39 => ?_)
      · replace h := if_t c39 h
        refine lv_aload_n hx hb dX9_source_49 rfl (lv_at hl 0 rfl) ?_
        refine g_R (C := RX9) (T := TX9) (N := 10) (ci := 9) 0 0 1 hx hb hts hown hK hP in_X9 rfl hcb okF_0_0 rfc_0_0 fl_106 dX9_source_50 ?_
        refine g_R (C := RX3) (T := TX3) (N := 11) (ci := 3) 1 1 3 hx hb hts hown hK hP in_X3 rfl hcb okF_1_1 rfc_1_1 fl_112 dX9_source_53 ?_
        refine lv_iload_n hx hb dX9_source_56 rfl (lv_at hl 1 rfl) ?_
        obtain ⟨hi57, h⟩ := if_s1 h
        refine a_I 3 hx hb hK hP hcb aln_3 hi57 dX9_source_57 ?_
        obtain ⟨v58, ev58, h⟩ := lt_s1 h
        refine top_i ev58 ?_
        refine lv_istore_n (lv' := [(3, .int v58), (0, .ref (bs + 0)), (1, .int x1), (2, .int x2)]) hx hb dX9_source_58 rfl hl (by decide) rfl (fun ls hl => ?_)
        refine lv_aload_n hx hb dX9_source_59 rfl (lv_at hl 1 rfl) ?_
        refine g_R (C := RX9) (T := TX9) (N := 10) (ci := 9) 0 0 1 hx hb hts hown hK hP in_X9 rfl hcb okF_0_0 rfc_0_0 fl_106 dX9_source_60 ?_
        refine g_R (C := RX3) (T := TX3) (N := 11) (ci := 3) 1 1 3 hx hb hts hown hK hP in_X3 rfl hcb okF_1_1 rfc_1_1 fl_112 dX9_source_63 ?_
        refine lv_iload_n hx hb dX9_source_66 rfl (lv_at hl 2 rfl) ?_
        refine lv_iload_n hx hb dX9_source_67 rfl (lv_at hl 3 rfl) ?_
        obtain ⟨hi68, h⟩ := if_s1 h
        obtain ⟨I68, eI68, h⟩ := lt_s1 h
        refine t_I 3 eI68 hx hb hK hP hS hcb aln_3 hi68 dX9_source_68 (fun H locs hP hS => ?_)
        refine lv_aload_n hx hb dX9_source_69 rfl (lv_at hl 1 rfl) ?_
        obtain ⟨r70, er70, h⟩ := bd_s1 h
        refine c_VV (k := 0) (ci := 9) (As := []) (rest := []) hx hb hml hown hts hK hN hL hP hS (cX9_forgetTables_ l bs D y hcb n  I68 r16.2.2 r70 er70) ok_X9_forgetTables ov_X9_forgetTables ml_74 ⟨Nat.le_of_ble_eq_true rfl, Nat.le_of_ble_eq_true rfl⟩ rfl hcb kd_0 hl.1 rfl rfl (Nat.le_of_ble_eq_true rfl) ⟨Nat.zero_le _, Nat.zero_le _⟩ dX9_source_70 (fun H locs hP hS => ?_)
        refine lv_iload_n hx hb dX9_source_73 rfl (lv_at hl 0 rfl) ?_
        exact r_I hx hb hr hlocks hP hK hN hL hS h dX9_source_74
      · replace h := if_f c39 h
        refine lv_aload_n hx hb dX9_source_42 rfl (lv_at hl 0 rfl) ?_
        refine lv_bipush (v := (-5 : Int32)) hx hb dX9_source_43 (by decide) ?_
        obtain ⟨r45, er45, h⟩ := bd_s1 h
        refine c_VI (k := 0) (ci := 9) (As := [.int (-5 : Int32)]) (rest := []) hx hb hml hown hts hK hN hL hP hS (cX9_refuse_ l bs D y hcb n (-5 : Int32) r16.2.1 r16.2.2 r45 er45) ok_X9_refuse ov_X9_refuse ml_71 ⟨Nat.le_of_ble_eq_true rfl, Nat.le_of_ble_eq_true rfl⟩ rfl hcb kd_0 hl.1 rfl rfl (Nat.le_of_ble_eq_true rfl) ⟨Nat.zero_le _, Nat.zero_le _⟩ dX9_source_45 (fun H locs hP hS => ?_)
        exact r_I hx hb hr hlocks hP hK hN hL hS h dX9_source_48
    · replace h := if_t c19 h
      exact wX9_source_22 bs D y n  r Gc   r16.2.1 r16.2.2 _ _ _ hP hS (lv_sub hl [0] rfl) h
theorem dX9_out_0 : decode cX9_out 0 = .ok (.aload_n 0, 1) := by decide +kernel
theorem dX9_out_1 : decode cX9_out 1 = .ok (.getfield 12, 3) := by decide +kernel
theorem dX9_out_4 : decode cX9_out 4 = .ok (.iload_n 1, 1) := by decide +kernel
theorem dX9_out_5 : decode cX9_out 5 = .ok (.invokevirtual 124, 3) := by decide +kernel
theorem dX9_out_8 : decode cX9_out 8 = .ok (.ifCond .ne 10, 3) := by decide +kernel
theorem dX9_out_11 : decode cX9_out 11 = .ok (.aload_n 0, 1) := by decide +kernel
theorem dX9_out_12 : decode cX9_out 12 = .ok (.bipush (-3), 2) := by decide +kernel
theorem dX9_out_14 : decode cX9_out 14 = .ok (.invokevirtual 91, 3) := by decide +kernel
theorem dX9_out_17 : decode cX9_out 17 = .ok (.ireturn, 1) := by decide +kernel
theorem dX9_out_18 : decode cX9_out 18 = .ok (.aload_n 0, 1) := by decide +kernel
theorem dX9_out_19 : decode cX9_out 19 = .ok (.getfield 12, 3) := by decide +kernel
theorem dX9_out_22 : decode cX9_out 22 = .ok (.getfield 133, 3) := by decide +kernel
theorem dX9_out_25 : decode cX9_out 25 = .ok (.bipush 8, 2) := by decide +kernel
theorem dX9_out_27 : decode cX9_out 27 = .ok (.if_icmp .lt 10, 3) := by decide +kernel
theorem dX9_out_30 : decode cX9_out 30 = .ok (.aload_n 0, 1) := by decide +kernel
theorem dX9_out_31 : decode cX9_out 31 = .ok (.bipush (-8), 2) := by decide +kernel
theorem dX9_out_33 : decode cX9_out 33 = .ok (.invokevirtual 91, 3) := by decide +kernel
theorem dX9_out_36 : decode cX9_out 36 = .ok (.ireturn, 1) := by decide +kernel
theorem dX9_out_37 : decode cX9_out 37 = .ok (.aload_n 0, 1) := by decide +kernel
theorem dX9_out_38 : decode cX9_out 38 = .ok (.getfield 12, 3) := by decide +kernel
theorem dX9_out_41 : decode cX9_out 41 = .ok (.iload_n 1, 1) := by decide +kernel
theorem dX9_out_42 : decode cX9_out 42 = .ok (.invokevirtual 136, 3) := by decide +kernel
theorem dX9_out_45 : decode cX9_out 45 = .ok (.aload_n 0, 1) := by decide +kernel
theorem dX9_out_46 : decode cX9_out 46 = .ok (.invokevirtual 103, 3) := by decide +kernel
theorem dX9_out_49 : decode cX9_out 49 = .ok (.aload_n 0, 1) := by decide +kernel
theorem dX9_out_50 : decode cX9_out 50 = .ok (.getfield 12, 3) := by decide +kernel
theorem dX9_out_53 : decode cX9_out 53 = .ok (.getfield 133, 3) := by decide +kernel
theorem dX9_out_56 : decode cX9_out 56 = .ok (.ireturn, 1) := by decide +kernel
set_option maxHeartbeats 4000000 in
set_option maxRecDepth 100000 in
theorem cX9_out_ (l : Launch) (bs : Nat) (D : va_G) (y : Y3) (hcb : 44 ≤ y.2.2.2) (n : Nat) (x1 : Int32) (I : MI) (J : MJ) (r : Int32 × M2) (h : fX9_out n x1 I J = some r) : Met l yX9_out (.code yX9_out cX9_out 2 (some .int) :: gtb) (rmm 3 60) (va_Pc [.ref (bs + 0), .int x1] (HB bs D y I J)) (QcI bs D y r) 0 0 (FA bs) := by
  refine Met.ofW (cc := cX9_out) (maxL := 2) (ret := (some .int)) (by decide) rfl ?_
  intro p e s m args below meth c s₁ B hml hv
  obtain ⟨rfl, hP, hK, hN, hL⟩ := hv
  have hx := B.exec
  have hb := B.bytes
  have hr := B.returns
  have hts0 := atoms_spec (ws := .code yX9_out cX9_out 2 (some .int) :: gtb) B.pre
  have hts : ∀ w ∈ gtb, w.before [.ref (bs + 0), .int x1].toArray s = true := fun w hw => hts0 w (List.mem_cons_of_mem _ hw)
  have hown : s.vm.findClass RX9 = some m.cls := findClass_of_methodNamed B.named
  have hlocks := B.notSynchronized
  have hS : va_S (FA bs) s.heap s.heap [] := va_S.rf
  have Gc : Gx p s m [.ref (bs + 0), .int x1].toArray meth c cX9_out 2 RX9 bs D y (some .int) 44 := ⟨hx, hb, hml, hown, hts, hK, hN, hL, hr, hlocks, hcb⟩
  have hl := lv_entry [.ref (bs + 0), .int x1] (n := 2) (Nat.le_of_ble_eq_true rfl)
  rw [lg_entry_eq]
  generalize (lg_sl [.ref (bs + 0), .int x1] ++ List.replicate (2 - (lg_sl [.ref (bs + 0), .int x1]).length) Slot.unset).toArray = ls at hl ⊢
  have hl : lv_has ls 2 [(0, .ref (bs + 0)), (1, .int x1)] := hl
  change W p l e (rmm 3 60) s m [.ref (bs + 0), .int x1].toArray below meth c s.heap [] 0 0 (QI below [.ref (bs + 0), .int x1].toArray s bs D y r) (F0 m 0 ls [])
  unfold fX9_out at h
  refine lv_aload_n hx hb dX9_out_0 rfl (lv_at hl 0 rfl) ?_
  refine g_R (C := RX9) (T := TX9) (N := 10) (ci := 9) 0 0 1 hx hb hts hown hK hP in_X9 rfl hcb okF_0_0 rfc_0_0 fl_106 dX9_out_1 ?_
  refine lv_iload_n hx hb dX9_out_4 rfl (lv_at hl 1 rfl) ?_
  obtain ⟨r5, er5, h⟩ := bd_s1 h
  refine c_VI (k := 1) (ci := 3) (As := [.int x1]) (rest := []) hx hb hml hown hts hK hN hL hP hS (cX3_has_ l bs D y hcb n x1 I J r5 er5) ok_X3_has ov_X3_has ml_79 ⟨Nat.le_of_ble_eq_true rfl, Nat.le_of_ble_eq_true rfl⟩ rfl hcb kd_1 hl.1 rfl rfl (Nat.le_of_ble_eq_true rfl) ⟨Nat.zero_le _, Nat.zero_le _⟩ dX9_out_5 (fun H locs hP hS => ?_)
  refine lv_if_ne (tgt := 18) hx hb dX9_out_8 (by decide) (fun c8 => ?_) (fun c8 => ?_)
  · replace h := if_f c8 h
    refine lv_aload_n hx hb dX9_out_18 rfl (lv_at hl 0 rfl) ?_
    refine g_R (C := RX9) (T := TX9) (N := 10) (ci := 9) 0 0 1 hx hb hts hown hK hP in_X9 rfl hcb okF_0_0 rfc_0_0 fl_106 dX9_out_19 ?_
    refine g_I (C := RX3) (T := TX3) (N := 11) (ci := 3) 1 8 hx hb hts hown hK hP in_X3 rfl hcb okF_1_8 fl_113 dX9_out_22 ?_
    refine lv_bipush (v := (8 : Int32)) hx hb dX9_out_25 (by decide) ?_
    refine lv_icmp_lt (tgt := 37) hx hb dX9_out_27 (by decide) (fun c27 => ?_) (fun c27 => ?_)
    · replace h := if_t c27 h
      refine lv_aload_n hx hb dX9_out_37 rfl (lv_at hl 0 rfl) ?_
      refine g_R (C := RX9) (T := TX9) (N := 10) (ci := 9) 0 0 1 hx hb hts hown hK hP in_X9 rfl hcb okF_0_0 rfc_0_0 fl_106 dX9_out_38 ?_
      refine lv_iload_n hx hb dX9_out_41 rfl (lv_at hl 1 rfl) ?_
      obtain ⟨r42, er42, h⟩ := bd_s1 h
      refine c_VV (k := 1) (ci := 3) (As := [.int x1]) (rest := []) hx hb hml hown hts hK hN hL hP hS (cX3_addOut_ l bs D y hcb n x1 r5.2.1 r5.2.2 r42 er42) ok_X3_addOut ov_X3_addOut ml_80 ⟨Nat.le_of_ble_eq_true rfl, Nat.le_of_ble_eq_true rfl⟩ rfl hcb kd_1 hl.1 rfl rfl (Nat.le_of_ble_eq_true rfl) ⟨Nat.zero_le _, Nat.zero_le _⟩ dX9_out_42 (fun H locs hP hS => ?_)
      refine lv_aload_n hx hb dX9_out_45 rfl (lv_at hl 0 rfl) ?_
      obtain ⟨r46, er46, h⟩ := bd_s1 h
      refine c_VV (k := 0) (ci := 9) (As := []) (rest := []) hx hb hml hown hts hK hN hL hP hS (cX9_forgetTables_ l bs D y hcb n  r42.1 r42.2 r46 er46) ok_X9_forgetTables ov_X9_forgetTables ml_74 ⟨Nat.le_of_ble_eq_true rfl, Nat.le_of_ble_eq_true rfl⟩ rfl hcb kd_0 hl.1 rfl rfl (Nat.le_of_ble_eq_true rfl) ⟨Nat.zero_le _, Nat.zero_le _⟩ dX9_out_46 (fun H locs hP hS => ?_)
      refine lv_aload_n hx hb dX9_out_49 rfl (lv_at hl 0 rfl) ?_
      refine g_R (C := RX9) (T := TX9) (N := 10) (ci := 9) 0 0 1 hx hb hts hown hK hP in_X9 rfl hcb okF_0_0 rfc_0_0 fl_106 dX9_out_50 ?_
      refine g_I (C := RX3) (T := TX3) (N := 11) (ci := 3) 1 8 hx hb hts hown hK hP in_X3 rfl hcb okF_1_8 fl_113 dX9_out_53 ?_
      exact r_I hx hb hr hlocks hP hK hN hL hS h dX9_out_56
    · replace h := if_f c27 h
      refine lv_aload_n hx hb dX9_out_30 rfl (lv_at hl 0 rfl) ?_
      refine lv_bipush (v := (-8 : Int32)) hx hb dX9_out_31 (by decide) ?_
      obtain ⟨r33, er33, h⟩ := bd_s1 h
      refine c_VI (k := 0) (ci := 9) (As := [.int (-8 : Int32)]) (rest := []) hx hb hml hown hts hK hN hL hP hS (cX9_refuse_ l bs D y hcb n (-8 : Int32) r5.2.1 r5.2.2 r33 er33) ok_X9_refuse ov_X9_refuse ml_71 ⟨Nat.le_of_ble_eq_true rfl, Nat.le_of_ble_eq_true rfl⟩ rfl hcb kd_0 hl.1 rfl rfl (Nat.le_of_ble_eq_true rfl) ⟨Nat.zero_le _, Nat.zero_le _⟩ dX9_out_33 (fun H locs hP hS => ?_)
      exact r_I hx hb hr hlocks hP hK hN hL hS h dX9_out_36
  · replace h := if_t c8 h
    refine lv_aload_n hx hb dX9_out_11 rfl (lv_at hl 0 rfl) ?_
    refine lv_bipush (v := (-3 : Int32)) hx hb dX9_out_12 (by decide) ?_
    obtain ⟨r14, er14, h⟩ := bd_s1 h
    refine c_VI (k := 0) (ci := 9) (As := [.int (-3 : Int32)]) (rest := []) hx hb hml hown hts hK hN hL hP hS (cX9_refuse_ l bs D y hcb n (-3 : Int32) r5.2.1 r5.2.2 r14 er14) ok_X9_refuse ov_X9_refuse ml_71 ⟨Nat.le_of_ble_eq_true rfl, Nat.le_of_ble_eq_true rfl⟩ rfl hcb kd_0 hl.1 rfl rfl (Nat.le_of_ble_eq_true rfl) ⟨Nat.zero_le _, Nat.zero_le _⟩ dX9_out_14 (fun H locs hP hS => ?_)
    exact r_I hx hb hr hlocks hP hK hN hL hS h dX9_out_17
theorem dX9_cell_0 : decode cX9_cell 0 = .ok (.aload_n 0, 1) := by decide +kernel
theorem dX9_cell_1 : decode cX9_cell 1 = .ok (.getfield 12, 3) := by decide +kernel
theorem dX9_cell_4 : decode cX9_cell 4 = .ok (.iload_n 1, 1) := by decide +kernel
theorem dX9_cell_5 : decode cX9_cell 5 = .ok (.invokevirtual 124, 3) := by decide +kernel
theorem dX9_cell_8 : decode cX9_cell 8 = .ok (.ifCond .ne 10, 3) := by decide +kernel
theorem dX9_cell_11 : decode cX9_cell 11 = .ok (.aload_n 0, 1) := by decide +kernel
theorem dX9_cell_12 : decode cX9_cell 12 = .ok (.bipush (-3), 2) := by decide +kernel
theorem dX9_cell_14 : decode cX9_cell 14 = .ok (.invokevirtual 91, 3) := by decide +kernel
theorem dX9_cell_17 : decode cX9_cell 17 = .ok (.ireturn, 1) := by decide +kernel
theorem dX9_cell_18 : decode cX9_cell 18 = .ok (.iload_n 2, 1) := by decide +kernel
theorem dX9_cell_19 : decode cX9_cell 19 = .ok (.tableswitch 69 0 3 #[29, 39, 49, 59], 29) := by decide +kernel
theorem dX9_cell_48 : decode cX9_cell 48 = .ok (.aload_n 0, 1) := by decide +kernel
theorem dX9_cell_49 : decode cX9_cell 49 = .ok (.getfield 12, 3) := by decide +kernel
theorem dX9_cell_52 : decode cX9_cell 52 = .ok (.getfield 127, 3) := by decide +kernel
theorem dX9_cell_55 : decode cX9_cell 55 = .ok (.iload_n 1, 1) := by decide +kernel
theorem dX9_cell_56 : decode cX9_cell 56 = .ok (.iaload, 1) := by decide +kernel
theorem dX9_cell_57 : decode cX9_cell 57 = .ok (.ireturn, 1) := by decide +kernel
theorem dX9_cell_58 : decode cX9_cell 58 = .ok (.aload_n 0, 1) := by decide +kernel
theorem dX9_cell_59 : decode cX9_cell 59 = .ok (.getfield 12, 3) := by decide +kernel
theorem dX9_cell_62 : decode cX9_cell 62 = .ok (.getfield 130, 3) := by decide +kernel
theorem dX9_cell_65 : decode cX9_cell 65 = .ok (.iload_n 1, 1) := by decide +kernel
theorem dX9_cell_66 : decode cX9_cell 66 = .ok (.iaload, 1) := by decide +kernel
theorem dX9_cell_67 : decode cX9_cell 67 = .ok (.ireturn, 1) := by decide +kernel
theorem dX9_cell_68 : decode cX9_cell 68 = .ok (.aload_n 0, 1) := by decide +kernel
theorem dX9_cell_69 : decode cX9_cell 69 = .ok (.getfield 12, 3) := by decide +kernel
theorem dX9_cell_72 : decode cX9_cell 72 = .ok (.getfield 139, 3) := by decide +kernel
theorem dX9_cell_75 : decode cX9_cell 75 = .ok (.iload_n 1, 1) := by decide +kernel
theorem dX9_cell_76 : decode cX9_cell 76 = .ok (.iaload, 1) := by decide +kernel
theorem dX9_cell_77 : decode cX9_cell 77 = .ok (.ireturn, 1) := by decide +kernel
theorem dX9_cell_78 : decode cX9_cell 78 = .ok (.aload_n 0, 1) := by decide +kernel
theorem dX9_cell_79 : decode cX9_cell 79 = .ok (.getfield 12, 3) := by decide +kernel
theorem dX9_cell_82 : decode cX9_cell 82 = .ok (.getfield 142, 3) := by decide +kernel
theorem dX9_cell_85 : decode cX9_cell 85 = .ok (.iload_n 1, 1) := by decide +kernel
theorem dX9_cell_86 : decode cX9_cell 86 = .ok (.iaload, 1) := by decide +kernel
theorem dX9_cell_87 : decode cX9_cell 87 = .ok (.ireturn, 1) := by decide +kernel
theorem dX9_cell_88 : decode cX9_cell 88 = .ok (.aload_n 0, 1) := by decide +kernel
theorem dX9_cell_89 : decode cX9_cell 89 = .ok (.bipush (-7), 2) := by decide +kernel
theorem dX9_cell_91 : decode cX9_cell 91 = .ok (.invokevirtual 91, 3) := by decide +kernel
theorem dX9_cell_94 : decode cX9_cell 94 = .ok (.ireturn, 1) := by decide +kernel
set_option maxHeartbeats 4000000 in
set_option maxRecDepth 100000 in
theorem cX9_cell_ (l : Launch) (bs : Nat) (D : va_G) (y : Y3) (hcb : 44 ≤ y.2.2.2) (n : Nat) (x1 : Int32) (x2 : Int32) (I : MI) (J : MJ) (r : Int32 × M2) (h : fX9_cell n x1 x2 I J = some r) : Met l yX9_cell (.code yX9_cell cX9_cell 3 (some .int) :: gtb) (rmm 2 43) (va_Pc [.ref (bs + 0), .int x1, .int x2] (HB bs D y I J)) (QcI bs D y r) 0 0 (FA bs) := by
  refine Met.ofW (cc := cX9_cell) (maxL := 3) (ret := (some .int)) (by decide) rfl ?_
  intro p e s m args below meth c s₁ B hml hv
  obtain ⟨rfl, hP, hK, hN, hL⟩ := hv
  have hx := B.exec
  have hb := B.bytes
  have hr := B.returns
  have hts0 := atoms_spec (ws := .code yX9_cell cX9_cell 3 (some .int) :: gtb) B.pre
  have hts : ∀ w ∈ gtb, w.before [.ref (bs + 0), .int x1, .int x2].toArray s = true := fun w hw => hts0 w (List.mem_cons_of_mem _ hw)
  have hown : s.vm.findClass RX9 = some m.cls := findClass_of_methodNamed B.named
  have hlocks := B.notSynchronized
  have hS : va_S (FA bs) s.heap s.heap [] := va_S.rf
  have Gc : Gx p s m [.ref (bs + 0), .int x1, .int x2].toArray meth c cX9_cell 3 RX9 bs D y (some .int) 44 := ⟨hx, hb, hml, hown, hts, hK, hN, hL, hr, hlocks, hcb⟩
  have hl := lv_entry [.ref (bs + 0), .int x1, .int x2] (n := 3) (Nat.le_of_ble_eq_true rfl)
  rw [lg_entry_eq]
  generalize (lg_sl [.ref (bs + 0), .int x1, .int x2] ++ List.replicate (3 - (lg_sl [.ref (bs + 0), .int x1, .int x2]).length) Slot.unset).toArray = ls at hl ⊢
  have hl : lv_has ls 3 [(0, .ref (bs + 0)), (1, .int x1), (2, .int x2)] := hl
  change W p l e (rmm 2 43) s m [.ref (bs + 0), .int x1, .int x2].toArray below meth c s.heap [] 0 0 (QI below [.ref (bs + 0), .int x1, .int x2].toArray s bs D y r) (F0 m 0 ls [])
  unfold fX9_cell at h
  refine lv_aload_n hx hb dX9_cell_0 rfl (lv_at hl 0 rfl) ?_
  refine g_R (C := RX9) (T := TX9) (N := 10) (ci := 9) 0 0 1 hx hb hts hown hK hP in_X9 rfl hcb okF_0_0 rfc_0_0 fl_106 dX9_cell_1 ?_
  refine lv_iload_n hx hb dX9_cell_4 rfl (lv_at hl 1 rfl) ?_
  obtain ⟨r5, er5, h⟩ := bd_s1 h
  refine c_VI (k := 1) (ci := 3) (As := [.int x1]) (rest := []) hx hb hml hown hts hK hN hL hP hS (cX3_has_ l bs D y hcb n x1 I J r5 er5) ok_X3_has ov_X3_has ml_79 ⟨Nat.le_of_ble_eq_true rfl, Nat.le_of_ble_eq_true rfl⟩ rfl hcb kd_1 hl.1 rfl rfl (Nat.le_of_ble_eq_true rfl) ⟨Nat.zero_le _, Nat.zero_le _⟩ dX9_cell_5 (fun H locs hP hS => ?_)
  refine lv_if_ne (tgt := 18) hx hb dX9_cell_8 (by decide) (fun c8 => ?_) (fun c8 => ?_)
  · replace h := if_f c8 h
    refine lv_iload_n hx hb dX9_cell_18 rfl (lv_at hl 2 rfl) ?_
    by_cases w19_0 : x2 = (0 : Int32)
    · replace h := if_t w19_0 h
      refine lv_tableIn (off := 29) (tgt := 48) hx hb dX9_cell_19 (by rw [w19_0]; decide) (by rw [w19_0]; decide) (by rw [w19_0]; rfl) (by decide) ?_
      refine lv_aload_n hx hb dX9_cell_48 rfl (lv_at hl 0 rfl) ?_
      refine g_R (C := RX9) (T := TX9) (N := 10) (ci := 9) 0 0 1 hx hb hts hown hK hP in_X9 rfl hcb okF_0_0 rfc_0_0 fl_106 dX9_cell_49 ?_
      refine g_R (C := RX3) (T := TX3) (N := 11) (ci := 3) 1 0 2 hx hb hts hown hK hP in_X3 rfl hcb okF_1_0 rfc_1_0 fl_111 dX9_cell_52 ?_
      refine lv_iload_n hx hb dX9_cell_55 rfl (lv_at hl 1 rfl) ?_
      obtain ⟨hi56, h⟩ := if_s1 h
      refine a_I 2 hx hb hK hP hcb aln_2 hi56 dX9_cell_56 ?_
      exact r_I hx hb hr hlocks hP hK hN hL hS h dX9_cell_57
    · replace h := if_f w19_0 h
      by_cases w19_1 : x2 = (1 : Int32)
      · replace h := if_t w19_1 h
        refine lv_tableIn (off := 39) (tgt := 58) hx hb dX9_cell_19 (by rw [w19_1]; decide) (by rw [w19_1]; decide) (by rw [w19_1]; rfl) (by decide) ?_
        refine lv_aload_n hx hb dX9_cell_58 rfl (lv_at hl 0 rfl) ?_
        refine g_R (C := RX9) (T := TX9) (N := 10) (ci := 9) 0 0 1 hx hb hts hown hK hP in_X9 rfl hcb okF_0_0 rfc_0_0 fl_106 dX9_cell_59 ?_
        refine g_R (C := RX3) (T := TX3) (N := 11) (ci := 3) 1 1 3 hx hb hts hown hK hP in_X3 rfl hcb okF_1_1 rfc_1_1 fl_112 dX9_cell_62 ?_
        refine lv_iload_n hx hb dX9_cell_65 rfl (lv_at hl 1 rfl) ?_
        obtain ⟨hi66, h⟩ := if_s1 h
        refine a_I 3 hx hb hK hP hcb aln_3 hi66 dX9_cell_66 ?_
        exact r_I hx hb hr hlocks hP hK hN hL hS h dX9_cell_67
      · replace h := if_f w19_1 h
        by_cases w19_2 : x2 = (2 : Int32)
        · replace h := if_t w19_2 h
          refine lv_tableIn (off := 49) (tgt := 68) hx hb dX9_cell_19 (by rw [w19_2]; decide) (by rw [w19_2]; decide) (by rw [w19_2]; rfl) (by decide) ?_
          refine lv_aload_n hx hb dX9_cell_68 rfl (lv_at hl 0 rfl) ?_
          refine g_R (C := RX9) (T := TX9) (N := 10) (ci := 9) 0 0 1 hx hb hts hown hK hP in_X9 rfl hcb okF_0_0 rfc_0_0 fl_106 dX9_cell_69 ?_
          refine g_R (C := RX3) (T := TX3) (N := 11) (ci := 3) 1 2 4 hx hb hts hown hK hP in_X3 rfl hcb okF_1_2 rfc_1_2 fl_114 dX9_cell_72 ?_
          refine lv_iload_n hx hb dX9_cell_75 rfl (lv_at hl 1 rfl) ?_
          obtain ⟨hi76, h⟩ := if_s1 h
          refine a_I 4 hx hb hK hP hcb aln_4 hi76 dX9_cell_76 ?_
          exact r_I hx hb hr hlocks hP hK hN hL hS h dX9_cell_77
        · replace h := if_f w19_2 h
          by_cases w19_3 : x2 = (3 : Int32)
          · replace h := if_t w19_3 h
            refine lv_tableIn (off := 59) (tgt := 78) hx hb dX9_cell_19 (by rw [w19_3]; decide) (by rw [w19_3]; decide) (by rw [w19_3]; rfl) (by decide) ?_
            refine lv_aload_n hx hb dX9_cell_78 rfl (lv_at hl 0 rfl) ?_
            refine g_R (C := RX9) (T := TX9) (N := 10) (ci := 9) 0 0 1 hx hb hts hown hK hP in_X9 rfl hcb okF_0_0 rfc_0_0 fl_106 dX9_cell_79 ?_
            refine g_R (C := RX3) (T := TX3) (N := 11) (ci := 3) 1 3 5 hx hb hts hown hK hP in_X3 rfl hcb okF_1_3 rfc_1_3 fl_115 dX9_cell_82 ?_
            refine lv_iload_n hx hb dX9_cell_85 rfl (lv_at hl 1 rfl) ?_
            obtain ⟨hi86, h⟩ := if_s1 h
            refine a_I 5 hx hb hK hP hcb aln_5 hi86 dX9_cell_86 ?_
            exact r_I hx hb hr hlocks hP hK hN hL hS h dX9_cell_87
          · replace h := if_f w19_3 h
            refine lv_tableOut (tgt := 88) hx hb dX9_cell_19 (by have z0 := sw_ne w19_0; have z1 := sw_ne w19_1; have z2 := sw_ne w19_2; have z3 := sw_ne w19_3; simp only [Int32.reduceToInt] at z0 z1 z2 z3; omega) (by decide) ?_
            refine lv_aload_n hx hb dX9_cell_88 rfl (lv_at hl 0 rfl) ?_
            refine lv_bipush (v := (-7 : Int32)) hx hb dX9_cell_89 (by decide) ?_
            obtain ⟨r91, er91, h⟩ := bd_s1 h
            refine c_VI (k := 0) (ci := 9) (As := [.int (-7 : Int32)]) (rest := []) hx hb hml hown hts hK hN hL hP hS (cX9_refuse_ l bs D y hcb n (-7 : Int32) r5.2.1 r5.2.2 r91 er91) ok_X9_refuse ov_X9_refuse ml_71 ⟨Nat.le_of_ble_eq_true rfl, Nat.le_of_ble_eq_true rfl⟩ rfl hcb kd_0 hl.1 rfl rfl (Nat.le_of_ble_eq_true rfl) ⟨Nat.zero_le _, Nat.zero_le _⟩ dX9_cell_91 (fun H locs hP hS => ?_)
            exact r_I hx hb hr hlocks hP hK hN hL hS h dX9_cell_94
  · replace h := if_t c8 h
    refine lv_aload_n hx hb dX9_cell_11 rfl (lv_at hl 0 rfl) ?_
    refine lv_bipush (v := (-3 : Int32)) hx hb dX9_cell_12 (by decide) ?_
    obtain ⟨r14, er14, h⟩ := bd_s1 h
    refine c_VI (k := 0) (ci := 9) (As := [.int (-3 : Int32)]) (rest := []) hx hb hml hown hts hK hN hL hP hS (cX9_refuse_ l bs D y hcb n (-3 : Int32) r5.2.1 r5.2.2 r14 er14) ok_X9_refuse ov_X9_refuse ml_71 ⟨Nat.le_of_ble_eq_true rfl, Nat.le_of_ble_eq_true rfl⟩ rfl hcb kd_0 hl.1 rfl rfl (Nat.le_of_ble_eq_true rfl) ⟨Nat.zero_le _, Nat.zero_le _⟩ dX9_cell_14 (fun H locs hP hS => ?_)
    exact r_I hx hb hr hlocks hP hK hN hL hS h dX9_cell_17
theorem dX9_wrongGate_0 : decode cX9_wrongGate 0 = .ok (.aload_n 0, 1) := by decide +kernel
theorem dX9_wrongGate_1 : decode cX9_wrongGate 1 = .ok (.getfield 12, 3) := by decide +kernel
theorem dX9_wrongGate_4 : decode cX9_wrongGate 4 = .ok (.iload_n 1, 1) := by decide +kernel
theorem dX9_wrongGate_5 : decode cX9_wrongGate 5 = .ok (.invokevirtual 124, 3) := by decide +kernel
theorem dX9_wrongGate_8 : decode cX9_wrongGate 8 = .ok (.ifCond .ne 6, 3) := by decide +kernel
theorem dX9_wrongGate_11 : decode cX9_wrongGate 11 = .ok (.bipush (-3), 2) := by decide +kernel
theorem dX9_wrongGate_13 : decode cX9_wrongGate 13 = .ok (.ireturn, 1) := by decide +kernel
theorem dX9_wrongGate_14 : decode cX9_wrongGate 14 = .ok (.aload_n 0, 1) := by decide +kernel
theorem dX9_wrongGate_15 : decode cX9_wrongGate 15 = .ok (.getfield 12, 3) := by decide +kernel
theorem dX9_wrongGate_18 : decode cX9_wrongGate 18 = .ok (.getfield 127, 3) := by decide +kernel
theorem dX9_wrongGate_21 : decode cX9_wrongGate 21 = .ok (.iload_n 1, 1) := by decide +kernel
theorem dX9_wrongGate_22 : decode cX9_wrongGate 22 = .ok (.iaload, 1) := by decide +kernel
theorem dX9_wrongGate_23 : decode cX9_wrongGate 23 = .ok (.iconst 2, 1) := by decide +kernel
theorem dX9_wrongGate_24 : decode cX9_wrongGate 24 = .ok (.if_icmp .ne 7, 3) := by decide +kernel
theorem dX9_wrongGate_27 : decode cX9_wrongGate 27 = .ok (.iconst 0, 1) := by decide +kernel
theorem dX9_wrongGate_28 : decode cX9_wrongGate 28 = .ok (.goto 5, 3) := by decide +kernel
theorem dX9_wrongGate_31 : decode cX9_wrongGate 31 = .ok (.bipush (-5), 2) := by decide +kernel
theorem dX9_wrongGate_33 : decode cX9_wrongGate 33 = .ok (.ireturn, 1) := by decide +kernel
set_option maxHeartbeats 4000000 in
set_option maxRecDepth 100000 in
theorem cX9_wrongGate_ (l : Launch) (bs : Nat) (D : va_G) (y : Y3) (hcb : 44 ≤ y.2.2.2) (n : Nat) (x1 : Int32) (I : MI) (J : MJ) (r : Int32 × M2) (h : fX9_wrongGate n x1 I J = some r) : Met l yX9_wrongGate (.code yX9_wrongGate cX9_wrongGate 2 (some .int) :: gtb) (rmm 1 21) (va_Pc [.ref (bs + 0), .int x1] (HB bs D y I J)) (QcI bs D y r) 0 0 (FA bs) := by
  refine Met.ofW (cc := cX9_wrongGate) (maxL := 2) (ret := (some .int)) (by decide) rfl ?_
  intro p e s m args below meth c s₁ B hml hv
  obtain ⟨rfl, hP, hK, hN, hL⟩ := hv
  have hx := B.exec
  have hb := B.bytes
  have hr := B.returns
  have hts0 := atoms_spec (ws := .code yX9_wrongGate cX9_wrongGate 2 (some .int) :: gtb) B.pre
  have hts : ∀ w ∈ gtb, w.before [.ref (bs + 0), .int x1].toArray s = true := fun w hw => hts0 w (List.mem_cons_of_mem _ hw)
  have hown : s.vm.findClass RX9 = some m.cls := findClass_of_methodNamed B.named
  have hlocks := B.notSynchronized
  have hS : va_S (FA bs) s.heap s.heap [] := va_S.rf
  have Gc : Gx p s m [.ref (bs + 0), .int x1].toArray meth c cX9_wrongGate 2 RX9 bs D y (some .int) 44 := ⟨hx, hb, hml, hown, hts, hK, hN, hL, hr, hlocks, hcb⟩
  have hl := lv_entry [.ref (bs + 0), .int x1] (n := 2) (Nat.le_of_ble_eq_true rfl)
  rw [lg_entry_eq]
  generalize (lg_sl [.ref (bs + 0), .int x1] ++ List.replicate (2 - (lg_sl [.ref (bs + 0), .int x1]).length) Slot.unset).toArray = ls at hl ⊢
  have hl : lv_has ls 2 [(0, .ref (bs + 0)), (1, .int x1)] := hl
  change W p l e (rmm 1 21) s m [.ref (bs + 0), .int x1].toArray below meth c s.heap [] 0 0 (QI below [.ref (bs + 0), .int x1].toArray s bs D y r) (F0 m 0 ls [])
  unfold fX9_wrongGate at h
  refine lv_aload_n hx hb dX9_wrongGate_0 rfl (lv_at hl 0 rfl) ?_
  refine g_R (C := RX9) (T := TX9) (N := 10) (ci := 9) 0 0 1 hx hb hts hown hK hP in_X9 rfl hcb okF_0_0 rfc_0_0 fl_106 dX9_wrongGate_1 ?_
  refine lv_iload_n hx hb dX9_wrongGate_4 rfl (lv_at hl 1 rfl) ?_
  obtain ⟨r5, er5, h⟩ := bd_s1 h
  refine c_VI (k := 1) (ci := 3) (As := [.int x1]) (rest := []) hx hb hml hown hts hK hN hL hP hS (cX3_has_ l bs D y hcb n x1 I J r5 er5) ok_X3_has ov_X3_has ml_79 ⟨Nat.le_of_ble_eq_true rfl, Nat.le_of_ble_eq_true rfl⟩ rfl hcb kd_1 hl.1 rfl rfl (Nat.le_of_ble_eq_true rfl) ⟨Nat.zero_le _, Nat.zero_le _⟩ dX9_wrongGate_5 (fun H locs hP hS => ?_)
  refine lv_if_ne (tgt := 14) hx hb dX9_wrongGate_8 (by decide) (fun c8 => ?_) (fun c8 => ?_)
  · replace h := if_f c8 h
    refine lv_aload_n hx hb dX9_wrongGate_14 rfl (lv_at hl 0 rfl) ?_
    refine g_R (C := RX9) (T := TX9) (N := 10) (ci := 9) 0 0 1 hx hb hts hown hK hP in_X9 rfl hcb okF_0_0 rfc_0_0 fl_106 dX9_wrongGate_15 ?_
    refine g_R (C := RX3) (T := TX3) (N := 11) (ci := 3) 1 0 2 hx hb hts hown hK hP in_X3 rfl hcb okF_1_0 rfc_1_0 fl_111 dX9_wrongGate_18 ?_
    refine lv_iload_n hx hb dX9_wrongGate_21 rfl (lv_at hl 1 rfl) ?_
    obtain ⟨hi22, h⟩ := if_s1 h
    refine a_I 2 hx hb hK hP hcb aln_2 hi22 dX9_wrongGate_22 ?_
    refine lv_iconst (v := (2 : Int32)) hx hb dX9_wrongGate_23 (by decide) ?_
    refine lv_icmp_ne (tgt := 31) hx hb dX9_wrongGate_24 (by decide) (fun c24 => ?_) (fun c24 => ?_)
    · replace h := if_f c24 h
      refine lv_bipush (v := (-5 : Int32)) hx hb dX9_wrongGate_31 (by decide) ?_
      exact r_I hx hb hr hlocks hP hK hN hL hS h dX9_wrongGate_33
    · replace h := if_t c24 h
      refine lv_iconst (v := (0 : Int32)) hx hb dX9_wrongGate_27 (by decide) ?_
      refine lv_goto (tgt := 33) hx hb dX9_wrongGate_28 (by decide) ?_
      exact r_I hx hb hr hlocks hP hK hN hL hS h dX9_wrongGate_33
  · replace h := if_t c8 h
    refine lv_bipush (v := (-3 : Int32)) hx hb dX9_wrongGate_11 (by decide) ?_
    exact r_I hx hb hr hlocks hP hK hN hL hS h dX9_wrongGate_13
theorem dX9_cuts_0 : decode cX9_cuts 0 = .ok (.aload_n 0, 1) := by decide +kernel
theorem dX9_cuts_1 : decode cX9_cuts 1 = .ok (.iload_n 1, 1) := by decide +kernel
theorem dX9_cuts_2 : decode cX9_cuts 2 = .ok (.invokevirtual 145, 3) := by decide +kernel
theorem dX9_cuts_5 : decode cX9_cuts 5 = .ok (.istore_n 2, 1) := by decide +kernel
theorem dX9_cuts_6 : decode cX9_cuts 6 = .ok (.iload_n 2, 1) := by decide +kernel
theorem dX9_cuts_7 : decode cX9_cuts 7 = .ok (.ifCond .eq 11, 3) := by decide +kernel
theorem dX9_cuts_10 : decode cX9_cuts 10 = .ok (.aload_n 0, 1) := by decide +kernel
theorem dX9_cuts_11 : decode cX9_cuts 11 = .ok (.iload_n 2, 1) := by decide +kernel
theorem dX9_cuts_12 : decode cX9_cuts 12 = .ok (.invokevirtual 91, 3) := by decide +kernel
theorem dX9_cuts_15 : decode cX9_cuts 15 = .ok (.goto 12, 3) := by decide +kernel
theorem dX9_cuts_18 : decode cX9_cuts 18 = .ok (.aload_n 0, 1) := by decide +kernel
theorem dX9_cuts_19 : decode cX9_cuts 19 = .ok (.getfield 19, 3) := by decide +kernel
theorem dX9_cuts_22 : decode cX9_cuts 22 = .ok (.getfield 148, 3) := by decide +kernel
theorem dX9_cuts_25 : decode cX9_cuts 25 = .ok (.iload_n 1, 1) := by decide +kernel
theorem dX9_cuts_26 : decode cX9_cuts 26 = .ok (.iaload, 1) := by decide +kernel
theorem dX9_cuts_27 : decode cX9_cuts 27 = .ok (.ireturn, 1) := by decide +kernel
set_option maxHeartbeats 4000000 in
set_option maxRecDepth 100000 in
theorem cX9_cuts_ (l : Launch) (bs : Nat) (D : va_G) (y : Y3) (hcb : 44 ≤ y.2.2.2) (n : Nat) (x1 : Int32) (I : MI) (J : MJ) (r : Int32 × M2) (h : fX9_cuts n x1 I J = some r) : Met l yX9_cuts (.code yX9_cuts cX9_cuts 3 (some .int) :: gtb) (rmm 2 43) (va_Pc [.ref (bs + 0), .int x1] (HB bs D y I J)) (QcI bs D y r) 0 0 (FA bs) := by
  refine Met.ofW (cc := cX9_cuts) (maxL := 3) (ret := (some .int)) (by decide) rfl ?_
  intro p e s m args below meth c s₁ B hml hv
  obtain ⟨rfl, hP, hK, hN, hL⟩ := hv
  have hx := B.exec
  have hb := B.bytes
  have hr := B.returns
  have hts0 := atoms_spec (ws := .code yX9_cuts cX9_cuts 3 (some .int) :: gtb) B.pre
  have hts : ∀ w ∈ gtb, w.before [.ref (bs + 0), .int x1].toArray s = true := fun w hw => hts0 w (List.mem_cons_of_mem _ hw)
  have hown : s.vm.findClass RX9 = some m.cls := findClass_of_methodNamed B.named
  have hlocks := B.notSynchronized
  have hS : va_S (FA bs) s.heap s.heap [] := va_S.rf
  have Gc : Gx p s m [.ref (bs + 0), .int x1].toArray meth c cX9_cuts 3 RX9 bs D y (some .int) 44 := ⟨hx, hb, hml, hown, hts, hK, hN, hL, hr, hlocks, hcb⟩
  have hl := lv_entry [.ref (bs + 0), .int x1] (n := 3) (Nat.le_of_ble_eq_true rfl)
  rw [lg_entry_eq]
  generalize (lg_sl [.ref (bs + 0), .int x1] ++ List.replicate (3 - (lg_sl [.ref (bs + 0), .int x1]).length) Slot.unset).toArray = ls at hl ⊢
  have hl : lv_has ls 3 [(0, .ref (bs + 0)), (1, .int x1)] := hl
  change W p l e (rmm 2 43) s m [.ref (bs + 0), .int x1].toArray below meth c s.heap [] 0 0 (QI below [.ref (bs + 0), .int x1].toArray s bs D y r) (F0 m 0 ls [])
  unfold fX9_cuts at h
  refine lv_aload_n hx hb dX9_cuts_0 rfl (lv_at hl 0 rfl) ?_
  refine lv_iload_n hx hb dX9_cuts_1 rfl (lv_at hl 1 rfl) ?_
  obtain ⟨r2, er2, h⟩ := bd_s1 h
  refine c_VI (k := 0) (ci := 9) (As := [.int x1]) (rest := []) hx hb hml hown hts hK hN hL hP hS (cX9_wrongGate_ l bs D y hcb n x1 I J r2 er2) ok_X9_wrongGate ov_X9_wrongGate ml_81 ⟨Nat.le_of_ble_eq_true rfl, Nat.le_of_ble_eq_true rfl⟩ rfl hcb kd_0 hl.1 rfl rfl (Nat.le_of_ble_eq_true rfl) ⟨Nat.zero_le _, Nat.zero_le _⟩ dX9_cuts_2 (fun H locs hP hS => ?_)
  obtain ⟨v5, ev5, h⟩ := lt_s1 h
  refine top_i ev5 ?_
  refine lv_istore_n (lv' := [(2, .int v5), (0, .ref (bs + 0)), (1, .int x1)]) hx hb dX9_cuts_5 rfl hl (by decide) rfl (fun ls hl => ?_)
  refine lv_iload_n hx hb dX9_cuts_6 rfl (lv_at hl 0 rfl) ?_
  refine lv_if_eq (tgt := 18) hx hb dX9_cuts_7 (by decide) (fun c7 => ?_) (fun c7 => ?_)
  · replace h := if_t c7 h
    refine lv_aload_n hx hb dX9_cuts_18 rfl (lv_at hl 1 rfl) ?_
    refine g_R (C := RX9) (T := TX9) (N := 10) (ci := 9) 0 1 7 hx hb hts hown hK hP in_X9 rfl hcb okF_0_1 rfc_0_1 fl_109 dX9_cuts_19 ?_
    refine g_R (C := RX0) (T := TX0) (N := 3) (ci := 0) 7 0 8 hx hb hts hown hK hP in_X0 rfl hcb okF_7_0 rfc_7_0 fl_116 dX9_cuts_22 ?_
    refine lv_iload_n hx hb dX9_cuts_25 rfl (lv_at hl 2 rfl) ?_
    obtain ⟨hi26, h⟩ := if_s1 h
    refine a_I 8 hx hb hK hP hcb aln_8 hi26 dX9_cuts_26 ?_
    exact r_I hx hb hr hlocks hP hK hN hL hS h dX9_cuts_27
  · replace h := if_f c7 h
    refine lv_aload_n hx hb dX9_cuts_10 rfl (lv_at hl 1 rfl) ?_
    refine lv_iload_n hx hb dX9_cuts_11 rfl (lv_at hl 0 rfl) ?_
    obtain ⟨r12, er12, h⟩ := bd_s1 h
    refine c_VI (k := 0) (ci := 9) (As := [.int v5]) (rest := []) hx hb hml hown hts hK hN hL hP hS (cX9_refuse_ l bs D y hcb n v5 r2.2.1 r2.2.2 r12 er12) ok_X9_refuse ov_X9_refuse ml_71 ⟨Nat.le_of_ble_eq_true rfl, Nat.le_of_ble_eq_true rfl⟩ rfl hcb kd_0 hl.1 rfl rfl (Nat.le_of_ble_eq_true rfl) ⟨Nat.zero_le _, Nat.zero_le _⟩ dX9_cuts_12 (fun H locs hP hS => ?_)
    refine lv_goto (tgt := 27) hx hb dX9_cuts_15 (by decide) ?_
    exact r_I hx hb hr hlocks hP hK hN hL hS h dX9_cuts_27
theorem dX9_cut_0 : decode cX9_cut 0 = .ok (.aload_n 0, 1) := by decide +kernel
theorem dX9_cut_1 : decode cX9_cut 1 = .ok (.iload_n 1, 1) := by decide +kernel
theorem dX9_cut_2 : decode cX9_cut 2 = .ok (.invokevirtual 145, 3) := by decide +kernel
theorem dX9_cut_5 : decode cX9_cut 5 = .ok (.istore_n 3, 1) := by decide +kernel
theorem dX9_cut_6 : decode cX9_cut 6 = .ok (.iload_n 3, 1) := by decide +kernel
theorem dX9_cut_7 : decode cX9_cut 7 = .ok (.ifCond .ne 23, 3) := by decide +kernel
theorem dX9_cut_10 : decode cX9_cut 10 = .ok (.iload_n 2, 1) := by decide +kernel
theorem dX9_cut_11 : decode cX9_cut 11 = .ok (.ifCond .lt 16, 3) := by decide +kernel
theorem dX9_cut_14 : decode cX9_cut 14 = .ok (.iload_n 2, 1) := by decide +kernel
theorem dX9_cut_15 : decode cX9_cut 15 = .ok (.aload_n 0, 1) := by decide +kernel
theorem dX9_cut_16 : decode cX9_cut 16 = .ok (.getfield 19, 3) := by decide +kernel
theorem dX9_cut_19 : decode cX9_cut 19 = .ok (.getfield 148, 3) := by decide +kernel
theorem dX9_cut_22 : decode cX9_cut 22 = .ok (.iload_n 1, 1) := by decide +kernel
theorem dX9_cut_23 : decode cX9_cut 23 = .ok (.iaload, 1) := by decide +kernel
theorem dX9_cut_24 : decode cX9_cut 24 = .ok (.if_icmp .lt 6, 3) := by decide +kernel
theorem dX9_cut_27 : decode cX9_cut 27 = .ok (.bipush (-3), 2) := by decide +kernel
theorem dX9_cut_29 : decode cX9_cut 29 = .ok (.istore_n 3, 1) := by decide +kernel
theorem dX9_cut_30 : decode cX9_cut 30 = .ok (.iload_n 3, 1) := by decide +kernel
theorem dX9_cut_31 : decode cX9_cut 31 = .ok (.ifCond .eq 11, 3) := by decide +kernel
theorem dX9_cut_34 : decode cX9_cut 34 = .ok (.aload_n 0, 1) := by decide +kernel
theorem dX9_cut_35 : decode cX9_cut 35 = .ok (.iload_n 3, 1) := by decide +kernel
theorem dX9_cut_36 : decode cX9_cut 36 = .ok (.invokevirtual 91, 3) := by decide +kernel
theorem dX9_cut_39 : decode cX9_cut 39 = .ok (.pop, 1) := by decide +kernel
theorem dX9_cut_40 : decode cX9_cut 40 = .ok (.iconst 0, 1) := by decide +kernel
theorem dX9_cut_41 : decode cX9_cut 41 = .ok (.ireturn, 1) := by decide +kernel
theorem dX9_cut_42 : decode cX9_cut 42 = .ok (.aload_n 0, 1) := by decide +kernel
theorem dX9_cut_43 : decode cX9_cut 43 = .ok (.getfield 19, 3) := by decide +kernel
theorem dX9_cut_46 : decode cX9_cut 46 = .ok (.iload_n 1, 1) := by decide +kernel
theorem dX9_cut_47 : decode cX9_cut 47 = .ok (.iload_n 2, 1) := by decide +kernel
theorem dX9_cut_48 : decode cX9_cut 48 = .ok (.invokevirtual 151, 3) := by decide +kernel
theorem dX9_cut_51 : decode cX9_cut 51 = .ok (.ireturn, 1) := by decide +kernel
set_option maxHeartbeats 4000000 in
set_option maxRecDepth 100000 in
theorem wX9_cut_30 {p : Program} {l : Launch} {e : Env} {s : State} {m : MethodId} {args : Array Value} {below : List Frame} {meth : Method} {c : Code} (bs : Nat) (D : va_G) (y : Y3) (n : Nat) (r : Int32 × M2) (Gc : Gx p s m args meth c cX9_cut 4 RX9 bs D y (some .int) 44)  (x1 : Int32) (x2 : Int32) (x3 : Int32) (I : MI) (J : MJ) (H : Heap) (locs : List Loc) (ls : Array Slot) (hP : va_P D vwCl (wl bs y I J) H) (hS : va_S (FA bs) s.heap H locs) (hl : lv_has ls 4 [(0, .ref (bs + 0)), (1, .int x1), (2, .int x2), (3, .int x3)]) (h : fX9_cut_30 n  x1 x2 x3 I J = some r) : W p l e (rmm 2 43) s m args below meth c H locs 0 0 (QI below args s bs D y r) (F0 m 30 ls []) := by
  obtain ⟨hx, hb, hml, hown, hts, hK, hN, hL, hr, hlocks, hcb⟩ := id Gc
  unfold fX9_cut_30 at h
  refine lv_iload_n hx hb dX9_cut_30 rfl (lv_at hl 3 rfl) ?_
  refine lv_if_eq (tgt := 42) hx hb dX9_cut_31 (by decide) (fun c31 => ?_) (fun c31 => ?_)
  · replace h := if_t c31 h
    refine lv_aload_n hx hb dX9_cut_42 rfl (lv_at hl 0 rfl) ?_
    refine g_R (C := RX9) (T := TX9) (N := 10) (ci := 9) 0 1 7 hx hb hts hown hK hP in_X9 rfl hcb okF_0_1 rfc_0_1 fl_109 dX9_cut_43 ?_
    refine lv_iload_n hx hb dX9_cut_46 rfl (lv_at hl 1 rfl) ?_
    refine lv_iload_n hx hb dX9_cut_47 rfl (lv_at hl 2 rfl) ?_
    obtain ⟨r48, er48, h⟩ := bd_s1 h
    refine c_VI (k := 7) (ci := 0) (As := [.int x1, .int x2]) (rest := []) hx hb hml hown hts hK hN hL hP hS (cX0_members_ l bs D y hcb n x1 x2 I J r48 er48) ok_X0_members ov_X0_members ml_82 ⟨Nat.le_of_ble_eq_true rfl, Nat.le_of_ble_eq_true rfl⟩ rfl hcb kd_7 hl.1 rfl rfl (Nat.le_of_ble_eq_true rfl) ⟨Nat.zero_le _, Nat.zero_le _⟩ dX9_cut_48 (fun H locs hP hS => ?_)
    exact r_I hx hb hr hlocks hP hK hN hL hS h dX9_cut_51
  · replace h := if_f c31 h
    refine lv_aload_n hx hb dX9_cut_34 rfl (lv_at hl 0 rfl) ?_
    refine lv_iload_n hx hb dX9_cut_35 rfl (lv_at hl 3 rfl) ?_
    obtain ⟨r36, er36, h⟩ := bd_s1 h
    refine c_VI (k := 0) (ci := 9) (As := [.int x3]) (rest := []) hx hb hml hown hts hK hN hL hP hS (cX9_refuse_ l bs D y hcb n x3 I J r36 er36) ok_X9_refuse ov_X9_refuse ml_71 ⟨Nat.le_of_ble_eq_true rfl, Nat.le_of_ble_eq_true rfl⟩ rfl hcb kd_0 hl.1 rfl rfl (Nat.le_of_ble_eq_true rfl) ⟨Nat.zero_le _, Nat.zero_le _⟩ dX9_cut_36 (fun H locs hP hS => ?_)
    refine lv_pop hx hb dX9_cut_39 rfl ?_
    refine lv_iconst (v := (0 : Int32)) hx hb dX9_cut_40 (by decide) ?_
    exact r_I hx hb hr hlocks hP hK hN hL hS h dX9_cut_41
set_option maxHeartbeats 4000000 in
set_option maxRecDepth 100000 in
theorem wX9_cut_27 {p : Program} {l : Launch} {e : Env} {s : State} {m : MethodId} {args : Array Value} {below : List Frame} {meth : Method} {c : Code} (bs : Nat) (D : va_G) (y : Y3) (n : Nat) (r : Int32 × M2) (Gc : Gx p s m args meth c cX9_cut 4 RX9 bs D y (some .int) 44)  (x1 : Int32) (x2 : Int32) (I : MI) (J : MJ) (H : Heap) (locs : List Loc) (ls : Array Slot) (hP : va_P D vwCl (wl bs y I J) H) (hS : va_S (FA bs) s.heap H locs) (hl : lv_has ls 4 [(0, .ref (bs + 0)), (1, .int x1), (2, .int x2)]) (h : fX9_cut_27 n  x1 x2 I J = some r) : W p l e (rmm 2 43) s m args below meth c H locs 0 0 (QI below args s bs D y r) (F0 m 27 ls []) := by
  obtain ⟨hx, hb, hml, hown, hts, hK, hN, hL, hr, hlocks, hcb⟩ := id Gc
  unfold fX9_cut_27 at h
  refine lv_bipush (v := (-3 : Int32)) hx hb dX9_cut_27 (by decide) ?_
  refine lv_istore_n (lv' := [(3, .int (-3 : Int32)), (0, .ref (bs + 0)), (1, .int x1), (2, .int x2)]) hx hb dX9_cut_29 rfl hl (by decide) rfl (fun ls hl => ?_)
  exact wX9_cut_30 bs D y n  r Gc  x1 x2 (-3 : Int32) I J _ _ _ hP hS (lv_sub hl [1, 2, 3, 0] rfl) h
set_option maxHeartbeats 4000000 in
set_option maxRecDepth 100000 in
theorem cX9_cut_ (l : Launch) (bs : Nat) (D : va_G) (y : Y3) (hcb : 44 ≤ y.2.2.2) (n : Nat) (x1 : Int32) (x2 : Int32) (I : MI) (J : MJ) (r : Int32 × M2) (h : fX9_cut n x1 x2 I J = some r) : Met l yX9_cut (.code yX9_cut cX9_cut 4 (some .int) :: gtb) (rmm 2 43) (va_Pc [.ref (bs + 0), .int x1, .int x2] (HB bs D y I J)) (QcI bs D y r) 0 0 (FA bs) := by
  refine Met.ofW (cc := cX9_cut) (maxL := 4) (ret := (some .int)) (by decide) rfl ?_
  intro p e s m args below meth c s₁ B hml hv
  obtain ⟨rfl, hP, hK, hN, hL⟩ := hv
  have hx := B.exec
  have hb := B.bytes
  have hr := B.returns
  have hts0 := atoms_spec (ws := .code yX9_cut cX9_cut 4 (some .int) :: gtb) B.pre
  have hts : ∀ w ∈ gtb, w.before [.ref (bs + 0), .int x1, .int x2].toArray s = true := fun w hw => hts0 w (List.mem_cons_of_mem _ hw)
  have hown : s.vm.findClass RX9 = some m.cls := findClass_of_methodNamed B.named
  have hlocks := B.notSynchronized
  have hS : va_S (FA bs) s.heap s.heap [] := va_S.rf
  have Gc : Gx p s m [.ref (bs + 0), .int x1, .int x2].toArray meth c cX9_cut 4 RX9 bs D y (some .int) 44 := ⟨hx, hb, hml, hown, hts, hK, hN, hL, hr, hlocks, hcb⟩
  have hl := lv_entry [.ref (bs + 0), .int x1, .int x2] (n := 4) (Nat.le_of_ble_eq_true rfl)
  rw [lg_entry_eq]
  generalize (lg_sl [.ref (bs + 0), .int x1, .int x2] ++ List.replicate (4 - (lg_sl [.ref (bs + 0), .int x1, .int x2]).length) Slot.unset).toArray = ls at hl ⊢
  have hl : lv_has ls 4 [(0, .ref (bs + 0)), (1, .int x1), (2, .int x2)] := hl
  change W p l e (rmm 2 43) s m [.ref (bs + 0), .int x1, .int x2].toArray below meth c s.heap [] 0 0 (QI below [.ref (bs + 0), .int x1, .int x2].toArray s bs D y r) (F0 m 0 ls [])
  unfold fX9_cut at h
  refine lv_aload_n hx hb dX9_cut_0 rfl (lv_at hl 0 rfl) ?_
  refine lv_iload_n hx hb dX9_cut_1 rfl (lv_at hl 1 rfl) ?_
  obtain ⟨r2, er2, h⟩ := bd_s1 h
  refine c_VI (k := 0) (ci := 9) (As := [.int x1]) (rest := []) hx hb hml hown hts hK hN hL hP hS (cX9_wrongGate_ l bs D y hcb n x1 I J r2 er2) ok_X9_wrongGate ov_X9_wrongGate ml_81 ⟨Nat.le_of_ble_eq_true rfl, Nat.le_of_ble_eq_true rfl⟩ rfl hcb kd_0 hl.1 rfl rfl (Nat.le_of_ble_eq_true rfl) ⟨Nat.zero_le _, Nat.zero_le _⟩ dX9_cut_2 (fun H locs hP hS => ?_)
  obtain ⟨v5, ev5, h⟩ := lt_s1 h
  refine top_i ev5 ?_
  refine lv_istore_n (lv' := [(3, .int v5), (0, .ref (bs + 0)), (1, .int x1), (2, .int x2)]) hx hb dX9_cut_5 rfl hl (by decide) rfl (fun ls hl => ?_)
  refine lv_iload_n hx hb dX9_cut_6 rfl (lv_at hl 0 rfl) ?_
  refine lv_if_ne (tgt := 30) hx hb dX9_cut_7 (by decide) (fun c7 => ?_) (fun c7 => ?_)
  · replace h := if_f c7 h
    exact wX9_cut_30 bs D y n  r Gc  x1 x2 v5 r2.2.1 r2.2.2 _ _ _ hP hS (lv_sub hl [1, 2, 3, 0] rfl) h
  · replace h := if_t c7 h
    refine lv_iload_n hx hb dX9_cut_10 rfl (lv_at hl 3 rfl) ?_
    refine lv_if_lt (tgt := 27) hx hb dX9_cut_11 (by decide) (fun c11 => ?_) (fun c11 => ?_)
    · replace h := if_t c11 h
      exact wX9_cut_27 bs D y n  r Gc  x1 x2 r2.2.1 r2.2.2 _ _ _ hP hS (lv_sub hl [1, 2, 3] rfl) h
    · replace h := if_f c11 h
      refine lv_iload_n hx hb dX9_cut_14 rfl (lv_at hl 3 rfl) ?_
      refine lv_aload_n hx hb dX9_cut_15 rfl (lv_at hl 1 rfl) ?_
      refine g_R (C := RX9) (T := TX9) (N := 10) (ci := 9) 0 1 7 hx hb hts hown hK hP in_X9 rfl hcb okF_0_1 rfc_0_1 fl_109 dX9_cut_16 ?_
      refine g_R (C := RX0) (T := TX0) (N := 3) (ci := 0) 7 0 8 hx hb hts hown hK hP in_X0 rfl hcb okF_7_0 rfc_7_0 fl_116 dX9_cut_19 ?_
      refine lv_iload_n hx hb dX9_cut_22 rfl (lv_at hl 2 rfl) ?_
      obtain ⟨hi23, h⟩ := if_s1 h
      refine a_I 8 hx hb hK hP hcb aln_8 hi23 dX9_cut_23 ?_
      refine lv_icmp_lt (tgt := 30) hx hb dX9_cut_24 (by decide) (fun c24 => ?_) (fun c24 => ?_)
      · replace h := if_t c24 h
        exact wX9_cut_30 bs D y n  r Gc  x1 x2 v5 r2.2.1 r2.2.2 _ _ _ hP hS (lv_sub hl [1, 2, 3, 0] rfl) h
      · replace h := if_f c24 h
        exact wX9_cut_27 bs D y n  r Gc  x1 x2 r2.2.1 r2.2.2 _ _ _ hP hS (lv_sub hl [1, 2, 3] rfl) h
theorem dX9_depth_0 : decode cX9_depth 0 = .ok (.aload_n 0, 1) := by decide +kernel
theorem dX9_depth_1 : decode cX9_depth 1 = .ok (.getfield 12, 3) := by decide +kernel
theorem dX9_depth_4 : decode cX9_depth 4 = .ok (.iload_n 1, 1) := by decide +kernel
theorem dX9_depth_5 : decode cX9_depth 5 = .ok (.invokevirtual 124, 3) := by decide +kernel
theorem dX9_depth_8 : decode cX9_depth 8 = .ok (.ifCond .eq 15, 3) := by decide +kernel
theorem dX9_depth_11 : decode cX9_depth 11 = .ok (.aload_n 0, 1) := by decide +kernel
theorem dX9_depth_12 : decode cX9_depth 12 = .ok (.getfield 19, 3) := by decide +kernel
theorem dX9_depth_15 : decode cX9_depth 15 = .ok (.getfield 155, 3) := by decide +kernel
theorem dX9_depth_18 : decode cX9_depth 18 = .ok (.iload_n 1, 1) := by decide +kernel
theorem dX9_depth_19 : decode cX9_depth 19 = .ok (.iaload, 1) := by decide +kernel
theorem dX9_depth_20 : decode cX9_depth 20 = .ok (.goto 9, 3) := by decide +kernel
theorem dX9_depth_23 : decode cX9_depth 23 = .ok (.aload_n 0, 1) := by decide +kernel
theorem dX9_depth_24 : decode cX9_depth 24 = .ok (.bipush (-3), 2) := by decide +kernel
theorem dX9_depth_26 : decode cX9_depth 26 = .ok (.invokevirtual 91, 3) := by decide +kernel
theorem dX9_depth_29 : decode cX9_depth 29 = .ok (.ireturn, 1) := by decide +kernel
set_option maxHeartbeats 4000000 in
set_option maxRecDepth 100000 in
theorem cX9_depth_ (l : Launch) (bs : Nat) (D : va_G) (y : Y3) (hcb : 44 ≤ y.2.2.2) (n : Nat) (x1 : Int32) (I : MI) (J : MJ) (r : Int32 × M2) (h : fX9_depth n x1 I J = some r) : Met l yX9_depth (.code yX9_depth cX9_depth 2 (some .int) :: gtb) (rmm 2 43) (va_Pc [.ref (bs + 0), .int x1] (HB bs D y I J)) (QcI bs D y r) 0 0 (FA bs) := by
  refine Met.ofW (cc := cX9_depth) (maxL := 2) (ret := (some .int)) (by decide) rfl ?_
  intro p e s m args below meth c s₁ B hml hv
  obtain ⟨rfl, hP, hK, hN, hL⟩ := hv
  have hx := B.exec
  have hb := B.bytes
  have hr := B.returns
  have hts0 := atoms_spec (ws := .code yX9_depth cX9_depth 2 (some .int) :: gtb) B.pre
  have hts : ∀ w ∈ gtb, w.before [.ref (bs + 0), .int x1].toArray s = true := fun w hw => hts0 w (List.mem_cons_of_mem _ hw)
  have hown : s.vm.findClass RX9 = some m.cls := findClass_of_methodNamed B.named
  have hlocks := B.notSynchronized
  have hS : va_S (FA bs) s.heap s.heap [] := va_S.rf
  have Gc : Gx p s m [.ref (bs + 0), .int x1].toArray meth c cX9_depth 2 RX9 bs D y (some .int) 44 := ⟨hx, hb, hml, hown, hts, hK, hN, hL, hr, hlocks, hcb⟩
  have hl := lv_entry [.ref (bs + 0), .int x1] (n := 2) (Nat.le_of_ble_eq_true rfl)
  rw [lg_entry_eq]
  generalize (lg_sl [.ref (bs + 0), .int x1] ++ List.replicate (2 - (lg_sl [.ref (bs + 0), .int x1]).length) Slot.unset).toArray = ls at hl ⊢
  have hl : lv_has ls 2 [(0, .ref (bs + 0)), (1, .int x1)] := hl
  change W p l e (rmm 2 43) s m [.ref (bs + 0), .int x1].toArray below meth c s.heap [] 0 0 (QI below [.ref (bs + 0), .int x1].toArray s bs D y r) (F0 m 0 ls [])
  unfold fX9_depth at h
  refine lv_aload_n hx hb dX9_depth_0 rfl (lv_at hl 0 rfl) ?_
  refine g_R (C := RX9) (T := TX9) (N := 10) (ci := 9) 0 0 1 hx hb hts hown hK hP in_X9 rfl hcb okF_0_0 rfc_0_0 fl_106 dX9_depth_1 ?_
  refine lv_iload_n hx hb dX9_depth_4 rfl (lv_at hl 1 rfl) ?_
  obtain ⟨r5, er5, h⟩ := bd_s1 h
  refine c_VI (k := 1) (ci := 3) (As := [.int x1]) (rest := []) hx hb hml hown hts hK hN hL hP hS (cX3_has_ l bs D y hcb n x1 I J r5 er5) ok_X3_has ov_X3_has ml_79 ⟨Nat.le_of_ble_eq_true rfl, Nat.le_of_ble_eq_true rfl⟩ rfl hcb kd_1 hl.1 rfl rfl (Nat.le_of_ble_eq_true rfl) ⟨Nat.zero_le _, Nat.zero_le _⟩ dX9_depth_5 (fun H locs hP hS => ?_)
  refine lv_if_eq (tgt := 23) hx hb dX9_depth_8 (by decide) (fun c8 => ?_) (fun c8 => ?_)
  · replace h := if_t c8 h
    refine lv_aload_n hx hb dX9_depth_23 rfl (lv_at hl 0 rfl) ?_
    refine lv_bipush (v := (-3 : Int32)) hx hb dX9_depth_24 (by decide) ?_
    obtain ⟨r26, er26, h⟩ := bd_s1 h
    refine c_VI (k := 0) (ci := 9) (As := [.int (-3 : Int32)]) (rest := []) hx hb hml hown hts hK hN hL hP hS (cX9_refuse_ l bs D y hcb n (-3 : Int32) r5.2.1 r5.2.2 r26 er26) ok_X9_refuse ov_X9_refuse ml_71 ⟨Nat.le_of_ble_eq_true rfl, Nat.le_of_ble_eq_true rfl⟩ rfl hcb kd_0 hl.1 rfl rfl (Nat.le_of_ble_eq_true rfl) ⟨Nat.zero_le _, Nat.zero_le _⟩ dX9_depth_26 (fun H locs hP hS => ?_)
    exact r_I hx hb hr hlocks hP hK hN hL hS h dX9_depth_29
  · replace h := if_f c8 h
    refine lv_aload_n hx hb dX9_depth_11 rfl (lv_at hl 0 rfl) ?_
    refine g_R (C := RX9) (T := TX9) (N := 10) (ci := 9) 0 1 7 hx hb hts hown hK hP in_X9 rfl hcb okF_0_1 rfc_0_1 fl_109 dX9_depth_12 ?_
    refine g_R (C := RX0) (T := TX0) (N := 3) (ci := 0) 7 1 9 hx hb hts hown hK hP in_X0 rfl hcb okF_7_1 rfc_7_1 fl_117 dX9_depth_15 ?_
    refine lv_iload_n hx hb dX9_depth_18 rfl (lv_at hl 1 rfl) ?_
    obtain ⟨hi19, h⟩ := if_s1 h
    refine a_I 9 hx hb hK hP hcb aln_9 hi19 dX9_depth_19 ?_
    refine lv_goto (tgt := 29) hx hb dX9_depth_20 (by decide) ?_
    exact r_I hx hb hr hlocks hP hK hN hL hS h dX9_depth_29
theorem dX9_tables_0 : decode cX9_tables 0 = .ok (.aload_n 0, 1) := by decide +kernel
theorem dX9_tables_1 : decode cX9_tables 1 = .ok (.getfield 26, 3) := by decide +kernel
theorem dX9_tables_4 : decode cX9_tables 4 = .ok (.aload_n 0, 1) := by decide +kernel
theorem dX9_tables_5 : decode cX9_tables 5 = .ok (.getfield 12, 3) := by decide +kernel
theorem dX9_tables_8 : decode cX9_tables 8 = .ok (.aload_n 0, 1) := by decide +kernel
theorem dX9_tables_9 : decode cX9_tables 9 = .ok (.getfield 19, 3) := by decide +kernel
theorem dX9_tables_12 : decode cX9_tables 12 = .ok (.invokevirtual 158, 3) := by decide +kernel
theorem dX9_tables_15 : decode cX9_tables 15 = .ok (.aload_n 0, 1) := by decide +kernel
theorem dX9_tables_16 : decode cX9_tables 16 = .ok (.getfield 26, 3) := by decide +kernel
theorem dX9_tables_19 : decode cX9_tables 19 = .ok (.getfield 162, 3) := by decide +kernel
theorem dX9_tables_22 : decode cX9_tables 22 = .ok (.ireturn, 1) := by decide +kernel
set_option maxHeartbeats 4000000 in
set_option maxRecDepth 100000 in
theorem cX9_tables_ (l : Launch) (bs : Nat) (D : va_G) (y : Y3) (hcb : 44 ≤ y.2.2.2) (n : Nat) (I : MI) (J : MJ) (r : Int32 × M2) (h : fX9_tables n  I J = some r) : Met l yX9_tables (.code yX9_tables cX9_tables 1 (some .int) :: gtb) (rmm 4 95) (va_Pc [.ref (bs + 0)] (HB bs D y I J)) (QcI bs D y r) 0 0 (FA bs) := by
  refine Met.ofW (cc := cX9_tables) (maxL := 1) (ret := (some .int)) (by decide) rfl ?_
  intro p e s m args below meth c s₁ B hml hv
  obtain ⟨rfl, hP, hK, hN, hL⟩ := hv
  have hx := B.exec
  have hb := B.bytes
  have hr := B.returns
  have hts0 := atoms_spec (ws := .code yX9_tables cX9_tables 1 (some .int) :: gtb) B.pre
  have hts : ∀ w ∈ gtb, w.before [.ref (bs + 0)].toArray s = true := fun w hw => hts0 w (List.mem_cons_of_mem _ hw)
  have hown : s.vm.findClass RX9 = some m.cls := findClass_of_methodNamed B.named
  have hlocks := B.notSynchronized
  have hS : va_S (FA bs) s.heap s.heap [] := va_S.rf
  have Gc : Gx p s m [.ref (bs + 0)].toArray meth c cX9_tables 1 RX9 bs D y (some .int) 44 := ⟨hx, hb, hml, hown, hts, hK, hN, hL, hr, hlocks, hcb⟩
  have hl := lv_entry [.ref (bs + 0)] (n := 1) (Nat.le_of_ble_eq_true rfl)
  rw [lg_entry_eq]
  generalize (lg_sl [.ref (bs + 0)] ++ List.replicate (1 - (lg_sl [.ref (bs + 0)]).length) Slot.unset).toArray = ls at hl ⊢
  have hl : lv_has ls 1 [(0, .ref (bs + 0))] := hl
  change W p l e (rmm 4 95) s m [.ref (bs + 0)].toArray below meth c s.heap [] 0 0 (QI below [.ref (bs + 0)].toArray s bs D y r) (F0 m 0 ls [])
  unfold fX9_tables at h
  refine lv_aload_n hx hb dX9_tables_0 rfl (lv_at hl 0 rfl) ?_
  refine g_R (C := RX9) (T := TX9) (N := 10) (ci := 9) 0 2 11 hx hb hts hown hK hP in_X9 rfl hcb okF_0_2 rfc_0_2 fl_103 dX9_tables_1 ?_
  refine lv_aload_n hx hb dX9_tables_4 rfl (lv_at hl 0 rfl) ?_
  refine g_R (C := RX9) (T := TX9) (N := 10) (ci := 9) 0 0 1 hx hb hts hown hK hP in_X9 rfl hcb okF_0_0 rfc_0_0 fl_106 dX9_tables_5 ?_
  refine lv_aload_n hx hb dX9_tables_8 rfl (lv_at hl 0 rfl) ?_
  refine g_R (C := RX9) (T := TX9) (N := 10) (ci := 9) 0 1 7 hx hb hts hown hK hP in_X9 rfl hcb okF_0_1 rfc_0_1 fl_109 dX9_tables_9 ?_
  obtain ⟨r12, er12, h⟩ := bd_s1 h
  refine c_VV (k := 11) (ci := 7) (As := [.ref (bs + 1), .ref (bs + 7)]) (rest := []) hx hb hml hown hts hK hN hL hP hS (cX7_find_ l bs D y hcb n  I J r12 er12) ok_X7_find ov_X7_find ml_83 ⟨Nat.le_of_ble_eq_true rfl, Nat.le_of_ble_eq_true rfl⟩ rfl hcb kd_11 hl.1 rfl rfl (Nat.le_of_ble_eq_true rfl) ⟨Nat.zero_le _, Nat.zero_le _⟩ dX9_tables_12 (fun H locs hP hS => ?_)
  refine lv_aload_n hx hb dX9_tables_15 rfl (lv_at hl 0 rfl) ?_
  refine g_R (C := RX9) (T := TX9) (N := 10) (ci := 9) 0 2 11 hx hb hts hown hK hP in_X9 rfl hcb okF_0_2 rfc_0_2 fl_103 dX9_tables_16 ?_
  refine g_I (C := RX7) (T := TX7) (N := 7) (ci := 7) 11 1 hx hb hts hown hK hP in_X7 rfl hcb okF_11_1 fl_118 dX9_tables_19 ?_
  exact r_I hx hb hr hlocks hP hK hN hL hS h dX9_tables_22
theorem dX9_table_0 : decode cX9_table 0 = .ok (.aload_n 0, 1) := by decide +kernel
theorem dX9_table_1 : decode cX9_table 1 = .ok (.iload_n 1, 1) := by decide +kernel
theorem dX9_table_2 : decode cX9_table 2 = .ok (.invokevirtual 145, 3) := by decide +kernel
theorem dX9_table_5 : decode cX9_table 5 = .ok (.istore_n 3, 1) := by decide +kernel
theorem dX9_table_6 : decode cX9_table 6 = .ok (.iload_n 3, 1) := by decide +kernel
theorem dX9_table_7 : decode cX9_table 7 = .ok (.ifCond .eq 9, 3) := by decide +kernel
theorem dX9_table_10 : decode cX9_table 10 = .ok (.aload_n 0, 1) := by decide +kernel
theorem dX9_table_11 : decode cX9_table 11 = .ok (.iload_n 3, 1) := by decide +kernel
theorem dX9_table_12 : decode cX9_table 12 = .ok (.invokevirtual 91, 3) := by decide +kernel
theorem dX9_table_15 : decode cX9_table 15 = .ok (.ireturn, 1) := by decide +kernel
theorem dX9_table_16 : decode cX9_table 16 = .ok (.aload_n 0, 1) := by decide +kernel
theorem dX9_table_17 : decode cX9_table 17 = .ok (.getfield 26, 3) := by decide +kernel
theorem dX9_table_20 : decode cX9_table 20 = .ok (.getfield 165, 3) := by decide +kernel
theorem dX9_table_23 : decode cX9_table 23 = .ok (.ifCond .eq 14, 3) := by decide +kernel
theorem dX9_table_26 : decode cX9_table 26 = .ok (.aload_n 0, 1) := by decide +kernel
theorem dX9_table_27 : decode cX9_table 27 = .ok (.getfield 26, 3) := by decide +kernel
theorem dX9_table_30 : decode cX9_table 30 = .ok (.iload_n 1, 1) := by decide +kernel
theorem dX9_table_31 : decode cX9_table 31 = .ok (.invokevirtual 169, 3) := by decide +kernel
theorem dX9_table_34 : decode cX9_table 34 = .ok (.ifCond .ne 10, 3) := by decide +kernel
theorem dX9_table_37 : decode cX9_table 37 = .ok (.aload_n 0, 1) := by decide +kernel
theorem dX9_table_38 : decode cX9_table 38 = .ok (.bipush (-2), 2) := by decide +kernel
theorem dX9_table_40 : decode cX9_table 40 = .ok (.invokevirtual 91, 3) := by decide +kernel
theorem dX9_table_43 : decode cX9_table 43 = .ok (.ireturn, 1) := by decide +kernel
theorem dX9_table_44 : decode cX9_table 44 = .ok (.iload_n 2, 1) := by decide +kernel
theorem dX9_table_45 : decode cX9_table 45 = .ok (.ifCond .lt 8, 3) := by decide +kernel
theorem dX9_table_48 : decode cX9_table 48 = .ok (.iload_n 2, 1) := by decide +kernel
theorem dX9_table_49 : decode cX9_table 49 = .ok (.iconst 5, 1) := by decide +kernel
theorem dX9_table_50 : decode cX9_table 50 = .ok (.if_icmp .le 10, 3) := by decide +kernel
theorem dX9_table_53 : decode cX9_table 53 = .ok (.aload_n 0, 1) := by decide +kernel
theorem dX9_table_54 : decode cX9_table 54 = .ok (.bipush (-7), 2) := by decide +kernel
theorem dX9_table_56 : decode cX9_table 56 = .ok (.invokevirtual 91, 3) := by decide +kernel
theorem dX9_table_59 : decode cX9_table 59 = .ok (.ireturn, 1) := by decide +kernel
theorem dX9_table_60 : decode cX9_table 60 = .ok (.iload_n 2, 1) := by decide +kernel
theorem dX9_table_61 : decode cX9_table 61 = .ok (.ifCond .ne 13, 3) := by decide +kernel
theorem dX9_table_64 : decode cX9_table 64 = .ok (.aload_n 0, 1) := by decide +kernel
theorem dX9_table_65 : decode cX9_table 65 = .ok (.getfield 26, 3) := by decide +kernel
theorem dX9_table_68 : decode cX9_table 68 = .ok (.getfield 172, 3) := by decide +kernel
theorem dX9_table_71 : decode cX9_table 71 = .ok (.iload_n 1, 1) := by decide +kernel
theorem dX9_table_72 : decode cX9_table 72 = .ok (.iaload, 1) := by decide +kernel
theorem dX9_table_73 : decode cX9_table 73 = .ok (.ireturn, 1) := by decide +kernel
theorem dX9_table_74 : decode cX9_table 74 = .ok (.iload_n 2, 1) := by decide +kernel
theorem dX9_table_75 : decode cX9_table 75 = .ok (.iconst 1, 1) := by decide +kernel
theorem dX9_table_76 : decode cX9_table 76 = .ok (.if_icmp .ne 15, 3) := by decide +kernel
theorem dX9_table_79 : decode cX9_table 79 = .ok (.aload_n 0, 1) := by decide +kernel
theorem dX9_table_80 : decode cX9_table 80 = .ok (.getfield 26, 3) := by decide +kernel
theorem dX9_table_83 : decode cX9_table 83 = .ok (.getfield 175, 3) := by decide +kernel
theorem dX9_table_86 : decode cX9_table 86 = .ok (.iload_n 1, 1) := by decide +kernel
theorem dX9_table_87 : decode cX9_table 87 = .ok (.iaload, 1) := by decide +kernel
theorem dX9_table_88 : decode cX9_table 88 = .ok (.goto 14, 3) := by decide +kernel
theorem dX9_table_91 : decode cX9_table 91 = .ok (.aload_n 0, 1) := by decide +kernel
theorem dX9_table_92 : decode cX9_table 92 = .ok (.getfield 26, 3) := by decide +kernel
theorem dX9_table_95 : decode cX9_table 95 = .ok (.iload_n 1, 1) := by decide +kernel
theorem dX9_table_96 : decode cX9_table 96 = .ok (.iload_n 2, 1) := by decide +kernel
theorem dX9_table_97 : decode cX9_table 97 = .ok (.iconst 2, 1) := by decide +kernel
theorem dX9_table_98 : decode cX9_table 98 = .ok (.isub, 1) := by decide +kernel
theorem dX9_table_99 : decode cX9_table 99 = .ok (.invokevirtual 178, 3) := by decide +kernel
theorem dX9_table_102 : decode cX9_table 102 = .ok (.ireturn, 1) := by decide +kernel
set_option maxHeartbeats 4000000 in
set_option maxRecDepth 100000 in
theorem wX9_table_53 {p : Program} {l : Launch} {e : Env} {s : State} {m : MethodId} {args : Array Value} {below : List Frame} {meth : Method} {c : Code} (bs : Nat) (D : va_G) (y : Y3) (n : Nat) (r : Int32 × M2) (Gc : Gx p s m args meth c cX9_table 4 RX9 bs D y (some .int) 44)  (I : MI) (J : MJ) (H : Heap) (locs : List Loc) (ls : Array Slot) (hP : va_P D vwCl (wl bs y I J) H) (hS : va_S (FA bs) s.heap H locs) (hl : lv_has ls 4 [(0, .ref (bs + 0))]) (h : fX9_table_53 n   I J = some r) : W p l e (rmm 2 43) s m args below meth c H locs 0 0 (QI below args s bs D y r) (F0 m 53 ls []) := by
  obtain ⟨hx, hb, hml, hown, hts, hK, hN, hL, hr, hlocks, hcb⟩ := id Gc
  unfold fX9_table_53 at h
  refine lv_aload_n hx hb dX9_table_53 rfl (lv_at hl 0 rfl) ?_
  refine lv_bipush (v := (-7 : Int32)) hx hb dX9_table_54 (by decide) ?_
  obtain ⟨r56, er56, h⟩ := bd_s1 h
  refine c_VI (k := 0) (ci := 9) (As := [.int (-7 : Int32)]) (rest := []) hx hb hml hown hts hK hN hL hP hS (cX9_refuse_ l bs D y hcb n (-7 : Int32) I J r56 er56) ok_X9_refuse ov_X9_refuse ml_71 ⟨Nat.le_of_ble_eq_true rfl, Nat.le_of_ble_eq_true rfl⟩ rfl hcb kd_0 hl.1 rfl rfl (Nat.le_of_ble_eq_true rfl) ⟨Nat.zero_le _, Nat.zero_le _⟩ dX9_table_56 (fun H locs hP hS => ?_)
  exact r_I hx hb hr hlocks hP hK hN hL hS h dX9_table_59
set_option maxHeartbeats 4000000 in
set_option maxRecDepth 100000 in
theorem wX9_table_37 {p : Program} {l : Launch} {e : Env} {s : State} {m : MethodId} {args : Array Value} {below : List Frame} {meth : Method} {c : Code} (bs : Nat) (D : va_G) (y : Y3) (n : Nat) (r : Int32 × M2) (Gc : Gx p s m args meth c cX9_table 4 RX9 bs D y (some .int) 44)  (I : MI) (J : MJ) (H : Heap) (locs : List Loc) (ls : Array Slot) (hP : va_P D vwCl (wl bs y I J) H) (hS : va_S (FA bs) s.heap H locs) (hl : lv_has ls 4 [(0, .ref (bs + 0))]) (h : fX9_table_37 n   I J = some r) : W p l e (rmm 2 43) s m args below meth c H locs 0 0 (QI below args s bs D y r) (F0 m 37 ls []) := by
  obtain ⟨hx, hb, hml, hown, hts, hK, hN, hL, hr, hlocks, hcb⟩ := id Gc
  unfold fX9_table_37 at h
  refine lv_aload_n hx hb dX9_table_37 rfl (lv_at hl 0 rfl) ?_
  refine lv_bipush (v := (-2 : Int32)) hx hb dX9_table_38 (by decide) ?_
  obtain ⟨r40, er40, h⟩ := bd_s1 h
  refine c_VI (k := 0) (ci := 9) (As := [.int (-2 : Int32)]) (rest := []) hx hb hml hown hts hK hN hL hP hS (cX9_refuse_ l bs D y hcb n (-2 : Int32) I J r40 er40) ok_X9_refuse ov_X9_refuse ml_71 ⟨Nat.le_of_ble_eq_true rfl, Nat.le_of_ble_eq_true rfl⟩ rfl hcb kd_0 hl.1 rfl rfl (Nat.le_of_ble_eq_true rfl) ⟨Nat.zero_le _, Nat.zero_le _⟩ dX9_table_40 (fun H locs hP hS => ?_)
  exact r_I hx hb hr hlocks hP hK hN hL hS h dX9_table_43
set_option maxHeartbeats 4000000 in
set_option maxRecDepth 100000 in
theorem cX9_table_ (l : Launch) (bs : Nat) (D : va_G) (y : Y3) (hcb : 44 ≤ y.2.2.2) (n : Nat) (x1 : Int32) (x2 : Int32) (I : MI) (J : MJ) (r : Int32 × M2) (h : fX9_table n x1 x2 I J = some r) : Met l yX9_table (.code yX9_table cX9_table 4 (some .int) :: gtb) (rmm 2 43) (va_Pc [.ref (bs + 0), .int x1, .int x2] (HB bs D y I J)) (QcI bs D y r) 0 0 (FA bs) := by
  refine Met.ofW (cc := cX9_table) (maxL := 4) (ret := (some .int)) (by decide) rfl ?_
  intro p e s m args below meth c s₁ B hml hv
  obtain ⟨rfl, hP, hK, hN, hL⟩ := hv
  have hx := B.exec
  have hb := B.bytes
  have hr := B.returns
  have hts0 := atoms_spec (ws := .code yX9_table cX9_table 4 (some .int) :: gtb) B.pre
  have hts : ∀ w ∈ gtb, w.before [.ref (bs + 0), .int x1, .int x2].toArray s = true := fun w hw => hts0 w (List.mem_cons_of_mem _ hw)
  have hown : s.vm.findClass RX9 = some m.cls := findClass_of_methodNamed B.named
  have hlocks := B.notSynchronized
  have hS : va_S (FA bs) s.heap s.heap [] := va_S.rf
  have Gc : Gx p s m [.ref (bs + 0), .int x1, .int x2].toArray meth c cX9_table 4 RX9 bs D y (some .int) 44 := ⟨hx, hb, hml, hown, hts, hK, hN, hL, hr, hlocks, hcb⟩
  have hl := lv_entry [.ref (bs + 0), .int x1, .int x2] (n := 4) (Nat.le_of_ble_eq_true rfl)
  rw [lg_entry_eq]
  generalize (lg_sl [.ref (bs + 0), .int x1, .int x2] ++ List.replicate (4 - (lg_sl [.ref (bs + 0), .int x1, .int x2]).length) Slot.unset).toArray = ls at hl ⊢
  have hl : lv_has ls 4 [(0, .ref (bs + 0)), (1, .int x1), (2, .int x2)] := hl
  change W p l e (rmm 2 43) s m [.ref (bs + 0), .int x1, .int x2].toArray below meth c s.heap [] 0 0 (QI below [.ref (bs + 0), .int x1, .int x2].toArray s bs D y r) (F0 m 0 ls [])
  unfold fX9_table at h
  refine lv_aload_n hx hb dX9_table_0 rfl (lv_at hl 0 rfl) ?_
  refine lv_iload_n hx hb dX9_table_1 rfl (lv_at hl 1 rfl) ?_
  obtain ⟨r2, er2, h⟩ := bd_s1 h
  refine c_VI (k := 0) (ci := 9) (As := [.int x1]) (rest := []) hx hb hml hown hts hK hN hL hP hS (cX9_wrongGate_ l bs D y hcb n x1 I J r2 er2) ok_X9_wrongGate ov_X9_wrongGate ml_81 ⟨Nat.le_of_ble_eq_true rfl, Nat.le_of_ble_eq_true rfl⟩ rfl hcb kd_0 hl.1 rfl rfl (Nat.le_of_ble_eq_true rfl) ⟨Nat.zero_le _, Nat.zero_le _⟩ dX9_table_2 (fun H locs hP hS => ?_)
  obtain ⟨v5, ev5, h⟩ := lt_s1 h
  refine top_i ev5 ?_
  refine lv_istore_n (lv' := [(3, .int v5), (0, .ref (bs + 0)), (1, .int x1), (2, .int x2)]) hx hb dX9_table_5 rfl hl (by decide) rfl (fun ls hl => ?_)
  refine lv_iload_n hx hb dX9_table_6 rfl (lv_at hl 0 rfl) ?_
  refine lv_if_eq (tgt := 16) hx hb dX9_table_7 (by decide) (fun c7 => ?_) (fun c7 => ?_)
  · replace h := if_t c7 h
    refine lv_aload_n hx hb dX9_table_16 rfl (lv_at hl 1 rfl) ?_
    refine g_R (C := RX9) (T := TX9) (N := 10) (ci := 9) 0 2 11 hx hb hts hown hK hP in_X9 rfl hcb okF_0_2 rfc_0_2 fl_103 dX9_table_17 ?_
    refine g_I (C := RX7) (T := TX7) (N := 7) (ci := 7) 11 0 hx hb hts hown hK hP in_X7 rfl hcb okF_11_0 fl_104 dX9_table_20 ?_
    refine lv_if_eq (tgt := 37) hx hb dX9_table_23 (by decide) (fun c23 => ?_) (fun c23 => ?_)
    · replace h := if_t c23 h
      exact wX9_table_37 bs D y n  r Gc   r2.2.1 r2.2.2 _ _ _ hP hS (lv_sub hl [1] rfl) h
    · replace h := if_f c23 h
      refine lv_aload_n hx hb dX9_table_26 rfl (lv_at hl 1 rfl) ?_
      refine g_R (C := RX9) (T := TX9) (N := 10) (ci := 9) 0 2 11 hx hb hts hown hK hP in_X9 rfl hcb okF_0_2 rfc_0_2 fl_103 dX9_table_27 ?_
      refine lv_iload_n hx hb dX9_table_30 rfl (lv_at hl 2 rfl) ?_
      obtain ⟨r31, er31, h⟩ := bd_s1 h
      refine c_VI (k := 11) (ci := 7) (As := [.int x1]) (rest := []) hx hb hml hown hts hK hN hL hP hS (cX7_isTable_ l bs D y hcb n x1 r2.2.1 r2.2.2 r31 er31) ok_X7_isTable ov_X7_isTable ml_84 ⟨Nat.le_of_ble_eq_true rfl, Nat.le_of_ble_eq_true rfl⟩ rfl hcb kd_11 hl.1 rfl rfl (Nat.le_of_ble_eq_true rfl) ⟨Nat.zero_le _, Nat.zero_le _⟩ dX9_table_31 (fun H locs hP hS => ?_)
      refine lv_if_ne (tgt := 44) hx hb dX9_table_34 (by decide) (fun c34 => ?_) (fun c34 => ?_)
      · replace h := if_f c34 h
        refine lv_iload_n hx hb dX9_table_44 rfl (lv_at hl 3 rfl) ?_
        refine lv_if_lt (tgt := 53) hx hb dX9_table_45 (by decide) (fun c45 => ?_) (fun c45 => ?_)
        · replace h := if_t c45 h
          exact wX9_table_53 bs D y n  r Gc   r31.2.1 r31.2.2 _ _ _ hP hS (lv_sub hl [1] rfl) h
        · replace h := if_f c45 h
          refine lv_iload_n hx hb dX9_table_48 rfl (lv_at hl 3 rfl) ?_
          refine lv_iconst (v := (5 : Int32)) hx hb dX9_table_49 (by decide) ?_
          refine lv_icmp_le (tgt := 60) hx hb dX9_table_50 (by decide) (fun c50 => ?_) (fun c50 => ?_)
          · replace h := if_t c50 h
            refine lv_iload_n hx hb dX9_table_60 rfl (lv_at hl 3 rfl) ?_
            refine lv_if_ne (tgt := 74) hx hb dX9_table_61 (by decide) (fun c61 => ?_) (fun c61 => ?_)
            · replace h := if_f c61 h
              refine lv_iload_n hx hb dX9_table_74 rfl (lv_at hl 3 rfl) ?_
              refine lv_iconst (v := (1 : Int32)) hx hb dX9_table_75 (by decide) ?_
              refine lv_icmp_ne (tgt := 91) hx hb dX9_table_76 (by decide) (fun c76 => ?_) (fun c76 => ?_)
              · replace h := if_f c76 h
                refine lv_aload_n hx hb dX9_table_91 rfl (lv_at hl 1 rfl) ?_
                refine g_R (C := RX9) (T := TX9) (N := 10) (ci := 9) 0 2 11 hx hb hts hown hK hP in_X9 rfl hcb okF_0_2 rfc_0_2 fl_103 dX9_table_92 ?_
                refine lv_iload_n hx hb dX9_table_95 rfl (lv_at hl 2 rfl) ?_
                refine lv_iload_n hx hb dX9_table_96 rfl (lv_at hl 3 rfl) ?_
                refine lv_iconst (v := (2 : Int32)) hx hb dX9_table_97 (by decide) ?_
                refine lv_isub hx hb dX9_table_98 ?_
                obtain ⟨r99, er99, h⟩ := bd_s1 h
                refine c_VI (k := 11) (ci := 7) (As := [.int x1, .int (x2 - (2 : Int32))]) (rest := []) hx hb hml hown hts hK hN hL hP hS (cX7_letter_ l bs D y hcb n x1 (x2 - (2 : Int32)) r31.2.1 r31.2.2 r99 er99) ok_X7_letter ov_X7_letter ml_85 ⟨Nat.le_of_ble_eq_true rfl, Nat.le_of_ble_eq_true rfl⟩ rfl hcb kd_11 hl.1 rfl rfl (Nat.le_of_ble_eq_true rfl) ⟨Nat.zero_le _, Nat.zero_le _⟩ dX9_table_99 (fun H locs hP hS => ?_)
                exact r_I hx hb hr hlocks hP hK hN hL hS h dX9_table_102
              · replace h := if_t c76 h
                refine lv_aload_n hx hb dX9_table_79 rfl (lv_at hl 1 rfl) ?_
                refine g_R (C := RX9) (T := TX9) (N := 10) (ci := 9) 0 2 11 hx hb hts hown hK hP in_X9 rfl hcb okF_0_2 rfc_0_2 fl_103 dX9_table_80 ?_
                refine g_R (C := RX7) (T := TX7) (N := 7) (ci := 7) 11 3 13 hx hb hts hown hK hP in_X7 rfl hcb okF_11_3 rfc_11_3 fl_119 dX9_table_83 ?_
                refine lv_iload_n hx hb dX9_table_86 rfl (lv_at hl 2 rfl) ?_
                obtain ⟨hi87, h⟩ := if_s1 h
                refine a_I 13 hx hb hK hP hcb aln_13 hi87 dX9_table_87 ?_
                refine lv_goto (tgt := 102) hx hb dX9_table_88 (by decide) ?_
                exact r_I hx hb hr hlocks hP hK hN hL hS h dX9_table_102
            · replace h := if_t c61 h
              refine lv_aload_n hx hb dX9_table_64 rfl (lv_at hl 1 rfl) ?_
              refine g_R (C := RX9) (T := TX9) (N := 10) (ci := 9) 0 2 11 hx hb hts hown hK hP in_X9 rfl hcb okF_0_2 rfc_0_2 fl_103 dX9_table_65 ?_
              refine g_R (C := RX7) (T := TX7) (N := 7) (ci := 7) 11 2 12 hx hb hts hown hK hP in_X7 rfl hcb okF_11_2 rfc_11_2 fl_120 dX9_table_68 ?_
              refine lv_iload_n hx hb dX9_table_71 rfl (lv_at hl 2 rfl) ?_
              obtain ⟨hi72, h⟩ := if_s1 h
              refine a_I 12 hx hb hK hP hcb aln_12 hi72 dX9_table_72 ?_
              exact r_I hx hb hr hlocks hP hK hN hL hS h dX9_table_73
          · replace h := if_f c50 h
            exact wX9_table_53 bs D y n  r Gc   r31.2.1 r31.2.2 _ _ _ hP hS (lv_sub hl [1] rfl) h
      · replace h := if_t c34 h
        exact wX9_table_37 bs D y n  r Gc   r31.2.1 r31.2.2 _ _ _ hP hS (lv_sub hl [1] rfl) h
  · replace h := if_f c7 h
    refine lv_aload_n hx hb dX9_table_10 rfl (lv_at hl 1 rfl) ?_
    refine lv_iload_n hx hb dX9_table_11 rfl (lv_at hl 0 rfl) ?_
    obtain ⟨r12, er12, h⟩ := bd_s1 h
    refine c_VI (k := 0) (ci := 9) (As := [.int v5]) (rest := []) hx hb hml hown hts hK hN hL hP hS (cX9_refuse_ l bs D y hcb n v5 r2.2.1 r2.2.2 r12 er12) ok_X9_refuse ov_X9_refuse ml_71 ⟨Nat.le_of_ble_eq_true rfl, Nat.le_of_ble_eq_true rfl⟩ rfl hcb kd_0 hl.1 rfl rfl (Nat.le_of_ble_eq_true rfl) ⟨Nat.zero_le _, Nat.zero_le _⟩ dX9_table_12 (fun H locs hP hS => ?_)
    exact r_I hx hb hr hlocks hP hK hN hL hS h dX9_table_15
theorem dX9_cloth_0 : decode cX9_cloth 0 = .ok (.iload_n 1, 1) := by decide +kernel
theorem dX9_cloth_1 : decode cX9_cloth 1 = .ok (.iconst 1, 1) := by decide +kernel
theorem dX9_cloth_2 : decode cX9_cloth 2 = .ok (.bipush 6, 2) := by decide +kernel
theorem dX9_cloth_4 : decode cX9_cloth 4 = .ok (.invokestatic 181, 3) := by decide +kernel
theorem dX9_cloth_7 : decode cX9_cloth 7 = .ok (.ifCond .eq 32, 3) := by decide +kernel
theorem dX9_cloth_10 : decode cX9_cloth 10 = .ok (.iload_n 2, 1) := by decide +kernel
theorem dX9_cloth_11 : decode cX9_cloth 11 = .ok (.iconst 1, 1) := by decide +kernel
theorem dX9_cloth_12 : decode cX9_cloth 12 = .ok (.bipush 6, 2) := by decide +kernel
theorem dX9_cloth_14 : decode cX9_cloth 14 = .ok (.invokestatic 181, 3) := by decide +kernel
theorem dX9_cloth_17 : decode cX9_cloth 17 = .ok (.ifCond .eq 22, 3) := by decide +kernel
theorem dX9_cloth_20 : decode cX9_cloth 20 = .ok (.iload_n 3, 1) := by decide +kernel
theorem dX9_cloth_21 : decode cX9_cloth 21 = .ok (.iconst 1, 1) := by decide +kernel
theorem dX9_cloth_22 : decode cX9_cloth 22 = .ok (.iconst 4, 1) := by decide +kernel
theorem dX9_cloth_23 : decode cX9_cloth 23 = .ok (.invokestatic 181, 3) := by decide +kernel
theorem dX9_cloth_26 : decode cX9_cloth 26 = .ok (.ifCond .eq 13, 3) := by decide +kernel
theorem dX9_cloth_29 : decode cX9_cloth 29 = .ok (.iload 4, 2) := by decide +kernel
theorem dX9_cloth_31 : decode cX9_cloth 31 = .ok (.iconst 1, 1) := by decide +kernel
theorem dX9_cloth_32 : decode cX9_cloth 32 = .ok (.iconst 4, 1) := by decide +kernel
theorem dX9_cloth_33 : decode cX9_cloth 33 = .ok (.invokestatic 181, 3) := by decide +kernel
theorem dX9_cloth_36 : decode cX9_cloth 36 = .ok (.ifCond .ne 10, 3) := by decide +kernel
theorem dX9_cloth_39 : decode cX9_cloth 39 = .ok (.aload_n 0, 1) := by decide +kernel
theorem dX9_cloth_40 : decode cX9_cloth 40 = .ok (.bipush (-7), 2) := by decide +kernel
theorem dX9_cloth_42 : decode cX9_cloth 42 = .ok (.invokevirtual 91, 3) := by decide +kernel
theorem dX9_cloth_45 : decode cX9_cloth 45 = .ok (.ireturn, 1) := by decide +kernel
theorem dX9_cloth_46 : decode cX9_cloth 46 = .ok (.aload_n 0, 1) := by decide +kernel
theorem dX9_cloth_47 : decode cX9_cloth 47 = .ok (.getfield 33, 3) := by decide +kernel
theorem dX9_cloth_50 : decode cX9_cloth 50 = .ok (.iload_n 1, 1) := by decide +kernel
theorem dX9_cloth_51 : decode cX9_cloth 51 = .ok (.iload_n 2, 1) := by decide +kernel
theorem dX9_cloth_52 : decode cX9_cloth 52 = .ok (.iload_n 3, 1) := by decide +kernel
theorem dX9_cloth_53 : decode cX9_cloth 53 = .ok (.iload 4, 2) := by decide +kernel
theorem dX9_cloth_55 : decode cX9_cloth 55 = .ok (.invokevirtual 76, 3) := by decide +kernel
theorem dX9_cloth_58 : decode cX9_cloth 58 = .ok (.aload_n 0, 1) := by decide +kernel
theorem dX9_cloth_59 : decode cX9_cloth 59 = .ok (.invokevirtual 185, 3) := by decide +kernel
theorem dX9_cloth_62 : decode cX9_cloth 62 = .ok (.aload_n 0, 1) := by decide +kernel
theorem dX9_cloth_63 : decode cX9_cloth 63 = .ok (.getfield 33, 3) := by decide +kernel
theorem dX9_cloth_66 : decode cX9_cloth 66 = .ok (.getfield 188, 3) := by decide +kernel
theorem dX9_cloth_69 : decode cX9_cloth 69 = .ok (.ireturn, 1) := by decide +kernel
set_option maxHeartbeats 4000000 in
set_option maxRecDepth 100000 in
theorem wX9_cloth_39 {p : Program} {l : Launch} {e : Env} {s : State} {m : MethodId} {args : Array Value} {below : List Frame} {meth : Method} {c : Code} (bs : Nat) (D : va_G) (y : Y3) (n : Nat) (r : Int32 × M2) (Gc : Gx p s m args meth c cX9_cloth 5 RX9 bs D y (some .int) 44)  (I : MI) (J : MJ) (H : Heap) (locs : List Loc) (ls : Array Slot) (hP : va_P D vwCl (wl bs y I J) H) (hS : va_S (FA bs) s.heap H locs) (hl : lv_has ls 5 [(0, .ref (bs + 0))]) (h : fX9_cloth_39 n   I J = some r) : W p l e (rmm 2 50) s m args below meth c H locs 0 0 (QI below args s bs D y r) (F0 m 39 ls []) := by
  obtain ⟨hx, hb, hml, hown, hts, hK, hN, hL, hr, hlocks, hcb⟩ := id Gc
  unfold fX9_cloth_39 at h
  refine lv_aload_n hx hb dX9_cloth_39 rfl (lv_at hl 0 rfl) ?_
  refine lv_bipush (v := (-7 : Int32)) hx hb dX9_cloth_40 (by decide) ?_
  obtain ⟨r42, er42, h⟩ := bd_s1 h
  refine c_VI (k := 0) (ci := 9) (As := [.int (-7 : Int32)]) (rest := []) hx hb hml hown hts hK hN hL hP hS (cX9_refuse_ l bs D y hcb n (-7 : Int32) I J r42 er42) ok_X9_refuse ov_X9_refuse ml_71 ⟨Nat.le_of_ble_eq_true rfl, Nat.le_of_ble_eq_true rfl⟩ rfl hcb kd_0 hl.1 rfl rfl (Nat.le_of_ble_eq_true rfl) ⟨Nat.zero_le _, Nat.zero_le _⟩ dX9_cloth_42 (fun H locs hP hS => ?_)
  exact r_I hx hb hr hlocks hP hK hN hL hS h dX9_cloth_45
set_option maxHeartbeats 4000000 in
set_option maxRecDepth 100000 in
theorem cX9_cloth_ (l : Launch) (bs : Nat) (D : va_G) (y : Y3) (hcb : 44 ≤ y.2.2.2) (n : Nat) (x1 : Int32) (x2 : Int32) (x3 : Int32) (x4 : Int32) (I : MI) (J : MJ) (r : Int32 × M2) (h : fX9_cloth n x1 x2 x3 x4 I J = some r) : Met l yX9_cloth (.code yX9_cloth cX9_cloth 5 (some .int) :: gtb) (rmm 2 50) (va_Pc [.ref (bs + 0), .int x1, .int x2, .int x3, .int x4] (HB bs D y I J)) (QcI bs D y r) 0 0 (FA bs) := by
  refine Met.ofW (cc := cX9_cloth) (maxL := 5) (ret := (some .int)) (by decide) rfl ?_
  intro p e s m args below meth c s₁ B hml hv
  obtain ⟨rfl, hP, hK, hN, hL⟩ := hv
  have hx := B.exec
  have hb := B.bytes
  have hr := B.returns
  have hts0 := atoms_spec (ws := .code yX9_cloth cX9_cloth 5 (some .int) :: gtb) B.pre
  have hts : ∀ w ∈ gtb, w.before [.ref (bs + 0), .int x1, .int x2, .int x3, .int x4].toArray s = true := fun w hw => hts0 w (List.mem_cons_of_mem _ hw)
  have hown : s.vm.findClass RX9 = some m.cls := findClass_of_methodNamed B.named
  have hlocks := B.notSynchronized
  have hS : va_S (FA bs) s.heap s.heap [] := va_S.rf
  have Gc : Gx p s m [.ref (bs + 0), .int x1, .int x2, .int x3, .int x4].toArray meth c cX9_cloth 5 RX9 bs D y (some .int) 44 := ⟨hx, hb, hml, hown, hts, hK, hN, hL, hr, hlocks, hcb⟩
  have hl := lv_entry [.ref (bs + 0), .int x1, .int x2, .int x3, .int x4] (n := 5) (Nat.le_of_ble_eq_true rfl)
  rw [lg_entry_eq]
  generalize (lg_sl [.ref (bs + 0), .int x1, .int x2, .int x3, .int x4] ++ List.replicate (5 - (lg_sl [.ref (bs + 0), .int x1, .int x2, .int x3, .int x4]).length) Slot.unset).toArray = ls at hl ⊢
  have hl : lv_has ls 5 [(0, .ref (bs + 0)), (1, .int x1), (2, .int x2), (3, .int x3), (4, .int x4)] := hl
  change W p l e (rmm 2 50) s m [.ref (bs + 0), .int x1, .int x2, .int x3, .int x4].toArray below meth c s.heap [] 0 0 (QI below [.ref (bs + 0), .int x1, .int x2, .int x3, .int x4].toArray s bs D y r) (F0 m 0 ls [])
  unfold fX9_cloth at h
  refine lv_iload_n hx hb dX9_cloth_0 rfl (lv_at hl 1 rfl) ?_
  refine lv_iconst (v := (1 : Int32)) hx hb dX9_cloth_1 (by decide) ?_
  refine lv_bipush (v := (6 : Int32)) hx hb dX9_cloth_2 (by decide) ?_
  obtain ⟨r4, er4, h⟩ := bd_s1 h
  refine c_SI (As := [.int x1, .int (1 : Int32), .int (6 : Int32)]) (rest := []) hx hb hml hown hts hK hN hL hP hS (cX9_within_ l bs D y hcb n x1 (1 : Int32) (6 : Int32) I J r4 er4) ok_X9_within ov_X9_within ml_67 ⟨Nat.le_of_ble_eq_true rfl, Nat.le_of_ble_eq_true rfl⟩ hl.1 rfl rfl (Nat.le_of_ble_eq_true rfl) ⟨Nat.zero_le _, Nat.zero_le _⟩ dX9_cloth_4 (fun H locs hP hS => ?_)
  refine lv_if_eq (tgt := 39) hx hb dX9_cloth_7 (by decide) (fun c7 => ?_) (fun c7 => ?_)
  · replace h := if_t c7 h
    exact wX9_cloth_39 bs D y n  r Gc   r4.2.1 r4.2.2 _ _ _ hP hS (lv_sub hl [0] rfl) h
  · replace h := if_f c7 h
    refine lv_iload_n hx hb dX9_cloth_10 rfl (lv_at hl 2 rfl) ?_
    refine lv_iconst (v := (1 : Int32)) hx hb dX9_cloth_11 (by decide) ?_
    refine lv_bipush (v := (6 : Int32)) hx hb dX9_cloth_12 (by decide) ?_
    obtain ⟨r14, er14, h⟩ := bd_s1 h
    refine c_SI (As := [.int x2, .int (1 : Int32), .int (6 : Int32)]) (rest := []) hx hb hml hown hts hK hN hL hP hS (cX9_within_ l bs D y hcb n x2 (1 : Int32) (6 : Int32) r4.2.1 r4.2.2 r14 er14) ok_X9_within ov_X9_within ml_67 ⟨Nat.le_of_ble_eq_true rfl, Nat.le_of_ble_eq_true rfl⟩ hl.1 rfl rfl (Nat.le_of_ble_eq_true rfl) ⟨Nat.zero_le _, Nat.zero_le _⟩ dX9_cloth_14 (fun H locs hP hS => ?_)
    refine lv_if_eq (tgt := 39) hx hb dX9_cloth_17 (by decide) (fun c17 => ?_) (fun c17 => ?_)
    · replace h := if_t c17 h
      exact wX9_cloth_39 bs D y n  r Gc   r14.2.1 r14.2.2 _ _ _ hP hS (lv_sub hl [0] rfl) h
    · replace h := if_f c17 h
      refine lv_iload_n hx hb dX9_cloth_20 rfl (lv_at hl 3 rfl) ?_
      refine lv_iconst (v := (1 : Int32)) hx hb dX9_cloth_21 (by decide) ?_
      refine lv_iconst (v := (4 : Int32)) hx hb dX9_cloth_22 (by decide) ?_
      obtain ⟨r23, er23, h⟩ := bd_s1 h
      refine c_SI (As := [.int x3, .int (1 : Int32), .int (4 : Int32)]) (rest := []) hx hb hml hown hts hK hN hL hP hS (cX9_within_ l bs D y hcb n x3 (1 : Int32) (4 : Int32) r14.2.1 r14.2.2 r23 er23) ok_X9_within ov_X9_within ml_67 ⟨Nat.le_of_ble_eq_true rfl, Nat.le_of_ble_eq_true rfl⟩ hl.1 rfl rfl (Nat.le_of_ble_eq_true rfl) ⟨Nat.zero_le _, Nat.zero_le _⟩ dX9_cloth_23 (fun H locs hP hS => ?_)
      refine lv_if_eq (tgt := 39) hx hb dX9_cloth_26 (by decide) (fun c26 => ?_) (fun c26 => ?_)
      · replace h := if_t c26 h
        exact wX9_cloth_39 bs D y n  r Gc   r23.2.1 r23.2.2 _ _ _ hP hS (lv_sub hl [0] rfl) h
      · replace h := if_f c26 h
        refine lv_iload hx hb dX9_cloth_29 (lv_at hl 4 rfl) ?_
        refine lv_iconst (v := (1 : Int32)) hx hb dX9_cloth_31 (by decide) ?_
        refine lv_iconst (v := (4 : Int32)) hx hb dX9_cloth_32 (by decide) ?_
        obtain ⟨r33, er33, h⟩ := bd_s1 h
        refine c_SI (As := [.int x4, .int (1 : Int32), .int (4 : Int32)]) (rest := []) hx hb hml hown hts hK hN hL hP hS (cX9_within_ l bs D y hcb n x4 (1 : Int32) (4 : Int32) r23.2.1 r23.2.2 r33 er33) ok_X9_within ov_X9_within ml_67 ⟨Nat.le_of_ble_eq_true rfl, Nat.le_of_ble_eq_true rfl⟩ hl.1 rfl rfl (Nat.le_of_ble_eq_true rfl) ⟨Nat.zero_le _, Nat.zero_le _⟩ dX9_cloth_33 (fun H locs hP hS => ?_)
        refine lv_if_ne (tgt := 46) hx hb dX9_cloth_36 (by decide) (fun c36 => ?_) (fun c36 => ?_)
        · replace h := if_f c36 h
          refine lv_aload_n hx hb dX9_cloth_46 rfl (lv_at hl 0 rfl) ?_
          refine g_R (C := RX9) (T := TX9) (N := 10) (ci := 9) 0 3 16 hx hb hts hown hK hP in_X9 rfl hcb okF_0_3 rfc_0_3 fl_121 dX9_cloth_47 ?_
          refine lv_iload_n hx hb dX9_cloth_50 rfl (lv_at hl 1 rfl) ?_
          refine lv_iload_n hx hb dX9_cloth_51 rfl (lv_at hl 2 rfl) ?_
          refine lv_iload_n hx hb dX9_cloth_52 rfl (lv_at hl 3 rfl) ?_
          refine lv_iload hx hb dX9_cloth_53 (lv_at hl 4 rfl) ?_
          obtain ⟨r55, er55, h⟩ := bd_s1 h
          refine c_VV (k := 16) (ci := 2) (As := [.int x1, .int x2, .int x3, .int x4]) (rest := []) hx hb hml hown hts hK hN hL hP hS (cX2_shape_ l bs D y hcb n x1 x2 x3 x4 r33.2.1 r33.2.2 r55 er55) ok_X2_shape ov_X2_shape ml_86 ⟨Nat.le_of_ble_eq_true rfl, Nat.le_of_ble_eq_true rfl⟩ rfl hcb kd_16 hl.1 rfl rfl (Nat.le_of_ble_eq_true rfl) ⟨Nat.zero_le _, Nat.zero_le _⟩ dX9_cloth_55 (fun H locs hP hS => ?_)
          refine lv_aload_n hx hb dX9_cloth_58 rfl (lv_at hl 0 rfl) ?_
          obtain ⟨r59, er59, h⟩ := bd_s1 h
          refine c_VV (k := 0) (ci := 9) (As := []) (rest := []) hx hb hml hown hts hK hN hL hP hS (cX9_forgetPlaces_ l bs D y hcb n  r55.1 r55.2 r59 er59) ok_X9_forgetPlaces ov_X9_forgetPlaces ml_69 ⟨Nat.le_of_ble_eq_true rfl, Nat.le_of_ble_eq_true rfl⟩ rfl hcb kd_0 hl.1 rfl rfl (Nat.le_of_ble_eq_true rfl) ⟨Nat.zero_le _, Nat.zero_le _⟩ dX9_cloth_59 (fun H locs hP hS => ?_)
          refine lv_aload_n hx hb dX9_cloth_62 rfl (lv_at hl 0 rfl) ?_
          refine g_R (C := RX9) (T := TX9) (N := 10) (ci := 9) 0 3 16 hx hb hts hown hK hP in_X9 rfl hcb okF_0_3 rfc_0_3 fl_121 dX9_cloth_63 ?_
          refine g_I (C := RX2) (T := TX2) (N := 10) (ci := 2) 16 2 hx hb hts hown hK hP in_X2 rfl hcb okF_16_2 fl_122 dX9_cloth_66 ?_
          exact r_I hx hb hr hlocks hP hK hN hL hS h dX9_cloth_69
        · replace h := if_t c36 h
          exact wX9_cloth_39 bs D y n  r Gc   r33.2.1 r33.2.2 _ _ _ hP hS (lv_sub hl [0] rfl) h
theorem dX9_broken_0 : decode cX9_broken 0 = .ok (.aload_n 0, 1) := by decide +kernel
theorem dX9_broken_1 : decode cX9_broken 1 = .ok (.getfield 33, 3) := by decide +kernel
theorem dX9_broken_4 : decode cX9_broken 4 = .ok (.iload_n 1, 1) := by decide +kernel
theorem dX9_broken_5 : decode cX9_broken 5 = .ok (.invokevirtual 191, 3) := by decide +kernel
theorem dX9_broken_8 : decode cX9_broken 8 = .ok (.ifCond .ne 10, 3) := by decide +kernel
theorem dX9_broken_11 : decode cX9_broken 11 = .ok (.aload_n 0, 1) := by decide +kernel
theorem dX9_broken_12 : decode cX9_broken 12 = .ok (.bipush (-3), 2) := by decide +kernel
theorem dX9_broken_14 : decode cX9_broken 14 = .ok (.invokevirtual 91, 3) := by decide +kernel
theorem dX9_broken_17 : decode cX9_broken 17 = .ok (.ireturn, 1) := by decide +kernel
theorem dX9_broken_18 : decode cX9_broken 18 = .ok (.aload_n 0, 1) := by decide +kernel
theorem dX9_broken_19 : decode cX9_broken 19 = .ok (.getfield 33, 3) := by decide +kernel
theorem dX9_broken_22 : decode cX9_broken 22 = .ok (.iload_n 1, 1) := by decide +kernel
theorem dX9_broken_23 : decode cX9_broken 23 = .ok (.invokevirtual 194, 3) := by decide +kernel
theorem dX9_broken_26 : decode cX9_broken 26 = .ok (.ifCond .eq 7, 3) := by decide +kernel
theorem dX9_broken_29 : decode cX9_broken 29 = .ok (.iconst 1, 1) := by decide +kernel
theorem dX9_broken_30 : decode cX9_broken 30 = .ok (.goto 4, 3) := by decide +kernel
theorem dX9_broken_33 : decode cX9_broken 33 = .ok (.iconst 0, 1) := by decide +kernel
theorem dX9_broken_34 : decode cX9_broken 34 = .ok (.istore_n 3, 1) := by decide +kernel
theorem dX9_broken_35 : decode cX9_broken 35 = .ok (.aload_n 0, 1) := by decide +kernel
theorem dX9_broken_36 : decode cX9_broken 36 = .ok (.getfield 33, 3) := by decide +kernel
theorem dX9_broken_39 : decode cX9_broken 39 = .ok (.iload_n 1, 1) := by decide +kernel
theorem dX9_broken_40 : decode cX9_broken 40 = .ok (.iload_n 2, 1) := by decide +kernel
theorem dX9_broken_41 : decode cX9_broken 41 = .ok (.invokevirtual 197, 3) := by decide +kernel
theorem dX9_broken_44 : decode cX9_broken 44 = .ok (.aload_n 0, 1) := by decide +kernel
theorem dX9_broken_45 : decode cX9_broken 45 = .ok (.invokevirtual 185, 3) := by decide +kernel
theorem dX9_broken_48 : decode cX9_broken 48 = .ok (.iload_n 3, 1) := by decide +kernel
theorem dX9_broken_49 : decode cX9_broken 49 = .ok (.ireturn, 1) := by decide +kernel
set_option maxHeartbeats 4000000 in
set_option maxRecDepth 100000 in
theorem wX9_broken_34 {p : Program} {l : Launch} {e : Env} {s : State} {m : MethodId} {args : Array Value} {below : List Frame} {meth : Method} {c : Code} (bs : Nat) (D : va_G) (y : Y3) (n : Nat) (r : Int32 × M2) (Gc : Gx p s m args meth c cX9_broken 4 RX9 bs D y (some .int) 44)  (x1 : Int32) (x2 : Int32) (s0 : Int32) (I : MI) (J : MJ) (H : Heap) (locs : List Loc) (ls : Array Slot) (hP : va_P D vwCl (wl bs y I J) H) (hS : va_S (FA bs) s.heap H locs) (hl : lv_has ls 4 [(0, .ref (bs + 0)), (1, .int x1), (2, .int x2)]) (h : fX9_broken_34 n  x1 x2 s0 I J = some r) : W p l e (rmm 2 43) s m args below meth c H locs 0 0 (QI below args s bs D y r) (F0 m 34 ls [.int s0]) := by
  obtain ⟨hx, hb, hml, hown, hts, hK, hN, hL, hr, hlocks, hcb⟩ := id Gc
  unfold fX9_broken_34 at h
  refine lv_istore_n (lv' := [(3, .int s0), (0, .ref (bs + 0)), (1, .int x1), (2, .int x2)]) hx hb dX9_broken_34 rfl hl (by decide) rfl (fun ls hl => ?_)
  refine lv_aload_n hx hb dX9_broken_35 rfl (lv_at hl 1 rfl) ?_
  refine g_R (C := RX9) (T := TX9) (N := 10) (ci := 9) 0 3 16 hx hb hts hown hK hP in_X9 rfl hcb okF_0_3 rfc_0_3 fl_121 dX9_broken_36 ?_
  refine lv_iload_n hx hb dX9_broken_39 rfl (lv_at hl 2 rfl) ?_
  refine lv_iload_n hx hb dX9_broken_40 rfl (lv_at hl 3 rfl) ?_
  obtain ⟨r41, er41, h⟩ := bd_s1 h
  refine c_VV (k := 16) (ci := 2) (As := [.int x1, .int x2]) (rest := []) hx hb hml hown hts hK hN hL hP hS (cX2_breakTile_ l bs D y hcb n x1 x2 I J r41 er41) ok_X2_breakTile ov_X2_breakTile ml_87 ⟨Nat.le_of_ble_eq_true rfl, Nat.le_of_ble_eq_true rfl⟩ rfl hcb kd_16 hl.1 rfl rfl (Nat.le_of_ble_eq_true rfl) ⟨Nat.zero_le _, Nat.zero_le _⟩ dX9_broken_41 (fun H locs hP hS => ?_)
  refine lv_aload_n hx hb dX9_broken_44 rfl (lv_at hl 1 rfl) ?_
  obtain ⟨r45, er45, h⟩ := bd_s1 h
  refine c_VV (k := 0) (ci := 9) (As := []) (rest := []) hx hb hml hown hts hK hN hL hP hS (cX9_forgetPlaces_ l bs D y hcb n  r41.1 r41.2 r45 er45) ok_X9_forgetPlaces ov_X9_forgetPlaces ml_69 ⟨Nat.le_of_ble_eq_true rfl, Nat.le_of_ble_eq_true rfl⟩ rfl hcb kd_0 hl.1 rfl rfl (Nat.le_of_ble_eq_true rfl) ⟨Nat.zero_le _, Nat.zero_le _⟩ dX9_broken_45 (fun H locs hP hS => ?_)
  refine lv_iload_n hx hb dX9_broken_48 rfl (lv_at hl 0 rfl) ?_
  exact r_I hx hb hr hlocks hP hK hN hL hS h dX9_broken_49
set_option maxHeartbeats 4000000 in
set_option maxRecDepth 100000 in
theorem cX9_broken_ (l : Launch) (bs : Nat) (D : va_G) (y : Y3) (hcb : 44 ≤ y.2.2.2) (n : Nat) (x1 : Int32) (x2 : Int32) (I : MI) (J : MJ) (r : Int32 × M2) (h : fX9_broken n x1 x2 I J = some r) : Met l yX9_broken (.code yX9_broken cX9_broken 4 (some .int) :: gtb) (rmm 2 43) (va_Pc [.ref (bs + 0), .int x1, .int x2] (HB bs D y I J)) (QcI bs D y r) 0 0 (FA bs) := by
  refine Met.ofW (cc := cX9_broken) (maxL := 4) (ret := (some .int)) (by decide) rfl ?_
  intro p e s m args below meth c s₁ B hml hv
  obtain ⟨rfl, hP, hK, hN, hL⟩ := hv
  have hx := B.exec
  have hb := B.bytes
  have hr := B.returns
  have hts0 := atoms_spec (ws := .code yX9_broken cX9_broken 4 (some .int) :: gtb) B.pre
  have hts : ∀ w ∈ gtb, w.before [.ref (bs + 0), .int x1, .int x2].toArray s = true := fun w hw => hts0 w (List.mem_cons_of_mem _ hw)
  have hown : s.vm.findClass RX9 = some m.cls := findClass_of_methodNamed B.named
  have hlocks := B.notSynchronized
  have hS : va_S (FA bs) s.heap s.heap [] := va_S.rf
  have Gc : Gx p s m [.ref (bs + 0), .int x1, .int x2].toArray meth c cX9_broken 4 RX9 bs D y (some .int) 44 := ⟨hx, hb, hml, hown, hts, hK, hN, hL, hr, hlocks, hcb⟩
  have hl := lv_entry [.ref (bs + 0), .int x1, .int x2] (n := 4) (Nat.le_of_ble_eq_true rfl)
  rw [lg_entry_eq]
  generalize (lg_sl [.ref (bs + 0), .int x1, .int x2] ++ List.replicate (4 - (lg_sl [.ref (bs + 0), .int x1, .int x2]).length) Slot.unset).toArray = ls at hl ⊢
  have hl : lv_has ls 4 [(0, .ref (bs + 0)), (1, .int x1), (2, .int x2)] := hl
  change W p l e (rmm 2 43) s m [.ref (bs + 0), .int x1, .int x2].toArray below meth c s.heap [] 0 0 (QI below [.ref (bs + 0), .int x1, .int x2].toArray s bs D y r) (F0 m 0 ls [])
  unfold fX9_broken at h
  refine lv_aload_n hx hb dX9_broken_0 rfl (lv_at hl 0 rfl) ?_
  refine g_R (C := RX9) (T := TX9) (N := 10) (ci := 9) 0 3 16 hx hb hts hown hK hP in_X9 rfl hcb okF_0_3 rfc_0_3 fl_121 dX9_broken_1 ?_
  refine lv_iload_n hx hb dX9_broken_4 rfl (lv_at hl 1 rfl) ?_
  obtain ⟨r5, er5, h⟩ := bd_s1 h
  refine c_VI (k := 16) (ci := 2) (As := [.int x1]) (rest := []) hx hb hml hown hts hK hN hL hP hS (cX2_hasTile_ l bs D y hcb n x1 I J r5 er5) ok_X2_hasTile ov_X2_hasTile ml_88 ⟨Nat.le_of_ble_eq_true rfl, Nat.le_of_ble_eq_true rfl⟩ rfl hcb kd_16 hl.1 rfl rfl (Nat.le_of_ble_eq_true rfl) ⟨Nat.zero_le _, Nat.zero_le _⟩ dX9_broken_5 (fun H locs hP hS => ?_)
  refine lv_if_ne (tgt := 18) hx hb dX9_broken_8 (by decide) (fun c8 => ?_) (fun c8 => ?_)
  · replace h := if_f c8 h
    refine lv_aload_n hx hb dX9_broken_18 rfl (lv_at hl 0 rfl) ?_
    refine g_R (C := RX9) (T := TX9) (N := 10) (ci := 9) 0 3 16 hx hb hts hown hK hP in_X9 rfl hcb okF_0_3 rfc_0_3 fl_121 dX9_broken_19 ?_
    refine lv_iload_n hx hb dX9_broken_22 rfl (lv_at hl 1 rfl) ?_
    obtain ⟨r23, er23, h⟩ := bd_s1 h
    refine c_VI (k := 16) (ci := 2) (As := [.int x1]) (rest := []) hx hb hml hown hts hK hN hL hP hS (cX2_isBroken_ l bs D y hcb n x1 r5.2.1 r5.2.2 r23 er23) ok_X2_isBroken ov_X2_isBroken ml_89 ⟨Nat.le_of_ble_eq_true rfl, Nat.le_of_ble_eq_true rfl⟩ rfl hcb kd_16 hl.1 rfl rfl (Nat.le_of_ble_eq_true rfl) ⟨Nat.zero_le _, Nat.zero_le _⟩ dX9_broken_23 (fun H locs hP hS => ?_)
    refine lv_if_eq (tgt := 33) hx hb dX9_broken_26 (by decide) (fun c26 => ?_) (fun c26 => ?_)
    · replace h := if_t c26 h
      refine lv_iconst (v := (0 : Int32)) hx hb dX9_broken_33 (by decide) ?_
      exact wX9_broken_34 bs D y n  r Gc  x1 x2 (0 : Int32) r23.2.1 r23.2.2 _ _ _ hP hS (lv_sub hl [0, 1, 2] rfl) h
    · replace h := if_f c26 h
      refine lv_iconst (v := (1 : Int32)) hx hb dX9_broken_29 (by decide) ?_
      refine lv_goto (tgt := 34) hx hb dX9_broken_30 (by decide) ?_
      exact wX9_broken_34 bs D y n  r Gc  x1 x2 (1 : Int32) r23.2.1 r23.2.2 _ _ _ hP hS (lv_sub hl [0, 1, 2] rfl) h
  · replace h := if_t c8 h
    refine lv_aload_n hx hb dX9_broken_11 rfl (lv_at hl 0 rfl) ?_
    refine lv_bipush (v := (-3 : Int32)) hx hb dX9_broken_12 (by decide) ?_
    obtain ⟨r14, er14, h⟩ := bd_s1 h
    refine c_VI (k := 0) (ci := 9) (As := [.int (-3 : Int32)]) (rest := []) hx hb hml hown hts hK hN hL hP hS (cX9_refuse_ l bs D y hcb n (-3 : Int32) r5.2.1 r5.2.2 r14 er14) ok_X9_refuse ov_X9_refuse ml_71 ⟨Nat.le_of_ble_eq_true rfl, Nat.le_of_ble_eq_true rfl⟩ rfl hcb kd_0 hl.1 rfl rfl (Nat.le_of_ble_eq_true rfl) ⟨Nat.zero_le _, Nat.zero_le _⟩ dX9_broken_14 (fun H locs hP hS => ?_)
    exact r_I hx hb hr hlocks hP hK hN hL hS h dX9_broken_17
theorem dX9_set_0 : decode cX9_set 0 = .ok (.aload_n 0, 1) := by decide +kernel
theorem dX9_set_1 : decode cX9_set 1 = .ok (.getfield 26, 3) := by decide +kernel
theorem dX9_set_4 : decode cX9_set 4 = .ok (.getfield 165, 3) := by decide +kernel
theorem dX9_set_7 : decode cX9_set 7 = .ok (.ifCond .ne 10, 3) := by decide +kernel
theorem dX9_set_10 : decode cX9_set 10 = .ok (.aload_n 0, 1) := by decide +kernel
theorem dX9_set_11 : decode cX9_set 11 = .ok (.bipush (-2), 2) := by decide +kernel
theorem dX9_set_13 : decode cX9_set 13 = .ok (.invokevirtual 91, 3) := by decide +kernel
theorem dX9_set_16 : decode cX9_set 16 = .ok (.ireturn, 1) := by decide +kernel
theorem dX9_set_17 : decode cX9_set 17 = .ok (.aload_n 0, 1) := by decide +kernel
theorem dX9_set_18 : decode cX9_set 18 = .ok (.getfield 12, 3) := by decide +kernel
theorem dX9_set_21 : decode cX9_set 21 = .ok (.getfield 88, 3) := by decide +kernel
theorem dX9_set_24 : decode cX9_set 24 = .ok (.aload_n 0, 1) := by decide +kernel
theorem dX9_set_25 : decode cX9_set 25 = .ok (.getfield 12, 3) := by decide +kernel
theorem dX9_set_28 : decode cX9_set 28 = .ok (.getfield 106, 3) := by decide +kernel
theorem dX9_set_31 : decode cX9_set 31 = .ok (.iadd, 1) := by decide +kernel
theorem dX9_set_32 : decode cX9_set 32 = .ok (.aload_n 0, 1) := by decide +kernel
theorem dX9_set_33 : decode cX9_set 33 = .ok (.getfield 26, 3) := by decide +kernel
theorem dX9_set_36 : decode cX9_set 36 = .ok (.getfield 162, 3) := by decide +kernel
theorem dX9_set_39 : decode cX9_set 39 = .ok (.iadd, 1) := by decide +kernel
theorem dX9_set_40 : decode cX9_set 40 = .ok (.aload_n 0, 1) := by decide +kernel
theorem dX9_set_41 : decode cX9_set 41 = .ok (.getfield 33, 3) := by decide +kernel
theorem dX9_set_44 : decode cX9_set 44 = .ok (.invokevirtual 201, 3) := by decide +kernel
theorem dX9_set_47 : decode cX9_set 47 = .ok (.if_icmp .le 10, 3) := by decide +kernel
theorem dX9_set_50 : decode cX9_set 50 = .ok (.aload_n 0, 1) := by decide +kernel
theorem dX9_set_51 : decode cX9_set 51 = .ok (.bipush (-8), 2) := by decide +kernel
theorem dX9_set_53 : decode cX9_set 53 = .ok (.invokevirtual 91, 3) := by decide +kernel
theorem dX9_set_56 : decode cX9_set 56 = .ok (.ireturn, 1) := by decide +kernel
theorem dX9_set_57 : decode cX9_set 57 = .ok (.aload_n 0, 1) := by decide +kernel
theorem dX9_set_58 : decode cX9_set 58 = .ok (.getfield 40, 3) := by decide +kernel
theorem dX9_set_61 : decode cX9_set 61 = .ok (.aload_n 0, 1) := by decide +kernel
theorem dX9_set_62 : decode cX9_set 62 = .ok (.getfield 12, 3) := by decide +kernel
theorem dX9_set_65 : decode cX9_set 65 = .ok (.aload_n 0, 1) := by decide +kernel
theorem dX9_set_66 : decode cX9_set 66 = .ok (.getfield 26, 3) := by decide +kernel
theorem dX9_set_69 : decode cX9_set 69 = .ok (.invokevirtual 204, 3) := by decide +kernel
theorem dX9_set_72 : decode cX9_set 72 = .ok (.aload_n 0, 1) := by decide +kernel
theorem dX9_set_73 : decode cX9_set 73 = .ok (.getfield 40, 3) := by decide +kernel
theorem dX9_set_76 : decode cX9_set 76 = .ok (.aload_n 0, 1) := by decide +kernel
theorem dX9_set_77 : decode cX9_set 77 = .ok (.getfield 33, 3) := by decide +kernel
theorem dX9_set_80 : decode cX9_set 80 = .ok (.invokevirtual 208, 3) := by decide +kernel
theorem dX9_set_83 : decode cX9_set 83 = .ok (.aload_n 0, 1) := by decide +kernel
theorem dX9_set_84 : decode cX9_set 84 = .ok (.invokevirtual 212, 3) := by decide +kernel
theorem dX9_set_87 : decode cX9_set 87 = .ok (.aload_n 0, 1) := by decide +kernel
theorem dX9_set_88 : decode cX9_set 88 = .ok (.getfield 40, 3) := by decide +kernel
theorem dX9_set_91 : decode cX9_set 91 = .ok (.getfield 215, 3) := by decide +kernel
theorem dX9_set_94 : decode cX9_set 94 = .ok (.ireturn, 1) := by decide +kernel
set_option maxHeartbeats 4000000 in
set_option maxRecDepth 100000 in
theorem cX9_set_ (l : Launch) (bs : Nat) (D : va_G) (y : Y3) (hcb : 44 ≤ y.2.2.2) (n : Nat) (I : MI) (J : MJ) (r : Int32 × M2) (h : fX9_set n  I J = some r) : Met l yX9_set (.code yX9_set cX9_set 1 (some .int) :: gtb) (rmm 4 90) (va_Pc [.ref (bs + 0)] (HB bs D y I J)) (QcI bs D y r) 0 0 (FA bs) := by
  refine Met.ofW (cc := cX9_set) (maxL := 1) (ret := (some .int)) (by decide) rfl ?_
  intro p e s m args below meth c s₁ B hml hv
  obtain ⟨rfl, hP, hK, hN, hL⟩ := hv
  have hx := B.exec
  have hb := B.bytes
  have hr := B.returns
  have hts0 := atoms_spec (ws := .code yX9_set cX9_set 1 (some .int) :: gtb) B.pre
  have hts : ∀ w ∈ gtb, w.before [.ref (bs + 0)].toArray s = true := fun w hw => hts0 w (List.mem_cons_of_mem _ hw)
  have hown : s.vm.findClass RX9 = some m.cls := findClass_of_methodNamed B.named
  have hlocks := B.notSynchronized
  have hS : va_S (FA bs) s.heap s.heap [] := va_S.rf
  have Gc : Gx p s m [.ref (bs + 0)].toArray meth c cX9_set 1 RX9 bs D y (some .int) 44 := ⟨hx, hb, hml, hown, hts, hK, hN, hL, hr, hlocks, hcb⟩
  have hl := lv_entry [.ref (bs + 0)] (n := 1) (Nat.le_of_ble_eq_true rfl)
  rw [lg_entry_eq]
  generalize (lg_sl [.ref (bs + 0)] ++ List.replicate (1 - (lg_sl [.ref (bs + 0)]).length) Slot.unset).toArray = ls at hl ⊢
  have hl : lv_has ls 1 [(0, .ref (bs + 0))] := hl
  change W p l e (rmm 4 90) s m [.ref (bs + 0)].toArray below meth c s.heap [] 0 0 (QI below [.ref (bs + 0)].toArray s bs D y r) (F0 m 0 ls [])
  unfold fX9_set at h
  refine lv_aload_n hx hb dX9_set_0 rfl (lv_at hl 0 rfl) ?_
  refine g_R (C := RX9) (T := TX9) (N := 10) (ci := 9) 0 2 11 hx hb hts hown hK hP in_X9 rfl hcb okF_0_2 rfc_0_2 fl_103 dX9_set_1 ?_
  refine g_I (C := RX7) (T := TX7) (N := 7) (ci := 7) 11 0 hx hb hts hown hK hP in_X7 rfl hcb okF_11_0 fl_104 dX9_set_4 ?_
  refine lv_if_ne (tgt := 17) hx hb dX9_set_7 (by decide) (fun c7 => ?_) (fun c7 => ?_)
  · replace h := if_f c7 h
    refine lv_aload_n hx hb dX9_set_17 rfl (lv_at hl 0 rfl) ?_
    refine g_R (C := RX9) (T := TX9) (N := 10) (ci := 9) 0 0 1 hx hb hts hown hK hP in_X9 rfl hcb okF_0_0 rfc_0_0 fl_106 dX9_set_18 ?_
    refine g_I (C := RX3) (T := TX3) (N := 11) (ci := 3) 1 6 hx hb hts hown hK hP in_X3 rfl hcb okF_1_6 fl_108 dX9_set_21 ?_
    refine lv_aload_n hx hb dX9_set_24 rfl (lv_at hl 0 rfl) ?_
    refine g_R (C := RX9) (T := TX9) (N := 10) (ci := 9) 0 0 1 hx hb hts hown hK hP in_X9 rfl hcb okF_0_0 rfc_0_0 fl_106 dX9_set_25 ?_
    refine g_I (C := RX3) (T := TX3) (N := 11) (ci := 3) 1 7 hx hb hts hown hK hP in_X3 rfl hcb okF_1_7 fl_110 dX9_set_28 ?_
    refine lv_iadd hx hb dX9_set_31 ?_
    refine lv_aload_n hx hb dX9_set_32 rfl (lv_at hl 0 rfl) ?_
    refine g_R (C := RX9) (T := TX9) (N := 10) (ci := 9) 0 2 11 hx hb hts hown hK hP in_X9 rfl hcb okF_0_2 rfc_0_2 fl_103 dX9_set_33 ?_
    refine g_I (C := RX7) (T := TX7) (N := 7) (ci := 7) 11 1 hx hb hts hown hK hP in_X7 rfl hcb okF_11_1 fl_118 dX9_set_36 ?_
    refine lv_iadd hx hb dX9_set_39 ?_
    refine lv_aload_n hx hb dX9_set_40 rfl (lv_at hl 0 rfl) ?_
    refine g_R (C := RX9) (T := TX9) (N := 10) (ci := 9) 0 3 16 hx hb hts hown hK hP in_X9 rfl hcb okF_0_3 rfc_0_3 fl_121 dX9_set_41 ?_
    obtain ⟨r44, er44, h⟩ := bd_s1 h
    refine c_VI (k := 16) (ci := 2) (As := []) (rest := [.int (((I 1 6) + (I 1 7)) + (I 11 1))]) hx hb hml hown hts hK hN hL hP hS (cX2_roomInAll_ l bs D y hcb n  I J r44 er44) ok_X2_roomInAll ov_X2_roomInAll ml_90 ⟨Nat.le_of_ble_eq_true rfl, Nat.le_of_ble_eq_true rfl⟩ rfl hcb kd_16 hl.1 rfl rfl (Nat.le_of_ble_eq_true rfl) ⟨Nat.zero_le _, Nat.zero_le _⟩ dX9_set_44 (fun H locs hP hS => ?_)
    refine lv_icmp_le (tgt := 57) hx hb dX9_set_47 (by decide) (fun c47 => ?_) (fun c47 => ?_)
    · replace h := if_t c47 h
      refine lv_aload_n hx hb dX9_set_57 rfl (lv_at hl 0 rfl) ?_
      refine g_R (C := RX9) (T := TX9) (N := 10) (ci := 9) 0 4 22 hx hb hts hown hK hP in_X9 rfl hcb okF_0_4 rfc_0_4 fl_101 dX9_set_58 ?_
      refine lv_aload_n hx hb dX9_set_61 rfl (lv_at hl 0 rfl) ?_
      refine g_R (C := RX9) (T := TX9) (N := 10) (ci := 9) 0 0 1 hx hb hts hown hK hP in_X9 rfl hcb okF_0_0 rfc_0_0 fl_106 dX9_set_62 ?_
      refine lv_aload_n hx hb dX9_set_65 rfl (lv_at hl 0 rfl) ?_
      refine g_R (C := RX9) (T := TX9) (N := 10) (ci := 9) 0 2 11 hx hb hts hown hK hP in_X9 rfl hcb okF_0_2 rfc_0_2 fl_103 dX9_set_66 ?_
      obtain ⟨r69, er69, h⟩ := bd_s1 h
      refine c_VV (k := 22) (ci := 5) (As := [.ref (bs + 1), .ref (bs + 11)]) (rest := []) hx hb hml hown hts hK hN hL hP hS (cX5_gather_ l bs D y hcb n  r44.2.1 r44.2.2 r69 er69) ok_X5_gather ov_X5_gather ml_91 ⟨Nat.le_of_ble_eq_true rfl, Nat.le_of_ble_eq_true rfl⟩ rfl hcb kd_22 hl.1 rfl rfl (Nat.le_of_ble_eq_true rfl) ⟨Nat.zero_le _, Nat.zero_le _⟩ dX9_set_69 (fun H locs hP hS => ?_)
      refine lv_aload_n hx hb dX9_set_72 rfl (lv_at hl 0 rfl) ?_
      refine g_R (C := RX9) (T := TX9) (N := 10) (ci := 9) 0 4 22 hx hb hts hown hK hP in_X9 rfl hcb okF_0_4 rfc_0_4 fl_101 dX9_set_73 ?_
      refine lv_aload_n hx hb dX9_set_76 rfl (lv_at hl 0 rfl) ?_
      refine g_R (C := RX9) (T := TX9) (N := 10) (ci := 9) 0 3 16 hx hb hts hown hK hP in_X9 rfl hcb okF_0_3 rfc_0_3 fl_121 dX9_set_77 ?_
      obtain ⟨r80, er80, h⟩ := bd_s1 h
      refine c_VV (k := 22) (ci := 5) (As := [.ref (bs + 16)]) (rest := []) hx hb hml hown hts hK hN hL hP hS (cX5_putAll_ l bs D y hcb n  r69.1 r69.2 r80 er80) ok_X5_putAll ov_X5_putAll ml_92 ⟨Nat.le_of_ble_eq_true rfl, Nat.le_of_ble_eq_true rfl⟩ rfl hcb kd_22 hl.1 rfl rfl (Nat.le_of_ble_eq_true rfl) ⟨Nat.zero_le _, Nat.zero_le _⟩ dX9_set_80 (fun H locs hP hS => ?_)
      refine lv_aload_n hx hb dX9_set_83 rfl (lv_at hl 0 rfl) ?_
      obtain ⟨r84, er84, h⟩ := bd_s1 h
      refine c_VV (k := 0) (ci := 9) (As := []) (rest := []) hx hb hml hown hts hK hN hL hP hS (cX9_forgetWays_ l bs D y hcb n  r80.1 r80.2 r84 er84) ok_X9_forgetWays ov_X9_forgetWays ml_68 ⟨Nat.le_of_ble_eq_true rfl, Nat.le_of_ble_eq_true rfl⟩ rfl hcb kd_0 hl.1 rfl rfl (Nat.le_of_ble_eq_true rfl) ⟨Nat.zero_le _, Nat.zero_le _⟩ dX9_set_84 (fun H locs hP hS => ?_)
      refine lv_aload_n hx hb dX9_set_87 rfl (lv_at hl 0 rfl) ?_
      refine g_R (C := RX9) (T := TX9) (N := 10) (ci := 9) 0 4 22 hx hb hts hown hK hP in_X9 rfl hcb okF_0_4 rfc_0_4 fl_101 dX9_set_88 ?_
      refine g_I (C := RX5) (T := TX5) (N := 7) (ci := 5) 22 1 hx hb hts hown hK hP in_X5 rfl hcb okF_22_1 fl_123 dX9_set_91 ?_
      exact r_I hx hb hr hlocks hP hK hN hL hS h dX9_set_94
    · replace h := if_f c47 h
      refine lv_aload_n hx hb dX9_set_50 rfl (lv_at hl 0 rfl) ?_
      refine lv_bipush (v := (-8 : Int32)) hx hb dX9_set_51 (by decide) ?_
      obtain ⟨r53, er53, h⟩ := bd_s1 h
      refine c_VI (k := 0) (ci := 9) (As := [.int (-8 : Int32)]) (rest := []) hx hb hml hown hts hK hN hL hP hS (cX9_refuse_ l bs D y hcb n (-8 : Int32) r44.2.1 r44.2.2 r53 er53) ok_X9_refuse ov_X9_refuse ml_71 ⟨Nat.le_of_ble_eq_true rfl, Nat.le_of_ble_eq_true rfl⟩ rfl hcb kd_0 hl.1 rfl rfl (Nat.le_of_ble_eq_true rfl) ⟨Nat.zero_le _, Nat.zero_le _⟩ dX9_set_53 (fun H locs hP hS => ?_)
      exact r_I hx hb hr hlocks hP hK hN hL hS h dX9_set_56
  · replace h := if_t c7 h
    refine lv_aload_n hx hb dX9_set_10 rfl (lv_at hl 0 rfl) ?_
    refine lv_bipush (v := (-2 : Int32)) hx hb dX9_set_11 (by decide) ?_
    obtain ⟨r13, er13, h⟩ := bd_s1 h
    refine c_VI (k := 0) (ci := 9) (As := [.int (-2 : Int32)]) (rest := []) hx hb hml hown hts hK hN hL hP hS (cX9_refuse_ l bs D y hcb n (-2 : Int32) I J r13 er13) ok_X9_refuse ov_X9_refuse ml_71 ⟨Nat.le_of_ble_eq_true rfl, Nat.le_of_ble_eq_true rfl⟩ rfl hcb kd_0 hl.1 rfl rfl (Nat.le_of_ble_eq_true rfl) ⟨Nat.zero_le _, Nat.zero_le _⟩ dX9_set_13 (fun H locs hP hS => ?_)
    exact r_I hx hb hr hlocks hP hK hN hL hS h dX9_set_16
theorem dX9_tile_0 : decode cX9_tile 0 = .ok (.aload_n 0, 1) := by decide +kernel
theorem dX9_tile_1 : decode cX9_tile 1 = .ok (.getfield 12, 3) := by decide +kernel
theorem dX9_tile_4 : decode cX9_tile 4 = .ok (.iload_n 1, 1) := by decide +kernel
theorem dX9_tile_5 : decode cX9_tile 5 = .ok (.invokevirtual 124, 3) := by decide +kernel
theorem dX9_tile_8 : decode cX9_tile 8 = .ok (.ifCond .ne 10, 3) := by decide +kernel
theorem dX9_tile_11 : decode cX9_tile 11 = .ok (.aload_n 0, 1) := by decide +kernel
theorem dX9_tile_12 : decode cX9_tile 12 = .ok (.bipush (-3), 2) := by decide +kernel
theorem dX9_tile_14 : decode cX9_tile 14 = .ok (.invokevirtual 91, 3) := by decide +kernel
theorem dX9_tile_17 : decode cX9_tile 17 = .ok (.ireturn, 1) := by decide +kernel
theorem dX9_tile_18 : decode cX9_tile 18 = .ok (.aload_n 0, 1) := by decide +kernel
theorem dX9_tile_19 : decode cX9_tile 19 = .ok (.getfield 40, 3) := by decide +kernel
theorem dX9_tile_22 : decode cX9_tile 22 = .ok (.iload_n 1, 1) := by decide +kernel
theorem dX9_tile_23 : decode cX9_tile 23 = .ok (.invokevirtual 218, 3) := by decide +kernel
theorem dX9_tile_26 : decode cX9_tile 26 = .ok (.ifCond .eq 15, 3) := by decide +kernel
theorem dX9_tile_29 : decode cX9_tile 29 = .ok (.aload_n 0, 1) := by decide +kernel
theorem dX9_tile_30 : decode cX9_tile 30 = .ok (.getfield 40, 3) := by decide +kernel
theorem dX9_tile_33 : decode cX9_tile 33 = .ok (.getfield 221, 3) := by decide +kernel
theorem dX9_tile_36 : decode cX9_tile 36 = .ok (.iload_n 1, 1) := by decide +kernel
theorem dX9_tile_37 : decode cX9_tile 37 = .ok (.iaload, 1) := by decide +kernel
theorem dX9_tile_38 : decode cX9_tile 38 = .ok (.goto 9, 3) := by decide +kernel
theorem dX9_tile_41 : decode cX9_tile 41 = .ok (.aload_n 0, 1) := by decide +kernel
theorem dX9_tile_42 : decode cX9_tile 42 = .ok (.bipush (-2), 2) := by decide +kernel
theorem dX9_tile_44 : decode cX9_tile 44 = .ok (.invokevirtual 91, 3) := by decide +kernel
theorem dX9_tile_47 : decode cX9_tile 47 = .ok (.ireturn, 1) := by decide +kernel
set_option maxHeartbeats 4000000 in
set_option maxRecDepth 100000 in
theorem cX9_tile_ (l : Launch) (bs : Nat) (D : va_G) (y : Y3) (hcb : 44 ≤ y.2.2.2) (n : Nat) (x1 : Int32) (I : MI) (J : MJ) (r : Int32 × M2) (h : fX9_tile n x1 I J = some r) : Met l yX9_tile (.code yX9_tile cX9_tile 2 (some .int) :: gtb) (rmm 2 43) (va_Pc [.ref (bs + 0), .int x1] (HB bs D y I J)) (QcI bs D y r) 0 0 (FA bs) := by
  refine Met.ofW (cc := cX9_tile) (maxL := 2) (ret := (some .int)) (by decide) rfl ?_
  intro p e s m args below meth c s₁ B hml hv
  obtain ⟨rfl, hP, hK, hN, hL⟩ := hv
  have hx := B.exec
  have hb := B.bytes
  have hr := B.returns
  have hts0 := atoms_spec (ws := .code yX9_tile cX9_tile 2 (some .int) :: gtb) B.pre
  have hts : ∀ w ∈ gtb, w.before [.ref (bs + 0), .int x1].toArray s = true := fun w hw => hts0 w (List.mem_cons_of_mem _ hw)
  have hown : s.vm.findClass RX9 = some m.cls := findClass_of_methodNamed B.named
  have hlocks := B.notSynchronized
  have hS : va_S (FA bs) s.heap s.heap [] := va_S.rf
  have Gc : Gx p s m [.ref (bs + 0), .int x1].toArray meth c cX9_tile 2 RX9 bs D y (some .int) 44 := ⟨hx, hb, hml, hown, hts, hK, hN, hL, hr, hlocks, hcb⟩
  have hl := lv_entry [.ref (bs + 0), .int x1] (n := 2) (Nat.le_of_ble_eq_true rfl)
  rw [lg_entry_eq]
  generalize (lg_sl [.ref (bs + 0), .int x1] ++ List.replicate (2 - (lg_sl [.ref (bs + 0), .int x1]).length) Slot.unset).toArray = ls at hl ⊢
  have hl : lv_has ls 2 [(0, .ref (bs + 0)), (1, .int x1)] := hl
  change W p l e (rmm 2 43) s m [.ref (bs + 0), .int x1].toArray below meth c s.heap [] 0 0 (QI below [.ref (bs + 0), .int x1].toArray s bs D y r) (F0 m 0 ls [])
  unfold fX9_tile at h
  refine lv_aload_n hx hb dX9_tile_0 rfl (lv_at hl 0 rfl) ?_
  refine g_R (C := RX9) (T := TX9) (N := 10) (ci := 9) 0 0 1 hx hb hts hown hK hP in_X9 rfl hcb okF_0_0 rfc_0_0 fl_106 dX9_tile_1 ?_
  refine lv_iload_n hx hb dX9_tile_4 rfl (lv_at hl 1 rfl) ?_
  obtain ⟨r5, er5, h⟩ := bd_s1 h
  refine c_VI (k := 1) (ci := 3) (As := [.int x1]) (rest := []) hx hb hml hown hts hK hN hL hP hS (cX3_has_ l bs D y hcb n x1 I J r5 er5) ok_X3_has ov_X3_has ml_79 ⟨Nat.le_of_ble_eq_true rfl, Nat.le_of_ble_eq_true rfl⟩ rfl hcb kd_1 hl.1 rfl rfl (Nat.le_of_ble_eq_true rfl) ⟨Nat.zero_le _, Nat.zero_le _⟩ dX9_tile_5 (fun H locs hP hS => ?_)
  refine lv_if_ne (tgt := 18) hx hb dX9_tile_8 (by decide) (fun c8 => ?_) (fun c8 => ?_)
  · replace h := if_f c8 h
    refine lv_aload_n hx hb dX9_tile_18 rfl (lv_at hl 0 rfl) ?_
    refine g_R (C := RX9) (T := TX9) (N := 10) (ci := 9) 0 4 22 hx hb hts hown hK hP in_X9 rfl hcb okF_0_4 rfc_0_4 fl_101 dX9_tile_19 ?_
    refine lv_iload_n hx hb dX9_tile_22 rfl (lv_at hl 1 rfl) ?_
    obtain ⟨r23, er23, h⟩ := bd_s1 h
    refine c_VI (k := 22) (ci := 5) (As := [.int x1]) (rest := []) hx hb hml hown hts hK hN hL hP hS (cX5_holds_ l bs D y hcb n x1 r5.2.1 r5.2.2 r23 er23) ok_X5_holds ov_X5_holds ml_93 ⟨Nat.le_of_ble_eq_true rfl, Nat.le_of_ble_eq_true rfl⟩ rfl hcb kd_22 hl.1 rfl rfl (Nat.le_of_ble_eq_true rfl) ⟨Nat.zero_le _, Nat.zero_le _⟩ dX9_tile_23 (fun H locs hP hS => ?_)
    refine lv_if_eq (tgt := 41) hx hb dX9_tile_26 (by decide) (fun c26 => ?_) (fun c26 => ?_)
    · replace h := if_t c26 h
      refine lv_aload_n hx hb dX9_tile_41 rfl (lv_at hl 0 rfl) ?_
      refine lv_bipush (v := (-2 : Int32)) hx hb dX9_tile_42 (by decide) ?_
      obtain ⟨r44, er44, h⟩ := bd_s1 h
      refine c_VI (k := 0) (ci := 9) (As := [.int (-2 : Int32)]) (rest := []) hx hb hml hown hts hK hN hL hP hS (cX9_refuse_ l bs D y hcb n (-2 : Int32) r23.2.1 r23.2.2 r44 er44) ok_X9_refuse ov_X9_refuse ml_71 ⟨Nat.le_of_ble_eq_true rfl, Nat.le_of_ble_eq_true rfl⟩ rfl hcb kd_0 hl.1 rfl rfl (Nat.le_of_ble_eq_true rfl) ⟨Nat.zero_le _, Nat.zero_le _⟩ dX9_tile_44 (fun H locs hP hS => ?_)
      exact r_I hx hb hr hlocks hP hK hN hL hS h dX9_tile_47
    · replace h := if_f c26 h
      refine lv_aload_n hx hb dX9_tile_29 rfl (lv_at hl 0 rfl) ?_
      refine g_R (C := RX9) (T := TX9) (N := 10) (ci := 9) 0 4 22 hx hb hts hown hK hP in_X9 rfl hcb okF_0_4 rfc_0_4 fl_101 dX9_tile_30 ?_
      refine g_R (C := RX5) (T := TX5) (N := 7) (ci := 5) 22 3 24 hx hb hts hown hK hP in_X5 rfl hcb okF_22_3 rfc_22_3 fl_124 dX9_tile_33 ?_
      refine lv_iload_n hx hb dX9_tile_36 rfl (lv_at hl 1 rfl) ?_
      obtain ⟨hi37, h⟩ := if_s1 h
      refine a_I 24 hx hb hK hP hcb aln_24 hi37 dX9_tile_37 ?_
      refine lv_goto (tgt := 47) hx hb dX9_tile_38 (by decide) ?_
      exact r_I hx hb hr hlocks hP hK hN hL hS h dX9_tile_47
  · replace h := if_t c8 h
    refine lv_aload_n hx hb dX9_tile_11 rfl (lv_at hl 0 rfl) ?_
    refine lv_bipush (v := (-3 : Int32)) hx hb dX9_tile_12 (by decide) ?_
    obtain ⟨r14, er14, h⟩ := bd_s1 h
    refine c_VI (k := 0) (ci := 9) (As := [.int (-3 : Int32)]) (rest := []) hx hb hml hown hts hK hN hL hP hS (cX9_refuse_ l bs D y hcb n (-3 : Int32) r5.2.1 r5.2.2 r14 er14) ok_X9_refuse ov_X9_refuse ml_71 ⟨Nat.le_of_ble_eq_true rfl, Nat.le_of_ble_eq_true rfl⟩ rfl hcb kd_0 hl.1 rfl rfl (Nat.le_of_ble_eq_true rfl) ⟨Nat.zero_le _, Nat.zero_le _⟩ dX9_tile_14 (fun H locs hP hS => ?_)
    exact r_I hx hb hr hlocks hP hK hN hL hS h dX9_tile_17
theorem dX9_move_0 : decode cX9_move 0 = .ok (.aload_n 0, 1) := by decide +kernel
theorem dX9_move_1 : decode cX9_move 1 = .ok (.getfield 12, 3) := by decide +kernel
theorem dX9_move_4 : decode cX9_move 4 = .ok (.iload_n 1, 1) := by decide +kernel
theorem dX9_move_5 : decode cX9_move 5 = .ok (.invokevirtual 124, 3) := by decide +kernel
theorem dX9_move_8 : decode cX9_move 8 = .ok (.ifCond .eq 14, 3) := by decide +kernel
theorem dX9_move_11 : decode cX9_move 11 = .ok (.aload_n 0, 1) := by decide +kernel
theorem dX9_move_12 : decode cX9_move 12 = .ok (.getfield 33, 3) := by decide +kernel
theorem dX9_move_15 : decode cX9_move 15 = .ok (.iload_n 2, 1) := by decide +kernel
theorem dX9_move_16 : decode cX9_move 16 = .ok (.invokevirtual 191, 3) := by decide +kernel
theorem dX9_move_19 : decode cX9_move 19 = .ok (.ifCond .ne 10, 3) := by decide +kernel
theorem dX9_move_22 : decode cX9_move 22 = .ok (.aload_n 0, 1) := by decide +kernel
theorem dX9_move_23 : decode cX9_move 23 = .ok (.bipush (-3), 2) := by decide +kernel
theorem dX9_move_25 : decode cX9_move 25 = .ok (.invokevirtual 91, 3) := by decide +kernel
theorem dX9_move_28 : decode cX9_move 28 = .ok (.ireturn, 1) := by decide +kernel
theorem dX9_move_29 : decode cX9_move 29 = .ok (.aload_n 0, 1) := by decide +kernel
theorem dX9_move_30 : decode cX9_move 30 = .ok (.getfield 40, 3) := by decide +kernel
theorem dX9_move_33 : decode cX9_move 33 = .ok (.iload_n 1, 1) := by decide +kernel
theorem dX9_move_34 : decode cX9_move 34 = .ok (.invokevirtual 218, 3) := by decide +kernel
theorem dX9_move_37 : decode cX9_move 37 = .ok (.ifCond .ne 10, 3) := by decide +kernel
theorem dX9_move_40 : decode cX9_move 40 = .ok (.aload_n 0, 1) := by decide +kernel
theorem dX9_move_41 : decode cX9_move 41 = .ok (.bipush (-2), 2) := by decide +kernel
theorem dX9_move_43 : decode cX9_move 43 = .ok (.invokevirtual 91, 3) := by decide +kernel
theorem dX9_move_46 : decode cX9_move 46 = .ok (.ireturn, 1) := by decide +kernel
theorem dX9_move_47 : decode cX9_move 47 = .ok (.aload_n 0, 1) := by decide +kernel
theorem dX9_move_48 : decode cX9_move 48 = .ok (.getfield 40, 3) := by decide +kernel
theorem dX9_move_51 : decode cX9_move 51 = .ok (.getfield 221, 3) := by decide +kernel
theorem dX9_move_54 : decode cX9_move 54 = .ok (.iload_n 1, 1) := by decide +kernel
theorem dX9_move_55 : decode cX9_move 55 = .ok (.iaload, 1) := by decide +kernel
theorem dX9_move_56 : decode cX9_move 56 = .ok (.istore_n 3, 1) := by decide +kernel
theorem dX9_move_57 : decode cX9_move 57 = .ok (.iload_n 3, 1) := by decide +kernel
theorem dX9_move_58 : decode cX9_move 58 = .ok (.iload_n 2, 1) := by decide +kernel
theorem dX9_move_59 : decode cX9_move 59 = .ok (.if_icmp .ne 5, 3) := by decide +kernel
theorem dX9_move_62 : decode cX9_move 62 = .ok (.iload_n 3, 1) := by decide +kernel
theorem dX9_move_63 : decode cX9_move 63 = .ok (.ireturn, 1) := by decide +kernel
theorem dX9_move_64 : decode cX9_move 64 = .ok (.aload_n 0, 1) := by decide +kernel
theorem dX9_move_65 : decode cX9_move 65 = .ok (.getfield 40, 3) := by decide +kernel
theorem dX9_move_68 : decode cX9_move 68 = .ok (.iload_n 2, 1) := by decide +kernel
theorem dX9_move_69 : decode cX9_move 69 = .ok (.aload_n 0, 1) := by decide +kernel
theorem dX9_move_70 : decode cX9_move 70 = .ok (.getfield 33, 3) := by decide +kernel
theorem dX9_move_73 : decode cX9_move 73 = .ok (.invokevirtual 224, 3) := by decide +kernel
theorem dX9_move_76 : decode cX9_move 76 = .ok (.ifCond .ne 10, 3) := by decide +kernel
theorem dX9_move_79 : decode cX9_move 79 = .ok (.aload_n 0, 1) := by decide +kernel
theorem dX9_move_80 : decode cX9_move 80 = .ok (.bipush (-8), 2) := by decide +kernel
theorem dX9_move_82 : decode cX9_move 82 = .ok (.invokevirtual 91, 3) := by decide +kernel
theorem dX9_move_85 : decode cX9_move 85 = .ok (.ireturn, 1) := by decide +kernel
theorem dX9_move_86 : decode cX9_move 86 = .ok (.aload_n 0, 1) := by decide +kernel
theorem dX9_move_87 : decode cX9_move 87 = .ok (.getfield 40, 3) := by decide +kernel
theorem dX9_move_90 : decode cX9_move 90 = .ok (.iload_n 1, 1) := by decide +kernel
theorem dX9_move_91 : decode cX9_move 91 = .ok (.iload_n 2, 1) := by decide +kernel
theorem dX9_move_92 : decode cX9_move 92 = .ok (.invokevirtual 228, 3) := by decide +kernel
theorem dX9_move_95 : decode cX9_move 95 = .ok (.aload_n 0, 1) := by decide +kernel
theorem dX9_move_96 : decode cX9_move 96 = .ok (.invokevirtual 212, 3) := by decide +kernel
theorem dX9_move_99 : decode cX9_move 99 = .ok (.iload_n 3, 1) := by decide +kernel
theorem dX9_move_100 : decode cX9_move 100 = .ok (.ireturn, 1) := by decide +kernel
set_option maxHeartbeats 4000000 in
set_option maxRecDepth 100000 in
theorem wX9_move_22 {p : Program} {l : Launch} {e : Env} {s : State} {m : MethodId} {args : Array Value} {below : List Frame} {meth : Method} {c : Code} (bs : Nat) (D : va_G) (y : Y3) (n : Nat) (r : Int32 × M2) (Gc : Gx p s m args meth c cX9_move 4 RX9 bs D y (some .int) 44)  (I : MI) (J : MJ) (H : Heap) (locs : List Loc) (ls : Array Slot) (hP : va_P D vwCl (wl bs y I J) H) (hS : va_S (FA bs) s.heap H locs) (hl : lv_has ls 4 [(0, .ref (bs + 0))]) (h : fX9_move_22 n   I J = some r) : W p l e (rmm 4 86) s m args below meth c H locs 0 0 (QI below args s bs D y r) (F0 m 22 ls []) := by
  obtain ⟨hx, hb, hml, hown, hts, hK, hN, hL, hr, hlocks, hcb⟩ := id Gc
  unfold fX9_move_22 at h
  refine lv_aload_n hx hb dX9_move_22 rfl (lv_at hl 0 rfl) ?_
  refine lv_bipush (v := (-3 : Int32)) hx hb dX9_move_23 (by decide) ?_
  obtain ⟨r25, er25, h⟩ := bd_s1 h
  refine c_VI (k := 0) (ci := 9) (As := [.int (-3 : Int32)]) (rest := []) hx hb hml hown hts hK hN hL hP hS (cX9_refuse_ l bs D y hcb n (-3 : Int32) I J r25 er25) ok_X9_refuse ov_X9_refuse ml_71 ⟨Nat.le_of_ble_eq_true rfl, Nat.le_of_ble_eq_true rfl⟩ rfl hcb kd_0 hl.1 rfl rfl (Nat.le_of_ble_eq_true rfl) ⟨Nat.zero_le _, Nat.zero_le _⟩ dX9_move_25 (fun H locs hP hS => ?_)
  exact r_I hx hb hr hlocks hP hK hN hL hS h dX9_move_28
set_option maxHeartbeats 4000000 in
set_option maxRecDepth 100000 in
theorem cX9_move_ (l : Launch) (bs : Nat) (D : va_G) (y : Y3) (hcb : 44 ≤ y.2.2.2) (n : Nat) (x1 : Int32) (x2 : Int32) (I : MI) (J : MJ) (r : Int32 × M2) (h : fX9_move n x1 x2 I J = some r) : Met l yX9_move (.code yX9_move cX9_move 4 (some .int) :: gtb) (rmm 4 86) (va_Pc [.ref (bs + 0), .int x1, .int x2] (HB bs D y I J)) (QcI bs D y r) 0 0 (FA bs) := by
  refine Met.ofW (cc := cX9_move) (maxL := 4) (ret := (some .int)) (by decide) rfl ?_
  intro p e s m args below meth c s₁ B hml hv
  obtain ⟨rfl, hP, hK, hN, hL⟩ := hv
  have hx := B.exec
  have hb := B.bytes
  have hr := B.returns
  have hts0 := atoms_spec (ws := .code yX9_move cX9_move 4 (some .int) :: gtb) B.pre
  have hts : ∀ w ∈ gtb, w.before [.ref (bs + 0), .int x1, .int x2].toArray s = true := fun w hw => hts0 w (List.mem_cons_of_mem _ hw)
  have hown : s.vm.findClass RX9 = some m.cls := findClass_of_methodNamed B.named
  have hlocks := B.notSynchronized
  have hS : va_S (FA bs) s.heap s.heap [] := va_S.rf
  have Gc : Gx p s m [.ref (bs + 0), .int x1, .int x2].toArray meth c cX9_move 4 RX9 bs D y (some .int) 44 := ⟨hx, hb, hml, hown, hts, hK, hN, hL, hr, hlocks, hcb⟩
  have hl := lv_entry [.ref (bs + 0), .int x1, .int x2] (n := 4) (Nat.le_of_ble_eq_true rfl)
  rw [lg_entry_eq]
  generalize (lg_sl [.ref (bs + 0), .int x1, .int x2] ++ List.replicate (4 - (lg_sl [.ref (bs + 0), .int x1, .int x2]).length) Slot.unset).toArray = ls at hl ⊢
  have hl : lv_has ls 4 [(0, .ref (bs + 0)), (1, .int x1), (2, .int x2)] := hl
  change W p l e (rmm 4 86) s m [.ref (bs + 0), .int x1, .int x2].toArray below meth c s.heap [] 0 0 (QI below [.ref (bs + 0), .int x1, .int x2].toArray s bs D y r) (F0 m 0 ls [])
  unfold fX9_move at h
  refine lv_aload_n hx hb dX9_move_0 rfl (lv_at hl 0 rfl) ?_
  refine g_R (C := RX9) (T := TX9) (N := 10) (ci := 9) 0 0 1 hx hb hts hown hK hP in_X9 rfl hcb okF_0_0 rfc_0_0 fl_106 dX9_move_1 ?_
  refine lv_iload_n hx hb dX9_move_4 rfl (lv_at hl 1 rfl) ?_
  obtain ⟨r5, er5, h⟩ := bd_s1 h
  refine c_VI (k := 1) (ci := 3) (As := [.int x1]) (rest := []) hx hb hml hown hts hK hN hL hP hS (cX3_has_ l bs D y hcb n x1 I J r5 er5) ok_X3_has ov_X3_has ml_79 ⟨Nat.le_of_ble_eq_true rfl, Nat.le_of_ble_eq_true rfl⟩ rfl hcb kd_1 hl.1 rfl rfl (Nat.le_of_ble_eq_true rfl) ⟨Nat.zero_le _, Nat.zero_le _⟩ dX9_move_5 (fun H locs hP hS => ?_)
  refine lv_if_eq (tgt := 22) hx hb dX9_move_8 (by decide) (fun c8 => ?_) (fun c8 => ?_)
  · replace h := if_t c8 h
    exact wX9_move_22 bs D y n  r Gc   r5.2.1 r5.2.2 _ _ _ hP hS (lv_sub hl [0] rfl) h
  · replace h := if_f c8 h
    refine lv_aload_n hx hb dX9_move_11 rfl (lv_at hl 0 rfl) ?_
    refine g_R (C := RX9) (T := TX9) (N := 10) (ci := 9) 0 3 16 hx hb hts hown hK hP in_X9 rfl hcb okF_0_3 rfc_0_3 fl_121 dX9_move_12 ?_
    refine lv_iload_n hx hb dX9_move_15 rfl (lv_at hl 2 rfl) ?_
    obtain ⟨r16, er16, h⟩ := bd_s1 h
    refine c_VI (k := 16) (ci := 2) (As := [.int x2]) (rest := []) hx hb hml hown hts hK hN hL hP hS (cX2_hasTile_ l bs D y hcb n x2 r5.2.1 r5.2.2 r16 er16) ok_X2_hasTile ov_X2_hasTile ml_88 ⟨Nat.le_of_ble_eq_true rfl, Nat.le_of_ble_eq_true rfl⟩ rfl hcb kd_16 hl.1 rfl rfl (Nat.le_of_ble_eq_true rfl) ⟨Nat.zero_le _, Nat.zero_le _⟩ dX9_move_16 (fun H locs hP hS => ?_)
    refine lv_if_ne (tgt := 29) hx hb dX9_move_19 (by decide) (fun c19 => ?_) (fun c19 => ?_)
    · replace h := if_f c19 h
      refine lv_aload_n hx hb dX9_move_29 rfl (lv_at hl 0 rfl) ?_
      refine g_R (C := RX9) (T := TX9) (N := 10) (ci := 9) 0 4 22 hx hb hts hown hK hP in_X9 rfl hcb okF_0_4 rfc_0_4 fl_101 dX9_move_30 ?_
      refine lv_iload_n hx hb dX9_move_33 rfl (lv_at hl 1 rfl) ?_
      obtain ⟨r34, er34, h⟩ := bd_s1 h
      refine c_VI (k := 22) (ci := 5) (As := [.int x1]) (rest := []) hx hb hml hown hts hK hN hL hP hS (cX5_holds_ l bs D y hcb n x1 r16.2.1 r16.2.2 r34 er34) ok_X5_holds ov_X5_holds ml_93 ⟨Nat.le_of_ble_eq_true rfl, Nat.le_of_ble_eq_true rfl⟩ rfl hcb kd_22 hl.1 rfl rfl (Nat.le_of_ble_eq_true rfl) ⟨Nat.zero_le _, Nat.zero_le _⟩ dX9_move_34 (fun H locs hP hS => ?_)
      refine lv_if_ne (tgt := 47) hx hb dX9_move_37 (by decide) (fun c37 => ?_) (fun c37 => ?_)
      · replace h := if_f c37 h
        refine lv_aload_n hx hb dX9_move_47 rfl (lv_at hl 0 rfl) ?_
        refine g_R (C := RX9) (T := TX9) (N := 10) (ci := 9) 0 4 22 hx hb hts hown hK hP in_X9 rfl hcb okF_0_4 rfc_0_4 fl_101 dX9_move_48 ?_
        refine g_R (C := RX5) (T := TX5) (N := 7) (ci := 5) 22 3 24 hx hb hts hown hK hP in_X5 rfl hcb okF_22_3 rfc_22_3 fl_124 dX9_move_51 ?_
        refine lv_iload_n hx hb dX9_move_54 rfl (lv_at hl 1 rfl) ?_
        obtain ⟨hi55, h⟩ := if_s1 h
        refine a_I 24 hx hb hK hP hcb aln_24 hi55 dX9_move_55 ?_
        obtain ⟨v56, ev56, h⟩ := lt_s1 h
        refine top_i ev56 ?_
        refine lv_istore_n (lv' := [(3, .int v56), (0, .ref (bs + 0)), (1, .int x1), (2, .int x2)]) hx hb dX9_move_56 rfl hl (by decide) rfl (fun ls hl => ?_)
        refine lv_iload_n hx hb dX9_move_57 rfl (lv_at hl 0 rfl) ?_
        refine lv_iload_n hx hb dX9_move_58 rfl (lv_at hl 3 rfl) ?_
        refine lv_icmp_ne (tgt := 64) hx hb dX9_move_59 (by decide) (fun c59 => ?_) (fun c59 => ?_)
        · replace h := if_f c59 h
          refine lv_aload_n hx hb dX9_move_64 rfl (lv_at hl 1 rfl) ?_
          refine g_R (C := RX9) (T := TX9) (N := 10) (ci := 9) 0 4 22 hx hb hts hown hK hP in_X9 rfl hcb okF_0_4 rfc_0_4 fl_101 dX9_move_65 ?_
          refine lv_iload_n hx hb dX9_move_68 rfl (lv_at hl 3 rfl) ?_
          refine lv_aload_n hx hb dX9_move_69 rfl (lv_at hl 1 rfl) ?_
          refine g_R (C := RX9) (T := TX9) (N := 10) (ci := 9) 0 3 16 hx hb hts hown hK hP in_X9 rfl hcb okF_0_3 rfc_0_3 fl_121 dX9_move_70 ?_
          obtain ⟨r73, er73, h⟩ := bd_s1 h
          refine c_VI (k := 22) (ci := 5) (As := [.int x2, .ref (bs + 16)]) (rest := []) hx hb hml hown hts hK hN hL hP hS (cX5_hasRoom_ l bs D y hcb n x2 r34.2.1 r34.2.2 r73 er73) ok_X5_hasRoom ov_X5_hasRoom ml_94 ⟨Nat.le_of_ble_eq_true rfl, Nat.le_of_ble_eq_true rfl⟩ rfl hcb kd_22 hl.1 rfl rfl (Nat.le_of_ble_eq_true rfl) ⟨Nat.zero_le _, Nat.zero_le _⟩ dX9_move_73 (fun H locs hP hS => ?_)
          refine lv_if_ne (tgt := 86) hx hb dX9_move_76 (by decide) (fun c76 => ?_) (fun c76 => ?_)
          · replace h := if_f c76 h
            refine lv_aload_n hx hb dX9_move_86 rfl (lv_at hl 1 rfl) ?_
            refine g_R (C := RX9) (T := TX9) (N := 10) (ci := 9) 0 4 22 hx hb hts hown hK hP in_X9 rfl hcb okF_0_4 rfc_0_4 fl_101 dX9_move_87 ?_
            refine lv_iload_n hx hb dX9_move_90 rfl (lv_at hl 2 rfl) ?_
            refine lv_iload_n hx hb dX9_move_91 rfl (lv_at hl 3 rfl) ?_
            obtain ⟨r92, er92, h⟩ := bd_s1 h
            refine c_VV (k := 22) (ci := 5) (As := [.int x1, .int x2]) (rest := []) hx hb hml hown hts hK hN hL hP hS (cX5_carryOver_ l bs D y hcb n x1 x2 r73.2.1 r73.2.2 r92 er92) ok_X5_carryOver ov_X5_carryOver ml_95 ⟨Nat.le_of_ble_eq_true rfl, Nat.le_of_ble_eq_true rfl⟩ rfl hcb kd_22 hl.1 rfl rfl (Nat.le_of_ble_eq_true rfl) ⟨Nat.zero_le _, Nat.zero_le _⟩ dX9_move_92 (fun H locs hP hS => ?_)
            refine lv_aload_n hx hb dX9_move_95 rfl (lv_at hl 1 rfl) ?_
            obtain ⟨r96, er96, h⟩ := bd_s1 h
            refine c_VV (k := 0) (ci := 9) (As := []) (rest := []) hx hb hml hown hts hK hN hL hP hS (cX9_forgetWays_ l bs D y hcb n  r92.1 r92.2 r96 er96) ok_X9_forgetWays ov_X9_forgetWays ml_68 ⟨Nat.le_of_ble_eq_true rfl, Nat.le_of_ble_eq_true rfl⟩ rfl hcb kd_0 hl.1 rfl rfl (Nat.le_of_ble_eq_true rfl) ⟨Nat.zero_le _, Nat.zero_le _⟩ dX9_move_96 (fun H locs hP hS => ?_)
            refine lv_iload_n hx hb dX9_move_99 rfl (lv_at hl 0 rfl) ?_
            exact r_I hx hb hr hlocks hP hK hN hL hS h dX9_move_100
          · replace h := if_t c76 h
            refine lv_aload_n hx hb dX9_move_79 rfl (lv_at hl 1 rfl) ?_
            refine lv_bipush (v := (-8 : Int32)) hx hb dX9_move_80 (by decide) ?_
            obtain ⟨r82, er82, h⟩ := bd_s1 h
            refine c_VI (k := 0) (ci := 9) (As := [.int (-8 : Int32)]) (rest := []) hx hb hml hown hts hK hN hL hP hS (cX9_refuse_ l bs D y hcb n (-8 : Int32) r73.2.1 r73.2.2 r82 er82) ok_X9_refuse ov_X9_refuse ml_71 ⟨Nat.le_of_ble_eq_true rfl, Nat.le_of_ble_eq_true rfl⟩ rfl hcb kd_0 hl.1 rfl rfl (Nat.le_of_ble_eq_true rfl) ⟨Nat.zero_le _, Nat.zero_le _⟩ dX9_move_82 (fun H locs hP hS => ?_)
            exact r_I hx hb hr hlocks hP hK hN hL hS h dX9_move_85
        · replace h := if_t c59 h
          refine lv_iload_n hx hb dX9_move_62 rfl (lv_at hl 0 rfl) ?_
          exact r_I hx hb hr hlocks hP hK hN hL hS h dX9_move_63
      · replace h := if_t c37 h
        refine lv_aload_n hx hb dX9_move_40 rfl (lv_at hl 0 rfl) ?_
        refine lv_bipush (v := (-2 : Int32)) hx hb dX9_move_41 (by decide) ?_
        obtain ⟨r43, er43, h⟩ := bd_s1 h
        refine c_VI (k := 0) (ci := 9) (As := [.int (-2 : Int32)]) (rest := []) hx hb hml hown hts hK hN hL hP hS (cX9_refuse_ l bs D y hcb n (-2 : Int32) r34.2.1 r34.2.2 r43 er43) ok_X9_refuse ov_X9_refuse ml_71 ⟨Nat.le_of_ble_eq_true rfl, Nat.le_of_ble_eq_true rfl⟩ rfl hcb kd_0 hl.1 rfl rfl (Nat.le_of_ble_eq_true rfl) ⟨Nat.zero_le _, Nat.zero_le _⟩ dX9_move_43 (fun H locs hP hS => ?_)
        exact r_I hx hb hr hlocks hP hK hN hL hS h dX9_move_46
    · replace h := if_t c19 h
      exact wX9_move_22 bs D y n  r Gc   r16.2.1 r16.2.2 _ _ _ hP hS (lv_sub hl [0] rfl) h
theorem dX9_swap_0 : decode cX9_swap 0 = .ok (.aload_n 0, 1) := by decide +kernel
theorem dX9_swap_1 : decode cX9_swap 1 = .ok (.getfield 12, 3) := by decide +kernel
theorem dX9_swap_4 : decode cX9_swap 4 = .ok (.iload_n 1, 1) := by decide +kernel
theorem dX9_swap_5 : decode cX9_swap 5 = .ok (.invokevirtual 124, 3) := by decide +kernel
theorem dX9_swap_8 : decode cX9_swap 8 = .ok (.ifCond .eq 14, 3) := by decide +kernel
theorem dX9_swap_11 : decode cX9_swap 11 = .ok (.aload_n 0, 1) := by decide +kernel
theorem dX9_swap_12 : decode cX9_swap 12 = .ok (.getfield 12, 3) := by decide +kernel
theorem dX9_swap_15 : decode cX9_swap 15 = .ok (.iload_n 2, 1) := by decide +kernel
theorem dX9_swap_16 : decode cX9_swap 16 = .ok (.invokevirtual 124, 3) := by decide +kernel
theorem dX9_swap_19 : decode cX9_swap 19 = .ok (.ifCond .ne 10, 3) := by decide +kernel
theorem dX9_swap_22 : decode cX9_swap 22 = .ok (.aload_n 0, 1) := by decide +kernel
theorem dX9_swap_23 : decode cX9_swap 23 = .ok (.bipush (-3), 2) := by decide +kernel
theorem dX9_swap_25 : decode cX9_swap 25 = .ok (.invokevirtual 91, 3) := by decide +kernel
theorem dX9_swap_28 : decode cX9_swap 28 = .ok (.ireturn, 1) := by decide +kernel
theorem dX9_swap_29 : decode cX9_swap 29 = .ok (.aload_n 0, 1) := by decide +kernel
theorem dX9_swap_30 : decode cX9_swap 30 = .ok (.getfield 40, 3) := by decide +kernel
theorem dX9_swap_33 : decode cX9_swap 33 = .ok (.iload_n 1, 1) := by decide +kernel
theorem dX9_swap_34 : decode cX9_swap 34 = .ok (.invokevirtual 218, 3) := by decide +kernel
theorem dX9_swap_37 : decode cX9_swap 37 = .ok (.ifCond .eq 14, 3) := by decide +kernel
theorem dX9_swap_40 : decode cX9_swap 40 = .ok (.aload_n 0, 1) := by decide +kernel
theorem dX9_swap_41 : decode cX9_swap 41 = .ok (.getfield 40, 3) := by decide +kernel
theorem dX9_swap_44 : decode cX9_swap 44 = .ok (.iload_n 2, 1) := by decide +kernel
theorem dX9_swap_45 : decode cX9_swap 45 = .ok (.invokevirtual 218, 3) := by decide +kernel
theorem dX9_swap_48 : decode cX9_swap 48 = .ok (.ifCond .ne 10, 3) := by decide +kernel
theorem dX9_swap_51 : decode cX9_swap 51 = .ok (.aload_n 0, 1) := by decide +kernel
theorem dX9_swap_52 : decode cX9_swap 52 = .ok (.bipush (-2), 2) := by decide +kernel
theorem dX9_swap_54 : decode cX9_swap 54 = .ok (.invokevirtual 91, 3) := by decide +kernel
theorem dX9_swap_57 : decode cX9_swap 57 = .ok (.ireturn, 1) := by decide +kernel
theorem dX9_swap_58 : decode cX9_swap 58 = .ok (.aload_n 0, 1) := by decide +kernel
theorem dX9_swap_59 : decode cX9_swap 59 = .ok (.getfield 40, 3) := by decide +kernel
theorem dX9_swap_62 : decode cX9_swap 62 = .ok (.iload_n 1, 1) := by decide +kernel
theorem dX9_swap_63 : decode cX9_swap 63 = .ok (.iload_n 2, 1) := by decide +kernel
theorem dX9_swap_64 : decode cX9_swap 64 = .ok (.invokevirtual 232, 3) := by decide +kernel
theorem dX9_swap_67 : decode cX9_swap 67 = .ok (.aload_n 0, 1) := by decide +kernel
theorem dX9_swap_68 : decode cX9_swap 68 = .ok (.invokevirtual 212, 3) := by decide +kernel
theorem dX9_swap_71 : decode cX9_swap 71 = .ok (.aload_n 0, 1) := by decide +kernel
theorem dX9_swap_72 : decode cX9_swap 72 = .ok (.getfield 40, 3) := by decide +kernel
theorem dX9_swap_75 : decode cX9_swap 75 = .ok (.aload_n 0, 1) := by decide +kernel
theorem dX9_swap_76 : decode cX9_swap 76 = .ok (.getfield 33, 3) := by decide +kernel
theorem dX9_swap_79 : decode cX9_swap 79 = .ok (.invokevirtual 235, 3) := by decide +kernel
theorem dX9_swap_82 : decode cX9_swap 82 = .ok (.ireturn, 1) := by decide +kernel
set_option maxHeartbeats 4000000 in
set_option maxRecDepth 100000 in
theorem wX9_swap_51 {p : Program} {l : Launch} {e : Env} {s : State} {m : MethodId} {args : Array Value} {below : List Frame} {meth : Method} {c : Code} (bs : Nat) (D : va_G) (y : Y3) (n : Nat) (r : Int32 × M2) (Gc : Gx p s m args meth c cX9_swap 3 RX9 bs D y (some .int) 44)  (I : MI) (J : MJ) (H : Heap) (locs : List Loc) (ls : Array Slot) (hP : va_P D vwCl (wl bs y I J) H) (hS : va_S (FA bs) s.heap H locs) (hl : lv_has ls 3 [(0, .ref (bs + 0))]) (h : fX9_swap_51 n   I J = some r) : W p l e (rmm 3 75) s m args below meth c H locs 0 0 (QI below args s bs D y r) (F0 m 51 ls []) := by
  obtain ⟨hx, hb, hml, hown, hts, hK, hN, hL, hr, hlocks, hcb⟩ := id Gc
  unfold fX9_swap_51 at h
  refine lv_aload_n hx hb dX9_swap_51 rfl (lv_at hl 0 rfl) ?_
  refine lv_bipush (v := (-2 : Int32)) hx hb dX9_swap_52 (by decide) ?_
  obtain ⟨r54, er54, h⟩ := bd_s1 h
  refine c_VI (k := 0) (ci := 9) (As := [.int (-2 : Int32)]) (rest := []) hx hb hml hown hts hK hN hL hP hS (cX9_refuse_ l bs D y hcb n (-2 : Int32) I J r54 er54) ok_X9_refuse ov_X9_refuse ml_71 ⟨Nat.le_of_ble_eq_true rfl, Nat.le_of_ble_eq_true rfl⟩ rfl hcb kd_0 hl.1 rfl rfl (Nat.le_of_ble_eq_true rfl) ⟨Nat.zero_le _, Nat.zero_le _⟩ dX9_swap_54 (fun H locs hP hS => ?_)
  exact r_I hx hb hr hlocks hP hK hN hL hS h dX9_swap_57
set_option maxHeartbeats 4000000 in
set_option maxRecDepth 100000 in
theorem wX9_swap_22 {p : Program} {l : Launch} {e : Env} {s : State} {m : MethodId} {args : Array Value} {below : List Frame} {meth : Method} {c : Code} (bs : Nat) (D : va_G) (y : Y3) (n : Nat) (r : Int32 × M2) (Gc : Gx p s m args meth c cX9_swap 3 RX9 bs D y (some .int) 44)  (I : MI) (J : MJ) (H : Heap) (locs : List Loc) (ls : Array Slot) (hP : va_P D vwCl (wl bs y I J) H) (hS : va_S (FA bs) s.heap H locs) (hl : lv_has ls 3 [(0, .ref (bs + 0))]) (h : fX9_swap_22 n   I J = some r) : W p l e (rmm 3 75) s m args below meth c H locs 0 0 (QI below args s bs D y r) (F0 m 22 ls []) := by
  obtain ⟨hx, hb, hml, hown, hts, hK, hN, hL, hr, hlocks, hcb⟩ := id Gc
  unfold fX9_swap_22 at h
  refine lv_aload_n hx hb dX9_swap_22 rfl (lv_at hl 0 rfl) ?_
  refine lv_bipush (v := (-3 : Int32)) hx hb dX9_swap_23 (by decide) ?_
  obtain ⟨r25, er25, h⟩ := bd_s1 h
  refine c_VI (k := 0) (ci := 9) (As := [.int (-3 : Int32)]) (rest := []) hx hb hml hown hts hK hN hL hP hS (cX9_refuse_ l bs D y hcb n (-3 : Int32) I J r25 er25) ok_X9_refuse ov_X9_refuse ml_71 ⟨Nat.le_of_ble_eq_true rfl, Nat.le_of_ble_eq_true rfl⟩ rfl hcb kd_0 hl.1 rfl rfl (Nat.le_of_ble_eq_true rfl) ⟨Nat.zero_le _, Nat.zero_le _⟩ dX9_swap_25 (fun H locs hP hS => ?_)
  exact r_I hx hb hr hlocks hP hK hN hL hS h dX9_swap_28
set_option maxHeartbeats 4000000 in
set_option maxRecDepth 100000 in
theorem cX9_swap_ (l : Launch) (bs : Nat) (D : va_G) (y : Y3) (hcb : 44 ≤ y.2.2.2) (n : Nat) (x1 : Int32) (x2 : Int32) (I : MI) (J : MJ) (r : Int32 × M2) (h : fX9_swap n x1 x2 I J = some r) : Met l yX9_swap (.code yX9_swap cX9_swap 3 (some .int) :: gtb) (rmm 3 75) (va_Pc [.ref (bs + 0), .int x1, .int x2] (HB bs D y I J)) (QcI bs D y r) 0 0 (FA bs) := by
  refine Met.ofW (cc := cX9_swap) (maxL := 3) (ret := (some .int)) (by decide) rfl ?_
  intro p e s m args below meth c s₁ B hml hv
  obtain ⟨rfl, hP, hK, hN, hL⟩ := hv
  have hx := B.exec
  have hb := B.bytes
  have hr := B.returns
  have hts0 := atoms_spec (ws := .code yX9_swap cX9_swap 3 (some .int) :: gtb) B.pre
  have hts : ∀ w ∈ gtb, w.before [.ref (bs + 0), .int x1, .int x2].toArray s = true := fun w hw => hts0 w (List.mem_cons_of_mem _ hw)
  have hown : s.vm.findClass RX9 = some m.cls := findClass_of_methodNamed B.named
  have hlocks := B.notSynchronized
  have hS : va_S (FA bs) s.heap s.heap [] := va_S.rf
  have Gc : Gx p s m [.ref (bs + 0), .int x1, .int x2].toArray meth c cX9_swap 3 RX9 bs D y (some .int) 44 := ⟨hx, hb, hml, hown, hts, hK, hN, hL, hr, hlocks, hcb⟩
  have hl := lv_entry [.ref (bs + 0), .int x1, .int x2] (n := 3) (Nat.le_of_ble_eq_true rfl)
  rw [lg_entry_eq]
  generalize (lg_sl [.ref (bs + 0), .int x1, .int x2] ++ List.replicate (3 - (lg_sl [.ref (bs + 0), .int x1, .int x2]).length) Slot.unset).toArray = ls at hl ⊢
  have hl : lv_has ls 3 [(0, .ref (bs + 0)), (1, .int x1), (2, .int x2)] := hl
  change W p l e (rmm 3 75) s m [.ref (bs + 0), .int x1, .int x2].toArray below meth c s.heap [] 0 0 (QI below [.ref (bs + 0), .int x1, .int x2].toArray s bs D y r) (F0 m 0 ls [])
  unfold fX9_swap at h
  refine lv_aload_n hx hb dX9_swap_0 rfl (lv_at hl 0 rfl) ?_
  refine g_R (C := RX9) (T := TX9) (N := 10) (ci := 9) 0 0 1 hx hb hts hown hK hP in_X9 rfl hcb okF_0_0 rfc_0_0 fl_106 dX9_swap_1 ?_
  refine lv_iload_n hx hb dX9_swap_4 rfl (lv_at hl 1 rfl) ?_
  obtain ⟨r5, er5, h⟩ := bd_s1 h
  refine c_VI (k := 1) (ci := 3) (As := [.int x1]) (rest := []) hx hb hml hown hts hK hN hL hP hS (cX3_has_ l bs D y hcb n x1 I J r5 er5) ok_X3_has ov_X3_has ml_79 ⟨Nat.le_of_ble_eq_true rfl, Nat.le_of_ble_eq_true rfl⟩ rfl hcb kd_1 hl.1 rfl rfl (Nat.le_of_ble_eq_true rfl) ⟨Nat.zero_le _, Nat.zero_le _⟩ dX9_swap_5 (fun H locs hP hS => ?_)
  refine lv_if_eq (tgt := 22) hx hb dX9_swap_8 (by decide) (fun c8 => ?_) (fun c8 => ?_)
  · replace h := if_t c8 h
    exact wX9_swap_22 bs D y n  r Gc   r5.2.1 r5.2.2 _ _ _ hP hS (lv_sub hl [0] rfl) h
  · replace h := if_f c8 h
    refine lv_aload_n hx hb dX9_swap_11 rfl (lv_at hl 0 rfl) ?_
    refine g_R (C := RX9) (T := TX9) (N := 10) (ci := 9) 0 0 1 hx hb hts hown hK hP in_X9 rfl hcb okF_0_0 rfc_0_0 fl_106 dX9_swap_12 ?_
    refine lv_iload_n hx hb dX9_swap_15 rfl (lv_at hl 2 rfl) ?_
    obtain ⟨r16, er16, h⟩ := bd_s1 h
    refine c_VI (k := 1) (ci := 3) (As := [.int x2]) (rest := []) hx hb hml hown hts hK hN hL hP hS (cX3_has_ l bs D y hcb n x2 r5.2.1 r5.2.2 r16 er16) ok_X3_has ov_X3_has ml_79 ⟨Nat.le_of_ble_eq_true rfl, Nat.le_of_ble_eq_true rfl⟩ rfl hcb kd_1 hl.1 rfl rfl (Nat.le_of_ble_eq_true rfl) ⟨Nat.zero_le _, Nat.zero_le _⟩ dX9_swap_16 (fun H locs hP hS => ?_)
    refine lv_if_ne (tgt := 29) hx hb dX9_swap_19 (by decide) (fun c19 => ?_) (fun c19 => ?_)
    · replace h := if_f c19 h
      refine lv_aload_n hx hb dX9_swap_29 rfl (lv_at hl 0 rfl) ?_
      refine g_R (C := RX9) (T := TX9) (N := 10) (ci := 9) 0 4 22 hx hb hts hown hK hP in_X9 rfl hcb okF_0_4 rfc_0_4 fl_101 dX9_swap_30 ?_
      refine lv_iload_n hx hb dX9_swap_33 rfl (lv_at hl 1 rfl) ?_
      obtain ⟨r34, er34, h⟩ := bd_s1 h
      refine c_VI (k := 22) (ci := 5) (As := [.int x1]) (rest := []) hx hb hml hown hts hK hN hL hP hS (cX5_holds_ l bs D y hcb n x1 r16.2.1 r16.2.2 r34 er34) ok_X5_holds ov_X5_holds ml_93 ⟨Nat.le_of_ble_eq_true rfl, Nat.le_of_ble_eq_true rfl⟩ rfl hcb kd_22 hl.1 rfl rfl (Nat.le_of_ble_eq_true rfl) ⟨Nat.zero_le _, Nat.zero_le _⟩ dX9_swap_34 (fun H locs hP hS => ?_)
      refine lv_if_eq (tgt := 51) hx hb dX9_swap_37 (by decide) (fun c37 => ?_) (fun c37 => ?_)
      · replace h := if_t c37 h
        exact wX9_swap_51 bs D y n  r Gc   r34.2.1 r34.2.2 _ _ _ hP hS (lv_sub hl [0] rfl) h
      · replace h := if_f c37 h
        refine lv_aload_n hx hb dX9_swap_40 rfl (lv_at hl 0 rfl) ?_
        refine g_R (C := RX9) (T := TX9) (N := 10) (ci := 9) 0 4 22 hx hb hts hown hK hP in_X9 rfl hcb okF_0_4 rfc_0_4 fl_101 dX9_swap_41 ?_
        refine lv_iload_n hx hb dX9_swap_44 rfl (lv_at hl 2 rfl) ?_
        obtain ⟨r45, er45, h⟩ := bd_s1 h
        refine c_VI (k := 22) (ci := 5) (As := [.int x2]) (rest := []) hx hb hml hown hts hK hN hL hP hS (cX5_holds_ l bs D y hcb n x2 r34.2.1 r34.2.2 r45 er45) ok_X5_holds ov_X5_holds ml_93 ⟨Nat.le_of_ble_eq_true rfl, Nat.le_of_ble_eq_true rfl⟩ rfl hcb kd_22 hl.1 rfl rfl (Nat.le_of_ble_eq_true rfl) ⟨Nat.zero_le _, Nat.zero_le _⟩ dX9_swap_45 (fun H locs hP hS => ?_)
        refine lv_if_ne (tgt := 58) hx hb dX9_swap_48 (by decide) (fun c48 => ?_) (fun c48 => ?_)
        · replace h := if_f c48 h
          refine lv_aload_n hx hb dX9_swap_58 rfl (lv_at hl 0 rfl) ?_
          refine g_R (C := RX9) (T := TX9) (N := 10) (ci := 9) 0 4 22 hx hb hts hown hK hP in_X9 rfl hcb okF_0_4 rfc_0_4 fl_101 dX9_swap_59 ?_
          refine lv_iload_n hx hb dX9_swap_62 rfl (lv_at hl 1 rfl) ?_
          refine lv_iload_n hx hb dX9_swap_63 rfl (lv_at hl 2 rfl) ?_
          obtain ⟨r64, er64, h⟩ := bd_s1 h
          refine c_VV (k := 22) (ci := 5) (As := [.int x1, .int x2]) (rest := []) hx hb hml hown hts hK hN hL hP hS (cX5_exchange_ l bs D y hcb n x1 x2 r45.2.1 r45.2.2 r64 er64) ok_X5_exchange ov_X5_exchange ml_96 ⟨Nat.le_of_ble_eq_true rfl, Nat.le_of_ble_eq_true rfl⟩ rfl hcb kd_22 hl.1 rfl rfl (Nat.le_of_ble_eq_true rfl) ⟨Nat.zero_le _, Nat.zero_le _⟩ dX9_swap_64 (fun H locs hP hS => ?_)
          refine lv_aload_n hx hb dX9_swap_67 rfl (lv_at hl 0 rfl) ?_
          obtain ⟨r68, er68, h⟩ := bd_s1 h
          refine c_VV (k := 0) (ci := 9) (As := []) (rest := []) hx hb hml hown hts hK hN hL hP hS (cX9_forgetWays_ l bs D y hcb n  r64.1 r64.2 r68 er68) ok_X9_forgetWays ov_X9_forgetWays ml_68 ⟨Nat.le_of_ble_eq_true rfl, Nat.le_of_ble_eq_true rfl⟩ rfl hcb kd_0 hl.1 rfl rfl (Nat.le_of_ble_eq_true rfl) ⟨Nat.zero_le _, Nat.zero_le _⟩ dX9_swap_68 (fun H locs hP hS => ?_)
          refine lv_aload_n hx hb dX9_swap_71 rfl (lv_at hl 0 rfl) ?_
          refine g_R (C := RX9) (T := TX9) (N := 10) (ci := 9) 0 4 22 hx hb hts hown hK hP in_X9 rfl hcb okF_0_4 rfc_0_4 fl_101 dX9_swap_72 ?_
          refine lv_aload_n hx hb dX9_swap_75 rfl (lv_at hl 0 rfl) ?_
          refine g_R (C := RX9) (T := TX9) (N := 10) (ci := 9) 0 3 16 hx hb hts hown hK hP in_X9 rfl hcb okF_0_3 rfc_0_3 fl_121 dX9_swap_76 ?_
          obtain ⟨r79, er79, h⟩ := bd_s1 h
          refine c_VI (k := 22) (ci := 5) (As := [.ref (bs + 16)]) (rest := []) hx hb hml hown hts hK hN hL hP hS (cX5_spanOfAll_ l bs D y hcb n  r68.1 r68.2 r79 er79) ok_X5_spanOfAll ov_X5_spanOfAll ml_97 ⟨Nat.le_of_ble_eq_true rfl, Nat.le_of_ble_eq_true rfl⟩ rfl hcb kd_22 hl.1 rfl rfl (Nat.le_of_ble_eq_true rfl) ⟨Nat.zero_le _, Nat.zero_le _⟩ dX9_swap_79 (fun H locs hP hS => ?_)
          exact r_I hx hb hr hlocks hP hK hN hL hS h dX9_swap_82
        · replace h := if_t c48 h
          exact wX9_swap_51 bs D y n  r Gc   r45.2.1 r45.2.2 _ _ _ hP hS (lv_sub hl [0] rfl) h
    · replace h := if_t c19 h
      exact wX9_swap_22 bs D y n  r Gc   r16.2.1 r16.2.2 _ _ _ hP hS (lv_sub hl [0] rfl) h
theorem dX9_smooth_0 : decode cX9_smooth 0 = .ok (.iload_n 1, 1) := by decide +kernel
theorem dX9_smooth_1 : decode cX9_smooth 1 = .ok (.ifCond .ge 10, 3) := by decide +kernel
theorem dX9_smooth_4 : decode cX9_smooth 4 = .ok (.aload_n 0, 1) := by decide +kernel
theorem dX9_smooth_5 : decode cX9_smooth 5 = .ok (.bipush (-4), 2) := by decide +kernel
theorem dX9_smooth_7 : decode cX9_smooth 7 = .ok (.invokevirtual 91, 3) := by decide +kernel
theorem dX9_smooth_10 : decode cX9_smooth 10 = .ok (.ireturn, 1) := by decide +kernel
theorem dX9_smooth_11 : decode cX9_smooth 11 = .ok (.iload_n 1, 1) := by decide +kernel
theorem dX9_smooth_12 : decode cX9_smooth 12 = .ok (.sipush 1000, 3) := by decide +kernel
theorem dX9_smooth_15 : decode cX9_smooth 15 = .ok (.if_icmp .le 10, 3) := by decide +kernel
theorem dX9_smooth_18 : decode cX9_smooth 18 = .ok (.aload_n 0, 1) := by decide +kernel
theorem dX9_smooth_19 : decode cX9_smooth 19 = .ok (.bipush (-7), 2) := by decide +kernel
theorem dX9_smooth_21 : decode cX9_smooth 21 = .ok (.invokevirtual 91, 3) := by decide +kernel
theorem dX9_smooth_24 : decode cX9_smooth 24 = .ok (.ireturn, 1) := by decide +kernel
theorem dX9_smooth_25 : decode cX9_smooth 25 = .ok (.aload_n 0, 1) := by decide +kernel
theorem dX9_smooth_26 : decode cX9_smooth 26 = .ok (.getfield 40, 3) := by decide +kernel
theorem dX9_smooth_29 : decode cX9_smooth 29 = .ok (.getfield 239, 3) := by decide +kernel
theorem dX9_smooth_32 : decode cX9_smooth 32 = .ok (.ifCond .ne 10, 3) := by decide +kernel
theorem dX9_smooth_35 : decode cX9_smooth 35 = .ok (.aload_n 0, 1) := by decide +kernel
theorem dX9_smooth_36 : decode cX9_smooth 36 = .ok (.bipush (-2), 2) := by decide +kernel
theorem dX9_smooth_38 : decode cX9_smooth 38 = .ok (.invokevirtual 91, 3) := by decide +kernel
theorem dX9_smooth_41 : decode cX9_smooth 41 = .ok (.ireturn, 1) := by decide +kernel
theorem dX9_smooth_42 : decode cX9_smooth 42 = .ok (.aload_n 0, 1) := by decide +kernel
theorem dX9_smooth_43 : decode cX9_smooth 43 = .ok (.invokevirtual 212, 3) := by decide +kernel
theorem dX9_smooth_46 : decode cX9_smooth 46 = .ok (.aload_n 0, 1) := by decide +kernel
theorem dX9_smooth_47 : decode cX9_smooth 47 = .ok (.getfield 40, 3) := by decide +kernel
theorem dX9_smooth_50 : decode cX9_smooth 50 = .ok (.iload_n 1, 1) := by decide +kernel
theorem dX9_smooth_51 : decode cX9_smooth 51 = .ok (.lload_n 2, 1) := by decide +kernel
theorem dX9_smooth_52 : decode cX9_smooth 52 = .ok (.aload_n 0, 1) := by decide +kernel
theorem dX9_smooth_53 : decode cX9_smooth 53 = .ok (.getfield 33, 3) := by decide +kernel
theorem dX9_smooth_56 : decode cX9_smooth 56 = .ok (.invokevirtual 240, 3) := by decide +kernel
theorem dX9_smooth_59 : decode cX9_smooth 59 = .ok (.ireturn, 1) := by decide +kernel
set_option maxHeartbeats 4000000 in
set_option maxRecDepth 100000 in
theorem cX9_smooth_ (l : Launch) (bs : Nat) (D : va_G) (y : Y3) (hcb : 44 ≤ y.2.2.2) (n : Nat) (x1 : Int32) (x2 : Int64) (I : MI) (J : MJ) (r : Int32 × M2) (h : fX9_smooth n x1 x2 I J = some r) : Met l yX9_smooth (.code yX9_smooth cX9_smooth 4 (some .int) :: gtb) (rmm 5 131) (va_Pc [.ref (bs + 0), .int x1, .long x2] (HB bs D y I J)) (QcI bs D y r) 0 0 (FA bs) := by
  refine Met.ofW (cc := cX9_smooth) (maxL := 4) (ret := (some .int)) (by decide) rfl ?_
  intro p e s m args below meth c s₁ B hml hv
  obtain ⟨rfl, hP, hK, hN, hL⟩ := hv
  have hx := B.exec
  have hb := B.bytes
  have hr := B.returns
  have hts0 := atoms_spec (ws := .code yX9_smooth cX9_smooth 4 (some .int) :: gtb) B.pre
  have hts : ∀ w ∈ gtb, w.before [.ref (bs + 0), .int x1, .long x2].toArray s = true := fun w hw => hts0 w (List.mem_cons_of_mem _ hw)
  have hown : s.vm.findClass RX9 = some m.cls := findClass_of_methodNamed B.named
  have hlocks := B.notSynchronized
  have hS : va_S (FA bs) s.heap s.heap [] := va_S.rf
  have Gc : Gx p s m [.ref (bs + 0), .int x1, .long x2].toArray meth c cX9_smooth 4 RX9 bs D y (some .int) 44 := ⟨hx, hb, hml, hown, hts, hK, hN, hL, hr, hlocks, hcb⟩
  have hl := lv_entry [.ref (bs + 0), .int x1, .long x2] (n := 4) (Nat.le_of_ble_eq_true rfl)
  rw [lg_entry_eq]
  generalize (lg_sl [.ref (bs + 0), .int x1, .long x2] ++ List.replicate (4 - (lg_sl [.ref (bs + 0), .int x1, .long x2]).length) Slot.unset).toArray = ls at hl ⊢
  have hl : lv_has ls 4 [(0, .ref (bs + 0)), (1, .int x1), (2, .long x2)] := hl
  change W p l e (rmm 5 131) s m [.ref (bs + 0), .int x1, .long x2].toArray below meth c s.heap [] 0 0 (QI below [.ref (bs + 0), .int x1, .long x2].toArray s bs D y r) (F0 m 0 ls [])
  unfold fX9_smooth at h
  refine lv_iload_n hx hb dX9_smooth_0 rfl (lv_at hl 1 rfl) ?_
  refine lv_if_ge (tgt := 11) hx hb dX9_smooth_1 (by decide) (fun c1 => ?_) (fun c1 => ?_)
  · replace h := if_t c1 h
    refine lv_iload_n hx hb dX9_smooth_11 rfl (lv_at hl 1 rfl) ?_
    refine lv_sipush (v := (1000 : Int32)) hx hb dX9_smooth_12 (by decide) ?_
    refine lv_icmp_le (tgt := 25) hx hb dX9_smooth_15 (by decide) (fun c15 => ?_) (fun c15 => ?_)
    · replace h := if_t c15 h
      refine lv_aload_n hx hb dX9_smooth_25 rfl (lv_at hl 0 rfl) ?_
      refine g_R (C := RX9) (T := TX9) (N := 10) (ci := 9) 0 4 22 hx hb hts hown hK hP in_X9 rfl hcb okF_0_4 rfc_0_4 fl_101 dX9_smooth_26 ?_
      refine g_I (C := RX5) (T := TX5) (N := 7) (ci := 5) 22 0 hx hb hts hown hK hP in_X5 rfl hcb okF_22_0 fl_102 dX9_smooth_29 ?_
      refine lv_if_ne (tgt := 42) hx hb dX9_smooth_32 (by decide) (fun c32 => ?_) (fun c32 => ?_)
      · replace h := if_f c32 h
        refine lv_aload_n hx hb dX9_smooth_42 rfl (lv_at hl 0 rfl) ?_
        obtain ⟨r43, er43, h⟩ := bd_s1 h
        refine c_VV (k := 0) (ci := 9) (As := []) (rest := []) hx hb hml hown hts hK hN hL hP hS (cX9_forgetWays_ l bs D y hcb n  I J r43 er43) ok_X9_forgetWays ov_X9_forgetWays ml_68 ⟨Nat.le_of_ble_eq_true rfl, Nat.le_of_ble_eq_true rfl⟩ rfl hcb kd_0 hl.1 rfl rfl (Nat.le_of_ble_eq_true rfl) ⟨Nat.zero_le _, Nat.zero_le _⟩ dX9_smooth_43 (fun H locs hP hS => ?_)
        refine lv_aload_n hx hb dX9_smooth_46 rfl (lv_at hl 0 rfl) ?_
        refine g_R (C := RX9) (T := TX9) (N := 10) (ci := 9) 0 4 22 hx hb hts hown hK hP in_X9 rfl hcb okF_0_4 rfc_0_4 fl_101 dX9_smooth_47 ?_
        refine lv_iload_n hx hb dX9_smooth_50 rfl (lv_at hl 1 rfl) ?_
        refine lv_lload_n hx hb dX9_smooth_51 rfl (lv_at hl 2 rfl) ?_
        refine lv_aload_n hx hb dX9_smooth_52 rfl (lv_at hl 0 rfl) ?_
        refine g_R (C := RX9) (T := TX9) (N := 10) (ci := 9) 0 3 16 hx hb hts hown hK hP in_X9 rfl hcb okF_0_3 rfc_0_3 fl_121 dX9_smooth_53 ?_
        obtain ⟨r56, er56, h⟩ := bd_s1 h
        refine c_VI (k := 22) (ci := 5) (As := [.int x1, .long x2, .ref (bs + 16)]) (rest := []) hx hb hml hown hts hK hN hL hP hS (cX5_tryExchanges_ l bs D y hcb n x1 x2 r43.1 r43.2 r56 er56) ok_X5_tryExchanges ov_X5_tryExchanges ml_98 ⟨Nat.le_of_ble_eq_true rfl, Nat.le_of_ble_eq_true rfl⟩ rfl hcb kd_22 hl.1 rfl rfl (Nat.le_of_ble_eq_true rfl) ⟨Nat.zero_le _, Nat.zero_le _⟩ dX9_smooth_56 (fun H locs hP hS => ?_)
        exact r_I hx hb hr hlocks hP hK hN hL hS h dX9_smooth_59
      · replace h := if_t c32 h
        refine lv_aload_n hx hb dX9_smooth_35 rfl (lv_at hl 0 rfl) ?_
        refine lv_bipush (v := (-2 : Int32)) hx hb dX9_smooth_36 (by decide) ?_
        obtain ⟨r38, er38, h⟩ := bd_s1 h
        refine c_VI (k := 0) (ci := 9) (As := [.int (-2 : Int32)]) (rest := []) hx hb hml hown hts hK hN hL hP hS (cX9_refuse_ l bs D y hcb n (-2 : Int32) I J r38 er38) ok_X9_refuse ov_X9_refuse ml_71 ⟨Nat.le_of_ble_eq_true rfl, Nat.le_of_ble_eq_true rfl⟩ rfl hcb kd_0 hl.1 rfl rfl (Nat.le_of_ble_eq_true rfl) ⟨Nat.zero_le _, Nat.zero_le _⟩ dX9_smooth_38 (fun H locs hP hS => ?_)
        exact r_I hx hb hr hlocks hP hK hN hL hS h dX9_smooth_41
    · replace h := if_f c15 h
      refine lv_aload_n hx hb dX9_smooth_18 rfl (lv_at hl 0 rfl) ?_
      refine lv_bipush (v := (-7 : Int32)) hx hb dX9_smooth_19 (by decide) ?_
      obtain ⟨r21, er21, h⟩ := bd_s1 h
      refine c_VI (k := 0) (ci := 9) (As := [.int (-7 : Int32)]) (rest := []) hx hb hml hown hts hK hN hL hP hS (cX9_refuse_ l bs D y hcb n (-7 : Int32) I J r21 er21) ok_X9_refuse ov_X9_refuse ml_71 ⟨Nat.le_of_ble_eq_true rfl, Nat.le_of_ble_eq_true rfl⟩ rfl hcb kd_0 hl.1 rfl rfl (Nat.le_of_ble_eq_true rfl) ⟨Nat.zero_le _, Nat.zero_le _⟩ dX9_smooth_21 (fun H locs hP hS => ?_)
      exact r_I hx hb hr hlocks hP hK hN hL hS h dX9_smooth_24
  · replace h := if_f c1 h
    refine lv_aload_n hx hb dX9_smooth_4 rfl (lv_at hl 0 rfl) ?_
    refine lv_bipush (v := (-4 : Int32)) hx hb dX9_smooth_5 (by decide) ?_
    obtain ⟨r7, er7, h⟩ := bd_s1 h
    refine c_VI (k := 0) (ci := 9) (As := [.int (-4 : Int32)]) (rest := []) hx hb hml hown hts hK hN hL hP hS (cX9_refuse_ l bs D y hcb n (-4 : Int32) I J r7 er7) ok_X9_refuse ov_X9_refuse ml_71 ⟨Nat.le_of_ble_eq_true rfl, Nat.le_of_ble_eq_true rfl⟩ rfl hcb kd_0 hl.1 rfl rfl (Nat.le_of_ble_eq_true rfl) ⟨Nat.zero_le _, Nat.zero_le _⟩ dX9_smooth_7 (fun H locs hP hS => ?_)
    exact r_I hx hb hr hlocks hP hK hN hL hS h dX9_smooth_10
theorem dX9_cost_0 : decode cX9_cost 0 = .ok (.aload_n 0, 1) := by decide +kernel
theorem dX9_cost_1 : decode cX9_cost 1 = .ok (.getfield 40, 3) := by decide +kernel
theorem dX9_cost_4 : decode cX9_cost 4 = .ok (.getfield 239, 3) := by decide +kernel
theorem dX9_cost_7 : decode cX9_cost 7 = .ok (.ifCond .eq 17, 3) := by decide +kernel
theorem dX9_cost_10 : decode cX9_cost 10 = .ok (.aload_n 0, 1) := by decide +kernel
theorem dX9_cost_11 : decode cX9_cost 11 = .ok (.getfield 40, 3) := by decide +kernel
theorem dX9_cost_14 : decode cX9_cost 14 = .ok (.aload_n 0, 1) := by decide +kernel
theorem dX9_cost_15 : decode cX9_cost 15 = .ok (.getfield 33, 3) := by decide +kernel
theorem dX9_cost_18 : decode cX9_cost 18 = .ok (.invokevirtual 235, 3) := by decide +kernel
theorem dX9_cost_21 : decode cX9_cost 21 = .ok (.goto 9, 3) := by decide +kernel
theorem dX9_cost_24 : decode cX9_cost 24 = .ok (.aload_n 0, 1) := by decide +kernel
theorem dX9_cost_25 : decode cX9_cost 25 = .ok (.bipush (-2), 2) := by decide +kernel
theorem dX9_cost_27 : decode cX9_cost 27 = .ok (.invokevirtual 91, 3) := by decide +kernel
theorem dX9_cost_30 : decode cX9_cost 30 = .ok (.ireturn, 1) := by decide +kernel
set_option maxHeartbeats 4000000 in
set_option maxRecDepth 100000 in
theorem cX9_cost_ (l : Launch) (bs : Nat) (D : va_G) (y : Y3) (hcb : 44 ≤ y.2.2.2) (n : Nat) (I : MI) (J : MJ) (r : Int32 × M2) (h : fX9_cost n  I J = some r) : Met l yX9_cost (.code yX9_cost cX9_cost 1 (some .int) :: gtb) (rmm 3 75) (va_Pc [.ref (bs + 0)] (HB bs D y I J)) (QcI bs D y r) 0 0 (FA bs) := by
  refine Met.ofW (cc := cX9_cost) (maxL := 1) (ret := (some .int)) (by decide) rfl ?_
  intro p e s m args below meth c s₁ B hml hv
  obtain ⟨rfl, hP, hK, hN, hL⟩ := hv
  have hx := B.exec
  have hb := B.bytes
  have hr := B.returns
  have hts0 := atoms_spec (ws := .code yX9_cost cX9_cost 1 (some .int) :: gtb) B.pre
  have hts : ∀ w ∈ gtb, w.before [.ref (bs + 0)].toArray s = true := fun w hw => hts0 w (List.mem_cons_of_mem _ hw)
  have hown : s.vm.findClass RX9 = some m.cls := findClass_of_methodNamed B.named
  have hlocks := B.notSynchronized
  have hS : va_S (FA bs) s.heap s.heap [] := va_S.rf
  have Gc : Gx p s m [.ref (bs + 0)].toArray meth c cX9_cost 1 RX9 bs D y (some .int) 44 := ⟨hx, hb, hml, hown, hts, hK, hN, hL, hr, hlocks, hcb⟩
  have hl := lv_entry [.ref (bs + 0)] (n := 1) (Nat.le_of_ble_eq_true rfl)
  rw [lg_entry_eq]
  generalize (lg_sl [.ref (bs + 0)] ++ List.replicate (1 - (lg_sl [.ref (bs + 0)]).length) Slot.unset).toArray = ls at hl ⊢
  have hl : lv_has ls 1 [(0, .ref (bs + 0))] := hl
  change W p l e (rmm 3 75) s m [.ref (bs + 0)].toArray below meth c s.heap [] 0 0 (QI below [.ref (bs + 0)].toArray s bs D y r) (F0 m 0 ls [])
  unfold fX9_cost at h
  refine lv_aload_n hx hb dX9_cost_0 rfl (lv_at hl 0 rfl) ?_
  refine g_R (C := RX9) (T := TX9) (N := 10) (ci := 9) 0 4 22 hx hb hts hown hK hP in_X9 rfl hcb okF_0_4 rfc_0_4 fl_101 dX9_cost_1 ?_
  refine g_I (C := RX5) (T := TX5) (N := 7) (ci := 5) 22 0 hx hb hts hown hK hP in_X5 rfl hcb okF_22_0 fl_102 dX9_cost_4 ?_
  refine lv_if_eq (tgt := 24) hx hb dX9_cost_7 (by decide) (fun c7 => ?_) (fun c7 => ?_)
  · replace h := if_t c7 h
    refine lv_aload_n hx hb dX9_cost_24 rfl (lv_at hl 0 rfl) ?_
    refine lv_bipush (v := (-2 : Int32)) hx hb dX9_cost_25 (by decide) ?_
    obtain ⟨r27, er27, h⟩ := bd_s1 h
    refine c_VI (k := 0) (ci := 9) (As := [.int (-2 : Int32)]) (rest := []) hx hb hml hown hts hK hN hL hP hS (cX9_refuse_ l bs D y hcb n (-2 : Int32) I J r27 er27) ok_X9_refuse ov_X9_refuse ml_71 ⟨Nat.le_of_ble_eq_true rfl, Nat.le_of_ble_eq_true rfl⟩ rfl hcb kd_0 hl.1 rfl rfl (Nat.le_of_ble_eq_true rfl) ⟨Nat.zero_le _, Nat.zero_le _⟩ dX9_cost_27 (fun H locs hP hS => ?_)
    exact r_I hx hb hr hlocks hP hK hN hL hS h dX9_cost_30
  · replace h := if_f c7 h
    refine lv_aload_n hx hb dX9_cost_10 rfl (lv_at hl 0 rfl) ?_
    refine g_R (C := RX9) (T := TX9) (N := 10) (ci := 9) 0 4 22 hx hb hts hown hK hP in_X9 rfl hcb okF_0_4 rfc_0_4 fl_101 dX9_cost_11 ?_
    refine lv_aload_n hx hb dX9_cost_14 rfl (lv_at hl 0 rfl) ?_
    refine g_R (C := RX9) (T := TX9) (N := 10) (ci := 9) 0 3 16 hx hb hts hown hK hP in_X9 rfl hcb okF_0_3 rfc_0_3 fl_121 dX9_cost_15 ?_
    obtain ⟨r18, er18, h⟩ := bd_s1 h
    refine c_VI (k := 22) (ci := 5) (As := [.ref (bs + 16)]) (rest := []) hx hb hml hown hts hK hN hL hP hS (cX5_spanOfAll_ l bs D y hcb n  I J r18 er18) ok_X5_spanOfAll ov_X5_spanOfAll ml_97 ⟨Nat.le_of_ble_eq_true rfl, Nat.le_of_ble_eq_true rfl⟩ rfl hcb kd_22 hl.1 rfl rfl (Nat.le_of_ble_eq_true rfl) ⟨Nat.zero_le _, Nat.zero_le _⟩ dX9_cost_18 (fun H locs hP hS => ?_)
    refine lv_goto (tgt := 30) hx hb dX9_cost_21 (by decide) ?_
    exact r_I hx hb hr hlocks hP hK hN hL hS h dX9_cost_30
theorem dX9_wires_0 : decode cX9_wires 0 = .ok (.iload_n 2, 1) := by decide +kernel
theorem dX9_wires_1 : decode cX9_wires 1 = .ok (.iconst 1, 1) := by decide +kernel
theorem dX9_wires_2 : decode cX9_wires 2 = .ok (.if_icmp .ne 21, 3) := by decide +kernel
theorem dX9_wires_5 : decode cX9_wires 5 = .ok (.aload_n 0, 1) := by decide +kernel
theorem dX9_wires_6 : decode cX9_wires 6 = .ok (.getfield 12, 3) := by decide +kernel
theorem dX9_wires_9 : decode cX9_wires 9 = .ok (.iload_n 1, 1) := by decide +kernel
theorem dX9_wires_10 : decode cX9_wires 10 = .ok (.invokevirtual 124, 3) := by decide +kernel
theorem dX9_wires_13 : decode cX9_wires 13 = .ok (.ifCond .ne 10, 3) := by decide +kernel
theorem dX9_wires_16 : decode cX9_wires 16 = .ok (.aload_n 0, 1) := by decide +kernel
theorem dX9_wires_17 : decode cX9_wires 17 = .ok (.bipush (-3), 2) := by decide +kernel
theorem dX9_wires_19 : decode cX9_wires 19 = .ok (.invokevirtual 91, 3) := by decide +kernel
theorem dX9_wires_22 : decode cX9_wires 22 = .ok (.ireturn, 1) := by decide +kernel
theorem dX9_wires_23 : decode cX9_wires 23 = .ok (.aload_n 0, 1) := by decide +kernel
theorem dX9_wires_24 : decode cX9_wires 24 = .ok (.getfield 40, 3) := by decide +kernel
theorem dX9_wires_27 : decode cX9_wires 27 = .ok (.getfield 239, 3) := by decide +kernel
theorem dX9_wires_30 : decode cX9_wires 30 = .ok (.ifCond .eq 19, 3) := by decide +kernel
theorem dX9_wires_33 : decode cX9_wires 33 = .ok (.iload_n 2, 1) := by decide +kernel
theorem dX9_wires_34 : decode cX9_wires 34 = .ok (.iconst 1, 1) := by decide +kernel
theorem dX9_wires_35 : decode cX9_wires 35 = .ok (.if_icmp .ne 21, 3) := by decide +kernel
theorem dX9_wires_38 : decode cX9_wires 38 = .ok (.aload_n 0, 1) := by decide +kernel
theorem dX9_wires_39 : decode cX9_wires 39 = .ok (.getfield 40, 3) := by decide +kernel
theorem dX9_wires_42 : decode cX9_wires 42 = .ok (.iload_n 1, 1) := by decide +kernel
theorem dX9_wires_43 : decode cX9_wires 43 = .ok (.invokevirtual 218, 3) := by decide +kernel
theorem dX9_wires_46 : decode cX9_wires 46 = .ok (.ifCond .ne 10, 3) := by decide +kernel
theorem dX9_wires_49 : decode cX9_wires 49 = .ok (.aload_n 0, 1) := by decide +kernel
theorem dX9_wires_50 : decode cX9_wires 50 = .ok (.bipush (-2), 2) := by decide +kernel
theorem dX9_wires_52 : decode cX9_wires 52 = .ok (.invokevirtual 91, 3) := by decide +kernel
theorem dX9_wires_55 : decode cX9_wires 55 = .ok (.ireturn, 1) := by decide +kernel
theorem dX9_wires_56 : decode cX9_wires 56 = .ok (.iload_n 2, 1) := by decide +kernel
theorem dX9_wires_57 : decode cX9_wires 57 = .ok (.ifCond .lt 8, 3) := by decide +kernel
theorem dX9_wires_60 : decode cX9_wires 60 = .ok (.iload_n 2, 1) := by decide +kernel
theorem dX9_wires_61 : decode cX9_wires 61 = .ok (.iconst 1, 1) := by decide +kernel
theorem dX9_wires_62 : decode cX9_wires 62 = .ok (.if_icmp .le 10, 3) := by decide +kernel
theorem dX9_wires_65 : decode cX9_wires 65 = .ok (.aload_n 0, 1) := by decide +kernel
theorem dX9_wires_66 : decode cX9_wires 66 = .ok (.bipush (-7), 2) := by decide +kernel
theorem dX9_wires_68 : decode cX9_wires 68 = .ok (.invokevirtual 91, 3) := by decide +kernel
theorem dX9_wires_71 : decode cX9_wires 71 = .ok (.ireturn, 1) := by decide +kernel
theorem dX9_wires_72 : decode cX9_wires 72 = .ok (.iload_n 2, 1) := by decide +kernel
theorem dX9_wires_73 : decode cX9_wires 73 = .ok (.ifCond .ne 13, 3) := by decide +kernel
theorem dX9_wires_76 : decode cX9_wires 76 = .ok (.aload_n 0, 1) := by decide +kernel
theorem dX9_wires_77 : decode cX9_wires 77 = .ok (.getfield 40, 3) := by decide +kernel
theorem dX9_wires_80 : decode cX9_wires 80 = .ok (.invokevirtual 244, 3) := by decide +kernel
theorem dX9_wires_83 : decode cX9_wires 83 = .ok (.goto 14, 3) := by decide +kernel
theorem dX9_wires_86 : decode cX9_wires 86 = .ok (.aload_n 0, 1) := by decide +kernel
theorem dX9_wires_87 : decode cX9_wires 87 = .ok (.getfield 40, 3) := by decide +kernel
theorem dX9_wires_90 : decode cX9_wires 90 = .ok (.iload_n 1, 1) := by decide +kernel
theorem dX9_wires_91 : decode cX9_wires 91 = .ok (.invokevirtual 247, 3) := by decide +kernel
theorem dX9_wires_94 : decode cX9_wires 94 = .ok (.invokestatic 251, 3) := by decide +kernel
theorem dX9_wires_97 : decode cX9_wires 97 = .ok (.ireturn, 1) := by decide +kernel
set_option maxHeartbeats 4000000 in
set_option maxRecDepth 100000 in
theorem wX9_wires_65 {p : Program} {l : Launch} {e : Env} {s : State} {m : MethodId} {args : Array Value} {below : List Frame} {meth : Method} {c : Code} (bs : Nat) (D : va_G) (y : Y3) (n : Nat) (r : Int32 × M2) (Gc : Gx p s m args meth c cX9_wires 3 RX9 bs D y (some .int) 44)  (I : MI) (J : MJ) (H : Heap) (locs : List Loc) (ls : Array Slot) (hP : va_P D vwCl (wl bs y I J) H) (hS : va_S (FA bs) s.heap H locs) (hl : lv_has ls 3 [(0, .ref (bs + 0))]) (h : fX9_wires_65 n   I J = some r) : W p l e (rmm 3 69) s m args below meth c H locs 0 0 (QI below args s bs D y r) (F0 m 65 ls []) := by
  obtain ⟨hx, hb, hml, hown, hts, hK, hN, hL, hr, hlocks, hcb⟩ := id Gc
  unfold fX9_wires_65 at h
  refine lv_aload_n hx hb dX9_wires_65 rfl (lv_at hl 0 rfl) ?_
  refine lv_bipush (v := (-7 : Int32)) hx hb dX9_wires_66 (by decide) ?_
  obtain ⟨r68, er68, h⟩ := bd_s1 h
  refine c_VI (k := 0) (ci := 9) (As := [.int (-7 : Int32)]) (rest := []) hx hb hml hown hts hK hN hL hP hS (cX9_refuse_ l bs D y hcb n (-7 : Int32) I J r68 er68) ok_X9_refuse ov_X9_refuse ml_71 ⟨Nat.le_of_ble_eq_true rfl, Nat.le_of_ble_eq_true rfl⟩ rfl hcb kd_0 hl.1 rfl rfl (Nat.le_of_ble_eq_true rfl) ⟨Nat.zero_le _, Nat.zero_le _⟩ dX9_wires_68 (fun H locs hP hS => ?_)
  exact r_I hx hb hr hlocks hP hK hN hL hS h dX9_wires_71
set_option maxHeartbeats 4000000 in
set_option maxRecDepth 100000 in
theorem wX9_wires_56 {p : Program} {l : Launch} {e : Env} {s : State} {m : MethodId} {args : Array Value} {below : List Frame} {meth : Method} {c : Code} (bs : Nat) (D : va_G) (y : Y3) (n : Nat) (r : Int32 × M2) (Gc : Gx p s m args meth c cX9_wires 3 RX9 bs D y (some .int) 44)  (x1 : Int32) (x2 : Int32) (I : MI) (J : MJ) (H : Heap) (locs : List Loc) (ls : Array Slot) (hP : va_P D vwCl (wl bs y I J) H) (hS : va_S (FA bs) s.heap H locs) (hl : lv_has ls 3 [(0, .ref (bs + 0)), (1, .int x1), (2, .int x2)]) (h : fX9_wires_56 n  x1 x2 I J = some r) : W p l e (rmm 3 69) s m args below meth c H locs 0 0 (QI below args s bs D y r) (F0 m 56 ls []) := by
  obtain ⟨hx, hb, hml, hown, hts, hK, hN, hL, hr, hlocks, hcb⟩ := id Gc
  unfold fX9_wires_56 at h
  refine lv_iload_n hx hb dX9_wires_56 rfl (lv_at hl 2 rfl) ?_
  refine lv_if_lt (tgt := 65) hx hb dX9_wires_57 (by decide) (fun c57 => ?_) (fun c57 => ?_)
  · replace h := if_t c57 h
    exact wX9_wires_65 bs D y n  r Gc   I J _ _ _ hP hS (lv_sub hl [0] rfl) h
  · replace h := if_f c57 h
    refine lv_iload_n hx hb dX9_wires_60 rfl (lv_at hl 2 rfl) ?_
    refine lv_iconst (v := (1 : Int32)) hx hb dX9_wires_61 (by decide) ?_
    refine lv_icmp_le (tgt := 72) hx hb dX9_wires_62 (by decide) (fun c62 => ?_) (fun c62 => ?_)
    · replace h := if_t c62 h
      refine lv_iload_n hx hb dX9_wires_72 rfl (lv_at hl 2 rfl) ?_
      refine lv_if_ne (tgt := 86) hx hb dX9_wires_73 (by decide) (fun c73 => ?_) (fun c73 => ?_)
      · replace h := if_f c73 h
        refine lv_aload_n hx hb dX9_wires_86 rfl (lv_at hl 0 rfl) ?_
        refine g_R (C := RX9) (T := TX9) (N := 10) (ci := 9) 0 4 22 hx hb hts hown hK hP in_X9 rfl hcb okF_0_4 rfc_0_4 fl_101 dX9_wires_87 ?_
        refine lv_iload_n hx hb dX9_wires_90 rfl (lv_at hl 1 rfl) ?_
        obtain ⟨r91, er91, h⟩ := bd_s1 h
        refine c_VJ (k := 22) (ci := 5) (As := [.int x1]) (rest := []) hx hb hml hown hts hK hN hL hP hS (cX5_endsOf_ l bs D y hcb n x1 I J r91 er91) ok_X5_endsOf ov_X5_endsOf ml_99 ⟨Nat.le_of_ble_eq_true rfl, Nat.le_of_ble_eq_true rfl⟩ rfl hcb kd_22 hl.1 rfl rfl (Nat.le_of_ble_eq_true rfl) ⟨Nat.zero_le _, Nat.zero_le _⟩ dX9_wires_91 (fun H locs hP hS => ?_)
        obtain ⟨r94, er94, h⟩ := bd_s1 h
        refine c_SI (As := [.long r91.1]) (rest := []) hx hb hml hown hts hK hN hL hP hS (cJ13_bitCount_95d88_ l bs D y hcb n r91.1 r91.2.1 r91.2.2 r94 er94) ok_J13_bitCount_95d88 ov_J13_bitCount_95d88 ml_100 ⟨Nat.le_of_ble_eq_true rfl, Nat.le_of_ble_eq_true rfl⟩ hl.1 rfl rfl (Nat.le_of_ble_eq_true rfl) ⟨Nat.zero_le _, Nat.zero_le _⟩ dX9_wires_94 (fun H locs hP hS => ?_)
        exact r_I hx hb hr hlocks hP hK hN hL hS h dX9_wires_97
      · replace h := if_t c73 h
        refine lv_aload_n hx hb dX9_wires_76 rfl (lv_at hl 0 rfl) ?_
        refine g_R (C := RX9) (T := TX9) (N := 10) (ci := 9) 0 4 22 hx hb hts hown hK hP in_X9 rfl hcb okF_0_4 rfc_0_4 fl_101 dX9_wires_77 ?_
        obtain ⟨r80, er80, h⟩ := bd_s1 h
        refine c_VI (k := 22) (ci := 5) (As := []) (rest := []) hx hb hml hown hts hK hN hL hP hS (cX5_wireCount_ l bs D y hcb n  I J r80 er80) ok_X5_wireCount ov_X5_wireCount ml_101 ⟨Nat.le_of_ble_eq_true rfl, Nat.le_of_ble_eq_true rfl⟩ rfl hcb kd_22 hl.1 rfl rfl (Nat.le_of_ble_eq_true rfl) ⟨Nat.zero_le _, Nat.zero_le _⟩ dX9_wires_80 (fun H locs hP hS => ?_)
        refine lv_goto (tgt := 97) hx hb dX9_wires_83 (by decide) ?_
        exact r_I hx hb hr hlocks hP hK hN hL hS h dX9_wires_97
    · replace h := if_f c62 h
      exact wX9_wires_65 bs D y n  r Gc   I J _ _ _ hP hS (lv_sub hl [0] rfl) h
set_option maxHeartbeats 4000000 in
set_option maxRecDepth 100000 in
theorem wX9_wires_49 {p : Program} {l : Launch} {e : Env} {s : State} {m : MethodId} {args : Array Value} {below : List Frame} {meth : Method} {c : Code} (bs : Nat) (D : va_G) (y : Y3) (n : Nat) (r : Int32 × M2) (Gc : Gx p s m args meth c cX9_wires 3 RX9 bs D y (some .int) 44)  (I : MI) (J : MJ) (H : Heap) (locs : List Loc) (ls : Array Slot) (hP : va_P D vwCl (wl bs y I J) H) (hS : va_S (FA bs) s.heap H locs) (hl : lv_has ls 3 [(0, .ref (bs + 0))]) (h : fX9_wires_49 n   I J = some r) : W p l e (rmm 3 69) s m args below meth c H locs 0 0 (QI below args s bs D y r) (F0 m 49 ls []) := by
  obtain ⟨hx, hb, hml, hown, hts, hK, hN, hL, hr, hlocks, hcb⟩ := id Gc
  unfold fX9_wires_49 at h
  refine lv_aload_n hx hb dX9_wires_49 rfl (lv_at hl 0 rfl) ?_
  refine lv_bipush (v := (-2 : Int32)) hx hb dX9_wires_50 (by decide) ?_
  obtain ⟨r52, er52, h⟩ := bd_s1 h
  refine c_VI (k := 0) (ci := 9) (As := [.int (-2 : Int32)]) (rest := []) hx hb hml hown hts hK hN hL hP hS (cX9_refuse_ l bs D y hcb n (-2 : Int32) I J r52 er52) ok_X9_refuse ov_X9_refuse ml_71 ⟨Nat.le_of_ble_eq_true rfl, Nat.le_of_ble_eq_true rfl⟩ rfl hcb kd_0 hl.1 rfl rfl (Nat.le_of_ble_eq_true rfl) ⟨Nat.zero_le _, Nat.zero_le _⟩ dX9_wires_52 (fun H locs hP hS => ?_)
  exact r_I hx hb hr hlocks hP hK hN hL hS h dX9_wires_55
set_option maxHeartbeats 4000000 in
set_option maxRecDepth 100000 in
theorem wX9_wires_23 {p : Program} {l : Launch} {e : Env} {s : State} {m : MethodId} {args : Array Value} {below : List Frame} {meth : Method} {c : Code} (bs : Nat) (D : va_G) (y : Y3) (n : Nat) (r : Int32 × M2) (Gc : Gx p s m args meth c cX9_wires 3 RX9 bs D y (some .int) 44)  (x1 : Int32) (x2 : Int32) (I : MI) (J : MJ) (H : Heap) (locs : List Loc) (ls : Array Slot) (hP : va_P D vwCl (wl bs y I J) H) (hS : va_S (FA bs) s.heap H locs) (hl : lv_has ls 3 [(0, .ref (bs + 0)), (1, .int x1), (2, .int x2)]) (h : fX9_wires_23 n  x1 x2 I J = some r) : W p l e (rmm 3 69) s m args below meth c H locs 0 0 (QI below args s bs D y r) (F0 m 23 ls []) := by
  obtain ⟨hx, hb, hml, hown, hts, hK, hN, hL, hr, hlocks, hcb⟩ := id Gc
  unfold fX9_wires_23 at h
  refine lv_aload_n hx hb dX9_wires_23 rfl (lv_at hl 0 rfl) ?_
  refine g_R (C := RX9) (T := TX9) (N := 10) (ci := 9) 0 4 22 hx hb hts hown hK hP in_X9 rfl hcb okF_0_4 rfc_0_4 fl_101 dX9_wires_24 ?_
  refine g_I (C := RX5) (T := TX5) (N := 7) (ci := 5) 22 0 hx hb hts hown hK hP in_X5 rfl hcb okF_22_0 fl_102 dX9_wires_27 ?_
  refine lv_if_eq (tgt := 49) hx hb dX9_wires_30 (by decide) (fun c30 => ?_) (fun c30 => ?_)
  · replace h := if_t c30 h
    exact wX9_wires_49 bs D y n  r Gc   I J _ _ _ hP hS (lv_sub hl [0] rfl) h
  · replace h := if_f c30 h
    refine lv_iload_n hx hb dX9_wires_33 rfl (lv_at hl 2 rfl) ?_
    refine lv_iconst (v := (1 : Int32)) hx hb dX9_wires_34 (by decide) ?_
    refine lv_icmp_ne (tgt := 56) hx hb dX9_wires_35 (by decide) (fun c35 => ?_) (fun c35 => ?_)
    · replace h := if_f c35 h
      exact wX9_wires_56 bs D y n  r Gc  x1 x2 I J _ _ _ hP hS (lv_sub hl [0, 1, 2] rfl) h
    · replace h := if_t c35 h
      refine lv_aload_n hx hb dX9_wires_38 rfl (lv_at hl 0 rfl) ?_
      refine g_R (C := RX9) (T := TX9) (N := 10) (ci := 9) 0 4 22 hx hb hts hown hK hP in_X9 rfl hcb okF_0_4 rfc_0_4 fl_101 dX9_wires_39 ?_
      refine lv_iload_n hx hb dX9_wires_42 rfl (lv_at hl 1 rfl) ?_
      obtain ⟨r43, er43, h⟩ := bd_s1 h
      refine c_VI (k := 22) (ci := 5) (As := [.int x1]) (rest := []) hx hb hml hown hts hK hN hL hP hS (cX5_holds_ l bs D y hcb n x1 I J r43 er43) ok_X5_holds ov_X5_holds ml_93 ⟨Nat.le_of_ble_eq_true rfl, Nat.le_of_ble_eq_true rfl⟩ rfl hcb kd_22 hl.1 rfl rfl (Nat.le_of_ble_eq_true rfl) ⟨Nat.zero_le _, Nat.zero_le _⟩ dX9_wires_43 (fun H locs hP hS => ?_)
      refine lv_if_ne (tgt := 56) hx hb dX9_wires_46 (by decide) (fun c46 => ?_) (fun c46 => ?_)
      · replace h := if_f c46 h
        exact wX9_wires_56 bs D y n  r Gc  x1 x2 r43.2.1 r43.2.2 _ _ _ hP hS (lv_sub hl [0, 1, 2] rfl) h
      · replace h := if_t c46 h
        exact wX9_wires_49 bs D y n  r Gc   r43.2.1 r43.2.2 _ _ _ hP hS (lv_sub hl [0] rfl) h
set_option maxHeartbeats 4000000 in
set_option maxRecDepth 100000 in
theorem cX9_wires_ (l : Launch) (bs : Nat) (D : va_G) (y : Y3) (hcb : 44 ≤ y.2.2.2) (n : Nat) (x1 : Int32) (x2 : Int32) (I : MI) (J : MJ) (r : Int32 × M2) (h : fX9_wires n x1 x2 I J = some r) : Met l yX9_wires (.code yX9_wires cX9_wires 3 (some .int) :: gtb) (rmm 3 69) (va_Pc [.ref (bs + 0), .int x1, .int x2] (HB bs D y I J)) (QcI bs D y r) 0 0 (FA bs) := by
  refine Met.ofW (cc := cX9_wires) (maxL := 3) (ret := (some .int)) (by decide) rfl ?_
  intro p e s m args below meth c s₁ B hml hv
  obtain ⟨rfl, hP, hK, hN, hL⟩ := hv
  have hx := B.exec
  have hb := B.bytes
  have hr := B.returns
  have hts0 := atoms_spec (ws := .code yX9_wires cX9_wires 3 (some .int) :: gtb) B.pre
  have hts : ∀ w ∈ gtb, w.before [.ref (bs + 0), .int x1, .int x2].toArray s = true := fun w hw => hts0 w (List.mem_cons_of_mem _ hw)
  have hown : s.vm.findClass RX9 = some m.cls := findClass_of_methodNamed B.named
  have hlocks := B.notSynchronized
  have hS : va_S (FA bs) s.heap s.heap [] := va_S.rf
  have Gc : Gx p s m [.ref (bs + 0), .int x1, .int x2].toArray meth c cX9_wires 3 RX9 bs D y (some .int) 44 := ⟨hx, hb, hml, hown, hts, hK, hN, hL, hr, hlocks, hcb⟩
  have hl := lv_entry [.ref (bs + 0), .int x1, .int x2] (n := 3) (Nat.le_of_ble_eq_true rfl)
  rw [lg_entry_eq]
  generalize (lg_sl [.ref (bs + 0), .int x1, .int x2] ++ List.replicate (3 - (lg_sl [.ref (bs + 0), .int x1, .int x2]).length) Slot.unset).toArray = ls at hl ⊢
  have hl : lv_has ls 3 [(0, .ref (bs + 0)), (1, .int x1), (2, .int x2)] := hl
  change W p l e (rmm 3 69) s m [.ref (bs + 0), .int x1, .int x2].toArray below meth c s.heap [] 0 0 (QI below [.ref (bs + 0), .int x1, .int x2].toArray s bs D y r) (F0 m 0 ls [])
  unfold fX9_wires at h
  refine lv_iload_n hx hb dX9_wires_0 rfl (lv_at hl 2 rfl) ?_
  refine lv_iconst (v := (1 : Int32)) hx hb dX9_wires_1 (by decide) ?_
  refine lv_icmp_ne (tgt := 23) hx hb dX9_wires_2 (by decide) (fun c2 => ?_) (fun c2 => ?_)
  · replace h := if_f c2 h
    exact wX9_wires_23 bs D y n  r Gc  x1 x2 I J _ _ _ hP hS (lv_sub hl [0, 1, 2] rfl) h
  · replace h := if_t c2 h
    refine lv_aload_n hx hb dX9_wires_5 rfl (lv_at hl 0 rfl) ?_
    refine g_R (C := RX9) (T := TX9) (N := 10) (ci := 9) 0 0 1 hx hb hts hown hK hP in_X9 rfl hcb okF_0_0 rfc_0_0 fl_106 dX9_wires_6 ?_
    refine lv_iload_n hx hb dX9_wires_9 rfl (lv_at hl 1 rfl) ?_
    obtain ⟨r10, er10, h⟩ := bd_s1 h
    refine c_VI (k := 1) (ci := 3) (As := [.int x1]) (rest := []) hx hb hml hown hts hK hN hL hP hS (cX3_has_ l bs D y hcb n x1 I J r10 er10) ok_X3_has ov_X3_has ml_79 ⟨Nat.le_of_ble_eq_true rfl, Nat.le_of_ble_eq_true rfl⟩ rfl hcb kd_1 hl.1 rfl rfl (Nat.le_of_ble_eq_true rfl) ⟨Nat.zero_le _, Nat.zero_le _⟩ dX9_wires_10 (fun H locs hP hS => ?_)
    refine lv_if_ne (tgt := 23) hx hb dX9_wires_13 (by decide) (fun c13 => ?_) (fun c13 => ?_)
    · replace h := if_f c13 h
      exact wX9_wires_23 bs D y n  r Gc  x1 x2 r10.2.1 r10.2.2 _ _ _ hP hS (lv_sub hl [0, 1, 2] rfl) h
    · replace h := if_t c13 h
      refine lv_aload_n hx hb dX9_wires_16 rfl (lv_at hl 0 rfl) ?_
      refine lv_bipush (v := (-3 : Int32)) hx hb dX9_wires_17 (by decide) ?_
      obtain ⟨r19, er19, h⟩ := bd_s1 h
      refine c_VI (k := 0) (ci := 9) (As := [.int (-3 : Int32)]) (rest := []) hx hb hml hown hts hK hN hL hP hS (cX9_refuse_ l bs D y hcb n (-3 : Int32) r10.2.1 r10.2.2 r19 er19) ok_X9_refuse ov_X9_refuse ml_71 ⟨Nat.le_of_ble_eq_true rfl, Nat.le_of_ble_eq_true rfl⟩ rfl hcb kd_0 hl.1 rfl rfl (Nat.le_of_ble_eq_true rfl) ⟨Nat.zero_le _, Nat.zero_le _⟩ dX9_wires_19 (fun H locs hP hS => ?_)
      exact r_I hx hb hr hlocks hP hK hN hL hS h dX9_wires_22
theorem dX9_lead_0 : decode cX9_lead 0 = .ok (.iload_n 1, 1) := by decide +kernel
theorem dX9_lead_1 : decode cX9_lead 1 = .ok (.ifCond .ge 10, 3) := by decide +kernel
theorem dX9_lead_4 : decode cX9_lead 4 = .ok (.aload_n 0, 1) := by decide +kernel
theorem dX9_lead_5 : decode cX9_lead 5 = .ok (.bipush (-4), 2) := by decide +kernel
theorem dX9_lead_7 : decode cX9_lead 7 = .ok (.invokevirtual 91, 3) := by decide +kernel
theorem dX9_lead_10 : decode cX9_lead 10 = .ok (.ireturn, 1) := by decide +kernel
theorem dX9_lead_11 : decode cX9_lead 11 = .ok (.iload_n 1, 1) := by decide +kernel
theorem dX9_lead_12 : decode cX9_lead 12 = .ok (.ifCond .eq 9, 3) := by decide +kernel
theorem dX9_lead_15 : decode cX9_lead 15 = .ok (.iload_n 1, 1) := by decide +kernel
theorem dX9_lead_16 : decode cX9_lead 16 = .ok (.bipush 40, 2) := by decide +kernel
theorem dX9_lead_18 : decode cX9_lead 18 = .ok (.if_icmp .le 10, 3) := by decide +kernel
theorem dX9_lead_21 : decode cX9_lead 21 = .ok (.aload_n 0, 1) := by decide +kernel
theorem dX9_lead_22 : decode cX9_lead 22 = .ok (.bipush (-7), 2) := by decide +kernel
theorem dX9_lead_24 : decode cX9_lead 24 = .ok (.invokevirtual 91, 3) := by decide +kernel
theorem dX9_lead_27 : decode cX9_lead 27 = .ok (.ireturn, 1) := by decide +kernel
theorem dX9_lead_28 : decode cX9_lead 28 = .ok (.aload_n 0, 1) := by decide +kernel
theorem dX9_lead_29 : decode cX9_lead 29 = .ok (.getfield 40, 3) := by decide +kernel
theorem dX9_lead_32 : decode cX9_lead 32 = .ok (.getfield 239, 3) := by decide +kernel
theorem dX9_lead_35 : decode cX9_lead 35 = .ok (.ifCond .ne 10, 3) := by decide +kernel
theorem dX9_lead_38 : decode cX9_lead 38 = .ok (.aload_n 0, 1) := by decide +kernel
theorem dX9_lead_39 : decode cX9_lead 39 = .ok (.bipush (-2), 2) := by decide +kernel
theorem dX9_lead_41 : decode cX9_lead 41 = .ok (.invokevirtual 91, 3) := by decide +kernel
theorem dX9_lead_44 : decode cX9_lead 44 = .ok (.ireturn, 1) := by decide +kernel
theorem dX9_lead_45 : decode cX9_lead 45 = .ok (.aload_n 0, 1) := by decide +kernel
theorem dX9_lead_46 : decode cX9_lead 46 = .ok (.getfield 47, 3) := by decide +kernel
theorem dX9_lead_49 : decode cX9_lead 49 = .ok (.iload_n 1, 1) := by decide +kernel
theorem dX9_lead_50 : decode cX9_lead 50 = .ok (.aload_n 0, 1) := by decide +kernel
theorem dX9_lead_51 : decode cX9_lead 51 = .ok (.getfield 33, 3) := by decide +kernel
theorem dX9_lead_54 : decode cX9_lead 54 = .ok (.aload_n 0, 1) := by decide +kernel
theorem dX9_lead_55 : decode cX9_lead 55 = .ok (.getfield 40, 3) := by decide +kernel
theorem dX9_lead_58 : decode cX9_lead 58 = .ok (.invokevirtual 257, 3) := by decide +kernel
theorem dX9_lead_61 : decode cX9_lead 61 = .ok (.ireturn, 1) := by decide +kernel
set_option maxHeartbeats 4000000 in
set_option maxRecDepth 100000 in
theorem wX9_lead_21 {p : Program} {l : Launch} {e : Env} {s : State} {m : MethodId} {args : Array Value} {below : List Frame} {meth : Method} {c : Code} (bs : Nat) (D : va_G) (y : Y3) (n : Nat) (r : Int32 × M2) (Gc : Gx p s m args meth c cX9_lead 2 RX9 bs D y (some .int) 44)  (I : MI) (J : MJ) (H : Heap) (locs : List Loc) (ls : Array Slot) (hP : va_P D vwCl (wl bs y I J) H) (hS : va_S (FA bs) s.heap H locs) (hl : lv_has ls 2 [(0, .ref (bs + 0))]) (h : fX9_lead_21 n   I J = some r) : W p l e (rmm 5 126) s m args below meth c H locs 0 0 (QI below args s bs D y r) (F0 m 21 ls []) := by
  obtain ⟨hx, hb, hml, hown, hts, hK, hN, hL, hr, hlocks, hcb⟩ := id Gc
  unfold fX9_lead_21 at h
  refine lv_aload_n hx hb dX9_lead_21 rfl (lv_at hl 0 rfl) ?_
  refine lv_bipush (v := (-7 : Int32)) hx hb dX9_lead_22 (by decide) ?_
  obtain ⟨r24, er24, h⟩ := bd_s1 h
  refine c_VI (k := 0) (ci := 9) (As := [.int (-7 : Int32)]) (rest := []) hx hb hml hown hts hK hN hL hP hS (cX9_refuse_ l bs D y hcb n (-7 : Int32) I J r24 er24) ok_X9_refuse ov_X9_refuse ml_71 ⟨Nat.le_of_ble_eq_true rfl, Nat.le_of_ble_eq_true rfl⟩ rfl hcb kd_0 hl.1 rfl rfl (Nat.le_of_ble_eq_true rfl) ⟨Nat.zero_le _, Nat.zero_le _⟩ dX9_lead_24 (fun H locs hP hS => ?_)
  exact r_I hx hb hr hlocks hP hK hN hL hS h dX9_lead_27
set_option maxHeartbeats 4000000 in
set_option maxRecDepth 100000 in
theorem cX9_lead_ (l : Launch) (bs : Nat) (D : va_G) (y : Y3) (hcb : 44 ≤ y.2.2.2) (n : Nat) (x1 : Int32) (I : MI) (J : MJ) (r : Int32 × M2) (h : fX9_lead n x1 I J = some r) : Met l yX9_lead (.code yX9_lead cX9_lead 2 (some .int) :: gtb) (rmm 5 126) (va_Pc [.ref (bs + 0), .int x1] (HB bs D y I J)) (QcI bs D y r) 0 0 (FA bs) := by
  refine Met.ofW (cc := cX9_lead) (maxL := 2) (ret := (some .int)) (by decide) rfl ?_
  intro p e s m args below meth c s₁ B hml hv
  obtain ⟨rfl, hP, hK, hN, hL⟩ := hv
  have hx := B.exec
  have hb := B.bytes
  have hr := B.returns
  have hts0 := atoms_spec (ws := .code yX9_lead cX9_lead 2 (some .int) :: gtb) B.pre
  have hts : ∀ w ∈ gtb, w.before [.ref (bs + 0), .int x1].toArray s = true := fun w hw => hts0 w (List.mem_cons_of_mem _ hw)
  have hown : s.vm.findClass RX9 = some m.cls := findClass_of_methodNamed B.named
  have hlocks := B.notSynchronized
  have hS : va_S (FA bs) s.heap s.heap [] := va_S.rf
  have Gc : Gx p s m [.ref (bs + 0), .int x1].toArray meth c cX9_lead 2 RX9 bs D y (some .int) 44 := ⟨hx, hb, hml, hown, hts, hK, hN, hL, hr, hlocks, hcb⟩
  have hl := lv_entry [.ref (bs + 0), .int x1] (n := 2) (Nat.le_of_ble_eq_true rfl)
  rw [lg_entry_eq]
  generalize (lg_sl [.ref (bs + 0), .int x1] ++ List.replicate (2 - (lg_sl [.ref (bs + 0), .int x1]).length) Slot.unset).toArray = ls at hl ⊢
  have hl : lv_has ls 2 [(0, .ref (bs + 0)), (1, .int x1)] := hl
  change W p l e (rmm 5 126) s m [.ref (bs + 0), .int x1].toArray below meth c s.heap [] 0 0 (QI below [.ref (bs + 0), .int x1].toArray s bs D y r) (F0 m 0 ls [])
  unfold fX9_lead at h
  refine lv_iload_n hx hb dX9_lead_0 rfl (lv_at hl 1 rfl) ?_
  refine lv_if_ge (tgt := 11) hx hb dX9_lead_1 (by decide) (fun c1 => ?_) (fun c1 => ?_)
  · replace h := if_t c1 h
    refine lv_iload_n hx hb dX9_lead_11 rfl (lv_at hl 1 rfl) ?_
    refine lv_if_eq (tgt := 21) hx hb dX9_lead_12 (by decide) (fun c12 => ?_) (fun c12 => ?_)
    · replace h := if_t c12 h
      exact wX9_lead_21 bs D y n  r Gc   I J _ _ _ hP hS (lv_sub hl [0] rfl) h
    · replace h := if_f c12 h
      refine lv_iload_n hx hb dX9_lead_15 rfl (lv_at hl 1 rfl) ?_
      refine lv_bipush (v := (40 : Int32)) hx hb dX9_lead_16 (by decide) ?_
      refine lv_icmp_le (tgt := 28) hx hb dX9_lead_18 (by decide) (fun c18 => ?_) (fun c18 => ?_)
      · replace h := if_t c18 h
        refine lv_aload_n hx hb dX9_lead_28 rfl (lv_at hl 0 rfl) ?_
        refine g_R (C := RX9) (T := TX9) (N := 10) (ci := 9) 0 4 22 hx hb hts hown hK hP in_X9 rfl hcb okF_0_4 rfc_0_4 fl_101 dX9_lead_29 ?_
        refine g_I (C := RX5) (T := TX5) (N := 7) (ci := 5) 22 0 hx hb hts hown hK hP in_X5 rfl hcb okF_22_0 fl_102 dX9_lead_32 ?_
        refine lv_if_ne (tgt := 45) hx hb dX9_lead_35 (by decide) (fun c35 => ?_) (fun c35 => ?_)
        · replace h := if_f c35 h
          refine lv_aload_n hx hb dX9_lead_45 rfl (lv_at hl 0 rfl) ?_
          refine g_R (C := RX9) (T := TX9) (N := 10) (ci := 9) 0 5 28 hx hb hts hown hK hP in_X9 rfl hcb okF_0_5 rfc_0_5 fl_97 dX9_lead_46 ?_
          refine lv_iload_n hx hb dX9_lead_49 rfl (lv_at hl 1 rfl) ?_
          refine lv_aload_n hx hb dX9_lead_50 rfl (lv_at hl 0 rfl) ?_
          refine g_R (C := RX9) (T := TX9) (N := 10) (ci := 9) 0 3 16 hx hb hts hown hK hP in_X9 rfl hcb okF_0_3 rfc_0_3 fl_121 dX9_lead_51 ?_
          refine lv_aload_n hx hb dX9_lead_54 rfl (lv_at hl 0 rfl) ?_
          refine g_R (C := RX9) (T := TX9) (N := 10) (ci := 9) 0 4 22 hx hb hts hown hK hP in_X9 rfl hcb okF_0_4 rfc_0_4 fl_101 dX9_lead_55 ?_
          obtain ⟨r58, er58, h⟩ := bd_s1 h
          refine c_VI (k := 28) (ci := 8) (As := [.int x1, .ref (bs + 16), .ref (bs + 22)]) (rest := []) hx hb hml hown hts hK hN hL hP hS (cX8_leadAll_ l bs D y hcb n x1 I J r58 er58) ok_X8_leadAll ov_X8_leadAll ml_102 ⟨Nat.le_of_ble_eq_true rfl, Nat.le_of_ble_eq_true rfl⟩ rfl hcb kd_28 hl.1 rfl rfl (Nat.le_of_ble_eq_true rfl) ⟨Nat.zero_le _, Nat.zero_le _⟩ dX9_lead_58 (fun H locs hP hS => ?_)
          exact r_I hx hb hr hlocks hP hK hN hL hS h dX9_lead_61
        · replace h := if_t c35 h
          refine lv_aload_n hx hb dX9_lead_38 rfl (lv_at hl 0 rfl) ?_
          refine lv_bipush (v := (-2 : Int32)) hx hb dX9_lead_39 (by decide) ?_
          obtain ⟨r41, er41, h⟩ := bd_s1 h
          refine c_VI (k := 0) (ci := 9) (As := [.int (-2 : Int32)]) (rest := []) hx hb hml hown hts hK hN hL hP hS (cX9_refuse_ l bs D y hcb n (-2 : Int32) I J r41 er41) ok_X9_refuse ov_X9_refuse ml_71 ⟨Nat.le_of_ble_eq_true rfl, Nat.le_of_ble_eq_true rfl⟩ rfl hcb kd_0 hl.1 rfl rfl (Nat.le_of_ble_eq_true rfl) ⟨Nat.zero_le _, Nat.zero_le _⟩ dX9_lead_41 (fun H locs hP hS => ?_)
          exact r_I hx hb hr hlocks hP hK hN hL hS h dX9_lead_44
      · replace h := if_f c18 h
        exact wX9_lead_21 bs D y n  r Gc   I J _ _ _ hP hS (lv_sub hl [0] rfl) h
  · replace h := if_f c1 h
    refine lv_aload_n hx hb dX9_lead_4 rfl (lv_at hl 0 rfl) ?_
    refine lv_bipush (v := (-4 : Int32)) hx hb dX9_lead_5 (by decide) ?_
    obtain ⟨r7, er7, h⟩ := bd_s1 h
    refine c_VI (k := 0) (ci := 9) (As := [.int (-4 : Int32)]) (rest := []) hx hb hml hown hts hK hN hL hP hS (cX9_refuse_ l bs D y hcb n (-4 : Int32) I J r7 er7) ok_X9_refuse ov_X9_refuse ml_71 ⟨Nat.le_of_ble_eq_true rfl, Nat.le_of_ble_eq_true rfl⟩ rfl hcb kd_0 hl.1 rfl rfl (Nat.le_of_ble_eq_true rfl) ⟨Nat.zero_le _, Nat.zero_le _⟩ dX9_lead_7 (fun H locs hP hS => ?_)
    exact r_I hx hb hr hlocks hP hK hN hL hS h dX9_lead_10
theorem dX9_joint_0 : decode cX9_joint 0 = .ok (.aload_n 0, 1) := by decide +kernel
theorem dX9_joint_1 : decode cX9_joint 1 = .ok (.getfield 33, 3) := by decide +kernel
theorem dX9_joint_4 : decode cX9_joint 4 = .ok (.iload_n 1, 1) := by decide +kernel
theorem dX9_joint_5 : decode cX9_joint 5 = .ok (.invokevirtual 261, 3) := by decide +kernel
theorem dX9_joint_8 : decode cX9_joint 8 = .ok (.ifCond .ne 10, 3) := by decide +kernel
theorem dX9_joint_11 : decode cX9_joint 11 = .ok (.aload_n 0, 1) := by decide +kernel
theorem dX9_joint_12 : decode cX9_joint 12 = .ok (.bipush (-3), 2) := by decide +kernel
theorem dX9_joint_14 : decode cX9_joint 14 = .ok (.invokevirtual 91, 3) := by decide +kernel
theorem dX9_joint_17 : decode cX9_joint 17 = .ok (.ireturn, 1) := by decide +kernel
theorem dX9_joint_18 : decode cX9_joint 18 = .ok (.aload_n 0, 1) := by decide +kernel
theorem dX9_joint_19 : decode cX9_joint 19 = .ok (.getfield 47, 3) := by decide +kernel
theorem dX9_joint_22 : decode cX9_joint 22 = .ok (.getfield 264, 3) := by decide +kernel
theorem dX9_joint_25 : decode cX9_joint 25 = .ok (.ifCond .eq 15, 3) := by decide +kernel
theorem dX9_joint_28 : decode cX9_joint 28 = .ok (.aload_n 0, 1) := by decide +kernel
theorem dX9_joint_29 : decode cX9_joint 29 = .ok (.getfield 47, 3) := by decide +kernel
theorem dX9_joint_32 : decode cX9_joint 32 = .ok (.getfield 265, 3) := by decide +kernel
theorem dX9_joint_35 : decode cX9_joint 35 = .ok (.iload_n 1, 1) := by decide +kernel
theorem dX9_joint_36 : decode cX9_joint 36 = .ok (.iaload, 1) := by decide +kernel
theorem dX9_joint_37 : decode cX9_joint 37 = .ok (.goto 9, 3) := by decide +kernel
theorem dX9_joint_40 : decode cX9_joint 40 = .ok (.aload_n 0, 1) := by decide +kernel
theorem dX9_joint_41 : decode cX9_joint 41 = .ok (.bipush (-2), 2) := by decide +kernel
theorem dX9_joint_43 : decode cX9_joint 43 = .ok (.invokevirtual 91, 3) := by decide +kernel
theorem dX9_joint_46 : decode cX9_joint 46 = .ok (.ireturn, 1) := by decide +kernel
set_option maxHeartbeats 4000000 in
set_option maxRecDepth 100000 in
theorem cX9_joint_ (l : Launch) (bs : Nat) (D : va_G) (y : Y3) (hcb : 44 ≤ y.2.2.2) (n : Nat) (x1 : Int32) (I : MI) (J : MJ) (r : Int32 × M2) (h : fX9_joint n x1 I J = some r) : Met l yX9_joint (.code yX9_joint cX9_joint 2 (some .int) :: gtb) (rmm 2 43) (va_Pc [.ref (bs + 0), .int x1] (HB bs D y I J)) (QcI bs D y r) 0 0 (FA bs) := by
  refine Met.ofW (cc := cX9_joint) (maxL := 2) (ret := (some .int)) (by decide) rfl ?_
  intro p e s m args below meth c s₁ B hml hv
  obtain ⟨rfl, hP, hK, hN, hL⟩ := hv
  have hx := B.exec
  have hb := B.bytes
  have hr := B.returns
  have hts0 := atoms_spec (ws := .code yX9_joint cX9_joint 2 (some .int) :: gtb) B.pre
  have hts : ∀ w ∈ gtb, w.before [.ref (bs + 0), .int x1].toArray s = true := fun w hw => hts0 w (List.mem_cons_of_mem _ hw)
  have hown : s.vm.findClass RX9 = some m.cls := findClass_of_methodNamed B.named
  have hlocks := B.notSynchronized
  have hS : va_S (FA bs) s.heap s.heap [] := va_S.rf
  have Gc : Gx p s m [.ref (bs + 0), .int x1].toArray meth c cX9_joint 2 RX9 bs D y (some .int) 44 := ⟨hx, hb, hml, hown, hts, hK, hN, hL, hr, hlocks, hcb⟩
  have hl := lv_entry [.ref (bs + 0), .int x1] (n := 2) (Nat.le_of_ble_eq_true rfl)
  rw [lg_entry_eq]
  generalize (lg_sl [.ref (bs + 0), .int x1] ++ List.replicate (2 - (lg_sl [.ref (bs + 0), .int x1]).length) Slot.unset).toArray = ls at hl ⊢
  have hl : lv_has ls 2 [(0, .ref (bs + 0)), (1, .int x1)] := hl
  change W p l e (rmm 2 43) s m [.ref (bs + 0), .int x1].toArray below meth c s.heap [] 0 0 (QI below [.ref (bs + 0), .int x1].toArray s bs D y r) (F0 m 0 ls [])
  unfold fX9_joint at h
  refine lv_aload_n hx hb dX9_joint_0 rfl (lv_at hl 0 rfl) ?_
  refine g_R (C := RX9) (T := TX9) (N := 10) (ci := 9) 0 3 16 hx hb hts hown hK hP in_X9 rfl hcb okF_0_3 rfc_0_3 fl_121 dX9_joint_1 ?_
  refine lv_iload_n hx hb dX9_joint_4 rfl (lv_at hl 1 rfl) ?_
  obtain ⟨r5, er5, h⟩ := bd_s1 h
  refine c_VI (k := 16) (ci := 2) (As := [.int x1]) (rest := []) hx hb hml hown hts hK hN hL hP hS (cX2_hasJoint_ l bs D y hcb n x1 I J r5 er5) ok_X2_hasJoint ov_X2_hasJoint ml_103 ⟨Nat.le_of_ble_eq_true rfl, Nat.le_of_ble_eq_true rfl⟩ rfl hcb kd_16 hl.1 rfl rfl (Nat.le_of_ble_eq_true rfl) ⟨Nat.zero_le _, Nat.zero_le _⟩ dX9_joint_5 (fun H locs hP hS => ?_)
  refine lv_if_ne (tgt := 18) hx hb dX9_joint_8 (by decide) (fun c8 => ?_) (fun c8 => ?_)
  · replace h := if_f c8 h
    refine lv_aload_n hx hb dX9_joint_18 rfl (lv_at hl 0 rfl) ?_
    refine g_R (C := RX9) (T := TX9) (N := 10) (ci := 9) 0 5 28 hx hb hts hown hK hP in_X9 rfl hcb okF_0_5 rfc_0_5 fl_97 dX9_joint_19 ?_
    refine g_I (C := RX8) (T := TX8) (N := 6) (ci := 8) 28 0 hx hb hts hown hK hP in_X8 rfl hcb okF_28_0 fl_98 dX9_joint_22 ?_
    refine lv_if_eq (tgt := 40) hx hb dX9_joint_25 (by decide) (fun c25 => ?_) (fun c25 => ?_)
    · replace h := if_t c25 h
      refine lv_aload_n hx hb dX9_joint_40 rfl (lv_at hl 0 rfl) ?_
      refine lv_bipush (v := (-2 : Int32)) hx hb dX9_joint_41 (by decide) ?_
      obtain ⟨r43, er43, h⟩ := bd_s1 h
      refine c_VI (k := 0) (ci := 9) (As := [.int (-2 : Int32)]) (rest := []) hx hb hml hown hts hK hN hL hP hS (cX9_refuse_ l bs D y hcb n (-2 : Int32) r5.2.1 r5.2.2 r43 er43) ok_X9_refuse ov_X9_refuse ml_71 ⟨Nat.le_of_ble_eq_true rfl, Nat.le_of_ble_eq_true rfl⟩ rfl hcb kd_0 hl.1 rfl rfl (Nat.le_of_ble_eq_true rfl) ⟨Nat.zero_le _, Nat.zero_le _⟩ dX9_joint_43 (fun H locs hP hS => ?_)
      exact r_I hx hb hr hlocks hP hK hN hL hS h dX9_joint_46
    · replace h := if_f c25 h
      refine lv_aload_n hx hb dX9_joint_28 rfl (lv_at hl 0 rfl) ?_
      refine g_R (C := RX9) (T := TX9) (N := 10) (ci := 9) 0 5 28 hx hb hts hown hK hP in_X9 rfl hcb okF_0_5 rfc_0_5 fl_97 dX9_joint_29 ?_
      refine g_R (C := RX8) (T := TX8) (N := 6) (ci := 8) 28 1 29 hx hb hts hown hK hP in_X8 rfl hcb okF_28_1 rfc_28_1 fl_125 dX9_joint_32 ?_
      refine lv_iload_n hx hb dX9_joint_35 rfl (lv_at hl 1 rfl) ?_
      obtain ⟨hi36, h⟩ := if_s1 h
      refine a_I 29 hx hb hK hP hcb aln_29 hi36 dX9_joint_36 ?_
      refine lv_goto (tgt := 46) hx hb dX9_joint_37 (by decide) ?_
      exact r_I hx hb hr hlocks hP hK hN hL hS h dX9_joint_46
  · replace h := if_t c8 h
    refine lv_aload_n hx hb dX9_joint_11 rfl (lv_at hl 0 rfl) ?_
    refine lv_bipush (v := (-3 : Int32)) hx hb dX9_joint_12 (by decide) ?_
    obtain ⟨r14, er14, h⟩ := bd_s1 h
    refine c_VI (k := 0) (ci := 9) (As := [.int (-3 : Int32)]) (rest := []) hx hb hml hown hts hK hN hL hP hS (cX9_refuse_ l bs D y hcb n (-3 : Int32) r5.2.1 r5.2.2 r14 er14) ok_X9_refuse ov_X9_refuse ml_71 ⟨Nat.le_of_ble_eq_true rfl, Nat.le_of_ble_eq_true rfl⟩ rfl hcb kd_0 hl.1 rfl rfl (Nat.le_of_ble_eq_true rfl) ⟨Nat.zero_le _, Nat.zero_le _⟩ dX9_joint_14 (fun H locs hP hS => ?_)
    exact r_I hx hb hr hlocks hP hK hN hL hS h dX9_joint_17
theorem dX9_way_0 : decode cX9_way 0 = .ok (.aload_n 0, 1) := by decide +kernel
theorem dX9_way_1 : decode cX9_way 1 = .ok (.getfield 12, 3) := by decide +kernel
theorem dX9_way_4 : decode cX9_way 4 = .ok (.iload_n 1, 1) := by decide +kernel
theorem dX9_way_5 : decode cX9_way 5 = .ok (.invokevirtual 124, 3) := by decide +kernel
theorem dX9_way_8 : decode cX9_way 8 = .ok (.ifCond .ne 10, 3) := by decide +kernel
theorem dX9_way_11 : decode cX9_way 11 = .ok (.aload_n 0, 1) := by decide +kernel
theorem dX9_way_12 : decode cX9_way 12 = .ok (.bipush (-3), 2) := by decide +kernel
theorem dX9_way_14 : decode cX9_way 14 = .ok (.invokevirtual 91, 3) := by decide +kernel
theorem dX9_way_17 : decode cX9_way 17 = .ok (.ireturn, 1) := by decide +kernel
theorem dX9_way_18 : decode cX9_way 18 = .ok (.iload_n 2, 1) := by decide +kernel
theorem dX9_way_19 : decode cX9_way 19 = .ok (.ifCond .ge 10, 3) := by decide +kernel
theorem dX9_way_22 : decode cX9_way 22 = .ok (.aload_n 0, 1) := by decide +kernel
theorem dX9_way_23 : decode cX9_way 23 = .ok (.bipush (-4), 2) := by decide +kernel
theorem dX9_way_25 : decode cX9_way 25 = .ok (.invokevirtual 91, 3) := by decide +kernel
theorem dX9_way_28 : decode cX9_way 28 = .ok (.ireturn, 1) := by decide +kernel
theorem dX9_way_29 : decode cX9_way 29 = .ok (.aload_n 0, 1) := by decide +kernel
theorem dX9_way_30 : decode cX9_way 30 = .ok (.getfield 47, 3) := by decide +kernel
theorem dX9_way_33 : decode cX9_way 33 = .ok (.getfield 264, 3) := by decide +kernel
theorem dX9_way_36 : decode cX9_way 36 = .ok (.ifCond .eq 14, 3) := by decide +kernel
theorem dX9_way_39 : decode cX9_way 39 = .ok (.aload_n 0, 1) := by decide +kernel
theorem dX9_way_40 : decode cX9_way 40 = .ok (.getfield 40, 3) := by decide +kernel
theorem dX9_way_43 : decode cX9_way 43 = .ok (.iload_n 1, 1) := by decide +kernel
theorem dX9_way_44 : decode cX9_way 44 = .ok (.invokevirtual 218, 3) := by decide +kernel
theorem dX9_way_47 : decode cX9_way 47 = .ok (.ifCond .ne 10, 3) := by decide +kernel
theorem dX9_way_50 : decode cX9_way 50 = .ok (.aload_n 0, 1) := by decide +kernel
theorem dX9_way_51 : decode cX9_way 51 = .ok (.bipush (-2), 2) := by decide +kernel
theorem dX9_way_53 : decode cX9_way 53 = .ok (.invokevirtual 91, 3) := by decide +kernel
theorem dX9_way_56 : decode cX9_way 56 = .ok (.ireturn, 1) := by decide +kernel
theorem dX9_way_57 : decode cX9_way 57 = .ok (.aload_n 0, 1) := by decide +kernel
theorem dX9_way_58 : decode cX9_way 58 = .ok (.getfield 47, 3) := by decide +kernel
theorem dX9_way_61 : decode cX9_way 61 = .ok (.iload_n 1, 1) := by decide +kernel
theorem dX9_way_62 : decode cX9_way 62 = .ok (.iload_n 2, 1) := by decide +kernel
theorem dX9_way_63 : decode cX9_way 63 = .ok (.aload_n 0, 1) := by decide +kernel
theorem dX9_way_64 : decode cX9_way 64 = .ok (.getfield 33, 3) := by decide +kernel
theorem dX9_way_67 : decode cX9_way 67 = .ok (.invokevirtual 268, 3) := by decide +kernel
theorem dX9_way_70 : decode cX9_way 70 = .ok (.ireturn, 1) := by decide +kernel
set_option maxHeartbeats 4000000 in
set_option maxRecDepth 100000 in
theorem wX9_way_50 {p : Program} {l : Launch} {e : Env} {s : State} {m : MethodId} {args : Array Value} {below : List Frame} {meth : Method} {c : Code} (bs : Nat) (D : va_G) (y : Y3) (n : Nat) (r : Int32 × M2) (Gc : Gx p s m args meth c cX9_way 3 RX9 bs D y (some .int) 44)  (I : MI) (J : MJ) (H : Heap) (locs : List Loc) (ls : Array Slot) (hP : va_P D vwCl (wl bs y I J) H) (hS : va_S (FA bs) s.heap H locs) (hl : lv_has ls 3 [(0, .ref (bs + 0))]) (h : fX9_way_50 n   I J = some r) : W p l e (rmm 2 47) s m args below meth c H locs 0 0 (QI below args s bs D y r) (F0 m 50 ls []) := by
  obtain ⟨hx, hb, hml, hown, hts, hK, hN, hL, hr, hlocks, hcb⟩ := id Gc
  unfold fX9_way_50 at h
  refine lv_aload_n hx hb dX9_way_50 rfl (lv_at hl 0 rfl) ?_
  refine lv_bipush (v := (-2 : Int32)) hx hb dX9_way_51 (by decide) ?_
  obtain ⟨r53, er53, h⟩ := bd_s1 h
  refine c_VI (k := 0) (ci := 9) (As := [.int (-2 : Int32)]) (rest := []) hx hb hml hown hts hK hN hL hP hS (cX9_refuse_ l bs D y hcb n (-2 : Int32) I J r53 er53) ok_X9_refuse ov_X9_refuse ml_71 ⟨Nat.le_of_ble_eq_true rfl, Nat.le_of_ble_eq_true rfl⟩ rfl hcb kd_0 hl.1 rfl rfl (Nat.le_of_ble_eq_true rfl) ⟨Nat.zero_le _, Nat.zero_le _⟩ dX9_way_53 (fun H locs hP hS => ?_)
  exact r_I hx hb hr hlocks hP hK hN hL hS h dX9_way_56
set_option maxHeartbeats 4000000 in
set_option maxRecDepth 100000 in
theorem cX9_way_ (l : Launch) (bs : Nat) (D : va_G) (y : Y3) (hcb : 44 ≤ y.2.2.2) (n : Nat) (x1 : Int32) (x2 : Int32) (I : MI) (J : MJ) (r : Int32 × M2) (h : fX9_way n x1 x2 I J = some r) : Met l yX9_way (.code yX9_way cX9_way 3 (some .int) :: gtb) (rmm 2 47) (va_Pc [.ref (bs + 0), .int x1, .int x2] (HB bs D y I J)) (QcI bs D y r) 0 0 (FA bs) := by
  refine Met.ofW (cc := cX9_way) (maxL := 3) (ret := (some .int)) (by decide) rfl ?_
  intro p e s m args below meth c s₁ B hml hv
  obtain ⟨rfl, hP, hK, hN, hL⟩ := hv
  have hx := B.exec
  have hb := B.bytes
  have hr := B.returns
  have hts0 := atoms_spec (ws := .code yX9_way cX9_way 3 (some .int) :: gtb) B.pre
  have hts : ∀ w ∈ gtb, w.before [.ref (bs + 0), .int x1, .int x2].toArray s = true := fun w hw => hts0 w (List.mem_cons_of_mem _ hw)
  have hown : s.vm.findClass RX9 = some m.cls := findClass_of_methodNamed B.named
  have hlocks := B.notSynchronized
  have hS : va_S (FA bs) s.heap s.heap [] := va_S.rf
  have Gc : Gx p s m [.ref (bs + 0), .int x1, .int x2].toArray meth c cX9_way 3 RX9 bs D y (some .int) 44 := ⟨hx, hb, hml, hown, hts, hK, hN, hL, hr, hlocks, hcb⟩
  have hl := lv_entry [.ref (bs + 0), .int x1, .int x2] (n := 3) (Nat.le_of_ble_eq_true rfl)
  rw [lg_entry_eq]
  generalize (lg_sl [.ref (bs + 0), .int x1, .int x2] ++ List.replicate (3 - (lg_sl [.ref (bs + 0), .int x1, .int x2]).length) Slot.unset).toArray = ls at hl ⊢
  have hl : lv_has ls 3 [(0, .ref (bs + 0)), (1, .int x1), (2, .int x2)] := hl
  change W p l e (rmm 2 47) s m [.ref (bs + 0), .int x1, .int x2].toArray below meth c s.heap [] 0 0 (QI below [.ref (bs + 0), .int x1, .int x2].toArray s bs D y r) (F0 m 0 ls [])
  unfold fX9_way at h
  refine lv_aload_n hx hb dX9_way_0 rfl (lv_at hl 0 rfl) ?_
  refine g_R (C := RX9) (T := TX9) (N := 10) (ci := 9) 0 0 1 hx hb hts hown hK hP in_X9 rfl hcb okF_0_0 rfc_0_0 fl_106 dX9_way_1 ?_
  refine lv_iload_n hx hb dX9_way_4 rfl (lv_at hl 1 rfl) ?_
  obtain ⟨r5, er5, h⟩ := bd_s1 h
  refine c_VI (k := 1) (ci := 3) (As := [.int x1]) (rest := []) hx hb hml hown hts hK hN hL hP hS (cX3_has_ l bs D y hcb n x1 I J r5 er5) ok_X3_has ov_X3_has ml_79 ⟨Nat.le_of_ble_eq_true rfl, Nat.le_of_ble_eq_true rfl⟩ rfl hcb kd_1 hl.1 rfl rfl (Nat.le_of_ble_eq_true rfl) ⟨Nat.zero_le _, Nat.zero_le _⟩ dX9_way_5 (fun H locs hP hS => ?_)
  refine lv_if_ne (tgt := 18) hx hb dX9_way_8 (by decide) (fun c8 => ?_) (fun c8 => ?_)
  · replace h := if_f c8 h
    refine lv_iload_n hx hb dX9_way_18 rfl (lv_at hl 2 rfl) ?_
    refine lv_if_ge (tgt := 29) hx hb dX9_way_19 (by decide) (fun c19 => ?_) (fun c19 => ?_)
    · replace h := if_t c19 h
      refine lv_aload_n hx hb dX9_way_29 rfl (lv_at hl 0 rfl) ?_
      refine g_R (C := RX9) (T := TX9) (N := 10) (ci := 9) 0 5 28 hx hb hts hown hK hP in_X9 rfl hcb okF_0_5 rfc_0_5 fl_97 dX9_way_30 ?_
      refine g_I (C := RX8) (T := TX8) (N := 6) (ci := 8) 28 0 hx hb hts hown hK hP in_X8 rfl hcb okF_28_0 fl_98 dX9_way_33 ?_
      refine lv_if_eq (tgt := 50) hx hb dX9_way_36 (by decide) (fun c36 => ?_) (fun c36 => ?_)
      · replace h := if_t c36 h
        exact wX9_way_50 bs D y n  r Gc   r5.2.1 r5.2.2 _ _ _ hP hS (lv_sub hl [0] rfl) h
      · replace h := if_f c36 h
        refine lv_aload_n hx hb dX9_way_39 rfl (lv_at hl 0 rfl) ?_
        refine g_R (C := RX9) (T := TX9) (N := 10) (ci := 9) 0 4 22 hx hb hts hown hK hP in_X9 rfl hcb okF_0_4 rfc_0_4 fl_101 dX9_way_40 ?_
        refine lv_iload_n hx hb dX9_way_43 rfl (lv_at hl 1 rfl) ?_
        obtain ⟨r44, er44, h⟩ := bd_s1 h
        refine c_VI (k := 22) (ci := 5) (As := [.int x1]) (rest := []) hx hb hml hown hts hK hN hL hP hS (cX5_holds_ l bs D y hcb n x1 r5.2.1 r5.2.2 r44 er44) ok_X5_holds ov_X5_holds ml_93 ⟨Nat.le_of_ble_eq_true rfl, Nat.le_of_ble_eq_true rfl⟩ rfl hcb kd_22 hl.1 rfl rfl (Nat.le_of_ble_eq_true rfl) ⟨Nat.zero_le _, Nat.zero_le _⟩ dX9_way_44 (fun H locs hP hS => ?_)
        refine lv_if_ne (tgt := 57) hx hb dX9_way_47 (by decide) (fun c47 => ?_) (fun c47 => ?_)
        · replace h := if_f c47 h
          refine lv_aload_n hx hb dX9_way_57 rfl (lv_at hl 0 rfl) ?_
          refine g_R (C := RX9) (T := TX9) (N := 10) (ci := 9) 0 5 28 hx hb hts hown hK hP in_X9 rfl hcb okF_0_5 rfc_0_5 fl_97 dX9_way_58 ?_
          refine lv_iload_n hx hb dX9_way_61 rfl (lv_at hl 1 rfl) ?_
          refine lv_iload_n hx hb dX9_way_62 rfl (lv_at hl 2 rfl) ?_
          refine lv_aload_n hx hb dX9_way_63 rfl (lv_at hl 0 rfl) ?_
          refine g_R (C := RX9) (T := TX9) (N := 10) (ci := 9) 0 3 16 hx hb hts hown hK hP in_X9 rfl hcb okF_0_3 rfc_0_3 fl_121 dX9_way_64 ?_
          obtain ⟨r67, er67, h⟩ := bd_s1 h
          refine c_VI (k := 28) (ci := 8) (As := [.int x1, .int x2, .ref (bs + 16)]) (rest := []) hx hb hml hown hts hK hN hL hP hS (cX8_jointOf_ l bs D y hcb n x1 x2 r44.2.1 r44.2.2 r67 er67) ok_X8_jointOf ov_X8_jointOf ml_104 ⟨Nat.le_of_ble_eq_true rfl, Nat.le_of_ble_eq_true rfl⟩ rfl hcb kd_28 hl.1 rfl rfl (Nat.le_of_ble_eq_true rfl) ⟨Nat.zero_le _, Nat.zero_le _⟩ dX9_way_67 (fun H locs hP hS => ?_)
          exact r_I hx hb hr hlocks hP hK hN hL hS h dX9_way_70
        · replace h := if_t c47 h
          exact wX9_way_50 bs D y n  r Gc   r44.2.1 r44.2.2 _ _ _ hP hS (lv_sub hl [0] rfl) h
    · replace h := if_f c19 h
      refine lv_aload_n hx hb dX9_way_22 rfl (lv_at hl 0 rfl) ?_
      refine lv_bipush (v := (-4 : Int32)) hx hb dX9_way_23 (by decide) ?_
      obtain ⟨r25, er25, h⟩ := bd_s1 h
      refine c_VI (k := 0) (ci := 9) (As := [.int (-4 : Int32)]) (rest := []) hx hb hml hown hts hK hN hL hP hS (cX9_refuse_ l bs D y hcb n (-4 : Int32) r5.2.1 r5.2.2 r25 er25) ok_X9_refuse ov_X9_refuse ml_71 ⟨Nat.le_of_ble_eq_true rfl, Nat.le_of_ble_eq_true rfl⟩ rfl hcb kd_0 hl.1 rfl rfl (Nat.le_of_ble_eq_true rfl) ⟨Nat.zero_le _, Nat.zero_le _⟩ dX9_way_25 (fun H locs hP hS => ?_)
      exact r_I hx hb hr hlocks hP hK hN hL hS h dX9_way_28
  · replace h := if_t c8 h
    refine lv_aload_n hx hb dX9_way_11 rfl (lv_at hl 0 rfl) ?_
    refine lv_bipush (v := (-3 : Int32)) hx hb dX9_way_12 (by decide) ?_
    obtain ⟨r14, er14, h⟩ := bd_s1 h
    refine c_VI (k := 0) (ci := 9) (As := [.int (-3 : Int32)]) (rest := []) hx hb hml hown hts hK hN hL hP hS (cX9_refuse_ l bs D y hcb n (-3 : Int32) r5.2.1 r5.2.2 r14 er14) ok_X9_refuse ov_X9_refuse ml_71 ⟨Nat.le_of_ble_eq_true rfl, Nat.le_of_ble_eq_true rfl⟩ rfl hcb kd_0 hl.1 rfl rfl (Nat.le_of_ble_eq_true rfl) ⟨Nat.zero_le _, Nat.zero_le _⟩ dX9_way_14 (fun H locs hP hS => ?_)
    exact r_I hx hb hr hlocks hP hK hN hL hS h dX9_way_17
theorem dX9_side_0 : decode cX9_side 0 = .ok (.aload_n 0, 1) := by decide +kernel
theorem dX9_side_1 : decode cX9_side 1 = .ok (.getfield 33, 3) := by decide +kernel
theorem dX9_side_4 : decode cX9_side 4 = .ok (.iload_n 1, 1) := by decide +kernel
theorem dX9_side_5 : decode cX9_side 5 = .ok (.invokevirtual 261, 3) := by decide +kernel
theorem dX9_side_8 : decode cX9_side 8 = .ok (.ifCond .ne 10, 3) := by decide +kernel
theorem dX9_side_11 : decode cX9_side 11 = .ok (.aload_n 0, 1) := by decide +kernel
theorem dX9_side_12 : decode cX9_side 12 = .ok (.bipush (-3), 2) := by decide +kernel
theorem dX9_side_14 : decode cX9_side 14 = .ok (.invokevirtual 91, 3) := by decide +kernel
theorem dX9_side_17 : decode cX9_side 17 = .ok (.ireturn, 1) := by decide +kernel
theorem dX9_side_18 : decode cX9_side 18 = .ok (.iload_n 2, 1) := by decide +kernel
theorem dX9_side_19 : decode cX9_side 19 = .ok (.tableswitch 69 0 2 #[25, 35, 45], 25) := by decide +kernel
theorem dX9_side_44 : decode cX9_side 44 = .ok (.aload_n 0, 1) := by decide +kernel
theorem dX9_side_45 : decode cX9_side 45 = .ok (.getfield 33, 3) := by decide +kernel
theorem dX9_side_48 : decode cX9_side 48 = .ok (.getfield 272, 3) := by decide +kernel
theorem dX9_side_51 : decode cX9_side 51 = .ok (.iload_n 1, 1) := by decide +kernel
theorem dX9_side_52 : decode cX9_side 52 = .ok (.iaload, 1) := by decide +kernel
theorem dX9_side_53 : decode cX9_side 53 = .ok (.ireturn, 1) := by decide +kernel
theorem dX9_side_54 : decode cX9_side 54 = .ok (.aload_n 0, 1) := by decide +kernel
theorem dX9_side_55 : decode cX9_side 55 = .ok (.getfield 33, 3) := by decide +kernel
theorem dX9_side_58 : decode cX9_side 58 = .ok (.getfield 275, 3) := by decide +kernel
theorem dX9_side_61 : decode cX9_side 61 = .ok (.iload_n 1, 1) := by decide +kernel
theorem dX9_side_62 : decode cX9_side 62 = .ok (.iaload, 1) := by decide +kernel
theorem dX9_side_63 : decode cX9_side 63 = .ok (.ireturn, 1) := by decide +kernel
theorem dX9_side_64 : decode cX9_side 64 = .ok (.aload_n 0, 1) := by decide +kernel
theorem dX9_side_65 : decode cX9_side 65 = .ok (.getfield 47, 3) := by decide +kernel
theorem dX9_side_68 : decode cX9_side 68 = .ok (.getfield 264, 3) := by decide +kernel
theorem dX9_side_71 : decode cX9_side 71 = .ok (.ifCond .eq 15, 3) := by decide +kernel
theorem dX9_side_74 : decode cX9_side 74 = .ok (.aload_n 0, 1) := by decide +kernel
theorem dX9_side_75 : decode cX9_side 75 = .ok (.getfield 47, 3) := by decide +kernel
theorem dX9_side_78 : decode cX9_side 78 = .ok (.getfield 278, 3) := by decide +kernel
theorem dX9_side_81 : decode cX9_side 81 = .ok (.iload_n 1, 1) := by decide +kernel
theorem dX9_side_82 : decode cX9_side 82 = .ok (.iaload, 1) := by decide +kernel
theorem dX9_side_83 : decode cX9_side 83 = .ok (.goto 4, 3) := by decide +kernel
theorem dX9_side_86 : decode cX9_side 86 = .ok (.iconst 0, 1) := by decide +kernel
theorem dX9_side_87 : decode cX9_side 87 = .ok (.ireturn, 1) := by decide +kernel
theorem dX9_side_88 : decode cX9_side 88 = .ok (.aload_n 0, 1) := by decide +kernel
theorem dX9_side_89 : decode cX9_side 89 = .ok (.bipush (-7), 2) := by decide +kernel
theorem dX9_side_91 : decode cX9_side 91 = .ok (.invokevirtual 91, 3) := by decide +kernel
theorem dX9_side_94 : decode cX9_side 94 = .ok (.ireturn, 1) := by decide +kernel
set_option maxHeartbeats 4000000 in
set_option maxRecDepth 100000 in
theorem cX9_side_ (l : Launch) (bs : Nat) (D : va_G) (y : Y3) (hcb : 44 ≤ y.2.2.2) (n : Nat) (x1 : Int32) (x2 : Int32) (I : MI) (J : MJ) (r : Int32 × M2) (h : fX9_side n x1 x2 I J = some r) : Met l yX9_side (.code yX9_side cX9_side 3 (some .int) :: gtb) (rmm 2 43) (va_Pc [.ref (bs + 0), .int x1, .int x2] (HB bs D y I J)) (QcI bs D y r) 0 0 (FA bs) := by
  refine Met.ofW (cc := cX9_side) (maxL := 3) (ret := (some .int)) (by decide) rfl ?_
  intro p e s m args below meth c s₁ B hml hv
  obtain ⟨rfl, hP, hK, hN, hL⟩ := hv
  have hx := B.exec
  have hb := B.bytes
  have hr := B.returns
  have hts0 := atoms_spec (ws := .code yX9_side cX9_side 3 (some .int) :: gtb) B.pre
  have hts : ∀ w ∈ gtb, w.before [.ref (bs + 0), .int x1, .int x2].toArray s = true := fun w hw => hts0 w (List.mem_cons_of_mem _ hw)
  have hown : s.vm.findClass RX9 = some m.cls := findClass_of_methodNamed B.named
  have hlocks := B.notSynchronized
  have hS : va_S (FA bs) s.heap s.heap [] := va_S.rf
  have Gc : Gx p s m [.ref (bs + 0), .int x1, .int x2].toArray meth c cX9_side 3 RX9 bs D y (some .int) 44 := ⟨hx, hb, hml, hown, hts, hK, hN, hL, hr, hlocks, hcb⟩
  have hl := lv_entry [.ref (bs + 0), .int x1, .int x2] (n := 3) (Nat.le_of_ble_eq_true rfl)
  rw [lg_entry_eq]
  generalize (lg_sl [.ref (bs + 0), .int x1, .int x2] ++ List.replicate (3 - (lg_sl [.ref (bs + 0), .int x1, .int x2]).length) Slot.unset).toArray = ls at hl ⊢
  have hl : lv_has ls 3 [(0, .ref (bs + 0)), (1, .int x1), (2, .int x2)] := hl
  change W p l e (rmm 2 43) s m [.ref (bs + 0), .int x1, .int x2].toArray below meth c s.heap [] 0 0 (QI below [.ref (bs + 0), .int x1, .int x2].toArray s bs D y r) (F0 m 0 ls [])
  unfold fX9_side at h
  refine lv_aload_n hx hb dX9_side_0 rfl (lv_at hl 0 rfl) ?_
  refine g_R (C := RX9) (T := TX9) (N := 10) (ci := 9) 0 3 16 hx hb hts hown hK hP in_X9 rfl hcb okF_0_3 rfc_0_3 fl_121 dX9_side_1 ?_
  refine lv_iload_n hx hb dX9_side_4 rfl (lv_at hl 1 rfl) ?_
  obtain ⟨r5, er5, h⟩ := bd_s1 h
  refine c_VI (k := 16) (ci := 2) (As := [.int x1]) (rest := []) hx hb hml hown hts hK hN hL hP hS (cX2_hasJoint_ l bs D y hcb n x1 I J r5 er5) ok_X2_hasJoint ov_X2_hasJoint ml_103 ⟨Nat.le_of_ble_eq_true rfl, Nat.le_of_ble_eq_true rfl⟩ rfl hcb kd_16 hl.1 rfl rfl (Nat.le_of_ble_eq_true rfl) ⟨Nat.zero_le _, Nat.zero_le _⟩ dX9_side_5 (fun H locs hP hS => ?_)
  refine lv_if_ne (tgt := 18) hx hb dX9_side_8 (by decide) (fun c8 => ?_) (fun c8 => ?_)
  · replace h := if_f c8 h
    refine lv_iload_n hx hb dX9_side_18 rfl (lv_at hl 2 rfl) ?_
    by_cases w19_0 : x2 = (0 : Int32)
    · replace h := if_t w19_0 h
      refine lv_tableIn (off := 25) (tgt := 44) hx hb dX9_side_19 (by rw [w19_0]; decide) (by rw [w19_0]; decide) (by rw [w19_0]; rfl) (by decide) ?_
      refine lv_aload_n hx hb dX9_side_44 rfl (lv_at hl 0 rfl) ?_
      refine g_R (C := RX9) (T := TX9) (N := 10) (ci := 9) 0 3 16 hx hb hts hown hK hP in_X9 rfl hcb okF_0_3 rfc_0_3 fl_121 dX9_side_45 ?_
      refine g_R (C := RX2) (T := TX2) (N := 10) (ci := 2) 16 5 19 hx hb hts hown hK hP in_X2 rfl hcb okF_16_5 rfc_16_5 fl_126 dX9_side_48 ?_
      refine lv_iload_n hx hb dX9_side_51 rfl (lv_at hl 1 rfl) ?_
      obtain ⟨hi52, h⟩ := if_s1 h
      refine a_I 19 hx hb hK hP hcb aln_19 hi52 dX9_side_52 ?_
      exact r_I hx hb hr hlocks hP hK hN hL hS h dX9_side_53
    · replace h := if_f w19_0 h
      by_cases w19_1 : x2 = (1 : Int32)
      · replace h := if_t w19_1 h
        refine lv_tableIn (off := 35) (tgt := 54) hx hb dX9_side_19 (by rw [w19_1]; decide) (by rw [w19_1]; decide) (by rw [w19_1]; rfl) (by decide) ?_
        refine lv_aload_n hx hb dX9_side_54 rfl (lv_at hl 0 rfl) ?_
        refine g_R (C := RX9) (T := TX9) (N := 10) (ci := 9) 0 3 16 hx hb hts hown hK hP in_X9 rfl hcb okF_0_3 rfc_0_3 fl_121 dX9_side_55 ?_
        refine g_R (C := RX2) (T := TX2) (N := 10) (ci := 2) 16 6 20 hx hb hts hown hK hP in_X2 rfl hcb okF_16_6 rfc_16_6 fl_127 dX9_side_58 ?_
        refine lv_iload_n hx hb dX9_side_61 rfl (lv_at hl 1 rfl) ?_
        obtain ⟨hi62, h⟩ := if_s1 h
        refine a_I 20 hx hb hK hP hcb aln_20 hi62 dX9_side_62 ?_
        exact r_I hx hb hr hlocks hP hK hN hL hS h dX9_side_63
      · replace h := if_f w19_1 h
        by_cases w19_2 : x2 = (2 : Int32)
        · replace h := if_t w19_2 h
          refine lv_tableIn (off := 45) (tgt := 64) hx hb dX9_side_19 (by rw [w19_2]; decide) (by rw [w19_2]; decide) (by rw [w19_2]; rfl) (by decide) ?_
          refine lv_aload_n hx hb dX9_side_64 rfl (lv_at hl 0 rfl) ?_
          refine g_R (C := RX9) (T := TX9) (N := 10) (ci := 9) 0 5 28 hx hb hts hown hK hP in_X9 rfl hcb okF_0_5 rfc_0_5 fl_97 dX9_side_65 ?_
          refine g_I (C := RX8) (T := TX8) (N := 6) (ci := 8) 28 0 hx hb hts hown hK hP in_X8 rfl hcb okF_28_0 fl_98 dX9_side_68 ?_
          refine lv_if_eq (tgt := 86) hx hb dX9_side_71 (by decide) (fun c71 => ?_) (fun c71 => ?_)
          · replace h := if_t c71 h
            refine lv_iconst (v := (0 : Int32)) hx hb dX9_side_86 (by decide) ?_
            exact r_I hx hb hr hlocks hP hK hN hL hS h dX9_side_87
          · replace h := if_f c71 h
            refine lv_aload_n hx hb dX9_side_74 rfl (lv_at hl 0 rfl) ?_
            refine g_R (C := RX9) (T := TX9) (N := 10) (ci := 9) 0 5 28 hx hb hts hown hK hP in_X9 rfl hcb okF_0_5 rfc_0_5 fl_97 dX9_side_75 ?_
            refine g_R (C := RX8) (T := TX8) (N := 6) (ci := 8) 28 2 30 hx hb hts hown hK hP in_X8 rfl hcb okF_28_2 rfc_28_2 fl_128 dX9_side_78 ?_
            refine lv_iload_n hx hb dX9_side_81 rfl (lv_at hl 1 rfl) ?_
            obtain ⟨hi82, h⟩ := if_s1 h
            refine a_I 30 hx hb hK hP hcb aln_30 hi82 dX9_side_82 ?_
            refine lv_goto (tgt := 87) hx hb dX9_side_83 (by decide) ?_
            exact r_I hx hb hr hlocks hP hK hN hL hS h dX9_side_87
        · replace h := if_f w19_2 h
          refine lv_tableOut (tgt := 88) hx hb dX9_side_19 (by have z0 := sw_ne w19_0; have z1 := sw_ne w19_1; have z2 := sw_ne w19_2; simp only [Int32.reduceToInt] at z0 z1 z2; omega) (by decide) ?_
          refine lv_aload_n hx hb dX9_side_88 rfl (lv_at hl 0 rfl) ?_
          refine lv_bipush (v := (-7 : Int32)) hx hb dX9_side_89 (by decide) ?_
          obtain ⟨r91, er91, h⟩ := bd_s1 h
          refine c_VI (k := 0) (ci := 9) (As := [.int (-7 : Int32)]) (rest := []) hx hb hml hown hts hK hN hL hP hS (cX9_refuse_ l bs D y hcb n (-7 : Int32) r5.2.1 r5.2.2 r91 er91) ok_X9_refuse ov_X9_refuse ml_71 ⟨Nat.le_of_ble_eq_true rfl, Nat.le_of_ble_eq_true rfl⟩ rfl hcb kd_0 hl.1 rfl rfl (Nat.le_of_ble_eq_true rfl) ⟨Nat.zero_le _, Nat.zero_le _⟩ dX9_side_91 (fun H locs hP hS => ?_)
          exact r_I hx hb hr hlocks hP hK hN hL hS h dX9_side_94
  · replace h := if_t c8 h
    refine lv_aload_n hx hb dX9_side_11 rfl (lv_at hl 0 rfl) ?_
    refine lv_bipush (v := (-3 : Int32)) hx hb dX9_side_12 (by decide) ?_
    obtain ⟨r14, er14, h⟩ := bd_s1 h
    refine c_VI (k := 0) (ci := 9) (As := [.int (-3 : Int32)]) (rest := []) hx hb hml hown hts hK hN hL hP hS (cX9_refuse_ l bs D y hcb n (-3 : Int32) r5.2.1 r5.2.2 r14 er14) ok_X9_refuse ov_X9_refuse ml_71 ⟨Nat.le_of_ble_eq_true rfl, Nat.le_of_ble_eq_true rfl⟩ rfl hcb kd_0 hl.1 rfl rfl (Nat.le_of_ble_eq_true rfl) ⟨Nat.zero_le _, Nat.zero_le _⟩ dX9_side_14 (fun H locs hP hS => ?_)
    exact r_I hx hb hr hlocks hP hK hN hL hS h dX9_side_17
