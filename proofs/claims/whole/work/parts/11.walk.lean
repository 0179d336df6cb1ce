/-! walks: X2_hasTile X2_hasJoint X2_isBroken X2_breakTile X2_roomOf X2_roomInAll X2_beyondJoint X2_jointBack X3_has X3_hasSign X3_add X3_addInput X3_addKeeper X3_addGate X3_addOut X3_word X3_reckon X4_take X4_hasStretch X5_feedersOf X5_linkUser X5_gather X5_putAll X5_holds X5_hasRoom X5_carryOver X5_exchange X5_endsOf X5_wireCount X5_spanOf -/
theorem dX2_hasTile_0 : decode cX2_hasTile 0 = .ok (.iload_n 1, 1) := by decide +kernel
theorem dX2_hasTile_1 : decode cX2_hasTile 1 = .ok (.ifCond .lt 15, 3) := by decide +kernel
theorem dX2_hasTile_4 : decode cX2_hasTile 4 = .ok (.iload_n 1, 1) := by decide +kernel
theorem dX2_hasTile_5 : decode cX2_hasTile 5 = .ok (.aload_n 0, 1) := by decide +kernel
theorem dX2_hasTile_6 : decode cX2_hasTile 6 = .ok (.getfield 34, 3) := by decide +kernel
theorem dX2_hasTile_9 : decode cX2_hasTile 9 = .ok (.if_icmp .ge 7, 3) := by decide +kernel
theorem dX2_hasTile_12 : decode cX2_hasTile 12 = .ok (.iconst 1, 1) := by decide +kernel
theorem dX2_hasTile_13 : decode cX2_hasTile 13 = .ok (.goto 4, 3) := by decide +kernel
theorem dX2_hasTile_16 : decode cX2_hasTile 16 = .ok (.iconst 0, 1) := by decide +kernel
theorem dX2_hasTile_17 : decode cX2_hasTile 17 = .ok (.ireturn, 1) := by decide +kernel
set_option maxHeartbeats 4000000 in
set_option maxRecDepth 100000 in
theorem cX2_hasTile_ (l : Launch) (bs : Nat) (D : va_G) (y : Y3) (hcb : 44 ≤ y.2.2.2) (n : Nat) (x1 : Int32) (I : MI) (J : MJ) (r : Int32 × M2) (h : fX2_hasTile n x1 I J = some r) : Met l yX2_hasTile (.code yX2_hasTile cX2_hasTile 2 (some .boolean) :: gtb) (rmm 0 0) (va_Pc [.ref (bs + 16), .int x1] (HB bs D y I J)) (QcI bs D y r) 0 0 (FA bs) := by
  refine Met.ofW (cc := cX2_hasTile) (maxL := 2) (ret := (some .boolean)) (by decide) rfl ?_
  intro p e s m args below meth c s₁ B hml hv
  obtain ⟨rfl, hP, hK, hN, hL⟩ := hv
  have hx := B.exec
  have hb := B.bytes
  have hr := B.returns
  have hts0 := atoms_spec (ws := .code yX2_hasTile cX2_hasTile 2 (some .boolean) :: gtb) B.pre
  have hts : ∀ w ∈ gtb, w.before [.ref (bs + 16), .int x1].toArray s = true := fun w hw => hts0 w (List.mem_cons_of_mem _ hw)
  have hown : s.vm.findClass RX2 = some m.cls := findClass_of_methodNamed B.named
  have hlocks := B.notSynchronized
  have hS : va_S (FA bs) s.heap s.heap [] := va_S.rf
  have Gc : Gx p s m [.ref (bs + 16), .int x1].toArray meth c cX2_hasTile 2 RX2 bs D y (some .boolean) 44 := ⟨hx, hb, hml, hown, hts, hK, hN, hL, hr, hlocks, hcb⟩
  have hl := lv_entry [.ref (bs + 16), .int x1] (n := 2) (Nat.le_of_ble_eq_true rfl)
  rw [lg_entry_eq]
  generalize (lg_sl [.ref (bs + 16), .int x1] ++ List.replicate (2 - (lg_sl [.ref (bs + 16), .int x1]).length) Slot.unset).toArray = ls at hl ⊢
  have hl : lv_has ls 2 [(0, .ref (bs + 16)), (1, .int x1)] := hl
  change W p l e (rmm 0 0) s m [.ref (bs + 16), .int x1].toArray below meth c s.heap [] 0 0 (QI below [.ref (bs + 16), .int x1].toArray s bs D y r) (F0 m 0 ls [])
  unfold fX2_hasTile at h
  refine lv_iload_n hx hb dX2_hasTile_0 rfl (lv_at hl 1 rfl) ?_
  refine lv_if_lt (tgt := 16) hx hb dX2_hasTile_1 (by decide) (fun c1 => ?_) (fun c1 => ?_)
  · replace h := if_t c1 h
    refine lv_iconst (v := (0 : Int32)) hx hb dX2_hasTile_16 (by decide) ?_
    exact r_Z hx hb hr hlocks hP hK hN hL hS (by decide) h dX2_hasTile_17
  · replace h := if_f c1 h
    refine lv_iload_n hx hb dX2_hasTile_4 rfl (lv_at hl 1 rfl) ?_
    refine lv_aload_n hx hb dX2_hasTile_5 rfl (lv_at hl 0 rfl) ?_
    refine g_I (C := RX2) (T := TX2) (N := 10) (ci := 2) 16 1 hx hb hts hown hK hP in_X2 rfl hcb okF_16_1 fl_24 dX2_hasTile_6 ?_
    refine lv_icmp_ge (tgt := 16) hx hb dX2_hasTile_9 (by decide) (fun c9 => ?_) (fun c9 => ?_)
    · replace h := if_t c9 h
      refine lv_iconst (v := (0 : Int32)) hx hb dX2_hasTile_16 (by decide) ?_
      exact r_Z hx hb hr hlocks hP hK hN hL hS (by decide) h dX2_hasTile_17
    · replace h := if_f c9 h
      refine lv_iconst (v := (1 : Int32)) hx hb dX2_hasTile_12 (by decide) ?_
      refine lv_goto (tgt := 17) hx hb dX2_hasTile_13 (by decide) ?_
      exact r_Z hx hb hr hlocks hP hK hN hL hS (by decide) h dX2_hasTile_17
theorem dX2_hasJoint_0 : decode cX2_hasJoint 0 = .ok (.iload_n 1, 1) := by decide +kernel
theorem dX2_hasJoint_1 : decode cX2_hasJoint 1 = .ok (.ifCond .lt 15, 3) := by decide +kernel
theorem dX2_hasJoint_4 : decode cX2_hasJoint 4 = .ok (.iload_n 1, 1) := by decide +kernel
theorem dX2_hasJoint_5 : decode cX2_hasJoint 5 = .ok (.aload_n 0, 1) := by decide +kernel
theorem dX2_hasJoint_6 : decode cX2_hasJoint 6 = .ok (.getfield 37, 3) := by decide +kernel
theorem dX2_hasJoint_9 : decode cX2_hasJoint 9 = .ok (.if_icmp .ge 7, 3) := by decide +kernel
theorem dX2_hasJoint_12 : decode cX2_hasJoint 12 = .ok (.iconst 1, 1) := by decide +kernel
theorem dX2_hasJoint_13 : decode cX2_hasJoint 13 = .ok (.goto 4, 3) := by decide +kernel
theorem dX2_hasJoint_16 : decode cX2_hasJoint 16 = .ok (.iconst 0, 1) := by decide +kernel
theorem dX2_hasJoint_17 : decode cX2_hasJoint 17 = .ok (.ireturn, 1) := by decide +kernel
set_option maxHeartbeats 4000000 in
set_option maxRecDepth 100000 in
theorem cX2_hasJoint_ (l : Launch) (bs : Nat) (D : va_G) (y : Y3) (hcb : 44 ≤ y.2.2.2) (n : Nat) (x1 : Int32) (I : MI) (J : MJ) (r : Int32 × M2) (h : fX2_hasJoint n x1 I J = some r) : Met l yX2_hasJoint (.code yX2_hasJoint cX2_hasJoint 2 (some .boolean) :: gtb) (rmm 0 0) (va_Pc [.ref (bs + 16), .int x1] (HB bs D y I J)) (QcI bs D y r) 0 0 (FA bs) := by
  refine Met.ofW (cc := cX2_hasJoint) (maxL := 2) (ret := (some .boolean)) (by decide) rfl ?_
  intro p e s m args below meth c s₁ B hml hv
  obtain ⟨rfl, hP, hK, hN, hL⟩ := hv
  have hx := B.exec
  have hb := B.bytes
  have hr := B.returns
  have hts0 := atoms_spec (ws := .code yX2_hasJoint cX2_hasJoint 2 (some .boolean) :: gtb) B.pre
  have hts : ∀ w ∈ gtb, w.before [.ref (bs + 16), .int x1].toArray s = true := fun w hw => hts0 w (List.mem_cons_of_mem _ hw)
  have hown : s.vm.findClass RX2 = some m.cls := findClass_of_methodNamed B.named
  have hlocks := B.notSynchronized
  have hS : va_S (FA bs) s.heap s.heap [] := va_S.rf
  have Gc : Gx p s m [.ref (bs + 16), .int x1].toArray meth c cX2_hasJoint 2 RX2 bs D y (some .boolean) 44 := ⟨hx, hb, hml, hown, hts, hK, hN, hL, hr, hlocks, hcb⟩
  have hl := lv_entry [.ref (bs + 16), .int x1] (n := 2) (Nat.le_of_ble_eq_true rfl)
  rw [lg_entry_eq]
  generalize (lg_sl [.ref (bs + 16), .int x1] ++ List.replicate (2 - (lg_sl [.ref (bs + 16), .int x1]).length) Slot.unset).toArray = ls at hl ⊢
  have hl : lv_has ls 2 [(0, .ref (bs + 16)), (1, .int x1)] := hl
  change W p l e (rmm 0 0) s m [.ref (bs + 16), .int x1].toArray below meth c s.heap [] 0 0 (QI below [.ref (bs + 16), .int x1].toArray s bs D y r) (F0 m 0 ls [])
  unfold fX2_hasJoint at h
  refine lv_iload_n hx hb dX2_hasJoint_0 rfl (lv_at hl 1 rfl) ?_
  refine lv_if_lt (tgt := 16) hx hb dX2_hasJoint_1 (by decide) (fun c1 => ?_) (fun c1 => ?_)
  · replace h := if_t c1 h
    refine lv_iconst (v := (0 : Int32)) hx hb dX2_hasJoint_16 (by decide) ?_
    exact r_Z hx hb hr hlocks hP hK hN hL hS (by decide) h dX2_hasJoint_17
  · replace h := if_f c1 h
    refine lv_iload_n hx hb dX2_hasJoint_4 rfl (lv_at hl 1 rfl) ?_
    refine lv_aload_n hx hb dX2_hasJoint_5 rfl (lv_at hl 0 rfl) ?_
    refine g_I (C := RX2) (T := TX2) (N := 10) (ci := 2) 16 2 hx hb hts hown hK hP in_X2 rfl hcb okF_16_2 fl_21 dX2_hasJoint_6 ?_
    refine lv_icmp_ge (tgt := 16) hx hb dX2_hasJoint_9 (by decide) (fun c9 => ?_) (fun c9 => ?_)
    · replace h := if_t c9 h
      refine lv_iconst (v := (0 : Int32)) hx hb dX2_hasJoint_16 (by decide) ?_
      exact r_Z hx hb hr hlocks hP hK hN hL hS (by decide) h dX2_hasJoint_17
    · replace h := if_f c9 h
      refine lv_iconst (v := (1 : Int32)) hx hb dX2_hasJoint_12 (by decide) ?_
      refine lv_goto (tgt := 17) hx hb dX2_hasJoint_13 (by decide) ?_
      exact r_Z hx hb hr hlocks hP hK hN hL hS (by decide) h dX2_hasJoint_17
theorem dX2_isBroken_0 : decode cX2_isBroken 0 = .ok (.aload_n 0, 1) := by decide +kernel
theorem dX2_isBroken_1 : decode cX2_isBroken 1 = .ok (.getfield 40, 3) := by decide +kernel
theorem dX2_isBroken_4 : decode cX2_isBroken 4 = .ok (.iload_n 1, 1) := by decide +kernel
theorem dX2_isBroken_5 : decode cX2_isBroken 5 = .ok (.invokestatic 54, 3) := by decide +kernel
theorem dX2_isBroken_8 : decode cX2_isBroken 8 = .ok (.ireturn, 1) := by decide +kernel
set_option maxHeartbeats 4000000 in
set_option maxRecDepth 100000 in
theorem cX2_isBroken_ (l : Launch) (bs : Nat) (D : va_G) (y : Y3) (hcb : 44 ≤ y.2.2.2) (n : Nat) (x1 : Int32) (I : MI) (J : MJ) (r : Int32 × M2) (h : fX2_isBroken n x1 I J = some r) : Met l yX2_isBroken (.code yX2_isBroken cX2_isBroken 2 (some .boolean) :: gtb) (rmm 1 22) (va_Pc [.ref (bs + 16), .int x1] (HB bs D y I J)) (QcI bs D y r) 0 0 (FA bs) := by
  refine Met.ofW (cc := cX2_isBroken) (maxL := 2) (ret := (some .boolean)) (by decide) rfl ?_
  intro p e s m args below meth c s₁ B hml hv
  obtain ⟨rfl, hP, hK, hN, hL⟩ := hv
  have hx := B.exec
  have hb := B.bytes
  have hr := B.returns
  have hts0 := atoms_spec (ws := .code yX2_isBroken cX2_isBroken 2 (some .boolean) :: gtb) B.pre
  have hts : ∀ w ∈ gtb, w.before [.ref (bs + 16), .int x1].toArray s = true := fun w hw => hts0 w (List.mem_cons_of_mem _ hw)
  have hown : s.vm.findClass RX2 = some m.cls := findClass_of_methodNamed B.named
  have hlocks := B.notSynchronized
  have hS : va_S (FA bs) s.heap s.heap [] := va_S.rf
  have Gc : Gx p s m [.ref (bs + 16), .int x1].toArray meth c cX2_isBroken 2 RX2 bs D y (some .boolean) 44 := ⟨hx, hb, hml, hown, hts, hK, hN, hL, hr, hlocks, hcb⟩
  have hl := lv_entry [.ref (bs + 16), .int x1] (n := 2) (Nat.le_of_ble_eq_true rfl)
  rw [lg_entry_eq]
  generalize (lg_sl [.ref (bs + 16), .int x1] ++ List.replicate (2 - (lg_sl [.ref (bs + 16), .int x1]).length) Slot.unset).toArray = ls at hl ⊢
  have hl : lv_has ls 2 [(0, .ref (bs + 16)), (1, .int x1)] := hl
  change W p l e (rmm 1 22) s m [.ref (bs + 16), .int x1].toArray below meth c s.heap [] 0 0 (QI below [.ref (bs + 16), .int x1].toArray s bs D y r) (F0 m 0 ls [])
  unfold fX2_isBroken at h
  refine lv_aload_n hx hb dX2_isBroken_0 rfl (lv_at hl 0 rfl) ?_
  refine g_J (C := RX2) (T := TX2) (N := 10) (ci := 2) 16 9 hx hb hts hown hK hP in_X2 rfl hcb okF_16_9 fl_29 dX2_isBroken_1 ?_
  refine lv_iload_n hx hb dX2_isBroken_4 rfl (lv_at hl 1 rfl) ?_
  obtain ⟨r5, er5, h⟩ := bd_s1 h
  refine c_NI (As := [.long (J 16 9), .int x1]) (rest := []) hx hb hml hown hts hK hN hL hP hS (cX9_hasBit_ l bs D y hcb n (J 16 9) x1 I J r5 er5) ok_X9_hasBit ov_X9_hasBit mn_1 ⟨Nat.le_of_ble_eq_true rfl, Nat.le_of_ble_eq_true rfl⟩ hl.1 rfl rfl (Nat.le_of_ble_eq_true rfl) ⟨Nat.zero_le _, Nat.zero_le _⟩ dX2_isBroken_5 (fun H locs hP hS => ?_)
  obtain ⟨hz8, h⟩ := if_s1 h
  exact r_Z hx hb hr hlocks hP hK hN hL hS (of_decide_eq_true hz8) h dX2_isBroken_8
theorem dX2_breakTile_0 : decode cX2_breakTile 0 = .ok (.lconst 1, 1) := by decide +kernel
theorem dX2_breakTile_1 : decode cX2_breakTile 1 = .ok (.iload_n 1, 1) := by decide +kernel
theorem dX2_breakTile_2 : decode cX2_breakTile 2 = .ok (.lshl, 1) := by decide +kernel
theorem dX2_breakTile_3 : decode cX2_breakTile 3 = .ok (.lstore_n 3, 1) := by decide +kernel
theorem dX2_breakTile_4 : decode cX2_breakTile 4 = .ok (.aload_n 0, 1) := by decide +kernel
theorem dX2_breakTile_5 : decode cX2_breakTile 5 = .ok (.iload_n 2, 1) := by decide +kernel
theorem dX2_breakTile_6 : decode cX2_breakTile 6 = .ok (.ifCond .eq 12, 3) := by decide +kernel
theorem dX2_breakTile_9 : decode cX2_breakTile 9 = .ok (.aload_n 0, 1) := by decide +kernel
theorem dX2_breakTile_10 : decode cX2_breakTile 10 = .ok (.getfield 40, 3) := by decide +kernel
theorem dX2_breakTile_13 : decode cX2_breakTile 13 = .ok (.lload_n 3, 1) := by decide +kernel
theorem dX2_breakTile_14 : decode cX2_breakTile 14 = .ok (.lor, 1) := by decide +kernel
theorem dX2_breakTile_15 : decode cX2_breakTile 15 = .ok (.goto 13, 3) := by decide +kernel
theorem dX2_breakTile_18 : decode cX2_breakTile 18 = .ok (.aload_n 0, 1) := by decide +kernel
theorem dX2_breakTile_19 : decode cX2_breakTile 19 = .ok (.getfield 40, 3) := by decide +kernel
theorem dX2_breakTile_22 : decode cX2_breakTile 22 = .ok (.lload_n 3, 1) := by decide +kernel
theorem dX2_breakTile_23 : decode cX2_breakTile 23 = .ok (.ldc2_w 58, 3) := by decide +kernel
theorem dX2_breakTile_26 : decode cX2_breakTile 26 = .ok (.lxor, 1) := by decide +kernel
theorem dX2_breakTile_27 : decode cX2_breakTile 27 = .ok (.land, 1) := by decide +kernel
theorem dX2_breakTile_28 : decode cX2_breakTile 28 = .ok (.putfield 40, 3) := by decide +kernel
theorem dX2_breakTile_31 : decode cX2_breakTile 31 = .ok (.return_, 1) := by decide +kernel
set_option maxHeartbeats 4000000 in
set_option maxRecDepth 100000 in
theorem wX2_breakTile_28 {p : Program} {l : Launch} {e : Env} {s : State} {m : MethodId} {args : Array Value} {below : List Frame} {meth : Method} {c : Code} (bs : Nat) (D : va_G) (y : Y3) (n : Nat) (r : M2) (Gc : Gx p s m args meth c cX2_breakTile 5 RX2 bs D y none 44)  (s1 : Int64) (I : MI) (J : MJ) (H : Heap) (locs : List Loc) (ls : Array Slot) (hP : va_P D vwCl (wl bs y I J) H) (hS : va_S (FA bs) s.heap H locs) (hl : lv_has ls 5 []) (h : fX2_breakTile_28 n  s1 I J = some r) : W p l e (rmm 0 0) s m args below meth c H locs 0 0 (QV below args s bs D y r) (F0 m 28 ls [.long s1, .ref (bs + 16)]) := by
  obtain ⟨hx, hb, hml, hown, hts, hK, hN, hL, hr, hlocks, hcb⟩ := id Gc
  unfold fX2_breakTile_28 at h
  obtain ⟨J28, eJ28, h⟩ := lt_s1 h
  refine s_J (C := RX2) (T := TX2) (N := 10) (ci := 2) 16 9 eJ28 tyX2 hx hb hts hown hK hP hS in_X2 tyX2_ok nmX2 rfl hcb okF_16_9 fl_29 rfl (by decide +kernel) dX2_breakTile_28 (fun H locs hP hS => ?_)
  exact r_V hx hb hr hlocks hP hK hN hL hS h dX2_breakTile_31
set_option maxHeartbeats 4000000 in
set_option maxRecDepth 100000 in
theorem cX2_breakTile_ (l : Launch) (bs : Nat) (D : va_G) (y : Y3) (hcb : 44 ≤ y.2.2.2) (n : Nat) (x1 : Int32) (x2 : Int32) (I : MI) (J : MJ) (r : M2) (h : fX2_breakTile n x1 x2 I J = some r) : Met l yX2_breakTile (.code yX2_breakTile cX2_breakTile 5 none :: gtb) (rmm 0 0) (va_Pc [.ref (bs + 16), .int x1, .int x2] (HB bs D y I J)) (QcV bs D y r) 0 0 (FA bs) := by
  refine Met.ofW (cc := cX2_breakTile) (maxL := 5) (ret := none) (by decide) rfl ?_
  intro p e s m args below meth c s₁ B hml hv
  obtain ⟨rfl, hP, hK, hN, hL⟩ := hv
  have hx := B.exec
  have hb := B.bytes
  have hr := B.returns
  have hts0 := atoms_spec (ws := .code yX2_breakTile cX2_breakTile 5 none :: gtb) B.pre
  have hts : ∀ w ∈ gtb, w.before [.ref (bs + 16), .int x1, .int x2].toArray s = true := fun w hw => hts0 w (List.mem_cons_of_mem _ hw)
  have hown : s.vm.findClass RX2 = some m.cls := findClass_of_methodNamed B.named
  have hlocks := B.notSynchronized
  have hS : va_S (FA bs) s.heap s.heap [] := va_S.rf
  have Gc : Gx p s m [.ref (bs + 16), .int x1, .int x2].toArray meth c cX2_breakTile 5 RX2 bs D y none 44 := ⟨hx, hb, hml, hown, hts, hK, hN, hL, hr, hlocks, hcb⟩
  have hl := lv_entry [.ref (bs + 16), .int x1, .int x2] (n := 5) (Nat.le_of_ble_eq_true rfl)
  rw [lg_entry_eq]
  generalize (lg_sl [.ref (bs + 16), .int x1, .int x2] ++ List.replicate (5 - (lg_sl [.ref (bs + 16), .int x1, .int x2]).length) Slot.unset).toArray = ls at hl ⊢
  have hl : lv_has ls 5 [(0, .ref (bs + 16)), (1, .int x1), (2, .int x2)] := hl
  change W p l e (rmm 0 0) s m [.ref (bs + 16), .int x1, .int x2].toArray below meth c s.heap [] 0 0 (QV below [.ref (bs + 16), .int x1, .int x2].toArray s bs D y r) (F0 m 0 ls [])
  unfold fX2_breakTile at h
  refine lv_lconst (v := (1 : Int64)) hx hb dX2_breakTile_0 (by decide) ?_
  refine lv_iload_n hx hb dX2_breakTile_1 rfl (lv_at hl 1 rfl) ?_
  refine lv_lshl (v := (shlL (1 : Int64) x1)) hx hb dX2_breakTile_2 rfl ?_
  obtain ⟨v3, ev3, h⟩ := lt_s1 h
  refine top_j ev3 ?_
  refine lv_lstore_n (lv' := [(3, .long v3), (0, .ref (bs + 16)), (1, .int x1), (2, .int x2)]) hx hb dX2_breakTile_3 rfl hl (by decide) rfl (fun ls hl => ?_)
  refine lv_aload_n hx hb dX2_breakTile_4 rfl (lv_at hl 1 rfl) ?_
  refine lv_iload_n hx hb dX2_breakTile_5 rfl (lv_at hl 3 rfl) ?_
  refine lv_if_eq (tgt := 18) hx hb dX2_breakTile_6 (by decide) (fun c6 => ?_) (fun c6 => ?_)
  · replace h := if_t c6 h
    refine lv_aload_n hx hb dX2_breakTile_18 rfl (lv_at hl 1 rfl) ?_
    refine g_J (C := RX2) (T := TX2) (N := 10) (ci := 2) 16 9 hx hb hts hown hK hP in_X2 rfl hcb okF_16_9 fl_29 dX2_breakTile_19 ?_
    refine lv_lload_n hx hb dX2_breakTile_22 rfl (lv_at hl 0 rfl) ?_
    refine lv_ldc2 hx hb hown (hts _ cl_4) dX2_breakTile_23 ?_
    refine lv_lxor hx hb dX2_breakTile_26 ?_
    refine lv_land hx hb dX2_breakTile_27 ?_
    exact wX2_breakTile_28 bs D y n  r Gc  ((J 16 9) &&& (v3 ^^^ (-1 : Int64))) I J _ _ _ hP hS (lv_sub hl [] rfl) h
  · replace h := if_f c6 h
    refine lv_aload_n hx hb dX2_breakTile_9 rfl (lv_at hl 1 rfl) ?_
    refine g_J (C := RX2) (T := TX2) (N := 10) (ci := 2) 16 9 hx hb hts hown hK hP in_X2 rfl hcb okF_16_9 fl_29 dX2_breakTile_10 ?_
    refine lv_lload_n hx hb dX2_breakTile_13 rfl (lv_at hl 0 rfl) ?_
    refine lv_lor hx hb dX2_breakTile_14 ?_
    refine lv_goto (tgt := 28) hx hb dX2_breakTile_15 (by decide) ?_
    exact wX2_breakTile_28 bs D y n  r Gc  ((J 16 9) ||| v3) I J _ _ _ hP hS (lv_sub hl [] rfl) h
theorem dX2_roomOf_0 : decode cX2_roomOf 0 = .ok (.aload_n 0, 1) := by decide +kernel
theorem dX2_roomOf_1 : decode cX2_roomOf 1 = .ok (.iload_n 1, 1) := by decide +kernel
theorem dX2_roomOf_2 : decode cX2_roomOf 2 = .ok (.invokevirtual 60, 3) := by decide +kernel
theorem dX2_roomOf_5 : decode cX2_roomOf 5 = .ok (.ifCond .eq 7, 3) := by decide +kernel
theorem dX2_roomOf_8 : decode cX2_roomOf 8 = .ok (.iconst 0, 1) := by decide +kernel
theorem dX2_roomOf_9 : decode cX2_roomOf 9 = .ok (.goto 7, 3) := by decide +kernel
theorem dX2_roomOf_12 : decode cX2_roomOf 12 = .ok (.aload_n 0, 1) := by decide +kernel
theorem dX2_roomOf_13 : decode cX2_roomOf 13 = .ok (.getfield 27, 3) := by decide +kernel
theorem dX2_roomOf_16 : decode cX2_roomOf 16 = .ok (.ireturn, 1) := by decide +kernel
set_option maxHeartbeats 4000000 in
set_option maxRecDepth 100000 in
theorem cX2_roomOf_ (l : Launch) (bs : Nat) (D : va_G) (y : Y3) (hcb : 44 ≤ y.2.2.2) (n : Nat) (x1 : Int32) (I : MI) (J : MJ) (r : Int32 × M2) (h : fX2_roomOf n x1 I J = some r) : Met l yX2_roomOf (.code yX2_roomOf cX2_roomOf 2 (some .int) :: gtb) (rmm 2 43) (va_Pc [.ref (bs + 16), .int x1] (HB bs D y I J)) (QcI bs D y r) 0 0 (FA bs) := by
  refine Met.ofW (cc := cX2_roomOf) (maxL := 2) (ret := (some .int)) (by decide) rfl ?_
  intro p e s m args below meth c s₁ B hml hv
  obtain ⟨rfl, hP, hK, hN, hL⟩ := hv
  have hx := B.exec
  have hb := B.bytes
  have hr := B.returns
  have hts0 := atoms_spec (ws := .code yX2_roomOf cX2_roomOf 2 (some .int) :: gtb) B.pre
  have hts : ∀ w ∈ gtb, w.before [.ref (bs + 16), .int x1].toArray s = true := fun w hw => hts0 w (List.mem_cons_of_mem _ hw)
  have hown : s.vm.findClass RX2 = some m.cls := findClass_of_methodNamed B.named
  have hlocks := B.notSynchronized
  have hS : va_S (FA bs) s.heap s.heap [] := va_S.rf
  have Gc : Gx p s m [.ref (bs + 16), .int x1].toArray meth c cX2_roomOf 2 RX2 bs D y (some .int) 44 := ⟨hx, hb, hml, hown, hts, hK, hN, hL, hr, hlocks, hcb⟩
  have hl := lv_entry [.ref (bs + 16), .int x1] (n := 2) (Nat.le_of_ble_eq_true rfl)
  rw [lg_entry_eq]
  generalize (lg_sl [.ref (bs + 16), .int x1] ++ List.replicate (2 - (lg_sl [.ref (bs + 16), .int x1]).length) Slot.unset).toArray = ls at hl ⊢
  have hl : lv_has ls 2 [(0, .ref (bs + 16)), (1, .int x1)] := hl
  change W p l e (rmm 2 43) s m [.ref (bs + 16), .int x1].toArray below meth c s.heap [] 0 0 (QI below [.ref (bs + 16), .int x1].toArray s bs D y r) (F0 m 0 ls [])
  unfold fX2_roomOf at h
  refine lv_aload_n hx hb dX2_roomOf_0 rfl (lv_at hl 0 rfl) ?_
  refine lv_iload_n hx hb dX2_roomOf_1 rfl (lv_at hl 1 rfl) ?_
  obtain ⟨r2, er2, h⟩ := bd_s1 h
  refine c_VI (k := 16) (ci := 2) (As := [.int x1]) (rest := []) hx hb hml hown hts hK hN hL hP hS (cX2_isBroken_ l bs D y hcb n x1 I J r2 er2) ok_X2_isBroken ov_X2_isBroken ml_15 ⟨Nat.le_of_ble_eq_true rfl, Nat.le_of_ble_eq_true rfl⟩ rfl hcb kd_16 hl.1 rfl rfl (Nat.le_of_ble_eq_true rfl) ⟨Nat.zero_le _, Nat.zero_le _⟩ dX2_roomOf_2 (fun H locs hP hS => ?_)
  refine lv_if_eq (tgt := 12) hx hb dX2_roomOf_5 (by decide) (fun c5 => ?_) (fun c5 => ?_)
  · replace h := if_t c5 h
    refine lv_aload_n hx hb dX2_roomOf_12 rfl (lv_at hl 0 rfl) ?_
    refine g_I (C := RX2) (T := TX2) (N := 10) (ci := 2) 16 8 hx hb hts hown hK hP in_X2 rfl hcb okF_16_8 fl_27 dX2_roomOf_13 ?_
    exact r_I hx hb hr hlocks hP hK hN hL hS h dX2_roomOf_16
  · replace h := if_f c5 h
    refine lv_iconst (v := (0 : Int32)) hx hb dX2_roomOf_8 (by decide) ?_
    refine lv_goto (tgt := 16) hx hb dX2_roomOf_9 (by decide) ?_
    exact r_I hx hb hr hlocks hP hK hN hL hS h dX2_roomOf_16
theorem dX2_roomInAll_0 : decode cX2_roomInAll 0 = .ok (.aload_n 0, 1) := by decide +kernel
theorem dX2_roomInAll_1 : decode cX2_roomInAll 1 = .ok (.getfield 34, 3) := by decide +kernel
theorem dX2_roomInAll_4 : decode cX2_roomInAll 4 = .ok (.aload_n 0, 1) := by decide +kernel
theorem dX2_roomInAll_5 : decode cX2_roomInAll 5 = .ok (.getfield 40, 3) := by decide +kernel
theorem dX2_roomInAll_8 : decode cX2_roomInAll 8 = .ok (.invokestatic 64, 3) := by decide +kernel
theorem dX2_roomInAll_11 : decode cX2_roomInAll 11 = .ok (.isub, 1) := by decide +kernel
theorem dX2_roomInAll_12 : decode cX2_roomInAll 12 = .ok (.aload_n 0, 1) := by decide +kernel
theorem dX2_roomInAll_13 : decode cX2_roomInAll 13 = .ok (.getfield 27, 3) := by decide +kernel
theorem dX2_roomInAll_16 : decode cX2_roomInAll 16 = .ok (.imul, 1) := by decide +kernel
theorem dX2_roomInAll_17 : decode cX2_roomInAll 17 = .ok (.ireturn, 1) := by decide +kernel
set_option maxHeartbeats 4000000 in
set_option maxRecDepth 100000 in
theorem cX2_roomInAll_ (l : Launch) (bs : Nat) (D : va_G) (y : Y3) (hcb : 44 ≤ y.2.2.2) (n : Nat) (I : MI) (J : MJ) (r : Int32 × M2) (h : fX2_roomInAll n  I J = some r) : Met l yX2_roomInAll (.code yX2_roomInAll cX2_roomInAll 1 (some .int) :: gtb) (rmm 1 21) (va_Pc [.ref (bs + 16)] (HB bs D y I J)) (QcI bs D y r) 0 0 (FA bs) := by
  refine Met.ofW (cc := cX2_roomInAll) (maxL := 1) (ret := (some .int)) (by decide) rfl ?_
  intro p e s m args below meth c s₁ B hml hv
  obtain ⟨rfl, hP, hK, hN, hL⟩ := hv
  have hx := B.exec
  have hb := B.bytes
  have hr := B.returns
  have hts0 := atoms_spec (ws := .code yX2_roomInAll cX2_roomInAll 1 (some .int) :: gtb) B.pre
  have hts : ∀ w ∈ gtb, w.before [.ref (bs + 16)].toArray s = true := fun w hw => hts0 w (List.mem_cons_of_mem _ hw)
  have hown : s.vm.findClass RX2 = some m.cls := findClass_of_methodNamed B.named
  have hlocks := B.notSynchronized
  have hS : va_S (FA bs) s.heap s.heap [] := va_S.rf
  have Gc : Gx p s m [.ref (bs + 16)].toArray meth c cX2_roomInAll 1 RX2 bs D y (some .int) 44 := ⟨hx, hb, hml, hown, hts, hK, hN, hL, hr, hlocks, hcb⟩
  have hl := lv_entry [.ref (bs + 16)] (n := 1) (Nat.le_of_ble_eq_true rfl)
  rw [lg_entry_eq]
  generalize (lg_sl [.ref (bs + 16)] ++ List.replicate (1 - (lg_sl [.ref (bs + 16)]).length) Slot.unset).toArray = ls at hl ⊢
  have hl : lv_has ls 1 [(0, .ref (bs + 16))] := hl
  change W p l e (rmm 1 21) s m [.ref (bs + 16)].toArray below meth c s.heap [] 0 0 (QI below [.ref (bs + 16)].toArray s bs D y r) (F0 m 0 ls [])
  unfold fX2_roomInAll at h
  refine lv_aload_n hx hb dX2_roomInAll_0 rfl (lv_at hl 0 rfl) ?_
  refine g_I (C := RX2) (T := TX2) (N := 10) (ci := 2) 16 1 hx hb hts hown hK hP in_X2 rfl hcb okF_16_1 fl_24 dX2_roomInAll_1 ?_
  refine lv_aload_n hx hb dX2_roomInAll_4 rfl (lv_at hl 0 rfl) ?_
  refine g_J (C := RX2) (T := TX2) (N := 10) (ci := 2) 16 9 hx hb hts hown hK hP in_X2 rfl hcb okF_16_9 fl_29 dX2_roomInAll_5 ?_
  obtain ⟨r8, er8, h⟩ := bd_s1 h
  refine c_SI (As := [.long (J 16 9)]) (rest := [.int (I 16 1)]) hx hb hml hown hts hK hN hL hP hS (cJ13_bitCount_95d88_ l bs D y hcb n (J 16 9) I J r8 er8) ok_J13_bitCount_95d88 ov_J13_bitCount_95d88 ml_16 ⟨Nat.le_of_ble_eq_true rfl, Nat.le_of_ble_eq_true rfl⟩ hl.1 rfl rfl (Nat.le_of_ble_eq_true rfl) ⟨Nat.zero_le _, Nat.zero_le _⟩ dX2_roomInAll_8 (fun H locs hP hS => ?_)
  refine lv_isub hx hb dX2_roomInAll_11 ?_
  refine lv_aload_n hx hb dX2_roomInAll_12 rfl (lv_at hl 0 rfl) ?_
  refine g_I (C := RX2) (T := TX2) (N := 10) (ci := 2) 16 8 hx hb hts hown hK hP in_X2 rfl hcb okF_16_8 fl_27 dX2_roomInAll_13 ?_
  refine lv_imul hx hb dX2_roomInAll_16 ?_
  exact r_I hx hb hr hlocks hP hK hN hL hS h dX2_roomInAll_17
theorem dX2_beyondJoint_0 : decode cX2_beyondJoint 0 = .ok (.aload_n 0, 1) := by decide +kernel
theorem dX2_beyondJoint_1 : decode cX2_beyondJoint 1 = .ok (.getfield 18, 3) := by decide +kernel
theorem dX2_beyondJoint_4 : decode cX2_beyondJoint 4 = .ok (.iload_n 1, 1) := by decide +kernel
theorem dX2_beyondJoint_5 : decode cX2_beyondJoint 5 = .ok (.iaload, 1) := by decide +kernel
theorem dX2_beyondJoint_6 : decode cX2_beyondJoint 6 = .ok (.iload_n 2, 1) := by decide +kernel
theorem dX2_beyondJoint_7 : decode cX2_beyondJoint 7 = .ok (.if_icmp .ne 12, 3) := by decide +kernel
theorem dX2_beyondJoint_10 : decode cX2_beyondJoint 10 = .ok (.aload_n 0, 1) := by decide +kernel
theorem dX2_beyondJoint_11 : decode cX2_beyondJoint 11 = .ok (.getfield 21, 3) := by decide +kernel
theorem dX2_beyondJoint_14 : decode cX2_beyondJoint 14 = .ok (.iload_n 1, 1) := by decide +kernel
theorem dX2_beyondJoint_15 : decode cX2_beyondJoint 15 = .ok (.iaload, 1) := by decide +kernel
theorem dX2_beyondJoint_16 : decode cX2_beyondJoint 16 = .ok (.goto 9, 3) := by decide +kernel
theorem dX2_beyondJoint_19 : decode cX2_beyondJoint 19 = .ok (.aload_n 0, 1) := by decide +kernel
theorem dX2_beyondJoint_20 : decode cX2_beyondJoint 20 = .ok (.getfield 18, 3) := by decide +kernel
theorem dX2_beyondJoint_23 : decode cX2_beyondJoint 23 = .ok (.iload_n 1, 1) := by decide +kernel
theorem dX2_beyondJoint_24 : decode cX2_beyondJoint 24 = .ok (.iaload, 1) := by decide +kernel
theorem dX2_beyondJoint_25 : decode cX2_beyondJoint 25 = .ok (.ireturn, 1) := by decide +kernel
set_option maxHeartbeats 4000000 in
set_option maxRecDepth 100000 in
theorem cX2_beyondJoint_ (l : Launch) (bs : Nat) (D : va_G) (y : Y3) (hcb : 44 ≤ y.2.2.2) (n : Nat) (x1 : Int32) (x2 : Int32) (I : MI) (J : MJ) (r : Int32 × M2) (h : fX2_beyondJoint n x1 x2 I J = some r) : Met l yX2_beyondJoint (.code yX2_beyondJoint cX2_beyondJoint 3 (some .int) :: gtb) (rmm 0 0) (va_Pc [.ref (bs + 16), .int x1, .int x2] (HB bs D y I J)) (QcI bs D y r) 0 0 (FA bs) := by
  refine Met.ofW (cc := cX2_beyondJoint) (maxL := 3) (ret := (some .int)) (by decide) rfl ?_
  intro p e s m args below meth c s₁ B hml hv
  obtain ⟨rfl, hP, hK, hN, hL⟩ := hv
  have hx := B.exec
  have hb := B.bytes
  have hr := B.returns
  have hts0 := atoms_spec (ws := .code yX2_beyondJoint cX2_beyondJoint 3 (some .int) :: gtb) B.pre
  have hts : ∀ w ∈ gtb, w.before [.ref (bs + 16), .int x1, .int x2].toArray s = true := fun w hw => hts0 w (List.mem_cons_of_mem _ hw)
  have hown : s.vm.findClass RX2 = some m.cls := findClass_of_methodNamed B.named
  have hlocks := B.notSynchronized
  have hS : va_S (FA bs) s.heap s.heap [] := va_S.rf
  have Gc : Gx p s m [.ref (bs + 16), .int x1, .int x2].toArray meth c cX2_beyondJoint 3 RX2 bs D y (some .int) 44 := ⟨hx, hb, hml, hown, hts, hK, hN, hL, hr, hlocks, hcb⟩
  have hl := lv_entry [.ref (bs + 16), .int x1, .int x2] (n := 3) (Nat.le_of_ble_eq_true rfl)
  rw [lg_entry_eq]
  generalize (lg_sl [.ref (bs + 16), .int x1, .int x2] ++ List.replicate (3 - (lg_sl [.ref (bs + 16), .int x1, .int x2]).length) Slot.unset).toArray = ls at hl ⊢
  have hl : lv_has ls 3 [(0, .ref (bs + 16)), (1, .int x1), (2, .int x2)] := hl
  change W p l e (rmm 0 0) s m [.ref (bs + 16), .int x1, .int x2].toArray below meth c s.heap [] 0 0 (QI below [.ref (bs + 16), .int x1, .int x2].toArray s bs D y r) (F0 m 0 ls [])
  unfold fX2_beyondJoint at h
  refine lv_aload_n hx hb dX2_beyondJoint_0 rfl (lv_at hl 0 rfl) ?_
  refine g_R (C := RX2) (T := TX2) (N := 10) (ci := 2) 16 5 19 hx hb hts hown hK hP in_X2 rfl hcb okF_16_5 rfc_16_5 fl_20 dX2_beyondJoint_1 ?_
  refine lv_iload_n hx hb dX2_beyondJoint_4 rfl (lv_at hl 1 rfl) ?_
  obtain ⟨hi5, h⟩ := if_s1 h
  refine a_I 19 hx hb hK hP hcb aln_19 hi5 dX2_beyondJoint_5 ?_
  refine lv_iload_n hx hb dX2_beyondJoint_6 rfl (lv_at hl 2 rfl) ?_
  refine lv_icmp_ne (tgt := 19) hx hb dX2_beyondJoint_7 (by decide) (fun c7 => ?_) (fun c7 => ?_)
  · replace h := if_f c7 h
    refine lv_aload_n hx hb dX2_beyondJoint_19 rfl (lv_at hl 0 rfl) ?_
    refine g_R (C := RX2) (T := TX2) (N := 10) (ci := 2) 16 5 19 hx hb hts hown hK hP in_X2 rfl hcb okF_16_5 rfc_16_5 fl_20 dX2_beyondJoint_20 ?_
    refine lv_iload_n hx hb dX2_beyondJoint_23 rfl (lv_at hl 1 rfl) ?_
    obtain ⟨hi24, h⟩ := if_s1 h
    refine a_I 19 hx hb hK hP hcb aln_19 hi24 dX2_beyondJoint_24 ?_
    exact r_I hx hb hr hlocks hP hK hN hL hS h dX2_beyondJoint_25
  · replace h := if_t c7 h
    refine lv_aload_n hx hb dX2_beyondJoint_10 rfl (lv_at hl 0 rfl) ?_
    refine g_R (C := RX2) (T := TX2) (N := 10) (ci := 2) 16 6 20 hx hb hts hown hK hP in_X2 rfl hcb okF_16_6 rfc_16_6 fl_22 dX2_beyondJoint_11 ?_
    refine lv_iload_n hx hb dX2_beyondJoint_14 rfl (lv_at hl 1 rfl) ?_
    obtain ⟨hi15, h⟩ := if_s1 h
    refine a_I 20 hx hb hK hP hcb aln_20 hi15 dX2_beyondJoint_15 ?_
    refine lv_goto (tgt := 25) hx hb dX2_beyondJoint_16 (by decide) ?_
    exact r_I hx hb hr hlocks hP hK hN hL hS h dX2_beyondJoint_25
theorem dX2_jointBack_0 : decode cX2_jointBack 0 = .ok (.iconst 0, 1) := by decide +kernel
theorem dX2_jointBack_1 : decode cX2_jointBack 1 = .ok (.istore 4, 2) := by decide +kernel
theorem dX2_jointBack_3 : decode cX2_jointBack 3 = .ok (.iload 4, 2) := by decide +kernel
theorem dX2_jointBack_5 : decode cX2_jointBack 5 = .ok (.iconst 4, 1) := by decide +kernel
theorem dX2_jointBack_6 : decode cX2_jointBack 6 = .ok (.if_icmp .ge 51, 3) := by decide +kernel
theorem dX2_jointBack_9 : decode cX2_jointBack 9 = .ok (.aload_n 0, 1) := by decide +kernel
theorem dX2_jointBack_10 : decode cX2_jointBack 10 = .ok (.getfield 24, 3) := by decide +kernel
theorem dX2_jointBack_13 : decode cX2_jointBack 13 = .ok (.iload_n 1, 1) := by decide +kernel
theorem dX2_jointBack_14 : decode cX2_jointBack 14 = .ok (.iconst 4, 1) := by decide +kernel
theorem dX2_jointBack_15 : decode cX2_jointBack 15 = .ok (.imul, 1) := by decide +kernel
theorem dX2_jointBack_16 : decode cX2_jointBack 16 = .ok (.iload 4, 2) := by decide +kernel
theorem dX2_jointBack_18 : decode cX2_jointBack 18 = .ok (.iadd, 1) := by decide +kernel
theorem dX2_jointBack_19 : decode cX2_jointBack 19 = .ok (.iaload, 1) := by decide +kernel
theorem dX2_jointBack_20 : decode cX2_jointBack 20 = .ok (.istore 5, 2) := by decide +kernel
theorem dX2_jointBack_22 : decode cX2_jointBack 22 = .ok (.iload 5, 2) := by decide +kernel
theorem dX2_jointBack_24 : decode cX2_jointBack 24 = .ok (.iconst (-1), 1) := by decide +kernel
theorem dX2_jointBack_25 : decode cX2_jointBack 25 = .ok (.if_icmp .eq 26, 3) := by decide +kernel
theorem dX2_jointBack_28 : decode cX2_jointBack 28 = .ok (.aload_n 2, 1) := by decide +kernel
theorem dX2_jointBack_29 : decode cX2_jointBack 29 = .ok (.aload_n 0, 1) := by decide +kernel
theorem dX2_jointBack_30 : decode cX2_jointBack 30 = .ok (.iload 5, 2) := by decide +kernel
theorem dX2_jointBack_32 : decode cX2_jointBack 32 = .ok (.iload_n 1, 1) := by decide +kernel
theorem dX2_jointBack_33 : decode cX2_jointBack 33 = .ok (.invokevirtual 70, 3) := by decide +kernel
theorem dX2_jointBack_36 : decode cX2_jointBack 36 = .ok (.iaload, 1) := by decide +kernel
theorem dX2_jointBack_37 : decode cX2_jointBack 37 = .ok (.aload_n 3, 1) := by decide +kernel
theorem dX2_jointBack_38 : decode cX2_jointBack 38 = .ok (.iload 5, 2) := by decide +kernel
theorem dX2_jointBack_40 : decode cX2_jointBack 40 = .ok (.iaload, 1) := by decide +kernel
theorem dX2_jointBack_41 : decode cX2_jointBack 41 = .ok (.iadd, 1) := by decide +kernel
theorem dX2_jointBack_42 : decode cX2_jointBack 42 = .ok (.aload_n 2, 1) := by decide +kernel
theorem dX2_jointBack_43 : decode cX2_jointBack 43 = .ok (.iload_n 1, 1) := by decide +kernel
theorem dX2_jointBack_44 : decode cX2_jointBack 44 = .ok (.iaload, 1) := by decide +kernel
theorem dX2_jointBack_45 : decode cX2_jointBack 45 = .ok (.if_icmp .ne 6, 3) := by decide +kernel
theorem dX2_jointBack_48 : decode cX2_jointBack 48 = .ok (.iload 5, 2) := by decide +kernel
theorem dX2_jointBack_50 : decode cX2_jointBack 50 = .ok (.ireturn, 1) := by decide +kernel
theorem dX2_jointBack_51 : decode cX2_jointBack 51 = .ok (.iinc 4 1, 3) := by decide +kernel
theorem dX2_jointBack_54 : decode cX2_jointBack 54 = .ok (.goto (-51), 3) := by decide +kernel
theorem dX2_jointBack_57 : decode cX2_jointBack 57 = .ok (.iconst (-1), 1) := by decide +kernel
theorem dX2_jointBack_58 : decode cX2_jointBack 58 = .ok (.ireturn, 1) := by decide +kernel
set_option maxHeartbeats 4000000 in
set_option maxRecDepth 100000 in
theorem wX2_jointBack_51 {p : Program} {l : Launch} {e : Env} {s : State} {m : MethodId} {args : Array Value} {below : List Frame} {meth : Method} {c : Code} (bs : Nat) (D : va_G) (y : Y3) (n : Nat) (k3_ : Int32 → Nat → Nat → Int32 → MI → MJ → Option (Int32 × M2)) (r : Int32 × M2) (Gc : Gx p s m args meth c cX2_jointBack 6 RX2 bs D y (some .int) 44) (hk3_ : ∀ (x1 : Int32) (k2 : Nat) (k3 : Nat) (x4 : Int32) (I : MI) (J : MJ) (H : Heap) (locs : List Loc) (ls : Array Slot), va_P D vwCl (wl bs y I J) H → va_S (FA bs) s.heap H locs → lv_has ls 6 [(0, .ref (bs + 16)), (1, .int x1), (2, .ref (bs + k2)), (3, .ref (bs + k3)), (4, .int x4)] → k3_ x1 k2 k3 x4 I J = some r → W p l e (rmm 1 22) s m args below meth c H locs 0 0 (QI below args s bs D y r) (F0 m 3 ls [])) (x1 : Int32) (k2 : Nat) (k3 : Nat) (x4 : Int32) (I : MI) (J : MJ) (H : Heap) (locs : List Loc) (ls : Array Slot) (hP : va_P D vwCl (wl bs y I J) H) (hS : va_S (FA bs) s.heap H locs) (hl : lv_has ls 6 [(0, .ref (bs + 16)), (1, .int x1), (2, .ref (bs + k2)), (3, .ref (bs + k3)), (4, .int x4)]) (h : fX2_jointBack_51 n k3_ x1 k2 k3 x4 I J = some r) : W p l e (rmm 1 22) s m args below meth c H locs 0 0 (QI below args s bs D y r) (F0 m 51 ls []) := by
  obtain ⟨hx, hb, hml, hown, hts, hK, hN, hL, hr, hlocks, hcb⟩ := id Gc
  unfold fX2_jointBack_51 at h
  refine lv_iinc (v := (x4 + (1 : Int32))) (lv' := [(4, .int (x4 + (1 : Int32))), (0, .ref (bs + 16)), (1, .int x1), (2, .ref (bs + k2)), (3, .ref (bs + k3))]) hx hb dX2_jointBack_51 hl (k := 4) rfl rfl (by decide) rfl (fun ls hl => ?_)
  refine lv_goto (tgt := 3) hx hb dX2_jointBack_54 (by decide) ?_
  exact hk3_ x1 k2 k3 (x4 + (1 : Int32)) I J _ _ _ hP hS (lv_sub hl [1, 2, 3, 4, 0] rfl) h
set_option maxHeartbeats 4000000 in
set_option maxRecDepth 100000 in
theorem wX2_jointBack_3 {p : Program} {l : Launch} {e : Env} {s : State} {m : MethodId} {args : Array Value} {below : List Frame} {meth : Method} {c : Code} (bs : Nat) (D : va_G) (y : Y3) (n : Nat) (k3_ : Int32 → Nat → Nat → Int32 → MI → MJ → Option (Int32 × M2)) (r : Int32 × M2) (Gc : Gx p s m args meth c cX2_jointBack 6 RX2 bs D y (some .int) 44) (hk3_ : ∀ (x1 : Int32) (k2 : Nat) (k3 : Nat) (x4 : Int32) (I : MI) (J : MJ) (H : Heap) (locs : List Loc) (ls : Array Slot), va_P D vwCl (wl bs y I J) H → va_S (FA bs) s.heap H locs → lv_has ls 6 [(0, .ref (bs + 16)), (1, .int x1), (2, .ref (bs + k2)), (3, .ref (bs + k3)), (4, .int x4)] → k3_ x1 k2 k3 x4 I J = some r → W p l e (rmm 1 22) s m args below meth c H locs 0 0 (QI below args s bs D y r) (F0 m 3 ls [])) (x1 : Int32) (k2 : Nat) (k3 : Nat) (x4 : Int32) (I : MI) (J : MJ) (H : Heap) (locs : List Loc) (ls : Array Slot) (hP : va_P D vwCl (wl bs y I J) H) (hS : va_S (FA bs) s.heap H locs) (hl : lv_has ls 6 [(0, .ref (bs + 16)), (1, .int x1), (2, .ref (bs + k2)), (3, .ref (bs + k3)), (4, .int x4)]) (h : fX2_jointBack_3 n k3_ x1 k2 k3 x4 I J = some r) : W p l e (rmm 1 22) s m args below meth c H locs 0 0 (QI below args s bs D y r) (F0 m 3 ls []) := by
  obtain ⟨hx, hb, hml, hown, hts, hK, hN, hL, hr, hlocks, hcb⟩ := id Gc
  unfold fX2_jointBack_3 at h
  refine lv_iload hx hb dX2_jointBack_3 (lv_at hl 4 rfl) ?_
  refine lv_iconst (v := (4 : Int32)) hx hb dX2_jointBack_5 (by decide) ?_
  refine lv_icmp_ge (tgt := 57) hx hb dX2_jointBack_6 (by decide) (fun c6 => ?_) (fun c6 => ?_)
  · replace h := if_t c6 h
    refine lv_iconst (v := (-1 : Int32)) hx hb dX2_jointBack_57 (by decide) ?_
    exact r_I hx hb hr hlocks hP hK hN hL hS h dX2_jointBack_58
  · replace h := if_f c6 h
    refine lv_aload_n hx hb dX2_jointBack_9 rfl (lv_at hl 0 rfl) ?_
    refine g_R (C := RX2) (T := TX2) (N := 10) (ci := 2) 16 7 21 hx hb hts hown hK hP in_X2 rfl hcb okF_16_7 rfc_16_7 fl_23 dX2_jointBack_10 ?_
    refine lv_iload_n hx hb dX2_jointBack_13 rfl (lv_at hl 1 rfl) ?_
    refine lv_iconst (v := (4 : Int32)) hx hb dX2_jointBack_14 (by decide) ?_
    refine lv_imul hx hb dX2_jointBack_15 ?_
    refine lv_iload hx hb dX2_jointBack_16 (lv_at hl 4 rfl) ?_
    refine lv_iadd hx hb dX2_jointBack_18 ?_
    obtain ⟨hi19, h⟩ := if_s1 h
    refine a_I 21 hx hb hK hP hcb aln_21 hi19 dX2_jointBack_19 ?_
    obtain ⟨v20, ev20, h⟩ := lt_s1 h
    refine top_i ev20 ?_
    refine lv_istore (lv' := [(5, .int v20), (0, .ref (bs + 16)), (1, .int x1), (2, .ref (bs + k2)), (3, .ref (bs + k3)), (4, .int x4)]) hx hb dX2_jointBack_20 hl (by decide) rfl (fun ls hl => ?_)
    refine lv_iload hx hb dX2_jointBack_22 (lv_at hl 0 rfl) ?_
    refine lv_iconst (v := (-1 : Int32)) hx hb dX2_jointBack_24 (by decide) ?_
    refine lv_icmp_eq (tgt := 51) hx hb dX2_jointBack_25 (by decide) (fun c25 => ?_) (fun c25 => ?_)
    · replace h := if_t c25 h
      exact wX2_jointBack_51 bs D y n k3_ r Gc hk3_ x1 k2 k3 x4 I J _ _ _ hP hS (lv_sub hl [1, 2, 3, 4, 5] rfl) h
    · replace h := if_f c25 h
      refine lv_aload_n hx hb dX2_jointBack_28 rfl (lv_at hl 3 rfl) ?_
      refine lv_aload_n hx hb dX2_jointBack_29 rfl (lv_at hl 1 rfl) ?_
      refine lv_iload hx hb dX2_jointBack_30 (lv_at hl 0 rfl) ?_
      refine lv_iload_n hx hb dX2_jointBack_32 rfl (lv_at hl 2 rfl) ?_
      obtain ⟨r33, er33, h⟩ := bd_s1 h
      refine c_VI (k := 16) (ci := 2) (As := [.int v20, .int x1]) (rest := [.ref (bs + k2)]) hx hb hml hown hts hK hN hL hP hS (cX2_beyondJoint_ l bs D y hcb n v20 x1 I J r33 er33) ok_X2_beyondJoint ov_X2_beyondJoint ml_17 ⟨Nat.le_of_ble_eq_true rfl, Nat.le_of_ble_eq_true rfl⟩ rfl hcb kd_16 hl.1 rfl rfl (Nat.le_of_ble_eq_true rfl) ⟨Nat.zero_le _, Nat.zero_le _⟩ dX2_jointBack_33 (fun H locs hP hS => ?_)
      obtain ⟨hi36, h⟩ := if_s1 h
      refine a_I k2 hx hb hK hP hcb rfl hi36 dX2_jointBack_36 ?_
      refine lv_aload_n hx hb dX2_jointBack_37 rfl (lv_at hl 4 rfl) ?_
      refine lv_iload hx hb dX2_jointBack_38 (lv_at hl 0 rfl) ?_
      obtain ⟨hi40, h⟩ := if_s1 h
      refine a_I k3 hx hb hK hP hcb rfl hi40 dX2_jointBack_40 ?_
      refine lv_iadd hx hb dX2_jointBack_41 ?_
      refine lv_aload_n hx hb dX2_jointBack_42 rfl (lv_at hl 3 rfl) ?_
      refine lv_iload_n hx hb dX2_jointBack_43 rfl (lv_at hl 2 rfl) ?_
      obtain ⟨hi44, h⟩ := if_s1 h
      refine a_I k2 hx hb hK hP hcb rfl hi44 dX2_jointBack_44 ?_
      refine lv_icmp_ne (tgt := 51) hx hb dX2_jointBack_45 (by decide) (fun c45 => ?_) (fun c45 => ?_)
      · replace h := if_f c45 h
        exact wX2_jointBack_51 bs D y n k3_ r Gc hk3_ x1 k2 k3 x4 r33.2.1 r33.2.2 _ _ _ hP hS (lv_sub hl [1, 2, 3, 4, 5] rfl) h
      · replace h := if_t c45 h
        refine lv_iload hx hb dX2_jointBack_48 (lv_at hl 0 rfl) ?_
        exact r_I hx hb hr hlocks hP hK hN hL hS h dX2_jointBack_50
theorem vX2_jointBack_3 {p : Program} {l : Launch} {e : Env} {s : State} {m : MethodId} {args : Array Value} {below : List Frame} {meth : Method} {c : Code} (bs : Nat) (D : va_G) (y : Y3) (n : Nat) (r : Int32 × M2) (Gc : Gx p s m args meth c cX2_jointBack 6 RX2 bs D y (some .int) 44)  : ∀ (q : Nat) (x1 : Int32) (k2 : Nat) (k3 : Nat) (x4 : Int32) (I : MI) (J : MJ) (H : Heap) (locs : List Loc) (ls : Array Slot), va_P D vwCl (wl bs y I J) H → va_S (FA bs) s.heap H locs → lv_has ls 6 [(0, .ref (bs + 16)), (1, .int x1), (2, .ref (bs + k2)), (3, .ref (bs + k3)), (4, .int x4)] → lX2_jointBack_3 n  q x1 k2 k3 x4 I J = some r → W p l e (rmm 1 22) s m args below meth c H locs 0 0 (QI below args s bs D y r) (F0 m 3 ls []) := by
  intro q
  induction q with
  | zero =>
    intro x1 k2 k3 x4 I J H locs ls hP hS hl h
    have h : (none : Option (Int32 × M2)) = some r := h
    cases h
  | succ q ih =>
    intro x1 k2 k3 x4 I J H locs ls hP hS hl h
    have h : fX2_jointBack_3 n  (lX2_jointBack_3 n  q) x1 k2 k3 x4 I J = some r := h
    exact wX2_jointBack_3 bs D y n  (lX2_jointBack_3 n  q) r Gc  ih x1 k2 k3 x4 I J H locs ls hP hS hl h
set_option maxHeartbeats 4000000 in
set_option maxRecDepth 100000 in
theorem cX2_jointBack_ (l : Launch) (bs : Nat) (D : va_G) (y : Y3) (hcb : 44 ≤ y.2.2.2) (n : Nat) (x1 : Int32) (k2 : Nat) (k3 : Nat) (I : MI) (J : MJ) (r : Int32 × M2) (h : fX2_jointBack n x1 k2 k3 I J = some r) : Met l yX2_jointBack (.code yX2_jointBack cX2_jointBack 6 (some .int) :: gtb) (rmm 1 22) (va_Pc [.ref (bs + 16), .int x1, .ref (bs + k2), .ref (bs + k3)] (HB bs D y I J)) (QcI bs D y r) 0 0 (FA bs) := by
  refine Met.ofW (cc := cX2_jointBack) (maxL := 6) (ret := (some .int)) (by decide) rfl ?_
  intro p e s m args below meth c s₁ B hml hv
  obtain ⟨rfl, hP, hK, hN, hL⟩ := hv
  have hx := B.exec
  have hb := B.bytes
  have hr := B.returns
  have hts0 := atoms_spec (ws := .code yX2_jointBack cX2_jointBack 6 (some .int) :: gtb) B.pre
  have hts : ∀ w ∈ gtb, w.before [.ref (bs + 16), .int x1, .ref (bs + k2), .ref (bs + k3)].toArray s = true := fun w hw => hts0 w (List.mem_cons_of_mem _ hw)
  have hown : s.vm.findClass RX2 = some m.cls := findClass_of_methodNamed B.named
  have hlocks := B.notSynchronized
  have hS : va_S (FA bs) s.heap s.heap [] := va_S.rf
  have Gc : Gx p s m [.ref (bs + 16), .int x1, .ref (bs + k2), .ref (bs + k3)].toArray meth c cX2_jointBack 6 RX2 bs D y (some .int) 44 := ⟨hx, hb, hml, hown, hts, hK, hN, hL, hr, hlocks, hcb⟩
  have hl := lv_entry [.ref (bs + 16), .int x1, .ref (bs + k2), .ref (bs + k3)] (n := 6) (Nat.le_of_ble_eq_true rfl)
  rw [lg_entry_eq]
  generalize (lg_sl [.ref (bs + 16), .int x1, .ref (bs + k2), .ref (bs + k3)] ++ List.replicate (6 - (lg_sl [.ref (bs + 16), .int x1, .ref (bs + k2), .ref (bs + k3)]).length) Slot.unset).toArray = ls at hl ⊢
  have hl : lv_has ls 6 [(0, .ref (bs + 16)), (1, .int x1), (2, .ref (bs + k2)), (3, .ref (bs + k3))] := hl
  change W p l e (rmm 1 22) s m [.ref (bs + 16), .int x1, .ref (bs + k2), .ref (bs + k3)].toArray below meth c s.heap [] 0 0 (QI below [.ref (bs + 16), .int x1, .ref (bs + k2), .ref (bs + k3)].toArray s bs D y r) (F0 m 0 ls [])
  unfold fX2_jointBack at h
  refine lv_iconst (v := (0 : Int32)) hx hb dX2_jointBack_0 (by decide) ?_
  refine lv_istore (lv' := [(4, .int (0 : Int32)), (0, .ref (bs + 16)), (1, .int x1), (2, .ref (bs + k2)), (3, .ref (bs + k3))]) hx hb dX2_jointBack_1 hl (by decide) rfl (fun ls hl => ?_)
  exact vX2_jointBack_3 bs D y n  r Gc  n x1 k2 k3 (0 : Int32) I J _ _ _ hP hS (lv_sub hl [1, 2, 3, 4, 0] rfl) h
theorem dX3_has_0 : decode cX3_has 0 = .ok (.iload_n 1, 1) := by decide +kernel
theorem dX3_has_1 : decode cX3_has 1 = .ok (.ifCond .lt 15, 3) := by decide +kernel
theorem dX3_has_4 : decode cX3_has 4 = .ok (.iload_n 1, 1) := by decide +kernel
theorem dX3_has_5 : decode cX3_has 5 = .ok (.aload_n 0, 1) := by decide +kernel
theorem dX3_has_6 : decode cX3_has 6 = .ok (.getfield 27, 3) := by decide +kernel
theorem dX3_has_9 : decode cX3_has 9 = .ok (.if_icmp .ge 7, 3) := by decide +kernel
theorem dX3_has_12 : decode cX3_has 12 = .ok (.iconst 1, 1) := by decide +kernel
theorem dX3_has_13 : decode cX3_has 13 = .ok (.goto 4, 3) := by decide +kernel
theorem dX3_has_16 : decode cX3_has 16 = .ok (.iconst 0, 1) := by decide +kernel
theorem dX3_has_17 : decode cX3_has 17 = .ok (.ireturn, 1) := by decide +kernel
set_option maxHeartbeats 4000000 in
set_option maxRecDepth 100000 in
theorem cX3_has_ (l : Launch) (bs : Nat) (D : va_G) (y : Y3) (hcb : 44 ≤ y.2.2.2) (n : Nat) (x1 : Int32) (I : MI) (J : MJ) (r : Int32 × M2) (h : fX3_has n x1 I J = some r) : Met l yX3_has (.code yX3_has cX3_has 2 (some .boolean) :: gtb) (rmm 0 0) (va_Pc [.ref (bs + 1), .int x1] (HB bs D y I J)) (QcI bs D y r) 0 0 (FA bs) := by
  refine Met.ofW (cc := cX3_has) (maxL := 2) (ret := (some .boolean)) (by decide) rfl ?_
  intro p e s m args below meth c s₁ B hml hv
  obtain ⟨rfl, hP, hK, hN, hL⟩ := hv
  have hx := B.exec
  have hb := B.bytes
  have hr := B.returns
  have hts0 := atoms_spec (ws := .code yX3_has cX3_has 2 (some .boolean) :: gtb) B.pre
  have hts : ∀ w ∈ gtb, w.before [.ref (bs + 1), .int x1].toArray s = true := fun w hw => hts0 w (List.mem_cons_of_mem _ hw)
  have hown : s.vm.findClass RX3 = some m.cls := findClass_of_methodNamed B.named
  have hlocks := B.notSynchronized
  have hS : va_S (FA bs) s.heap s.heap [] := va_S.rf
  have Gc : Gx p s m [.ref (bs + 1), .int x1].toArray meth c cX3_has 2 RX3 bs D y (some .boolean) 44 := ⟨hx, hb, hml, hown, hts, hK, hN, hL, hr, hlocks, hcb⟩
  have hl := lv_entry [.ref (bs + 1), .int x1] (n := 2) (Nat.le_of_ble_eq_true rfl)
  rw [lg_entry_eq]
  generalize (lg_sl [.ref (bs + 1), .int x1] ++ List.replicate (2 - (lg_sl [.ref (bs + 1), .int x1]).length) Slot.unset).toArray = ls at hl ⊢
  have hl : lv_has ls 2 [(0, .ref (bs + 1)), (1, .int x1)] := hl
  change W p l e (rmm 0 0) s m [.ref (bs + 1), .int x1].toArray below meth c s.heap [] 0 0 (QI below [.ref (bs + 1), .int x1].toArray s bs D y r) (F0 m 0 ls [])
  unfold fX3_has at h
  refine lv_iload_n hx hb dX3_has_0 rfl (lv_at hl 1 rfl) ?_
  refine lv_if_lt (tgt := 16) hx hb dX3_has_1 (by decide) (fun c1 => ?_) (fun c1 => ?_)
  · replace h := if_t c1 h
    refine lv_iconst (v := (0 : Int32)) hx hb dX3_has_16 (by decide) ?_
    exact r_Z hx hb hr hlocks hP hK hN hL hS (by decide) h dX3_has_17
  · replace h := if_f c1 h
    refine lv_iload_n hx hb dX3_has_4 rfl (lv_at hl 1 rfl) ?_
    refine lv_aload_n hx hb dX3_has_5 rfl (lv_at hl 0 rfl) ?_
    refine g_I (C := RX3) (T := TX3) (N := 11) (ci := 3) 1 5 hx hb hts hown hK hP in_X3 rfl hcb okF_1_5 fl_30 dX3_has_6 ?_
    refine lv_icmp_ge (tgt := 16) hx hb dX3_has_9 (by decide) (fun c9 => ?_) (fun c9 => ?_)
    · replace h := if_t c9 h
      refine lv_iconst (v := (0 : Int32)) hx hb dX3_has_16 (by decide) ?_
      exact r_Z hx hb hr hlocks hP hK hN hL hS (by decide) h dX3_has_17
    · replace h := if_f c9 h
      refine lv_iconst (v := (1 : Int32)) hx hb dX3_has_12 (by decide) ?_
      refine lv_goto (tgt := 17) hx hb dX3_has_13 (by decide) ?_
      exact r_Z hx hb hr hlocks hP hK hN hL hS (by decide) h dX3_has_17
theorem dX3_hasSign_0 : decode cX3_hasSign 0 = .ok (.iload_n 1, 1) := by decide +kernel
theorem dX3_hasSign_1 : decode cX3_hasSign 1 = .ok (.ifCond .lt 17, 3) := by decide +kernel
theorem dX3_hasSign_4 : decode cX3_hasSign 4 = .ok (.iload_n 1, 1) := by decide +kernel
theorem dX3_hasSign_5 : decode cX3_hasSign 5 = .ok (.iconst 2, 1) := by decide +kernel
theorem dX3_hasSign_6 : decode cX3_hasSign 6 = .ok (.aload_n 0, 1) := by decide +kernel
theorem dX3_hasSign_7 : decode cX3_hasSign 7 = .ok (.getfield 27, 3) := by decide +kernel
theorem dX3_hasSign_10 : decode cX3_hasSign 10 = .ok (.imul, 1) := by decide +kernel
theorem dX3_hasSign_11 : decode cX3_hasSign 11 = .ok (.if_icmp .ge 7, 3) := by decide +kernel
theorem dX3_hasSign_14 : decode cX3_hasSign 14 = .ok (.iconst 1, 1) := by decide +kernel
theorem dX3_hasSign_15 : decode cX3_hasSign 15 = .ok (.goto 4, 3) := by decide +kernel
theorem dX3_hasSign_18 : decode cX3_hasSign 18 = .ok (.iconst 0, 1) := by decide +kernel
theorem dX3_hasSign_19 : decode cX3_hasSign 19 = .ok (.ireturn, 1) := by decide +kernel
set_option maxHeartbeats 4000000 in
set_option maxRecDepth 100000 in
theorem cX3_hasSign_ (l : Launch) (bs : Nat) (D : va_G) (y : Y3) (hcb : 44 ≤ y.2.2.2) (n : Nat) (x1 : Int32) (I : MI) (J : MJ) (r : Int32 × M2) (h : fX3_hasSign n x1 I J = some r) : Met l yX3_hasSign (.code yX3_hasSign cX3_hasSign 2 (some .boolean) :: gtb) (rmm 0 0) (va_Pc [.ref (bs + 1), .int x1] (HB bs D y I J)) (QcI bs D y r) 0 0 (FA bs) := by
  refine Met.ofW (cc := cX3_hasSign) (maxL := 2) (ret := (some .boolean)) (by decide) rfl ?_
  intro p e s m args below meth c s₁ B hml hv
  obtain ⟨rfl, hP, hK, hN, hL⟩ := hv
  have hx := B.exec
  have hb := B.bytes
  have hr := B.returns
  have hts0 := atoms_spec (ws := .code yX3_hasSign cX3_hasSign 2 (some .boolean) :: gtb) B.pre
  have hts : ∀ w ∈ gtb, w.before [.ref (bs + 1), .int x1].toArray s = true := fun w hw => hts0 w (List.mem_cons_of_mem _ hw)
  have hown : s.vm.findClass RX3 = some m.cls := findClass_of_methodNamed B.named
  have hlocks := B.notSynchronized
  have hS : va_S (FA bs) s.heap s.heap [] := va_S.rf
  have Gc : Gx p s m [.ref (bs + 1), .int x1].toArray meth c cX3_hasSign 2 RX3 bs D y (some .boolean) 44 := ⟨hx, hb, hml, hown, hts, hK, hN, hL, hr, hlocks, hcb⟩
  have hl := lv_entry [.ref (bs + 1), .int x1] (n := 2) (Nat.le_of_ble_eq_true rfl)
  rw [lg_entry_eq]
  generalize (lg_sl [.ref (bs + 1), .int x1] ++ List.replicate (2 - (lg_sl [.ref (bs + 1), .int x1]).length) Slot.unset).toArray = ls at hl ⊢
  have hl : lv_has ls 2 [(0, .ref (bs + 1)), (1, .int x1)] := hl
  change W p l e (rmm 0 0) s m [.ref (bs + 1), .int x1].toArray below meth c s.heap [] 0 0 (QI below [.ref (bs + 1), .int x1].toArray s bs D y r) (F0 m 0 ls [])
  unfold fX3_hasSign at h
  refine lv_iload_n hx hb dX3_hasSign_0 rfl (lv_at hl 1 rfl) ?_
  refine lv_if_lt (tgt := 18) hx hb dX3_hasSign_1 (by decide) (fun c1 => ?_) (fun c1 => ?_)
  · replace h := if_t c1 h
    refine lv_iconst (v := (0 : Int32)) hx hb dX3_hasSign_18 (by decide) ?_
    exact r_Z hx hb hr hlocks hP hK hN hL hS (by decide) h dX3_hasSign_19
  · replace h := if_f c1 h
    refine lv_iload_n hx hb dX3_hasSign_4 rfl (lv_at hl 1 rfl) ?_
    refine lv_iconst (v := (2 : Int32)) hx hb dX3_hasSign_5 (by decide) ?_
    refine lv_aload_n hx hb dX3_hasSign_6 rfl (lv_at hl 0 rfl) ?_
    refine g_I (C := RX3) (T := TX3) (N := 11) (ci := 3) 1 5 hx hb hts hown hK hP in_X3 rfl hcb okF_1_5 fl_30 dX3_hasSign_7 ?_
    refine lv_imul hx hb dX3_hasSign_10 ?_
    refine lv_icmp_ge (tgt := 18) hx hb dX3_hasSign_11 (by decide) (fun c11 => ?_) (fun c11 => ?_)
    · replace h := if_t c11 h
      refine lv_iconst (v := (0 : Int32)) hx hb dX3_hasSign_18 (by decide) ?_
      exact r_Z hx hb hr hlocks hP hK hN hL hS (by decide) h dX3_hasSign_19
    · replace h := if_f c11 h
      refine lv_iconst (v := (1 : Int32)) hx hb dX3_hasSign_14 (by decide) ?_
      refine lv_goto (tgt := 19) hx hb dX3_hasSign_15 (by decide) ?_
      exact r_Z hx hb hr hlocks hP hK hN hL hS (by decide) h dX3_hasSign_19
theorem dX3_add_0 : decode cX3_add 0 = .ok (.aload_n 0, 1) := by decide +kernel
theorem dX3_add_1 : decode cX3_add 1 = .ok (.getfield 27, 3) := by decide +kernel
theorem dX3_add_4 : decode cX3_add 4 = .ok (.istore 5, 2) := by decide +kernel
theorem dX3_add_6 : decode cX3_add 6 = .ok (.aload_n 0, 1) := by decide +kernel
theorem dX3_add_7 : decode cX3_add 7 = .ok (.getfield 9, 3) := by decide +kernel
theorem dX3_add_10 : decode cX3_add 10 = .ok (.iload 5, 2) := by decide +kernel
theorem dX3_add_12 : decode cX3_add 12 = .ok (.iload_n 1, 1) := by decide +kernel
theorem dX3_add_13 : decode cX3_add 13 = .ok (.iastore, 1) := by decide +kernel
theorem dX3_add_14 : decode cX3_add 14 = .ok (.aload_n 0, 1) := by decide +kernel
theorem dX3_add_15 : decode cX3_add 15 = .ok (.getfield 15, 3) := by decide +kernel
theorem dX3_add_18 : decode cX3_add 18 = .ok (.iload 5, 2) := by decide +kernel
theorem dX3_add_20 : decode cX3_add 20 = .ok (.iload_n 2, 1) := by decide +kernel
theorem dX3_add_21 : decode cX3_add 21 = .ok (.iastore, 1) := by decide +kernel
theorem dX3_add_22 : decode cX3_add 22 = .ok (.aload_n 0, 1) := by decide +kernel
theorem dX3_add_23 : decode cX3_add 23 = .ok (.getfield 18, 3) := by decide +kernel
theorem dX3_add_26 : decode cX3_add 26 = .ok (.iload 5, 2) := by decide +kernel
theorem dX3_add_28 : decode cX3_add 28 = .ok (.iload_n 3, 1) := by decide +kernel
theorem dX3_add_29 : decode cX3_add 29 = .ok (.iastore, 1) := by decide +kernel
theorem dX3_add_30 : decode cX3_add 30 = .ok (.aload_n 0, 1) := by decide +kernel
theorem dX3_add_31 : decode cX3_add 31 = .ok (.getfield 21, 3) := by decide +kernel
theorem dX3_add_34 : decode cX3_add 34 = .ok (.iload 5, 2) := by decide +kernel
theorem dX3_add_36 : decode cX3_add 36 = .ok (.iload 4, 2) := by decide +kernel
theorem dX3_add_38 : decode cX3_add 38 = .ok (.iastore, 1) := by decide +kernel
theorem dX3_add_39 : decode cX3_add 39 = .ok (.aload_n 0, 1) := by decide +kernel
theorem dX3_add_40 : decode cX3_add 40 = .ok (.dup, 1) := by decide +kernel
theorem dX3_add_41 : decode cX3_add 41 = .ok (.getfield 27, 3) := by decide +kernel
theorem dX3_add_44 : decode cX3_add 44 = .ok (.iconst 1, 1) := by decide +kernel
theorem dX3_add_45 : decode cX3_add 45 = .ok (.iadd, 1) := by decide +kernel
theorem dX3_add_46 : decode cX3_add 46 = .ok (.putfield 27, 3) := by decide +kernel
theorem dX3_add_49 : decode cX3_add 49 = .ok (.iload 5, 2) := by decide +kernel
theorem dX3_add_51 : decode cX3_add 51 = .ok (.ireturn, 1) := by decide +kernel
set_option maxHeartbeats 4000000 in
set_option maxRecDepth 100000 in
theorem cX3_add_ (l : Launch) (bs : Nat) (D : va_G) (y : Y3) (hcb : 44 ≤ y.2.2.2) (n : Nat) (x1 : Int32) (x2 : Int32) (x3 : Int32) (x4 : Int32) (I : MI) (J : MJ) (r : Int32 × M2) (h : fX3_add n x1 x2 x3 x4 I J = some r) : Met l yX3_add (.code yX3_add cX3_add 6 (some .int) :: gtb) (rmm 0 0) (va_Pc [.ref (bs + 1), .int x1, .int x2, .int x3, .int x4] (HB bs D y I J)) (QcI bs D y r) 0 0 (FA bs) := by
  refine Met.ofW (cc := cX3_add) (maxL := 6) (ret := (some .int)) (by decide) rfl ?_
  intro p e s m args below meth c s₁ B hml hv
  obtain ⟨rfl, hP, hK, hN, hL⟩ := hv
  have hx := B.exec
  have hb := B.bytes
  have hr := B.returns
  have hts0 := atoms_spec (ws := .code yX3_add cX3_add 6 (some .int) :: gtb) B.pre
  have hts : ∀ w ∈ gtb, w.before [.ref (bs + 1), .int x1, .int x2, .int x3, .int x4].toArray s = true := fun w hw => hts0 w (List.mem_cons_of_mem _ hw)
  have hown : s.vm.findClass RX3 = some m.cls := findClass_of_methodNamed B.named
  have hlocks := B.notSynchronized
  have hS : va_S (FA bs) s.heap s.heap [] := va_S.rf
  have Gc : Gx p s m [.ref (bs + 1), .int x1, .int x2, .int x3, .int x4].toArray meth c cX3_add 6 RX3 bs D y (some .int) 44 := ⟨hx, hb, hml, hown, hts, hK, hN, hL, hr, hlocks, hcb⟩
  have hl := lv_entry [.ref (bs + 1), .int x1, .int x2, .int x3, .int x4] (n := 6) (Nat.le_of_ble_eq_true rfl)
  rw [lg_entry_eq]
  generalize (lg_sl [.ref (bs + 1), .int x1, .int x2, .int x3, .int x4] ++ List.replicate (6 - (lg_sl [.ref (bs + 1), .int x1, .int x2, .int x3, .int x4]).length) Slot.unset).toArray = ls at hl ⊢
  have hl : lv_has ls 6 [(0, .ref (bs + 1)), (1, .int x1), (2, .int x2), (3, .int x3), (4, .int x4)] := hl
  change W p l e (rmm 0 0) s m [.ref (bs + 1), .int x1, .int x2, .int x3, .int x4].toArray below meth c s.heap [] 0 0 (QI below [.ref (bs + 1), .int x1, .int x2, .int x3, .int x4].toArray s bs D y r) (F0 m 0 ls [])
  unfold fX3_add at h
  refine lv_aload_n hx hb dX3_add_0 rfl (lv_at hl 0 rfl) ?_
  refine g_I (C := RX3) (T := TX3) (N := 11) (ci := 3) 1 5 hx hb hts hown hK hP in_X3 rfl hcb okF_1_5 fl_30 dX3_add_1 ?_
  obtain ⟨v4, ev4, h⟩ := lt_s1 h
  refine top_i ev4 ?_
  refine lv_istore (lv' := [(5, .int v4), (0, .ref (bs + 1)), (1, .int x1), (2, .int x2), (3, .int x3), (4, .int x4)]) hx hb dX3_add_4 hl (by decide) rfl (fun ls hl => ?_)
  refine lv_aload_n hx hb dX3_add_6 rfl (lv_at hl 1 rfl) ?_
  refine g_R (C := RX3) (T := TX3) (N := 11) (ci := 3) 1 0 2 hx hb hts hown hK hP in_X3 rfl hcb okF_1_0 rfc_1_0 fl_31 dX3_add_7 ?_
  refine lv_iload hx hb dX3_add_10 (lv_at hl 0 rfl) ?_
  refine lv_iload_n hx hb dX3_add_12 rfl (lv_at hl 2 rfl) ?_
  obtain ⟨hi13, h⟩ := if_s1 h
  obtain ⟨I13, eI13, h⟩ := lt_s1 h
  refine t_I 2 eI13 hx hb hK hP hS hcb aln_2 hi13 dX3_add_13 (fun H locs hP hS => ?_)
  refine lv_aload_n hx hb dX3_add_14 rfl (lv_at hl 1 rfl) ?_
  refine g_R (C := RX3) (T := TX3) (N := 11) (ci := 3) 1 1 3 hx hb hts hown hK hP in_X3 rfl hcb okF_1_1 rfc_1_1 fl_32 dX3_add_15 ?_
  refine lv_iload hx hb dX3_add_18 (lv_at hl 0 rfl) ?_
  refine lv_iload_n hx hb dX3_add_20 rfl (lv_at hl 3 rfl) ?_
  obtain ⟨hi21, h⟩ := if_s1 h
  obtain ⟨I21, eI21, h⟩ := lt_s1 h
  refine t_I 3 eI21 hx hb hK hP hS hcb aln_3 hi21 dX3_add_21 (fun H locs hP hS => ?_)
  refine lv_aload_n hx hb dX3_add_22 rfl (lv_at hl 1 rfl) ?_
  refine g_R (C := RX3) (T := TX3) (N := 11) (ci := 3) 1 2 4 hx hb hts hown hK hP in_X3 rfl hcb okF_1_2 rfc_1_2 fl_33 dX3_add_23 ?_
  refine lv_iload hx hb dX3_add_26 (lv_at hl 0 rfl) ?_
  refine lv_iload_n hx hb dX3_add_28 rfl (lv_at hl 4 rfl) ?_
  obtain ⟨hi29, h⟩ := if_s1 h
  obtain ⟨I29, eI29, h⟩ := lt_s1 h
  refine t_I 4 eI29 hx hb hK hP hS hcb aln_4 hi29 dX3_add_29 (fun H locs hP hS => ?_)
  refine lv_aload_n hx hb dX3_add_30 rfl (lv_at hl 1 rfl) ?_
  refine g_R (C := RX3) (T := TX3) (N := 11) (ci := 3) 1 3 5 hx hb hts hown hK hP in_X3 rfl hcb okF_1_3 rfc_1_3 fl_34 dX3_add_31 ?_
  refine lv_iload hx hb dX3_add_34 (lv_at hl 0 rfl) ?_
  refine lv_iload hx hb dX3_add_36 (lv_at hl 5 rfl) ?_
  obtain ⟨hi38, h⟩ := if_s1 h
  obtain ⟨I38, eI38, h⟩ := lt_s1 h
  refine t_I 5 eI38 hx hb hK hP hS hcb aln_5 hi38 dX3_add_38 (fun H locs hP hS => ?_)
  refine lv_aload_n hx hb dX3_add_39 rfl (lv_at hl 1 rfl) ?_
  refine lv_dup hx hb dX3_add_40 rfl ?_
  refine g_I (C := RX3) (T := TX3) (N := 11) (ci := 3) 1 5 hx hb hts hown hK hP in_X3 rfl hcb okF_1_5 fl_30 dX3_add_41 ?_
  refine lv_iconst (v := (1 : Int32)) hx hb dX3_add_44 (by decide) ?_
  refine lv_iadd hx hb dX3_add_45 ?_
  obtain ⟨I46, eI46, h⟩ := lt_s1 h
  refine s_I (C := RX3) (T := TX3) (N := 11) (ci := 3) (ty := .int) 1 5 eI46 tyX3 hx hb hts hown hK hP hS in_X3 tyX3_ok nmX3 rfl hcb okF_1_5 fl_30 rfl (by decide +kernel) rfl rfl dX3_add_46 (fun H locs hP hS => ?_)
  refine lv_iload hx hb dX3_add_49 (lv_at hl 0 rfl) ?_
  exact r_I hx hb hr hlocks hP hK hN hL hS h dX3_add_51
theorem dX3_addInput_0 : decode cX3_addInput 0 = .ok (.aload_n 0, 1) := by decide +kernel
theorem dX3_addInput_1 : decode cX3_addInput 1 = .ok (.dup, 1) := by decide +kernel
theorem dX3_addInput_2 : decode cX3_addInput 2 = .ok (.getfield 31, 3) := by decide +kernel
theorem dX3_addInput_5 : decode cX3_addInput 5 = .ok (.iconst 1, 1) := by decide +kernel
theorem dX3_addInput_6 : decode cX3_addInput 6 = .ok (.iadd, 1) := by decide +kernel
theorem dX3_addInput_7 : decode cX3_addInput 7 = .ok (.putfield 31, 3) := by decide +kernel
theorem dX3_addInput_10 : decode cX3_addInput 10 = .ok (.aload_n 0, 1) := by decide +kernel
theorem dX3_addInput_11 : decode cX3_addInput 11 = .ok (.iconst 0, 1) := by decide +kernel
theorem dX3_addInput_12 : decode cX3_addInput 12 = .ok (.iconst (-1), 1) := by decide +kernel
theorem dX3_addInput_13 : decode cX3_addInput 13 = .ok (.iconst (-1), 1) := by decide +kernel
theorem dX3_addInput_14 : decode cX3_addInput 14 = .ok (.iconst (-1), 1) := by decide +kernel
theorem dX3_addInput_15 : decode cX3_addInput 15 = .ok (.invokevirtual 34, 3) := by decide +kernel
theorem dX3_addInput_18 : decode cX3_addInput 18 = .ok (.ireturn, 1) := by decide +kernel
set_option maxHeartbeats 4000000 in
set_option maxRecDepth 100000 in
theorem cX3_addInput_ (l : Launch) (bs : Nat) (D : va_G) (y : Y3) (hcb : 44 ≤ y.2.2.2) (n : Nat) (I : MI) (J : MJ) (r : Int32 × M2) (h : fX3_addInput n  I J = some r) : Met l yX3_addInput (.code yX3_addInput cX3_addInput 1 (some .int) :: gtb) (rmm 1 25) (va_Pc [.ref (bs + 1)] (HB bs D y I J)) (QcI bs D y r) 0 0 (FA bs) := by
  refine Met.ofW (cc := cX3_addInput) (maxL := 1) (ret := (some .int)) (by decide) rfl ?_
  intro p e s m args below meth c s₁ B hml hv
  obtain ⟨rfl, hP, hK, hN, hL⟩ := hv
  have hx := B.exec
  have hb := B.bytes
  have hr := B.returns
  have hts0 := atoms_spec (ws := .code yX3_addInput cX3_addInput 1 (some .int) :: gtb) B.pre
  have hts : ∀ w ∈ gtb, w.before [.ref (bs + 1)].toArray s = true := fun w hw => hts0 w (List.mem_cons_of_mem _ hw)
  have hown : s.vm.findClass RX3 = some m.cls := findClass_of_methodNamed B.named
  have hlocks := B.notSynchronized
  have hS : va_S (FA bs) s.heap s.heap [] := va_S.rf
  have Gc : Gx p s m [.ref (bs + 1)].toArray meth c cX3_addInput 1 RX3 bs D y (some .int) 44 := ⟨hx, hb, hml, hown, hts, hK, hN, hL, hr, hlocks, hcb⟩
  have hl := lv_entry [.ref (bs + 1)] (n := 1) (Nat.le_of_ble_eq_true rfl)
  rw [lg_entry_eq]
  generalize (lg_sl [.ref (bs + 1)] ++ List.replicate (1 - (lg_sl [.ref (bs + 1)]).length) Slot.unset).toArray = ls at hl ⊢
  have hl : lv_has ls 1 [(0, .ref (bs + 1))] := hl
  change W p l e (rmm 1 25) s m [.ref (bs + 1)].toArray below meth c s.heap [] 0 0 (QI below [.ref (bs + 1)].toArray s bs D y r) (F0 m 0 ls [])
  unfold fX3_addInput at h
  refine lv_aload_n hx hb dX3_addInput_0 rfl (lv_at hl 0 rfl) ?_
  refine lv_dup hx hb dX3_addInput_1 rfl ?_
  refine g_I (C := RX3) (T := TX3) (N := 11) (ci := 3) 1 6 hx hb hts hown hK hP in_X3 rfl hcb okF_1_6 fl_35 dX3_addInput_2 ?_
  refine lv_iconst (v := (1 : Int32)) hx hb dX3_addInput_5 (by decide) ?_
  refine lv_iadd hx hb dX3_addInput_6 ?_
  obtain ⟨I7, eI7, h⟩ := lt_s1 h
  refine s_I (C := RX3) (T := TX3) (N := 11) (ci := 3) (ty := .int) 1 6 eI7 tyX3 hx hb hts hown hK hP hS in_X3 tyX3_ok nmX3 rfl hcb okF_1_6 fl_35 rfl (by decide +kernel) rfl rfl dX3_addInput_7 (fun H locs hP hS => ?_)
  refine lv_aload_n hx hb dX3_addInput_10 rfl (lv_at hl 0 rfl) ?_
  refine lv_iconst (v := (0 : Int32)) hx hb dX3_addInput_11 (by decide) ?_
  refine lv_iconst (v := (-1 : Int32)) hx hb dX3_addInput_12 (by decide) ?_
  refine lv_iconst (v := (-1 : Int32)) hx hb dX3_addInput_13 (by decide) ?_
  refine lv_iconst (v := (-1 : Int32)) hx hb dX3_addInput_14 (by decide) ?_
  obtain ⟨r15, er15, h⟩ := bd_s1 h
  refine c_VI (k := 1) (ci := 3) (As := [.int (0 : Int32), .int (-1 : Int32), .int (-1 : Int32), .int (-1 : Int32)]) (rest := []) hx hb hml hown hts hK hN hL hP hS (cX3_add_ l bs D y hcb n (0 : Int32) (-1 : Int32) (-1 : Int32) (-1 : Int32) I7 J r15 er15) ok_X3_add ov_X3_add ml_18 ⟨Nat.le_of_ble_eq_true rfl, Nat.le_of_ble_eq_true rfl⟩ rfl hcb kd_1 hl.1 rfl rfl (Nat.le_of_ble_eq_true rfl) ⟨Nat.zero_le _, Nat.zero_le _⟩ dX3_addInput_15 (fun H locs hP hS => ?_)
  exact r_I hx hb hr hlocks hP hK hN hL hS h dX3_addInput_18
theorem dX3_addKeeper_0 : decode cX3_addKeeper 0 = .ok (.aload_n 0, 1) := by decide +kernel
theorem dX3_addKeeper_1 : decode cX3_addKeeper 1 = .ok (.dup, 1) := by decide +kernel
theorem dX3_addKeeper_2 : decode cX3_addKeeper 2 = .ok (.getfield 38, 3) := by decide +kernel
theorem dX3_addKeeper_5 : decode cX3_addKeeper 5 = .ok (.iconst 1, 1) := by decide +kernel
theorem dX3_addKeeper_6 : decode cX3_addKeeper 6 = .ok (.iadd, 1) := by decide +kernel
theorem dX3_addKeeper_7 : decode cX3_addKeeper 7 = .ok (.putfield 38, 3) := by decide +kernel
theorem dX3_addKeeper_10 : decode cX3_addKeeper 10 = .ok (.iload_n 1, 1) := by decide +kernel
theorem dX3_addKeeper_11 : decode cX3_addKeeper 11 = .ok (.ifCond .eq 18, 3) := by decide +kernel
theorem dX3_addKeeper_14 : decode cX3_addKeeper 14 = .ok (.aload_n 0, 1) := by decide +kernel
theorem dX3_addKeeper_15 : decode cX3_addKeeper 15 = .ok (.dup, 1) := by decide +kernel
theorem dX3_addKeeper_16 : decode cX3_addKeeper 16 = .ok (.getfield 41, 3) := by decide +kernel
theorem dX3_addKeeper_19 : decode cX3_addKeeper 19 = .ok (.iconst 1, 1) := by decide +kernel
theorem dX3_addKeeper_20 : decode cX3_addKeeper 20 = .ok (.aload_n 0, 1) := by decide +kernel
theorem dX3_addKeeper_21 : decode cX3_addKeeper 21 = .ok (.getfield 27, 3) := by decide +kernel
theorem dX3_addKeeper_24 : decode cX3_addKeeper 24 = .ok (.ishl, 1) := by decide +kernel
theorem dX3_addKeeper_25 : decode cX3_addKeeper 25 = .ok (.ior, 1) := by decide +kernel
theorem dX3_addKeeper_26 : decode cX3_addKeeper 26 = .ok (.putfield 41, 3) := by decide +kernel
theorem dX3_addKeeper_29 : decode cX3_addKeeper 29 = .ok (.aload_n 0, 1) := by decide +kernel
theorem dX3_addKeeper_30 : decode cX3_addKeeper 30 = .ok (.iconst 1, 1) := by decide +kernel
theorem dX3_addKeeper_31 : decode cX3_addKeeper 31 = .ok (.aload_n 0, 1) := by decide +kernel
theorem dX3_addKeeper_32 : decode cX3_addKeeper 32 = .ok (.getfield 27, 3) := by decide +kernel
theorem dX3_addKeeper_35 : decode cX3_addKeeper 35 = .ok (.iconst (-1), 1) := by decide +kernel
theorem dX3_addKeeper_36 : decode cX3_addKeeper 36 = .ok (.iconst (-1), 1) := by decide +kernel
theorem dX3_addKeeper_37 : decode cX3_addKeeper 37 = .ok (.invokevirtual 34, 3) := by decide +kernel
theorem dX3_addKeeper_40 : decode cX3_addKeeper 40 = .ok (.ireturn, 1) := by decide +kernel
set_option maxHeartbeats 4000000 in
set_option maxRecDepth 100000 in
theorem wX3_addKeeper_29 {p : Program} {l : Launch} {e : Env} {s : State} {m : MethodId} {args : Array Value} {below : List Frame} {meth : Method} {c : Code} (bs : Nat) (D : va_G) (y : Y3) (n : Nat) (r : Int32 × M2) (Gc : Gx p s m args meth c cX3_addKeeper 2 RX3 bs D y (some .int) 44)  (I : MI) (J : MJ) (H : Heap) (locs : List Loc) (ls : Array Slot) (hP : va_P D vwCl (wl bs y I J) H) (hS : va_S (FA bs) s.heap H locs) (hl : lv_has ls 2 [(0, .ref (bs + 1))]) (h : fX3_addKeeper_29 n   I J = some r) : W p l e (rmm 1 25) s m args below meth c H locs 0 0 (QI below args s bs D y r) (F0 m 29 ls []) := by
  obtain ⟨hx, hb, hml, hown, hts, hK, hN, hL, hr, hlocks, hcb⟩ := id Gc
  unfold fX3_addKeeper_29 at h
  refine lv_aload_n hx hb dX3_addKeeper_29 rfl (lv_at hl 0 rfl) ?_
  refine lv_iconst (v := (1 : Int32)) hx hb dX3_addKeeper_30 (by decide) ?_
  refine lv_aload_n hx hb dX3_addKeeper_31 rfl (lv_at hl 0 rfl) ?_
  refine g_I (C := RX3) (T := TX3) (N := 11) (ci := 3) 1 5 hx hb hts hown hK hP in_X3 rfl hcb okF_1_5 fl_30 dX3_addKeeper_32 ?_
  refine lv_iconst (v := (-1 : Int32)) hx hb dX3_addKeeper_35 (by decide) ?_
  refine lv_iconst (v := (-1 : Int32)) hx hb dX3_addKeeper_36 (by decide) ?_
  obtain ⟨r37, er37, h⟩ := bd_s1 h
  refine c_VI (k := 1) (ci := 3) (As := [.int (1 : Int32), .int (I 1 5), .int (-1 : Int32), .int (-1 : Int32)]) (rest := []) hx hb hml hown hts hK hN hL hP hS (cX3_add_ l bs D y hcb n (1 : Int32) (I 1 5) (-1 : Int32) (-1 : Int32) I J r37 er37) ok_X3_add ov_X3_add ml_18 ⟨Nat.le_of_ble_eq_true rfl, Nat.le_of_ble_eq_true rfl⟩ rfl hcb kd_1 hl.1 rfl rfl (Nat.le_of_ble_eq_true rfl) ⟨Nat.zero_le _, Nat.zero_le _⟩ dX3_addKeeper_37 (fun H locs hP hS => ?_)
  exact r_I hx hb hr hlocks hP hK hN hL hS h dX3_addKeeper_40
set_option maxHeartbeats 4000000 in
set_option maxRecDepth 100000 in
theorem cX3_addKeeper_ (l : Launch) (bs : Nat) (D : va_G) (y : Y3) (hcb : 44 ≤ y.2.2.2) (n : Nat) (x1 : Int32) (I : MI) (J : MJ) (r : Int32 × M2) (h : fX3_addKeeper n x1 I J = some r) : Met l yX3_addKeeper (.code yX3_addKeeper cX3_addKeeper 2 (some .int) :: gtb) (rmm 1 25) (va_Pc [.ref (bs + 1), .int x1] (HB bs D y I J)) (QcI bs D y r) 0 0 (FA bs) := by
  refine Met.ofW (cc := cX3_addKeeper) (maxL := 2) (ret := (some .int)) (by decide) rfl ?_
  intro p e s m args below meth c s₁ B hml hv
  obtain ⟨rfl, hP, hK, hN, hL⟩ := hv
  have hx := B.exec
  have hb := B.bytes
  have hr := B.returns
  have hts0 := atoms_spec (ws := .code yX3_addKeeper cX3_addKeeper 2 (some .int) :: gtb) B.pre
  have hts : ∀ w ∈ gtb, w.before [.ref (bs + 1), .int x1].toArray s = true := fun w hw => hts0 w (List.mem_cons_of_mem _ hw)
  have hown : s.vm.findClass RX3 = some m.cls := findClass_of_methodNamed B.named
  have hlocks := B.notSynchronized
  have hS : va_S (FA bs) s.heap s.heap [] := va_S.rf
  have Gc : Gx p s m [.ref (bs + 1), .int x1].toArray meth c cX3_addKeeper 2 RX3 bs D y (some .int) 44 := ⟨hx, hb, hml, hown, hts, hK, hN, hL, hr, hlocks, hcb⟩
  have hl := lv_entry [.ref (bs + 1), .int x1] (n := 2) (Nat.le_of_ble_eq_true rfl)
  rw [lg_entry_eq]
  generalize (lg_sl [.ref (bs + 1), .int x1] ++ List.replicate (2 - (lg_sl [.ref (bs + 1), .int x1]).length) Slot.unset).toArray = ls at hl ⊢
  have hl : lv_has ls 2 [(0, .ref (bs + 1)), (1, .int x1)] := hl
  change W p l e (rmm 1 25) s m [.ref (bs + 1), .int x1].toArray below meth c s.heap [] 0 0 (QI below [.ref (bs + 1), .int x1].toArray s bs D y r) (F0 m 0 ls [])
  unfold fX3_addKeeper at h
  refine lv_aload_n hx hb dX3_addKeeper_0 rfl (lv_at hl 0 rfl) ?_
  refine lv_dup hx hb dX3_addKeeper_1 rfl ?_
  refine g_I (C := RX3) (T := TX3) (N := 11) (ci := 3) 1 7 hx hb hts hown hK hP in_X3 rfl hcb okF_1_7 fl_36 dX3_addKeeper_2 ?_
  refine lv_iconst (v := (1 : Int32)) hx hb dX3_addKeeper_5 (by decide) ?_
  refine lv_iadd hx hb dX3_addKeeper_6 ?_
  obtain ⟨I7, eI7, h⟩ := lt_s1 h
  refine s_I (C := RX3) (T := TX3) (N := 11) (ci := 3) (ty := .int) 1 7 eI7 tyX3 hx hb hts hown hK hP hS in_X3 tyX3_ok nmX3 rfl hcb okF_1_7 fl_36 rfl (by decide +kernel) rfl rfl dX3_addKeeper_7 (fun H locs hP hS => ?_)
  refine lv_iload_n hx hb dX3_addKeeper_10 rfl (lv_at hl 1 rfl) ?_
  refine lv_if_eq (tgt := 29) hx hb dX3_addKeeper_11 (by decide) (fun c11 => ?_) (fun c11 => ?_)
  · replace h := if_t c11 h
    exact wX3_addKeeper_29 bs D y n  r Gc   I7 J _ _ _ hP hS (lv_sub hl [0] rfl) h
  · replace h := if_f c11 h
    refine lv_aload_n hx hb dX3_addKeeper_14 rfl (lv_at hl 0 rfl) ?_
    refine lv_dup hx hb dX3_addKeeper_15 rfl ?_
    refine g_I (C := RX3) (T := TX3) (N := 11) (ci := 3) 1 10 hx hb hts hown hK hP in_X3 rfl hcb okF_1_10 fl_37 dX3_addKeeper_16 ?_
    refine lv_iconst (v := (1 : Int32)) hx hb dX3_addKeeper_19 (by decide) ?_
    refine lv_aload_n hx hb dX3_addKeeper_20 rfl (lv_at hl 0 rfl) ?_
    refine g_I (C := RX3) (T := TX3) (N := 11) (ci := 3) 1 5 hx hb hts hown hK hP in_X3 rfl hcb okF_1_5 fl_30 dX3_addKeeper_21 ?_
    refine lv_ishl hx hb dX3_addKeeper_24 ?_
    refine lv_ior hx hb dX3_addKeeper_25 ?_
    obtain ⟨I26, eI26, h⟩ := lt_s1 h
    refine s_I (C := RX3) (T := TX3) (N := 11) (ci := 3) (ty := .int) 1 10 eI26 tyX3 hx hb hts hown hK hP hS in_X3 tyX3_ok nmX3 rfl hcb okF_1_10 fl_37 rfl (by decide +kernel) rfl rfl dX3_addKeeper_26 (fun H locs hP hS => ?_)
    exact wX3_addKeeper_29 bs D y n  r Gc   I26 J _ _ _ hP hS (lv_sub hl [0] rfl) h
theorem dX3_addGate_0 : decode cX3_addGate 0 = .ok (.aload_n 0, 1) := by decide +kernel
theorem dX3_addGate_1 : decode cX3_addGate 1 = .ok (.dup, 1) := by decide +kernel
theorem dX3_addGate_2 : decode cX3_addGate 2 = .ok (.getfield 44, 3) := by decide +kernel
theorem dX3_addGate_5 : decode cX3_addGate 5 = .ok (.iconst 1, 1) := by decide +kernel
theorem dX3_addGate_6 : decode cX3_addGate 6 = .ok (.aload_n 0, 1) := by decide +kernel
theorem dX3_addGate_7 : decode cX3_addGate 7 = .ok (.getfield 27, 3) := by decide +kernel
theorem dX3_addGate_10 : decode cX3_addGate 10 = .ok (.ishl, 1) := by decide +kernel
theorem dX3_addGate_11 : decode cX3_addGate 11 = .ok (.ior, 1) := by decide +kernel
theorem dX3_addGate_12 : decode cX3_addGate 12 = .ok (.putfield 44, 3) := by decide +kernel
theorem dX3_addGate_15 : decode cX3_addGate 15 = .ok (.aload_n 0, 1) := by decide +kernel
theorem dX3_addGate_16 : decode cX3_addGate 16 = .ok (.iconst 2, 1) := by decide +kernel
theorem dX3_addGate_17 : decode cX3_addGate 17 = .ok (.iload_n 2, 1) := by decide +kernel
theorem dX3_addGate_18 : decode cX3_addGate 18 = .ok (.iload_n 3, 1) := by decide +kernel
theorem dX3_addGate_19 : decode cX3_addGate 19 = .ok (.iload_n 1, 1) := by decide +kernel
theorem dX3_addGate_20 : decode cX3_addGate 20 = .ok (.invokevirtual 34, 3) := by decide +kernel
theorem dX3_addGate_23 : decode cX3_addGate 23 = .ok (.ireturn, 1) := by decide +kernel
set_option maxHeartbeats 4000000 in
set_option maxRecDepth 100000 in
theorem cX3_addGate_ (l : Launch) (bs : Nat) (D : va_G) (y : Y3) (hcb : 44 ≤ y.2.2.2) (n : Nat) (x1 : Int32) (x2 : Int32) (x3 : Int32) (I : MI) (J : MJ) (r : Int32 × M2) (h : fX3_addGate n x1 x2 x3 I J = some r) : Met l yX3_addGate (.code yX3_addGate cX3_addGate 4 (some .int) :: gtb) (rmm 1 25) (va_Pc [.ref (bs + 1), .int x1, .int x2, .int x3] (HB bs D y I J)) (QcI bs D y r) 0 0 (FA bs) := by
  refine Met.ofW (cc := cX3_addGate) (maxL := 4) (ret := (some .int)) (by decide) rfl ?_
  intro p e s m args below meth c s₁ B hml hv
  obtain ⟨rfl, hP, hK, hN, hL⟩ := hv
  have hx := B.exec
  have hb := B.bytes
  have hr := B.returns
  have hts0 := atoms_spec (ws := .code yX3_addGate cX3_addGate 4 (some .int) :: gtb) B.pre
  have hts : ∀ w ∈ gtb, w.before [.ref (bs + 1), .int x1, .int x2, .int x3].toArray s = true := fun w hw => hts0 w (List.mem_cons_of_mem _ hw)
  have hown : s.vm.findClass RX3 = some m.cls := findClass_of_methodNamed B.named
  have hlocks := B.notSynchronized
  have hS : va_S (FA bs) s.heap s.heap [] := va_S.rf
  have Gc : Gx p s m [.ref (bs + 1), .int x1, .int x2, .int x3].toArray meth c cX3_addGate 4 RX3 bs D y (some .int) 44 := ⟨hx, hb, hml, hown, hts, hK, hN, hL, hr, hlocks, hcb⟩
  have hl := lv_entry [.ref (bs + 1), .int x1, .int x2, .int x3] (n := 4) (Nat.le_of_ble_eq_true rfl)
  rw [lg_entry_eq]
  generalize (lg_sl [.ref (bs + 1), .int x1, .int x2, .int x3] ++ List.replicate (4 - (lg_sl [.ref (bs + 1), .int x1, .int x2, .int x3]).length) Slot.unset).toArray = ls at hl ⊢
  have hl : lv_has ls 4 [(0, .ref (bs + 1)), (1, .int x1), (2, .int x2), (3, .int x3)] := hl
  change W p l e (rmm 1 25) s m [.ref (bs + 1), .int x1, .int x2, .int x3].toArray below meth c s.heap [] 0 0 (QI below [.ref (bs + 1), .int x1, .int x2, .int x3].toArray s bs D y r) (F0 m 0 ls [])
  unfold fX3_addGate at h
  refine lv_aload_n hx hb dX3_addGate_0 rfl (lv_at hl 0 rfl) ?_
  refine lv_dup hx hb dX3_addGate_1 rfl ?_
  refine g_I (C := RX3) (T := TX3) (N := 11) (ci := 3) 1 9 hx hb hts hown hK hP in_X3 rfl hcb okF_1_9 fl_38 dX3_addGate_2 ?_
  refine lv_iconst (v := (1 : Int32)) hx hb dX3_addGate_5 (by decide) ?_
  refine lv_aload_n hx hb dX3_addGate_6 rfl (lv_at hl 0 rfl) ?_
  refine g_I (C := RX3) (T := TX3) (N := 11) (ci := 3) 1 5 hx hb hts hown hK hP in_X3 rfl hcb okF_1_5 fl_30 dX3_addGate_7 ?_
  refine lv_ishl hx hb dX3_addGate_10 ?_
  refine lv_ior hx hb dX3_addGate_11 ?_
  obtain ⟨I12, eI12, h⟩ := lt_s1 h
  refine s_I (C := RX3) (T := TX3) (N := 11) (ci := 3) (ty := .int) 1 9 eI12 tyX3 hx hb hts hown hK hP hS in_X3 tyX3_ok nmX3 rfl hcb okF_1_9 fl_38 rfl (by decide +kernel) rfl rfl dX3_addGate_12 (fun H locs hP hS => ?_)
  refine lv_aload_n hx hb dX3_addGate_15 rfl (lv_at hl 0 rfl) ?_
  refine lv_iconst (v := (2 : Int32)) hx hb dX3_addGate_16 (by decide) ?_
  refine lv_iload_n hx hb dX3_addGate_17 rfl (lv_at hl 2 rfl) ?_
  refine lv_iload_n hx hb dX3_addGate_18 rfl (lv_at hl 3 rfl) ?_
  refine lv_iload_n hx hb dX3_addGate_19 rfl (lv_at hl 1 rfl) ?_
  obtain ⟨r20, er20, h⟩ := bd_s1 h
  refine c_VI (k := 1) (ci := 3) (As := [.int (2 : Int32), .int x2, .int x3, .int x1]) (rest := []) hx hb hml hown hts hK hN hL hP hS (cX3_add_ l bs D y hcb n (2 : Int32) x2 x3 x1 I12 J r20 er20) ok_X3_add ov_X3_add ml_18 ⟨Nat.le_of_ble_eq_true rfl, Nat.le_of_ble_eq_true rfl⟩ rfl hcb kd_1 hl.1 rfl rfl (Nat.le_of_ble_eq_true rfl) ⟨Nat.zero_le _, Nat.zero_le _⟩ dX3_addGate_20 (fun H locs hP hS => ?_)
  exact r_I hx hb hr hlocks hP hK hN hL hS h dX3_addGate_23
theorem dX3_addOut_0 : decode cX3_addOut 0 = .ok (.aload_n 0, 1) := by decide +kernel
theorem dX3_addOut_1 : decode cX3_addOut 1 = .ok (.getfield 24, 3) := by decide +kernel
theorem dX3_addOut_4 : decode cX3_addOut 4 = .ok (.aload_n 0, 1) := by decide +kernel
theorem dX3_addOut_5 : decode cX3_addOut 5 = .ok (.getfield 47, 3) := by decide +kernel
theorem dX3_addOut_8 : decode cX3_addOut 8 = .ok (.iload_n 1, 1) := by decide +kernel
theorem dX3_addOut_9 : decode cX3_addOut 9 = .ok (.iastore, 1) := by decide +kernel
theorem dX3_addOut_10 : decode cX3_addOut 10 = .ok (.aload_n 0, 1) := by decide +kernel
theorem dX3_addOut_11 : decode cX3_addOut 11 = .ok (.dup, 1) := by decide +kernel
theorem dX3_addOut_12 : decode cX3_addOut 12 = .ok (.getfield 47, 3) := by decide +kernel
theorem dX3_addOut_15 : decode cX3_addOut 15 = .ok (.iconst 1, 1) := by decide +kernel
theorem dX3_addOut_16 : decode cX3_addOut 16 = .ok (.iadd, 1) := by decide +kernel
theorem dX3_addOut_17 : decode cX3_addOut 17 = .ok (.putfield 47, 3) := by decide +kernel
theorem dX3_addOut_20 : decode cX3_addOut 20 = .ok (.return_, 1) := by decide +kernel
set_option maxHeartbeats 4000000 in
set_option maxRecDepth 100000 in
theorem cX3_addOut_ (l : Launch) (bs : Nat) (D : va_G) (y : Y3) (hcb : 44 ≤ y.2.2.2) (n : Nat) (x1 : Int32) (I : MI) (J : MJ) (r : M2) (h : fX3_addOut n x1 I J = some r) : Met l yX3_addOut (.code yX3_addOut cX3_addOut 2 none :: gtb) (rmm 0 0) (va_Pc [.ref (bs + 1), .int x1] (HB bs D y I J)) (QcV bs D y r) 0 0 (FA bs) := by
  refine Met.ofW (cc := cX3_addOut) (maxL := 2) (ret := none) (by decide) rfl ?_
  intro p e s m args below meth c s₁ B hml hv
  obtain ⟨rfl, hP, hK, hN, hL⟩ := hv
  have hx := B.exec
  have hb := B.bytes
  have hr := B.returns
  have hts0 := atoms_spec (ws := .code yX3_addOut cX3_addOut 2 none :: gtb) B.pre
  have hts : ∀ w ∈ gtb, w.before [.ref (bs + 1), .int x1].toArray s = true := fun w hw => hts0 w (List.mem_cons_of_mem _ hw)
  have hown : s.vm.findClass RX3 = some m.cls := findClass_of_methodNamed B.named
  have hlocks := B.notSynchronized
  have hS : va_S (FA bs) s.heap s.heap [] := va_S.rf
  have Gc : Gx p s m [.ref (bs + 1), .int x1].toArray meth c cX3_addOut 2 RX3 bs D y none 44 := ⟨hx, hb, hml, hown, hts, hK, hN, hL, hr, hlocks, hcb⟩
  have hl := lv_entry [.ref (bs + 1), .int x1] (n := 2) (Nat.le_of_ble_eq_true rfl)
  rw [lg_entry_eq]
  generalize (lg_sl [.ref (bs + 1), .int x1] ++ List.replicate (2 - (lg_sl [.ref (bs + 1), .int x1]).length) Slot.unset).toArray = ls at hl ⊢
  have hl : lv_has ls 2 [(0, .ref (bs + 1)), (1, .int x1)] := hl
  change W p l e (rmm 0 0) s m [.ref (bs + 1), .int x1].toArray below meth c s.heap [] 0 0 (QV below [.ref (bs + 1), .int x1].toArray s bs D y r) (F0 m 0 ls [])
  unfold fX3_addOut at h
  refine lv_aload_n hx hb dX3_addOut_0 rfl (lv_at hl 0 rfl) ?_
  refine g_R (C := RX3) (T := TX3) (N := 11) (ci := 3) 1 4 6 hx hb hts hown hK hP in_X3 rfl hcb okF_1_4 rfc_1_4 fl_39 dX3_addOut_1 ?_
  refine lv_aload_n hx hb dX3_addOut_4 rfl (lv_at hl 0 rfl) ?_
  refine g_I (C := RX3) (T := TX3) (N := 11) (ci := 3) 1 8 hx hb hts hown hK hP in_X3 rfl hcb okF_1_8 fl_40 dX3_addOut_5 ?_
  refine lv_iload_n hx hb dX3_addOut_8 rfl (lv_at hl 1 rfl) ?_
  obtain ⟨hi9, h⟩ := if_s1 h
  obtain ⟨I9, eI9, h⟩ := lt_s1 h
  refine t_I 6 eI9 hx hb hK hP hS hcb aln_6 hi9 dX3_addOut_9 (fun H locs hP hS => ?_)
  refine lv_aload_n hx hb dX3_addOut_10 rfl (lv_at hl 0 rfl) ?_
  refine lv_dup hx hb dX3_addOut_11 rfl ?_
  refine g_I (C := RX3) (T := TX3) (N := 11) (ci := 3) 1 8 hx hb hts hown hK hP in_X3 rfl hcb okF_1_8 fl_40 dX3_addOut_12 ?_
  refine lv_iconst (v := (1 : Int32)) hx hb dX3_addOut_15 (by decide) ?_
  refine lv_iadd hx hb dX3_addOut_16 ?_
  obtain ⟨I17, eI17, h⟩ := lt_s1 h
  refine s_I (C := RX3) (T := TX3) (N := 11) (ci := 3) (ty := .int) 1 8 eI17 tyX3 hx hb hts hown hK hP hS in_X3 tyX3_ok nmX3 rfl hcb okF_1_8 fl_40 rfl (by decide +kernel) rfl rfl dX3_addOut_17 (fun H locs hP hS => ?_)
  exact r_V hx hb hr hlocks hP hK hN hL hS h dX3_addOut_20
theorem dX3_word_0 : decode cX3_word 0 = .ok (.aload_n 1, 1) := by decide +kernel
theorem dX3_word_1 : decode cX3_word 1 = .ok (.iload_n 0, 1) := by decide +kernel
theorem dX3_word_2 : decode cX3_word 2 = .ok (.iconst 1, 1) := by decide +kernel
theorem dX3_word_3 : decode cX3_word 3 = .ok (.ishr, 1) := by decide +kernel
theorem dX3_word_4 : decode cX3_word 4 = .ok (.iaload, 1) := by decide +kernel
theorem dX3_word_5 : decode cX3_word 5 = .ok (.istore_n 2, 1) := by decide +kernel
theorem dX3_word_6 : decode cX3_word 6 = .ok (.iload_n 0, 1) := by decide +kernel
theorem dX3_word_7 : decode cX3_word 7 = .ok (.iconst 1, 1) := by decide +kernel
theorem dX3_word_8 : decode cX3_word 8 = .ok (.iand, 1) := by decide +kernel
theorem dX3_word_9 : decode cX3_word 9 = .ok (.iconst 1, 1) := by decide +kernel
theorem dX3_word_10 : decode cX3_word 10 = .ok (.if_icmp .ne 9, 3) := by decide +kernel
theorem dX3_word_13 : decode cX3_word 13 = .ok (.iload_n 2, 1) := by decide +kernel
theorem dX3_word_14 : decode cX3_word 14 = .ok (.iconst (-1), 1) := by decide +kernel
theorem dX3_word_15 : decode cX3_word 15 = .ok (.ixor, 1) := by decide +kernel
theorem dX3_word_16 : decode cX3_word 16 = .ok (.goto 4, 3) := by decide +kernel
theorem dX3_word_19 : decode cX3_word 19 = .ok (.iload_n 2, 1) := by decide +kernel
theorem dX3_word_20 : decode cX3_word 20 = .ok (.ireturn, 1) := by decide +kernel
set_option maxHeartbeats 4000000 in
set_option maxRecDepth 100000 in
theorem cX3_word_ (l : Launch) (bs : Nat) (D : va_G) (y : Y3) (hcb : 44 ≤ y.2.2.2) (n : Nat) (x0 : Int32) (k1 : Nat) (I : MI) (J : MJ) (r : Int32 × M2) (h : fX3_word n x0 k1 I J = some r) : Met l yX3_word (.code yX3_word cX3_word 3 (some .int) :: gtb) (rmm 0 0) (va_Pc [.int x0, .ref (bs + k1)] (HB bs D y I J)) (QcI bs D y r) 0 0 (FA bs) := by
  refine Met.ofW (cc := cX3_word) (maxL := 3) (ret := (some .int)) (by decide) rfl ?_
  intro p e s m args below meth c s₁ B hml hv
  obtain ⟨rfl, hP, hK, hN, hL⟩ := hv
  have hx := B.exec
  have hb := B.bytes
  have hr := B.returns
  have hts0 := atoms_spec (ws := .code yX3_word cX3_word 3 (some .int) :: gtb) B.pre
  have hts : ∀ w ∈ gtb, w.before [.int x0, .ref (bs + k1)].toArray s = true := fun w hw => hts0 w (List.mem_cons_of_mem _ hw)
  have hown : s.vm.findClass RX3 = some m.cls := findClass_of_methodNamed B.named
  have hlocks := B.notSynchronized
  have hS : va_S (FA bs) s.heap s.heap [] := va_S.rf
  have Gc : Gx p s m [.int x0, .ref (bs + k1)].toArray meth c cX3_word 3 RX3 bs D y (some .int) 44 := ⟨hx, hb, hml, hown, hts, hK, hN, hL, hr, hlocks, hcb⟩
  have hl := lv_entry [.int x0, .ref (bs + k1)] (n := 3) (Nat.le_of_ble_eq_true rfl)
  rw [lg_entry_eq]
  generalize (lg_sl [.int x0, .ref (bs + k1)] ++ List.replicate (3 - (lg_sl [.int x0, .ref (bs + k1)]).length) Slot.unset).toArray = ls at hl ⊢
  have hl : lv_has ls 3 [(0, .int x0), (1, .ref (bs + k1))] := hl
  change W p l e (rmm 0 0) s m [.int x0, .ref (bs + k1)].toArray below meth c s.heap [] 0 0 (QI below [.int x0, .ref (bs + k1)].toArray s bs D y r) (F0 m 0 ls [])
  unfold fX3_word at h
  refine lv_aload_n hx hb dX3_word_0 rfl (lv_at hl 1 rfl) ?_
  refine lv_iload_n hx hb dX3_word_1 rfl (lv_at hl 0 rfl) ?_
  refine lv_iconst (v := (1 : Int32)) hx hb dX3_word_2 (by decide) ?_
  refine lv_ishr hx hb dX3_word_3 ?_
  obtain ⟨hi4, h⟩ := if_s1 h
  refine a_I k1 hx hb hK hP hcb rfl hi4 dX3_word_4 ?_
  obtain ⟨v5, ev5, h⟩ := lt_s1 h
  refine top_i ev5 ?_
  refine lv_istore_n (lv' := [(2, .int v5), (0, .int x0), (1, .ref (bs + k1))]) hx hb dX3_word_5 rfl hl (by decide) rfl (fun ls hl => ?_)
  refine lv_iload_n hx hb dX3_word_6 rfl (lv_at hl 1 rfl) ?_
  refine lv_iconst (v := (1 : Int32)) hx hb dX3_word_7 (by decide) ?_
  refine lv_iand hx hb dX3_word_8 ?_
  refine lv_iconst (v := (1 : Int32)) hx hb dX3_word_9 (by decide) ?_
  refine lv_icmp_ne (tgt := 19) hx hb dX3_word_10 (by decide) (fun c10 => ?_) (fun c10 => ?_)
  · replace h := if_f c10 h
    refine lv_iload_n hx hb dX3_word_19 rfl (lv_at hl 0 rfl) ?_
    exact r_I hx hb hr hlocks hP hK hN hL hS h dX3_word_20
  · replace h := if_t c10 h
    refine lv_iload_n hx hb dX3_word_13 rfl (lv_at hl 0 rfl) ?_
    refine lv_iconst (v := (-1 : Int32)) hx hb dX3_word_14 (by decide) ?_
    refine lv_ixor hx hb dX3_word_15 ?_
    refine lv_goto (tgt := 20) hx hb dX3_word_16 (by decide) ?_
    exact r_I hx hb hr hlocks hP hK hN hL hS h dX3_word_20
theorem dX3_reckon_0 : decode cX3_reckon 0 = .ok (.aload_n 0, 1) := by decide +kernel
theorem dX3_reckon_1 : decode cX3_reckon 1 = .ok (.getfield 15, 3) := by decide +kernel
theorem dX3_reckon_4 : decode cX3_reckon 4 = .ok (.iload_n 1, 1) := by decide +kernel
theorem dX3_reckon_5 : decode cX3_reckon 5 = .ok (.iaload, 1) := by decide +kernel
theorem dX3_reckon_6 : decode cX3_reckon 6 = .ok (.aload_n 2, 1) := by decide +kernel
theorem dX3_reckon_7 : decode cX3_reckon 7 = .ok (.invokestatic 50, 3) := by decide +kernel
theorem dX3_reckon_10 : decode cX3_reckon 10 = .ok (.istore_n 3, 1) := by decide +kernel
theorem dX3_reckon_11 : decode cX3_reckon 11 = .ok (.aload_n 0, 1) := by decide +kernel
theorem dX3_reckon_12 : decode cX3_reckon 12 = .ok (.getfield 18, 3) := by decide +kernel
theorem dX3_reckon_15 : decode cX3_reckon 15 = .ok (.iload_n 1, 1) := by decide +kernel
theorem dX3_reckon_16 : decode cX3_reckon 16 = .ok (.iaload, 1) := by decide +kernel
theorem dX3_reckon_17 : decode cX3_reckon 17 = .ok (.aload_n 2, 1) := by decide +kernel
theorem dX3_reckon_18 : decode cX3_reckon 18 = .ok (.invokestatic 50, 3) := by decide +kernel
theorem dX3_reckon_21 : decode cX3_reckon 21 = .ok (.istore 4, 2) := by decide +kernel
theorem dX3_reckon_23 : decode cX3_reckon 23 = .ok (.aload_n 0, 1) := by decide +kernel
theorem dX3_reckon_24 : decode cX3_reckon 24 = .ok (.getfield 21, 3) := by decide +kernel
theorem dX3_reckon_27 : decode cX3_reckon 27 = .ok (.iload_n 1, 1) := by decide +kernel
theorem dX3_reckon_28 : decode cX3_reckon 28 = .ok (.iaload, 1) := by decide +kernel
theorem dX3_reckon_29 : decode cX3_reckon 29 = .ok (.ifCond .ne 8, 3) := by decide +kernel
theorem dX3_reckon_32 : decode cX3_reckon 32 = .ok (.iload_n 3, 1) := by decide +kernel
theorem dX3_reckon_33 : decode cX3_reckon 33 = .ok (.iload 4, 2) := by decide +kernel
theorem dX3_reckon_35 : decode cX3_reckon 35 = .ok (.iand, 1) := by decide +kernel
theorem dX3_reckon_36 : decode cX3_reckon 36 = .ok (.ireturn, 1) := by decide +kernel
theorem dX3_reckon_37 : decode cX3_reckon 37 = .ok (.aload_n 0, 1) := by decide +kernel
theorem dX3_reckon_38 : decode cX3_reckon 38 = .ok (.getfield 21, 3) := by decide +kernel
theorem dX3_reckon_41 : decode cX3_reckon 41 = .ok (.iload_n 1, 1) := by decide +kernel
theorem dX3_reckon_42 : decode cX3_reckon 42 = .ok (.iaload, 1) := by decide +kernel
theorem dX3_reckon_43 : decode cX3_reckon 43 = .ok (.iconst 1, 1) := by decide +kernel
theorem dX3_reckon_44 : decode cX3_reckon 44 = .ok (.if_icmp .ne 10, 3) := by decide +kernel
theorem dX3_reckon_47 : decode cX3_reckon 47 = .ok (.iload_n 3, 1) := by decide +kernel
theorem dX3_reckon_48 : decode cX3_reckon 48 = .ok (.iload 4, 2) := by decide +kernel
theorem dX3_reckon_50 : decode cX3_reckon 50 = .ok (.ior, 1) := by decide +kernel
theorem dX3_reckon_51 : decode cX3_reckon 51 = .ok (.goto 7, 3) := by decide +kernel
theorem dX3_reckon_54 : decode cX3_reckon 54 = .ok (.iload_n 3, 1) := by decide +kernel
theorem dX3_reckon_55 : decode cX3_reckon 55 = .ok (.iload 4, 2) := by decide +kernel
theorem dX3_reckon_57 : decode cX3_reckon 57 = .ok (.ixor, 1) := by decide +kernel
theorem dX3_reckon_58 : decode cX3_reckon 58 = .ok (.ireturn, 1) := by decide +kernel
set_option maxHeartbeats 4000000 in
set_option maxRecDepth 100000 in
theorem cX3_reckon_ (l : Launch) (bs : Nat) (D : va_G) (y : Y3) (hcb : 44 ≤ y.2.2.2) (n : Nat) (x1 : Int32) (k2 : Nat) (I : MI) (J : MJ) (r : Int32 × M2) (h : fX3_reckon n x1 k2 I J = some r) : Met l yX3_reckon (.code yX3_reckon cX3_reckon 5 (some .int) :: gtb) (rmm 1 22) (va_Pc [.ref (bs + 1), .int x1, .ref (bs + k2)] (HB bs D y I J)) (QcI bs D y r) 0 0 (FA bs) := by
  refine Met.ofW (cc := cX3_reckon) (maxL := 5) (ret := (some .int)) (by decide) rfl ?_
  intro p e s m args below meth c s₁ B hml hv
  obtain ⟨rfl, hP, hK, hN, hL⟩ := hv
  have hx := B.exec
  have hb := B.bytes
  have hr := B.returns
  have hts0 := atoms_spec (ws := .code yX3_reckon cX3_reckon 5 (some .int) :: gtb) B.pre
  have hts : ∀ w ∈ gtb, w.before [.ref (bs + 1), .int x1, .ref (bs + k2)].toArray s = true := fun w hw => hts0 w (List.mem_cons_of_mem _ hw)
  have hown : s.vm.findClass RX3 = some m.cls := findClass_of_methodNamed B.named
  have hlocks := B.notSynchronized
  have hS : va_S (FA bs) s.heap s.heap [] := va_S.rf
  have Gc : Gx p s m [.ref (bs + 1), .int x1, .ref (bs + k2)].toArray meth c cX3_reckon 5 RX3 bs D y (some .int) 44 := ⟨hx, hb, hml, hown, hts, hK, hN, hL, hr, hlocks, hcb⟩
  have hl := lv_entry [.ref (bs + 1), .int x1, .ref (bs + k2)] (n := 5) (Nat.le_of_ble_eq_true rfl)
  rw [lg_entry_eq]
  generalize (lg_sl [.ref (bs + 1), .int x1, .ref (bs + k2)] ++ List.replicate (5 - (lg_sl [.ref (bs + 1), .int x1, .ref (bs + k2)]).length) Slot.unset).toArray = ls at hl ⊢
  have hl : lv_has ls 5 [(0, .ref (bs + 1)), (1, .int x1), (2, .ref (bs + k2))] := hl
  change W p l e (rmm 1 22) s m [.ref (bs + 1), .int x1, .ref (bs + k2)].toArray below meth c s.heap [] 0 0 (QI below [.ref (bs + 1), .int x1, .ref (bs + k2)].toArray s bs D y r) (F0 m 0 ls [])
  unfold fX3_reckon at h
  refine lv_aload_n hx hb dX3_reckon_0 rfl (lv_at hl 0 rfl) ?_
  refine g_R (C := RX3) (T := TX3) (N := 11) (ci := 3) 1 1 3 hx hb hts hown hK hP in_X3 rfl hcb okF_1_1 rfc_1_1 fl_32 dX3_reckon_1 ?_
  refine lv_iload_n hx hb dX3_reckon_4 rfl (lv_at hl 1 rfl) ?_
  obtain ⟨hi5, h⟩ := if_s1 h
  refine a_I 3 hx hb hK hP hcb aln_3 hi5 dX3_reckon_5 ?_
  refine lv_aload_n hx hb dX3_reckon_6 rfl (lv_at hl 2 rfl) ?_
  obtain ⟨r7, er7, h⟩ := bd_s1 h
  refine c_SI (As := [.int (I 3 (x1).toNatClampNeg), .ref (bs + k2)]) (rest := []) hx hb hml hown hts hK hN hL hP hS (cX3_word_ l bs D y hcb n (I 3 (x1).toNatClampNeg) k2 I J r7 er7) ok_X3_word ov_X3_word ml_19 ⟨Nat.le_of_ble_eq_true rfl, Nat.le_of_ble_eq_true rfl⟩ hl.1 rfl rfl (Nat.le_of_ble_eq_true rfl) ⟨Nat.zero_le _, Nat.zero_le _⟩ dX3_reckon_7 (fun H locs hP hS => ?_)
  obtain ⟨v10, ev10, h⟩ := lt_s1 h
  refine top_i ev10 ?_
  refine lv_istore_n (lv' := [(3, .int v10), (0, .ref (bs + 1)), (1, .int x1), (2, .ref (bs + k2))]) hx hb dX3_reckon_10 rfl hl (by decide) rfl (fun ls hl => ?_)
  refine lv_aload_n hx hb dX3_reckon_11 rfl (lv_at hl 1 rfl) ?_
  refine g_R (C := RX3) (T := TX3) (N := 11) (ci := 3) 1 2 4 hx hb hts hown hK hP in_X3 rfl hcb okF_1_2 rfc_1_2 fl_33 dX3_reckon_12 ?_
  refine lv_iload_n hx hb dX3_reckon_15 rfl (lv_at hl 2 rfl) ?_
  obtain ⟨hi16, h⟩ := if_s1 h
  refine a_I 4 hx hb hK hP hcb aln_4 hi16 dX3_reckon_16 ?_
  refine lv_aload_n hx hb dX3_reckon_17 rfl (lv_at hl 3 rfl) ?_
  obtain ⟨r18, er18, h⟩ := bd_s1 h
  refine c_SI (As := [.int (r7.2.1 4 (x1).toNatClampNeg), .ref (bs + k2)]) (rest := []) hx hb hml hown hts hK hN hL hP hS (cX3_word_ l bs D y hcb n (r7.2.1 4 (x1).toNatClampNeg) k2 r7.2.1 r7.2.2 r18 er18) ok_X3_word ov_X3_word ml_19 ⟨Nat.le_of_ble_eq_true rfl, Nat.le_of_ble_eq_true rfl⟩ hl.1 rfl rfl (Nat.le_of_ble_eq_true rfl) ⟨Nat.zero_le _, Nat.zero_le _⟩ dX3_reckon_18 (fun H locs hP hS => ?_)
  obtain ⟨v21, ev21, h⟩ := lt_s1 h
  refine top_i ev21 ?_
  refine lv_istore (lv' := [(4, .int v21), (3, .int v10), (0, .ref (bs + 1)), (1, .int x1), (2, .ref (bs + k2))]) hx hb dX3_reckon_21 hl (by decide) rfl (fun ls hl => ?_)
  refine lv_aload_n hx hb dX3_reckon_23 rfl (lv_at hl 2 rfl) ?_
  refine g_R (C := RX3) (T := TX3) (N := 11) (ci := 3) 1 3 5 hx hb hts hown hK hP in_X3 rfl hcb okF_1_3 rfc_1_3 fl_34 dX3_reckon_24 ?_
  refine lv_iload_n hx hb dX3_reckon_27 rfl (lv_at hl 3 rfl) ?_
  obtain ⟨hi28, h⟩ := if_s1 h
  refine a_I 5 hx hb hK hP hcb aln_5 hi28 dX3_reckon_28 ?_
  refine lv_if_ne (tgt := 37) hx hb dX3_reckon_29 (by decide) (fun c29 => ?_) (fun c29 => ?_)
  · replace h := if_f c29 h
    refine lv_aload_n hx hb dX3_reckon_37 rfl (lv_at hl 2 rfl) ?_
    refine g_R (C := RX3) (T := TX3) (N := 11) (ci := 3) 1 3 5 hx hb hts hown hK hP in_X3 rfl hcb okF_1_3 rfc_1_3 fl_34 dX3_reckon_38 ?_
    refine lv_iload_n hx hb dX3_reckon_41 rfl (lv_at hl 3 rfl) ?_
    obtain ⟨hi42, h⟩ := if_s1 h
    refine a_I 5 hx hb hK hP hcb aln_5 hi42 dX3_reckon_42 ?_
    refine lv_iconst (v := (1 : Int32)) hx hb dX3_reckon_43 (by decide) ?_
    refine lv_icmp_ne (tgt := 54) hx hb dX3_reckon_44 (by decide) (fun c44 => ?_) (fun c44 => ?_)
    · replace h := if_f c44 h
      refine lv_iload_n hx hb dX3_reckon_54 rfl (lv_at hl 1 rfl) ?_
      refine lv_iload hx hb dX3_reckon_55 (lv_at hl 0 rfl) ?_
      refine lv_ixor hx hb dX3_reckon_57 ?_
      exact r_I hx hb hr hlocks hP hK hN hL hS h dX3_reckon_58
    · replace h := if_t c44 h
      refine lv_iload_n hx hb dX3_reckon_47 rfl (lv_at hl 1 rfl) ?_
      refine lv_iload hx hb dX3_reckon_48 (lv_at hl 0 rfl) ?_
      refine lv_ior hx hb dX3_reckon_50 ?_
      refine lv_goto (tgt := 58) hx hb dX3_reckon_51 (by decide) ?_
      exact r_I hx hb hr hlocks hP hK hN hL hS h dX3_reckon_58
  · replace h := if_t c29 h
    refine lv_iload_n hx hb dX3_reckon_32 rfl (lv_at hl 1 rfl) ?_
    refine lv_iload hx hb dX3_reckon_33 (lv_at hl 0 rfl) ?_
    refine lv_iand hx hb dX3_reckon_35 ?_
    exact r_I hx hb hr hlocks hP hK hN hL hS h dX3_reckon_36
theorem dX4_take_0 : decode cX4_take 0 = .ok (.aload_n 0, 1) := by decide +kernel
theorem dX4_take_1 : decode cX4_take 1 = .ok (.iload_n 3, 1) := by decide +kernel
theorem dX4_take_2 : decode cX4_take 2 = .ok (.iload_n 2, 1) := by decide +kernel
theorem dX4_take_3 : decode cX4_take 3 = .ok (.isub, 1) := by decide +kernel
theorem dX4_take_4 : decode cX4_take 4 = .ok (.bipush 37, 2) := by decide +kernel
theorem dX4_take_6 : decode cX4_take 6 = .ok (.invokestatic 15, 3) := by decide +kernel
theorem dX4_take_9 : decode cX4_take 9 = .ok (.putfield 21, 3) := by decide +kernel
theorem dX4_take_12 : decode cX4_take 12 = .ok (.aload_n 1, 1) := by decide +kernel
theorem dX4_take_13 : decode cX4_take 13 = .ok (.iload_n 2, 1) := by decide +kernel
theorem dX4_take_14 : decode cX4_take 14 = .ok (.aload_n 0, 1) := by decide +kernel
theorem dX4_take_15 : decode cX4_take 15 = .ok (.getfield 9, 3) := by decide +kernel
theorem dX4_take_18 : decode cX4_take 18 = .ok (.iconst 0, 1) := by decide +kernel
theorem dX4_take_19 : decode cX4_take 19 = .ok (.aload_n 0, 1) := by decide +kernel
theorem dX4_take_20 : decode cX4_take 20 = .ok (.getfield 21, 3) := by decide +kernel
theorem dX4_take_23 : decode cX4_take 23 = .ok (.invokestatic 25, 3) := by decide +kernel
theorem dX4_take_26 : decode cX4_take 26 = .ok (.aload_n 0, 1) := by decide +kernel
theorem dX4_take_27 : decode cX4_take 27 = .ok (.iconst 1, 1) := by decide +kernel
theorem dX4_take_28 : decode cX4_take 28 = .ok (.putfield 31, 3) := by decide +kernel
theorem dX4_take_31 : decode cX4_take 31 = .ok (.return_, 1) := by decide +kernel
set_option maxHeartbeats 4000000 in
set_option maxRecDepth 100000 in
theorem cX4_take_ (l : Launch) (bs : Nat) (D : va_G) (y : Y3) (hcb : 44 ≤ y.2.2.2) (n : Nat) (k1 : Nat) (x2 : Int32) (x3 : Int32) (I : MI) (J : MJ) (r : M2) (h : fX4_take n k1 x2 x3 I J = some r) : Met l yX4_take (.code yX4_take cX4_take 4 none :: gtb) (rmm 1 38) (va_Pc [.ref (bs + 41), .ref (bs + k1), .int x2, .int x3] (HB bs D y I J)) (QcV bs D y r) 0 0 (FA bs) := by
  refine Met.ofW (cc := cX4_take) (maxL := 4) (ret := none) (by decide) rfl ?_
  intro p e s m args below meth c s₁ B hml hv
  obtain ⟨rfl, hP, hK, hN, hL⟩ := hv
  have hx := B.exec
  have hb := B.bytes
  have hr := B.returns
  have hts0 := atoms_spec (ws := .code yX4_take cX4_take 4 none :: gtb) B.pre
  have hts : ∀ w ∈ gtb, w.before [.ref (bs + 41), .ref (bs + k1), .int x2, .int x3].toArray s = true := fun w hw => hts0 w (List.mem_cons_of_mem _ hw)
  have hown : s.vm.findClass RX4 = some m.cls := findClass_of_methodNamed B.named
  have hlocks := B.notSynchronized
  have hS : va_S (FA bs) s.heap s.heap [] := va_S.rf
  have Gc : Gx p s m [.ref (bs + 41), .ref (bs + k1), .int x2, .int x3].toArray meth c cX4_take 4 RX4 bs D y none 44 := ⟨hx, hb, hml, hown, hts, hK, hN, hL, hr, hlocks, hcb⟩
  have hl := lv_entry [.ref (bs + 41), .ref (bs + k1), .int x2, .int x3] (n := 4) (Nat.le_of_ble_eq_true rfl)
  rw [lg_entry_eq]
  generalize (lg_sl [.ref (bs + 41), .ref (bs + k1), .int x2, .int x3] ++ List.replicate (4 - (lg_sl [.ref (bs + 41), .ref (bs + k1), .int x2, .int x3]).length) Slot.unset).toArray = ls at hl ⊢
  have hl : lv_has ls 4 [(0, .ref (bs + 41)), (1, .ref (bs + k1)), (2, .int x2), (3, .int x3)] := hl
  change W p l e (rmm 1 38) s m [.ref (bs + 41), .ref (bs + k1), .int x2, .int x3].toArray below meth c s.heap [] 0 0 (QV below [.ref (bs + 41), .ref (bs + k1), .int x2, .int x3].toArray s bs D y r) (F0 m 0 ls [])
  unfold fX4_take at h
  refine lv_aload_n hx hb dX4_take_0 rfl (lv_at hl 0 rfl) ?_
  refine lv_iload_n hx hb dX4_take_1 rfl (lv_at hl 3 rfl) ?_
  refine lv_iload_n hx hb dX4_take_2 rfl (lv_at hl 2 rfl) ?_
  refine lv_isub hx hb dX4_take_3 ?_
  refine lv_bipush (v := (37 : Int32)) hx hb dX4_take_4 (by decide) ?_
  refine va_mmin hx hb (hml.trans hl.1.symm) hown (hts _ ml_20) (hts _ ms_va_mmin) (hts _ ms_i) (hts _ mc_va_mmin) (Nat.le_of_ble_eq_true rfl) (Nat.le_of_ble_eq_true rfl) (Nat.zero_le _) (Nat.zero_le _) dX4_take_6 ?_
  obtain ⟨I9, eI9, h⟩ := lt_s1 h
  refine s_I (C := RX4) (T := TX4) (N := 3) (ci := 4) (ty := .int) 41 1 eI9 tyX4 hx hb hts hown hK hP hS in_X4 tyX4_ok nmX4 rfl hcb okF_41_1 fl_41 rfl (by decide +kernel) rfl rfl dX4_take_9 (fun H locs hP hS => ?_)
  refine lv_aload_n hx hb dX4_take_12 rfl (lv_at hl 1 rfl) ?_
  refine lv_iload_n hx hb dX4_take_13 rfl (lv_at hl 2 rfl) ?_
  refine lv_aload_n hx hb dX4_take_14 rfl (lv_at hl 0 rfl) ?_
  refine g_R (C := RX4) (T := TX4) (N := 3) (ci := 4) 41 2 42 hx hb hts hown hK hP in_X4 rfl hcb okF_41_2 rfc_41_2 fl_42 dX4_take_15 ?_
  refine lv_iconst (v := (0 : Int32)) hx hb dX4_take_18 (by decide) ?_
  refine lv_aload_n hx hb dX4_take_19 rfl (lv_at hl 0 rfl) ?_
  refine g_I (C := RX4) (T := TX4) (N := 3) (ci := 4) 41 1 hx hb hts hown hK hP in_X4 rfl hcb okF_41_1 fl_41 dX4_take_20 ?_
  obtain ⟨hi23, h⟩ := if_s1 h
  obtain ⟨I23, eI23, h⟩ := lt_s1 h
  refine cp_I k1 42 eI23 hx hb (hml.trans hl.1.symm) hown hts ml_21 ⟨ac_n, ac_s, ac_i⟩ hK hP hS hcb rfl aln_42 hi23 (Nat.le_of_ble_eq_true rfl) (Nat.le_of_ble_eq_true rfl) dX4_take_23 (fun H locs hP hS => ?_)
  refine lv_aload_n hx hb dX4_take_26 rfl (lv_at hl 0 rfl) ?_
  refine lv_iconst (v := (1 : Int32)) hx hb dX4_take_27 (by decide) ?_
  obtain ⟨I28, eI28, h⟩ := lt_s1 h
  refine s_I (C := RX4) (T := TX4) (N := 3) (ci := 4) (ty := .boolean) 41 0 eI28 tyX4 hx hb hts hown hK hP hS in_X4 tyX4_ok nmX4 rfl hcb okF_41_0 fl_43 rfl (by decide +kernel) (by decide) rfl dX4_take_28 (fun H locs hP hS => ?_)
  exact r_V hx hb hr hlocks hP hK hN hL hS h dX4_take_31
theorem dX4_hasStretch_0 : decode cX4_hasStretch 0 = .ok (.iload_n 1, 1) := by decide +kernel
theorem dX4_hasStretch_1 : decode cX4_hasStretch 1 = .ok (.ifCond .lt 21, 3) := by decide +kernel
theorem dX4_hasStretch_4 : decode cX4_hasStretch 4 = .ok (.iload_n 1, 1) := by decide +kernel
theorem dX4_hasStretch_5 : decode cX4_hasStretch 5 = .ok (.i2l, 1) := by decide +kernel
theorem dX4_hasStretch_6 : decode cX4_hasStretch 6 = .ok (.iload_n 2, 1) := by decide +kernel
theorem dX4_hasStretch_7 : decode cX4_hasStretch 7 = .ok (.i2l, 1) := by decide +kernel
theorem dX4_hasStretch_8 : decode cX4_hasStretch 8 = .ok (.ladd, 1) := by decide +kernel
theorem dX4_hasStretch_9 : decode cX4_hasStretch 9 = .ok (.aload_n 0, 1) := by decide +kernel
theorem dX4_hasStretch_10 : decode cX4_hasStretch 10 = .ok (.getfield 21, 3) := by decide +kernel
theorem dX4_hasStretch_13 : decode cX4_hasStretch 13 = .ok (.i2l, 1) := by decide +kernel
theorem dX4_hasStretch_14 : decode cX4_hasStretch 14 = .ok (.lcmp, 1) := by decide +kernel
theorem dX4_hasStretch_15 : decode cX4_hasStretch 15 = .ok (.ifCond .gt 7, 3) := by decide +kernel
theorem dX4_hasStretch_18 : decode cX4_hasStretch 18 = .ok (.iconst 1, 1) := by decide +kernel
theorem dX4_hasStretch_19 : decode cX4_hasStretch 19 = .ok (.goto 4, 3) := by decide +kernel
theorem dX4_hasStretch_22 : decode cX4_hasStretch 22 = .ok (.iconst 0, 1) := by decide +kernel
theorem dX4_hasStretch_23 : decode cX4_hasStretch 23 = .ok (.ireturn, 1) := by decide +kernel
set_option maxHeartbeats 4000000 in
set_option maxRecDepth 100000 in
theorem cX4_hasStretch_ (l : Launch) (bs : Nat) (D : va_G) (y : Y3) (hcb : 44 ≤ y.2.2.2) (n : Nat) (x1 : Int32) (x2 : Int32) (I : MI) (J : MJ) (r : Int32 × M2) (h : fX4_hasStretch n x1 x2 I J = some r) : Met l yX4_hasStretch (.code yX4_hasStretch cX4_hasStretch 3 (some .boolean) :: gtb) (rmm 0 0) (va_Pc [.ref (bs + 41), .int x1, .int x2] (HB bs D y I J)) (QcI bs D y r) 0 0 (FA bs) := by
  refine Met.ofW (cc := cX4_hasStretch) (maxL := 3) (ret := (some .boolean)) (by decide) rfl ?_
  intro p e s m args below meth c s₁ B hml hv
  obtain ⟨rfl, hP, hK, hN, hL⟩ := hv
  have hx := B.exec
  have hb := B.bytes
  have hr := B.returns
  have hts0 := atoms_spec (ws := .code yX4_hasStretch cX4_hasStretch 3 (some .boolean) :: gtb) B.pre
  have hts : ∀ w ∈ gtb, w.before [.ref (bs + 41), .int x1, .int x2].toArray s = true := fun w hw => hts0 w (List.mem_cons_of_mem _ hw)
  have hown : s.vm.findClass RX4 = some m.cls := findClass_of_methodNamed B.named
  have hlocks := B.notSynchronized
  have hS : va_S (FA bs) s.heap s.heap [] := va_S.rf
  have Gc : Gx p s m [.ref (bs + 41), .int x1, .int x2].toArray meth c cX4_hasStretch 3 RX4 bs D y (some .boolean) 44 := ⟨hx, hb, hml, hown, hts, hK, hN, hL, hr, hlocks, hcb⟩
  have hl := lv_entry [.ref (bs + 41), .int x1, .int x2] (n := 3) (Nat.le_of_ble_eq_true rfl)
  rw [lg_entry_eq]
  generalize (lg_sl [.ref (bs + 41), .int x1, .int x2] ++ List.replicate (3 - (lg_sl [.ref (bs + 41), .int x1, .int x2]).length) Slot.unset).toArray = ls at hl ⊢
  have hl : lv_has ls 3 [(0, .ref (bs + 41)), (1, .int x1), (2, .int x2)] := hl
  change W p l e (rmm 0 0) s m [.ref (bs + 41), .int x1, .int x2].toArray below meth c s.heap [] 0 0 (QI below [.ref (bs + 41), .int x1, .int x2].toArray s bs D y r) (F0 m 0 ls [])
  unfold fX4_hasStretch at h
  refine lv_iload_n hx hb dX4_hasStretch_0 rfl (lv_at hl 1 rfl) ?_
  refine lv_if_lt (tgt := 22) hx hb dX4_hasStretch_1 (by decide) (fun c1 => ?_) (fun c1 => ?_)
  · replace h := if_t c1 h
    refine lv_iconst (v := (0 : Int32)) hx hb dX4_hasStretch_22 (by decide) ?_
    exact r_Z hx hb hr hlocks hP hK hN hL hS (by decide) h dX4_hasStretch_23
  · replace h := if_f c1 h
    refine lv_iload_n hx hb dX4_hasStretch_4 rfl (lv_at hl 1 rfl) ?_
    refine lv_i2l (v := (x1).toInt64) hx hb dX4_hasStretch_5 rfl ?_
    refine lv_iload_n hx hb dX4_hasStretch_6 rfl (lv_at hl 2 rfl) ?_
    refine lv_i2l (v := (x2).toInt64) hx hb dX4_hasStretch_7 rfl ?_
    refine lv_ladd hx hb dX4_hasStretch_8 ?_
    refine lv_aload_n hx hb dX4_hasStretch_9 rfl (lv_at hl 0 rfl) ?_
    refine g_I (C := RX4) (T := TX4) (N := 3) (ci := 4) 41 1 hx hb hts hown hK hP in_X4 rfl hcb okF_41_1 fl_41 dX4_hasStretch_10 ?_
    refine lv_i2l (v := ((I 41 1)).toInt64) hx hb dX4_hasStretch_13 rfl ?_
    refine W.lcmp hx hb dX4_hasStretch_14 ?_
    refine lv_if_gt (tgt := 22) hx hb dX4_hasStretch_15 (by decide) (fun c15 => ?_) (fun c15 => ?_)
    · replace h := if_t c15 h
      refine lv_iconst (v := (0 : Int32)) hx hb dX4_hasStretch_22 (by decide) ?_
      exact r_Z hx hb hr hlocks hP hK hN hL hS (by decide) h dX4_hasStretch_23
    · replace h := if_f c15 h
      refine lv_iconst (v := (1 : Int32)) hx hb dX4_hasStretch_18 (by decide) ?_
      refine lv_goto (tgt := 23) hx hb dX4_hasStretch_19 (by decide) ?_
      exact r_Z hx hb hr hlocks hP hK hN hL hS (by decide) h dX4_hasStretch_23
theorem dX5_feedersOf_0 : decode cX5_feedersOf 0 = .ok (.aload_n 1, 1) := by decide +kernel
theorem dX5_feedersOf_1 : decode cX5_feedersOf 1 = .ok (.getfield 50, 3) := by decide +kernel
theorem dX5_feedersOf_4 : decode cX5_feedersOf 4 = .ok (.iload_n 0, 1) := by decide +kernel
theorem dX5_feedersOf_5 : decode cX5_feedersOf 5 = .ok (.iaload, 1) := by decide +kernel
theorem dX5_feedersOf_6 : decode cX5_feedersOf 6 = .ok (.iconst 1, 1) := by decide +kernel
theorem dX5_feedersOf_7 : decode cX5_feedersOf 7 = .ok (.if_icmp .ne 12, 3) := by decide +kernel
theorem dX5_feedersOf_10 : decode cX5_feedersOf 10 = .ok (.iconst 1, 1) := by decide +kernel
theorem dX5_feedersOf_11 : decode cX5_feedersOf 11 = .ok (.aload_n 1, 1) := by decide +kernel
theorem dX5_feedersOf_12 : decode cX5_feedersOf 12 = .ok (.getfield 59, 3) := by decide +kernel
theorem dX5_feedersOf_15 : decode cX5_feedersOf 15 = .ok (.iload_n 0, 1) := by decide +kernel
theorem dX5_feedersOf_16 : decode cX5_feedersOf 16 = .ok (.iaload, 1) := by decide +kernel
theorem dX5_feedersOf_17 : decode cX5_feedersOf 17 = .ok (.ishl, 1) := by decide +kernel
theorem dX5_feedersOf_18 : decode cX5_feedersOf 18 = .ok (.ireturn, 1) := by decide +kernel
theorem dX5_feedersOf_19 : decode cX5_feedersOf 19 = .ok (.iconst 0, 1) := by decide +kernel
theorem dX5_feedersOf_20 : decode cX5_feedersOf 20 = .ok (.istore_n 3, 1) := by decide +kernel
theorem dX5_feedersOf_21 : decode cX5_feedersOf 21 = .ok (.aload_n 1, 1) := by decide +kernel
theorem dX5_feedersOf_22 : decode cX5_feedersOf 22 = .ok (.getfield 50, 3) := by decide +kernel
theorem dX5_feedersOf_25 : decode cX5_feedersOf 25 = .ok (.iload_n 0, 1) := by decide +kernel
theorem dX5_feedersOf_26 : decode cX5_feedersOf 26 = .ok (.iaload, 1) := by decide +kernel
theorem dX5_feedersOf_27 : decode cX5_feedersOf 27 = .ok (.iconst 2, 1) := by decide +kernel
theorem dX5_feedersOf_28 : decode cX5_feedersOf 28 = .ok (.if_icmp .ne 43, 3) := by decide +kernel
theorem dX5_feedersOf_31 : decode cX5_feedersOf 31 = .ok (.aload_n 2, 1) := by decide +kernel
theorem dX5_feedersOf_32 : decode cX5_feedersOf 32 = .ok (.iload_n 0, 1) := by decide +kernel
theorem dX5_feedersOf_33 : decode cX5_feedersOf 33 = .ok (.invokevirtual 53, 3) := by decide +kernel
theorem dX5_feedersOf_36 : decode cX5_feedersOf 36 = .ok (.ifCond .eq 35, 3) := by decide +kernel
theorem dX5_feedersOf_39 : decode cX5_feedersOf 39 = .ok (.iconst 0, 1) := by decide +kernel
theorem dX5_feedersOf_40 : decode cX5_feedersOf 40 = .ok (.istore 4, 2) := by decide +kernel
theorem dX5_feedersOf_42 : decode cX5_feedersOf 42 = .ok (.iload 4, 2) := by decide +kernel
theorem dX5_feedersOf_44 : decode cX5_feedersOf 44 = .ok (.aload_n 2, 1) := by decide +kernel
theorem dX5_feedersOf_45 : decode cX5_feedersOf 45 = .ok (.getfield 62, 3) := by decide +kernel
theorem dX5_feedersOf_48 : decode cX5_feedersOf 48 = .ok (.iload_n 0, 1) := by decide +kernel
theorem dX5_feedersOf_49 : decode cX5_feedersOf 49 = .ok (.iaload, 1) := by decide +kernel
theorem dX5_feedersOf_50 : decode cX5_feedersOf 50 = .ok (.if_icmp .ge 21, 3) := by decide +kernel
theorem dX5_feedersOf_53 : decode cX5_feedersOf 53 = .ok (.iload_n 3, 1) := by decide +kernel
theorem dX5_feedersOf_54 : decode cX5_feedersOf 54 = .ok (.iconst 1, 1) := by decide +kernel
theorem dX5_feedersOf_55 : decode cX5_feedersOf 55 = .ok (.aload_n 2, 1) := by decide +kernel
theorem dX5_feedersOf_56 : decode cX5_feedersOf 56 = .ok (.iload_n 0, 1) := by decide +kernel
theorem dX5_feedersOf_57 : decode cX5_feedersOf 57 = .ok (.iload 4, 2) := by decide +kernel
theorem dX5_feedersOf_59 : decode cX5_feedersOf 59 = .ok (.invokevirtual 65, 3) := by decide +kernel
theorem dX5_feedersOf_62 : decode cX5_feedersOf 62 = .ok (.ishl, 1) := by decide +kernel
theorem dX5_feedersOf_63 : decode cX5_feedersOf 63 = .ok (.ior, 1) := by decide +kernel
theorem dX5_feedersOf_64 : decode cX5_feedersOf 64 = .ok (.istore_n 3, 1) := by decide +kernel
theorem dX5_feedersOf_65 : decode cX5_feedersOf 65 = .ok (.iinc 4 1, 3) := by decide +kernel
theorem dX5_feedersOf_68 : decode cX5_feedersOf 68 = .ok (.goto (-26), 3) := by decide +kernel
theorem dX5_feedersOf_71 : decode cX5_feedersOf 71 = .ok (.iload_n 3, 1) := by decide +kernel
theorem dX5_feedersOf_72 : decode cX5_feedersOf 72 = .ok (.ireturn, 1) := by decide +kernel
set_option maxHeartbeats 4000000 in
set_option maxRecDepth 100000 in
theorem wX5_feedersOf_42 {p : Program} {l : Launch} {e : Env} {s : State} {m : MethodId} {args : Array Value} {below : List Frame} {meth : Method} {c : Code} (bs : Nat) (D : va_G) (y : Y3) (n : Nat) (k42_ : Int32 → Int32 → Int32 → MI → MJ → Option (Int32 × M2)) (r : Int32 × M2) (Gc : Gx p s m args meth c cX5_feedersOf 5 RX5 bs D y (some .int) 44) (hk42_ : ∀ (x0 : Int32) (x3 : Int32) (x4 : Int32) (I : MI) (J : MJ) (H : Heap) (locs : List Loc) (ls : Array Slot), va_P D vwCl (wl bs y I J) H → va_S (FA bs) s.heap H locs → lv_has ls 5 [(0, .int x0), (2, .ref (bs + 11)), (3, .int x3), (4, .int x4)] → k42_ x0 x3 x4 I J = some r → W p l e (rmm 2 43) s m args below meth c H locs 0 0 (QI below args s bs D y r) (F0 m 42 ls [])) (x0 : Int32) (x3 : Int32) (x4 : Int32) (I : MI) (J : MJ) (H : Heap) (locs : List Loc) (ls : Array Slot) (hP : va_P D vwCl (wl bs y I J) H) (hS : va_S (FA bs) s.heap H locs) (hl : lv_has ls 5 [(0, .int x0), (2, .ref (bs + 11)), (3, .int x3), (4, .int x4)]) (h : fX5_feedersOf_42 n k42_ x0 x3 x4 I J = some r) : W p l e (rmm 2 43) s m args below meth c H locs 0 0 (QI below args s bs D y r) (F0 m 42 ls []) := by
  obtain ⟨hx, hb, hml, hown, hts, hK, hN, hL, hr, hlocks, hcb⟩ := id Gc
  unfold fX5_feedersOf_42 at h
  refine lv_iload hx hb dX5_feedersOf_42 (lv_at hl 3 rfl) ?_
  refine lv_aload_n hx hb dX5_feedersOf_44 rfl (lv_at hl 1 rfl) ?_
  refine g_R (C := RX7) (T := TX7) (N := 7) (ci := 7) 11 2 12 hx hb hts hown hK hP in_X7 rfl hcb okF_11_2 rfc_11_2 fl_44 dX5_feedersOf_45 ?_
  refine lv_iload_n hx hb dX5_feedersOf_48 rfl (lv_at hl 0 rfl) ?_
  obtain ⟨hi49, h⟩ := if_s1 h
  refine a_I 12 hx hb hK hP hcb aln_12 hi49 dX5_feedersOf_49 ?_
  refine lv_icmp_ge (tgt := 71) hx hb dX5_feedersOf_50 (by decide) (fun c50 => ?_) (fun c50 => ?_)
  · replace h := if_t c50 h
    refine lv_iload_n hx hb dX5_feedersOf_71 rfl (lv_at hl 2 rfl) ?_
    exact r_I hx hb hr hlocks hP hK hN hL hS h dX5_feedersOf_72
  · replace h := if_f c50 h
    refine lv_iload_n hx hb dX5_feedersOf_53 rfl (lv_at hl 2 rfl) ?_
    refine lv_iconst (v := (1 : Int32)) hx hb dX5_feedersOf_54 (by decide) ?_
    refine lv_aload_n hx hb dX5_feedersOf_55 rfl (lv_at hl 1 rfl) ?_
    refine lv_iload_n hx hb dX5_feedersOf_56 rfl (lv_at hl 0 rfl) ?_
    refine lv_iload hx hb dX5_feedersOf_57 (lv_at hl 3 rfl) ?_
    obtain ⟨r59, er59, h⟩ := bd_s1 h
    refine c_VI (k := 11) (ci := 7) (As := [.int x0, .int x4]) (rest := [.int (1 : Int32), .int x3]) hx hb hml hown hts hK hN hL hP hS (cX7_letter_ l bs D y hcb n x0 x4 I J r59 er59) ok_X7_letter ov_X7_letter ml_22 ⟨Nat.le_of_ble_eq_true rfl, Nat.le_of_ble_eq_true rfl⟩ rfl hcb kd_11 hl.1 rfl rfl (Nat.le_of_ble_eq_true rfl) ⟨Nat.zero_le _, Nat.zero_le _⟩ dX5_feedersOf_59 (fun H locs hP hS => ?_)
    refine lv_ishl hx hb dX5_feedersOf_62 ?_
    refine lv_ior hx hb dX5_feedersOf_63 ?_
    obtain ⟨v64, ev64, h⟩ := lt_s1 h
    refine top_i ev64 ?_
    refine lv_istore_n (lv' := [(3, .int v64), (0, .int x0), (2, .ref (bs + 11)), (4, .int x4)]) hx hb dX5_feedersOf_64 rfl hl (by decide) rfl (fun ls hl => ?_)
    refine lv_iinc (v := (x4 + (1 : Int32))) (lv' := [(4, .int (x4 + (1 : Int32))), (3, .int v64), (0, .int x0), (2, .ref (bs + 11))]) hx hb dX5_feedersOf_65 hl (k := 3) rfl rfl (by decide) rfl (fun ls hl => ?_)
    refine lv_goto (tgt := 42) hx hb dX5_feedersOf_68 (by decide) ?_
    exact hk42_ x0 v64 (x4 + (1 : Int32)) r59.2.1 r59.2.2 _ _ _ hP hS (lv_sub hl [2, 3, 1, 0] rfl) h
theorem vX5_feedersOf_42 {p : Program} {l : Launch} {e : Env} {s : State} {m : MethodId} {args : Array Value} {below : List Frame} {meth : Method} {c : Code} (bs : Nat) (D : va_G) (y : Y3) (n : Nat) (r : Int32 × M2) (Gc : Gx p s m args meth c cX5_feedersOf 5 RX5 bs D y (some .int) 44)  : ∀ (q : Nat) (x0 : Int32) (x3 : Int32) (x4 : Int32) (I : MI) (J : MJ) (H : Heap) (locs : List Loc) (ls : Array Slot), va_P D vwCl (wl bs y I J) H → va_S (FA bs) s.heap H locs → lv_has ls 5 [(0, .int x0), (2, .ref (bs + 11)), (3, .int x3), (4, .int x4)] → lX5_feedersOf_42 n  q x0 x3 x4 I J = some r → W p l e (rmm 2 43) s m args below meth c H locs 0 0 (QI below args s bs D y r) (F0 m 42 ls []) := by
  intro q
  induction q with
  | zero =>
    intro x0 x3 x4 I J H locs ls hP hS hl h
    have h : (none : Option (Int32 × M2)) = some r := h
    cases h
  | succ q ih =>
    intro x0 x3 x4 I J H locs ls hP hS hl h
    have h : fX5_feedersOf_42 n  (lX5_feedersOf_42 n  q) x0 x3 x4 I J = some r := h
    exact wX5_feedersOf_42 bs D y n  (lX5_feedersOf_42 n  q) r Gc  ih x0 x3 x4 I J H locs ls hP hS hl h
set_option maxHeartbeats 4000000 in
set_option maxRecDepth 100000 in
theorem cX5_feedersOf_ (l : Launch) (bs : Nat) (D : va_G) (y : Y3) (hcb : 44 ≤ y.2.2.2) (n : Nat) (x0 : Int32) (I : MI) (J : MJ) (r : Int32 × M2) (h : fX5_feedersOf n x0 I J = some r) : Met l yX5_feedersOf (.code yX5_feedersOf cX5_feedersOf 5 (some .int) :: gtb) (rmm 2 43) (va_Pc [.int x0, .ref (bs + 1), .ref (bs + 11)] (HB bs D y I J)) (QcI bs D y r) 0 0 (FA bs) := by
  refine Met.ofW (cc := cX5_feedersOf) (maxL := 5) (ret := (some .int)) (by decide) rfl ?_
  intro p e s m args below meth c s₁ B hml hv
  obtain ⟨rfl, hP, hK, hN, hL⟩ := hv
  have hx := B.exec
  have hb := B.bytes
  have hr := B.returns
  have hts0 := atoms_spec (ws := .code yX5_feedersOf cX5_feedersOf 5 (some .int) :: gtb) B.pre
  have hts : ∀ w ∈ gtb, w.before [.int x0, .ref (bs + 1), .ref (bs + 11)].toArray s = true := fun w hw => hts0 w (List.mem_cons_of_mem _ hw)
  have hown : s.vm.findClass RX5 = some m.cls := findClass_of_methodNamed B.named
  have hlocks := B.notSynchronized
  have hS : va_S (FA bs) s.heap s.heap [] := va_S.rf
  have Gc : Gx p s m [.int x0, .ref (bs + 1), .ref (bs + 11)].toArray meth c cX5_feedersOf 5 RX5 bs D y (some .int) 44 := ⟨hx, hb, hml, hown, hts, hK, hN, hL, hr, hlocks, hcb⟩
  have hl := lv_entry [.int x0, .ref (bs + 1), .ref (bs + 11)] (n := 5) (Nat.le_of_ble_eq_true rfl)
  rw [lg_entry_eq]
  generalize (lg_sl [.int x0, .ref (bs + 1), .ref (bs + 11)] ++ List.replicate (5 - (lg_sl [.int x0, .ref (bs + 1), .ref (bs + 11)]).length) Slot.unset).toArray = ls at hl ⊢
  have hl : lv_has ls 5 [(0, .int x0), (1, .ref (bs + 1)), (2, .ref (bs + 11))] := hl
  change W p l e (rmm 2 43) s m [.int x0, .ref (bs + 1), .ref (bs + 11)].toArray below meth c s.heap [] 0 0 (QI below [.int x0, .ref (bs + 1), .ref (bs + 11)].toArray s bs D y r) (F0 m 0 ls [])
  unfold fX5_feedersOf at h
  refine lv_aload_n hx hb dX5_feedersOf_0 rfl (lv_at hl 1 rfl) ?_
  refine g_R (C := RX3) (T := TX3) (N := 11) (ci := 3) 1 0 2 hx hb hts hown hK hP in_X3 rfl hcb okF_1_0 rfc_1_0 fl_45 dX5_feedersOf_1 ?_
  refine lv_iload_n hx hb dX5_feedersOf_4 rfl (lv_at hl 0 rfl) ?_
  obtain ⟨hi5, h⟩ := if_s1 h
  refine a_I 2 hx hb hK hP hcb aln_2 hi5 dX5_feedersOf_5 ?_
  refine lv_iconst (v := (1 : Int32)) hx hb dX5_feedersOf_6 (by decide) ?_
  refine lv_icmp_ne (tgt := 19) hx hb dX5_feedersOf_7 (by decide) (fun c7 => ?_) (fun c7 => ?_)
  · replace h := if_f c7 h
    refine lv_iconst (v := (0 : Int32)) hx hb dX5_feedersOf_19 (by decide) ?_
    refine lv_istore_n (lv' := [(3, .int (0 : Int32)), (0, .int x0), (1, .ref (bs + 1)), (2, .ref (bs + 11))]) hx hb dX5_feedersOf_20 rfl hl (by decide) rfl (fun ls hl => ?_)
    refine lv_aload_n hx hb dX5_feedersOf_21 rfl (lv_at hl 2 rfl) ?_
    refine g_R (C := RX3) (T := TX3) (N := 11) (ci := 3) 1 0 2 hx hb hts hown hK hP in_X3 rfl hcb okF_1_0 rfc_1_0 fl_45 dX5_feedersOf_22 ?_
    refine lv_iload_n hx hb dX5_feedersOf_25 rfl (lv_at hl 1 rfl) ?_
    obtain ⟨hi26, h⟩ := if_s1 h
    refine a_I 2 hx hb hK hP hcb aln_2 hi26 dX5_feedersOf_26 ?_
    refine lv_iconst (v := (2 : Int32)) hx hb dX5_feedersOf_27 (by decide) ?_
    refine lv_icmp_ne (tgt := 71) hx hb dX5_feedersOf_28 (by decide) (fun c28 => ?_) (fun c28 => ?_)
    · replace h := if_f c28 h
      refine lv_iload_n hx hb dX5_feedersOf_71 rfl (lv_at hl 0 rfl) ?_
      exact r_I hx hb hr hlocks hP hK hN hL hS h dX5_feedersOf_72
    · replace h := if_t c28 h
      refine lv_aload_n hx hb dX5_feedersOf_31 rfl (lv_at hl 3 rfl) ?_
      refine lv_iload_n hx hb dX5_feedersOf_32 rfl (lv_at hl 1 rfl) ?_
      obtain ⟨r33, er33, h⟩ := bd_s1 h
      refine c_VI (k := 11) (ci := 7) (As := [.int x0]) (rest := []) hx hb hml hown hts hK hN hL hP hS (cX7_isTable_ l bs D y hcb n x0 I J r33 er33) ok_X7_isTable ov_X7_isTable ml_23 ⟨Nat.le_of_ble_eq_true rfl, Nat.le_of_ble_eq_true rfl⟩ rfl hcb kd_11 hl.1 rfl rfl (Nat.le_of_ble_eq_true rfl) ⟨Nat.zero_le _, Nat.zero_le _⟩ dX5_feedersOf_33 (fun H locs hP hS => ?_)
      refine lv_if_eq (tgt := 71) hx hb dX5_feedersOf_36 (by decide) (fun c36 => ?_) (fun c36 => ?_)
      · replace h := if_t c36 h
        refine lv_iload_n hx hb dX5_feedersOf_71 rfl (lv_at hl 0 rfl) ?_
        exact r_I hx hb hr hlocks hP hK hN hL hS h dX5_feedersOf_72
      · replace h := if_f c36 h
        refine lv_iconst (v := (0 : Int32)) hx hb dX5_feedersOf_39 (by decide) ?_
        refine lv_istore (lv' := [(4, .int (0 : Int32)), (3, .int (0 : Int32)), (0, .int x0), (1, .ref (bs + 1)), (2, .ref (bs + 11))]) hx hb dX5_feedersOf_40 hl (by decide) rfl (fun ls hl => ?_)
        exact vX5_feedersOf_42 bs D y n  r Gc  n x0 (0 : Int32) (0 : Int32) r33.2.1 r33.2.2 _ _ _ hP hS (lv_sub hl [2, 4, 1, 0] rfl) h
  · replace h := if_t c7 h
    refine lv_iconst (v := (1 : Int32)) hx hb dX5_feedersOf_10 (by decide) ?_
    refine lv_aload_n hx hb dX5_feedersOf_11 rfl (lv_at hl 1 rfl) ?_
    refine g_R (C := RX3) (T := TX3) (N := 11) (ci := 3) 1 1 3 hx hb hts hown hK hP in_X3 rfl hcb okF_1_1 rfc_1_1 fl_46 dX5_feedersOf_12 ?_
    refine lv_iload_n hx hb dX5_feedersOf_15 rfl (lv_at hl 0 rfl) ?_
    obtain ⟨hi16, h⟩ := if_s1 h
    refine a_I 3 hx hb hK hP hcb aln_3 hi16 dX5_feedersOf_16 ?_
    refine lv_ishl hx hb dX5_feedersOf_17 ?_
    exact r_I hx hb hr hlocks hP hK hN hL hS h dX5_feedersOf_18
theorem dX5_linkUser_0 : decode cX5_linkUser 0 = .ok (.iconst 0, 1) := by decide +kernel
theorem dX5_linkUser_1 : decode cX5_linkUser 1 = .ok (.istore_n 3, 1) := by decide +kernel
theorem dX5_linkUser_2 : decode cX5_linkUser 2 = .ok (.iload_n 3, 1) := by decide +kernel
theorem dX5_linkUser_3 : decode cX5_linkUser 3 = .ok (.bipush 32, 2) := by decide +kernel
theorem dX5_linkUser_5 : decode cX5_linkUser 5 = .ok (.if_icmp .ge 30, 3) := by decide +kernel
theorem dX5_linkUser_8 : decode cX5_linkUser 8 = .ok (.iload_n 2, 1) := by decide +kernel
theorem dX5_linkUser_9 : decode cX5_linkUser 9 = .ok (.i2l, 1) := by decide +kernel
theorem dX5_linkUser_10 : decode cX5_linkUser 10 = .ok (.iload_n 3, 1) := by decide +kernel
theorem dX5_linkUser_11 : decode cX5_linkUser 11 = .ok (.invokestatic 69, 3) := by decide +kernel
theorem dX5_linkUser_14 : decode cX5_linkUser 14 = .ok (.ifCond .eq 15, 3) := by decide +kernel
theorem dX5_linkUser_17 : decode cX5_linkUser 17 = .ok (.aload_n 0, 1) := by decide +kernel
theorem dX5_linkUser_18 : decode cX5_linkUser 18 = .ok (.getfield 24, 3) := by decide +kernel
theorem dX5_linkUser_21 : decode cX5_linkUser 21 = .ok (.iload_n 3, 1) := by decide +kernel
theorem dX5_linkUser_22 : decode cX5_linkUser 22 = .ok (.dup2, 1) := by decide +kernel
theorem dX5_linkUser_23 : decode cX5_linkUser 23 = .ok (.iaload, 1) := by decide +kernel
theorem dX5_linkUser_24 : decode cX5_linkUser 24 = .ok (.iconst 1, 1) := by decide +kernel
theorem dX5_linkUser_25 : decode cX5_linkUser 25 = .ok (.iload_n 1, 1) := by decide +kernel
theorem dX5_linkUser_26 : decode cX5_linkUser 26 = .ok (.ishl, 1) := by decide +kernel
theorem dX5_linkUser_27 : decode cX5_linkUser 27 = .ok (.ior, 1) := by decide +kernel
theorem dX5_linkUser_28 : decode cX5_linkUser 28 = .ok (.iastore, 1) := by decide +kernel
theorem dX5_linkUser_29 : decode cX5_linkUser 29 = .ok (.iinc 3 1, 3) := by decide +kernel
theorem dX5_linkUser_32 : decode cX5_linkUser 32 = .ok (.goto (-30), 3) := by decide +kernel
theorem dX5_linkUser_35 : decode cX5_linkUser 35 = .ok (.return_, 1) := by decide +kernel
set_option maxHeartbeats 4000000 in
set_option maxRecDepth 100000 in
theorem wX5_linkUser_29 {p : Program} {l : Launch} {e : Env} {s : State} {m : MethodId} {args : Array Value} {below : List Frame} {meth : Method} {c : Code} (bs : Nat) (D : va_G) (y : Y3) (n : Nat) (k2_ : Int32 → Int32 → Int32 → MI → MJ → Option (M2)) (r : M2) (Gc : Gx p s m args meth c cX5_linkUser 4 RX5 bs D y none 44) (hk2_ : ∀ (x1 : Int32) (x2 : Int32) (x3 : Int32) (I : MI) (J : MJ) (H : Heap) (locs : List Loc) (ls : Array Slot), va_P D vwCl (wl bs y I J) H → va_S (FA bs) s.heap H locs → lv_has ls 4 [(0, .ref (bs + 22)), (1, .int x1), (2, .int x2), (3, .int x3)] → k2_ x1 x2 x3 I J = some r → W p l e (rmm 1 22) s m args below meth c H locs 0 0 (QV below args s bs D y r) (F0 m 2 ls [])) (x1 : Int32) (x2 : Int32) (x3 : Int32) (I : MI) (J : MJ) (H : Heap) (locs : List Loc) (ls : Array Slot) (hP : va_P D vwCl (wl bs y I J) H) (hS : va_S (FA bs) s.heap H locs) (hl : lv_has ls 4 [(0, .ref (bs + 22)), (1, .int x1), (2, .int x2), (3, .int x3)]) (h : fX5_linkUser_29 n k2_ x1 x2 x3 I J = some r) : W p l e (rmm 1 22) s m args below meth c H locs 0 0 (QV below args s bs D y r) (F0 m 29 ls []) := by
  obtain ⟨hx, hb, hml, hown, hts, hK, hN, hL, hr, hlocks, hcb⟩ := id Gc
  unfold fX5_linkUser_29 at h
  refine lv_iinc (v := (x3 + (1 : Int32))) (lv' := [(3, .int (x3 + (1 : Int32))), (0, .ref (bs + 22)), (1, .int x1), (2, .int x2)]) hx hb dX5_linkUser_29 hl (k := 3) rfl rfl (by decide) rfl (fun ls hl => ?_)
  refine lv_goto (tgt := 2) hx hb dX5_linkUser_32 (by decide) ?_
  exact hk2_ x1 x2 (x3 + (1 : Int32)) I J _ _ _ hP hS (lv_sub hl [1, 2, 3, 0] rfl) h
set_option maxHeartbeats 4000000 in
set_option maxRecDepth 100000 in
theorem wX5_linkUser_2 {p : Program} {l : Launch} {e : Env} {s : State} {m : MethodId} {args : Array Value} {below : List Frame} {meth : Method} {c : Code} (bs : Nat) (D : va_G) (y : Y3) (n : Nat) (k2_ : Int32 → Int32 → Int32 → MI → MJ → Option (M2)) (r : M2) (Gc : Gx p s m args meth c cX5_linkUser 4 RX5 bs D y none 44) (hk2_ : ∀ (x1 : Int32) (x2 : Int32) (x3 : Int32) (I : MI) (J : MJ) (H : Heap) (locs : List Loc) (ls : Array Slot), va_P D vwCl (wl bs y I J) H → va_S (FA bs) s.heap H locs → lv_has ls 4 [(0, .ref (bs + 22)), (1, .int x1), (2, .int x2), (3, .int x3)] → k2_ x1 x2 x3 I J = some r → W p l e (rmm 1 22) s m args below meth c H locs 0 0 (QV below args s bs D y r) (F0 m 2 ls [])) (x1 : Int32) (x2 : Int32) (x3 : Int32) (I : MI) (J : MJ) (H : Heap) (locs : List Loc) (ls : Array Slot) (hP : va_P D vwCl (wl bs y I J) H) (hS : va_S (FA bs) s.heap H locs) (hl : lv_has ls 4 [(0, .ref (bs + 22)), (1, .int x1), (2, .int x2), (3, .int x3)]) (h : fX5_linkUser_2 n k2_ x1 x2 x3 I J = some r) : W p l e (rmm 1 22) s m args below meth c H locs 0 0 (QV below args s bs D y r) (F0 m 2 ls []) := by
  obtain ⟨hx, hb, hml, hown, hts, hK, hN, hL, hr, hlocks, hcb⟩ := id Gc
  unfold fX5_linkUser_2 at h
  refine lv_iload_n hx hb dX5_linkUser_2 rfl (lv_at hl 3 rfl) ?_
  refine lv_bipush (v := (32 : Int32)) hx hb dX5_linkUser_3 (by decide) ?_
  refine lv_icmp_ge (tgt := 35) hx hb dX5_linkUser_5 (by decide) (fun c5 => ?_) (fun c5 => ?_)
  · replace h := if_t c5 h
    exact r_V hx hb hr hlocks hP hK hN hL hS h dX5_linkUser_35
  · replace h := if_f c5 h
    refine lv_iload_n hx hb dX5_linkUser_8 rfl (lv_at hl 2 rfl) ?_
    refine lv_i2l (v := (x2).toInt64) hx hb dX5_linkUser_9 rfl ?_
    refine lv_iload_n hx hb dX5_linkUser_10 rfl (lv_at hl 3 rfl) ?_
    obtain ⟨r11, er11, h⟩ := bd_s1 h
    refine c_NI (As := [.long (x2).toInt64, .int x3]) (rest := []) hx hb hml hown hts hK hN hL hP hS (cX9_hasBit_ l bs D y hcb n (x2).toInt64 x3 I J r11 er11) ok_X9_hasBit ov_X9_hasBit mn_2 ⟨Nat.le_of_ble_eq_true rfl, Nat.le_of_ble_eq_true rfl⟩ hl.1 rfl rfl (Nat.le_of_ble_eq_true rfl) ⟨Nat.zero_le _, Nat.zero_le _⟩ dX5_linkUser_11 (fun H locs hP hS => ?_)
    refine lv_if_eq (tgt := 29) hx hb dX5_linkUser_14 (by decide) (fun c14 => ?_) (fun c14 => ?_)
    · replace h := if_t c14 h
      exact wX5_linkUser_29 bs D y n k2_ r Gc hk2_ x1 x2 x3 r11.2.1 r11.2.2 _ _ _ hP hS (lv_sub hl [0, 1, 2, 3] rfl) h
    · replace h := if_f c14 h
      refine lv_aload_n hx hb dX5_linkUser_17 rfl (lv_at hl 0 rfl) ?_
      refine g_R (C := RX5) (T := TX5) (N := 7) (ci := 5) 22 6 27 hx hb hts hown hK hP in_X5 rfl hcb okF_22_6 rfc_22_6 fl_47 dX5_linkUser_18 ?_
      refine lv_iload_n hx hb dX5_linkUser_21 rfl (lv_at hl 3 rfl) ?_
      refine lv_dup2_11 hx hb dX5_linkUser_22 rfl rfl ?_
      obtain ⟨hi23, h⟩ := if_s1 h
      refine a_I 27 hx hb hK hP hcb aln_27 hi23 dX5_linkUser_23 ?_
      refine lv_iconst (v := (1 : Int32)) hx hb dX5_linkUser_24 (by decide) ?_
      refine lv_iload_n hx hb dX5_linkUser_25 rfl (lv_at hl 1 rfl) ?_
      refine lv_ishl hx hb dX5_linkUser_26 ?_
      refine lv_ior hx hb dX5_linkUser_27 ?_
      obtain ⟨hi28, h⟩ := if_s1 h
      obtain ⟨I28, eI28, h⟩ := lt_s1 h
      refine t_I 27 eI28 hx hb hK hP hS hcb aln_27 hi28 dX5_linkUser_28 (fun H locs hP hS => ?_)
      exact wX5_linkUser_29 bs D y n k2_ r Gc hk2_ x1 x2 x3 I28 r11.2.2 _ _ _ hP hS (lv_sub hl [0, 1, 2, 3] rfl) h
theorem vX5_linkUser_2 {p : Program} {l : Launch} {e : Env} {s : State} {m : MethodId} {args : Array Value} {below : List Frame} {meth : Method} {c : Code} (bs : Nat) (D : va_G) (y : Y3) (n : Nat) (r : M2) (Gc : Gx p s m args meth c cX5_linkUser 4 RX5 bs D y none 44)  : ∀ (q : Nat) (x1 : Int32) (x2 : Int32) (x3 : Int32) (I : MI) (J : MJ) (H : Heap) (locs : List Loc) (ls : Array Slot), va_P D vwCl (wl bs y I J) H → va_S (FA bs) s.heap H locs → lv_has ls 4 [(0, .ref (bs + 22)), (1, .int x1), (2, .int x2), (3, .int x3)] → lX5_linkUser_2 n  q x1 x2 x3 I J = some r → W p l e (rmm 1 22) s m args below meth c H locs 0 0 (QV below args s bs D y r) (F0 m 2 ls []) := by
  intro q
  induction q with
  | zero =>
    intro x1 x2 x3 I J H locs ls hP hS hl h
    have h : (none : Option (M2)) = some r := h
    cases h
  | succ q ih =>
    intro x1 x2 x3 I J H locs ls hP hS hl h
    have h : fX5_linkUser_2 n  (lX5_linkUser_2 n  q) x1 x2 x3 I J = some r := h
    exact wX5_linkUser_2 bs D y n  (lX5_linkUser_2 n  q) r Gc  ih x1 x2 x3 I J H locs ls hP hS hl h
set_option maxHeartbeats 4000000 in
set_option maxRecDepth 100000 in
theorem cX5_linkUser_ (l : Launch) (bs : Nat) (D : va_G) (y : Y3) (hcb : 44 ≤ y.2.2.2) (n : Nat) (x1 : Int32) (x2 : Int32) (I : MI) (J : MJ) (r : M2) (h : fX5_linkUser n x1 x2 I J = some r) : Met l yX5_linkUser (.code yX5_linkUser cX5_linkUser 4 none :: gtb) (rmm 1 22) (va_Pc [.ref (bs + 22), .int x1, .int x2] (HB bs D y I J)) (QcV bs D y r) 0 0 (FA bs) := by
  refine Met.ofW (cc := cX5_linkUser) (maxL := 4) (ret := none) (by decide) rfl ?_
  intro p e s m args below meth c s₁ B hml hv
  obtain ⟨rfl, hP, hK, hN, hL⟩ := hv
  have hx := B.exec
  have hb := B.bytes
  have hr := B.returns
  have hts0 := atoms_spec (ws := .code yX5_linkUser cX5_linkUser 4 none :: gtb) B.pre
  have hts : ∀ w ∈ gtb, w.before [.ref (bs + 22), .int x1, .int x2].toArray s = true := fun w hw => hts0 w (List.mem_cons_of_mem _ hw)
  have hown : s.vm.findClass RX5 = some m.cls := findClass_of_methodNamed B.named
  have hlocks := B.notSynchronized
  have hS : va_S (FA bs) s.heap s.heap [] := va_S.rf
  have Gc : Gx p s m [.ref (bs + 22), .int x1, .int x2].toArray meth c cX5_linkUser 4 RX5 bs D y none 44 := ⟨hx, hb, hml, hown, hts, hK, hN, hL, hr, hlocks, hcb⟩
  have hl := lv_entry [.ref (bs + 22), .int x1, .int x2] (n := 4) (Nat.le_of_ble_eq_true rfl)
  rw [lg_entry_eq]
  generalize (lg_sl [.ref (bs + 22), .int x1, .int x2] ++ List.replicate (4 - (lg_sl [.ref (bs + 22), .int x1, .int x2]).length) Slot.unset).toArray = ls at hl ⊢
  have hl : lv_has ls 4 [(0, .ref (bs + 22)), (1, .int x1), (2, .int x2)] := hl
  change W p l e (rmm 1 22) s m [.ref (bs + 22), .int x1, .int x2].toArray below meth c s.heap [] 0 0 (QV below [.ref (bs + 22), .int x1, .int x2].toArray s bs D y r) (F0 m 0 ls [])
  unfold fX5_linkUser at h
  refine lv_iconst (v := (0 : Int32)) hx hb dX5_linkUser_0 (by decide) ?_
  refine lv_istore_n (lv' := [(3, .int (0 : Int32)), (0, .ref (bs + 22)), (1, .int x1), (2, .int x2)]) hx hb dX5_linkUser_1 rfl hl (by decide) rfl (fun ls hl => ?_)
  exact vX5_linkUser_2 bs D y n  r Gc  n x1 x2 (0 : Int32) I J _ _ _ hP hS (lv_sub hl [1, 2, 3, 0] rfl) h
theorem dX5_gather_0 : decode cX5_gather 0 = .ok (.aload_n 0, 1) := by decide +kernel
theorem dX5_gather_1 : decode cX5_gather 1 = .ok (.iconst 0, 1) := by decide +kernel
theorem dX5_gather_2 : decode cX5_gather 2 = .ok (.putfield 27, 3) := by decide +kernel
theorem dX5_gather_5 : decode cX5_gather 5 = .ok (.aload_n 0, 1) := by decide +kernel
theorem dX5_gather_6 : decode cX5_gather 6 = .ok (.getfield 24, 3) := by decide +kernel
theorem dX5_gather_9 : decode cX5_gather 9 = .ok (.iconst 0, 1) := by decide +kernel
theorem dX5_gather_10 : decode cX5_gather 10 = .ok (.invokestatic 31, 3) := by decide +kernel
theorem dX5_gather_13 : decode cX5_gather 13 = .ok (.iconst 0, 1) := by decide +kernel
theorem dX5_gather_14 : decode cX5_gather 14 = .ok (.istore_n 3, 1) := by decide +kernel
theorem dX5_gather_15 : decode cX5_gather 15 = .ok (.iload_n 3, 1) := by decide +kernel
theorem dX5_gather_16 : decode cX5_gather 16 = .ok (.aload_n 1, 1) := by decide +kernel
theorem dX5_gather_17 : decode cX5_gather 17 = .ok (.getfield 37, 3) := by decide +kernel
theorem dX5_gather_20 : decode cX5_gather 20 = .ok (.if_icmp .ge 70, 3) := by decide +kernel
theorem dX5_gather_23 : decode cX5_gather 23 = .ok (.aload_n 0, 1) := by decide +kernel
theorem dX5_gather_24 : decode cX5_gather 24 = .ok (.getfield 21, 3) := by decide +kernel
theorem dX5_gather_27 : decode cX5_gather 27 = .ok (.iload_n 3, 1) := by decide +kernel
theorem dX5_gather_28 : decode cX5_gather 28 = .ok (.iload_n 3, 1) := by decide +kernel
theorem dX5_gather_29 : decode cX5_gather 29 = .ok (.aload_n 1, 1) := by decide +kernel
theorem dX5_gather_30 : decode cX5_gather 30 = .ok (.aload_n 2, 1) := by decide +kernel
theorem dX5_gather_31 : decode cX5_gather 31 = .ok (.invokestatic 42, 3) := by decide +kernel
theorem dX5_gather_34 : decode cX5_gather 34 = .ok (.iastore, 1) := by decide +kernel
theorem dX5_gather_35 : decode cX5_gather 35 = .ok (.aload_n 0, 1) := by decide +kernel
theorem dX5_gather_36 : decode cX5_gather 36 = .ok (.iload_n 3, 1) := by decide +kernel
theorem dX5_gather_37 : decode cX5_gather 37 = .ok (.aload_n 0, 1) := by decide +kernel
theorem dX5_gather_38 : decode cX5_gather 38 = .ok (.getfield 21, 3) := by decide +kernel
theorem dX5_gather_41 : decode cX5_gather 41 = .ok (.iload_n 3, 1) := by decide +kernel
theorem dX5_gather_42 : decode cX5_gather 42 = .ok (.iaload, 1) := by decide +kernel
theorem dX5_gather_43 : decode cX5_gather 43 = .ok (.invokevirtual 46, 3) := by decide +kernel
theorem dX5_gather_46 : decode cX5_gather 46 = .ok (.aload_n 1, 1) := by decide +kernel
theorem dX5_gather_47 : decode cX5_gather 47 = .ok (.getfield 50, 3) := by decide +kernel
theorem dX5_gather_50 : decode cX5_gather 50 = .ok (.iload_n 3, 1) := by decide +kernel
theorem dX5_gather_51 : decode cX5_gather 51 = .ok (.iaload, 1) := by decide +kernel
theorem dX5_gather_52 : decode cX5_gather 52 = .ok (.iconst 2, 1) := by decide +kernel
theorem dX5_gather_53 : decode cX5_gather 53 = .ok (.if_icmp .ne 11, 3) := by decide +kernel
theorem dX5_gather_56 : decode cX5_gather 56 = .ok (.aload_n 2, 1) := by decide +kernel
theorem dX5_gather_57 : decode cX5_gather 57 = .ok (.iload_n 3, 1) := by decide +kernel
theorem dX5_gather_58 : decode cX5_gather 58 = .ok (.invokevirtual 53, 3) := by decide +kernel
theorem dX5_gather_61 : decode cX5_gather 61 = .ok (.ifCond .eq 23, 3) := by decide +kernel
theorem dX5_gather_64 : decode cX5_gather 64 = .ok (.aload_n 0, 1) := by decide +kernel
theorem dX5_gather_65 : decode cX5_gather 65 = .ok (.getfield 9, 3) := by decide +kernel
theorem dX5_gather_68 : decode cX5_gather 68 = .ok (.aload_n 0, 1) := by decide +kernel
theorem dX5_gather_69 : decode cX5_gather 69 = .ok (.getfield 27, 3) := by decide +kernel
theorem dX5_gather_72 : decode cX5_gather 72 = .ok (.iload_n 3, 1) := by decide +kernel
theorem dX5_gather_73 : decode cX5_gather 73 = .ok (.iastore, 1) := by decide +kernel
theorem dX5_gather_74 : decode cX5_gather 74 = .ok (.aload_n 0, 1) := by decide +kernel
theorem dX5_gather_75 : decode cX5_gather 75 = .ok (.dup, 1) := by decide +kernel
theorem dX5_gather_76 : decode cX5_gather 76 = .ok (.getfield 27, 3) := by decide +kernel
theorem dX5_gather_79 : decode cX5_gather 79 = .ok (.iconst 1, 1) := by decide +kernel
theorem dX5_gather_80 : decode cX5_gather 80 = .ok (.iadd, 1) := by decide +kernel
theorem dX5_gather_81 : decode cX5_gather 81 = .ok (.putfield 27, 3) := by decide +kernel
theorem dX5_gather_84 : decode cX5_gather 84 = .ok (.iinc 3 1, 3) := by decide +kernel
theorem dX5_gather_87 : decode cX5_gather 87 = .ok (.goto (-72), 3) := by decide +kernel
theorem dX5_gather_90 : decode cX5_gather 90 = .ok (.return_, 1) := by decide +kernel
set_option maxHeartbeats 4000000 in
set_option maxRecDepth 100000 in
theorem wX5_gather_84 {p : Program} {l : Launch} {e : Env} {s : State} {m : MethodId} {args : Array Value} {below : List Frame} {meth : Method} {c : Code} (bs : Nat) (D : va_G) (y : Y3) (n : Nat) (k15_ : Int32 → MI → MJ → Option (M2)) (r : M2) (Gc : Gx p s m args meth c cX5_gather 4 RX5 bs D y none 44) (hk15_ : ∀ (x3 : Int32) (I : MI) (J : MJ) (H : Heap) (locs : List Loc) (ls : Array Slot), va_P D vwCl (wl bs y I J) H → va_S (FA bs) s.heap H locs → lv_has ls 4 [(0, .ref (bs + 22)), (1, .ref (bs + 1)), (2, .ref (bs + 11)), (3, .int x3)] → k15_ x3 I J = some r → W p l e (rmm 3 67) s m args below meth c H locs 0 0 (QV below args s bs D y r) (F0 m 15 ls [])) (x3 : Int32) (I : MI) (J : MJ) (H : Heap) (locs : List Loc) (ls : Array Slot) (hP : va_P D vwCl (wl bs y I J) H) (hS : va_S (FA bs) s.heap H locs) (hl : lv_has ls 4 [(0, .ref (bs + 22)), (1, .ref (bs + 1)), (2, .ref (bs + 11)), (3, .int x3)]) (h : fX5_gather_84 n k15_ x3 I J = some r) : W p l e (rmm 3 67) s m args below meth c H locs 0 0 (QV below args s bs D y r) (F0 m 84 ls []) := by
  obtain ⟨hx, hb, hml, hown, hts, hK, hN, hL, hr, hlocks, hcb⟩ := id Gc
  unfold fX5_gather_84 at h
  refine lv_iinc (v := (x3 + (1 : Int32))) (lv' := [(3, .int (x3 + (1 : Int32))), (0, .ref (bs + 22)), (1, .ref (bs + 1)), (2, .ref (bs + 11))]) hx hb dX5_gather_84 hl (k := 3) rfl rfl (by decide) rfl (fun ls hl => ?_)
  refine lv_goto (tgt := 15) hx hb dX5_gather_87 (by decide) ?_
  exact hk15_ (x3 + (1 : Int32)) I J _ _ _ hP hS (lv_sub hl [1, 2, 3, 0] rfl) h
set_option maxHeartbeats 4000000 in
set_option maxRecDepth 100000 in
theorem wX5_gather_64 {p : Program} {l : Launch} {e : Env} {s : State} {m : MethodId} {args : Array Value} {below : List Frame} {meth : Method} {c : Code} (bs : Nat) (D : va_G) (y : Y3) (n : Nat) (k15_ : Int32 → MI → MJ → Option (M2)) (r : M2) (Gc : Gx p s m args meth c cX5_gather 4 RX5 bs D y none 44) (hk15_ : ∀ (x3 : Int32) (I : MI) (J : MJ) (H : Heap) (locs : List Loc) (ls : Array Slot), va_P D vwCl (wl bs y I J) H → va_S (FA bs) s.heap H locs → lv_has ls 4 [(0, .ref (bs + 22)), (1, .ref (bs + 1)), (2, .ref (bs + 11)), (3, .int x3)] → k15_ x3 I J = some r → W p l e (rmm 3 67) s m args below meth c H locs 0 0 (QV below args s bs D y r) (F0 m 15 ls [])) (x3 : Int32) (I : MI) (J : MJ) (H : Heap) (locs : List Loc) (ls : Array Slot) (hP : va_P D vwCl (wl bs y I J) H) (hS : va_S (FA bs) s.heap H locs) (hl : lv_has ls 4 [(0, .ref (bs + 22)), (1, .ref (bs + 1)), (2, .ref (bs + 11)), (3, .int x3)]) (h : fX5_gather_64 n k15_ x3 I J = some r) : W p l e (rmm 3 67) s m args below meth c H locs 0 0 (QV below args s bs D y r) (F0 m 64 ls []) := by
  obtain ⟨hx, hb, hml, hown, hts, hK, hN, hL, hr, hlocks, hcb⟩ := id Gc
  unfold fX5_gather_64 at h
  refine lv_aload_n hx hb dX5_gather_64 rfl (lv_at hl 0 rfl) ?_
  refine g_R (C := RX5) (T := TX5) (N := 7) (ci := 5) 22 2 23 hx hb hts hown hK hP in_X5 rfl hcb okF_22_2 rfc_22_2 fl_48 dX5_gather_65 ?_
  refine lv_aload_n hx hb dX5_gather_68 rfl (lv_at hl 0 rfl) ?_
  refine g_I (C := RX5) (T := TX5) (N := 7) (ci := 5) 22 1 hx hb hts hown hK hP in_X5 rfl hcb okF_22_1 fl_49 dX5_gather_69 ?_
  refine lv_iload_n hx hb dX5_gather_72 rfl (lv_at hl 3 rfl) ?_
  obtain ⟨hi73, h⟩ := if_s1 h
  obtain ⟨I73, eI73, h⟩ := lt_s1 h
  refine t_I 23 eI73 hx hb hK hP hS hcb aln_23 hi73 dX5_gather_73 (fun H locs hP hS => ?_)
  refine lv_aload_n hx hb dX5_gather_74 rfl (lv_at hl 0 rfl) ?_
  refine lv_dup hx hb dX5_gather_75 rfl ?_
  refine g_I (C := RX5) (T := TX5) (N := 7) (ci := 5) 22 1 hx hb hts hown hK hP in_X5 rfl hcb okF_22_1 fl_49 dX5_gather_76 ?_
  refine lv_iconst (v := (1 : Int32)) hx hb dX5_gather_79 (by decide) ?_
  refine lv_iadd hx hb dX5_gather_80 ?_
  obtain ⟨I81, eI81, h⟩ := lt_s1 h
  refine s_I (C := RX5) (T := TX5) (N := 7) (ci := 5) (ty := .int) 22 1 eI81 tyX5 hx hb hts hown hK hP hS in_X5 tyX5_ok nmX5 rfl hcb okF_22_1 fl_49 rfl (by decide +kernel) rfl rfl dX5_gather_81 (fun H locs hP hS => ?_)
  exact wX5_gather_84 bs D y n k15_ r Gc hk15_ x3 I81 J _ _ _ hP hS (lv_sub hl [0, 1, 2, 3] rfl) h
set_option maxHeartbeats 4000000 in
set_option maxRecDepth 100000 in
theorem wX5_gather_15 {p : Program} {l : Launch} {e : Env} {s : State} {m : MethodId} {args : Array Value} {below : List Frame} {meth : Method} {c : Code} (bs : Nat) (D : va_G) (y : Y3) (n : Nat) (k15_ : Int32 → MI → MJ → Option (M2)) (r : M2) (Gc : Gx p s m args meth c cX5_gather 4 RX5 bs D y none 44) (hk15_ : ∀ (x3 : Int32) (I : MI) (J : MJ) (H : Heap) (locs : List Loc) (ls : Array Slot), va_P D vwCl (wl bs y I J) H → va_S (FA bs) s.heap H locs → lv_has ls 4 [(0, .ref (bs + 22)), (1, .ref (bs + 1)), (2, .ref (bs + 11)), (3, .int x3)] → k15_ x3 I J = some r → W p l e (rmm 3 67) s m args below meth c H locs 0 0 (QV below args s bs D y r) (F0 m 15 ls [])) (x3 : Int32) (I : MI) (J : MJ) (H : Heap) (locs : List Loc) (ls : Array Slot) (hP : va_P D vwCl (wl bs y I J) H) (hS : va_S (FA bs) s.heap H locs) (hl : lv_has ls 4 [(0, .ref (bs + 22)), (1, .ref (bs + 1)), (2, .ref (bs + 11)), (3, .int x3)]) (h : fX5_gather_15 n k15_ x3 I J = some r) : W p l e (rmm 3 67) s m args below meth c H locs 0 0 (QV below args s bs D y r) (F0 m 15 ls []) := by
  obtain ⟨hx, hb, hml, hown, hts, hK, hN, hL, hr, hlocks, hcb⟩ := id Gc
  unfold fX5_gather_15 at h
  refine lv_iload_n hx hb dX5_gather_15 rfl (lv_at hl 3 rfl) ?_
  refine lv_aload_n hx hb dX5_gather_16 rfl (lv_at hl 1 rfl) ?_
  refine g_I (C := RX3) (T := TX3) (N := 11) (ci := 3) 1 5 hx hb hts hown hK hP in_X3 rfl hcb okF_1_5 fl_50 dX5_gather_17 ?_
  refine lv_icmp_ge (tgt := 90) hx hb dX5_gather_20 (by decide) (fun c20 => ?_) (fun c20 => ?_)
  · replace h := if_t c20 h
    exact r_V hx hb hr hlocks hP hK hN hL hS h dX5_gather_90
  · replace h := if_f c20 h
    refine lv_aload_n hx hb dX5_gather_23 rfl (lv_at hl 0 rfl) ?_
    refine g_R (C := RX5) (T := TX5) (N := 7) (ci := 5) 22 5 26 hx hb hts hown hK hP in_X5 rfl hcb okF_22_5 rfc_22_5 fl_51 dX5_gather_24 ?_
    refine lv_iload_n hx hb dX5_gather_27 rfl (lv_at hl 3 rfl) ?_
    refine lv_iload_n hx hb dX5_gather_28 rfl (lv_at hl 3 rfl) ?_
    refine lv_aload_n hx hb dX5_gather_29 rfl (lv_at hl 1 rfl) ?_
    refine lv_aload_n hx hb dX5_gather_30 rfl (lv_at hl 2 rfl) ?_
    obtain ⟨r31, er31, h⟩ := bd_s1 h
    refine c_SI (As := [.int x3, .ref (bs + 1), .ref (bs + 11)]) (rest := [.int x3, .ref (bs + 26)]) hx hb hml hown hts hK hN hL hP hS (cX5_feedersOf_ l bs D y hcb n x3 I J r31 er31) ok_X5_feedersOf ov_X5_feedersOf ml_24 ⟨Nat.le_of_ble_eq_true rfl, Nat.le_of_ble_eq_true rfl⟩ hl.1 rfl rfl (Nat.le_of_ble_eq_true rfl) ⟨Nat.zero_le _, Nat.zero_le _⟩ dX5_gather_31 (fun H locs hP hS => ?_)
    obtain ⟨hi34, h⟩ := if_s1 h
    obtain ⟨I34, eI34, h⟩ := lt_s1 h
    refine t_I 26 eI34 hx hb hK hP hS hcb aln_26 hi34 dX5_gather_34 (fun H locs hP hS => ?_)
    refine lv_aload_n hx hb dX5_gather_35 rfl (lv_at hl 0 rfl) ?_
    refine lv_iload_n hx hb dX5_gather_36 rfl (lv_at hl 3 rfl) ?_
    refine lv_aload_n hx hb dX5_gather_37 rfl (lv_at hl 0 rfl) ?_
    refine g_R (C := RX5) (T := TX5) (N := 7) (ci := 5) 22 5 26 hx hb hts hown hK hP in_X5 rfl hcb okF_22_5 rfc_22_5 fl_51 dX5_gather_38 ?_
    refine lv_iload_n hx hb dX5_gather_41 rfl (lv_at hl 3 rfl) ?_
    obtain ⟨hi42, h⟩ := if_s1 h
    refine a_I 26 hx hb hK hP hcb aln_26 hi42 dX5_gather_42 ?_
    obtain ⟨r43, er43, h⟩ := bd_s1 h
    refine c_VV (k := 22) (ci := 5) (As := [.int x3, .int (I34 26 (x3).toNatClampNeg)]) (rest := []) hx hb hml hown hts hK hN hL hP hS (cX5_linkUser_ l bs D y hcb n x3 (I34 26 (x3).toNatClampNeg) I34 r31.2.2 r43 er43) ok_X5_linkUser ov_X5_linkUser ml_25 ⟨Nat.le_of_ble_eq_true rfl, Nat.le_of_ble_eq_true rfl⟩ rfl hcb kd_22 hl.1 rfl rfl (Nat.le_of_ble_eq_true rfl) ⟨Nat.zero_le _, Nat.zero_le _⟩ dX5_gather_43 (fun H locs hP hS => ?_)
    refine lv_aload_n hx hb dX5_gather_46 rfl (lv_at hl 1 rfl) ?_
    refine g_R (C := RX3) (T := TX3) (N := 11) (ci := 3) 1 0 2 hx hb hts hown hK hP in_X3 rfl hcb okF_1_0 rfc_1_0 fl_45 dX5_gather_47 ?_
    refine lv_iload_n hx hb dX5_gather_50 rfl (lv_at hl 3 rfl) ?_
    obtain ⟨hi51, h⟩ := if_s1 h
    refine a_I 2 hx hb hK hP hcb aln_2 hi51 dX5_gather_51 ?_
    refine lv_iconst (v := (2 : Int32)) hx hb dX5_gather_52 (by decide) ?_
    refine lv_icmp_ne (tgt := 64) hx hb dX5_gather_53 (by decide) (fun c53 => ?_) (fun c53 => ?_)
    · replace h := if_f c53 h
      exact wX5_gather_64 bs D y n k15_ r Gc hk15_ x3 r43.1 r43.2 _ _ _ hP hS (lv_sub hl [0, 1, 2, 3] rfl) h
    · replace h := if_t c53 h
      refine lv_aload_n hx hb dX5_gather_56 rfl (lv_at hl 2 rfl) ?_
      refine lv_iload_n hx hb dX5_gather_57 rfl (lv_at hl 3 rfl) ?_
      obtain ⟨r58, er58, h⟩ := bd_s1 h
      refine c_VI (k := 11) (ci := 7) (As := [.int x3]) (rest := []) hx hb hml hown hts hK hN hL hP hS (cX7_isTable_ l bs D y hcb n x3 r43.1 r43.2 r58 er58) ok_X7_isTable ov_X7_isTable ml_23 ⟨Nat.le_of_ble_eq_true rfl, Nat.le_of_ble_eq_true rfl⟩ rfl hcb kd_11 hl.1 rfl rfl (Nat.le_of_ble_eq_true rfl) ⟨Nat.zero_le _, Nat.zero_le _⟩ dX5_gather_58 (fun H locs hP hS => ?_)
      refine lv_if_eq (tgt := 84) hx hb dX5_gather_61 (by decide) (fun c61 => ?_) (fun c61 => ?_)
      · replace h := if_t c61 h
        exact wX5_gather_84 bs D y n k15_ r Gc hk15_ x3 r58.2.1 r58.2.2 _ _ _ hP hS (lv_sub hl [0, 1, 2, 3] rfl) h
      · replace h := if_f c61 h
        exact wX5_gather_64 bs D y n k15_ r Gc hk15_ x3 r58.2.1 r58.2.2 _ _ _ hP hS (lv_sub hl [0, 1, 2, 3] rfl) h
theorem vX5_gather_15 {p : Program} {l : Launch} {e : Env} {s : State} {m : MethodId} {args : Array Value} {below : List Frame} {meth : Method} {c : Code} (bs : Nat) (D : va_G) (y : Y3) (n : Nat) (r : M2) (Gc : Gx p s m args meth c cX5_gather 4 RX5 bs D y none 44)  : ∀ (q : Nat) (x3 : Int32) (I : MI) (J : MJ) (H : Heap) (locs : List Loc) (ls : Array Slot), va_P D vwCl (wl bs y I J) H → va_S (FA bs) s.heap H locs → lv_has ls 4 [(0, .ref (bs + 22)), (1, .ref (bs + 1)), (2, .ref (bs + 11)), (3, .int x3)] → lX5_gather_15 n  q x3 I J = some r → W p l e (rmm 3 67) s m args below meth c H locs 0 0 (QV below args s bs D y r) (F0 m 15 ls []) := by
  intro q
  induction q with
  | zero =>
    intro x3 I J H locs ls hP hS hl h
    have h : (none : Option (M2)) = some r := h
    cases h
  | succ q ih =>
    intro x3 I J H locs ls hP hS hl h
    have h : fX5_gather_15 n  (lX5_gather_15 n  q) x3 I J = some r := h
    exact wX5_gather_15 bs D y n  (lX5_gather_15 n  q) r Gc  ih x3 I J H locs ls hP hS hl h
set_option maxHeartbeats 4000000 in
set_option maxRecDepth 100000 in
theorem cX5_gather_ (l : Launch) (bs : Nat) (D : va_G) (y : Y3) (hcb : 44 ≤ y.2.2.2) (n : Nat) (I : MI) (J : MJ) (r : M2) (h : fX5_gather n  I J = some r) : Met l yX5_gather (.code yX5_gather cX5_gather 4 none :: gtb) (rmm 3 67) (va_Pc [.ref (bs + 22), .ref (bs + 1), .ref (bs + 11)] (HB bs D y I J)) (QcV bs D y r) 0 0 (FA bs) := by
  refine Met.ofW (cc := cX5_gather) (maxL := 4) (ret := none) (by decide) rfl ?_
  intro p e s m args below meth c s₁ B hml hv
  obtain ⟨rfl, hP, hK, hN, hL⟩ := hv
  have hx := B.exec
  have hb := B.bytes
  have hr := B.returns
  have hts0 := atoms_spec (ws := .code yX5_gather cX5_gather 4 none :: gtb) B.pre
  have hts : ∀ w ∈ gtb, w.before [.ref (bs + 22), .ref (bs + 1), .ref (bs + 11)].toArray s = true := fun w hw => hts0 w (List.mem_cons_of_mem _ hw)
  have hown : s.vm.findClass RX5 = some m.cls := findClass_of_methodNamed B.named
  have hlocks := B.notSynchronized
  have hS : va_S (FA bs) s.heap s.heap [] := va_S.rf
  have Gc : Gx p s m [.ref (bs + 22), .ref (bs + 1), .ref (bs + 11)].toArray meth c cX5_gather 4 RX5 bs D y none 44 := ⟨hx, hb, hml, hown, hts, hK, hN, hL, hr, hlocks, hcb⟩
  have hl := lv_entry [.ref (bs + 22), .ref (bs + 1), .ref (bs + 11)] (n := 4) (Nat.le_of_ble_eq_true rfl)
  rw [lg_entry_eq]
  generalize (lg_sl [.ref (bs + 22), .ref (bs + 1), .ref (bs + 11)] ++ List.replicate (4 - (lg_sl [.ref (bs + 22), .ref (bs + 1), .ref (bs + 11)]).length) Slot.unset).toArray = ls at hl ⊢
  have hl : lv_has ls 4 [(0, .ref (bs + 22)), (1, .ref (bs + 1)), (2, .ref (bs + 11))] := hl
  change W p l e (rmm 3 67) s m [.ref (bs + 22), .ref (bs + 1), .ref (bs + 11)].toArray below meth c s.heap [] 0 0 (QV below [.ref (bs + 22), .ref (bs + 1), .ref (bs + 11)].toArray s bs D y r) (F0 m 0 ls [])
  unfold fX5_gather at h
  refine lv_aload_n hx hb dX5_gather_0 rfl (lv_at hl 0 rfl) ?_
  refine lv_iconst (v := (0 : Int32)) hx hb dX5_gather_1 (by decide) ?_
  obtain ⟨I2, eI2, h⟩ := lt_s1 h
  refine s_I (C := RX5) (T := TX5) (N := 7) (ci := 5) (ty := .int) 22 1 eI2 tyX5 hx hb hts hown hK hP hS in_X5 tyX5_ok nmX5 rfl hcb okF_22_1 fl_49 rfl (by decide +kernel) rfl rfl dX5_gather_2 (fun H locs hP hS => ?_)
  refine lv_aload_n hx hb dX5_gather_5 rfl (lv_at hl 0 rfl) ?_
  refine g_R (C := RX5) (T := TX5) (N := 7) (ci := 5) 22 6 27 hx hb hts hown hK hP in_X5 rfl hcb okF_22_6 rfc_22_6 fl_47 dX5_gather_6 ?_
  refine lv_iconst (v := (0 : Int32)) hx hb dX5_gather_9 (by decide) ?_
  obtain ⟨r10, er10, h⟩ := bd_s1 h
  refine c_SV (As := [.ref (bs + 27), .int (0 : Int32)]) (rest := []) hx hb hml hown hts hK hN hL hP hS (cJ7_fill_53178_ l bs D y hcb n 27 (0 : Int32) I2 J r10 er10) ok_J7_fill_53178 ov_J7_fill_53178 ml_26 ⟨Nat.le_of_ble_eq_true rfl, Nat.le_of_ble_eq_true rfl⟩ hl.1 rfl rfl (Nat.le_of_ble_eq_true rfl) ⟨Nat.zero_le _, Nat.zero_le _⟩ dX5_gather_10 (fun H locs hP hS => ?_)
  refine lv_iconst (v := (0 : Int32)) hx hb dX5_gather_13 (by decide) ?_
  refine lv_istore_n (lv' := [(3, .int (0 : Int32)), (0, .ref (bs + 22)), (1, .ref (bs + 1)), (2, .ref (bs + 11))]) hx hb dX5_gather_14 rfl hl (by decide) rfl (fun ls hl => ?_)
  exact vX5_gather_15 bs D y n  r Gc  n (0 : Int32) r10.1 r10.2 _ _ _ hP hS (lv_sub hl [1, 2, 3, 0] rfl) h
theorem dX5_putAll_0 : decode cX5_putAll 0 = .ok (.aload_n 0, 1) := by decide +kernel
theorem dX5_putAll_1 : decode cX5_putAll 1 = .ok (.getfield 15, 3) := by decide +kernel
theorem dX5_putAll_4 : decode cX5_putAll 4 = .ok (.iconst (-1), 1) := by decide +kernel
theorem dX5_putAll_5 : decode cX5_putAll 5 = .ok (.invokestatic 31, 3) := by decide +kernel
theorem dX5_putAll_8 : decode cX5_putAll 8 = .ok (.aload_n 0, 1) := by decide +kernel
theorem dX5_putAll_9 : decode cX5_putAll 9 = .ok (.getfield 18, 3) := by decide +kernel
theorem dX5_putAll_12 : decode cX5_putAll 12 = .ok (.iconst 0, 1) := by decide +kernel
theorem dX5_putAll_13 : decode cX5_putAll 13 = .ok (.invokestatic 31, 3) := by decide +kernel
theorem dX5_putAll_16 : decode cX5_putAll 16 = .ok (.iconst 0, 1) := by decide +kernel
theorem dX5_putAll_17 : decode cX5_putAll 17 = .ok (.istore_n 2, 1) := by decide +kernel
theorem dX5_putAll_18 : decode cX5_putAll 18 = .ok (.iconst 0, 1) := by decide +kernel
theorem dX5_putAll_19 : decode cX5_putAll 19 = .ok (.istore_n 3, 1) := by decide +kernel
theorem dX5_putAll_20 : decode cX5_putAll 20 = .ok (.iload_n 3, 1) := by decide +kernel
theorem dX5_putAll_21 : decode cX5_putAll 21 = .ok (.aload_n 1, 1) := by decide +kernel
theorem dX5_putAll_22 : decode cX5_putAll 22 = .ok (.getfield 73, 3) := by decide +kernel
theorem dX5_putAll_25 : decode cX5_putAll 25 = .ok (.if_icmp .ge 60, 3) := by decide +kernel
theorem dX5_putAll_28 : decode cX5_putAll 28 = .ok (.aload_n 1, 1) := by decide +kernel
theorem dX5_putAll_29 : decode cX5_putAll 29 = .ok (.iload_n 3, 1) := by decide +kernel
theorem dX5_putAll_30 : decode cX5_putAll 30 = .ok (.invokevirtual 78, 3) := by decide +kernel
theorem dX5_putAll_33 : decode cX5_putAll 33 = .ok (.istore 4, 2) := by decide +kernel
theorem dX5_putAll_35 : decode cX5_putAll 35 = .ok (.iload 4, 2) := by decide +kernel
theorem dX5_putAll_37 : decode cX5_putAll 37 = .ok (.ifCond .le 42, 3) := by decide +kernel
theorem dX5_putAll_40 : decode cX5_putAll 40 = .ok (.iload_n 2, 1) := by decide +kernel
theorem dX5_putAll_41 : decode cX5_putAll 41 = .ok (.aload_n 0, 1) := by decide +kernel
theorem dX5_putAll_42 : decode cX5_putAll 42 = .ok (.getfield 27, 3) := by decide +kernel
theorem dX5_putAll_45 : decode cX5_putAll 45 = .ok (.if_icmp .ge 34, 3) := by decide +kernel
theorem dX5_putAll_48 : decode cX5_putAll 48 = .ok (.aload_n 0, 1) := by decide +kernel
theorem dX5_putAll_49 : decode cX5_putAll 49 = .ok (.getfield 15, 3) := by decide +kernel
theorem dX5_putAll_52 : decode cX5_putAll 52 = .ok (.aload_n 0, 1) := by decide +kernel
theorem dX5_putAll_53 : decode cX5_putAll 53 = .ok (.getfield 9, 3) := by decide +kernel
theorem dX5_putAll_56 : decode cX5_putAll 56 = .ok (.iload_n 2, 1) := by decide +kernel
theorem dX5_putAll_57 : decode cX5_putAll 57 = .ok (.iaload, 1) := by decide +kernel
theorem dX5_putAll_58 : decode cX5_putAll 58 = .ok (.iload_n 3, 1) := by decide +kernel
theorem dX5_putAll_59 : decode cX5_putAll 59 = .ok (.iastore, 1) := by decide +kernel
theorem dX5_putAll_60 : decode cX5_putAll 60 = .ok (.aload_n 0, 1) := by decide +kernel
theorem dX5_putAll_61 : decode cX5_putAll 61 = .ok (.getfield 18, 3) := by decide +kernel
theorem dX5_putAll_64 : decode cX5_putAll 64 = .ok (.iload_n 3, 1) := by decide +kernel
theorem dX5_putAll_65 : decode cX5_putAll 65 = .ok (.dup2, 1) := by decide +kernel
theorem dX5_putAll_66 : decode cX5_putAll 66 = .ok (.iaload, 1) := by decide +kernel
theorem dX5_putAll_67 : decode cX5_putAll 67 = .ok (.iconst 1, 1) := by decide +kernel
theorem dX5_putAll_68 : decode cX5_putAll 68 = .ok (.iadd, 1) := by decide +kernel
theorem dX5_putAll_69 : decode cX5_putAll 69 = .ok (.iastore, 1) := by decide +kernel
theorem dX5_putAll_70 : decode cX5_putAll 70 = .ok (.iinc 2 1, 3) := by decide +kernel
theorem dX5_putAll_73 : decode cX5_putAll 73 = .ok (.iinc 4 (-1), 3) := by decide +kernel
theorem dX5_putAll_76 : decode cX5_putAll 76 = .ok (.goto (-41), 3) := by decide +kernel
theorem dX5_putAll_79 : decode cX5_putAll 79 = .ok (.iinc 3 1, 3) := by decide +kernel
theorem dX5_putAll_82 : decode cX5_putAll 82 = .ok (.goto (-62), 3) := by decide +kernel
theorem dX5_putAll_85 : decode cX5_putAll 85 = .ok (.aload_n 0, 1) := by decide +kernel
theorem dX5_putAll_86 : decode cX5_putAll 86 = .ok (.iconst 1, 1) := by decide +kernel
theorem dX5_putAll_87 : decode cX5_putAll 87 = .ok (.putfield 82, 3) := by decide +kernel
theorem dX5_putAll_90 : decode cX5_putAll 90 = .ok (.return_, 1) := by decide +kernel
set_option maxHeartbeats 4000000 in
set_option maxRecDepth 100000 in
theorem wX5_putAll_79 {p : Program} {l : Launch} {e : Env} {s : State} {m : MethodId} {args : Array Value} {below : List Frame} {meth : Method} {c : Code} (bs : Nat) (D : va_G) (y : Y3) (n : Nat) (k20_ : Int32 → Int32 → MI → MJ → Option (M2)) (r : M2) (Gc : Gx p s m args meth c cX5_putAll 5 RX5 bs D y none 44) (hk20_ : ∀ (x2 : Int32) (x3 : Int32) (I : MI) (J : MJ) (H : Heap) (locs : List Loc) (ls : Array Slot), va_P D vwCl (wl bs y I J) H → va_S (FA bs) s.heap H locs → lv_has ls 5 [(0, .ref (bs + 22)), (1, .ref (bs + 16)), (2, .int x2), (3, .int x3)] → k20_ x2 x3 I J = some r → W p l e (rmm 3 64) s m args below meth c H locs 0 0 (QV below args s bs D y r) (F0 m 20 ls [])) (x2 : Int32) (x3 : Int32) (I : MI) (J : MJ) (H : Heap) (locs : List Loc) (ls : Array Slot) (hP : va_P D vwCl (wl bs y I J) H) (hS : va_S (FA bs) s.heap H locs) (hl : lv_has ls 5 [(0, .ref (bs + 22)), (1, .ref (bs + 16)), (2, .int x2), (3, .int x3)]) (h : fX5_putAll_79 n k20_ x2 x3 I J = some r) : W p l e (rmm 3 64) s m args below meth c H locs 0 0 (QV below args s bs D y r) (F0 m 79 ls []) := by
  obtain ⟨hx, hb, hml, hown, hts, hK, hN, hL, hr, hlocks, hcb⟩ := id Gc
  unfold fX5_putAll_79 at h
  refine lv_iinc (v := (x3 + (1 : Int32))) (lv' := [(3, .int (x3 + (1 : Int32))), (0, .ref (bs + 22)), (1, .ref (bs + 16)), (2, .int x2)]) hx hb dX5_putAll_79 hl (k := 3) rfl rfl (by decide) rfl (fun ls hl => ?_)
  refine lv_goto (tgt := 20) hx hb dX5_putAll_82 (by decide) ?_
  exact hk20_ x2 (x3 + (1 : Int32)) I J _ _ _ hP hS (lv_sub hl [1, 2, 3, 0] rfl) h
set_option maxHeartbeats 4000000 in
set_option maxRecDepth 100000 in
theorem wX5_putAll_35 {p : Program} {l : Launch} {e : Env} {s : State} {m : MethodId} {args : Array Value} {below : List Frame} {meth : Method} {c : Code} (bs : Nat) (D : va_G) (y : Y3) (n : Nat) (k20_ : Int32 → Int32 → MI → MJ → Option (M2)) (k35_ : Int32 → Int32 → Int32 → MI → MJ → Option (M2)) (r : M2) (Gc : Gx p s m args meth c cX5_putAll 5 RX5 bs D y none 44) (hk20_ : ∀ (x2 : Int32) (x3 : Int32) (I : MI) (J : MJ) (H : Heap) (locs : List Loc) (ls : Array Slot), va_P D vwCl (wl bs y I J) H → va_S (FA bs) s.heap H locs → lv_has ls 5 [(0, .ref (bs + 22)), (1, .ref (bs + 16)), (2, .int x2), (3, .int x3)] → k20_ x2 x3 I J = some r → W p l e (rmm 3 64) s m args below meth c H locs 0 0 (QV below args s bs D y r) (F0 m 20 ls [])) (hk35_ : ∀ (x2 : Int32) (x3 : Int32) (x4 : Int32) (I : MI) (J : MJ) (H : Heap) (locs : List Loc) (ls : Array Slot), va_P D vwCl (wl bs y I J) H → va_S (FA bs) s.heap H locs → lv_has ls 5 [(0, .ref (bs + 22)), (1, .ref (bs + 16)), (2, .int x2), (3, .int x3), (4, .int x4)] → k35_ x2 x3 x4 I J = some r → W p l e (rmm 3 64) s m args below meth c H locs 0 0 (QV below args s bs D y r) (F0 m 35 ls [])) (x2 : Int32) (x3 : Int32) (x4 : Int32) (I : MI) (J : MJ) (H : Heap) (locs : List Loc) (ls : Array Slot) (hP : va_P D vwCl (wl bs y I J) H) (hS : va_S (FA bs) s.heap H locs) (hl : lv_has ls 5 [(0, .ref (bs + 22)), (1, .ref (bs + 16)), (2, .int x2), (3, .int x3), (4, .int x4)]) (h : fX5_putAll_35 n k20_ k35_ x2 x3 x4 I J = some r) : W p l e (rmm 3 64) s m args below meth c H locs 0 0 (QV below args s bs D y r) (F0 m 35 ls []) := by
  obtain ⟨hx, hb, hml, hown, hts, hK, hN, hL, hr, hlocks, hcb⟩ := id Gc
  unfold fX5_putAll_35 at h
  refine lv_iload hx hb dX5_putAll_35 (lv_at hl 4 rfl) ?_
  refine lv_if_le (tgt := 79) hx hb dX5_putAll_37 (by decide) (fun c37 => ?_) (fun c37 => ?_)
  · replace h := if_t c37 h
    exact wX5_putAll_79 bs D y n k20_ r Gc hk20_ x2 x3 I J _ _ _ hP hS (lv_sub hl [0, 1, 2, 3] rfl) h
  · replace h := if_f c37 h
    refine lv_iload_n hx hb dX5_putAll_40 rfl (lv_at hl 2 rfl) ?_
    refine lv_aload_n hx hb dX5_putAll_41 rfl (lv_at hl 0 rfl) ?_
    refine g_I (C := RX5) (T := TX5) (N := 7) (ci := 5) 22 1 hx hb hts hown hK hP in_X5 rfl hcb okF_22_1 fl_49 dX5_putAll_42 ?_
    refine lv_icmp_ge (tgt := 79) hx hb dX5_putAll_45 (by decide) (fun c45 => ?_) (fun c45 => ?_)
    · replace h := if_t c45 h
      exact wX5_putAll_79 bs D y n k20_ r Gc hk20_ x2 x3 I J _ _ _ hP hS (lv_sub hl [0, 1, 2, 3] rfl) h
    · replace h := if_f c45 h
      refine lv_aload_n hx hb dX5_putAll_48 rfl (lv_at hl 0 rfl) ?_
      refine g_R (C := RX5) (T := TX5) (N := 7) (ci := 5) 22 3 24 hx hb hts hown hK hP in_X5 rfl hcb okF_22_3 rfc_22_3 fl_52 dX5_putAll_49 ?_
      refine lv_aload_n hx hb dX5_putAll_52 rfl (lv_at hl 0 rfl) ?_
      refine g_R (C := RX5) (T := TX5) (N := 7) (ci := 5) 22 2 23 hx hb hts hown hK hP in_X5 rfl hcb okF_22_2 rfc_22_2 fl_48 dX5_putAll_53 ?_
      refine lv_iload_n hx hb dX5_putAll_56 rfl (lv_at hl 2 rfl) ?_
      obtain ⟨hi57, h⟩ := if_s1 h
      refine a_I 23 hx hb hK hP hcb aln_23 hi57 dX5_putAll_57 ?_
      refine lv_iload_n hx hb dX5_putAll_58 rfl (lv_at hl 3 rfl) ?_
      obtain ⟨hi59, h⟩ := if_s1 h
      obtain ⟨I59, eI59, h⟩ := lt_s1 h
      refine t_I 24 eI59 hx hb hK hP hS hcb aln_24 hi59 dX5_putAll_59 (fun H locs hP hS => ?_)
      refine lv_aload_n hx hb dX5_putAll_60 rfl (lv_at hl 0 rfl) ?_
      refine g_R (C := RX5) (T := TX5) (N := 7) (ci := 5) 22 4 25 hx hb hts hown hK hP in_X5 rfl hcb okF_22_4 rfc_22_4 fl_53 dX5_putAll_61 ?_
      refine lv_iload_n hx hb dX5_putAll_64 rfl (lv_at hl 3 rfl) ?_
      refine lv_dup2_11 hx hb dX5_putAll_65 rfl rfl ?_
      obtain ⟨hi66, h⟩ := if_s1 h
      refine a_I 25 hx hb hK hP hcb aln_25 hi66 dX5_putAll_66 ?_
      refine lv_iconst (v := (1 : Int32)) hx hb dX5_putAll_67 (by decide) ?_
      refine lv_iadd hx hb dX5_putAll_68 ?_
      obtain ⟨hi69, h⟩ := if_s1 h
      obtain ⟨I69, eI69, h⟩ := lt_s1 h
      refine t_I 25 eI69 hx hb hK hP hS hcb aln_25 hi69 dX5_putAll_69 (fun H locs hP hS => ?_)
      refine lv_iinc (v := (x2 + (1 : Int32))) (lv' := [(2, .int (x2 + (1 : Int32))), (0, .ref (bs + 22)), (1, .ref (bs + 16)), (3, .int x3), (4, .int x4)]) hx hb dX5_putAll_70 hl (k := 2) rfl rfl (by decide) rfl (fun ls hl => ?_)
      refine lv_iinc (v := (x4 + (-1 : Int32))) (lv' := [(4, .int (x4 + (-1 : Int32))), (2, .int (x2 + (1 : Int32))), (0, .ref (bs + 22)), (1, .ref (bs + 16)), (3, .int x3)]) hx hb dX5_putAll_73 hl (k := 4) rfl rfl (by decide) rfl (fun ls hl => ?_)
      refine lv_goto (tgt := 35) hx hb dX5_putAll_76 (by decide) ?_
      exact hk35_ (x2 + (1 : Int32)) x3 (x4 + (-1 : Int32)) I69 J _ _ _ hP hS (lv_sub hl [2, 3, 1, 4, 0] rfl) h
theorem vX5_putAll_35 {p : Program} {l : Launch} {e : Env} {s : State} {m : MethodId} {args : Array Value} {below : List Frame} {meth : Method} {c : Code} (bs : Nat) (D : va_G) (y : Y3) (n : Nat) (k20_ : Int32 → Int32 → MI → MJ → Option (M2)) (r : M2) (Gc : Gx p s m args meth c cX5_putAll 5 RX5 bs D y none 44) (hk20_ : ∀ (x2 : Int32) (x3 : Int32) (I : MI) (J : MJ) (H : Heap) (locs : List Loc) (ls : Array Slot), va_P D vwCl (wl bs y I J) H → va_S (FA bs) s.heap H locs → lv_has ls 5 [(0, .ref (bs + 22)), (1, .ref (bs + 16)), (2, .int x2), (3, .int x3)] → k20_ x2 x3 I J = some r → W p l e (rmm 3 64) s m args below meth c H locs 0 0 (QV below args s bs D y r) (F0 m 20 ls [])) : ∀ (q : Nat) (x2 : Int32) (x3 : Int32) (x4 : Int32) (I : MI) (J : MJ) (H : Heap) (locs : List Loc) (ls : Array Slot), va_P D vwCl (wl bs y I J) H → va_S (FA bs) s.heap H locs → lv_has ls 5 [(0, .ref (bs + 22)), (1, .ref (bs + 16)), (2, .int x2), (3, .int x3), (4, .int x4)] → lX5_putAll_35 n k20_ q x2 x3 x4 I J = some r → W p l e (rmm 3 64) s m args below meth c H locs 0 0 (QV below args s bs D y r) (F0 m 35 ls []) := by
  intro q
  induction q with
  | zero =>
    intro x2 x3 x4 I J H locs ls hP hS hl h
    have h : (none : Option (M2)) = some r := h
    cases h
  | succ q ih =>
    intro x2 x3 x4 I J H locs ls hP hS hl h
    have h : fX5_putAll_35 n k20_ (lX5_putAll_35 n k20_ q) x2 x3 x4 I J = some r := h
    exact wX5_putAll_35 bs D y n k20_ (lX5_putAll_35 n k20_ q) r Gc hk20_ ih x2 x3 x4 I J H locs ls hP hS hl h
set_option maxHeartbeats 4000000 in
set_option maxRecDepth 100000 in
theorem wX5_putAll_20 {p : Program} {l : Launch} {e : Env} {s : State} {m : MethodId} {args : Array Value} {below : List Frame} {meth : Method} {c : Code} (bs : Nat) (D : va_G) (y : Y3) (n : Nat) (k20_ : Int32 → Int32 → MI → MJ → Option (M2)) (r : M2) (Gc : Gx p s m args meth c cX5_putAll 5 RX5 bs D y none 44) (hk20_ : ∀ (x2 : Int32) (x3 : Int32) (I : MI) (J : MJ) (H : Heap) (locs : List Loc) (ls : Array Slot), va_P D vwCl (wl bs y I J) H → va_S (FA bs) s.heap H locs → lv_has ls 5 [(0, .ref (bs + 22)), (1, .ref (bs + 16)), (2, .int x2), (3, .int x3)] → k20_ x2 x3 I J = some r → W p l e (rmm 3 64) s m args below meth c H locs 0 0 (QV below args s bs D y r) (F0 m 20 ls [])) (x2 : Int32) (x3 : Int32) (I : MI) (J : MJ) (H : Heap) (locs : List Loc) (ls : Array Slot) (hP : va_P D vwCl (wl bs y I J) H) (hS : va_S (FA bs) s.heap H locs) (hl : lv_has ls 5 [(0, .ref (bs + 22)), (1, .ref (bs + 16)), (2, .int x2), (3, .int x3)]) (h : fX5_putAll_20 n k20_ x2 x3 I J = some r) : W p l e (rmm 3 64) s m args below meth c H locs 0 0 (QV below args s bs D y r) (F0 m 20 ls []) := by
  obtain ⟨hx, hb, hml, hown, hts, hK, hN, hL, hr, hlocks, hcb⟩ := id Gc
  unfold fX5_putAll_20 at h
  refine lv_iload_n hx hb dX5_putAll_20 rfl (lv_at hl 3 rfl) ?_
  refine lv_aload_n hx hb dX5_putAll_21 rfl (lv_at hl 1 rfl) ?_
  refine g_I (C := RX2) (T := TX2) (N := 10) (ci := 2) 16 1 hx hb hts hown hK hP in_X2 rfl hcb okF_16_1 fl_54 dX5_putAll_22 ?_
  refine lv_icmp_ge (tgt := 85) hx hb dX5_putAll_25 (by decide) (fun c25 => ?_) (fun c25 => ?_)
  · replace h := if_t c25 h
    refine lv_aload_n hx hb dX5_putAll_85 rfl (lv_at hl 0 rfl) ?_
    refine lv_iconst (v := (1 : Int32)) hx hb dX5_putAll_86 (by decide) ?_
    obtain ⟨I87, eI87, h⟩ := lt_s1 h
    refine s_I (C := RX5) (T := TX5) (N := 7) (ci := 5) (ty := .boolean) 22 0 eI87 tyX5 hx hb hts hown hK hP hS in_X5 tyX5_ok nmX5 rfl hcb okF_22_0 fl_55 rfl (by decide +kernel) (by decide) rfl dX5_putAll_87 (fun H locs hP hS => ?_)
    exact r_V hx hb hr hlocks hP hK hN hL hS h dX5_putAll_90
  · replace h := if_f c25 h
    refine lv_aload_n hx hb dX5_putAll_28 rfl (lv_at hl 1 rfl) ?_
    refine lv_iload_n hx hb dX5_putAll_29 rfl (lv_at hl 3 rfl) ?_
    obtain ⟨r30, er30, h⟩ := bd_s1 h
    refine c_VI (k := 16) (ci := 2) (As := [.int x3]) (rest := []) hx hb hml hown hts hK hN hL hP hS (cX2_roomOf_ l bs D y hcb n x3 I J r30 er30) ok_X2_roomOf ov_X2_roomOf ml_27 ⟨Nat.le_of_ble_eq_true rfl, Nat.le_of_ble_eq_true rfl⟩ rfl hcb kd_16 hl.1 rfl rfl (Nat.le_of_ble_eq_true rfl) ⟨Nat.zero_le _, Nat.zero_le _⟩ dX5_putAll_30 (fun H locs hP hS => ?_)
    obtain ⟨v33, ev33, h⟩ := lt_s1 h
    refine top_i ev33 ?_
    refine lv_istore (lv' := [(4, .int v33), (0, .ref (bs + 22)), (1, .ref (bs + 16)), (2, .int x2), (3, .int x3)]) hx hb dX5_putAll_33 hl (by decide) rfl (fun ls hl => ?_)
    exact vX5_putAll_35 bs D y n k20_ r Gc hk20_ n x2 x3 v33 r30.2.1 r30.2.2 _ _ _ hP hS (lv_sub hl [1, 2, 3, 4, 0] rfl) h
theorem vX5_putAll_20 {p : Program} {l : Launch} {e : Env} {s : State} {m : MethodId} {args : Array Value} {below : List Frame} {meth : Method} {c : Code} (bs : Nat) (D : va_G) (y : Y3) (n : Nat) (r : M2) (Gc : Gx p s m args meth c cX5_putAll 5 RX5 bs D y none 44)  : ∀ (q : Nat) (x2 : Int32) (x3 : Int32) (I : MI) (J : MJ) (H : Heap) (locs : List Loc) (ls : Array Slot), va_P D vwCl (wl bs y I J) H → va_S (FA bs) s.heap H locs → lv_has ls 5 [(0, .ref (bs + 22)), (1, .ref (bs + 16)), (2, .int x2), (3, .int x3)] → lX5_putAll_20 n  q x2 x3 I J = some r → W p l e (rmm 3 64) s m args below meth c H locs 0 0 (QV below args s bs D y r) (F0 m 20 ls []) := by
  intro q
  induction q with
  | zero =>
    intro x2 x3 I J H locs ls hP hS hl h
    have h : (none : Option (M2)) = some r := h
    cases h
  | succ q ih =>
    intro x2 x3 I J H locs ls hP hS hl h
    have h : fX5_putAll_20 n  (lX5_putAll_20 n  q) x2 x3 I J = some r := h
    exact wX5_putAll_20 bs D y n  (lX5_putAll_20 n  q) r Gc  ih x2 x3 I J H locs ls hP hS hl h
set_option maxHeartbeats 4000000 in
set_option maxRecDepth 100000 in
theorem cX5_putAll_ (l : Launch) (bs : Nat) (D : va_G) (y : Y3) (hcb : 44 ≤ y.2.2.2) (n : Nat) (I : MI) (J : MJ) (r : M2) (h : fX5_putAll n  I J = some r) : Met l yX5_putAll (.code yX5_putAll cX5_putAll 5 none :: gtb) (rmm 3 64) (va_Pc [.ref (bs + 22), .ref (bs + 16)] (HB bs D y I J)) (QcV bs D y r) 0 0 (FA bs) := by
  refine Met.ofW (cc := cX5_putAll) (maxL := 5) (ret := none) (by decide) rfl ?_
  intro p e s m args below meth c s₁ B hml hv
  obtain ⟨rfl, hP, hK, hN, hL⟩ := hv
  have hx := B.exec
  have hb := B.bytes
  have hr := B.returns
  have hts0 := atoms_spec (ws := .code yX5_putAll cX5_putAll 5 none :: gtb) B.pre
  have hts : ∀ w ∈ gtb, w.before [.ref (bs + 22), .ref (bs + 16)].toArray s = true := fun w hw => hts0 w (List.mem_cons_of_mem _ hw)
  have hown : s.vm.findClass RX5 = some m.cls := findClass_of_methodNamed B.named
  have hlocks := B.notSynchronized
  have hS : va_S (FA bs) s.heap s.heap [] := va_S.rf
  have Gc : Gx p s m [.ref (bs + 22), .ref (bs + 16)].toArray meth c cX5_putAll 5 RX5 bs D y none 44 := ⟨hx, hb, hml, hown, hts, hK, hN, hL, hr, hlocks, hcb⟩
  have hl := lv_entry [.ref (bs + 22), .ref (bs + 16)] (n := 5) (Nat.le_of_ble_eq_true rfl)
  rw [lg_entry_eq]
  generalize (lg_sl [.ref (bs + 22), .ref (bs + 16)] ++ List.replicate (5 - (lg_sl [.ref (bs + 22), .ref (bs + 16)]).length) Slot.unset).toArray = ls at hl ⊢
  have hl : lv_has ls 5 [(0, .ref (bs + 22)), (1, .ref (bs + 16))] := hl
  change W p l e (rmm 3 64) s m [.ref (bs + 22), .ref (bs + 16)].toArray below meth c s.heap [] 0 0 (QV below [.ref (bs + 22), .ref (bs + 16)].toArray s bs D y r) (F0 m 0 ls [])
  unfold fX5_putAll at h
  refine lv_aload_n hx hb dX5_putAll_0 rfl (lv_at hl 0 rfl) ?_
  refine g_R (C := RX5) (T := TX5) (N := 7) (ci := 5) 22 3 24 hx hb hts hown hK hP in_X5 rfl hcb okF_22_3 rfc_22_3 fl_52 dX5_putAll_1 ?_
  refine lv_iconst (v := (-1 : Int32)) hx hb dX5_putAll_4 (by decide) ?_
  obtain ⟨r5, er5, h⟩ := bd_s1 h
  refine c_SV (As := [.ref (bs + 24), .int (-1 : Int32)]) (rest := []) hx hb hml hown hts hK hN hL hP hS (cJ7_fill_53178_ l bs D y hcb n 24 (-1 : Int32) I J r5 er5) ok_J7_fill_53178 ov_J7_fill_53178 ml_26 ⟨Nat.le_of_ble_eq_true rfl, Nat.le_of_ble_eq_true rfl⟩ hl.1 rfl rfl (Nat.le_of_ble_eq_true rfl) ⟨Nat.zero_le _, Nat.zero_le _⟩ dX5_putAll_5 (fun H locs hP hS => ?_)
  refine lv_aload_n hx hb dX5_putAll_8 rfl (lv_at hl 0 rfl) ?_
  refine g_R (C := RX5) (T := TX5) (N := 7) (ci := 5) 22 4 25 hx hb hts hown hK hP in_X5 rfl hcb okF_22_4 rfc_22_4 fl_53 dX5_putAll_9 ?_
  refine lv_iconst (v := (0 : Int32)) hx hb dX5_putAll_12 (by decide) ?_
  obtain ⟨r13, er13, h⟩ := bd_s1 h
  refine c_SV (As := [.ref (bs + 25), .int (0 : Int32)]) (rest := []) hx hb hml hown hts hK hN hL hP hS (cJ7_fill_53178_ l bs D y hcb n 25 (0 : Int32) r5.1 r5.2 r13 er13) ok_J7_fill_53178 ov_J7_fill_53178 ml_26 ⟨Nat.le_of_ble_eq_true rfl, Nat.le_of_ble_eq_true rfl⟩ hl.1 rfl rfl (Nat.le_of_ble_eq_true rfl) ⟨Nat.zero_le _, Nat.zero_le _⟩ dX5_putAll_13 (fun H locs hP hS => ?_)
  refine lv_iconst (v := (0 : Int32)) hx hb dX5_putAll_16 (by decide) ?_
  refine lv_istore_n (lv' := [(2, .int (0 : Int32)), (0, .ref (bs + 22)), (1, .ref (bs + 16))]) hx hb dX5_putAll_17 rfl hl (by decide) rfl (fun ls hl => ?_)
  refine lv_iconst (v := (0 : Int32)) hx hb dX5_putAll_18 (by decide) ?_
  refine lv_istore_n (lv' := [(3, .int (0 : Int32)), (2, .int (0 : Int32)), (0, .ref (bs + 22)), (1, .ref (bs + 16))]) hx hb dX5_putAll_19 rfl hl (by decide) rfl (fun ls hl => ?_)
  exact vX5_putAll_20 bs D y n  r Gc  n (0 : Int32) (0 : Int32) r13.1 r13.2 _ _ _ hP hS (lv_sub hl [2, 3, 1, 0] rfl) h
theorem dX5_holds_0 : decode cX5_holds 0 = .ok (.aload_n 0, 1) := by decide +kernel
theorem dX5_holds_1 : decode cX5_holds 1 = .ok (.getfield 82, 3) := by decide +kernel
theorem dX5_holds_4 : decode cX5_holds 4 = .ok (.ifCond .eq 17, 3) := by decide +kernel
theorem dX5_holds_7 : decode cX5_holds 7 = .ok (.aload_n 0, 1) := by decide +kernel
theorem dX5_holds_8 : decode cX5_holds 8 = .ok (.getfield 15, 3) := by decide +kernel
theorem dX5_holds_11 : decode cX5_holds 11 = .ok (.iload_n 1, 1) := by decide +kernel
theorem dX5_holds_12 : decode cX5_holds 12 = .ok (.iaload, 1) := by decide +kernel
theorem dX5_holds_13 : decode cX5_holds 13 = .ok (.iconst (-1), 1) := by decide +kernel
theorem dX5_holds_14 : decode cX5_holds 14 = .ok (.if_icmp .eq 7, 3) := by decide +kernel
theorem dX5_holds_17 : decode cX5_holds 17 = .ok (.iconst 1, 1) := by decide +kernel
theorem dX5_holds_18 : decode cX5_holds 18 = .ok (.goto 4, 3) := by decide +kernel
theorem dX5_holds_21 : decode cX5_holds 21 = .ok (.iconst 0, 1) := by decide +kernel
theorem dX5_holds_22 : decode cX5_holds 22 = .ok (.ireturn, 1) := by decide +kernel
set_option maxHeartbeats 4000000 in
set_option maxRecDepth 100000 in
theorem cX5_holds_ (l : Launch) (bs : Nat) (D : va_G) (y : Y3) (hcb : 44 ≤ y.2.2.2) (n : Nat) (x1 : Int32) (I : MI) (J : MJ) (r : Int32 × M2) (h : fX5_holds n x1 I J = some r) : Met l yX5_holds (.code yX5_holds cX5_holds 2 (some .boolean) :: gtb) (rmm 0 0) (va_Pc [.ref (bs + 22), .int x1] (HB bs D y I J)) (QcI bs D y r) 0 0 (FA bs) := by
  refine Met.ofW (cc := cX5_holds) (maxL := 2) (ret := (some .boolean)) (by decide) rfl ?_
  intro p e s m args below meth c s₁ B hml hv
  obtain ⟨rfl, hP, hK, hN, hL⟩ := hv
  have hx := B.exec
  have hb := B.bytes
  have hr := B.returns
  have hts0 := atoms_spec (ws := .code yX5_holds cX5_holds 2 (some .boolean) :: gtb) B.pre
  have hts : ∀ w ∈ gtb, w.before [.ref (bs + 22), .int x1].toArray s = true := fun w hw => hts0 w (List.mem_cons_of_mem _ hw)
  have hown : s.vm.findClass RX5 = some m.cls := findClass_of_methodNamed B.named
  have hlocks := B.notSynchronized
  have hS : va_S (FA bs) s.heap s.heap [] := va_S.rf
  have Gc : Gx p s m [.ref (bs + 22), .int x1].toArray meth c cX5_holds 2 RX5 bs D y (some .boolean) 44 := ⟨hx, hb, hml, hown, hts, hK, hN, hL, hr, hlocks, hcb⟩
  have hl := lv_entry [.ref (bs + 22), .int x1] (n := 2) (Nat.le_of_ble_eq_true rfl)
  rw [lg_entry_eq]
  generalize (lg_sl [.ref (bs + 22), .int x1] ++ List.replicate (2 - (lg_sl [.ref (bs + 22), .int x1]).length) Slot.unset).toArray = ls at hl ⊢
  have hl : lv_has ls 2 [(0, .ref (bs + 22)), (1, .int x1)] := hl
  change W p l e (rmm 0 0) s m [.ref (bs + 22), .int x1].toArray below meth c s.heap [] 0 0 (QI below [.ref (bs + 22), .int x1].toArray s bs D y r) (F0 m 0 ls [])
  unfold fX5_holds at h
  refine lv_aload_n hx hb dX5_holds_0 rfl (lv_at hl 0 rfl) ?_
  refine g_I (C := RX5) (T := TX5) (N := 7) (ci := 5) 22 0 hx hb hts hown hK hP in_X5 rfl hcb okF_22_0 fl_55 dX5_holds_1 ?_
  refine lv_if_eq (tgt := 21) hx hb dX5_holds_4 (by decide) (fun c4 => ?_) (fun c4 => ?_)
  · replace h := if_t c4 h
    refine lv_iconst (v := (0 : Int32)) hx hb dX5_holds_21 (by decide) ?_
    exact r_Z hx hb hr hlocks hP hK hN hL hS (by decide) h dX5_holds_22
  · replace h := if_f c4 h
    refine lv_aload_n hx hb dX5_holds_7 rfl (lv_at hl 0 rfl) ?_
    refine g_R (C := RX5) (T := TX5) (N := 7) (ci := 5) 22 3 24 hx hb hts hown hK hP in_X5 rfl hcb okF_22_3 rfc_22_3 fl_52 dX5_holds_8 ?_
    refine lv_iload_n hx hb dX5_holds_11 rfl (lv_at hl 1 rfl) ?_
    obtain ⟨hi12, h⟩ := if_s1 h
    refine a_I 24 hx hb hK hP hcb aln_24 hi12 dX5_holds_12 ?_
    refine lv_iconst (v := (-1 : Int32)) hx hb dX5_holds_13 (by decide) ?_
    refine lv_icmp_eq (tgt := 21) hx hb dX5_holds_14 (by decide) (fun c14 => ?_) (fun c14 => ?_)
    · replace h := if_t c14 h
      refine lv_iconst (v := (0 : Int32)) hx hb dX5_holds_21 (by decide) ?_
      exact r_Z hx hb hr hlocks hP hK hN hL hS (by decide) h dX5_holds_22
    · replace h := if_f c14 h
      refine lv_iconst (v := (1 : Int32)) hx hb dX5_holds_17 (by decide) ?_
      refine lv_goto (tgt := 22) hx hb dX5_holds_18 (by decide) ?_
      exact r_Z hx hb hr hlocks hP hK hN hL hS (by decide) h dX5_holds_22
theorem dX5_hasRoom_0 : decode cX5_hasRoom 0 = .ok (.aload_n 0, 1) := by decide +kernel
theorem dX5_hasRoom_1 : decode cX5_hasRoom 1 = .ok (.getfield 18, 3) := by decide +kernel
theorem dX5_hasRoom_4 : decode cX5_hasRoom 4 = .ok (.iload_n 1, 1) := by decide +kernel
theorem dX5_hasRoom_5 : decode cX5_hasRoom 5 = .ok (.iaload, 1) := by decide +kernel
theorem dX5_hasRoom_6 : decode cX5_hasRoom 6 = .ok (.aload_n 2, 1) := by decide +kernel
theorem dX5_hasRoom_7 : decode cX5_hasRoom 7 = .ok (.iload_n 1, 1) := by decide +kernel
theorem dX5_hasRoom_8 : decode cX5_hasRoom 8 = .ok (.invokevirtual 78, 3) := by decide +kernel
theorem dX5_hasRoom_11 : decode cX5_hasRoom 11 = .ok (.if_icmp .ge 7, 3) := by decide +kernel
theorem dX5_hasRoom_14 : decode cX5_hasRoom 14 = .ok (.iconst 1, 1) := by decide +kernel
theorem dX5_hasRoom_15 : decode cX5_hasRoom 15 = .ok (.goto 4, 3) := by decide +kernel
theorem dX5_hasRoom_18 : decode cX5_hasRoom 18 = .ok (.iconst 0, 1) := by decide +kernel
theorem dX5_hasRoom_19 : decode cX5_hasRoom 19 = .ok (.ireturn, 1) := by decide +kernel
set_option maxHeartbeats 4000000 in
set_option maxRecDepth 100000 in
theorem cX5_hasRoom_ (l : Launch) (bs : Nat) (D : va_G) (y : Y3) (hcb : 44 ≤ y.2.2.2) (n : Nat) (x1 : Int32) (I : MI) (J : MJ) (r : Int32 × M2) (h : fX5_hasRoom n x1 I J = some r) : Met l yX5_hasRoom (.code yX5_hasRoom cX5_hasRoom 3 (some .boolean) :: gtb) (rmm 3 64) (va_Pc [.ref (bs + 22), .int x1, .ref (bs + 16)] (HB bs D y I J)) (QcI bs D y r) 0 0 (FA bs) := by
  refine Met.ofW (cc := cX5_hasRoom) (maxL := 3) (ret := (some .boolean)) (by decide) rfl ?_
  intro p e s m args below meth c s₁ B hml hv
  obtain ⟨rfl, hP, hK, hN, hL⟩ := hv
  have hx := B.exec
  have hb := B.bytes
  have hr := B.returns
  have hts0 := atoms_spec (ws := .code yX5_hasRoom cX5_hasRoom 3 (some .boolean) :: gtb) B.pre
  have hts : ∀ w ∈ gtb, w.before [.ref (bs + 22), .int x1, .ref (bs + 16)].toArray s = true := fun w hw => hts0 w (List.mem_cons_of_mem _ hw)
  have hown : s.vm.findClass RX5 = some m.cls := findClass_of_methodNamed B.named
  have hlocks := B.notSynchronized
  have hS : va_S (FA bs) s.heap s.heap [] := va_S.rf
  have Gc : Gx p s m [.ref (bs + 22), .int x1, .ref (bs + 16)].toArray meth c cX5_hasRoom 3 RX5 bs D y (some .boolean) 44 := ⟨hx, hb, hml, hown, hts, hK, hN, hL, hr, hlocks, hcb⟩
  have hl := lv_entry [.ref (bs + 22), .int x1, .ref (bs + 16)] (n := 3) (Nat.le_of_ble_eq_true rfl)
  rw [lg_entry_eq]
  generalize (lg_sl [.ref (bs + 22), .int x1, .ref (bs + 16)] ++ List.replicate (3 - (lg_sl [.ref (bs + 22), .int x1, .ref (bs + 16)]).length) Slot.unset).toArray = ls at hl ⊢
  have hl : lv_has ls 3 [(0, .ref (bs + 22)), (1, .int x1), (2, .ref (bs + 16))] := hl
  change W p l e (rmm 3 64) s m [.ref (bs + 22), .int x1, .ref (bs + 16)].toArray below meth c s.heap [] 0 0 (QI below [.ref (bs + 22), .int x1, .ref (bs + 16)].toArray s bs D y r) (F0 m 0 ls [])
  unfold fX5_hasRoom at h
  refine lv_aload_n hx hb dX5_hasRoom_0 rfl (lv_at hl 0 rfl) ?_
  refine g_R (C := RX5) (T := TX5) (N := 7) (ci := 5) 22 4 25 hx hb hts hown hK hP in_X5 rfl hcb okF_22_4 rfc_22_4 fl_53 dX5_hasRoom_1 ?_
  refine lv_iload_n hx hb dX5_hasRoom_4 rfl (lv_at hl 1 rfl) ?_
  obtain ⟨hi5, h⟩ := if_s1 h
  refine a_I 25 hx hb hK hP hcb aln_25 hi5 dX5_hasRoom_5 ?_
  refine lv_aload_n hx hb dX5_hasRoom_6 rfl (lv_at hl 2 rfl) ?_
  refine lv_iload_n hx hb dX5_hasRoom_7 rfl (lv_at hl 1 rfl) ?_
  obtain ⟨r8, er8, h⟩ := bd_s1 h
  refine c_VI (k := 16) (ci := 2) (As := [.int x1]) (rest := [.int (I 25 (x1).toNatClampNeg)]) hx hb hml hown hts hK hN hL hP hS (cX2_roomOf_ l bs D y hcb n x1 I J r8 er8) ok_X2_roomOf ov_X2_roomOf ml_27 ⟨Nat.le_of_ble_eq_true rfl, Nat.le_of_ble_eq_true rfl⟩ rfl hcb kd_16 hl.1 rfl rfl (Nat.le_of_ble_eq_true rfl) ⟨Nat.zero_le _, Nat.zero_le _⟩ dX5_hasRoom_8 (fun H locs hP hS => ?_)
  refine lv_icmp_ge (tgt := 18) hx hb dX5_hasRoom_11 (by decide) (fun c11 => ?_) (fun c11 => ?_)
  · replace h := if_t c11 h
    refine lv_iconst (v := (0 : Int32)) hx hb dX5_hasRoom_18 (by decide) ?_
    exact r_Z hx hb hr hlocks hP hK hN hL hS (by decide) h dX5_hasRoom_19
  · replace h := if_f c11 h
    refine lv_iconst (v := (1 : Int32)) hx hb dX5_hasRoom_14 (by decide) ?_
    refine lv_goto (tgt := 19) hx hb dX5_hasRoom_15 (by decide) ?_
    exact r_Z hx hb hr hlocks hP hK hN hL hS (by decide) h dX5_hasRoom_19
theorem dX5_carryOver_0 : decode cX5_carryOver 0 = .ok (.aload_n 0, 1) := by decide +kernel
theorem dX5_carryOver_1 : decode cX5_carryOver 1 = .ok (.getfield 18, 3) := by decide +kernel
theorem dX5_carryOver_4 : decode cX5_carryOver 4 = .ok (.aload_n 0, 1) := by decide +kernel
theorem dX5_carryOver_5 : decode cX5_carryOver 5 = .ok (.getfield 15, 3) := by decide +kernel
theorem dX5_carryOver_8 : decode cX5_carryOver 8 = .ok (.iload_n 1, 1) := by decide +kernel
theorem dX5_carryOver_9 : decode cX5_carryOver 9 = .ok (.iaload, 1) := by decide +kernel
theorem dX5_carryOver_10 : decode cX5_carryOver 10 = .ok (.dup2, 1) := by decide +kernel
theorem dX5_carryOver_11 : decode cX5_carryOver 11 = .ok (.iaload, 1) := by decide +kernel
theorem dX5_carryOver_12 : decode cX5_carryOver 12 = .ok (.iconst 1, 1) := by decide +kernel
theorem dX5_carryOver_13 : decode cX5_carryOver 13 = .ok (.isub, 1) := by decide +kernel
theorem dX5_carryOver_14 : decode cX5_carryOver 14 = .ok (.iastore, 1) := by decide +kernel
theorem dX5_carryOver_15 : decode cX5_carryOver 15 = .ok (.aload_n 0, 1) := by decide +kernel
theorem dX5_carryOver_16 : decode cX5_carryOver 16 = .ok (.getfield 18, 3) := by decide +kernel
theorem dX5_carryOver_19 : decode cX5_carryOver 19 = .ok (.iload_n 2, 1) := by decide +kernel
theorem dX5_carryOver_20 : decode cX5_carryOver 20 = .ok (.dup2, 1) := by decide +kernel
theorem dX5_carryOver_21 : decode cX5_carryOver 21 = .ok (.iaload, 1) := by decide +kernel
theorem dX5_carryOver_22 : decode cX5_carryOver 22 = .ok (.iconst 1, 1) := by decide +kernel
theorem dX5_carryOver_23 : decode cX5_carryOver 23 = .ok (.iadd, 1) := by decide +kernel
theorem dX5_carryOver_24 : decode cX5_carryOver 24 = .ok (.iastore, 1) := by decide +kernel
theorem dX5_carryOver_25 : decode cX5_carryOver 25 = .ok (.aload_n 0, 1) := by decide +kernel
theorem dX5_carryOver_26 : decode cX5_carryOver 26 = .ok (.getfield 15, 3) := by decide +kernel
theorem dX5_carryOver_29 : decode cX5_carryOver 29 = .ok (.iload_n 1, 1) := by decide +kernel
theorem dX5_carryOver_30 : decode cX5_carryOver 30 = .ok (.iload_n 2, 1) := by decide +kernel
theorem dX5_carryOver_31 : decode cX5_carryOver 31 = .ok (.iastore, 1) := by decide +kernel
theorem dX5_carryOver_32 : decode cX5_carryOver 32 = .ok (.return_, 1) := by decide +kernel
set_option maxHeartbeats 4000000 in
set_option maxRecDepth 100000 in
theorem cX5_carryOver_ (l : Launch) (bs : Nat) (D : va_G) (y : Y3) (hcb : 44 ≤ y.2.2.2) (n : Nat) (x1 : Int32) (x2 : Int32) (I : MI) (J : MJ) (r : M2) (h : fX5_carryOver n x1 x2 I J = some r) : Met l yX5_carryOver (.code yX5_carryOver cX5_carryOver 3 none :: gtb) (rmm 0 0) (va_Pc [.ref (bs + 22), .int x1, .int x2] (HB bs D y I J)) (QcV bs D y r) 0 0 (FA bs) := by
  refine Met.ofW (cc := cX5_carryOver) (maxL := 3) (ret := none) (by decide) rfl ?_
  intro p e s m args below meth c s₁ B hml hv
  obtain ⟨rfl, hP, hK, hN, hL⟩ := hv
  have hx := B.exec
  have hb := B.bytes
  have hr := B.returns
  have hts0 := atoms_spec (ws := .code yX5_carryOver cX5_carryOver 3 none :: gtb) B.pre
  have hts : ∀ w ∈ gtb, w.before [.ref (bs + 22), .int x1, .int x2].toArray s = true := fun w hw => hts0 w (List.mem_cons_of_mem _ hw)
  have hown : s.vm.findClass RX5 = some m.cls := findClass_of_methodNamed B.named
  have hlocks := B.notSynchronized
  have hS : va_S (FA bs) s.heap s.heap [] := va_S.rf
  have Gc : Gx p s m [.ref (bs + 22), .int x1, .int x2].toArray meth c cX5_carryOver 3 RX5 bs D y none 44 := ⟨hx, hb, hml, hown, hts, hK, hN, hL, hr, hlocks, hcb⟩
  have hl := lv_entry [.ref (bs + 22), .int x1, .int x2] (n := 3) (Nat.le_of_ble_eq_true rfl)
  rw [lg_entry_eq]
  generalize (lg_sl [.ref (bs + 22), .int x1, .int x2] ++ List.replicate (3 - (lg_sl [.ref (bs + 22), .int x1, .int x2]).length) Slot.unset).toArray = ls at hl ⊢
  have hl : lv_has ls 3 [(0, .ref (bs + 22)), (1, .int x1), (2, .int x2)] := hl
  change W p l e (rmm 0 0) s m [.ref (bs + 22), .int x1, .int x2].toArray below meth c s.heap [] 0 0 (QV below [.ref (bs + 22), .int x1, .int x2].toArray s bs D y r) (F0 m 0 ls [])
  unfold fX5_carryOver at h
  refine lv_aload_n hx hb dX5_carryOver_0 rfl (lv_at hl 0 rfl) ?_
  refine g_R (C := RX5) (T := TX5) (N := 7) (ci := 5) 22 4 25 hx hb hts hown hK hP in_X5 rfl hcb okF_22_4 rfc_22_4 fl_53 dX5_carryOver_1 ?_
  refine lv_aload_n hx hb dX5_carryOver_4 rfl (lv_at hl 0 rfl) ?_
  refine g_R (C := RX5) (T := TX5) (N := 7) (ci := 5) 22 3 24 hx hb hts hown hK hP in_X5 rfl hcb okF_22_3 rfc_22_3 fl_52 dX5_carryOver_5 ?_
  refine lv_iload_n hx hb dX5_carryOver_8 rfl (lv_at hl 1 rfl) ?_
  obtain ⟨hi9, h⟩ := if_s1 h
  refine a_I 24 hx hb hK hP hcb aln_24 hi9 dX5_carryOver_9 ?_
  refine lv_dup2_11 hx hb dX5_carryOver_10 rfl rfl ?_
  obtain ⟨hi11, h⟩ := if_s1 h
  refine a_I 25 hx hb hK hP hcb aln_25 hi11 dX5_carryOver_11 ?_
  refine lv_iconst (v := (1 : Int32)) hx hb dX5_carryOver_12 (by decide) ?_
  refine lv_isub hx hb dX5_carryOver_13 ?_
  obtain ⟨hi14, h⟩ := if_s1 h
  obtain ⟨I14, eI14, h⟩ := lt_s1 h
  refine t_I 25 eI14 hx hb hK hP hS hcb aln_25 hi14 dX5_carryOver_14 (fun H locs hP hS => ?_)
  refine lv_aload_n hx hb dX5_carryOver_15 rfl (lv_at hl 0 rfl) ?_
  refine g_R (C := RX5) (T := TX5) (N := 7) (ci := 5) 22 4 25 hx hb hts hown hK hP in_X5 rfl hcb okF_22_4 rfc_22_4 fl_53 dX5_carryOver_16 ?_
  refine lv_iload_n hx hb dX5_carryOver_19 rfl (lv_at hl 2 rfl) ?_
  refine lv_dup2_11 hx hb dX5_carryOver_20 rfl rfl ?_
  obtain ⟨hi21, h⟩ := if_s1 h
  refine a_I 25 hx hb hK hP hcb aln_25 hi21 dX5_carryOver_21 ?_
  refine lv_iconst (v := (1 : Int32)) hx hb dX5_carryOver_22 (by decide) ?_
  refine lv_iadd hx hb dX5_carryOver_23 ?_
  obtain ⟨hi24, h⟩ := if_s1 h
  obtain ⟨I24, eI24, h⟩ := lt_s1 h
  refine t_I 25 eI24 hx hb hK hP hS hcb aln_25 hi24 dX5_carryOver_24 (fun H locs hP hS => ?_)
  refine lv_aload_n hx hb dX5_carryOver_25 rfl (lv_at hl 0 rfl) ?_
  refine g_R (C := RX5) (T := TX5) (N := 7) (ci := 5) 22 3 24 hx hb hts hown hK hP in_X5 rfl hcb okF_22_3 rfc_22_3 fl_52 dX5_carryOver_26 ?_
  refine lv_iload_n hx hb dX5_carryOver_29 rfl (lv_at hl 1 rfl) ?_
  refine lv_iload_n hx hb dX5_carryOver_30 rfl (lv_at hl 2 rfl) ?_
  obtain ⟨hi31, h⟩ := if_s1 h
  obtain ⟨I31, eI31, h⟩ := lt_s1 h
  refine t_I 24 eI31 hx hb hK hP hS hcb aln_24 hi31 dX5_carryOver_31 (fun H locs hP hS => ?_)
  exact r_V hx hb hr hlocks hP hK hN hL hS h dX5_carryOver_32
theorem dX5_exchange_0 : decode cX5_exchange 0 = .ok (.aload_n 0, 1) := by decide +kernel
theorem dX5_exchange_1 : decode cX5_exchange 1 = .ok (.getfield 15, 3) := by decide +kernel
theorem dX5_exchange_4 : decode cX5_exchange 4 = .ok (.iload_n 1, 1) := by decide +kernel
theorem dX5_exchange_5 : decode cX5_exchange 5 = .ok (.iaload, 1) := by decide +kernel
theorem dX5_exchange_6 : decode cX5_exchange 6 = .ok (.istore_n 3, 1) := by decide +kernel
theorem dX5_exchange_7 : decode cX5_exchange 7 = .ok (.aload_n 0, 1) := by decide +kernel
theorem dX5_exchange_8 : decode cX5_exchange 8 = .ok (.getfield 15, 3) := by decide +kernel
theorem dX5_exchange_11 : decode cX5_exchange 11 = .ok (.iload_n 1, 1) := by decide +kernel
theorem dX5_exchange_12 : decode cX5_exchange 12 = .ok (.aload_n 0, 1) := by decide +kernel
theorem dX5_exchange_13 : decode cX5_exchange 13 = .ok (.getfield 15, 3) := by decide +kernel
theorem dX5_exchange_16 : decode cX5_exchange 16 = .ok (.iload_n 2, 1) := by decide +kernel
theorem dX5_exchange_17 : decode cX5_exchange 17 = .ok (.iaload, 1) := by decide +kernel
theorem dX5_exchange_18 : decode cX5_exchange 18 = .ok (.iastore, 1) := by decide +kernel
theorem dX5_exchange_19 : decode cX5_exchange 19 = .ok (.aload_n 0, 1) := by decide +kernel
theorem dX5_exchange_20 : decode cX5_exchange 20 = .ok (.getfield 15, 3) := by decide +kernel
theorem dX5_exchange_23 : decode cX5_exchange 23 = .ok (.iload_n 2, 1) := by decide +kernel
theorem dX5_exchange_24 : decode cX5_exchange 24 = .ok (.iload_n 3, 1) := by decide +kernel
theorem dX5_exchange_25 : decode cX5_exchange 25 = .ok (.iastore, 1) := by decide +kernel
theorem dX5_exchange_26 : decode cX5_exchange 26 = .ok (.return_, 1) := by decide +kernel
set_option maxHeartbeats 4000000 in
set_option maxRecDepth 100000 in
theorem cX5_exchange_ (l : Launch) (bs : Nat) (D : va_G) (y : Y3) (hcb : 44 ≤ y.2.2.2) (n : Nat) (x1 : Int32) (x2 : Int32) (I : MI) (J : MJ) (r : M2) (h : fX5_exchange n x1 x2 I J = some r) : Met l yX5_exchange (.code yX5_exchange cX5_exchange 4 none :: gtb) (rmm 0 0) (va_Pc [.ref (bs + 22), .int x1, .int x2] (HB bs D y I J)) (QcV bs D y r) 0 0 (FA bs) := by
  refine Met.ofW (cc := cX5_exchange) (maxL := 4) (ret := none) (by decide) rfl ?_
  intro p e s m args below meth c s₁ B hml hv
  obtain ⟨rfl, hP, hK, hN, hL⟩ := hv
  have hx := B.exec
  have hb := B.bytes
  have hr := B.returns
  have hts0 := atoms_spec (ws := .code yX5_exchange cX5_exchange 4 none :: gtb) B.pre
  have hts : ∀ w ∈ gtb, w.before [.ref (bs + 22), .int x1, .int x2].toArray s = true := fun w hw => hts0 w (List.mem_cons_of_mem _ hw)
  have hown : s.vm.findClass RX5 = some m.cls := findClass_of_methodNamed B.named
  have hlocks := B.notSynchronized
  have hS : va_S (FA bs) s.heap s.heap [] := va_S.rf
  have Gc : Gx p s m [.ref (bs + 22), .int x1, .int x2].toArray meth c cX5_exchange 4 RX5 bs D y none 44 := ⟨hx, hb, hml, hown, hts, hK, hN, hL, hr, hlocks, hcb⟩
  have hl := lv_entry [.ref (bs + 22), .int x1, .int x2] (n := 4) (Nat.le_of_ble_eq_true rfl)
  rw [lg_entry_eq]
  generalize (lg_sl [.ref (bs + 22), .int x1, .int x2] ++ List.replicate (4 - (lg_sl [.ref (bs + 22), .int x1, .int x2]).length) Slot.unset).toArray = ls at hl ⊢
  have hl : lv_has ls 4 [(0, .ref (bs + 22)), (1, .int x1), (2, .int x2)] := hl
  change W p l e (rmm 0 0) s m [.ref (bs + 22), .int x1, .int x2].toArray below meth c s.heap [] 0 0 (QV below [.ref (bs + 22), .int x1, .int x2].toArray s bs D y r) (F0 m 0 ls [])
  unfold fX5_exchange at h
  refine lv_aload_n hx hb dX5_exchange_0 rfl (lv_at hl 0 rfl) ?_
  refine g_R (C := RX5) (T := TX5) (N := 7) (ci := 5) 22 3 24 hx hb hts hown hK hP in_X5 rfl hcb okF_22_3 rfc_22_3 fl_52 dX5_exchange_1 ?_
  refine lv_iload_n hx hb dX5_exchange_4 rfl (lv_at hl 1 rfl) ?_
  obtain ⟨hi5, h⟩ := if_s1 h
  refine a_I 24 hx hb hK hP hcb aln_24 hi5 dX5_exchange_5 ?_
  obtain ⟨v6, ev6, h⟩ := lt_s1 h
  refine top_i ev6 ?_
  refine lv_istore_n (lv' := [(3, .int v6), (0, .ref (bs + 22)), (1, .int x1), (2, .int x2)]) hx hb dX5_exchange_6 rfl hl (by decide) rfl (fun ls hl => ?_)
  refine lv_aload_n hx hb dX5_exchange_7 rfl (lv_at hl 1 rfl) ?_
  refine g_R (C := RX5) (T := TX5) (N := 7) (ci := 5) 22 3 24 hx hb hts hown hK hP in_X5 rfl hcb okF_22_3 rfc_22_3 fl_52 dX5_exchange_8 ?_
  refine lv_iload_n hx hb dX5_exchange_11 rfl (lv_at hl 2 rfl) ?_
  refine lv_aload_n hx hb dX5_exchange_12 rfl (lv_at hl 1 rfl) ?_
  refine g_R (C := RX5) (T := TX5) (N := 7) (ci := 5) 22 3 24 hx hb hts hown hK hP in_X5 rfl hcb okF_22_3 rfc_22_3 fl_52 dX5_exchange_13 ?_
  refine lv_iload_n hx hb dX5_exchange_16 rfl (lv_at hl 3 rfl) ?_
  obtain ⟨hi17, h⟩ := if_s1 h
  refine a_I 24 hx hb hK hP hcb aln_24 hi17 dX5_exchange_17 ?_
  obtain ⟨hi18, h⟩ := if_s1 h
  obtain ⟨I18, eI18, h⟩ := lt_s1 h
  refine t_I 24 eI18 hx hb hK hP hS hcb aln_24 hi18 dX5_exchange_18 (fun H locs hP hS => ?_)
  refine lv_aload_n hx hb dX5_exchange_19 rfl (lv_at hl 1 rfl) ?_
  refine g_R (C := RX5) (T := TX5) (N := 7) (ci := 5) 22 3 24 hx hb hts hown hK hP in_X5 rfl hcb okF_22_3 rfc_22_3 fl_52 dX5_exchange_20 ?_
  refine lv_iload_n hx hb dX5_exchange_23 rfl (lv_at hl 3 rfl) ?_
  refine lv_iload_n hx hb dX5_exchange_24 rfl (lv_at hl 0 rfl) ?_
  obtain ⟨hi25, h⟩ := if_s1 h
  obtain ⟨I25, eI25, h⟩ := lt_s1 h
  refine t_I 24 eI25 hx hb hK hP hS hcb aln_24 hi25 dX5_exchange_25 (fun H locs hP hS => ?_)
  exact r_V hx hb hr hlocks hP hK hN hL hS h dX5_exchange_26
theorem dX5_endsOf_0 : decode cX5_endsOf 0 = .ok (.lconst 0, 1) := by decide +kernel
theorem dX5_endsOf_1 : decode cX5_endsOf 1 = .ok (.lstore_n 2, 1) := by decide +kernel
theorem dX5_endsOf_2 : decode cX5_endsOf 2 = .ok (.aload_n 0, 1) := by decide +kernel
theorem dX5_endsOf_3 : decode cX5_endsOf 3 = .ok (.getfield 24, 3) := by decide +kernel
theorem dX5_endsOf_6 : decode cX5_endsOf 6 = .ok (.iload_n 1, 1) := by decide +kernel
theorem dX5_endsOf_7 : decode cX5_endsOf 7 = .ok (.iaload, 1) := by decide +kernel
theorem dX5_endsOf_8 : decode cX5_endsOf 8 = .ok (.istore 4, 2) := by decide +kernel
theorem dX5_endsOf_10 : decode cX5_endsOf 10 = .ok (.iconst 0, 1) := by decide +kernel
theorem dX5_endsOf_11 : decode cX5_endsOf 11 = .ok (.istore 5, 2) := by decide +kernel
theorem dX5_endsOf_13 : decode cX5_endsOf 13 = .ok (.iload 5, 2) := by decide +kernel
theorem dX5_endsOf_15 : decode cX5_endsOf 15 = .ok (.bipush 32, 2) := by decide +kernel
theorem dX5_endsOf_17 : decode cX5_endsOf 17 = .ok (.if_icmp .ge 40, 3) := by decide +kernel
theorem dX5_endsOf_20 : decode cX5_endsOf 20 = .ok (.iload 4, 2) := by decide +kernel
theorem dX5_endsOf_22 : decode cX5_endsOf 22 = .ok (.iload 5, 2) := by decide +kernel
theorem dX5_endsOf_24 : decode cX5_endsOf 24 = .ok (.iushr, 1) := by decide +kernel
theorem dX5_endsOf_25 : decode cX5_endsOf 25 = .ok (.ifCond .eq 32, 3) := by decide +kernel
theorem dX5_endsOf_28 : decode cX5_endsOf 28 = .ok (.iload 4, 2) := by decide +kernel
theorem dX5_endsOf_30 : decode cX5_endsOf 30 = .ok (.i2l, 1) := by decide +kernel
theorem dX5_endsOf_31 : decode cX5_endsOf 31 = .ok (.iload 5, 2) := by decide +kernel
theorem dX5_endsOf_33 : decode cX5_endsOf 33 = .ok (.invokestatic 69, 3) := by decide +kernel
theorem dX5_endsOf_36 : decode cX5_endsOf 36 = .ok (.ifCond .eq 15, 3) := by decide +kernel
theorem dX5_endsOf_39 : decode cX5_endsOf 39 = .ok (.lload_n 2, 1) := by decide +kernel
theorem dX5_endsOf_40 : decode cX5_endsOf 40 = .ok (.lconst 1, 1) := by decide +kernel
theorem dX5_endsOf_41 : decode cX5_endsOf 41 = .ok (.aload_n 0, 1) := by decide +kernel
theorem dX5_endsOf_42 : decode cX5_endsOf 42 = .ok (.getfield 15, 3) := by decide +kernel
theorem dX5_endsOf_45 : decode cX5_endsOf 45 = .ok (.iload 5, 2) := by decide +kernel
theorem dX5_endsOf_47 : decode cX5_endsOf 47 = .ok (.iaload, 1) := by decide +kernel
theorem dX5_endsOf_48 : decode cX5_endsOf 48 = .ok (.lshl, 1) := by decide +kernel
theorem dX5_endsOf_49 : decode cX5_endsOf 49 = .ok (.lor, 1) := by decide +kernel
theorem dX5_endsOf_50 : decode cX5_endsOf 50 = .ok (.lstore_n 2, 1) := by decide +kernel
theorem dX5_endsOf_51 : decode cX5_endsOf 51 = .ok (.iinc 5 1, 3) := by decide +kernel
theorem dX5_endsOf_54 : decode cX5_endsOf 54 = .ok (.goto (-41), 3) := by decide +kernel
theorem dX5_endsOf_57 : decode cX5_endsOf 57 = .ok (.lload_n 2, 1) := by decide +kernel
theorem dX5_endsOf_58 : decode cX5_endsOf 58 = .ok (.lconst 1, 1) := by decide +kernel
theorem dX5_endsOf_59 : decode cX5_endsOf 59 = .ok (.aload_n 0, 1) := by decide +kernel
theorem dX5_endsOf_60 : decode cX5_endsOf 60 = .ok (.getfield 15, 3) := by decide +kernel
theorem dX5_endsOf_63 : decode cX5_endsOf 63 = .ok (.iload_n 1, 1) := by decide +kernel
theorem dX5_endsOf_64 : decode cX5_endsOf 64 = .ok (.iaload, 1) := by decide +kernel
theorem dX5_endsOf_65 : decode cX5_endsOf 65 = .ok (.lshl, 1) := by decide +kernel
theorem dX5_endsOf_66 : decode cX5_endsOf 66 = .ok (.ldc2_w 86, 3) := by decide +kernel
theorem dX5_endsOf_69 : decode cX5_endsOf 69 = .ok (.lxor, 1) := by decide +kernel
theorem dX5_endsOf_70 : decode cX5_endsOf 70 = .ok (.land, 1) := by decide +kernel
theorem dX5_endsOf_71 : decode cX5_endsOf 71 = .ok (.lreturn, 1) := by decide +kernel
set_option maxHeartbeats 4000000 in
set_option maxRecDepth 100000 in
theorem wX5_endsOf_57 {p : Program} {l : Launch} {e : Env} {s : State} {m : MethodId} {args : Array Value} {below : List Frame} {meth : Method} {c : Code} (bs : Nat) (D : va_G) (y : Y3) (n : Nat) (r : Int64 × M2) (Gc : Gx p s m args meth c cX5_endsOf 6 RX5 bs D y (some .long) 44)  (x1 : Int32) (x2 : Int64) (I : MI) (J : MJ) (H : Heap) (locs : List Loc) (ls : Array Slot) (hP : va_P D vwCl (wl bs y I J) H) (hS : va_S (FA bs) s.heap H locs) (hl : lv_has ls 6 [(0, .ref (bs + 22)), (1, .int x1), (2, .long x2)]) (h : fX5_endsOf_57 n  x1 x2 I J = some r) : W p l e (rmm 1 22) s m args below meth c H locs 0 0 (QJ below args s bs D y r) (F0 m 57 ls []) := by
  obtain ⟨hx, hb, hml, hown, hts, hK, hN, hL, hr, hlocks, hcb⟩ := id Gc
  unfold fX5_endsOf_57 at h
  refine lv_lload_n hx hb dX5_endsOf_57 rfl (lv_at hl 2 rfl) ?_
  refine lv_lconst (v := (1 : Int64)) hx hb dX5_endsOf_58 (by decide) ?_
  refine lv_aload_n hx hb dX5_endsOf_59 rfl (lv_at hl 0 rfl) ?_
  refine g_R (C := RX5) (T := TX5) (N := 7) (ci := 5) 22 3 24 hx hb hts hown hK hP in_X5 rfl hcb okF_22_3 rfc_22_3 fl_52 dX5_endsOf_60 ?_
  refine lv_iload_n hx hb dX5_endsOf_63 rfl (lv_at hl 1 rfl) ?_
  obtain ⟨hi64, h⟩ := if_s1 h
  refine a_I 24 hx hb hK hP hcb aln_24 hi64 dX5_endsOf_64 ?_
  refine lv_lshl (v := (shlL (1 : Int64) (I 24 (x1).toNatClampNeg))) hx hb dX5_endsOf_65 rfl ?_
  refine lv_ldc2 hx hb hown (hts _ cl_5) dX5_endsOf_66 ?_
  refine lv_lxor hx hb dX5_endsOf_69 ?_
  refine lv_land hx hb dX5_endsOf_70 ?_
  exact r_J hx hb hr hlocks hP hK hN hL hS h dX5_endsOf_71
set_option maxHeartbeats 4000000 in
set_option maxRecDepth 100000 in
theorem wX5_endsOf_51 {p : Program} {l : Launch} {e : Env} {s : State} {m : MethodId} {args : Array Value} {below : List Frame} {meth : Method} {c : Code} (bs : Nat) (D : va_G) (y : Y3) (n : Nat) (k13_ : Int32 → Int64 → Int32 → Int32 → MI → MJ → Option (Int64 × M2)) (r : Int64 × M2) (Gc : Gx p s m args meth c cX5_endsOf 6 RX5 bs D y (some .long) 44) (hk13_ : ∀ (x1 : Int32) (x2 : Int64) (x4 : Int32) (x5 : Int32) (I : MI) (J : MJ) (H : Heap) (locs : List Loc) (ls : Array Slot), va_P D vwCl (wl bs y I J) H → va_S (FA bs) s.heap H locs → lv_has ls 6 [(0, .ref (bs + 22)), (1, .int x1), (2, .long x2), (4, .int x4), (5, .int x5)] → k13_ x1 x2 x4 x5 I J = some r → W p l e (rmm 1 22) s m args below meth c H locs 0 0 (QJ below args s bs D y r) (F0 m 13 ls [])) (x1 : Int32) (x2 : Int64) (x4 : Int32) (x5 : Int32) (I : MI) (J : MJ) (H : Heap) (locs : List Loc) (ls : Array Slot) (hP : va_P D vwCl (wl bs y I J) H) (hS : va_S (FA bs) s.heap H locs) (hl : lv_has ls 6 [(0, .ref (bs + 22)), (1, .int x1), (2, .long x2), (4, .int x4), (5, .int x5)]) (h : fX5_endsOf_51 n k13_ x1 x2 x4 x5 I J = some r) : W p l e (rmm 1 22) s m args below meth c H locs 0 0 (QJ below args s bs D y r) (F0 m 51 ls []) := by
  obtain ⟨hx, hb, hml, hown, hts, hK, hN, hL, hr, hlocks, hcb⟩ := id Gc
  unfold fX5_endsOf_51 at h
  refine lv_iinc (v := (x5 + (1 : Int32))) (lv' := [(5, .int (x5 + (1 : Int32))), (0, .ref (bs + 22)), (1, .int x1), (2, .long x2), (4, .int x4)]) hx hb dX5_endsOf_51 hl (k := 4) rfl rfl (by decide) rfl (fun ls hl => ?_)
  refine lv_goto (tgt := 13) hx hb dX5_endsOf_54 (by decide) ?_
  exact hk13_ x1 x2 x4 (x5 + (1 : Int32)) I J _ _ _ hP hS (lv_sub hl [1, 2, 3, 4, 0] rfl) h
set_option maxHeartbeats 4000000 in
set_option maxRecDepth 100000 in
theorem wX5_endsOf_13 {p : Program} {l : Launch} {e : Env} {s : State} {m : MethodId} {args : Array Value} {below : List Frame} {meth : Method} {c : Code} (bs : Nat) (D : va_G) (y : Y3) (n : Nat) (k13_ : Int32 → Int64 → Int32 → Int32 → MI → MJ → Option (Int64 × M2)) (r : Int64 × M2) (Gc : Gx p s m args meth c cX5_endsOf 6 RX5 bs D y (some .long) 44) (hk13_ : ∀ (x1 : Int32) (x2 : Int64) (x4 : Int32) (x5 : Int32) (I : MI) (J : MJ) (H : Heap) (locs : List Loc) (ls : Array Slot), va_P D vwCl (wl bs y I J) H → va_S (FA bs) s.heap H locs → lv_has ls 6 [(0, .ref (bs + 22)), (1, .int x1), (2, .long x2), (4, .int x4), (5, .int x5)] → k13_ x1 x2 x4 x5 I J = some r → W p l e (rmm 1 22) s m args below meth c H locs 0 0 (QJ below args s bs D y r) (F0 m 13 ls [])) (x1 : Int32) (x2 : Int64) (x4 : Int32) (x5 : Int32) (I : MI) (J : MJ) (H : Heap) (locs : List Loc) (ls : Array Slot) (hP : va_P D vwCl (wl bs y I J) H) (hS : va_S (FA bs) s.heap H locs) (hl : lv_has ls 6 [(0, .ref (bs + 22)), (1, .int x1), (2, .long x2), (4, .int x4), (5, .int x5)]) (h : fX5_endsOf_13 n k13_ x1 x2 x4 x5 I J = some r) : W p l e (rmm 1 22) s m args below meth c H locs 0 0 (QJ below args s bs D y r) (F0 m 13 ls []) := by
  obtain ⟨hx, hb, hml, hown, hts, hK, hN, hL, hr, hlocks, hcb⟩ := id Gc
  unfold fX5_endsOf_13 at h
  refine lv_iload hx hb dX5_endsOf_13 (lv_at hl 4 rfl) ?_
  refine lv_bipush (v := (32 : Int32)) hx hb dX5_endsOf_15 (by decide) ?_
  refine lv_icmp_ge (tgt := 57) hx hb dX5_endsOf_17 (by decide) (fun c17 => ?_) (fun c17 => ?_)
  · replace h := if_t c17 h
    exact wX5_endsOf_57 bs D y n  r Gc  x1 x2 I J _ _ _ hP hS (lv_sub hl [0, 1, 2] rfl) h
  · replace h := if_f c17 h
    refine lv_iload hx hb dX5_endsOf_20 (lv_at hl 3 rfl) ?_
    refine lv_iload hx hb dX5_endsOf_22 (lv_at hl 4 rfl) ?_
    refine lv_iushr (v := (ushrI x4 x5)) hx hb dX5_endsOf_24 rfl ?_
    refine lv_if_eq (tgt := 57) hx hb dX5_endsOf_25 (by decide) (fun c25 => ?_) (fun c25 => ?_)
    · replace h := if_t c25 h
      exact wX5_endsOf_57 bs D y n  r Gc  x1 x2 I J _ _ _ hP hS (lv_sub hl [0, 1, 2] rfl) h
    · replace h := if_f c25 h
      refine lv_iload hx hb dX5_endsOf_28 (lv_at hl 3 rfl) ?_
      refine lv_i2l (v := (x4).toInt64) hx hb dX5_endsOf_30 rfl ?_
      refine lv_iload hx hb dX5_endsOf_31 (lv_at hl 4 rfl) ?_
      obtain ⟨r33, er33, h⟩ := bd_s1 h
      refine c_NI (As := [.long (x4).toInt64, .int x5]) (rest := []) hx hb hml hown hts hK hN hL hP hS (cX9_hasBit_ l bs D y hcb n (x4).toInt64 x5 I J r33 er33) ok_X9_hasBit ov_X9_hasBit mn_2 ⟨Nat.le_of_ble_eq_true rfl, Nat.le_of_ble_eq_true rfl⟩ hl.1 rfl rfl (Nat.le_of_ble_eq_true rfl) ⟨Nat.zero_le _, Nat.zero_le _⟩ dX5_endsOf_33 (fun H locs hP hS => ?_)
      refine lv_if_eq (tgt := 51) hx hb dX5_endsOf_36 (by decide) (fun c36 => ?_) (fun c36 => ?_)
      · replace h := if_t c36 h
        exact wX5_endsOf_51 bs D y n k13_ r Gc hk13_ x1 x2 x4 x5 r33.2.1 r33.2.2 _ _ _ hP hS (lv_sub hl [0, 1, 2, 3, 4] rfl) h
      · replace h := if_f c36 h
        refine lv_lload_n hx hb dX5_endsOf_39 rfl (lv_at hl 2 rfl) ?_
        refine lv_lconst (v := (1 : Int64)) hx hb dX5_endsOf_40 (by decide) ?_
        refine lv_aload_n hx hb dX5_endsOf_41 rfl (lv_at hl 0 rfl) ?_
        refine g_R (C := RX5) (T := TX5) (N := 7) (ci := 5) 22 3 24 hx hb hts hown hK hP in_X5 rfl hcb okF_22_3 rfc_22_3 fl_52 dX5_endsOf_42 ?_
        refine lv_iload hx hb dX5_endsOf_45 (lv_at hl 4 rfl) ?_
        obtain ⟨hi47, h⟩ := if_s1 h
        refine a_I 24 hx hb hK hP hcb aln_24 hi47 dX5_endsOf_47 ?_
        refine lv_lshl (v := (shlL (1 : Int64) (r33.2.1 24 (x5).toNatClampNeg))) hx hb dX5_endsOf_48 rfl ?_
        refine lv_lor hx hb dX5_endsOf_49 ?_
        obtain ⟨v50, ev50, h⟩ := lt_s1 h
        refine top_j ev50 ?_
        refine lv_lstore_n (lv' := [(2, .long v50), (0, .ref (bs + 22)), (1, .int x1), (4, .int x4), (5, .int x5)]) hx hb dX5_endsOf_50 rfl hl (by decide) rfl (fun ls hl => ?_)
        exact wX5_endsOf_51 bs D y n k13_ r Gc hk13_ x1 v50 x4 x5 r33.2.1 r33.2.2 _ _ _ hP hS (lv_sub hl [1, 2, 0, 3, 4] rfl) h
theorem vX5_endsOf_13 {p : Program} {l : Launch} {e : Env} {s : State} {m : MethodId} {args : Array Value} {below : List Frame} {meth : Method} {c : Code} (bs : Nat) (D : va_G) (y : Y3) (n : Nat) (r : Int64 × M2) (Gc : Gx p s m args meth c cX5_endsOf 6 RX5 bs D y (some .long) 44)  : ∀ (q : Nat) (x1 : Int32) (x2 : Int64) (x4 : Int32) (x5 : Int32) (I : MI) (J : MJ) (H : Heap) (locs : List Loc) (ls : Array Slot), va_P D vwCl (wl bs y I J) H → va_S (FA bs) s.heap H locs → lv_has ls 6 [(0, .ref (bs + 22)), (1, .int x1), (2, .long x2), (4, .int x4), (5, .int x5)] → lX5_endsOf_13 n  q x1 x2 x4 x5 I J = some r → W p l e (rmm 1 22) s m args below meth c H locs 0 0 (QJ below args s bs D y r) (F0 m 13 ls []) := by
  intro q
  induction q with
  | zero =>
    intro x1 x2 x4 x5 I J H locs ls hP hS hl h
    have h : (none : Option (Int64 × M2)) = some r := h
    cases h
  | succ q ih =>
    intro x1 x2 x4 x5 I J H locs ls hP hS hl h
    have h : fX5_endsOf_13 n  (lX5_endsOf_13 n  q) x1 x2 x4 x5 I J = some r := h
    exact wX5_endsOf_13 bs D y n  (lX5_endsOf_13 n  q) r Gc  ih x1 x2 x4 x5 I J H locs ls hP hS hl h
set_option maxHeartbeats 4000000 in
set_option maxRecDepth 100000 in
theorem cX5_endsOf_ (l : Launch) (bs : Nat) (D : va_G) (y : Y3) (hcb : 44 ≤ y.2.2.2) (n : Nat) (x1 : Int32) (I : MI) (J : MJ) (r : Int64 × M2) (h : fX5_endsOf n x1 I J = some r) : Met l yX5_endsOf (.code yX5_endsOf cX5_endsOf 6 (some .long) :: gtb) (rmm 1 22) (va_Pc [.ref (bs + 22), .int x1] (HB bs D y I J)) (QcJ bs D y r) 0 0 (FA bs) := by
  refine Met.ofW (cc := cX5_endsOf) (maxL := 6) (ret := (some .long)) (by decide) rfl ?_
  intro p e s m args below meth c s₁ B hml hv
  obtain ⟨rfl, hP, hK, hN, hL⟩ := hv
  have hx := B.exec
  have hb := B.bytes
  have hr := B.returns
  have hts0 := atoms_spec (ws := .code yX5_endsOf cX5_endsOf 6 (some .long) :: gtb) B.pre
  have hts : ∀ w ∈ gtb, w.before [.ref (bs + 22), .int x1].toArray s = true := fun w hw => hts0 w (List.mem_cons_of_mem _ hw)
  have hown : s.vm.findClass RX5 = some m.cls := findClass_of_methodNamed B.named
  have hlocks := B.notSynchronized
  have hS : va_S (FA bs) s.heap s.heap [] := va_S.rf
  have Gc : Gx p s m [.ref (bs + 22), .int x1].toArray meth c cX5_endsOf 6 RX5 bs D y (some .long) 44 := ⟨hx, hb, hml, hown, hts, hK, hN, hL, hr, hlocks, hcb⟩
  have hl := lv_entry [.ref (bs + 22), .int x1] (n := 6) (Nat.le_of_ble_eq_true rfl)
  rw [lg_entry_eq]
  generalize (lg_sl [.ref (bs + 22), .int x1] ++ List.replicate (6 - (lg_sl [.ref (bs + 22), .int x1]).length) Slot.unset).toArray = ls at hl ⊢
  have hl : lv_has ls 6 [(0, .ref (bs + 22)), (1, .int x1)] := hl
  change W p l e (rmm 1 22) s m [.ref (bs + 22), .int x1].toArray below meth c s.heap [] 0 0 (QJ below [.ref (bs + 22), .int x1].toArray s bs D y r) (F0 m 0 ls [])
  unfold fX5_endsOf at h
  refine lv_lconst (v := (0 : Int64)) hx hb dX5_endsOf_0 (by decide) ?_
  refine lv_lstore_n (lv' := [(2, .long (0 : Int64)), (0, .ref (bs + 22)), (1, .int x1)]) hx hb dX5_endsOf_1 rfl hl (by decide) rfl (fun ls hl => ?_)
  refine lv_aload_n hx hb dX5_endsOf_2 rfl (lv_at hl 1 rfl) ?_
  refine g_R (C := RX5) (T := TX5) (N := 7) (ci := 5) 22 6 27 hx hb hts hown hK hP in_X5 rfl hcb okF_22_6 rfc_22_6 fl_47 dX5_endsOf_3 ?_
  refine lv_iload_n hx hb dX5_endsOf_6 rfl (lv_at hl 2 rfl) ?_
  obtain ⟨hi7, h⟩ := if_s1 h
  refine a_I 27 hx hb hK hP hcb aln_27 hi7 dX5_endsOf_7 ?_
  obtain ⟨v8, ev8, h⟩ := lt_s1 h
  refine top_i ev8 ?_
  refine lv_istore (lv' := [(4, .int v8), (2, .long (0 : Int64)), (0, .ref (bs + 22)), (1, .int x1)]) hx hb dX5_endsOf_8 hl (by decide) rfl (fun ls hl => ?_)
  refine lv_iconst (v := (0 : Int32)) hx hb dX5_endsOf_10 (by decide) ?_
  refine lv_istore (lv' := [(5, .int (0 : Int32)), (4, .int v8), (2, .long (0 : Int64)), (0, .ref (bs + 22)), (1, .int x1)]) hx hb dX5_endsOf_11 hl (by decide) rfl (fun ls hl => ?_)
  exact vX5_endsOf_13 bs D y n  r Gc  n x1 (0 : Int64) v8 (0 : Int32) I J _ _ _ hP hS (lv_sub hl [3, 4, 2, 1, 0] rfl) h
theorem dX5_wireCount_0 : decode cX5_wireCount 0 = .ok (.iconst 0, 1) := by decide +kernel
theorem dX5_wireCount_1 : decode cX5_wireCount 1 = .ok (.istore_n 1, 1) := by decide +kernel
theorem dX5_wireCount_2 : decode cX5_wireCount 2 = .ok (.iconst 0, 1) := by decide +kernel
theorem dX5_wireCount_3 : decode cX5_wireCount 3 = .ok (.istore_n 2, 1) := by decide +kernel
theorem dX5_wireCount_4 : decode cX5_wireCount 4 = .ok (.iload_n 2, 1) := by decide +kernel
theorem dX5_wireCount_5 : decode cX5_wireCount 5 = .ok (.aload_n 0, 1) := by decide +kernel
theorem dX5_wireCount_6 : decode cX5_wireCount 6 = .ok (.getfield 27, 3) := by decide +kernel
theorem dX5_wireCount_9 : decode cX5_wireCount 9 = .ok (.if_icmp .ge 27, 3) := by decide +kernel
theorem dX5_wireCount_12 : decode cX5_wireCount 12 = .ok (.aload_n 0, 1) := by decide +kernel
theorem dX5_wireCount_13 : decode cX5_wireCount 13 = .ok (.aload_n 0, 1) := by decide +kernel
theorem dX5_wireCount_14 : decode cX5_wireCount 14 = .ok (.getfield 9, 3) := by decide +kernel
theorem dX5_wireCount_17 : decode cX5_wireCount 17 = .ok (.iload_n 2, 1) := by decide +kernel
theorem dX5_wireCount_18 : decode cX5_wireCount 18 = .ok (.iaload, 1) := by decide +kernel
theorem dX5_wireCount_19 : decode cX5_wireCount 19 = .ok (.invokevirtual 88, 3) := by decide +kernel
theorem dX5_wireCount_22 : decode cX5_wireCount 22 = .ok (.lconst 0, 1) := by decide +kernel
theorem dX5_wireCount_23 : decode cX5_wireCount 23 = .ok (.lcmp, 1) := by decide +kernel
theorem dX5_wireCount_24 : decode cX5_wireCount 24 = .ok (.ifCond .eq 6, 3) := by decide +kernel
theorem dX5_wireCount_27 : decode cX5_wireCount 27 = .ok (.iinc 1 1, 3) := by decide +kernel
theorem dX5_wireCount_30 : decode cX5_wireCount 30 = .ok (.iinc 2 1, 3) := by decide +kernel
theorem dX5_wireCount_33 : decode cX5_wireCount 33 = .ok (.goto (-29), 3) := by decide +kernel
theorem dX5_wireCount_36 : decode cX5_wireCount 36 = .ok (.iload_n 1, 1) := by decide +kernel
theorem dX5_wireCount_37 : decode cX5_wireCount 37 = .ok (.ireturn, 1) := by decide +kernel
set_option maxHeartbeats 4000000 in
set_option maxRecDepth 100000 in
theorem wX5_wireCount_30 {p : Program} {l : Launch} {e : Env} {s : State} {m : MethodId} {args : Array Value} {below : List Frame} {meth : Method} {c : Code} (bs : Nat) (D : va_G) (y : Y3) (n : Nat) (k4_ : Int32 → Int32 → MI → MJ → Option (Int32 × M2)) (r : Int32 × M2) (Gc : Gx p s m args meth c cX5_wireCount 3 RX5 bs D y (some .int) 44) (hk4_ : ∀ (x1 : Int32) (x2 : Int32) (I : MI) (J : MJ) (H : Heap) (locs : List Loc) (ls : Array Slot), va_P D vwCl (wl bs y I J) H → va_S (FA bs) s.heap H locs → lv_has ls 3 [(0, .ref (bs + 22)), (1, .int x1), (2, .int x2)] → k4_ x1 x2 I J = some r → W p l e (rmm 2 47) s m args below meth c H locs 0 0 (QI below args s bs D y r) (F0 m 4 ls [])) (x1 : Int32) (x2 : Int32) (I : MI) (J : MJ) (H : Heap) (locs : List Loc) (ls : Array Slot) (hP : va_P D vwCl (wl bs y I J) H) (hS : va_S (FA bs) s.heap H locs) (hl : lv_has ls 3 [(0, .ref (bs + 22)), (1, .int x1), (2, .int x2)]) (h : fX5_wireCount_30 n k4_ x1 x2 I J = some r) : W p l e (rmm 2 47) s m args below meth c H locs 0 0 (QI below args s bs D y r) (F0 m 30 ls []) := by
  obtain ⟨hx, hb, hml, hown, hts, hK, hN, hL, hr, hlocks, hcb⟩ := id Gc
  unfold fX5_wireCount_30 at h
  refine lv_iinc (v := (x2 + (1 : Int32))) (lv' := [(2, .int (x2 + (1 : Int32))), (0, .ref (bs + 22)), (1, .int x1)]) hx hb dX5_wireCount_30 hl (k := 2) rfl rfl (by decide) rfl (fun ls hl => ?_)
  refine lv_goto (tgt := 4) hx hb dX5_wireCount_33 (by decide) ?_
  exact hk4_ x1 (x2 + (1 : Int32)) I J _ _ _ hP hS (lv_sub hl [1, 2, 0] rfl) h
set_option maxHeartbeats 4000000 in
set_option maxRecDepth 100000 in
theorem wX5_wireCount_4 {p : Program} {l : Launch} {e : Env} {s : State} {m : MethodId} {args : Array Value} {below : List Frame} {meth : Method} {c : Code} (bs : Nat) (D : va_G) (y : Y3) (n : Nat) (k4_ : Int32 → Int32 → MI → MJ → Option (Int32 × M2)) (r : Int32 × M2) (Gc : Gx p s m args meth c cX5_wireCount 3 RX5 bs D y (some .int) 44) (hk4_ : ∀ (x1 : Int32) (x2 : Int32) (I : MI) (J : MJ) (H : Heap) (locs : List Loc) (ls : Array Slot), va_P D vwCl (wl bs y I J) H → va_S (FA bs) s.heap H locs → lv_has ls 3 [(0, .ref (bs + 22)), (1, .int x1), (2, .int x2)] → k4_ x1 x2 I J = some r → W p l e (rmm 2 47) s m args below meth c H locs 0 0 (QI below args s bs D y r) (F0 m 4 ls [])) (x1 : Int32) (x2 : Int32) (I : MI) (J : MJ) (H : Heap) (locs : List Loc) (ls : Array Slot) (hP : va_P D vwCl (wl bs y I J) H) (hS : va_S (FA bs) s.heap H locs) (hl : lv_has ls 3 [(0, .ref (bs + 22)), (1, .int x1), (2, .int x2)]) (h : fX5_wireCount_4 n k4_ x1 x2 I J = some r) : W p l e (rmm 2 47) s m args below meth c H locs 0 0 (QI below args s bs D y r) (F0 m 4 ls []) := by
  obtain ⟨hx, hb, hml, hown, hts, hK, hN, hL, hr, hlocks, hcb⟩ := id Gc
  unfold fX5_wireCount_4 at h
  refine lv_iload_n hx hb dX5_wireCount_4 rfl (lv_at hl 2 rfl) ?_
  refine lv_aload_n hx hb dX5_wireCount_5 rfl (lv_at hl 0 rfl) ?_
  refine g_I (C := RX5) (T := TX5) (N := 7) (ci := 5) 22 1 hx hb hts hown hK hP in_X5 rfl hcb okF_22_1 fl_49 dX5_wireCount_6 ?_
  refine lv_icmp_ge (tgt := 36) hx hb dX5_wireCount_9 (by decide) (fun c9 => ?_) (fun c9 => ?_)
  · replace h := if_t c9 h
    refine lv_iload_n hx hb dX5_wireCount_36 rfl (lv_at hl 1 rfl) ?_
    exact r_I hx hb hr hlocks hP hK hN hL hS h dX5_wireCount_37
  · replace h := if_f c9 h
    refine lv_aload_n hx hb dX5_wireCount_12 rfl (lv_at hl 0 rfl) ?_
    refine lv_aload_n hx hb dX5_wireCount_13 rfl (lv_at hl 0 rfl) ?_
    refine g_R (C := RX5) (T := TX5) (N := 7) (ci := 5) 22 2 23 hx hb hts hown hK hP in_X5 rfl hcb okF_22_2 rfc_22_2 fl_48 dX5_wireCount_14 ?_
    refine lv_iload_n hx hb dX5_wireCount_17 rfl (lv_at hl 2 rfl) ?_
    obtain ⟨hi18, h⟩ := if_s1 h
    refine a_I 23 hx hb hK hP hcb aln_23 hi18 dX5_wireCount_18 ?_
    obtain ⟨r19, er19, h⟩ := bd_s1 h
    refine c_VJ (k := 22) (ci := 5) (As := [.int (I 23 (x2).toNatClampNeg)]) (rest := []) hx hb hml hown hts hK hN hL hP hS (cX5_endsOf_ l bs D y hcb n (I 23 (x2).toNatClampNeg) I J r19 er19) ok_X5_endsOf ov_X5_endsOf ml_28 ⟨Nat.le_of_ble_eq_true rfl, Nat.le_of_ble_eq_true rfl⟩ rfl hcb kd_22 hl.1 rfl rfl (Nat.le_of_ble_eq_true rfl) ⟨Nat.zero_le _, Nat.zero_le _⟩ dX5_wireCount_19 (fun H locs hP hS => ?_)
    refine lv_lconst (v := (0 : Int64)) hx hb dX5_wireCount_22 (by decide) ?_
    refine W.lcmp hx hb dX5_wireCount_23 ?_
    refine lv_if_eq (tgt := 30) hx hb dX5_wireCount_24 (by decide) (fun c24 => ?_) (fun c24 => ?_)
    · replace h := if_t c24 h
      exact wX5_wireCount_30 bs D y n k4_ r Gc hk4_ x1 x2 r19.2.1 r19.2.2 _ _ _ hP hS (lv_sub hl [0, 1, 2] rfl) h
    · replace h := if_f c24 h
      refine lv_iinc (v := (x1 + (1 : Int32))) (lv' := [(1, .int (x1 + (1 : Int32))), (0, .ref (bs + 22)), (2, .int x2)]) hx hb dX5_wireCount_27 hl (k := 1) rfl rfl (by decide) rfl (fun ls hl => ?_)
      exact wX5_wireCount_30 bs D y n k4_ r Gc hk4_ (x1 + (1 : Int32)) x2 r19.2.1 r19.2.2 _ _ _ hP hS (lv_sub hl [1, 0, 2] rfl) h
theorem vX5_wireCount_4 {p : Program} {l : Launch} {e : Env} {s : State} {m : MethodId} {args : Array Value} {below : List Frame} {meth : Method} {c : Code} (bs : Nat) (D : va_G) (y : Y3) (n : Nat) (r : Int32 × M2) (Gc : Gx p s m args meth c cX5_wireCount 3 RX5 bs D y (some .int) 44)  : ∀ (q : Nat) (x1 : Int32) (x2 : Int32) (I : MI) (J : MJ) (H : Heap) (locs : List Loc) (ls : Array Slot), va_P D vwCl (wl bs y I J) H → va_S (FA bs) s.heap H locs → lv_has ls 3 [(0, .ref (bs + 22)), (1, .int x1), (2, .int x2)] → lX5_wireCount_4 n  q x1 x2 I J = some r → W p l e (rmm 2 47) s m args below meth c H locs 0 0 (QI below args s bs D y r) (F0 m 4 ls []) := by
  intro q
  induction q with
  | zero =>
    intro x1 x2 I J H locs ls hP hS hl h
    have h : (none : Option (Int32 × M2)) = some r := h
    cases h
  | succ q ih =>
    intro x1 x2 I J H locs ls hP hS hl h
    have h : fX5_wireCount_4 n  (lX5_wireCount_4 n  q) x1 x2 I J = some r := h
    exact wX5_wireCount_4 bs D y n  (lX5_wireCount_4 n  q) r Gc  ih x1 x2 I J H locs ls hP hS hl h
set_option maxHeartbeats 4000000 in
set_option maxRecDepth 100000 in
theorem cX5_wireCount_ (l : Launch) (bs : Nat) (D : va_G) (y : Y3) (hcb : 44 ≤ y.2.2.2) (n : Nat) (I : MI) (J : MJ) (r : Int32 × M2) (h : fX5_wireCount n  I J = some r) : Met l yX5_wireCount (.code yX5_wireCount cX5_wireCount 3 (some .int) :: gtb) (rmm 2 47) (va_Pc [.ref (bs + 22)] (HB bs D y I J)) (QcI bs D y r) 0 0 (FA bs) := by
  refine Met.ofW (cc := cX5_wireCount) (maxL := 3) (ret := (some .int)) (by decide) rfl ?_
  intro p e s m args below meth c s₁ B hml hv
  obtain ⟨rfl, hP, hK, hN, hL⟩ := hv
  have hx := B.exec
  have hb := B.bytes
  have hr := B.returns
  have hts0 := atoms_spec (ws := .code yX5_wireCount cX5_wireCount 3 (some .int) :: gtb) B.pre
  have hts : ∀ w ∈ gtb, w.before [.ref (bs + 22)].toArray s = true := fun w hw => hts0 w (List.mem_cons_of_mem _ hw)
  have hown : s.vm.findClass RX5 = some m.cls := findClass_of_methodNamed B.named
  have hlocks := B.notSynchronized
  have hS : va_S (FA bs) s.heap s.heap [] := va_S.rf
  have Gc : Gx p s m [.ref (bs + 22)].toArray meth c cX5_wireCount 3 RX5 bs D y (some .int) 44 := ⟨hx, hb, hml, hown, hts, hK, hN, hL, hr, hlocks, hcb⟩
  have hl := lv_entry [.ref (bs + 22)] (n := 3) (Nat.le_of_ble_eq_true rfl)
  rw [lg_entry_eq]
  generalize (lg_sl [.ref (bs + 22)] ++ List.replicate (3 - (lg_sl [.ref (bs + 22)]).length) Slot.unset).toArray = ls at hl ⊢
  have hl : lv_has ls 3 [(0, .ref (bs + 22))] := hl
  change W p l e (rmm 2 47) s m [.ref (bs + 22)].toArray below meth c s.heap [] 0 0 (QI below [.ref (bs + 22)].toArray s bs D y r) (F0 m 0 ls [])
  unfold fX5_wireCount at h
  refine lv_iconst (v := (0 : Int32)) hx hb dX5_wireCount_0 (by decide) ?_
  refine lv_istore_n (lv' := [(1, .int (0 : Int32)), (0, .ref (bs + 22))]) hx hb dX5_wireCount_1 rfl hl (by decide) rfl (fun ls hl => ?_)
  refine lv_iconst (v := (0 : Int32)) hx hb dX5_wireCount_2 (by decide) ?_
  refine lv_istore_n (lv' := [(2, .int (0 : Int32)), (1, .int (0 : Int32)), (0, .ref (bs + 22))]) hx hb dX5_wireCount_3 rfl hl (by decide) rfl (fun ls hl => ?_)
  exact vX5_wireCount_4 bs D y n  r Gc  n (0 : Int32) (0 : Int32) I J _ _ _ hP hS (lv_sub hl [2, 1, 0] rfl) h
theorem dX5_spanOf_0 : decode cX5_spanOf 0 = .ok (.aload_n 0, 1) := by decide +kernel
theorem dX5_spanOf_1 : decode cX5_spanOf 1 = .ok (.getfield 24, 3) := by decide +kernel
theorem dX5_spanOf_4 : decode cX5_spanOf 4 = .ok (.iload_n 1, 1) := by decide +kernel
theorem dX5_spanOf_5 : decode cX5_spanOf 5 = .ok (.iaload, 1) := by decide +kernel
theorem dX5_spanOf_6 : decode cX5_spanOf 6 = .ok (.istore_n 3, 1) := by decide +kernel
theorem dX5_spanOf_7 : decode cX5_spanOf 7 = .ok (.aload_n 2, 1) := by decide +kernel
theorem dX5_spanOf_8 : decode cX5_spanOf 8 = .ok (.getfield 96, 3) := by decide +kernel
theorem dX5_spanOf_11 : decode cX5_spanOf 11 = .ok (.aload_n 0, 1) := by decide +kernel
theorem dX5_spanOf_12 : decode cX5_spanOf 12 = .ok (.getfield 15, 3) := by decide +kernel
theorem dX5_spanOf_15 : decode cX5_spanOf 15 = .ok (.iload_n 1, 1) := by decide +kernel
theorem dX5_spanOf_16 : decode cX5_spanOf 16 = .ok (.iaload, 1) := by decide +kernel
theorem dX5_spanOf_17 : decode cX5_spanOf 17 = .ok (.iaload, 1) := by decide +kernel
theorem dX5_spanOf_18 : decode cX5_spanOf 18 = .ok (.istore 4, 2) := by decide +kernel
theorem dX5_spanOf_20 : decode cX5_spanOf 20 = .ok (.iload 4, 2) := by decide +kernel
theorem dX5_spanOf_22 : decode cX5_spanOf 22 = .ok (.istore 5, 2) := by decide +kernel
theorem dX5_spanOf_24 : decode cX5_spanOf 24 = .ok (.aload_n 2, 1) := by decide +kernel
theorem dX5_spanOf_25 : decode cX5_spanOf 25 = .ok (.getfield 99, 3) := by decide +kernel
theorem dX5_spanOf_28 : decode cX5_spanOf 28 = .ok (.aload_n 0, 1) := by decide +kernel
theorem dX5_spanOf_29 : decode cX5_spanOf 29 = .ok (.getfield 15, 3) := by decide +kernel
theorem dX5_spanOf_32 : decode cX5_spanOf 32 = .ok (.iload_n 1, 1) := by decide +kernel
theorem dX5_spanOf_33 : decode cX5_spanOf 33 = .ok (.iaload, 1) := by decide +kernel
theorem dX5_spanOf_34 : decode cX5_spanOf 34 = .ok (.iaload, 1) := by decide +kernel
theorem dX5_spanOf_35 : decode cX5_spanOf 35 = .ok (.istore 6, 2) := by decide +kernel
theorem dX5_spanOf_37 : decode cX5_spanOf 37 = .ok (.iload 6, 2) := by decide +kernel
theorem dX5_spanOf_39 : decode cX5_spanOf 39 = .ok (.istore 7, 2) := by decide +kernel
theorem dX5_spanOf_41 : decode cX5_spanOf 41 = .ok (.iconst 0, 1) := by decide +kernel
theorem dX5_spanOf_42 : decode cX5_spanOf 42 = .ok (.istore 8, 2) := by decide +kernel
theorem dX5_spanOf_44 : decode cX5_spanOf 44 = .ok (.iload 8, 2) := by decide +kernel
theorem dX5_spanOf_46 : decode cX5_spanOf 46 = .ok (.bipush 32, 2) := by decide +kernel
theorem dX5_spanOf_48 : decode cX5_spanOf 48 = .ok (.if_icmp .ge 90, 3) := by decide +kernel
theorem dX5_spanOf_51 : decode cX5_spanOf 51 = .ok (.iload_n 3, 1) := by decide +kernel
theorem dX5_spanOf_52 : decode cX5_spanOf 52 = .ok (.iload 8, 2) := by decide +kernel
theorem dX5_spanOf_54 : decode cX5_spanOf 54 = .ok (.iushr, 1) := by decide +kernel
theorem dX5_spanOf_55 : decode cX5_spanOf 55 = .ok (.ifCond .eq 83, 3) := by decide +kernel
theorem dX5_spanOf_58 : decode cX5_spanOf 58 = .ok (.iload_n 3, 1) := by decide +kernel
theorem dX5_spanOf_59 : decode cX5_spanOf 59 = .ok (.i2l, 1) := by decide +kernel
theorem dX5_spanOf_60 : decode cX5_spanOf 60 = .ok (.iload 8, 2) := by decide +kernel
theorem dX5_spanOf_62 : decode cX5_spanOf 62 = .ok (.invokestatic 69, 3) := by decide +kernel
theorem dX5_spanOf_65 : decode cX5_spanOf 65 = .ok (.ifCond .eq 67, 3) := by decide +kernel
theorem dX5_spanOf_68 : decode cX5_spanOf 68 = .ok (.aload_n 2, 1) := by decide +kernel
theorem dX5_spanOf_69 : decode cX5_spanOf 69 = .ok (.getfield 96, 3) := by decide +kernel
theorem dX5_spanOf_72 : decode cX5_spanOf 72 = .ok (.aload_n 0, 1) := by decide +kernel
theorem dX5_spanOf_73 : decode cX5_spanOf 73 = .ok (.getfield 15, 3) := by decide +kernel
theorem dX5_spanOf_76 : decode cX5_spanOf 76 = .ok (.iload 8, 2) := by decide +kernel
theorem dX5_spanOf_78 : decode cX5_spanOf 78 = .ok (.iaload, 1) := by decide +kernel
theorem dX5_spanOf_79 : decode cX5_spanOf 79 = .ok (.iaload, 1) := by decide +kernel
theorem dX5_spanOf_80 : decode cX5_spanOf 80 = .ok (.istore 9, 2) := by decide +kernel
theorem dX5_spanOf_82 : decode cX5_spanOf 82 = .ok (.aload_n 2, 1) := by decide +kernel
theorem dX5_spanOf_83 : decode cX5_spanOf 83 = .ok (.getfield 99, 3) := by decide +kernel
theorem dX5_spanOf_86 : decode cX5_spanOf 86 = .ok (.aload_n 0, 1) := by decide +kernel
theorem dX5_spanOf_87 : decode cX5_spanOf 87 = .ok (.getfield 15, 3) := by decide +kernel
theorem dX5_spanOf_90 : decode cX5_spanOf 90 = .ok (.iload 8, 2) := by decide +kernel
theorem dX5_spanOf_92 : decode cX5_spanOf 92 = .ok (.iaload, 1) := by decide +kernel
theorem dX5_spanOf_93 : decode cX5_spanOf 93 = .ok (.iaload, 1) := by decide +kernel
theorem dX5_spanOf_94 : decode cX5_spanOf 94 = .ok (.istore 10, 2) := by decide +kernel
theorem dX5_spanOf_96 : decode cX5_spanOf 96 = .ok (.iload 4, 2) := by decide +kernel
theorem dX5_spanOf_98 : decode cX5_spanOf 98 = .ok (.iload 9, 2) := by decide +kernel
theorem dX5_spanOf_100 : decode cX5_spanOf 100 = .ok (.invokestatic 102, 3) := by decide +kernel
theorem dX5_spanOf_103 : decode cX5_spanOf 103 = .ok (.istore 4, 2) := by decide +kernel
theorem dX5_spanOf_105 : decode cX5_spanOf 105 = .ok (.iload 5, 2) := by decide +kernel
theorem dX5_spanOf_107 : decode cX5_spanOf 107 = .ok (.iload 9, 2) := by decide +kernel
theorem dX5_spanOf_109 : decode cX5_spanOf 109 = .ok (.invokestatic 107, 3) := by decide +kernel
theorem dX5_spanOf_112 : decode cX5_spanOf 112 = .ok (.istore 5, 2) := by decide +kernel
theorem dX5_spanOf_114 : decode cX5_spanOf 114 = .ok (.iload 6, 2) := by decide +kernel
theorem dX5_spanOf_116 : decode cX5_spanOf 116 = .ok (.iload 10, 2) := by decide +kernel
theorem dX5_spanOf_118 : decode cX5_spanOf 118 = .ok (.invokestatic 102, 3) := by decide +kernel
theorem dX5_spanOf_121 : decode cX5_spanOf 121 = .ok (.istore 6, 2) := by decide +kernel
theorem dX5_spanOf_123 : decode cX5_spanOf 123 = .ok (.iload 7, 2) := by decide +kernel
theorem dX5_spanOf_125 : decode cX5_spanOf 125 = .ok (.iload 10, 2) := by decide +kernel
theorem dX5_spanOf_127 : decode cX5_spanOf 127 = .ok (.invokestatic 107, 3) := by decide +kernel
theorem dX5_spanOf_130 : decode cX5_spanOf 130 = .ok (.istore 7, 2) := by decide +kernel
theorem dX5_spanOf_132 : decode cX5_spanOf 132 = .ok (.iinc 8 1, 3) := by decide +kernel
theorem dX5_spanOf_135 : decode cX5_spanOf 135 = .ok (.goto (-91), 3) := by decide +kernel
theorem dX5_spanOf_138 : decode cX5_spanOf 138 = .ok (.iload 5, 2) := by decide +kernel
theorem dX5_spanOf_140 : decode cX5_spanOf 140 = .ok (.iload 4, 2) := by decide +kernel
theorem dX5_spanOf_142 : decode cX5_spanOf 142 = .ok (.isub, 1) := by decide +kernel
theorem dX5_spanOf_143 : decode cX5_spanOf 143 = .ok (.iload 7, 2) := by decide +kernel
theorem dX5_spanOf_145 : decode cX5_spanOf 145 = .ok (.iadd, 1) := by decide +kernel
theorem dX5_spanOf_146 : decode cX5_spanOf 146 = .ok (.iload 6, 2) := by decide +kernel
theorem dX5_spanOf_148 : decode cX5_spanOf 148 = .ok (.isub, 1) := by decide +kernel
theorem dX5_spanOf_149 : decode cX5_spanOf 149 = .ok (.ireturn, 1) := by decide +kernel
set_option maxHeartbeats 4000000 in
set_option maxRecDepth 100000 in
theorem wX5_spanOf_138 {p : Program} {l : Launch} {e : Env} {s : State} {m : MethodId} {args : Array Value} {below : List Frame} {meth : Method} {c : Code} (bs : Nat) (D : va_G) (y : Y3) (n : Nat) (r : Int32 × M2) (Gc : Gx p s m args meth c cX5_spanOf 11 RX5 bs D y (some .int) 44)  (x4 : Int32) (x5 : Int32) (x6 : Int32) (x7 : Int32) (I : MI) (J : MJ) (H : Heap) (locs : List Loc) (ls : Array Slot) (hP : va_P D vwCl (wl bs y I J) H) (hS : va_S (FA bs) s.heap H locs) (hl : lv_has ls 11 [(4, .int x4), (5, .int x5), (6, .int x6), (7, .int x7)]) (h : fX5_spanOf_138 n  x4 x5 x6 x7 I J = some r) : W p l e (rmm 1 22) s m args below meth c H locs 0 0 (QI below args s bs D y r) (F0 m 138 ls []) := by
  obtain ⟨hx, hb, hml, hown, hts, hK, hN, hL, hr, hlocks, hcb⟩ := id Gc
  unfold fX5_spanOf_138 at h
  refine lv_iload hx hb dX5_spanOf_138 (lv_at hl 1 rfl) ?_
  refine lv_iload hx hb dX5_spanOf_140 (lv_at hl 0 rfl) ?_
  refine lv_isub hx hb dX5_spanOf_142 ?_
  refine lv_iload hx hb dX5_spanOf_143 (lv_at hl 3 rfl) ?_
  refine lv_iadd hx hb dX5_spanOf_145 ?_
  refine lv_iload hx hb dX5_spanOf_146 (lv_at hl 2 rfl) ?_
  refine lv_isub hx hb dX5_spanOf_148 ?_
  exact r_I hx hb hr hlocks hP hK hN hL hS h dX5_spanOf_149
set_option maxHeartbeats 4000000 in
set_option maxRecDepth 100000 in
theorem wX5_spanOf_132 {p : Program} {l : Launch} {e : Env} {s : State} {m : MethodId} {args : Array Value} {below : List Frame} {meth : Method} {c : Code} (bs : Nat) (D : va_G) (y : Y3) (n : Nat) (k44_ : Int32 → Int32 → Int32 → Int32 → Int32 → Int32 → MI → MJ → Option (Int32 × M2)) (r : Int32 × M2) (Gc : Gx p s m args meth c cX5_spanOf 11 RX5 bs D y (some .int) 44) (hk44_ : ∀ (x3 : Int32) (x4 : Int32) (x5 : Int32) (x6 : Int32) (x7 : Int32) (x8 : Int32) (I : MI) (J : MJ) (H : Heap) (locs : List Loc) (ls : Array Slot), va_P D vwCl (wl bs y I J) H → va_S (FA bs) s.heap H locs → lv_has ls 11 [(0, .ref (bs + 22)), (2, .ref (bs + 16)), (3, .int x3), (4, .int x4), (5, .int x5), (6, .int x6), (7, .int x7), (8, .int x8)] → k44_ x3 x4 x5 x6 x7 x8 I J = some r → W p l e (rmm 1 22) s m args below meth c H locs 0 0 (QI below args s bs D y r) (F0 m 44 ls [])) (x3 : Int32) (x4 : Int32) (x5 : Int32) (x6 : Int32) (x7 : Int32) (x8 : Int32) (I : MI) (J : MJ) (H : Heap) (locs : List Loc) (ls : Array Slot) (hP : va_P D vwCl (wl bs y I J) H) (hS : va_S (FA bs) s.heap H locs) (hl : lv_has ls 11 [(0, .ref (bs + 22)), (2, .ref (bs + 16)), (3, .int x3), (4, .int x4), (5, .int x5), (6, .int x6), (7, .int x7), (8, .int x8)]) (h : fX5_spanOf_132 n k44_ x3 x4 x5 x6 x7 x8 I J = some r) : W p l e (rmm 1 22) s m args below meth c H locs 0 0 (QI below args s bs D y r) (F0 m 132 ls []) := by
  obtain ⟨hx, hb, hml, hown, hts, hK, hN, hL, hr, hlocks, hcb⟩ := id Gc
  unfold fX5_spanOf_132 at h
  refine lv_iinc (v := (x8 + (1 : Int32))) (lv' := [(8, .int (x8 + (1 : Int32))), (0, .ref (bs + 22)), (2, .ref (bs + 16)), (3, .int x3), (4, .int x4), (5, .int x5), (6, .int x6), (7, .int x7)]) hx hb dX5_spanOf_132 hl (k := 7) rfl rfl (by decide) rfl (fun ls hl => ?_)
  refine lv_goto (tgt := 44) hx hb dX5_spanOf_135 (by decide) ?_
  exact hk44_ x3 x4 x5 x6 x7 (x8 + (1 : Int32)) I J _ _ _ hP hS (lv_sub hl [1, 2, 3, 4, 5, 6, 7, 0] rfl) h
set_option maxHeartbeats 4000000 in
set_option maxRecDepth 100000 in
theorem wX5_spanOf_44 {p : Program} {l : Launch} {e : Env} {s : State} {m : MethodId} {args : Array Value} {below : List Frame} {meth : Method} {c : Code} (bs : Nat) (D : va_G) (y : Y3) (n : Nat) (k44_ : Int32 → Int32 → Int32 → Int32 → Int32 → Int32 → MI → MJ → Option (Int32 × M2)) (r : Int32 × M2) (Gc : Gx p s m args meth c cX5_spanOf 11 RX5 bs D y (some .int) 44) (hk44_ : ∀ (x3 : Int32) (x4 : Int32) (x5 : Int32) (x6 : Int32) (x7 : Int32) (x8 : Int32) (I : MI) (J : MJ) (H : Heap) (locs : List Loc) (ls : Array Slot), va_P D vwCl (wl bs y I J) H → va_S (FA bs) s.heap H locs → lv_has ls 11 [(0, .ref (bs + 22)), (2, .ref (bs + 16)), (3, .int x3), (4, .int x4), (5, .int x5), (6, .int x6), (7, .int x7), (8, .int x8)] → k44_ x3 x4 x5 x6 x7 x8 I J = some r → W p l e (rmm 1 22) s m args below meth c H locs 0 0 (QI below args s bs D y r) (F0 m 44 ls [])) (x3 : Int32) (x4 : Int32) (x5 : Int32) (x6 : Int32) (x7 : Int32) (x8 : Int32) (I : MI) (J : MJ) (H : Heap) (locs : List Loc) (ls : Array Slot) (hP : va_P D vwCl (wl bs y I J) H) (hS : va_S (FA bs) s.heap H locs) (hl : lv_has ls 11 [(0, .ref (bs + 22)), (2, .ref (bs + 16)), (3, .int x3), (4, .int x4), (5, .int x5), (6, .int x6), (7, .int x7), (8, .int x8)]) (h : fX5_spanOf_44 n k44_ x3 x4 x5 x6 x7 x8 I J = some r) : W p l e (rmm 1 22) s m args below meth c H locs 0 0 (QI below args s bs D y r) (F0 m 44 ls []) := by
  obtain ⟨hx, hb, hml, hown, hts, hK, hN, hL, hr, hlocks, hcb⟩ := id Gc
  unfold fX5_spanOf_44 at h
  refine lv_iload hx hb dX5_spanOf_44 (lv_at hl 7 rfl) ?_
  refine lv_bipush (v := (32 : Int32)) hx hb dX5_spanOf_46 (by decide) ?_
  refine lv_icmp_ge (tgt := 138) hx hb dX5_spanOf_48 (by decide) (fun c48 => ?_) (fun c48 => ?_)
  · replace h := if_t c48 h
    exact wX5_spanOf_138 bs D y n  r Gc  x4 x5 x6 x7 I J _ _ _ hP hS (lv_sub hl [3, 4, 5, 6] rfl) h
  · replace h := if_f c48 h
    refine lv_iload_n hx hb dX5_spanOf_51 rfl (lv_at hl 2 rfl) ?_
    refine lv_iload hx hb dX5_spanOf_52 (lv_at hl 7 rfl) ?_
    refine lv_iushr (v := (ushrI x3 x8)) hx hb dX5_spanOf_54 rfl ?_
    refine lv_if_eq (tgt := 138) hx hb dX5_spanOf_55 (by decide) (fun c55 => ?_) (fun c55 => ?_)
    · replace h := if_t c55 h
      exact wX5_spanOf_138 bs D y n  r Gc  x4 x5 x6 x7 I J _ _ _ hP hS (lv_sub hl [3, 4, 5, 6] rfl) h
    · replace h := if_f c55 h
      refine lv_iload_n hx hb dX5_spanOf_58 rfl (lv_at hl 2 rfl) ?_
      refine lv_i2l (v := (x3).toInt64) hx hb dX5_spanOf_59 rfl ?_
      refine lv_iload hx hb dX5_spanOf_60 (lv_at hl 7 rfl) ?_
      obtain ⟨r62, er62, h⟩ := bd_s1 h
      refine c_NI (As := [.long (x3).toInt64, .int x8]) (rest := []) hx hb hml hown hts hK hN hL hP hS (cX9_hasBit_ l bs D y hcb n (x3).toInt64 x8 I J r62 er62) ok_X9_hasBit ov_X9_hasBit mn_2 ⟨Nat.le_of_ble_eq_true rfl, Nat.le_of_ble_eq_true rfl⟩ hl.1 rfl rfl (Nat.le_of_ble_eq_true rfl) ⟨Nat.zero_le _, Nat.zero_le _⟩ dX5_spanOf_62 (fun H locs hP hS => ?_)
      refine lv_if_eq (tgt := 132) hx hb dX5_spanOf_65 (by decide) (fun c65 => ?_) (fun c65 => ?_)
      · replace h := if_t c65 h
        exact wX5_spanOf_132 bs D y n k44_ r Gc hk44_ x3 x4 x5 x6 x7 x8 r62.2.1 r62.2.2 _ _ _ hP hS (lv_sub hl [0, 1, 2, 3, 4, 5, 6, 7] rfl) h
      · replace h := if_f c65 h
        refine lv_aload_n hx hb dX5_spanOf_68 rfl (lv_at hl 1 rfl) ?_
        refine g_R (C := RX2) (T := TX2) (N := 10) (ci := 2) 16 3 17 hx hb hts hown hK hP in_X2 rfl hcb okF_16_3 rfc_16_3 fl_56 dX5_spanOf_69 ?_
        refine lv_aload_n hx hb dX5_spanOf_72 rfl (lv_at hl 0 rfl) ?_
        refine g_R (C := RX5) (T := TX5) (N := 7) (ci := 5) 22 3 24 hx hb hts hown hK hP in_X5 rfl hcb okF_22_3 rfc_22_3 fl_52 dX5_spanOf_73 ?_
        refine lv_iload hx hb dX5_spanOf_76 (lv_at hl 7 rfl) ?_
        obtain ⟨hi78, h⟩ := if_s1 h
        refine a_I 24 hx hb hK hP hcb aln_24 hi78 dX5_spanOf_78 ?_
        obtain ⟨hi79, h⟩ := if_s1 h
        refine a_I 17 hx hb hK hP hcb aln_17 hi79 dX5_spanOf_79 ?_
        obtain ⟨v80, ev80, h⟩ := lt_s1 h
        refine top_i ev80 ?_
        refine lv_istore (lv' := [(9, .int v80), (0, .ref (bs + 22)), (2, .ref (bs + 16)), (3, .int x3), (4, .int x4), (5, .int x5), (6, .int x6), (7, .int x7), (8, .int x8)]) hx hb dX5_spanOf_80 hl (by decide) rfl (fun ls hl => ?_)
        refine lv_aload_n hx hb dX5_spanOf_82 rfl (lv_at hl 2 rfl) ?_
        refine g_R (C := RX2) (T := TX2) (N := 10) (ci := 2) 16 4 18 hx hb hts hown hK hP in_X2 rfl hcb okF_16_4 rfc_16_4 fl_57 dX5_spanOf_83 ?_
        refine lv_aload_n hx hb dX5_spanOf_86 rfl (lv_at hl 1 rfl) ?_
        refine g_R (C := RX5) (T := TX5) (N := 7) (ci := 5) 22 3 24 hx hb hts hown hK hP in_X5 rfl hcb okF_22_3 rfc_22_3 fl_52 dX5_spanOf_87 ?_
        refine lv_iload hx hb dX5_spanOf_90 (lv_at hl 8 rfl) ?_
        obtain ⟨hi92, h⟩ := if_s1 h
        refine a_I 24 hx hb hK hP hcb aln_24 hi92 dX5_spanOf_92 ?_
        obtain ⟨hi93, h⟩ := if_s1 h
        refine a_I 18 hx hb hK hP hcb aln_18 hi93 dX5_spanOf_93 ?_
        obtain ⟨v94, ev94, h⟩ := lt_s1 h
        refine top_i ev94 ?_
        refine lv_istore (lv' := [(10, .int v94), (9, .int v80), (0, .ref (bs + 22)), (2, .ref (bs + 16)), (3, .int x3), (4, .int x4), (5, .int x5), (6, .int x6), (7, .int x7), (8, .int x8)]) hx hb dX5_spanOf_94 hl (by decide) rfl (fun ls hl => ?_)
        refine lv_iload hx hb dX5_spanOf_96 (lv_at hl 5 rfl) ?_
        refine lv_iload hx hb dX5_spanOf_98 (lv_at hl 1 rfl) ?_
        refine va_mmin hx hb (hml.trans hl.1.symm) hown (hts _ ml_29) (hts _ ms_va_mmin) (hts _ ms_i) (hts _ mc_va_mmin) (Nat.le_of_ble_eq_true rfl) (Nat.le_of_ble_eq_true rfl) (Nat.zero_le _) (Nat.zero_le _) dX5_spanOf_100 ?_
        obtain ⟨v103, ev103, h⟩ := lt_s1 h
        refine top_i ev103 ?_
        refine lv_istore (lv' := [(4, .int v103), (10, .int v94), (9, .int v80), (0, .ref (bs + 22)), (2, .ref (bs + 16)), (3, .int x3), (5, .int x5), (6, .int x6), (7, .int x7), (8, .int x8)]) hx hb dX5_spanOf_103 hl (by decide) rfl (fun ls hl => ?_)
        refine lv_iload hx hb dX5_spanOf_105 (lv_at hl 6 rfl) ?_
        refine lv_iload hx hb dX5_spanOf_107 (lv_at hl 2 rfl) ?_
        refine va_mmax hx hb (hml.trans hl.1.symm) hown (hts _ ml_30) (hts _ ms_va_mmax) (hts _ ms_i) (hts _ mc_va_mmax) (Nat.le_of_ble_eq_true rfl) (Nat.le_of_ble_eq_true rfl) (Nat.zero_le _) (Nat.zero_le _) dX5_spanOf_109 ?_
        obtain ⟨v112, ev112, h⟩ := lt_s1 h
        refine top_i ev112 ?_
        refine lv_istore (lv' := [(5, .int v112), (4, .int v103), (10, .int v94), (9, .int v80), (0, .ref (bs + 22)), (2, .ref (bs + 16)), (3, .int x3), (6, .int x6), (7, .int x7), (8, .int x8)]) hx hb dX5_spanOf_112 hl (by decide) rfl (fun ls hl => ?_)
        refine lv_iload hx hb dX5_spanOf_114 (lv_at hl 7 rfl) ?_
        refine lv_iload hx hb dX5_spanOf_116 (lv_at hl 2 rfl) ?_
        refine va_mmin hx hb (hml.trans hl.1.symm) hown (hts _ ml_29) (hts _ ms_va_mmin) (hts _ ms_i) (hts _ mc_va_mmin) (Nat.le_of_ble_eq_true rfl) (Nat.le_of_ble_eq_true rfl) (Nat.zero_le _) (Nat.zero_le _) dX5_spanOf_118 ?_
        obtain ⟨v121, ev121, h⟩ := lt_s1 h
        refine top_i ev121 ?_
        refine lv_istore (lv' := [(6, .int v121), (5, .int v112), (4, .int v103), (10, .int v94), (9, .int v80), (0, .ref (bs + 22)), (2, .ref (bs + 16)), (3, .int x3), (7, .int x7), (8, .int x8)]) hx hb dX5_spanOf_121 hl (by decide) rfl (fun ls hl => ?_)
        refine lv_iload hx hb dX5_spanOf_123 (lv_at hl 8 rfl) ?_
        refine lv_iload hx hb dX5_spanOf_125 (lv_at hl 3 rfl) ?_
        refine va_mmax hx hb (hml.trans hl.1.symm) hown (hts _ ml_30) (hts _ ms_va_mmax) (hts _ ms_i) (hts _ mc_va_mmax) (Nat.le_of_ble_eq_true rfl) (Nat.le_of_ble_eq_true rfl) (Nat.zero_le _) (Nat.zero_le _) dX5_spanOf_127 ?_
        obtain ⟨v130, ev130, h⟩ := lt_s1 h
        refine top_i ev130 ?_
        refine lv_istore (lv' := [(7, .int v130), (6, .int v121), (5, .int v112), (4, .int v103), (10, .int v94), (9, .int v80), (0, .ref (bs + 22)), (2, .ref (bs + 16)), (3, .int x3), (8, .int x8)]) hx hb dX5_spanOf_130 hl (by decide) rfl (fun ls hl => ?_)
        exact wX5_spanOf_132 bs D y n k44_ r Gc hk44_ x3 v103 v112 v121 v130 x8 r62.2.1 r62.2.2 _ _ _ hP hS (lv_sub hl [6, 7, 8, 3, 2, 1, 0, 9] rfl) h
theorem vX5_spanOf_44 {p : Program} {l : Launch} {e : Env} {s : State} {m : MethodId} {args : Array Value} {below : List Frame} {meth : Method} {c : Code} (bs : Nat) (D : va_G) (y : Y3) (n : Nat) (r : Int32 × M2) (Gc : Gx p s m args meth c cX5_spanOf 11 RX5 bs D y (some .int) 44)  : ∀ (q : Nat) (x3 : Int32) (x4 : Int32) (x5 : Int32) (x6 : Int32) (x7 : Int32) (x8 : Int32) (I : MI) (J : MJ) (H : Heap) (locs : List Loc) (ls : Array Slot), va_P D vwCl (wl bs y I J) H → va_S (FA bs) s.heap H locs → lv_has ls 11 [(0, .ref (bs + 22)), (2, .ref (bs + 16)), (3, .int x3), (4, .int x4), (5, .int x5), (6, .int x6), (7, .int x7), (8, .int x8)] → lX5_spanOf_44 n  q x3 x4 x5 x6 x7 x8 I J = some r → W p l e (rmm 1 22) s m args below meth c H locs 0 0 (QI below args s bs D y r) (F0 m 44 ls []) := by
  intro q
  induction q with
  | zero =>
    intro x3 x4 x5 x6 x7 x8 I J H locs ls hP hS hl h
    have h : (none : Option (Int32 × M2)) = some r := h
    cases h
  | succ q ih =>
    intro x3 x4 x5 x6 x7 x8 I J H locs ls hP hS hl h
    have h : fX5_spanOf_44 n  (lX5_spanOf_44 n  q) x3 x4 x5 x6 x7 x8 I J = some r := h
    exact wX5_spanOf_44 bs D y n  (lX5_spanOf_44 n  q) r Gc  ih x3 x4 x5 x6 x7 x8 I J H locs ls hP hS hl h
set_option maxHeartbeats 4000000 in
set_option maxRecDepth 100000 in
theorem cX5_spanOf_ (l : Launch) (bs : Nat) (D : va_G) (y : Y3) (hcb : 44 ≤ y.2.2.2) (n : Nat) (x1 : Int32) (I : MI) (J : MJ) (r : Int32 × M2) (h : fX5_spanOf n x1 I J = some r) : Met l yX5_spanOf (.code yX5_spanOf cX5_spanOf 11 (some .int) :: gtb) (rmm 1 22) (va_Pc [.ref (bs + 22), .int x1, .ref (bs + 16)] (HB bs D y I J)) (QcI bs D y r) 0 0 (FA bs) := by
  refine Met.ofW (cc := cX5_spanOf) (maxL := 11) (ret := (some .int)) (by decide) rfl ?_
  intro p e s m args below meth c s₁ B hml hv
  obtain ⟨rfl, hP, hK, hN, hL⟩ := hv
  have hx := B.exec
  have hb := B.bytes
  have hr := B.returns
  have hts0 := atoms_spec (ws := .code yX5_spanOf cX5_spanOf 11 (some .int) :: gtb) B.pre
  have hts : ∀ w ∈ gtb, w.before [.ref (bs + 22), .int x1, .ref (bs + 16)].toArray s = true := fun w hw => hts0 w (List.mem_cons_of_mem _ hw)
  have hown : s.vm.findClass RX5 = some m.cls := findClass_of_methodNamed B.named
  have hlocks := B.notSynchronized
  have hS : va_S (FA bs) s.heap s.heap [] := va_S.rf
  have Gc : Gx p s m [.ref (bs + 22), .int x1, .ref (bs + 16)].toArray meth c cX5_spanOf 11 RX5 bs D y (some .int) 44 := ⟨hx, hb, hml, hown, hts, hK, hN, hL, hr, hlocks, hcb⟩
  have hl := lv_entry [.ref (bs + 22), .int x1, .ref (bs + 16)] (n := 11) (Nat.le_of_ble_eq_true rfl)
  rw [lg_entry_eq]
  generalize (lg_sl [.ref (bs + 22), .int x1, .ref (bs + 16)] ++ List.replicate (11 - (lg_sl [.ref (bs + 22), .int x1, .ref (bs + 16)]).length) Slot.unset).toArray = ls at hl ⊢
  have hl : lv_has ls 11 [(0, .ref (bs + 22)), (1, .int x1), (2, .ref (bs + 16))] := hl
  change W p l e (rmm 1 22) s m [.ref (bs + 22), .int x1, .ref (bs + 16)].toArray below meth c s.heap [] 0 0 (QI below [.ref (bs + 22), .int x1, .ref (bs + 16)].toArray s bs D y r) (F0 m 0 ls [])
  unfold fX5_spanOf at h
  refine lv_aload_n hx hb dX5_spanOf_0 rfl (lv_at hl 0 rfl) ?_
  refine g_R (C := RX5) (T := TX5) (N := 7) (ci := 5) 22 6 27 hx hb hts hown hK hP in_X5 rfl hcb okF_22_6 rfc_22_6 fl_47 dX5_spanOf_1 ?_
  refine lv_iload_n hx hb dX5_spanOf_4 rfl (lv_at hl 1 rfl) ?_
  obtain ⟨hi5, h⟩ := if_s1 h
  refine a_I 27 hx hb hK hP hcb aln_27 hi5 dX5_spanOf_5 ?_
  obtain ⟨v6, ev6, h⟩ := lt_s1 h
  refine top_i ev6 ?_
  refine lv_istore_n (lv' := [(3, .int v6), (0, .ref (bs + 22)), (1, .int x1), (2, .ref (bs + 16))]) hx hb dX5_spanOf_6 rfl hl (by decide) rfl (fun ls hl => ?_)
  refine lv_aload_n hx hb dX5_spanOf_7 rfl (lv_at hl 3 rfl) ?_
  refine g_R (C := RX2) (T := TX2) (N := 10) (ci := 2) 16 3 17 hx hb hts hown hK hP in_X2 rfl hcb okF_16_3 rfc_16_3 fl_56 dX5_spanOf_8 ?_
  refine lv_aload_n hx hb dX5_spanOf_11 rfl (lv_at hl 1 rfl) ?_
  refine g_R (C := RX5) (T := TX5) (N := 7) (ci := 5) 22 3 24 hx hb hts hown hK hP in_X5 rfl hcb okF_22_3 rfc_22_3 fl_52 dX5_spanOf_12 ?_
  refine lv_iload_n hx hb dX5_spanOf_15 rfl (lv_at hl 2 rfl) ?_
  obtain ⟨hi16, h⟩ := if_s1 h
  refine a_I 24 hx hb hK hP hcb aln_24 hi16 dX5_spanOf_16 ?_
  obtain ⟨hi17, h⟩ := if_s1 h
  refine a_I 17 hx hb hK hP hcb aln_17 hi17 dX5_spanOf_17 ?_
  obtain ⟨v18, ev18, h⟩ := lt_s1 h
  refine top_i ev18 ?_
  refine lv_istore (lv' := [(4, .int v18), (3, .int v6), (0, .ref (bs + 22)), (1, .int x1), (2, .ref (bs + 16))]) hx hb dX5_spanOf_18 hl (by decide) rfl (fun ls hl => ?_)
  refine lv_iload hx hb dX5_spanOf_20 (lv_at hl 0 rfl) ?_
  refine lv_istore (lv' := [(5, .int v18), (4, .int v18), (3, .int v6), (0, .ref (bs + 22)), (1, .int x1), (2, .ref (bs + 16))]) hx hb dX5_spanOf_22 hl (by decide) rfl (fun ls hl => ?_)
  refine lv_aload_n hx hb dX5_spanOf_24 rfl (lv_at hl 5 rfl) ?_
  refine g_R (C := RX2) (T := TX2) (N := 10) (ci := 2) 16 4 18 hx hb hts hown hK hP in_X2 rfl hcb okF_16_4 rfc_16_4 fl_57 dX5_spanOf_25 ?_
  refine lv_aload_n hx hb dX5_spanOf_28 rfl (lv_at hl 3 rfl) ?_
  refine g_R (C := RX5) (T := TX5) (N := 7) (ci := 5) 22 3 24 hx hb hts hown hK hP in_X5 rfl hcb okF_22_3 rfc_22_3 fl_52 dX5_spanOf_29 ?_
  refine lv_iload_n hx hb dX5_spanOf_32 rfl (lv_at hl 4 rfl) ?_
  obtain ⟨hi33, h⟩ := if_s1 h
  refine a_I 24 hx hb hK hP hcb aln_24 hi33 dX5_spanOf_33 ?_
  obtain ⟨hi34, h⟩ := if_s1 h
  refine a_I 18 hx hb hK hP hcb aln_18 hi34 dX5_spanOf_34 ?_
  obtain ⟨v35, ev35, h⟩ := lt_s1 h
  refine top_i ev35 ?_
  refine lv_istore (lv' := [(6, .int v35), (5, .int v18), (4, .int v18), (3, .int v6), (0, .ref (bs + 22)), (1, .int x1), (2, .ref (bs + 16))]) hx hb dX5_spanOf_35 hl (by decide) rfl (fun ls hl => ?_)
  refine lv_iload hx hb dX5_spanOf_37 (lv_at hl 0 rfl) ?_
  refine lv_istore (lv' := [(7, .int v35), (6, .int v35), (5, .int v18), (4, .int v18), (3, .int v6), (0, .ref (bs + 22)), (1, .int x1), (2, .ref (bs + 16))]) hx hb dX5_spanOf_39 hl (by decide) rfl (fun ls hl => ?_)
  refine lv_iconst (v := (0 : Int32)) hx hb dX5_spanOf_41 (by decide) ?_
  refine lv_istore (lv' := [(8, .int (0 : Int32)), (7, .int v35), (6, .int v35), (5, .int v18), (4, .int v18), (3, .int v6), (0, .ref (bs + 22)), (1, .int x1), (2, .ref (bs + 16))]) hx hb dX5_spanOf_42 hl (by decide) rfl (fun ls hl => ?_)
  exact vX5_spanOf_44 bs D y n  r Gc  n v6 v18 v18 v35 v35 (0 : Int32) I J _ _ _ hP hS (lv_sub hl [6, 8, 5, 4, 3, 2, 1, 0] rfl) h
