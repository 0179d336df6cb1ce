/-! walks: X10_thingAt X10_smooth X10_cost X10_manyTiles X10_wires X10_lesser X10_greater X10_price X10_findFar X10_backFrom X10_leadTo X10_takeOff X10_leadWire X10_lead -/
theorem dX10_thingAt_0 : decode cX10_thingAt 0 = .ok (.iload_n 1, 1) := by decide +kernel
theorem dX10_thingAt_1 : decode cX10_thingAt 1 = .ok (.istore_n 2, 1) := by decide +kernel
theorem dX10_thingAt_2 : decode cX10_thingAt 2 = .ok (.iconst 0, 1) := by decide +kernel
theorem dX10_thingAt_3 : decode cX10_thingAt 3 = .ok (.istore_n 3, 1) := by decide +kernel
theorem dX10_thingAt_4 : decode cX10_thingAt 4 = .ok (.iload_n 3, 1) := by decide +kernel
theorem dX10_thingAt_5 : decode cX10_thingAt 5 = .ok (.aload_n 0, 1) := by decide +kernel
theorem dX10_thingAt_6 : decode cX10_thingAt 6 = .ok (.getfield 123, 3) := by decide +kernel
theorem dX10_thingAt_9 : decode cX10_thingAt 9 = .ok (.if_icmp .ge 29, 3) := by decide +kernel
theorem dX10_thingAt_12 : decode cX10_thingAt 12 = .ok (.aload_n 0, 1) := by decide +kernel
theorem dX10_thingAt_13 : decode cX10_thingAt 13 = .ok (.iload_n 3, 1) := by decide +kernel
theorem dX10_thingAt_14 : decode cX10_thingAt 14 = .ok (.invokevirtual 236, 3) := by decide +kernel
theorem dX10_thingAt_17 : decode cX10_thingAt 17 = .ok (.ifCond .ne 6, 3) := by decide +kernel
theorem dX10_thingAt_20 : decode cX10_thingAt 20 = .ok (.goto 12, 3) := by decide +kernel
theorem dX10_thingAt_23 : decode cX10_thingAt 23 = .ok (.iload_n 2, 1) := by decide +kernel
theorem dX10_thingAt_24 : decode cX10_thingAt 24 = .ok (.ifCond .ne 5, 3) := by decide +kernel
theorem dX10_thingAt_27 : decode cX10_thingAt 27 = .ok (.iload_n 3, 1) := by decide +kernel
theorem dX10_thingAt_28 : decode cX10_thingAt 28 = .ok (.ireturn, 1) := by decide +kernel
theorem dX10_thingAt_29 : decode cX10_thingAt 29 = .ok (.iinc 2 (-1), 3) := by decide +kernel
theorem dX10_thingAt_32 : decode cX10_thingAt 32 = .ok (.iinc 3 1, 3) := by decide +kernel
theorem dX10_thingAt_35 : decode cX10_thingAt 35 = .ok (.goto (-31), 3) := by decide +kernel
theorem dX10_thingAt_38 : decode cX10_thingAt 38 = .ok (.iconst (-1), 1) := by decide +kernel
theorem dX10_thingAt_39 : decode cX10_thingAt 39 = .ok (.ireturn, 1) := by decide +kernel
set_option maxHeartbeats 4000000 in
set_option maxRecDepth 100000 in
theorem wX10_thingAt_32 {p : Program} {l : Launch} {e : Env} {s : State} {m : MethodId} {args : Array Value} {below : List Frame} {meth : Method} {c : Code} (bs : Nat) (D : va_G) (y : Y3) (n : Nat) (k4_ : Int32 → Int32 → MI → MJ → Option (Int32 × M2)) (r : Int32 × M2) (Gc : Gx p s m args meth c cX10_thingAt 4 RX10 bs D y (some .int) 76) (hk4_ : ∀ (x2 : Int32) (x3 : Int32) (I : MI) (J : MJ) (H : Heap) (locs : List Loc) (ls : Array Slot), va_P D vwCl (wl bs y I J) H → va_S (FA bs) s.heap H locs → lv_has ls 4 [(0, .ref (bs + 44)), (2, .int x2), (3, .int x3)] → k4_ x2 x3 I J = some r → W p l e (rmm 1 21) s m args below meth c H locs 0 0 (QI below args s bs D y r) (F0 m 4 ls [])) (x2 : Int32) (x3 : Int32) (I : MI) (J : MJ) (H : Heap) (locs : List Loc) (ls : Array Slot) (hP : va_P D vwCl (wl bs y I J) H) (hS : va_S (FA bs) s.heap H locs) (hl : lv_has ls 4 [(0, .ref (bs + 44)), (2, .int x2), (3, .int x3)]) (h : fX10_thingAt_32 n k4_ x2 x3 I J = some r) : W p l e (rmm 1 21) s m args below meth c H locs 0 0 (QI below args s bs D y r) (F0 m 32 ls []) := by
  obtain ⟨hx, hb, hml, hown, hts, hK, hN, hL, hr, hlocks, hcb⟩ := id Gc
  unfold fX10_thingAt_32 at h
  refine lv_iinc (v := (x3 + (1 : Int32))) (lv' := [(3, .int (x3 + (1 : Int32))), (0, .ref (bs + 44)), (2, .int x2)]) hx hb dX10_thingAt_32 hl (k := 2) rfl rfl (by decide) rfl (fun ls hl => ?_)
  refine lv_goto (tgt := 4) hx hb dX10_thingAt_35 (by decide) ?_
  exact hk4_ x2 (x3 + (1 : Int32)) I J _ _ _ hP hS (lv_sub hl [1, 2, 0] rfl) h
set_option maxHeartbeats 4000000 in
set_option maxRecDepth 100000 in
theorem wX10_thingAt_4 {p : Program} {l : Launch} {e : Env} {s : State} {m : MethodId} {args : Array Value} {below : List Frame} {meth : Method} {c : Code} (bs : Nat) (D : va_G) (y : Y3) (n : Nat) (k4_ : Int32 → Int32 → MI → MJ → Option (Int32 × M2)) (r : Int32 × M2) (Gc : Gx p s m args meth c cX10_thingAt 4 RX10 bs D y (some .int) 76) (hk4_ : ∀ (x2 : Int32) (x3 : Int32) (I : MI) (J : MJ) (H : Heap) (locs : List Loc) (ls : Array Slot), va_P D vwCl (wl bs y I J) H → va_S (FA bs) s.heap H locs → lv_has ls 4 [(0, .ref (bs + 44)), (2, .int x2), (3, .int x3)] → k4_ x2 x3 I J = some r → W p l e (rmm 1 21) s m args below meth c H locs 0 0 (QI below args s bs D y r) (F0 m 4 ls [])) (x2 : Int32) (x3 : Int32) (I : MI) (J : MJ) (H : Heap) (locs : List Loc) (ls : Array Slot) (hP : va_P D vwCl (wl bs y I J) H) (hS : va_S (FA bs) s.heap H locs) (hl : lv_has ls 4 [(0, .ref (bs + 44)), (2, .int x2), (3, .int x3)]) (h : fX10_thingAt_4 n k4_ x2 x3 I J = some r) : W p l e (rmm 1 21) s m args below meth c H locs 0 0 (QI below args s bs D y r) (F0 m 4 ls []) := by
  obtain ⟨hx, hb, hml, hown, hts, hK, hN, hL, hr, hlocks, hcb⟩ := id Gc
  unfold fX10_thingAt_4 at h
  refine lv_iload_n hx hb dX10_thingAt_4 rfl (lv_at hl 2 rfl) ?_
  refine lv_aload_n hx hb dX10_thingAt_5 rfl (lv_at hl 0 rfl) ?_
  refine g_I (C := RX10) (T := TX10) (N := 49) (ci := 10) 44 6 hx hb hts hown hK hP in_X10 rfl hcb okF_44_6 fl_141 dX10_thingAt_6 ?_
  refine lv_icmp_ge (tgt := 38) hx hb dX10_thingAt_9 (by decide) (fun c9 => ?_) (fun c9 => ?_)
  · replace h := if_t c9 h
    refine lv_iconst (v := (-1 : Int32)) hx hb dX10_thingAt_38 (by decide) ?_
    exact r_I hx hb hr hlocks hP hK hN hL hS h dX10_thingAt_39
  · replace h := if_f c9 h
    refine lv_aload_n hx hb dX10_thingAt_12 rfl (lv_at hl 0 rfl) ?_
    refine lv_iload_n hx hb dX10_thingAt_13 rfl (lv_at hl 2 rfl) ?_
    obtain ⟨r14, er14, h⟩ := bd_s1 h
    refine c_VI (k := 44) (ci := 10) (As := [.int x3]) (rest := []) hx hb hml hown hts hK hN hL hP hS (cX10_isThing_ l bs D y hcb n x3 I J r14 er14) ok_X10_isThing ov_X10_isThing ml_137 ⟨Nat.le_of_ble_eq_true rfl, Nat.le_of_ble_eq_true rfl⟩ rfl hcb kd_44 hl.1 rfl rfl (Nat.le_of_ble_eq_true rfl) ⟨Nat.zero_le _, Nat.zero_le _⟩ dX10_thingAt_14 (fun H locs hP hS => ?_)
    refine lv_if_ne (tgt := 23) hx hb dX10_thingAt_17 (by decide) (fun c17 => ?_) (fun c17 => ?_)
    · replace h := if_f c17 h
      refine lv_iload_n hx hb dX10_thingAt_23 rfl (lv_at hl 1 rfl) ?_
      refine lv_if_ne (tgt := 29) hx hb dX10_thingAt_24 (by decide) (fun c24 => ?_) (fun c24 => ?_)
      · replace h := if_f c24 h
        refine lv_iinc (v := (x2 + (-1 : Int32))) (lv' := [(2, .int (x2 + (-1 : Int32))), (0, .ref (bs + 44)), (3, .int x3)]) hx hb dX10_thingAt_29 hl (k := 1) rfl rfl (by decide) rfl (fun ls hl => ?_)
        exact wX10_thingAt_32 bs D y n k4_ r Gc hk4_ (x2 + (-1 : Int32)) x3 r14.2.1 r14.2.2 _ _ _ hP hS (lv_sub hl [1, 0, 2] rfl) h
      · replace h := if_t c24 h
        refine lv_iload_n hx hb dX10_thingAt_27 rfl (lv_at hl 2 rfl) ?_
        exact r_I hx hb hr hlocks hP hK hN hL hS h dX10_thingAt_28
    · replace h := if_t c17 h
      refine lv_goto (tgt := 32) hx hb dX10_thingAt_20 (by decide) ?_
      exact wX10_thingAt_32 bs D y n k4_ r Gc hk4_ x2 x3 r14.2.1 r14.2.2 _ _ _ hP hS (lv_sub hl [0, 1, 2] rfl) h
theorem vX10_thingAt_4 {p : Program} {l : Launch} {e : Env} {s : State} {m : MethodId} {args : Array Value} {below : List Frame} {meth : Method} {c : Code} (bs : Nat) (D : va_G) (y : Y3) (n : Nat) (r : Int32 × M2) (Gc : Gx p s m args meth c cX10_thingAt 4 RX10 bs D y (some .int) 76)  : ∀ (q : Nat) (x2 : Int32) (x3 : Int32) (I : MI) (J : MJ) (H : Heap) (locs : List Loc) (ls : Array Slot), va_P D vwCl (wl bs y I J) H → va_S (FA bs) s.heap H locs → lv_has ls 4 [(0, .ref (bs + 44)), (2, .int x2), (3, .int x3)] → lX10_thingAt_4 n  q x2 x3 I J = some r → W p l e (rmm 1 21) s m args below meth c H locs 0 0 (QI below args s bs D y r) (F0 m 4 ls []) := by
  intro q
  induction q with
  | zero =>
    intro x2 x3 I J H locs ls hP hS hl h
    have h : (none : Option (Int32 × M2)) = some r := h
    cases h
  | succ q ih =>
    intro x2 x3 I J H locs ls hP hS hl h
    have h : fX10_thingAt_4 n  (lX10_thingAt_4 n  q) x2 x3 I J = some r := h
    exact wX10_thingAt_4 bs D y n  (lX10_thingAt_4 n  q) r Gc  ih x2 x3 I J H locs ls hP hS hl h
set_option maxHeartbeats 4000000 in
set_option maxRecDepth 100000 in
theorem cX10_thingAt_ (l : Launch) (bs : Nat) (D : va_G) (y : Y3) (hcb : 76 ≤ y.2.2.2) (n : Nat) (x1 : Int32) (I : MI) (J : MJ) (r : Int32 × M2) (h : fX10_thingAt n x1 I J = some r) : Met l yX10_thingAt (.code yX10_thingAt cX10_thingAt 4 (some .int) :: gtb) (rmm 1 21) (va_Pc [.ref (bs + 44), .int x1] (HB bs D y I J)) (QcI bs D y r) 0 0 (FA bs) := by
  refine Met.ofW (cc := cX10_thingAt) (maxL := 4) (ret := (some .int)) (by decide) rfl ?_
  intro p e s m args below meth c s₁ B hml hv
  obtain ⟨rfl, hP, hK, hN, hL⟩ := hv
  have hx := B.exec
  have hb := B.bytes
  have hr := B.returns
  have hts0 := atoms_spec (ws := .code yX10_thingAt cX10_thingAt 4 (some .int) :: gtb) B.pre
  have hts : ∀ w ∈ gtb, w.before [.ref (bs + 44), .int x1].toArray s = true := fun w hw => hts0 w (List.mem_cons_of_mem _ hw)
  have hown : s.vm.findClass RX10 = some m.cls := findClass_of_methodNamed B.named
  have hlocks := B.notSynchronized
  have hS : va_S (FA bs) s.heap s.heap [] := va_S.rf
  have Gc : Gx p s m [.ref (bs + 44), .int x1].toArray meth c cX10_thingAt 4 RX10 bs D y (some .int) 76 := ⟨hx, hb, hml, hown, hts, hK, hN, hL, hr, hlocks, hcb⟩
  have hl := lv_entry [.ref (bs + 44), .int x1] (n := 4) (Nat.le_of_ble_eq_true rfl)
  rw [lg_entry_eq]
  generalize (lg_sl [.ref (bs + 44), .int x1] ++ List.replicate (4 - (lg_sl [.ref (bs + 44), .int x1]).length) Slot.unset).toArray = ls at hl ⊢
  have hl : lv_has ls 4 [(0, .ref (bs + 44)), (1, .int x1)] := hl
  change W p l e (rmm 1 21) s m [.ref (bs + 44), .int x1].toArray below meth c s.heap [] 0 0 (QI below [.ref (bs + 44), .int x1].toArray s bs D y r) (F0 m 0 ls [])
  unfold fX10_thingAt at h
  refine lv_iload_n hx hb dX10_thingAt_0 rfl (lv_at hl 1 rfl) ?_
  refine lv_istore_n (lv' := [(2, .int x1), (0, .ref (bs + 44)), (1, .int x1)]) hx hb dX10_thingAt_1 rfl hl (by decide) rfl (fun ls hl => ?_)
  refine lv_iconst (v := (0 : Int32)) hx hb dX10_thingAt_2 (by decide) ?_
  refine lv_istore_n (lv' := [(3, .int (0 : Int32)), (2, .int x1), (0, .ref (bs + 44)), (1, .int x1)]) hx hb dX10_thingAt_3 rfl hl (by decide) rfl (fun ls hl => ?_)
  exact vX10_thingAt_4 bs D y n  r Gc  n x1 (0 : Int32) I J _ _ _ hP hS (lv_sub hl [2, 1, 0] rfl) h
theorem dX10_smooth_0 : decode cX10_smooth 0 = .ok (.iload_n 1, 1) := by decide +kernel
theorem dX10_smooth_1 : decode cX10_smooth 1 = .ok (.ifCond .ge 10, 3) := by decide +kernel
theorem dX10_smooth_4 : decode cX10_smooth 4 = .ok (.aload_n 0, 1) := by decide +kernel
theorem dX10_smooth_5 : decode cX10_smooth 5 = .ok (.bipush (-4), 2) := by decide +kernel
theorem dX10_smooth_7 : decode cX10_smooth 7 = .ok (.invokevirtual 151, 3) := by decide +kernel
theorem dX10_smooth_10 : decode cX10_smooth 10 = .ok (.ireturn, 1) := by decide +kernel
theorem dX10_smooth_11 : decode cX10_smooth 11 = .ok (.iload_n 1, 1) := by decide +kernel
theorem dX10_smooth_12 : decode cX10_smooth 12 = .ok (.sipush 1000, 3) := by decide +kernel
theorem dX10_smooth_15 : decode cX10_smooth 15 = .ok (.if_icmp .le 10, 3) := by decide +kernel
theorem dX10_smooth_18 : decode cX10_smooth 18 = .ok (.aload_n 0, 1) := by decide +kernel
theorem dX10_smooth_19 : decode cX10_smooth 19 = .ok (.bipush (-7), 2) := by decide +kernel
theorem dX10_smooth_21 : decode cX10_smooth 21 = .ok (.invokevirtual 151, 3) := by decide +kernel
theorem dX10_smooth_24 : decode cX10_smooth 24 = .ok (.ireturn, 1) := by decide +kernel
theorem dX10_smooth_25 : decode cX10_smooth 25 = .ok (.aload_n 0, 1) := by decide +kernel
theorem dX10_smooth_26 : decode cX10_smooth 26 = .ok (.getfield 130, 3) := by decide +kernel
theorem dX10_smooth_29 : decode cX10_smooth 29 = .ok (.ifCond .ne 10, 3) := by decide +kernel
theorem dX10_smooth_32 : decode cX10_smooth 32 = .ok (.aload_n 0, 1) := by decide +kernel
theorem dX10_smooth_33 : decode cX10_smooth 33 = .ok (.bipush (-2), 2) := by decide +kernel
theorem dX10_smooth_35 : decode cX10_smooth 35 = .ok (.invokevirtual 151, 3) := by decide +kernel
theorem dX10_smooth_38 : decode cX10_smooth 38 = .ok (.ireturn, 1) := by decide +kernel
theorem dX10_smooth_39 : decode cX10_smooth 39 = .ok (.iconst 0, 1) := by decide +kernel
theorem dX10_smooth_40 : decode cX10_smooth 40 = .ok (.istore 4, 2) := by decide +kernel
theorem dX10_smooth_42 : decode cX10_smooth 42 = .ok (.aload_n 0, 1) := by decide +kernel
theorem dX10_smooth_43 : decode cX10_smooth 43 = .ok (.invokevirtual 239, 3) := by decide +kernel
theorem dX10_smooth_46 : decode cX10_smooth 46 = .ok (.istore 5, 2) := by decide +kernel
theorem dX10_smooth_48 : decode cX10_smooth 48 = .ok (.lload_n 2, 1) := by decide +kernel
theorem dX10_smooth_49 : decode cX10_smooth 49 = .ok (.lstore 6, 2) := by decide +kernel
theorem dX10_smooth_51 : decode cX10_smooth 51 = .ok (.aload_n 0, 1) := by decide +kernel
theorem dX10_smooth_52 : decode cX10_smooth 52 = .ok (.invokevirtual 251, 3) := by decide +kernel
theorem dX10_smooth_55 : decode cX10_smooth 55 = .ok (.istore 8, 2) := by decide +kernel
theorem dX10_smooth_57 : decode cX10_smooth 57 = .ok (.iconst 0, 1) := by decide +kernel
theorem dX10_smooth_58 : decode cX10_smooth 58 = .ok (.istore 9, 2) := by decide +kernel
theorem dX10_smooth_60 : decode cX10_smooth 60 = .ok (.iload 9, 2) := by decide +kernel
theorem dX10_smooth_62 : decode cX10_smooth 62 = .ok (.iload_n 1, 1) := by decide +kernel
theorem dX10_smooth_63 : decode cX10_smooth 63 = .ok (.if_icmp .ge 107, 3) := by decide +kernel
theorem dX10_smooth_66 : decode cX10_smooth 66 = .ok (.iload 5, 2) := by decide +kernel
theorem dX10_smooth_68 : decode cX10_smooth 68 = .ok (.ifCond .le 102, 3) := by decide +kernel
theorem dX10_smooth_71 : decode cX10_smooth 71 = .ok (.lload 6, 2) := by decide +kernel
theorem dX10_smooth_73 : decode cX10_smooth 73 = .ok (.ldc2_w 254, 3) := by decide +kernel
theorem dX10_smooth_76 : decode cX10_smooth 76 = .ok (.lmul, 1) := by decide +kernel
theorem dX10_smooth_77 : decode cX10_smooth 77 = .ok (.ldc2_w 256, 3) := by decide +kernel
theorem dX10_smooth_80 : decode cX10_smooth 80 = .ok (.ladd, 1) := by decide +kernel
theorem dX10_smooth_81 : decode cX10_smooth 81 = .ok (.lstore 6, 2) := by decide +kernel
theorem dX10_smooth_83 : decode cX10_smooth 83 = .ok (.aload_n 0, 1) := by decide +kernel
theorem dX10_smooth_84 : decode cX10_smooth 84 = .ok (.lload 6, 2) := by decide +kernel
theorem dX10_smooth_86 : decode cX10_smooth 86 = .ok (.bipush 33, 2) := by decide +kernel
theorem dX10_smooth_88 : decode cX10_smooth 88 = .ok (.lushr, 1) := by decide +kernel
theorem dX10_smooth_89 : decode cX10_smooth 89 = .ok (.l2i, 1) := by decide +kernel
theorem dX10_smooth_90 : decode cX10_smooth 90 = .ok (.iload 5, 2) := by decide +kernel
theorem dX10_smooth_92 : decode cX10_smooth 92 = .ok (.irem, 1) := by decide +kernel
theorem dX10_smooth_93 : decode cX10_smooth 93 = .ok (.invokevirtual 258, 3) := by decide +kernel
theorem dX10_smooth_96 : decode cX10_smooth 96 = .ok (.istore 10, 2) := by decide +kernel
theorem dX10_smooth_98 : decode cX10_smooth 98 = .ok (.lload 6, 2) := by decide +kernel
theorem dX10_smooth_100 : decode cX10_smooth 100 = .ok (.ldc2_w 254, 3) := by decide +kernel
theorem dX10_smooth_103 : decode cX10_smooth 103 = .ok (.lmul, 1) := by decide +kernel
theorem dX10_smooth_104 : decode cX10_smooth 104 = .ok (.ldc2_w 256, 3) := by decide +kernel
theorem dX10_smooth_107 : decode cX10_smooth 107 = .ok (.ladd, 1) := by decide +kernel
theorem dX10_smooth_108 : decode cX10_smooth 108 = .ok (.lstore 6, 2) := by decide +kernel
theorem dX10_smooth_110 : decode cX10_smooth 110 = .ok (.aload_n 0, 1) := by decide +kernel
theorem dX10_smooth_111 : decode cX10_smooth 111 = .ok (.lload 6, 2) := by decide +kernel
theorem dX10_smooth_113 : decode cX10_smooth 113 = .ok (.bipush 33, 2) := by decide +kernel
theorem dX10_smooth_115 : decode cX10_smooth 115 = .ok (.lushr, 1) := by decide +kernel
theorem dX10_smooth_116 : decode cX10_smooth 116 = .ok (.l2i, 1) := by decide +kernel
theorem dX10_smooth_117 : decode cX10_smooth 117 = .ok (.iload 5, 2) := by decide +kernel
theorem dX10_smooth_119 : decode cX10_smooth 119 = .ok (.irem, 1) := by decide +kernel
theorem dX10_smooth_120 : decode cX10_smooth 120 = .ok (.invokevirtual 258, 3) := by decide +kernel
theorem dX10_smooth_123 : decode cX10_smooth 123 = .ok (.istore 11, 2) := by decide +kernel
theorem dX10_smooth_125 : decode cX10_smooth 125 = .ok (.aload_n 0, 1) := by decide +kernel
theorem dX10_smooth_126 : decode cX10_smooth 126 = .ok (.iload 10, 2) := by decide +kernel
theorem dX10_smooth_128 : decode cX10_smooth 128 = .ok (.iload 11, 2) := by decide +kernel
theorem dX10_smooth_130 : decode cX10_smooth 130 = .ok (.invokevirtual 248, 3) := by decide +kernel
theorem dX10_smooth_133 : decode cX10_smooth 133 = .ok (.aload_n 0, 1) := by decide +kernel
theorem dX10_smooth_134 : decode cX10_smooth 134 = .ok (.invokevirtual 251, 3) := by decide +kernel
theorem dX10_smooth_137 : decode cX10_smooth 137 = .ok (.istore 12, 2) := by decide +kernel
theorem dX10_smooth_139 : decode cX10_smooth 139 = .ok (.iload 12, 2) := by decide +kernel
theorem dX10_smooth_141 : decode cX10_smooth 141 = .ok (.iload 8, 2) := by decide +kernel
theorem dX10_smooth_143 : decode cX10_smooth 143 = .ok (.if_icmp .le 14, 3) := by decide +kernel
theorem dX10_smooth_146 : decode cX10_smooth 146 = .ok (.aload_n 0, 1) := by decide +kernel
theorem dX10_smooth_147 : decode cX10_smooth 147 = .ok (.iload 10, 2) := by decide +kernel
theorem dX10_smooth_149 : decode cX10_smooth 149 = .ok (.iload 11, 2) := by decide +kernel
theorem dX10_smooth_151 : decode cX10_smooth 151 = .ok (.invokevirtual 248, 3) := by decide +kernel
theorem dX10_smooth_154 : decode cX10_smooth 154 = .ok (.goto 10, 3) := by decide +kernel
theorem dX10_smooth_157 : decode cX10_smooth 157 = .ok (.iload 12, 2) := by decide +kernel
theorem dX10_smooth_159 : decode cX10_smooth 159 = .ok (.istore 8, 2) := by decide +kernel
theorem dX10_smooth_161 : decode cX10_smooth 161 = .ok (.iinc 4 1, 3) := by decide +kernel
theorem dX10_smooth_164 : decode cX10_smooth 164 = .ok (.iinc 9 1, 3) := by decide +kernel
theorem dX10_smooth_167 : decode cX10_smooth 167 = .ok (.goto (-107), 3) := by decide +kernel
theorem dX10_smooth_170 : decode cX10_smooth 170 = .ok (.aload_n 0, 1) := by decide +kernel
theorem dX10_smooth_171 : decode cX10_smooth 171 = .ok (.invokevirtual 220, 3) := by decide +kernel
theorem dX10_smooth_174 : decode cX10_smooth 174 = .ok (.iload 4, 2) := by decide +kernel
theorem dX10_smooth_176 : decode cX10_smooth 176 = .ok (.ireturn, 1) := by decide +kernel
set_option maxHeartbeats 4000000 in
set_option maxRecDepth 100000 in
theorem wX10_smooth_170 {p : Program} {l : Launch} {e : Env} {s : State} {m : MethodId} {args : Array Value} {below : List Frame} {meth : Method} {c : Code} (bs : Nat) (D : va_G) (y : Y3) (n : Nat) (r : Int32 × M2) (Gc : Gx p s m args meth c cX10_smooth 13 RX10 bs D y (some .int) 76)  (x4 : Int32) (I : MI) (J : MJ) (H : Heap) (locs : List Loc) (ls : Array Slot) (hP : va_P D vwCl (wl bs y I J) H) (hS : va_S (FA bs) s.heap H locs) (hl : lv_has ls 13 [(0, .ref (bs + 44)), (4, .int x4)]) (h : fX10_smooth_170 n  x4 I J = some r) : W p l e (rmm 4 99) s m args below meth c H locs 0 0 (QI below args s bs D y r) (F0 m 170 ls []) := by
  obtain ⟨hx, hb, hml, hown, hts, hK, hN, hL, hr, hlocks, hcb⟩ := id Gc
  unfold fX10_smooth_170 at h
  refine lv_aload_n hx hb dX10_smooth_170 rfl (lv_at hl 0 rfl) ?_
  obtain ⟨r171, er171, h⟩ := bd_s1 h
  refine c_VV (k := 44) (ci := 10) (As := []) (rest := []) hx hb hml hown hts hK hN hL hP hS (cX10_moved_ l bs D y hcb n  I J r171 er171) ok_X10_moved ov_X10_moved ml_133 ⟨Nat.le_of_ble_eq_true rfl, Nat.le_of_ble_eq_true rfl⟩ rfl hcb kd_44 hl.1 rfl rfl (Nat.le_of_ble_eq_true rfl) ⟨Nat.zero_le _, Nat.zero_le _⟩ dX10_smooth_171 (fun H locs hP hS => ?_)
  refine lv_iload hx hb dX10_smooth_174 (lv_at hl 1 rfl) ?_
  exact r_I hx hb hr hlocks hP hK hN hL hS h dX10_smooth_176
set_option maxHeartbeats 4000000 in
set_option maxRecDepth 100000 in
theorem wX10_smooth_164 {p : Program} {l : Launch} {e : Env} {s : State} {m : MethodId} {args : Array Value} {below : List Frame} {meth : Method} {c : Code} (bs : Nat) (D : va_G) (y : Y3) (n : Nat) (k60_ : Int32 → Int32 → Int32 → Int64 → Int32 → Int32 → MI → MJ → Option (Int32 × M2)) (r : Int32 × M2) (Gc : Gx p s m args meth c cX10_smooth 13 RX10 bs D y (some .int) 76) (hk60_ : ∀ (x1 : Int32) (x4 : Int32) (x5 : Int32) (x6 : Int64) (x8 : Int32) (x9 : Int32) (I : MI) (J : MJ) (H : Heap) (locs : List Loc) (ls : Array Slot), va_P D vwCl (wl bs y I J) H → va_S (FA bs) s.heap H locs → lv_has ls 13 [(0, .ref (bs + 44)), (1, .int x1), (4, .int x4), (5, .int x5), (6, .long x6), (8, .int x8), (9, .int x9)] → k60_ x1 x4 x5 x6 x8 x9 I J = some r → W p l e (rmm 4 99) s m args below meth c H locs 0 0 (QI below args s bs D y r) (F0 m 60 ls [])) (x1 : Int32) (x4 : Int32) (x5 : Int32) (x6 : Int64) (x8 : Int32) (x9 : Int32) (I : MI) (J : MJ) (H : Heap) (locs : List Loc) (ls : Array Slot) (hP : va_P D vwCl (wl bs y I J) H) (hS : va_S (FA bs) s.heap H locs) (hl : lv_has ls 13 [(0, .ref (bs + 44)), (1, .int x1), (4, .int x4), (5, .int x5), (6, .long x6), (8, .int x8), (9, .int x9)]) (h : fX10_smooth_164 n k60_ x1 x4 x5 x6 x8 x9 I J = some r) : W p l e (rmm 4 99) s m args below meth c H locs 0 0 (QI below args s bs D y r) (F0 m 164 ls []) := by
  obtain ⟨hx, hb, hml, hown, hts, hK, hN, hL, hr, hlocks, hcb⟩ := id Gc
  unfold fX10_smooth_164 at h
  refine lv_iinc (v := (x9 + (1 : Int32))) (lv' := [(9, .int (x9 + (1 : Int32))), (0, .ref (bs + 44)), (1, .int x1), (4, .int x4), (5, .int x5), (6, .long x6), (8, .int x8)]) hx hb dX10_smooth_164 hl (k := 6) rfl rfl (by decide) rfl (fun ls hl => ?_)
  refine lv_goto (tgt := 60) hx hb dX10_smooth_167 (by decide) ?_
  exact hk60_ x1 x4 x5 x6 x8 (x9 + (1 : Int32)) I J _ _ _ hP hS (lv_sub hl [1, 2, 3, 4, 5, 6, 0] rfl) h
set_option maxHeartbeats 4000000 in
set_option maxRecDepth 100000 in
theorem wX10_smooth_60 {p : Program} {l : Launch} {e : Env} {s : State} {m : MethodId} {args : Array Value} {below : List Frame} {meth : Method} {c : Code} (bs : Nat) (D : va_G) (y : Y3) (n : Nat) (k60_ : Int32 → Int32 → Int32 → Int64 → Int32 → Int32 → MI → MJ → Option (Int32 × M2)) (r : Int32 × M2) (Gc : Gx p s m args meth c cX10_smooth 13 RX10 bs D y (some .int) 76) (hk60_ : ∀ (x1 : Int32) (x4 : Int32) (x5 : Int32) (x6 : Int64) (x8 : Int32) (x9 : Int32) (I : MI) (J : MJ) (H : Heap) (locs : List Loc) (ls : Array Slot), va_P D vwCl (wl bs y I J) H → va_S (FA bs) s.heap H locs → lv_has ls 13 [(0, .ref (bs + 44)), (1, .int x1), (4, .int x4), (5, .int x5), (6, .long x6), (8, .int x8), (9, .int x9)] → k60_ x1 x4 x5 x6 x8 x9 I J = some r → W p l e (rmm 4 99) s m args below meth c H locs 0 0 (QI below args s bs D y r) (F0 m 60 ls [])) (x1 : Int32) (x4 : Int32) (x5 : Int32) (x6 : Int64) (x8 : Int32) (x9 : Int32) (I : MI) (J : MJ) (H : Heap) (locs : List Loc) (ls : Array Slot) (hP : va_P D vwCl (wl bs y I J) H) (hS : va_S (FA bs) s.heap H locs) (hl : lv_has ls 13 [(0, .ref (bs + 44)), (1, .int x1), (4, .int x4), (5, .int x5), (6, .long x6), (8, .int x8), (9, .int x9)]) (h : fX10_smooth_60 n k60_ x1 x4 x5 x6 x8 x9 I J = some r) : W p l e (rmm 4 99) s m args below meth c H locs 0 0 (QI below args s bs D y r) (F0 m 60 ls []) := by
  obtain ⟨hx, hb, hml, hown, hts, hK, hN, hL, hr, hlocks, hcb⟩ := id Gc
  unfold fX10_smooth_60 at h
  refine lv_iload hx hb dX10_smooth_60 (lv_at hl 6 rfl) ?_
  refine lv_iload_n hx hb dX10_smooth_62 rfl (lv_at hl 1 rfl) ?_
  refine lv_icmp_ge (tgt := 170) hx hb dX10_smooth_63 (by decide) (fun c63 => ?_) (fun c63 => ?_)
  · replace h := if_t c63 h
    exact wX10_smooth_170 bs D y n  r Gc  x4 I J _ _ _ hP hS (lv_sub hl [0, 2] rfl) h
  · replace h := if_f c63 h
    refine lv_iload hx hb dX10_smooth_66 (lv_at hl 3 rfl) ?_
    refine lv_if_le (tgt := 170) hx hb dX10_smooth_68 (by decide) (fun c68 => ?_) (fun c68 => ?_)
    · replace h := if_t c68 h
      exact wX10_smooth_170 bs D y n  r Gc  x4 I J _ _ _ hP hS (lv_sub hl [0, 2] rfl) h
    · replace h := if_f c68 h
      refine lv_lload hx hb dX10_smooth_71 (lv_at hl 4 rfl) ?_
      refine lv_ldc2 hx hb hown (hts _ cl_15) dX10_smooth_73 ?_
      refine lv_lmul hx hb dX10_smooth_76 ?_
      refine lv_ldc2 hx hb hown (hts _ cl_16) dX10_smooth_77 ?_
      refine lv_ladd hx hb dX10_smooth_80 ?_
      obtain ⟨v81, ev81, h⟩ := lt_s1 h
      refine top_j ev81 ?_
      refine lv_lstore (lv' := [(6, .long v81), (0, .ref (bs + 44)), (1, .int x1), (4, .int x4), (5, .int x5), (8, .int x8), (9, .int x9)]) hx hb dX10_smooth_81 hl (by decide) rfl (fun ls hl => ?_)
      refine lv_aload_n hx hb dX10_smooth_83 rfl (lv_at hl 1 rfl) ?_
      refine lv_lload hx hb dX10_smooth_84 (lv_at hl 0 rfl) ?_
      refine lv_bipush (v := (33 : Int32)) hx hb dX10_smooth_86 (by decide) ?_
      refine lv_lushr (v := (ushrL v81 (33 : Int32))) hx hb dX10_smooth_88 rfl ?_
      refine lv_l2i (v := ((ushrL v81 (33 : Int32))).toInt32) hx hb dX10_smooth_89 rfl ?_
      refine lv_iload hx hb dX10_smooth_90 (lv_at hl 4 rfl) ?_
      obtain ⟨hz92, h⟩ := if_s1 h
      refine lv_irem hx hb dX10_smooth_92 (of_decide_eq_true hz92) ?_
      obtain ⟨r93, er93, h⟩ := bd_s1 h
      refine c_VI (k := 44) (ci := 10) (As := [.int (((ushrL v81 (33 : Int32))).toInt32 - ((ushrL v81 (33 : Int32))).toInt32 / x5 * x5)]) (rest := []) hx hb hml hown hts hK hN hL hP hS (cX10_thingAt_ l bs D y hcb n (((ushrL v81 (33 : Int32))).toInt32 - ((ushrL v81 (33 : Int32))).toInt32 / x5 * x5) I J r93 er93) ok_X10_thingAt ov_X10_thingAt ml_147 ⟨Nat.le_of_ble_eq_true rfl, Nat.le_of_ble_eq_true rfl⟩ rfl hcb kd_44 hl.1 rfl rfl (Nat.le_of_ble_eq_true rfl) ⟨Nat.zero_le _, Nat.zero_le _⟩ dX10_smooth_93 (fun H locs hP hS => ?_)
      obtain ⟨v96, ev96, h⟩ := lt_s1 h
      refine top_i ev96 ?_
      refine lv_istore (lv' := [(10, .int v96), (6, .long v81), (0, .ref (bs + 44)), (1, .int x1), (4, .int x4), (5, .int x5), (8, .int x8), (9, .int x9)]) hx hb dX10_smooth_96 hl (by decide) rfl (fun ls hl => ?_)
      refine lv_lload hx hb dX10_smooth_98 (lv_at hl 1 rfl) ?_
      refine lv_ldc2 hx hb hown (hts _ cl_15) dX10_smooth_100 ?_
      refine lv_lmul hx hb dX10_smooth_103 ?_
      refine lv_ldc2 hx hb hown (hts _ cl_16) dX10_smooth_104 ?_
      refine lv_ladd hx hb dX10_smooth_107 ?_
      obtain ⟨v108, ev108, h⟩ := lt_s1 h
      refine top_j ev108 ?_
      refine lv_lstore (lv' := [(6, .long v108), (10, .int v96), (0, .ref (bs + 44)), (1, .int x1), (4, .int x4), (5, .int x5), (8, .int x8), (9, .int x9)]) hx hb dX10_smooth_108 hl (by decide) rfl (fun ls hl => ?_)
      refine lv_aload_n hx hb dX10_smooth_110 rfl (lv_at hl 2 rfl) ?_
      refine lv_lload hx hb dX10_smooth_111 (lv_at hl 0 rfl) ?_
      refine lv_bipush (v := (33 : Int32)) hx hb dX10_smooth_113 (by decide) ?_
      refine lv_lushr (v := (ushrL v108 (33 : Int32))) hx hb dX10_smooth_115 rfl ?_
      refine lv_l2i (v := ((ushrL v108 (33 : Int32))).toInt32) hx hb dX10_smooth_116 rfl ?_
      refine lv_iload hx hb dX10_smooth_117 (lv_at hl 5 rfl) ?_
      obtain ⟨hz119, h⟩ := if_s1 h
      refine lv_irem hx hb dX10_smooth_119 (of_decide_eq_true hz119) ?_
      obtain ⟨r120, er120, h⟩ := bd_s1 h
      refine c_VI (k := 44) (ci := 10) (As := [.int (((ushrL v108 (33 : Int32))).toInt32 - ((ushrL v108 (33 : Int32))).toInt32 / x5 * x5)]) (rest := []) hx hb hml hown hts hK hN hL hP hS (cX10_thingAt_ l bs D y hcb n (((ushrL v108 (33 : Int32))).toInt32 - ((ushrL v108 (33 : Int32))).toInt32 / x5 * x5) r93.2.1 r93.2.2 r120 er120) ok_X10_thingAt ov_X10_thingAt ml_147 ⟨Nat.le_of_ble_eq_true rfl, Nat.le_of_ble_eq_true rfl⟩ rfl hcb kd_44 hl.1 rfl rfl (Nat.le_of_ble_eq_true rfl) ⟨Nat.zero_le _, Nat.zero_le _⟩ dX10_smooth_120 (fun H locs hP hS => ?_)
      obtain ⟨v123, ev123, h⟩ := lt_s1 h
      refine top_i ev123 ?_
      refine lv_istore (lv' := [(11, .int v123), (6, .long v108), (10, .int v96), (0, .ref (bs + 44)), (1, .int x1), (4, .int x4), (5, .int x5), (8, .int x8), (9, .int x9)]) hx hb dX10_smooth_123 hl (by decide) rfl (fun ls hl => ?_)
      refine lv_aload_n hx hb dX10_smooth_125 rfl (lv_at hl 3 rfl) ?_
      refine lv_iload hx hb dX10_smooth_126 (lv_at hl 2 rfl) ?_
      refine lv_iload hx hb dX10_smooth_128 (lv_at hl 0 rfl) ?_
      obtain ⟨r130, er130, h⟩ := bd_s1 h
      refine c_VV (k := 44) (ci := 10) (As := [.int v96, .int v123]) (rest := []) hx hb hml hown hts hK hN hL hP hS (cX10_swaps_ l bs D y hcb n v96 v123 r120.2.1 r120.2.2 r130 er130) ok_X10_swaps ov_X10_swaps ml_145 ⟨Nat.le_of_ble_eq_true rfl, Nat.le_of_ble_eq_true rfl⟩ rfl hcb kd_44 hl.1 rfl rfl (Nat.le_of_ble_eq_true rfl) ⟨Nat.zero_le _, Nat.zero_le _⟩ dX10_smooth_130 (fun H locs hP hS => ?_)
      refine lv_aload_n hx hb dX10_smooth_133 rfl (lv_at hl 3 rfl) ?_
      obtain ⟨r134, er134, h⟩ := bd_s1 h
      refine c_VI (k := 44) (ci := 10) (As := []) (rest := []) hx hb hml hown hts hK hN hL hP hS (cX10_costs_ l bs D y hcb n  r130.1 r130.2 r134 er134) ok_X10_costs ov_X10_costs ml_146 ⟨Nat.le_of_ble_eq_true rfl, Nat.le_of_ble_eq_true rfl⟩ rfl hcb kd_44 hl.1 rfl rfl (Nat.le_of_ble_eq_true rfl) ⟨Nat.zero_le _, Nat.zero_le _⟩ dX10_smooth_134 (fun H locs hP hS => ?_)
      obtain ⟨v137, ev137, h⟩ := lt_s1 h
      refine top_i ev137 ?_
      refine lv_istore (lv' := [(12, .int v137), (11, .int v123), (6, .long v108), (10, .int v96), (0, .ref (bs + 44)), (1, .int x1), (4, .int x4), (5, .int x5), (8, .int x8), (9, .int x9)]) hx hb dX10_smooth_137 hl (by decide) rfl (fun ls hl => ?_)
      refine lv_iload hx hb dX10_smooth_139 (lv_at hl 0 rfl) ?_
      refine lv_iload hx hb dX10_smooth_141 (lv_at hl 8 rfl) ?_
      refine lv_icmp_le (tgt := 157) hx hb dX10_smooth_143 (by decide) (fun c143 => ?_) (fun c143 => ?_)
      · replace h := if_t c143 h
        refine lv_iload hx hb dX10_smooth_157 (lv_at hl 0 rfl) ?_
        refine lv_istore (lv' := [(8, .int v137), (12, .int v137), (11, .int v123), (6, .long v108), (10, .int v96), (0, .ref (bs + 44)), (1, .int x1), (4, .int x4), (5, .int x5), (9, .int x9)]) hx hb dX10_smooth_159 hl (by decide) rfl (fun ls hl => ?_)
        refine lv_iinc (v := (x4 + (1 : Int32))) (lv' := [(4, .int (x4 + (1 : Int32))), (8, .int v137), (12, .int v137), (11, .int v123), (6, .long v108), (10, .int v96), (0, .ref (bs + 44)), (1, .int x1), (5, .int x5), (9, .int x9)]) hx hb dX10_smooth_161 hl (k := 7) rfl rfl (by decide) rfl (fun ls hl => ?_)
        exact wX10_smooth_164 bs D y n k60_ r Gc hk60_ x1 (x4 + (1 : Int32)) x5 v108 v137 x9 r134.2.1 r134.2.2 _ _ _ hP hS (lv_sub hl [6, 7, 0, 8, 4, 1, 9] rfl) h
      · replace h := if_f c143 h
        refine lv_aload_n hx hb dX10_smooth_146 rfl (lv_at hl 4 rfl) ?_
        refine lv_iload hx hb dX10_smooth_147 (lv_at hl 3 rfl) ?_
        refine lv_iload hx hb dX10_smooth_149 (lv_at hl 1 rfl) ?_
        obtain ⟨r151, er151, h⟩ := bd_s1 h
        refine c_VV (k := 44) (ci := 10) (As := [.int v96, .int v123]) (rest := []) hx hb hml hown hts hK hN hL hP hS (cX10_swaps_ l bs D y hcb n v96 v123 r134.2.1 r134.2.2 r151 er151) ok_X10_swaps ov_X10_swaps ml_145 ⟨Nat.le_of_ble_eq_true rfl, Nat.le_of_ble_eq_true rfl⟩ rfl hcb kd_44 hl.1 rfl rfl (Nat.le_of_ble_eq_true rfl) ⟨Nat.zero_le _, Nat.zero_le _⟩ dX10_smooth_151 (fun H locs hP hS => ?_)
        refine lv_goto (tgt := 164) hx hb dX10_smooth_154 (by decide) ?_
        exact wX10_smooth_164 bs D y n k60_ r Gc hk60_ x1 x4 x5 v108 x8 x9 r151.1 r151.2 _ _ _ hP hS (lv_sub hl [4, 5, 6, 7, 2, 8, 9] rfl) h
theorem vX10_smooth_60 {p : Program} {l : Launch} {e : Env} {s : State} {m : MethodId} {args : Array Value} {below : List Frame} {meth : Method} {c : Code} (bs : Nat) (D : va_G) (y : Y3) (n : Nat) (r : Int32 × M2) (Gc : Gx p s m args meth c cX10_smooth 13 RX10 bs D y (some .int) 76)  : ∀ (q : Nat) (x1 : Int32) (x4 : Int32) (x5 : Int32) (x6 : Int64) (x8 : Int32) (x9 : Int32) (I : MI) (J : MJ) (H : Heap) (locs : List Loc) (ls : Array Slot), va_P D vwCl (wl bs y I J) H → va_S (FA bs) s.heap H locs → lv_has ls 13 [(0, .ref (bs + 44)), (1, .int x1), (4, .int x4), (5, .int x5), (6, .long x6), (8, .int x8), (9, .int x9)] → lX10_smooth_60 n  q x1 x4 x5 x6 x8 x9 I J = some r → W p l e (rmm 4 99) s m args below meth c H locs 0 0 (QI below args s bs D y r) (F0 m 60 ls []) := by
  intro q
  induction q with
  | zero =>
    intro x1 x4 x5 x6 x8 x9 I J H locs ls hP hS hl h
    have h : (none : Option (Int32 × M2)) = some r := h
    cases h
  | succ q ih =>
    intro x1 x4 x5 x6 x8 x9 I J H locs ls hP hS hl h
    have h : fX10_smooth_60 n  (lX10_smooth_60 n  q) x1 x4 x5 x6 x8 x9 I J = some r := h
    exact wX10_smooth_60 bs D y n  (lX10_smooth_60 n  q) r Gc  ih x1 x4 x5 x6 x8 x9 I J H locs ls hP hS hl h
set_option maxHeartbeats 4000000 in
set_option maxRecDepth 100000 in
theorem cX10_smooth_ (l : Launch) (bs : Nat) (D : va_G) (y : Y3) (hcb : 76 ≤ y.2.2.2) (n : Nat) (x1 : Int32) (x2 : Int64) (I : MI) (J : MJ) (r : Int32 × M2) (h : fX10_smooth n x1 x2 I J = some r) : Met l yX10_smooth (.code yX10_smooth cX10_smooth 13 (some .int) :: gtb) (rmm 4 99) (va_Pc [.ref (bs + 44), .int x1, .long x2] (HB bs D y I J)) (QcI bs D y r) 0 0 (FA bs) := by
  refine Met.ofW (cc := cX10_smooth) (maxL := 13) (ret := (some .int)) (by decide) rfl ?_
  intro p e s m args below meth c s₁ B hml hv
  obtain ⟨rfl, hP, hK, hN, hL⟩ := hv
  have hx := B.exec
  have hb := B.bytes
  have hr := B.returns
  have hts0 := atoms_spec (ws := .code yX10_smooth cX10_smooth 13 (some .int) :: gtb) B.pre
  have hts : ∀ w ∈ gtb, w.before [.ref (bs + 44), .int x1, .long x2].toArray s = true := fun w hw => hts0 w (List.mem_cons_of_mem _ hw)
  have hown : s.vm.findClass RX10 = some m.cls := findClass_of_methodNamed B.named
  have hlocks := B.notSynchronized
  have hS : va_S (FA bs) s.heap s.heap [] := va_S.rf
  have Gc : Gx p s m [.ref (bs + 44), .int x1, .long x2].toArray meth c cX10_smooth 13 RX10 bs D y (some .int) 76 := ⟨hx, hb, hml, hown, hts, hK, hN, hL, hr, hlocks, hcb⟩
  have hl := lv_entry [.ref (bs + 44), .int x1, .long x2] (n := 13) (Nat.le_of_ble_eq_true rfl)
  rw [lg_entry_eq]
  generalize (lg_sl [.ref (bs + 44), .int x1, .long x2] ++ List.replicate (13 - (lg_sl [.ref (bs + 44), .int x1, .long x2]).length) Slot.unset).toArray = ls at hl ⊢
  have hl : lv_has ls 13 [(0, .ref (bs + 44)), (1, .int x1), (2, .long x2)] := hl
  change W p l e (rmm 4 99) s m [.ref (bs + 44), .int x1, .long x2].toArray below meth c s.heap [] 0 0 (QI below [.ref (bs + 44), .int x1, .long x2].toArray s bs D y r) (F0 m 0 ls [])
  unfold fX10_smooth at h
  refine lv_iload_n hx hb dX10_smooth_0 rfl (lv_at hl 1 rfl) ?_
  refine lv_if_ge (tgt := 11) hx hb dX10_smooth_1 (by decide) (fun c1 => ?_) (fun c1 => ?_)
  · replace h := if_t c1 h
    refine lv_iload_n hx hb dX10_smooth_11 rfl (lv_at hl 1 rfl) ?_
    refine lv_sipush (v := (1000 : Int32)) hx hb dX10_smooth_12 (by decide) ?_
    refine lv_icmp_le (tgt := 25) hx hb dX10_smooth_15 (by decide) (fun c15 => ?_) (fun c15 => ?_)
    · replace h := if_t c15 h
      refine lv_aload_n hx hb dX10_smooth_25 rfl (lv_at hl 0 rfl) ?_
      refine g_I (C := RX10) (T := TX10) (N := 49) (ci := 10) 44 12 hx hb hts hown hK hP in_X10 rfl hcb okF_44_12 fl_149 dX10_smooth_26 ?_
      refine lv_if_ne (tgt := 39) hx hb dX10_smooth_29 (by decide) (fun c29 => ?_) (fun c29 => ?_)
      · replace h := if_f c29 h
        refine lv_iconst (v := (0 : Int32)) hx hb dX10_smooth_39 (by decide) ?_
        refine lv_istore (lv' := [(4, .int (0 : Int32)), (0, .ref (bs + 44)), (1, .int x1), (2, .long x2)]) hx hb dX10_smooth_40 hl (by decide) rfl (fun ls hl => ?_)
        refine lv_aload_n hx hb dX10_smooth_42 rfl (lv_at hl 1 rfl) ?_
        obtain ⟨r43, er43, h⟩ := bd_s1 h
        refine c_VI (k := 44) (ci := 10) (As := []) (rest := []) hx hb hml hown hts hK hN hL hP hS (cX10_things_ l bs D y hcb n  I J r43 er43) ok_X10_things ov_X10_things ml_139 ⟨Nat.le_of_ble_eq_true rfl, Nat.le_of_ble_eq_true rfl⟩ rfl hcb kd_44 hl.1 rfl rfl (Nat.le_of_ble_eq_true rfl) ⟨Nat.zero_le _, Nat.zero_le _⟩ dX10_smooth_43 (fun H locs hP hS => ?_)
        obtain ⟨v46, ev46, h⟩ := lt_s1 h
        refine top_i ev46 ?_
        refine lv_istore (lv' := [(5, .int v46), (4, .int (0 : Int32)), (0, .ref (bs + 44)), (1, .int x1), (2, .long x2)]) hx hb dX10_smooth_46 hl (by decide) rfl (fun ls hl => ?_)
        refine lv_lload_n hx hb dX10_smooth_48 rfl (lv_at hl 4 rfl) ?_
        refine lv_lstore (lv' := [(6, .long x2), (5, .int v46), (4, .int (0 : Int32)), (0, .ref (bs + 44)), (1, .int x1), (2, .long x2)]) hx hb dX10_smooth_49 hl (by decide) rfl (fun ls hl => ?_)
        refine lv_aload_n hx hb dX10_smooth_51 rfl (lv_at hl 3 rfl) ?_
        obtain ⟨r52, er52, h⟩ := bd_s1 h
        refine c_VI (k := 44) (ci := 10) (As := []) (rest := []) hx hb hml hown hts hK hN hL hP hS (cX10_costs_ l bs D y hcb n  r43.2.1 r43.2.2 r52 er52) ok_X10_costs ov_X10_costs ml_146 ⟨Nat.le_of_ble_eq_true rfl, Nat.le_of_ble_eq_true rfl⟩ rfl hcb kd_44 hl.1 rfl rfl (Nat.le_of_ble_eq_true rfl) ⟨Nat.zero_le _, Nat.zero_le _⟩ dX10_smooth_52 (fun H locs hP hS => ?_)
        obtain ⟨v55, ev55, h⟩ := lt_s1 h
        refine top_i ev55 ?_
        refine lv_istore (lv' := [(8, .int v55), (6, .long x2), (5, .int v46), (4, .int (0 : Int32)), (0, .ref (bs + 44)), (1, .int x1), (2, .long x2)]) hx hb dX10_smooth_55 hl (by decide) rfl (fun ls hl => ?_)
        refine lv_iconst (v := (0 : Int32)) hx hb dX10_smooth_57 (by decide) ?_
        refine lv_istore (lv' := [(9, .int (0 : Int32)), (8, .int v55), (6, .long x2), (5, .int v46), (4, .int (0 : Int32)), (0, .ref (bs + 44)), (1, .int x1), (2, .long x2)]) hx hb dX10_smooth_58 hl (by decide) rfl (fun ls hl => ?_)
        exact vX10_smooth_60 bs D y n  r Gc  n x1 (0 : Int32) v46 x2 v55 (0 : Int32) r52.2.1 r52.2.2 _ _ _ hP hS (lv_sub hl [5, 6, 4, 3, 2, 1, 0] rfl) h
      · replace h := if_t c29 h
        refine lv_aload_n hx hb dX10_smooth_32 rfl (lv_at hl 0 rfl) ?_
        refine lv_bipush (v := (-2 : Int32)) hx hb dX10_smooth_33 (by decide) ?_
        obtain ⟨r35, er35, h⟩ := bd_s1 h
        refine c_VI (k := 44) (ci := 10) (As := [.int (-2 : Int32)]) (rest := []) hx hb hml hown hts hK hN hL hP hS (cX10_no_ l bs D y hcb n (-2 : Int32) I J r35 er35) ok_X10_no ov_X10_no ml_118 ⟨Nat.le_of_ble_eq_true rfl, Nat.le_of_ble_eq_true rfl⟩ rfl hcb kd_44 hl.1 rfl rfl (Nat.le_of_ble_eq_true rfl) ⟨Nat.zero_le _, Nat.zero_le _⟩ dX10_smooth_35 (fun H locs hP hS => ?_)
        exact r_I hx hb hr hlocks hP hK hN hL hS h dX10_smooth_38
    · replace h := if_f c15 h
      refine lv_aload_n hx hb dX10_smooth_18 rfl (lv_at hl 0 rfl) ?_
      refine lv_bipush (v := (-7 : Int32)) hx hb dX10_smooth_19 (by decide) ?_
      obtain ⟨r21, er21, h⟩ := bd_s1 h
      refine c_VI (k := 44) (ci := 10) (As := [.int (-7 : Int32)]) (rest := []) hx hb hml hown hts hK hN hL hP hS (cX10_no_ l bs D y hcb n (-7 : Int32) I J r21 er21) ok_X10_no ov_X10_no ml_118 ⟨Nat.le_of_ble_eq_true rfl, Nat.le_of_ble_eq_true rfl⟩ rfl hcb kd_44 hl.1 rfl rfl (Nat.le_of_ble_eq_true rfl) ⟨Nat.zero_le _, Nat.zero_le _⟩ dX10_smooth_21 (fun H locs hP hS => ?_)
      exact r_I hx hb hr hlocks hP hK hN hL hS h dX10_smooth_24
  · replace h := if_f c1 h
    refine lv_aload_n hx hb dX10_smooth_4 rfl (lv_at hl 0 rfl) ?_
    refine lv_bipush (v := (-4 : Int32)) hx hb dX10_smooth_5 (by decide) ?_
    obtain ⟨r7, er7, h⟩ := bd_s1 h
    refine c_VI (k := 44) (ci := 10) (As := [.int (-4 : Int32)]) (rest := []) hx hb hml hown hts hK hN hL hP hS (cX10_no_ l bs D y hcb n (-4 : Int32) I J r7 er7) ok_X10_no ov_X10_no ml_118 ⟨Nat.le_of_ble_eq_true rfl, Nat.le_of_ble_eq_true rfl⟩ rfl hcb kd_44 hl.1 rfl rfl (Nat.le_of_ble_eq_true rfl) ⟨Nat.zero_le _, Nat.zero_le _⟩ dX10_smooth_7 (fun H locs hP hS => ?_)
    exact r_I hx hb hr hlocks hP hK hN hL hS h dX10_smooth_10
theorem dX10_cost_0 : decode cX10_cost 0 = .ok (.aload_n 0, 1) := by decide +kernel
theorem dX10_cost_1 : decode cX10_cost 1 = .ok (.getfield 130, 3) := by decide +kernel
theorem dX10_cost_4 : decode cX10_cost 4 = .ok (.ifCond .eq 10, 3) := by decide +kernel
theorem dX10_cost_7 : decode cX10_cost 7 = .ok (.aload_n 0, 1) := by decide +kernel
theorem dX10_cost_8 : decode cX10_cost 8 = .ok (.invokevirtual 251, 3) := by decide +kernel
theorem dX10_cost_11 : decode cX10_cost 11 = .ok (.goto 9, 3) := by decide +kernel
theorem dX10_cost_14 : decode cX10_cost 14 = .ok (.aload_n 0, 1) := by decide +kernel
theorem dX10_cost_15 : decode cX10_cost 15 = .ok (.bipush (-2), 2) := by decide +kernel
theorem dX10_cost_17 : decode cX10_cost 17 = .ok (.invokevirtual 151, 3) := by decide +kernel
theorem dX10_cost_20 : decode cX10_cost 20 = .ok (.ireturn, 1) := by decide +kernel
set_option maxHeartbeats 4000000 in
set_option maxRecDepth 100000 in
theorem cX10_cost_ (l : Launch) (bs : Nat) (D : va_G) (y : Y3) (hcb : 76 ≤ y.2.2.2) (n : Nat) (I : MI) (J : MJ) (r : Int32 × M2) (h : fX10_cost n  I J = some r) : Met l yX10_cost (.code yX10_cost cX10_cost 1 (some .int) :: gtb) (rmm 4 99) (va_Pc [.ref (bs + 44)] (HB bs D y I J)) (QcI bs D y r) 0 0 (FA bs) := by
  refine Met.ofW (cc := cX10_cost) (maxL := 1) (ret := (some .int)) (by decide) rfl ?_
  intro p e s m args below meth c s₁ B hml hv
  obtain ⟨rfl, hP, hK, hN, hL⟩ := hv
  have hx := B.exec
  have hb := B.bytes
  have hr := B.returns
  have hts0 := atoms_spec (ws := .code yX10_cost cX10_cost 1 (some .int) :: gtb) B.pre
  have hts : ∀ w ∈ gtb, w.before [.ref (bs + 44)].toArray s = true := fun w hw => hts0 w (List.mem_cons_of_mem _ hw)
  have hown : s.vm.findClass RX10 = some m.cls := findClass_of_methodNamed B.named
  have hlocks := B.notSynchronized
  have hS : va_S (FA bs) s.heap s.heap [] := va_S.rf
  have Gc : Gx p s m [.ref (bs + 44)].toArray meth c cX10_cost 1 RX10 bs D y (some .int) 76 := ⟨hx, hb, hml, hown, hts, hK, hN, hL, hr, hlocks, hcb⟩
  have hl := lv_entry [.ref (bs + 44)] (n := 1) (Nat.le_of_ble_eq_true rfl)
  rw [lg_entry_eq]
  generalize (lg_sl [.ref (bs + 44)] ++ List.replicate (1 - (lg_sl [.ref (bs + 44)]).length) Slot.unset).toArray = ls at hl ⊢
  have hl : lv_has ls 1 [(0, .ref (bs + 44))] := hl
  change W p l e (rmm 4 99) s m [.ref (bs + 44)].toArray below meth c s.heap [] 0 0 (QI below [.ref (bs + 44)].toArray s bs D y r) (F0 m 0 ls [])
  unfold fX10_cost at h
  refine lv_aload_n hx hb dX10_cost_0 rfl (lv_at hl 0 rfl) ?_
  refine g_I (C := RX10) (T := TX10) (N := 49) (ci := 10) 44 12 hx hb hts hown hK hP in_X10 rfl hcb okF_44_12 fl_149 dX10_cost_1 ?_
  refine lv_if_eq (tgt := 14) hx hb dX10_cost_4 (by decide) (fun c4 => ?_) (fun c4 => ?_)
  · replace h := if_t c4 h
    refine lv_aload_n hx hb dX10_cost_14 rfl (lv_at hl 0 rfl) ?_
    refine lv_bipush (v := (-2 : Int32)) hx hb dX10_cost_15 (by decide) ?_
    obtain ⟨r17, er17, h⟩ := bd_s1 h
    refine c_VI (k := 44) (ci := 10) (As := [.int (-2 : Int32)]) (rest := []) hx hb hml hown hts hK hN hL hP hS (cX10_no_ l bs D y hcb n (-2 : Int32) I J r17 er17) ok_X10_no ov_X10_no ml_118 ⟨Nat.le_of_ble_eq_true rfl, Nat.le_of_ble_eq_true rfl⟩ rfl hcb kd_44 hl.1 rfl rfl (Nat.le_of_ble_eq_true rfl) ⟨Nat.zero_le _, Nat.zero_le _⟩ dX10_cost_17 (fun H locs hP hS => ?_)
    exact r_I hx hb hr hlocks hP hK hN hL hS h dX10_cost_20
  · replace h := if_f c4 h
    refine lv_aload_n hx hb dX10_cost_7 rfl (lv_at hl 0 rfl) ?_
    obtain ⟨r8, er8, h⟩ := bd_s1 h
    refine c_VI (k := 44) (ci := 10) (As := []) (rest := []) hx hb hml hown hts hK hN hL hP hS (cX10_costs_ l bs D y hcb n  I J r8 er8) ok_X10_costs ov_X10_costs ml_146 ⟨Nat.le_of_ble_eq_true rfl, Nat.le_of_ble_eq_true rfl⟩ rfl hcb kd_44 hl.1 rfl rfl (Nat.le_of_ble_eq_true rfl) ⟨Nat.zero_le _, Nat.zero_le _⟩ dX10_cost_8 (fun H locs hP hS => ?_)
    refine lv_goto (tgt := 20) hx hb dX10_cost_11 (by decide) ?_
    exact r_I hx hb hr hlocks hP hK hN hL hS h dX10_cost_20
theorem dX10_manyTiles_0 : decode cX10_manyTiles 0 = .ok (.iconst 0, 1) := by decide +kernel
theorem dX10_manyTiles_1 : decode cX10_manyTiles 1 = .ok (.istore_n 2, 1) := by decide +kernel
theorem dX10_manyTiles_2 : decode cX10_manyTiles 2 = .ok (.iconst 0, 1) := by decide +kernel
theorem dX10_manyTiles_3 : decode cX10_manyTiles 3 = .ok (.istore_n 3, 1) := by decide +kernel
theorem dX10_manyTiles_4 : decode cX10_manyTiles 4 = .ok (.iload_n 3, 1) := by decide +kernel
theorem dX10_manyTiles_5 : decode cX10_manyTiles 5 = .ok (.bipush 36, 2) := by decide +kernel
theorem dX10_manyTiles_7 : decode cX10_manyTiles 7 = .ok (.if_icmp .ge 18, 3) := by decide +kernel
theorem dX10_manyTiles_10 : decode cX10_manyTiles 10 = .ok (.iload_n 2, 1) := by decide +kernel
theorem dX10_manyTiles_11 : decode cX10_manyTiles 11 = .ok (.lload_n 0, 1) := by decide +kernel
theorem dX10_manyTiles_12 : decode cX10_manyTiles 12 = .ok (.iload_n 3, 1) := by decide +kernel
theorem dX10_manyTiles_13 : decode cX10_manyTiles 13 = .ok (.lshr, 1) := by decide +kernel
theorem dX10_manyTiles_14 : decode cX10_manyTiles 14 = .ok (.lconst 1, 1) := by decide +kernel
theorem dX10_manyTiles_15 : decode cX10_manyTiles 15 = .ok (.land, 1) := by decide +kernel
theorem dX10_manyTiles_16 : decode cX10_manyTiles 16 = .ok (.l2i, 1) := by decide +kernel
theorem dX10_manyTiles_17 : decode cX10_manyTiles 17 = .ok (.iadd, 1) := by decide +kernel
theorem dX10_manyTiles_18 : decode cX10_manyTiles 18 = .ok (.istore_n 2, 1) := by decide +kernel
theorem dX10_manyTiles_19 : decode cX10_manyTiles 19 = .ok (.iinc 3 1, 3) := by decide +kernel
theorem dX10_manyTiles_22 : decode cX10_manyTiles 22 = .ok (.goto (-18), 3) := by decide +kernel
theorem dX10_manyTiles_25 : decode cX10_manyTiles 25 = .ok (.iload_n 2, 1) := by decide +kernel
theorem dX10_manyTiles_26 : decode cX10_manyTiles 26 = .ok (.ireturn, 1) := by decide +kernel
set_option maxHeartbeats 4000000 in
set_option maxRecDepth 100000 in
theorem wX10_manyTiles_4 {p : Program} {l : Launch} {e : Env} {s : State} {m : MethodId} {args : Array Value} {below : List Frame} {meth : Method} {c : Code} (bs : Nat) (D : va_G) (y : Y3) (n : Nat) (k4_ : Int64 → Int32 → Int32 → MI → MJ → Option (Int32 × M2)) (r : Int32 × M2) (Gc : Gx p s m args meth c cX10_manyTiles 4 RX10 bs D y (some .int) 76) (hk4_ : ∀ (x0 : Int64) (x2 : Int32) (x3 : Int32) (I : MI) (J : MJ) (H : Heap) (locs : List Loc) (ls : Array Slot), va_P D vwCl (wl bs y I J) H → va_S (FA bs) s.heap H locs → lv_has ls 4 [(0, .long x0), (2, .int x2), (3, .int x3)] → k4_ x0 x2 x3 I J = some r → W p l e (rmm 0 0) s m args below meth c H locs 0 0 (QI below args s bs D y r) (F0 m 4 ls [])) (x0 : Int64) (x2 : Int32) (x3 : Int32) (I : MI) (J : MJ) (H : Heap) (locs : List Loc) (ls : Array Slot) (hP : va_P D vwCl (wl bs y I J) H) (hS : va_S (FA bs) s.heap H locs) (hl : lv_has ls 4 [(0, .long x0), (2, .int x2), (3, .int x3)]) (h : fX10_manyTiles_4 n k4_ x0 x2 x3 I J = some r) : W p l e (rmm 0 0) s m args below meth c H locs 0 0 (QI below args s bs D y r) (F0 m 4 ls []) := by
  obtain ⟨hx, hb, hml, hown, hts, hK, hN, hL, hr, hlocks, hcb⟩ := id Gc
  unfold fX10_manyTiles_4 at h
  refine lv_iload_n hx hb dX10_manyTiles_4 rfl (lv_at hl 2 rfl) ?_
  refine lv_bipush (v := (36 : Int32)) hx hb dX10_manyTiles_5 (by decide) ?_
  refine lv_icmp_ge (tgt := 25) hx hb dX10_manyTiles_7 (by decide) (fun c7 => ?_) (fun c7 => ?_)
  · replace h := if_t c7 h
    refine lv_iload_n hx hb dX10_manyTiles_25 rfl (lv_at hl 1 rfl) ?_
    exact r_I hx hb hr hlocks hP hK hN hL hS h dX10_manyTiles_26
  · replace h := if_f c7 h
    refine lv_iload_n hx hb dX10_manyTiles_10 rfl (lv_at hl 1 rfl) ?_
    refine lv_lload_n hx hb dX10_manyTiles_11 rfl (lv_at hl 0 rfl) ?_
    refine lv_iload_n hx hb dX10_manyTiles_12 rfl (lv_at hl 2 rfl) ?_
    refine lv_lshr (v := (shrL x0 x3)) hx hb dX10_manyTiles_13 rfl ?_
    refine lv_lconst (v := (1 : Int64)) hx hb dX10_manyTiles_14 (by decide) ?_
    refine lv_land hx hb dX10_manyTiles_15 ?_
    refine lv_l2i (v := (((shrL x0 x3) &&& (1 : Int64))).toInt32) hx hb dX10_manyTiles_16 rfl ?_
    refine lv_iadd hx hb dX10_manyTiles_17 ?_
    obtain ⟨v18, ev18, h⟩ := lt_s1 h
    refine top_i ev18 ?_
    refine lv_istore_n (lv' := [(2, .int v18), (0, .long x0), (3, .int x3)]) hx hb dX10_manyTiles_18 rfl hl (by decide) rfl (fun ls hl => ?_)
    refine lv_iinc (v := (x3 + (1 : Int32))) (lv' := [(3, .int (x3 + (1 : Int32))), (2, .int v18), (0, .long x0)]) hx hb dX10_manyTiles_19 hl (k := 2) rfl rfl (by decide) rfl (fun ls hl => ?_)
    refine lv_goto (tgt := 4) hx hb dX10_manyTiles_22 (by decide) ?_
    exact hk4_ x0 v18 (x3 + (1 : Int32)) I J _ _ _ hP hS (lv_sub hl [2, 1, 0] rfl) h
theorem vX10_manyTiles_4 {p : Program} {l : Launch} {e : Env} {s : State} {m : MethodId} {args : Array Value} {below : List Frame} {meth : Method} {c : Code} (bs : Nat) (D : va_G) (y : Y3) (n : Nat) (r : Int32 × M2) (Gc : Gx p s m args meth c cX10_manyTiles 4 RX10 bs D y (some .int) 76)  : ∀ (q : Nat) (x0 : Int64) (x2 : Int32) (x3 : Int32) (I : MI) (J : MJ) (H : Heap) (locs : List Loc) (ls : Array Slot), va_P D vwCl (wl bs y I J) H → va_S (FA bs) s.heap H locs → lv_has ls 4 [(0, .long x0), (2, .int x2), (3, .int x3)] → lX10_manyTiles_4 n  q x0 x2 x3 I J = some r → W p l e (rmm 0 0) s m args below meth c H locs 0 0 (QI below args s bs D y r) (F0 m 4 ls []) := by
  intro q
  induction q with
  | zero =>
    intro x0 x2 x3 I J H locs ls hP hS hl h
    have h : (none : Option (Int32 × M2)) = some r := h
    cases h
  | succ q ih =>
    intro x0 x2 x3 I J H locs ls hP hS hl h
    have h : fX10_manyTiles_4 n  (lX10_manyTiles_4 n  q) x0 x2 x3 I J = some r := h
    exact wX10_manyTiles_4 bs D y n  (lX10_manyTiles_4 n  q) r Gc  ih x0 x2 x3 I J H locs ls hP hS hl h
set_option maxHeartbeats 4000000 in
set_option maxRecDepth 100000 in
theorem cX10_manyTiles_ (l : Launch) (bs : Nat) (D : va_G) (y : Y3) (hcb : 76 ≤ y.2.2.2) (n : Nat) (x0 : Int64) (I : MI) (J : MJ) (r : Int32 × M2) (h : fX10_manyTiles n x0 I J = some r) : Met l yX10_manyTiles (.code yX10_manyTiles cX10_manyTiles 4 (some .int) :: gtb) (rmm 0 0) (va_Pc [.long x0] (HB bs D y I J)) (QcI bs D y r) 0 0 (FA bs) := by
  refine Met.ofW (cc := cX10_manyTiles) (maxL := 4) (ret := (some .int)) (by decide) rfl ?_
  intro p e s m args below meth c s₁ B hml hv
  obtain ⟨rfl, hP, hK, hN, hL⟩ := hv
  have hx := B.exec
  have hb := B.bytes
  have hr := B.returns
  have hts0 := atoms_spec (ws := .code yX10_manyTiles cX10_manyTiles 4 (some .int) :: gtb) B.pre
  have hts : ∀ w ∈ gtb, w.before [.long x0].toArray s = true := fun w hw => hts0 w (List.mem_cons_of_mem _ hw)
  have hown : s.vm.findClass RX10 = some m.cls := findClass_of_methodNamed B.named
  have hlocks := B.notSynchronized
  have hS : va_S (FA bs) s.heap s.heap [] := va_S.rf
  have Gc : Gx p s m [.long x0].toArray meth c cX10_manyTiles 4 RX10 bs D y (some .int) 76 := ⟨hx, hb, hml, hown, hts, hK, hN, hL, hr, hlocks, hcb⟩
  have hl := lv_entry [.long x0] (n := 4) (Nat.le_of_ble_eq_true rfl)
  rw [lg_entry_eq]
  generalize (lg_sl [.long x0] ++ List.replicate (4 - (lg_sl [.long x0]).length) Slot.unset).toArray = ls at hl ⊢
  have hl : lv_has ls 4 [(0, .long x0)] := hl
  change W p l e (rmm 0 0) s m [.long x0].toArray below meth c s.heap [] 0 0 (QI below [.long x0].toArray s bs D y r) (F0 m 0 ls [])
  unfold fX10_manyTiles at h
  refine lv_iconst (v := (0 : Int32)) hx hb dX10_manyTiles_0 (by decide) ?_
  refine lv_istore_n (lv' := [(2, .int (0 : Int32)), (0, .long x0)]) hx hb dX10_manyTiles_1 rfl hl (by decide) rfl (fun ls hl => ?_)
  refine lv_iconst (v := (0 : Int32)) hx hb dX10_manyTiles_2 (by decide) ?_
  refine lv_istore_n (lv' := [(3, .int (0 : Int32)), (2, .int (0 : Int32)), (0, .long x0)]) hx hb dX10_manyTiles_3 rfl hl (by decide) rfl (fun ls hl => ?_)
  exact vX10_manyTiles_4 bs D y n  r Gc  n x0 (0 : Int32) (0 : Int32) I J _ _ _ hP hS (lv_sub hl [2, 1, 0] rfl) h
theorem dX10_wires_0 : decode cX10_wires 0 = .ok (.iload_n 2, 1) := by decide +kernel
theorem dX10_wires_1 : decode cX10_wires 1 = .ok (.iconst 1, 1) := by decide +kernel
theorem dX10_wires_2 : decode cX10_wires 2 = .ok (.if_icmp .ne 18, 3) := by decide +kernel
theorem dX10_wires_5 : decode cX10_wires 5 = .ok (.aload_n 0, 1) := by decide +kernel
theorem dX10_wires_6 : decode cX10_wires 6 = .ok (.iload_n 1, 1) := by decide +kernel
theorem dX10_wires_7 : decode cX10_wires 7 = .ok (.invokevirtual 172, 3) := by decide +kernel
theorem dX10_wires_10 : decode cX10_wires 10 = .ok (.ifCond .ne 10, 3) := by decide +kernel
theorem dX10_wires_13 : decode cX10_wires 13 = .ok (.aload_n 0, 1) := by decide +kernel
theorem dX10_wires_14 : decode cX10_wires 14 = .ok (.bipush (-3), 2) := by decide +kernel
theorem dX10_wires_16 : decode cX10_wires 16 = .ok (.invokevirtual 151, 3) := by decide +kernel
theorem dX10_wires_19 : decode cX10_wires 19 = .ok (.ireturn, 1) := by decide +kernel
theorem dX10_wires_20 : decode cX10_wires 20 = .ok (.aload_n 0, 1) := by decide +kernel
theorem dX10_wires_21 : decode cX10_wires 21 = .ok (.getfield 130, 3) := by decide +kernel
theorem dX10_wires_24 : decode cX10_wires 24 = .ok (.ifCond .eq 16, 3) := by decide +kernel
theorem dX10_wires_27 : decode cX10_wires 27 = .ok (.iload_n 2, 1) := by decide +kernel
theorem dX10_wires_28 : decode cX10_wires 28 = .ok (.iconst 1, 1) := by decide +kernel
theorem dX10_wires_29 : decode cX10_wires 29 = .ok (.if_icmp .ne 18, 3) := by decide +kernel
theorem dX10_wires_32 : decode cX10_wires 32 = .ok (.aload_n 0, 1) := by decide +kernel
theorem dX10_wires_33 : decode cX10_wires 33 = .ok (.iload_n 1, 1) := by decide +kernel
theorem dX10_wires_34 : decode cX10_wires 34 = .ok (.invokevirtual 236, 3) := by decide +kernel
theorem dX10_wires_37 : decode cX10_wires 37 = .ok (.ifCond .ne 10, 3) := by decide +kernel
theorem dX10_wires_40 : decode cX10_wires 40 = .ok (.aload_n 0, 1) := by decide +kernel
theorem dX10_wires_41 : decode cX10_wires 41 = .ok (.bipush (-2), 2) := by decide +kernel
theorem dX10_wires_43 : decode cX10_wires 43 = .ok (.invokevirtual 151, 3) := by decide +kernel
theorem dX10_wires_46 : decode cX10_wires 46 = .ok (.ireturn, 1) := by decide +kernel
theorem dX10_wires_47 : decode cX10_wires 47 = .ok (.iload_n 2, 1) := by decide +kernel
theorem dX10_wires_48 : decode cX10_wires 48 = .ok (.iconst 1, 1) := by decide +kernel
theorem dX10_wires_49 : decode cX10_wires 49 = .ok (.if_icmp .ne 12, 3) := by decide +kernel
theorem dX10_wires_52 : decode cX10_wires 52 = .ok (.aload_n 0, 1) := by decide +kernel
theorem dX10_wires_53 : decode cX10_wires 53 = .ok (.iload_n 1, 1) := by decide +kernel
theorem dX10_wires_54 : decode cX10_wires 54 = .ok (.invokevirtual 267, 3) := by decide +kernel
theorem dX10_wires_57 : decode cX10_wires 57 = .ok (.invokestatic 274, 3) := by decide +kernel
theorem dX10_wires_60 : decode cX10_wires 60 = .ok (.ireturn, 1) := by decide +kernel
theorem dX10_wires_61 : decode cX10_wires 61 = .ok (.iload_n 2, 1) := by decide +kernel
theorem dX10_wires_62 : decode cX10_wires 62 = .ok (.ifCond .eq 10, 3) := by decide +kernel
theorem dX10_wires_65 : decode cX10_wires 65 = .ok (.aload_n 0, 1) := by decide +kernel
theorem dX10_wires_66 : decode cX10_wires 66 = .ok (.bipush (-7), 2) := by decide +kernel
theorem dX10_wires_68 : decode cX10_wires 68 = .ok (.invokevirtual 151, 3) := by decide +kernel
theorem dX10_wires_71 : decode cX10_wires 71 = .ok (.ireturn, 1) := by decide +kernel
theorem dX10_wires_72 : decode cX10_wires 72 = .ok (.iconst 0, 1) := by decide +kernel
theorem dX10_wires_73 : decode cX10_wires 73 = .ok (.istore_n 3, 1) := by decide +kernel
theorem dX10_wires_74 : decode cX10_wires 74 = .ok (.iconst 0, 1) := by decide +kernel
theorem dX10_wires_75 : decode cX10_wires 75 = .ok (.istore 4, 2) := by decide +kernel
theorem dX10_wires_77 : decode cX10_wires 77 = .ok (.iload 4, 2) := by decide +kernel
theorem dX10_wires_79 : decode cX10_wires 79 = .ok (.aload_n 0, 1) := by decide +kernel
theorem dX10_wires_80 : decode cX10_wires 80 = .ok (.getfield 123, 3) := by decide +kernel
theorem dX10_wires_83 : decode cX10_wires 83 = .ok (.if_icmp .ge 37, 3) := by decide +kernel
theorem dX10_wires_86 : decode cX10_wires 86 = .ok (.iload_n 3, 1) := by decide +kernel
theorem dX10_wires_87 : decode cX10_wires 87 = .ok (.aload_n 0, 1) := by decide +kernel
theorem dX10_wires_88 : decode cX10_wires 88 = .ok (.iload 4, 2) := by decide +kernel
theorem dX10_wires_90 : decode cX10_wires 90 = .ok (.invokevirtual 236, 3) := by decide +kernel
theorem dX10_wires_93 : decode cX10_wires 93 = .ok (.ifCond .eq 18, 3) := by decide +kernel
theorem dX10_wires_96 : decode cX10_wires 96 = .ok (.aload_n 0, 1) := by decide +kernel
theorem dX10_wires_97 : decode cX10_wires 97 = .ok (.iload 4, 2) := by decide +kernel
theorem dX10_wires_99 : decode cX10_wires 99 = .ok (.invokevirtual 267, 3) := by decide +kernel
theorem dX10_wires_102 : decode cX10_wires 102 = .ok (.lconst 0, 1) := by decide +kernel
theorem dX10_wires_103 : decode cX10_wires 103 = .ok (.lcmp, 1) := by decide +kernel
theorem dX10_wires_104 : decode cX10_wires 104 = .ok (.ifCond .eq 7, 3) := by decide +kernel
theorem dX10_wires_107 : decode cX10_wires 107 = .ok (.iconst 1, 1) := by decide +kernel
theorem dX10_wires_108 : decode cX10_wires 108 = .ok (.goto 4, 3) := by decide +kernel
theorem dX10_wires_111 : decode cX10_wires 111 = .ok (.iconst 0, 1) := by decide +kernel
theorem dX10_wires_112 : decode cX10_wires 112 = .ok (.iadd, 1) := by decide +kernel
theorem dX10_wires_113 : decode cX10_wires 113 = .ok (.istore_n 3, 1) := by decide +kernel
theorem dX10_wires_114 : decode cX10_wires 114 = .ok (.iinc 4 1, 3) := by decide +kernel
theorem dX10_wires_117 : decode cX10_wires 117 = .ok (.goto (-40), 3) := by decide +kernel
theorem dX10_wires_120 : decode cX10_wires 120 = .ok (.iload_n 3, 1) := by decide +kernel
theorem dX10_wires_121 : decode cX10_wires 121 = .ok (.ireturn, 1) := by decide +kernel
set_option maxHeartbeats 4000000 in
set_option maxRecDepth 100000 in
theorem wX10_wires_112 {p : Program} {l : Launch} {e : Env} {s : State} {m : MethodId} {args : Array Value} {below : List Frame} {meth : Method} {c : Code} (bs : Nat) (D : va_G) (y : Y3) (n : Nat) (k77_ : Int32 → Int32 → MI → MJ → Option (Int32 × M2)) (r : Int32 × M2) (Gc : Gx p s m args meth c cX10_wires 5 RX10 bs D y (some .int) 76) (hk77_ : ∀ (x3 : Int32) (x4 : Int32) (I : MI) (J : MJ) (H : Heap) (locs : List Loc) (ls : Array Slot), va_P D vwCl (wl bs y I J) H → va_S (FA bs) s.heap H locs → lv_has ls 5 [(0, .ref (bs + 44)), (3, .int x3), (4, .int x4)] → k77_ x3 x4 I J = some r → W p l e (rmm 2 47) s m args below meth c H locs 0 0 (QI below args s bs D y r) (F0 m 77 ls [])) (x4 : Int32) (s0 : Int32) (s1 : Int32) (I : MI) (J : MJ) (H : Heap) (locs : List Loc) (ls : Array Slot) (hP : va_P D vwCl (wl bs y I J) H) (hS : va_S (FA bs) s.heap H locs) (hl : lv_has ls 5 [(0, .ref (bs + 44)), (4, .int x4)]) (h : fX10_wires_112 n k77_ x4 s0 s1 I J = some r) : W p l e (rmm 2 47) s m args below meth c H locs 0 0 (QI below args s bs D y r) (F0 m 112 ls [.int s1, .int s0]) := by
  obtain ⟨hx, hb, hml, hown, hts, hK, hN, hL, hr, hlocks, hcb⟩ := id Gc
  unfold fX10_wires_112 at h
  refine lv_iadd hx hb dX10_wires_112 ?_
  obtain ⟨v113, ev113, h⟩ := lt_s1 h
  refine top_i ev113 ?_
  refine lv_istore_n (lv' := [(3, .int v113), (0, .ref (bs + 44)), (4, .int x4)]) hx hb dX10_wires_113 rfl hl (by decide) rfl (fun ls hl => ?_)
  refine lv_iinc (v := (x4 + (1 : Int32))) (lv' := [(4, .int (x4 + (1 : Int32))), (3, .int v113), (0, .ref (bs + 44))]) hx hb dX10_wires_114 hl (k := 2) rfl rfl (by decide) rfl (fun ls hl => ?_)
  refine lv_goto (tgt := 77) hx hb dX10_wires_117 (by decide) ?_
  exact hk77_ v113 (x4 + (1 : Int32)) I J _ _ _ hP hS (lv_sub hl [2, 1, 0] rfl) h
set_option maxHeartbeats 4000000 in
set_option maxRecDepth 100000 in
theorem wX10_wires_111 {p : Program} {l : Launch} {e : Env} {s : State} {m : MethodId} {args : Array Value} {below : List Frame} {meth : Method} {c : Code} (bs : Nat) (D : va_G) (y : Y3) (n : Nat) (k77_ : Int32 → Int32 → MI → MJ → Option (Int32 × M2)) (r : Int32 × M2) (Gc : Gx p s m args meth c cX10_wires 5 RX10 bs D y (some .int) 76) (hk77_ : ∀ (x3 : Int32) (x4 : Int32) (I : MI) (J : MJ) (H : Heap) (locs : List Loc) (ls : Array Slot), va_P D vwCl (wl bs y I J) H → va_S (FA bs) s.heap H locs → lv_has ls 5 [(0, .ref (bs + 44)), (3, .int x3), (4, .int x4)] → k77_ x3 x4 I J = some r → W p l e (rmm 2 47) s m args below meth c H locs 0 0 (QI below args s bs D y r) (F0 m 77 ls [])) (x4 : Int32) (s0 : Int32) (I : MI) (J : MJ) (H : Heap) (locs : List Loc) (ls : Array Slot) (hP : va_P D vwCl (wl bs y I J) H) (hS : va_S (FA bs) s.heap H locs) (hl : lv_has ls 5 [(0, .ref (bs + 44)), (4, .int x4)]) (h : fX10_wires_111 n k77_ x4 s0 I J = some r) : W p l e (rmm 2 47) s m args below meth c H locs 0 0 (QI below args s bs D y r) (F0 m 111 ls [.int s0]) := by
  obtain ⟨hx, hb, hml, hown, hts, hK, hN, hL, hr, hlocks, hcb⟩ := id Gc
  unfold fX10_wires_111 at h
  refine lv_iconst (v := (0 : Int32)) hx hb dX10_wires_111 (by decide) ?_
  exact wX10_wires_112 bs D y n k77_ r Gc hk77_ x4 s0 (0 : Int32) I J _ _ _ hP hS (lv_sub hl [0, 1] rfl) h
set_option maxHeartbeats 4000000 in
set_option maxRecDepth 100000 in
theorem wX10_wires_77 {p : Program} {l : Launch} {e : Env} {s : State} {m : MethodId} {args : Array Value} {below : List Frame} {meth : Method} {c : Code} (bs : Nat) (D : va_G) (y : Y3) (n : Nat) (k77_ : Int32 → Int32 → MI → MJ → Option (Int32 × M2)) (r : Int32 × M2) (Gc : Gx p s m args meth c cX10_wires 5 RX10 bs D y (some .int) 76) (hk77_ : ∀ (x3 : Int32) (x4 : Int32) (I : MI) (J : MJ) (H : Heap) (locs : List Loc) (ls : Array Slot), va_P D vwCl (wl bs y I J) H → va_S (FA bs) s.heap H locs → lv_has ls 5 [(0, .ref (bs + 44)), (3, .int x3), (4, .int x4)] → k77_ x3 x4 I J = some r → W p l e (rmm 2 47) s m args below meth c H locs 0 0 (QI below args s bs D y r) (F0 m 77 ls [])) (x3 : Int32) (x4 : Int32) (I : MI) (J : MJ) (H : Heap) (locs : List Loc) (ls : Array Slot) (hP : va_P D vwCl (wl bs y I J) H) (hS : va_S (FA bs) s.heap H locs) (hl : lv_has ls 5 [(0, .ref (bs + 44)), (3, .int x3), (4, .int x4)]) (h : fX10_wires_77 n k77_ x3 x4 I J = some r) : W p l e (rmm 2 47) s m args below meth c H locs 0 0 (QI below args s bs D y r) (F0 m 77 ls []) := by
  obtain ⟨hx, hb, hml, hown, hts, hK, hN, hL, hr, hlocks, hcb⟩ := id Gc
  unfold fX10_wires_77 at h
  refine lv_iload hx hb dX10_wires_77 (lv_at hl 2 rfl) ?_
  refine lv_aload_n hx hb dX10_wires_79 rfl (lv_at hl 0 rfl) ?_
  refine g_I (C := RX10) (T := TX10) (N := 49) (ci := 10) 44 6 hx hb hts hown hK hP in_X10 rfl hcb okF_44_6 fl_141 dX10_wires_80 ?_
  refine lv_icmp_ge (tgt := 120) hx hb dX10_wires_83 (by decide) (fun c83 => ?_) (fun c83 => ?_)
  · replace h := if_t c83 h
    refine lv_iload_n hx hb dX10_wires_120 rfl (lv_at hl 1 rfl) ?_
    exact r_I hx hb hr hlocks hP hK hN hL hS h dX10_wires_121
  · replace h := if_f c83 h
    refine lv_iload_n hx hb dX10_wires_86 rfl (lv_at hl 1 rfl) ?_
    refine lv_aload_n hx hb dX10_wires_87 rfl (lv_at hl 0 rfl) ?_
    refine lv_iload hx hb dX10_wires_88 (lv_at hl 2 rfl) ?_
    obtain ⟨r90, er90, h⟩ := bd_s1 h
    refine c_VI (k := 44) (ci := 10) (As := [.int x4]) (rest := [.int x3]) hx hb hml hown hts hK hN hL hP hS (cX10_isThing_ l bs D y hcb n x4 I J r90 er90) ok_X10_isThing ov_X10_isThing ml_137 ⟨Nat.le_of_ble_eq_true rfl, Nat.le_of_ble_eq_true rfl⟩ rfl hcb kd_44 hl.1 rfl rfl (Nat.le_of_ble_eq_true rfl) ⟨Nat.zero_le _, Nat.zero_le _⟩ dX10_wires_90 (fun H locs hP hS => ?_)
    refine lv_if_eq (tgt := 111) hx hb dX10_wires_93 (by decide) (fun c93 => ?_) (fun c93 => ?_)
    · replace h := if_t c93 h
      exact wX10_wires_111 bs D y n k77_ r Gc hk77_ x4 x3 r90.2.1 r90.2.2 _ _ _ hP hS (lv_sub hl [0, 2] rfl) h
    · replace h := if_f c93 h
      refine lv_aload_n hx hb dX10_wires_96 rfl (lv_at hl 0 rfl) ?_
      refine lv_iload hx hb dX10_wires_97 (lv_at hl 2 rfl) ?_
      obtain ⟨r99, er99, h⟩ := bd_s1 h
      refine c_VJ (k := 44) (ci := 10) (As := [.int x4]) (rest := [.int x3]) hx hb hml hown hts hK hN hL hP hS (cX10_endsOf_ l bs D y hcb n x4 r90.2.1 r90.2.2 r99 er99) ok_X10_endsOf ov_X10_endsOf ml_143 ⟨Nat.le_of_ble_eq_true rfl, Nat.le_of_ble_eq_true rfl⟩ rfl hcb kd_44 hl.1 rfl rfl (Nat.le_of_ble_eq_true rfl) ⟨Nat.zero_le _, Nat.zero_le _⟩ dX10_wires_99 (fun H locs hP hS => ?_)
      refine lv_lconst (v := (0 : Int64)) hx hb dX10_wires_102 (by decide) ?_
      refine W.lcmp hx hb dX10_wires_103 ?_
      refine lv_if_eq (tgt := 111) hx hb dX10_wires_104 (by decide) (fun c104 => ?_) (fun c104 => ?_)
      · replace h := if_t c104 h
        exact wX10_wires_111 bs D y n k77_ r Gc hk77_ x4 x3 r99.2.1 r99.2.2 _ _ _ hP hS (lv_sub hl [0, 2] rfl) h
      · replace h := if_f c104 h
        refine lv_iconst (v := (1 : Int32)) hx hb dX10_wires_107 (by decide) ?_
        refine lv_goto (tgt := 112) hx hb dX10_wires_108 (by decide) ?_
        exact wX10_wires_112 bs D y n k77_ r Gc hk77_ x4 x3 (1 : Int32) r99.2.1 r99.2.2 _ _ _ hP hS (lv_sub hl [0, 2] rfl) h
theorem vX10_wires_77 {p : Program} {l : Launch} {e : Env} {s : State} {m : MethodId} {args : Array Value} {below : List Frame} {meth : Method} {c : Code} (bs : Nat) (D : va_G) (y : Y3) (n : Nat) (r : Int32 × M2) (Gc : Gx p s m args meth c cX10_wires 5 RX10 bs D y (some .int) 76)  : ∀ (q : Nat) (x3 : Int32) (x4 : Int32) (I : MI) (J : MJ) (H : Heap) (locs : List Loc) (ls : Array Slot), va_P D vwCl (wl bs y I J) H → va_S (FA bs) s.heap H locs → lv_has ls 5 [(0, .ref (bs + 44)), (3, .int x3), (4, .int x4)] → lX10_wires_77 n  q x3 x4 I J = some r → W p l e (rmm 2 47) s m args below meth c H locs 0 0 (QI below args s bs D y r) (F0 m 77 ls []) := by
  intro q
  induction q with
  | zero =>
    intro x3 x4 I J H locs ls hP hS hl h
    have h : (none : Option (Int32 × M2)) = some r := h
    cases h
  | succ q ih =>
    intro x3 x4 I J H locs ls hP hS hl h
    have h : fX10_wires_77 n  (lX10_wires_77 n  q) x3 x4 I J = some r := h
    exact wX10_wires_77 bs D y n  (lX10_wires_77 n  q) r Gc  ih x3 x4 I J H locs ls hP hS hl h
set_option maxHeartbeats 4000000 in
set_option maxRecDepth 100000 in
theorem wX10_wires_47 {p : Program} {l : Launch} {e : Env} {s : State} {m : MethodId} {args : Array Value} {below : List Frame} {meth : Method} {c : Code} (bs : Nat) (D : va_G) (y : Y3) (n : Nat) (r : Int32 × M2) (Gc : Gx p s m args meth c cX10_wires 5 RX10 bs D y (some .int) 76)  (x1 : Int32) (x2 : Int32) (I : MI) (J : MJ) (H : Heap) (locs : List Loc) (ls : Array Slot) (hP : va_P D vwCl (wl bs y I J) H) (hS : va_S (FA bs) s.heap H locs) (hl : lv_has ls 5 [(0, .ref (bs + 44)), (1, .int x1), (2, .int x2)]) (h : fX10_wires_47 n  x1 x2 I J = some r) : W p l e (rmm 2 47) s m args below meth c H locs 0 0 (QI below args s bs D y r) (F0 m 47 ls []) := by
  obtain ⟨hx, hb, hml, hown, hts, hK, hN, hL, hr, hlocks, hcb⟩ := id Gc
  unfold fX10_wires_47 at h
  refine lv_iload_n hx hb dX10_wires_47 rfl (lv_at hl 2 rfl) ?_
  refine lv_iconst (v := (1 : Int32)) hx hb dX10_wires_48 (by decide) ?_
  refine lv_icmp_ne (tgt := 61) hx hb dX10_wires_49 (by decide) (fun c49 => ?_) (fun c49 => ?_)
  · replace h := if_f c49 h
    refine lv_iload_n hx hb dX10_wires_61 rfl (lv_at hl 2 rfl) ?_
    refine lv_if_eq (tgt := 72) hx hb dX10_wires_62 (by decide) (fun c62 => ?_) (fun c62 => ?_)
    · replace h := if_t c62 h
      refine lv_iconst (v := (0 : Int32)) hx hb dX10_wires_72 (by decide) ?_
      refine lv_istore_n (lv' := [(3, .int (0 : Int32)), (0, .ref (bs + 44)), (1, .int x1), (2, .int x2)]) hx hb dX10_wires_73 rfl hl (by decide) rfl (fun ls hl => ?_)
      refine lv_iconst (v := (0 : Int32)) hx hb dX10_wires_74 (by decide) ?_
      refine lv_istore (lv' := [(4, .int (0 : Int32)), (3, .int (0 : Int32)), (0, .ref (bs + 44)), (1, .int x1), (2, .int x2)]) hx hb dX10_wires_75 hl (by decide) rfl (fun ls hl => ?_)
      exact vX10_wires_77 bs D y n  r Gc  n (0 : Int32) (0 : Int32) I J _ _ _ hP hS (lv_sub hl [2, 1, 0] rfl) h
    · replace h := if_f c62 h
      refine lv_aload_n hx hb dX10_wires_65 rfl (lv_at hl 0 rfl) ?_
      refine lv_bipush (v := (-7 : Int32)) hx hb dX10_wires_66 (by decide) ?_
      obtain ⟨r68, er68, h⟩ := bd_s1 h
      refine c_VI (k := 44) (ci := 10) (As := [.int (-7 : Int32)]) (rest := []) hx hb hml hown hts hK hN hL hP hS (cX10_no_ l bs D y hcb n (-7 : Int32) I J r68 er68) ok_X10_no ov_X10_no ml_118 ⟨Nat.le_of_ble_eq_true rfl, Nat.le_of_ble_eq_true rfl⟩ rfl hcb kd_44 hl.1 rfl rfl (Nat.le_of_ble_eq_true rfl) ⟨Nat.zero_le _, Nat.zero_le _⟩ dX10_wires_68 (fun H locs hP hS => ?_)
      exact r_I hx hb hr hlocks hP hK hN hL hS h dX10_wires_71
  · replace h := if_t c49 h
    refine lv_aload_n hx hb dX10_wires_52 rfl (lv_at hl 0 rfl) ?_
    refine lv_iload_n hx hb dX10_wires_53 rfl (lv_at hl 1 rfl) ?_
    obtain ⟨r54, er54, h⟩ := bd_s1 h
    refine c_VJ (k := 44) (ci := 10) (As := [.int x1]) (rest := []) hx hb hml hown hts hK hN hL hP hS (cX10_endsOf_ l bs D y hcb n x1 I J r54 er54) ok_X10_endsOf ov_X10_endsOf ml_143 ⟨Nat.le_of_ble_eq_true rfl, Nat.le_of_ble_eq_true rfl⟩ rfl hcb kd_44 hl.1 rfl rfl (Nat.le_of_ble_eq_true rfl) ⟨Nat.zero_le _, Nat.zero_le _⟩ dX10_wires_54 (fun H locs hP hS => ?_)
    obtain ⟨r57, er57, h⟩ := bd_s1 h
    refine c_SI (As := [.long r54.1]) (rest := []) hx hb hml hown hts hK hN hL hP hS (cX10_manyTiles_ l bs D y hcb n r54.1 r54.2.1 r54.2.2 r57 er57) ok_X10_manyTiles ov_X10_manyTiles ml_148 ⟨Nat.le_of_ble_eq_true rfl, Nat.le_of_ble_eq_true rfl⟩ hl.1 rfl rfl (Nat.le_of_ble_eq_true rfl) ⟨Nat.zero_le _, Nat.zero_le _⟩ dX10_wires_57 (fun H locs hP hS => ?_)
    exact r_I hx hb hr hlocks hP hK hN hL hS h dX10_wires_60
set_option maxHeartbeats 4000000 in
set_option maxRecDepth 100000 in
theorem wX10_wires_40 {p : Program} {l : Launch} {e : Env} {s : State} {m : MethodId} {args : Array Value} {below : List Frame} {meth : Method} {c : Code} (bs : Nat) (D : va_G) (y : Y3) (n : Nat) (r : Int32 × M2) (Gc : Gx p s m args meth c cX10_wires 5 RX10 bs D y (some .int) 76)  (I : MI) (J : MJ) (H : Heap) (locs : List Loc) (ls : Array Slot) (hP : va_P D vwCl (wl bs y I J) H) (hS : va_S (FA bs) s.heap H locs) (hl : lv_has ls 5 [(0, .ref (bs + 44))]) (h : fX10_wires_40 n   I J = some r) : W p l e (rmm 2 47) s m args below meth c H locs 0 0 (QI below args s bs D y r) (F0 m 40 ls []) := by
  obtain ⟨hx, hb, hml, hown, hts, hK, hN, hL, hr, hlocks, hcb⟩ := id Gc
  unfold fX10_wires_40 at h
  refine lv_aload_n hx hb dX10_wires_40 rfl (lv_at hl 0 rfl) ?_
  refine lv_bipush (v := (-2 : Int32)) hx hb dX10_wires_41 (by decide) ?_
  obtain ⟨r43, er43, h⟩ := bd_s1 h
  refine c_VI (k := 44) (ci := 10) (As := [.int (-2 : Int32)]) (rest := []) hx hb hml hown hts hK hN hL hP hS (cX10_no_ l bs D y hcb n (-2 : Int32) I J r43 er43) ok_X10_no ov_X10_no ml_118 ⟨Nat.le_of_ble_eq_true rfl, Nat.le_of_ble_eq_true rfl⟩ rfl hcb kd_44 hl.1 rfl rfl (Nat.le_of_ble_eq_true rfl) ⟨Nat.zero_le _, Nat.zero_le _⟩ dX10_wires_43 (fun H locs hP hS => ?_)
  exact r_I hx hb hr hlocks hP hK hN hL hS h dX10_wires_46
set_option maxHeartbeats 4000000 in
set_option maxRecDepth 100000 in
theorem wX10_wires_20 {p : Program} {l : Launch} {e : Env} {s : State} {m : MethodId} {args : Array Value} {below : List Frame} {meth : Method} {c : Code} (bs : Nat) (D : va_G) (y : Y3) (n : Nat) (r : Int32 × M2) (Gc : Gx p s m args meth c cX10_wires 5 RX10 bs D y (some .int) 76)  (x1 : Int32) (x2 : Int32) (I : MI) (J : MJ) (H : Heap) (locs : List Loc) (ls : Array Slot) (hP : va_P D vwCl (wl bs y I J) H) (hS : va_S (FA bs) s.heap H locs) (hl : lv_has ls 5 [(0, .ref (bs + 44)), (1, .int x1), (2, .int x2)]) (h : fX10_wires_20 n  x1 x2 I J = some r) : W p l e (rmm 2 47) s m args below meth c H locs 0 0 (QI below args s bs D y r) (F0 m 20 ls []) := by
  obtain ⟨hx, hb, hml, hown, hts, hK, hN, hL, hr, hlocks, hcb⟩ := id Gc
  unfold fX10_wires_20 at h
  refine lv_aload_n hx hb dX10_wires_20 rfl (lv_at hl 0 rfl) ?_
  refine g_I (C := RX10) (T := TX10) (N := 49) (ci := 10) 44 12 hx hb hts hown hK hP in_X10 rfl hcb okF_44_12 fl_149 dX10_wires_21 ?_
  refine lv_if_eq (tgt := 40) hx hb dX10_wires_24 (by decide) (fun c24 => ?_) (fun c24 => ?_)
  · replace h := if_t c24 h
    exact wX10_wires_40 bs D y n  r Gc   I J _ _ _ hP hS (lv_sub hl [0] rfl) h
  · replace h := if_f c24 h
    refine lv_iload_n hx hb dX10_wires_27 rfl (lv_at hl 2 rfl) ?_
    refine lv_iconst (v := (1 : Int32)) hx hb dX10_wires_28 (by decide) ?_
    refine lv_icmp_ne (tgt := 47) hx hb dX10_wires_29 (by decide) (fun c29 => ?_) (fun c29 => ?_)
    · replace h := if_f c29 h
      exact wX10_wires_47 bs D y n  r Gc  x1 x2 I J _ _ _ hP hS (lv_sub hl [0, 1, 2] rfl) h
    · replace h := if_t c29 h
      refine lv_aload_n hx hb dX10_wires_32 rfl (lv_at hl 0 rfl) ?_
      refine lv_iload_n hx hb dX10_wires_33 rfl (lv_at hl 1 rfl) ?_
      obtain ⟨r34, er34, h⟩ := bd_s1 h
      refine c_VI (k := 44) (ci := 10) (As := [.int x1]) (rest := []) hx hb hml hown hts hK hN hL hP hS (cX10_isThing_ l bs D y hcb n x1 I J r34 er34) ok_X10_isThing ov_X10_isThing ml_137 ⟨Nat.le_of_ble_eq_true rfl, Nat.le_of_ble_eq_true rfl⟩ rfl hcb kd_44 hl.1 rfl rfl (Nat.le_of_ble_eq_true rfl) ⟨Nat.zero_le _, Nat.zero_le _⟩ dX10_wires_34 (fun H locs hP hS => ?_)
      refine lv_if_ne (tgt := 47) hx hb dX10_wires_37 (by decide) (fun c37 => ?_) (fun c37 => ?_)
      · replace h := if_f c37 h
        exact wX10_wires_47 bs D y n  r Gc  x1 x2 r34.2.1 r34.2.2 _ _ _ hP hS (lv_sub hl [0, 1, 2] rfl) h
      · replace h := if_t c37 h
        exact wX10_wires_40 bs D y n  r Gc   r34.2.1 r34.2.2 _ _ _ hP hS (lv_sub hl [0] rfl) h
set_option maxHeartbeats 4000000 in
set_option maxRecDepth 100000 in
theorem cX10_wires_ (l : Launch) (bs : Nat) (D : va_G) (y : Y3) (hcb : 76 ≤ y.2.2.2) (n : Nat) (x1 : Int32) (x2 : Int32) (I : MI) (J : MJ) (r : Int32 × M2) (h : fX10_wires n x1 x2 I J = some r) : Met l yX10_wires (.code yX10_wires cX10_wires 5 (some .int) :: gtb) (rmm 2 47) (va_Pc [.ref (bs + 44), .int x1, .int x2] (HB bs D y I J)) (QcI bs D y r) 0 0 (FA bs) := by
  refine Met.ofW (cc := cX10_wires) (maxL := 5) (ret := (some .int)) (by decide) rfl ?_
  intro p e s m args below meth c s₁ B hml hv
  obtain ⟨rfl, hP, hK, hN, hL⟩ := hv
  have hx := B.exec
  have hb := B.bytes
  have hr := B.returns
  have hts0 := atoms_spec (ws := .code yX10_wires cX10_wires 5 (some .int) :: gtb) B.pre
  have hts : ∀ w ∈ gtb, w.before [.ref (bs + 44), .int x1, .int x2].toArray s = true := fun w hw => hts0 w (List.mem_cons_of_mem _ hw)
  have hown : s.vm.findClass RX10 = some m.cls := findClass_of_methodNamed B.named
  have hlocks := B.notSynchronized
  have hS : va_S (FA bs) s.heap s.heap [] := va_S.rf
  have Gc : Gx p s m [.ref (bs + 44), .int x1, .int x2].toArray meth c cX10_wires 5 RX10 bs D y (some .int) 76 := ⟨hx, hb, hml, hown, hts, hK, hN, hL, hr, hlocks, hcb⟩
  have hl := lv_entry [.ref (bs + 44), .int x1, .int x2] (n := 5) (Nat.le_of_ble_eq_true rfl)
  rw [lg_entry_eq]
  generalize (lg_sl [.ref (bs + 44), .int x1, .int x2] ++ List.replicate (5 - (lg_sl [.ref (bs + 44), .int x1, .int x2]).length) Slot.unset).toArray = ls at hl ⊢
  have hl : lv_has ls 5 [(0, .ref (bs + 44)), (1, .int x1), (2, .int x2)] := hl
  change W p l e (rmm 2 47) s m [.ref (bs + 44), .int x1, .int x2].toArray below meth c s.heap [] 0 0 (QI below [.ref (bs + 44), .int x1, .int x2].toArray s bs D y r) (F0 m 0 ls [])
  unfold fX10_wires at h
  refine lv_iload_n hx hb dX10_wires_0 rfl (lv_at hl 2 rfl) ?_
  refine lv_iconst (v := (1 : Int32)) hx hb dX10_wires_1 (by decide) ?_
  refine lv_icmp_ne (tgt := 20) hx hb dX10_wires_2 (by decide) (fun c2 => ?_) (fun c2 => ?_)
  · replace h := if_f c2 h
    exact wX10_wires_20 bs D y n  r Gc  x1 x2 I J _ _ _ hP hS (lv_sub hl [0, 1, 2] rfl) h
  · replace h := if_t c2 h
    refine lv_aload_n hx hb dX10_wires_5 rfl (lv_at hl 0 rfl) ?_
    refine lv_iload_n hx hb dX10_wires_6 rfl (lv_at hl 1 rfl) ?_
    obtain ⟨r7, er7, h⟩ := bd_s1 h
    refine c_VI (k := 44) (ci := 10) (As := [.int x1]) (rest := []) hx hb hml hown hts hK hN hL hP hS (cX10_isCell_ l bs D y hcb n x1 I J r7 er7) ok_X10_isCell ov_X10_isCell ml_122 ⟨Nat.le_of_ble_eq_true rfl, Nat.le_of_ble_eq_true rfl⟩ rfl hcb kd_44 hl.1 rfl rfl (Nat.le_of_ble_eq_true rfl) ⟨Nat.zero_le _, Nat.zero_le _⟩ dX10_wires_7 (fun H locs hP hS => ?_)
    refine lv_if_ne (tgt := 20) hx hb dX10_wires_10 (by decide) (fun c10 => ?_) (fun c10 => ?_)
    · replace h := if_f c10 h
      exact wX10_wires_20 bs D y n  r Gc  x1 x2 r7.2.1 r7.2.2 _ _ _ hP hS (lv_sub hl [0, 1, 2] rfl) h
    · replace h := if_t c10 h
      refine lv_aload_n hx hb dX10_wires_13 rfl (lv_at hl 0 rfl) ?_
      refine lv_bipush (v := (-3 : Int32)) hx hb dX10_wires_14 (by decide) ?_
      obtain ⟨r16, er16, h⟩ := bd_s1 h
      refine c_VI (k := 44) (ci := 10) (As := [.int (-3 : Int32)]) (rest := []) hx hb hml hown hts hK hN hL hP hS (cX10_no_ l bs D y hcb n (-3 : Int32) r7.2.1 r7.2.2 r16 er16) ok_X10_no ov_X10_no ml_118 ⟨Nat.le_of_ble_eq_true rfl, Nat.le_of_ble_eq_true rfl⟩ rfl hcb kd_44 hl.1 rfl rfl (Nat.le_of_ble_eq_true rfl) ⟨Nat.zero_le _, Nat.zero_le _⟩ dX10_wires_16 (fun H locs hP hS => ?_)
      exact r_I hx hb hr hlocks hP hK hN hL hS h dX10_wires_19
theorem dX10_lesser_0 : decode cX10_lesser 0 = .ok (.aload_n 0, 1) := by decide +kernel
theorem dX10_lesser_1 : decode cX10_lesser 1 = .ok (.getfield 60, 3) := by decide +kernel
theorem dX10_lesser_4 : decode cX10_lesser 4 = .ok (.aload_n 0, 1) := by decide +kernel
theorem dX10_lesser_5 : decode cX10_lesser 5 = .ok (.getfield 56, 3) := by decide +kernel
theorem dX10_lesser_8 : decode cX10_lesser 8 = .ok (.iconst 1, 1) := by decide +kernel
theorem dX10_lesser_9 : decode cX10_lesser 9 = .ok (.isub, 1) := by decide +kernel
theorem dX10_lesser_10 : decode cX10_lesser 10 = .ok (.imul, 1) := by decide +kernel
theorem dX10_lesser_11 : decode cX10_lesser 11 = .ok (.istore_n 2, 1) := by decide +kernel
theorem dX10_lesser_12 : decode cX10_lesser 12 = .ok (.iload_n 1, 1) := by decide +kernel
theorem dX10_lesser_13 : decode cX10_lesser 13 = .ok (.iload_n 2, 1) := by decide +kernel
theorem dX10_lesser_14 : decode cX10_lesser 14 = .ok (.if_icmp .ge 28, 3) := by decide +kernel
theorem dX10_lesser_17 : decode cX10_lesser 17 = .ok (.iload_n 1, 1) := by decide +kernel
theorem dX10_lesser_18 : decode cX10_lesser 18 = .ok (.aload_n 0, 1) := by decide +kernel
theorem dX10_lesser_19 : decode cX10_lesser 19 = .ok (.getfield 56, 3) := by decide +kernel
theorem dX10_lesser_22 : decode cX10_lesser 22 = .ok (.iconst 1, 1) := by decide +kernel
theorem dX10_lesser_23 : decode cX10_lesser 23 = .ok (.isub, 1) := by decide +kernel
theorem dX10_lesser_24 : decode cX10_lesser 24 = .ok (.idiv, 1) := by decide +kernel
theorem dX10_lesser_25 : decode cX10_lesser 25 = .ok (.aload_n 0, 1) := by decide +kernel
theorem dX10_lesser_26 : decode cX10_lesser 26 = .ok (.getfield 56, 3) := by decide +kernel
theorem dX10_lesser_29 : decode cX10_lesser 29 = .ok (.imul, 1) := by decide +kernel
theorem dX10_lesser_30 : decode cX10_lesser 30 = .ok (.iload_n 1, 1) := by decide +kernel
theorem dX10_lesser_31 : decode cX10_lesser 31 = .ok (.aload_n 0, 1) := by decide +kernel
theorem dX10_lesser_32 : decode cX10_lesser 32 = .ok (.getfield 56, 3) := by decide +kernel
theorem dX10_lesser_35 : decode cX10_lesser 35 = .ok (.iconst 1, 1) := by decide +kernel
theorem dX10_lesser_36 : decode cX10_lesser 36 = .ok (.isub, 1) := by decide +kernel
theorem dX10_lesser_37 : decode cX10_lesser 37 = .ok (.irem, 1) := by decide +kernel
theorem dX10_lesser_38 : decode cX10_lesser 38 = .ok (.iadd, 1) := by decide +kernel
theorem dX10_lesser_39 : decode cX10_lesser 39 = .ok (.goto 6, 3) := by decide +kernel
theorem dX10_lesser_42 : decode cX10_lesser 42 = .ok (.iload_n 1, 1) := by decide +kernel
theorem dX10_lesser_43 : decode cX10_lesser 43 = .ok (.iload_n 2, 1) := by decide +kernel
theorem dX10_lesser_44 : decode cX10_lesser 44 = .ok (.isub, 1) := by decide +kernel
theorem dX10_lesser_45 : decode cX10_lesser 45 = .ok (.ireturn, 1) := by decide +kernel
set_option maxHeartbeats 4000000 in
set_option maxRecDepth 100000 in
theorem cX10_lesser_ (l : Launch) (bs : Nat) (D : va_G) (y : Y3) (hcb : 76 ≤ y.2.2.2) (n : Nat) (x1 : Int32) (I : MI) (J : MJ) (r : Int32 × M2) (h : fX10_lesser n x1 I J = some r) : Met l yX10_lesser (.code yX10_lesser cX10_lesser 3 (some .int) :: gtb) (rmm 0 0) (va_Pc [.ref (bs + 44), .int x1] (HB bs D y I J)) (QcI bs D y r) 0 0 (FA bs) := by
  refine Met.ofW (cc := cX10_lesser) (maxL := 3) (ret := (some .int)) (by decide) rfl ?_
  intro p e s m args below meth c s₁ B hml hv
  obtain ⟨rfl, hP, hK, hN, hL⟩ := hv
  have hx := B.exec
  have hb := B.bytes
  have hr := B.returns
  have hts0 := atoms_spec (ws := .code yX10_lesser cX10_lesser 3 (some .int) :: gtb) B.pre
  have hts : ∀ w ∈ gtb, w.before [.ref (bs + 44), .int x1].toArray s = true := fun w hw => hts0 w (List.mem_cons_of_mem _ hw)
  have hown : s.vm.findClass RX10 = some m.cls := findClass_of_methodNamed B.named
  have hlocks := B.notSynchronized
  have hS : va_S (FA bs) s.heap s.heap [] := va_S.rf
  have Gc : Gx p s m [.ref (bs + 44), .int x1].toArray meth c cX10_lesser 3 RX10 bs D y (some .int) 76 := ⟨hx, hb, hml, hown, hts, hK, hN, hL, hr, hlocks, hcb⟩
  have hl := lv_entry [.ref (bs + 44), .int x1] (n := 3) (Nat.le_of_ble_eq_true rfl)
  rw [lg_entry_eq]
  generalize (lg_sl [.ref (bs + 44), .int x1] ++ List.replicate (3 - (lg_sl [.ref (bs + 44), .int x1]).length) Slot.unset).toArray = ls at hl ⊢
  have hl : lv_has ls 3 [(0, .ref (bs + 44)), (1, .int x1)] := hl
  change W p l e (rmm 0 0) s m [.ref (bs + 44), .int x1].toArray below meth c s.heap [] 0 0 (QI below [.ref (bs + 44), .int x1].toArray s bs D y r) (F0 m 0 ls [])
  unfold fX10_lesser at h
  refine lv_aload_n hx hb dX10_lesser_0 rfl (lv_at hl 0 rfl) ?_
  refine g_I (C := RX10) (T := TX10) (N := 49) (ci := 10) 44 25 hx hb hts hown hK hP in_X10 rfl hcb okF_44_25 fl_169 dX10_lesser_1 ?_
  refine lv_aload_n hx hb dX10_lesser_4 rfl (lv_at hl 0 rfl) ?_
  refine g_I (C := RX10) (T := TX10) (N := 49) (ci := 10) 44 24 hx hb hts hown hK hP in_X10 rfl hcb okF_44_24 fl_168 dX10_lesser_5 ?_
  refine lv_iconst (v := (1 : Int32)) hx hb dX10_lesser_8 (by decide) ?_
  refine lv_isub hx hb dX10_lesser_9 ?_
  refine lv_imul hx hb dX10_lesser_10 ?_
  obtain ⟨v11, ev11, h⟩ := lt_s1 h
  refine top_i ev11 ?_
  refine lv_istore_n (lv' := [(2, .int v11), (0, .ref (bs + 44)), (1, .int x1)]) hx hb dX10_lesser_11 rfl hl (by decide) rfl (fun ls hl => ?_)
  refine lv_iload_n hx hb dX10_lesser_12 rfl (lv_at hl 2 rfl) ?_
  refine lv_iload_n hx hb dX10_lesser_13 rfl (lv_at hl 0 rfl) ?_
  refine lv_icmp_ge (tgt := 42) hx hb dX10_lesser_14 (by decide) (fun c14 => ?_) (fun c14 => ?_)
  · replace h := if_t c14 h
    refine lv_iload_n hx hb dX10_lesser_42 rfl (lv_at hl 2 rfl) ?_
    refine lv_iload_n hx hb dX10_lesser_43 rfl (lv_at hl 0 rfl) ?_
    refine lv_isub hx hb dX10_lesser_44 ?_
    exact r_I hx hb hr hlocks hP hK hN hL hS h dX10_lesser_45
  · replace h := if_f c14 h
    refine lv_iload_n hx hb dX10_lesser_17 rfl (lv_at hl 2 rfl) ?_
    refine lv_aload_n hx hb dX10_lesser_18 rfl (lv_at hl 1 rfl) ?_
    refine g_I (C := RX10) (T := TX10) (N := 49) (ci := 10) 44 24 hx hb hts hown hK hP in_X10 rfl hcb okF_44_24 fl_168 dX10_lesser_19 ?_
    refine lv_iconst (v := (1 : Int32)) hx hb dX10_lesser_22 (by decide) ?_
    refine lv_isub hx hb dX10_lesser_23 ?_
    obtain ⟨hz24, h⟩ := if_s1 h
    refine lv_idiv hx hb dX10_lesser_24 (of_decide_eq_true hz24) ?_
    refine lv_aload_n hx hb dX10_lesser_25 rfl (lv_at hl 1 rfl) ?_
    refine g_I (C := RX10) (T := TX10) (N := 49) (ci := 10) 44 24 hx hb hts hown hK hP in_X10 rfl hcb okF_44_24 fl_168 dX10_lesser_26 ?_
    refine lv_imul hx hb dX10_lesser_29 ?_
    refine lv_iload_n hx hb dX10_lesser_30 rfl (lv_at hl 2 rfl) ?_
    refine lv_aload_n hx hb dX10_lesser_31 rfl (lv_at hl 1 rfl) ?_
    refine g_I (C := RX10) (T := TX10) (N := 49) (ci := 10) 44 24 hx hb hts hown hK hP in_X10 rfl hcb okF_44_24 fl_168 dX10_lesser_32 ?_
    refine lv_iconst (v := (1 : Int32)) hx hb dX10_lesser_35 (by decide) ?_
    refine lv_isub hx hb dX10_lesser_36 ?_
    obtain ⟨hz37, h⟩ := if_s1 h
    refine lv_irem hx hb dX10_lesser_37 (of_decide_eq_true hz37) ?_
    refine lv_iadd hx hb dX10_lesser_38 ?_
    refine lv_goto (tgt := 45) hx hb dX10_lesser_39 (by decide) ?_
    exact r_I hx hb hr hlocks hP hK hN hL hS h dX10_lesser_45
theorem dX10_greater_0 : decode cX10_greater 0 = .ok (.iload_n 1, 1) := by decide +kernel
theorem dX10_greater_1 : decode cX10_greater 1 = .ok (.aload_n 0, 1) := by decide +kernel
theorem dX10_greater_2 : decode cX10_greater 2 = .ok (.getfield 60, 3) := by decide +kernel
theorem dX10_greater_5 : decode cX10_greater 5 = .ok (.aload_n 0, 1) := by decide +kernel
theorem dX10_greater_6 : decode cX10_greater 6 = .ok (.getfield 56, 3) := by decide +kernel
theorem dX10_greater_9 : decode cX10_greater 9 = .ok (.iconst 1, 1) := by decide +kernel
theorem dX10_greater_10 : decode cX10_greater 10 = .ok (.isub, 1) := by decide +kernel
theorem dX10_greater_11 : decode cX10_greater 11 = .ok (.imul, 1) := by decide +kernel
theorem dX10_greater_12 : decode cX10_greater 12 = .ok (.if_icmp .ge 13, 3) := by decide +kernel
theorem dX10_greater_15 : decode cX10_greater 15 = .ok (.aload_n 0, 1) := by decide +kernel
theorem dX10_greater_16 : decode cX10_greater 16 = .ok (.iload_n 1, 1) := by decide +kernel
theorem dX10_greater_17 : decode cX10_greater 17 = .ok (.invokevirtual 278, 3) := by decide +kernel
theorem dX10_greater_20 : decode cX10_greater 20 = .ok (.iconst 1, 1) := by decide +kernel
theorem dX10_greater_21 : decode cX10_greater 21 = .ok (.iadd, 1) := by decide +kernel
theorem dX10_greater_22 : decode cX10_greater 22 = .ok (.goto 13, 3) := by decide +kernel
theorem dX10_greater_25 : decode cX10_greater 25 = .ok (.aload_n 0, 1) := by decide +kernel
theorem dX10_greater_26 : decode cX10_greater 26 = .ok (.iload_n 1, 1) := by decide +kernel
theorem dX10_greater_27 : decode cX10_greater 27 = .ok (.invokevirtual 278, 3) := by decide +kernel
theorem dX10_greater_30 : decode cX10_greater 30 = .ok (.aload_n 0, 1) := by decide +kernel
theorem dX10_greater_31 : decode cX10_greater 31 = .ok (.getfield 56, 3) := by decide +kernel
theorem dX10_greater_34 : decode cX10_greater 34 = .ok (.iadd, 1) := by decide +kernel
theorem dX10_greater_35 : decode cX10_greater 35 = .ok (.ireturn, 1) := by decide +kernel
set_option maxHeartbeats 4000000 in
set_option maxRecDepth 100000 in
theorem cX10_greater_ (l : Launch) (bs : Nat) (D : va_G) (y : Y3) (hcb : 76 ≤ y.2.2.2) (n : Nat) (x1 : Int32) (I : MI) (J : MJ) (r : Int32 × M2) (h : fX10_greater n x1 I J = some r) : Met l yX10_greater (.code yX10_greater cX10_greater 2 (some .int) :: gtb) (rmm 1 22) (va_Pc [.ref (bs + 44), .int x1] (HB bs D y I J)) (QcI bs D y r) 0 0 (FA bs) := by
  refine Met.ofW (cc := cX10_greater) (maxL := 2) (ret := (some .int)) (by decide) rfl ?_
  intro p e s m args below meth c s₁ B hml hv
  obtain ⟨rfl, hP, hK, hN, hL⟩ := hv
  have hx := B.exec
  have hb := B.bytes
  have hr := B.returns
  have hts0 := atoms_spec (ws := .code yX10_greater cX10_greater 2 (some .int) :: gtb) B.pre
  have hts : ∀ w ∈ gtb, w.before [.ref (bs + 44), .int x1].toArray s = true := fun w hw => hts0 w (List.mem_cons_of_mem _ hw)
  have hown : s.vm.findClass RX10 = some m.cls := findClass_of_methodNamed B.named
  have hlocks := B.notSynchronized
  have hS : va_S (FA bs) s.heap s.heap [] := va_S.rf
  have Gc : Gx p s m [.ref (bs + 44), .int x1].toArray meth c cX10_greater 2 RX10 bs D y (some .int) 76 := ⟨hx, hb, hml, hown, hts, hK, hN, hL, hr, hlocks, hcb⟩
  have hl := lv_entry [.ref (bs + 44), .int x1] (n := 2) (Nat.le_of_ble_eq_true rfl)
  rw [lg_entry_eq]
  generalize (lg_sl [.ref (bs + 44), .int x1] ++ List.replicate (2 - (lg_sl [.ref (bs + 44), .int x1]).length) Slot.unset).toArray = ls at hl ⊢
  have hl : lv_has ls 2 [(0, .ref (bs + 44)), (1, .int x1)] := hl
  change W p l e (rmm 1 22) s m [.ref (bs + 44), .int x1].toArray below meth c s.heap [] 0 0 (QI below [.ref (bs + 44), .int x1].toArray s bs D y r) (F0 m 0 ls [])
  unfold fX10_greater at h
  refine lv_iload_n hx hb dX10_greater_0 rfl (lv_at hl 1 rfl) ?_
  refine lv_aload_n hx hb dX10_greater_1 rfl (lv_at hl 0 rfl) ?_
  refine g_I (C := RX10) (T := TX10) (N := 49) (ci := 10) 44 25 hx hb hts hown hK hP in_X10 rfl hcb okF_44_25 fl_169 dX10_greater_2 ?_
  refine lv_aload_n hx hb dX10_greater_5 rfl (lv_at hl 0 rfl) ?_
  refine g_I (C := RX10) (T := TX10) (N := 49) (ci := 10) 44 24 hx hb hts hown hK hP in_X10 rfl hcb okF_44_24 fl_168 dX10_greater_6 ?_
  refine lv_iconst (v := (1 : Int32)) hx hb dX10_greater_9 (by decide) ?_
  refine lv_isub hx hb dX10_greater_10 ?_
  refine lv_imul hx hb dX10_greater_11 ?_
  refine lv_icmp_ge (tgt := 25) hx hb dX10_greater_12 (by decide) (fun c12 => ?_) (fun c12 => ?_)
  · replace h := if_t c12 h
    refine lv_aload_n hx hb dX10_greater_25 rfl (lv_at hl 0 rfl) ?_
    refine lv_iload_n hx hb dX10_greater_26 rfl (lv_at hl 1 rfl) ?_
    obtain ⟨r27, er27, h⟩ := bd_s1 h
    refine c_VI (k := 44) (ci := 10) (As := [.int x1]) (rest := []) hx hb hml hown hts hK hN hL hP hS (cX10_lesser_ l bs D y hcb n x1 I J r27 er27) ok_X10_lesser ov_X10_lesser ml_149 ⟨Nat.le_of_ble_eq_true rfl, Nat.le_of_ble_eq_true rfl⟩ rfl hcb kd_44 hl.1 rfl rfl (Nat.le_of_ble_eq_true rfl) ⟨Nat.zero_le _, Nat.zero_le _⟩ dX10_greater_27 (fun H locs hP hS => ?_)
    refine lv_aload_n hx hb dX10_greater_30 rfl (lv_at hl 0 rfl) ?_
    refine g_I (C := RX10) (T := TX10) (N := 49) (ci := 10) 44 24 hx hb hts hown hK hP in_X10 rfl hcb okF_44_24 fl_168 dX10_greater_31 ?_
    refine lv_iadd hx hb dX10_greater_34 ?_
    exact r_I hx hb hr hlocks hP hK hN hL hS h dX10_greater_35
  · replace h := if_f c12 h
    refine lv_aload_n hx hb dX10_greater_15 rfl (lv_at hl 0 rfl) ?_
    refine lv_iload_n hx hb dX10_greater_16 rfl (lv_at hl 1 rfl) ?_
    obtain ⟨r17, er17, h⟩ := bd_s1 h
    refine c_VI (k := 44) (ci := 10) (As := [.int x1]) (rest := []) hx hb hml hown hts hK hN hL hP hS (cX10_lesser_ l bs D y hcb n x1 I J r17 er17) ok_X10_lesser ov_X10_lesser ml_149 ⟨Nat.le_of_ble_eq_true rfl, Nat.le_of_ble_eq_true rfl⟩ rfl hcb kd_44 hl.1 rfl rfl (Nat.le_of_ble_eq_true rfl) ⟨Nat.zero_le _, Nat.zero_le _⟩ dX10_greater_17 (fun H locs hP hS => ?_)
    refine lv_iconst (v := (1 : Int32)) hx hb dX10_greater_20 (by decide) ?_
    refine lv_iadd hx hb dX10_greater_21 ?_
    refine lv_goto (tgt := 35) hx hb dX10_greater_22 (by decide) ?_
    exact r_I hx hb hr hlocks hP hK hN hL hS h dX10_greater_35
theorem dX10_price_0 : decode cX10_price 0 = .ok (.aload_n 0, 1) := by decide +kernel
theorem dX10_price_1 : decode cX10_price 1 = .ok (.getfield 78, 3) := by decide +kernel
theorem dX10_price_4 : decode cX10_price 4 = .ok (.iload_n 1, 1) := by decide +kernel
theorem dX10_price_5 : decode cX10_price 5 = .ok (.iaload, 1) := by decide +kernel
theorem dX10_price_6 : decode cX10_price 6 = .ok (.iconst 1, 1) := by decide +kernel
theorem dX10_price_7 : decode cX10_price 7 = .ok (.iadd, 1) := by decide +kernel
theorem dX10_price_8 : decode cX10_price 8 = .ok (.aload_n 0, 1) := by decide +kernel
theorem dX10_price_9 : decode cX10_price 9 = .ok (.getfield 66, 3) := by decide +kernel
theorem dX10_price_12 : decode cX10_price 12 = .ok (.isub, 1) := by decide +kernel
theorem dX10_price_13 : decode cX10_price 13 = .ok (.istore_n 2, 1) := by decide +kernel
theorem dX10_price_14 : decode cX10_price 14 = .ok (.iconst 1, 1) := by decide +kernel
theorem dX10_price_15 : decode cX10_price 15 = .ok (.aload_n 0, 1) := by decide +kernel
theorem dX10_price_16 : decode cX10_price 16 = .ok (.getfield 81, 3) := by decide +kernel
theorem dX10_price_19 : decode cX10_price 19 = .ok (.iload_n 1, 1) := by decide +kernel
theorem dX10_price_20 : decode cX10_price 20 = .ok (.iaload, 1) := by decide +kernel
theorem dX10_price_21 : decode cX10_price 21 = .ok (.iadd, 1) := by decide +kernel
theorem dX10_price_22 : decode cX10_price 22 = .ok (.iconst 1, 1) := by decide +kernel
theorem dX10_price_23 : decode cX10_price 23 = .ok (.iload_n 2, 1) := by decide +kernel
theorem dX10_price_24 : decode cX10_price 24 = .ok (.ifCond .le 7, 3) := by decide +kernel
theorem dX10_price_27 : decode cX10_price 27 = .ok (.iload_n 2, 1) := by decide +kernel
theorem dX10_price_28 : decode cX10_price 28 = .ok (.goto 4, 3) := by decide +kernel
theorem dX10_price_31 : decode cX10_price 31 = .ok (.iconst 0, 1) := by decide +kernel
theorem dX10_price_32 : decode cX10_price 32 = .ok (.iadd, 1) := by decide +kernel
theorem dX10_price_33 : decode cX10_price 33 = .ok (.imul, 1) := by decide +kernel
theorem dX10_price_34 : decode cX10_price 34 = .ok (.ireturn, 1) := by decide +kernel
set_option maxHeartbeats 4000000 in
set_option maxRecDepth 100000 in
theorem cX10_price_ (l : Launch) (bs : Nat) (D : va_G) (y : Y3) (hcb : 76 ≤ y.2.2.2) (n : Nat) (x1 : Int32) (I : MI) (J : MJ) (r : Int32 × M2) (h : fX10_price n x1 I J = some r) : Met l yX10_price (.code yX10_price cX10_price 3 (some .int) :: gtb) (rmm 0 0) (va_Pc [.ref (bs + 44), .int x1] (HB bs D y I J)) (QcI bs D y r) 0 0 (FA bs) := by
  refine Met.ofW (cc := cX10_price) (maxL := 3) (ret := (some .int)) (by decide) rfl ?_
  intro p e s m args below meth c s₁ B hml hv
  obtain ⟨rfl, hP, hK, hN, hL⟩ := hv
  have hx := B.exec
  have hb := B.bytes
  have hr := B.returns
  have hts0 := atoms_spec (ws := .code yX10_price cX10_price 3 (some .int) :: gtb) B.pre
  have hts : ∀ w ∈ gtb, w.before [.ref (bs + 44), .int x1].toArray s = true := fun w hw => hts0 w (List.mem_cons_of_mem _ hw)
  have hown : s.vm.findClass RX10 = some m.cls := findClass_of_methodNamed B.named
  have hlocks := B.notSynchronized
  have hS : va_S (FA bs) s.heap s.heap [] := va_S.rf
  have Gc : Gx p s m [.ref (bs + 44), .int x1].toArray meth c cX10_price 3 RX10 bs D y (some .int) 76 := ⟨hx, hb, hml, hown, hts, hK, hN, hL, hr, hlocks, hcb⟩
  have hl := lv_entry [.ref (bs + 44), .int x1] (n := 3) (Nat.le_of_ble_eq_true rfl)
  rw [lg_entry_eq]
  generalize (lg_sl [.ref (bs + 44), .int x1] ++ List.replicate (3 - (lg_sl [.ref (bs + 44), .int x1]).length) Slot.unset).toArray = ls at hl ⊢
  have hl : lv_has ls 3 [(0, .ref (bs + 44)), (1, .int x1)] := hl
  change W p l e (rmm 0 0) s m [.ref (bs + 44), .int x1].toArray below meth c s.heap [] 0 0 (QI below [.ref (bs + 44), .int x1].toArray s bs D y r) (F0 m 0 ls [])
  unfold fX10_price at h
  refine lv_aload_n hx hb dX10_price_0 rfl (lv_at hl 0 rfl) ?_
  refine g_R (C := RX10) (T := TX10) (N := 49) (ci := 10) 44 31 63 hx hb hts hown hK hP in_X10 rfl hcb okF_44_31 rfc_44_31 fl_174 dX10_price_1 ?_
  refine lv_iload_n hx hb dX10_price_4 rfl (lv_at hl 1 rfl) ?_
  obtain ⟨hi5, h⟩ := if_s1 h
  refine a_I 63 hx hb hK hP hcb aln_63 hi5 dX10_price_5 ?_
  refine lv_iconst (v := (1 : Int32)) hx hb dX10_price_6 (by decide) ?_
  refine lv_iadd hx hb dX10_price_7 ?_
  refine lv_aload_n hx hb dX10_price_8 rfl (lv_at hl 0 rfl) ?_
  refine g_I (C := RX10) (T := TX10) (N := 49) (ci := 10) 44 27 hx hb hts hown hK hP in_X10 rfl hcb okF_44_27 fl_172 dX10_price_9 ?_
  refine lv_isub hx hb dX10_price_12 ?_
  obtain ⟨v13, ev13, h⟩ := lt_s1 h
  refine top_i ev13 ?_
  refine lv_istore_n (lv' := [(2, .int v13), (0, .ref (bs + 44)), (1, .int x1)]) hx hb dX10_price_13 rfl hl (by decide) rfl (fun ls hl => ?_)
  refine lv_iconst (v := (1 : Int32)) hx hb dX10_price_14 (by decide) ?_
  refine lv_aload_n hx hb dX10_price_15 rfl (lv_at hl 1 rfl) ?_
  refine g_R (C := RX10) (T := TX10) (N := 49) (ci := 10) 44 32 64 hx hb hts hown hK hP in_X10 rfl hcb okF_44_32 rfc_44_32 fl_175 dX10_price_16 ?_
  refine lv_iload_n hx hb dX10_price_19 rfl (lv_at hl 2 rfl) ?_
  obtain ⟨hi20, h⟩ := if_s1 h
  refine a_I 64 hx hb hK hP hcb aln_64 hi20 dX10_price_20 ?_
  refine lv_iadd hx hb dX10_price_21 ?_
  refine lv_iconst (v := (1 : Int32)) hx hb dX10_price_22 (by decide) ?_
  refine lv_iload_n hx hb dX10_price_23 rfl (lv_at hl 0 rfl) ?_
  refine lv_if_le (tgt := 31) hx hb dX10_price_24 (by decide) (fun c24 => ?_) (fun c24 => ?_)
  · replace h := if_t c24 h
    refine lv_iconst (v := (0 : Int32)) hx hb dX10_price_31 (by decide) ?_
    refine lv_iadd hx hb dX10_price_32 ?_
    refine lv_imul hx hb dX10_price_33 ?_
    exact r_I hx hb hr hlocks hP hK hN hL hS h dX10_price_34
  · replace h := if_f c24 h
    refine lv_iload_n hx hb dX10_price_27 rfl (lv_at hl 0 rfl) ?_
    refine lv_goto (tgt := 32) hx hb dX10_price_28 (by decide) ?_
    refine lv_iadd hx hb dX10_price_32 ?_
    refine lv_imul hx hb dX10_price_33 ?_
    exact r_I hx hb hr hlocks hP hK hN hL hS h dX10_price_34
theorem dX10_findFar_0 : decode cX10_findFar 0 = .ok (.iconst 0, 1) := by decide +kernel
theorem dX10_findFar_1 : decode cX10_findFar 1 = .ok (.istore_n 1, 1) := by decide +kernel
theorem dX10_findFar_2 : decode cX10_findFar 2 = .ok (.iload_n 1, 1) := by decide +kernel
theorem dX10_findFar_3 : decode cX10_findFar 3 = .ok (.aload_n 0, 1) := by decide +kernel
theorem dX10_findFar_4 : decode cX10_findFar 4 = .ok (.invokevirtual 216, 3) := by decide +kernel
theorem dX10_findFar_7 : decode cX10_findFar 7 = .ok (.if_icmp .ge 31, 3) := by decide +kernel
theorem dX10_findFar_10 : decode cX10_findFar 10 = .ok (.aload_n 0, 1) := by decide +kernel
theorem dX10_findFar_11 : decode cX10_findFar 11 = .ok (.getfield 84, 3) := by decide +kernel
theorem dX10_findFar_14 : decode cX10_findFar 14 = .ok (.iload_n 1, 1) := by decide +kernel
theorem dX10_findFar_15 : decode cX10_findFar 15 = .ok (.aload_n 0, 1) := by decide +kernel
theorem dX10_findFar_16 : decode cX10_findFar 16 = .ok (.getfield 87, 3) := by decide +kernel
theorem dX10_findFar_19 : decode cX10_findFar 19 = .ok (.iload_n 1, 1) := by decide +kernel
theorem dX10_findFar_20 : decode cX10_findFar 20 = .ok (.baload, 1) := by decide +kernel
theorem dX10_findFar_21 : decode cX10_findFar 21 = .ok (.ifCond .eq 7, 3) := by decide +kernel
theorem dX10_findFar_24 : decode cX10_findFar 24 = .ok (.iconst 0, 1) := by decide +kernel
theorem dX10_findFar_25 : decode cX10_findFar 25 = .ok (.goto 6, 3) := by decide +kernel
theorem dX10_findFar_28 : decode cX10_findFar 28 = .ok (.ldc_w 281, 3) := by decide +kernel
theorem dX10_findFar_31 : decode cX10_findFar 31 = .ok (.iastore, 1) := by decide +kernel
theorem dX10_findFar_32 : decode cX10_findFar 32 = .ok (.iinc 1 1, 3) := by decide +kernel
theorem dX10_findFar_35 : decode cX10_findFar 35 = .ok (.goto (-33), 3) := by decide +kernel
theorem dX10_findFar_38 : decode cX10_findFar 38 = .ok (.iconst 0, 1) := by decide +kernel
theorem dX10_findFar_39 : decode cX10_findFar 39 = .ok (.istore_n 1, 1) := by decide +kernel
theorem dX10_findFar_40 : decode cX10_findFar 40 = .ok (.iload_n 1, 1) := by decide +kernel
theorem dX10_findFar_41 : decode cX10_findFar 41 = .ok (.aload_n 0, 1) := by decide +kernel
theorem dX10_findFar_42 : decode cX10_findFar 42 = .ok (.invokevirtual 216, 3) := by decide +kernel
theorem dX10_findFar_45 : decode cX10_findFar 45 = .ok (.if_icmp .ge 120, 3) := by decide +kernel
theorem dX10_findFar_48 : decode cX10_findFar 48 = .ok (.iconst 0, 1) := by decide +kernel
theorem dX10_findFar_49 : decode cX10_findFar 49 = .ok (.istore_n 2, 1) := by decide +kernel
theorem dX10_findFar_50 : decode cX10_findFar 50 = .ok (.iload_n 2, 1) := by decide +kernel
theorem dX10_findFar_51 : decode cX10_findFar 51 = .ok (.aload_n 0, 1) := by decide +kernel
theorem dX10_findFar_52 : decode cX10_findFar 52 = .ok (.invokevirtual 230, 3) := by decide +kernel
theorem dX10_findFar_55 : decode cX10_findFar 55 = .ok (.if_icmp .ge 104, 3) := by decide +kernel
theorem dX10_findFar_58 : decode cX10_findFar 58 = .ok (.aload_n 0, 1) := by decide +kernel
theorem dX10_findFar_59 : decode cX10_findFar 59 = .ok (.iload_n 2, 1) := by decide +kernel
theorem dX10_findFar_60 : decode cX10_findFar 60 = .ok (.invokevirtual 278, 3) := by decide +kernel
theorem dX10_findFar_63 : decode cX10_findFar 63 = .ok (.istore_n 3, 1) := by decide +kernel
theorem dX10_findFar_64 : decode cX10_findFar 64 = .ok (.aload_n 0, 1) := by decide +kernel
theorem dX10_findFar_65 : decode cX10_findFar 65 = .ok (.iload_n 2, 1) := by decide +kernel
theorem dX10_findFar_66 : decode cX10_findFar 66 = .ok (.invokevirtual 282, 3) := by decide +kernel
theorem dX10_findFar_69 : decode cX10_findFar 69 = .ok (.istore 4, 2) := by decide +kernel
theorem dX10_findFar_71 : decode cX10_findFar 71 = .ok (.aload_n 0, 1) := by decide +kernel
theorem dX10_findFar_72 : decode cX10_findFar 72 = .ok (.getfield 84, 3) := by decide +kernel
theorem dX10_findFar_75 : decode cX10_findFar 75 = .ok (.iload_n 3, 1) := by decide +kernel
theorem dX10_findFar_76 : decode cX10_findFar 76 = .ok (.iaload, 1) := by decide +kernel
theorem dX10_findFar_77 : decode cX10_findFar 77 = .ok (.aload_n 0, 1) := by decide +kernel
theorem dX10_findFar_78 : decode cX10_findFar 78 = .ok (.iload_n 2, 1) := by decide +kernel
theorem dX10_findFar_79 : decode cX10_findFar 79 = .ok (.invokevirtual 285, 3) := by decide +kernel
theorem dX10_findFar_82 : decode cX10_findFar 82 = .ok (.iadd, 1) := by decide +kernel
theorem dX10_findFar_83 : decode cX10_findFar 83 = .ok (.aload_n 0, 1) := by decide +kernel
theorem dX10_findFar_84 : decode cX10_findFar 84 = .ok (.getfield 84, 3) := by decide +kernel
theorem dX10_findFar_87 : decode cX10_findFar 87 = .ok (.iload 4, 2) := by decide +kernel
theorem dX10_findFar_89 : decode cX10_findFar 89 = .ok (.iaload, 1) := by decide +kernel
theorem dX10_findFar_90 : decode cX10_findFar 90 = .ok (.if_icmp .ge 22, 3) := by decide +kernel
theorem dX10_findFar_93 : decode cX10_findFar 93 = .ok (.aload_n 0, 1) := by decide +kernel
theorem dX10_findFar_94 : decode cX10_findFar 94 = .ok (.getfield 84, 3) := by decide +kernel
theorem dX10_findFar_97 : decode cX10_findFar 97 = .ok (.iload 4, 2) := by decide +kernel
theorem dX10_findFar_99 : decode cX10_findFar 99 = .ok (.aload_n 0, 1) := by decide +kernel
theorem dX10_findFar_100 : decode cX10_findFar 100 = .ok (.getfield 84, 3) := by decide +kernel
theorem dX10_findFar_103 : decode cX10_findFar 103 = .ok (.iload_n 3, 1) := by decide +kernel
theorem dX10_findFar_104 : decode cX10_findFar 104 = .ok (.iaload, 1) := by decide +kernel
theorem dX10_findFar_105 : decode cX10_findFar 105 = .ok (.aload_n 0, 1) := by decide +kernel
theorem dX10_findFar_106 : decode cX10_findFar 106 = .ok (.iload_n 2, 1) := by decide +kernel
theorem dX10_findFar_107 : decode cX10_findFar 107 = .ok (.invokevirtual 285, 3) := by decide +kernel
theorem dX10_findFar_110 : decode cX10_findFar 110 = .ok (.iadd, 1) := by decide +kernel
theorem dX10_findFar_111 : decode cX10_findFar 111 = .ok (.iastore, 1) := by decide +kernel
theorem dX10_findFar_112 : decode cX10_findFar 112 = .ok (.aload_n 0, 1) := by decide +kernel
theorem dX10_findFar_113 : decode cX10_findFar 113 = .ok (.getfield 84, 3) := by decide +kernel
theorem dX10_findFar_116 : decode cX10_findFar 116 = .ok (.iload 4, 2) := by decide +kernel
theorem dX10_findFar_118 : decode cX10_findFar 118 = .ok (.iaload, 1) := by decide +kernel
theorem dX10_findFar_119 : decode cX10_findFar 119 = .ok (.aload_n 0, 1) := by decide +kernel
theorem dX10_findFar_120 : decode cX10_findFar 120 = .ok (.iload_n 2, 1) := by decide +kernel
theorem dX10_findFar_121 : decode cX10_findFar 121 = .ok (.invokevirtual 285, 3) := by decide +kernel
theorem dX10_findFar_124 : decode cX10_findFar 124 = .ok (.iadd, 1) := by decide +kernel
theorem dX10_findFar_125 : decode cX10_findFar 125 = .ok (.aload_n 0, 1) := by decide +kernel
theorem dX10_findFar_126 : decode cX10_findFar 126 = .ok (.getfield 84, 3) := by decide +kernel
theorem dX10_findFar_129 : decode cX10_findFar 129 = .ok (.iload_n 3, 1) := by decide +kernel
theorem dX10_findFar_130 : decode cX10_findFar 130 = .ok (.iaload, 1) := by decide +kernel
theorem dX10_findFar_131 : decode cX10_findFar 131 = .ok (.if_icmp .ge 22, 3) := by decide +kernel
theorem dX10_findFar_134 : decode cX10_findFar 134 = .ok (.aload_n 0, 1) := by decide +kernel
theorem dX10_findFar_135 : decode cX10_findFar 135 = .ok (.getfield 84, 3) := by decide +kernel
theorem dX10_findFar_138 : decode cX10_findFar 138 = .ok (.iload_n 3, 1) := by decide +kernel
theorem dX10_findFar_139 : decode cX10_findFar 139 = .ok (.aload_n 0, 1) := by decide +kernel
theorem dX10_findFar_140 : decode cX10_findFar 140 = .ok (.getfield 84, 3) := by decide +kernel
theorem dX10_findFar_143 : decode cX10_findFar 143 = .ok (.iload 4, 2) := by decide +kernel
theorem dX10_findFar_145 : decode cX10_findFar 145 = .ok (.iaload, 1) := by decide +kernel
theorem dX10_findFar_146 : decode cX10_findFar 146 = .ok (.aload_n 0, 1) := by decide +kernel
theorem dX10_findFar_147 : decode cX10_findFar 147 = .ok (.iload_n 2, 1) := by decide +kernel
theorem dX10_findFar_148 : decode cX10_findFar 148 = .ok (.invokevirtual 285, 3) := by decide +kernel
theorem dX10_findFar_151 : decode cX10_findFar 151 = .ok (.iadd, 1) := by decide +kernel
theorem dX10_findFar_152 : decode cX10_findFar 152 = .ok (.iastore, 1) := by decide +kernel
theorem dX10_findFar_153 : decode cX10_findFar 153 = .ok (.iinc 2 1, 3) := by decide +kernel
theorem dX10_findFar_156 : decode cX10_findFar 156 = .ok (.goto (-106), 3) := by decide +kernel
theorem dX10_findFar_159 : decode cX10_findFar 159 = .ok (.iinc 1 1, 3) := by decide +kernel
theorem dX10_findFar_162 : decode cX10_findFar 162 = .ok (.goto (-122), 3) := by decide +kernel
theorem dX10_findFar_165 : decode cX10_findFar 165 = .ok (.return_, 1) := by decide +kernel
set_option maxHeartbeats 4000000 in
set_option maxRecDepth 100000 in
theorem wX10_findFar_153 {p : Program} {l : Launch} {e : Env} {s : State} {m : MethodId} {args : Array Value} {below : List Frame} {meth : Method} {c : Code} (bs : Nat) (D : va_G) (y : Y3) (n : Nat) (k40_ : Int32 → MI → MJ → Option (M2)) (k50_ : Int32 → Int32 → MI → MJ → Option (M2)) (r : M2) (Gc : Gx p s m args meth c cX10_findFar 5 RX10 bs D y none 76) (hk40_ : ∀ (x1 : Int32) (I : MI) (J : MJ) (H : Heap) (locs : List Loc) (ls : Array Slot), va_P D vwCl (wl bs y I J) H → va_S (FA bs) s.heap H locs → lv_has ls 5 [(0, .ref (bs + 44)), (1, .int x1)] → k40_ x1 I J = some r → W p l e (rmm 2 43) s m args below meth c H locs 0 0 (QV below args s bs D y r) (F0 m 40 ls [])) (hk50_ : ∀ (x1 : Int32) (x2 : Int32) (I : MI) (J : MJ) (H : Heap) (locs : List Loc) (ls : Array Slot), va_P D vwCl (wl bs y I J) H → va_S (FA bs) s.heap H locs → lv_has ls 5 [(0, .ref (bs + 44)), (1, .int x1), (2, .int x2)] → k50_ x1 x2 I J = some r → W p l e (rmm 2 43) s m args below meth c H locs 0 0 (QV below args s bs D y r) (F0 m 50 ls [])) (x1 : Int32) (x2 : Int32) (I : MI) (J : MJ) (H : Heap) (locs : List Loc) (ls : Array Slot) (hP : va_P D vwCl (wl bs y I J) H) (hS : va_S (FA bs) s.heap H locs) (hl : lv_has ls 5 [(0, .ref (bs + 44)), (1, .int x1), (2, .int x2)]) (h : fX10_findFar_153 n k40_ k50_ x1 x2 I J = some r) : W p l e (rmm 2 43) s m args below meth c H locs 0 0 (QV below args s bs D y r) (F0 m 153 ls []) := by
  obtain ⟨hx, hb, hml, hown, hts, hK, hN, hL, hr, hlocks, hcb⟩ := id Gc
  unfold fX10_findFar_153 at h
  refine lv_iinc (v := (x2 + (1 : Int32))) (lv' := [(2, .int (x2 + (1 : Int32))), (0, .ref (bs + 44)), (1, .int x1)]) hx hb dX10_findFar_153 hl (k := 2) rfl rfl (by decide) rfl (fun ls hl => ?_)
  refine lv_goto (tgt := 50) hx hb dX10_findFar_156 (by decide) ?_
  exact hk50_ x1 (x2 + (1 : Int32)) I J _ _ _ hP hS (lv_sub hl [1, 2, 0] rfl) h
set_option maxHeartbeats 4000000 in
set_option maxRecDepth 100000 in
theorem wX10_findFar_112 {p : Program} {l : Launch} {e : Env} {s : State} {m : MethodId} {args : Array Value} {below : List Frame} {meth : Method} {c : Code} (bs : Nat) (D : va_G) (y : Y3) (n : Nat) (k40_ : Int32 → MI → MJ → Option (M2)) (k50_ : Int32 → Int32 → MI → MJ → Option (M2)) (r : M2) (Gc : Gx p s m args meth c cX10_findFar 5 RX10 bs D y none 76) (hk40_ : ∀ (x1 : Int32) (I : MI) (J : MJ) (H : Heap) (locs : List Loc) (ls : Array Slot), va_P D vwCl (wl bs y I J) H → va_S (FA bs) s.heap H locs → lv_has ls 5 [(0, .ref (bs + 44)), (1, .int x1)] → k40_ x1 I J = some r → W p l e (rmm 2 43) s m args below meth c H locs 0 0 (QV below args s bs D y r) (F0 m 40 ls [])) (hk50_ : ∀ (x1 : Int32) (x2 : Int32) (I : MI) (J : MJ) (H : Heap) (locs : List Loc) (ls : Array Slot), va_P D vwCl (wl bs y I J) H → va_S (FA bs) s.heap H locs → lv_has ls 5 [(0, .ref (bs + 44)), (1, .int x1), (2, .int x2)] → k50_ x1 x2 I J = some r → W p l e (rmm 2 43) s m args below meth c H locs 0 0 (QV below args s bs D y r) (F0 m 50 ls [])) (x1 : Int32) (x2 : Int32) (x3 : Int32) (x4 : Int32) (I : MI) (J : MJ) (H : Heap) (locs : List Loc) (ls : Array Slot) (hP : va_P D vwCl (wl bs y I J) H) (hS : va_S (FA bs) s.heap H locs) (hl : lv_has ls 5 [(0, .ref (bs + 44)), (1, .int x1), (2, .int x2), (3, .int x3), (4, .int x4)]) (h : fX10_findFar_112 n k40_ k50_ x1 x2 x3 x4 I J = some r) : W p l e (rmm 2 43) s m args below meth c H locs 0 0 (QV below args s bs D y r) (F0 m 112 ls []) := by
  obtain ⟨hx, hb, hml, hown, hts, hK, hN, hL, hr, hlocks, hcb⟩ := id Gc
  unfold fX10_findFar_112 at h
  refine lv_aload_n hx hb dX10_findFar_112 rfl (lv_at hl 0 rfl) ?_
  refine g_R (C := RX10) (T := TX10) (N := 49) (ci := 10) 44 33 65 hx hb hts hown hK hP in_X10 rfl hcb okF_44_33 rfc_44_33 fl_176 dX10_findFar_113 ?_
  refine lv_iload hx hb dX10_findFar_116 (lv_at hl 4 rfl) ?_
  obtain ⟨hi118, h⟩ := if_s1 h
  refine a_I 65 hx hb hK hP hcb aln_65 hi118 dX10_findFar_118 ?_
  refine lv_aload_n hx hb dX10_findFar_119 rfl (lv_at hl 0 rfl) ?_
  refine lv_iload_n hx hb dX10_findFar_120 rfl (lv_at hl 2 rfl) ?_
  obtain ⟨r121, er121, h⟩ := bd_s1 h
  refine c_VI (k := 44) (ci := 10) (As := [.int x2]) (rest := [.int (I 65 (x4).toNatClampNeg)]) hx hb hml hown hts hK hN hL hP hS (cX10_price_ l bs D y hcb n x2 I J r121 er121) ok_X10_price ov_X10_price ml_150 ⟨Nat.le_of_ble_eq_true rfl, Nat.le_of_ble_eq_true rfl⟩ rfl hcb kd_44 hl.1 rfl rfl (Nat.le_of_ble_eq_true rfl) ⟨Nat.zero_le _, Nat.zero_le _⟩ dX10_findFar_121 (fun H locs hP hS => ?_)
  refine lv_iadd hx hb dX10_findFar_124 ?_
  refine lv_aload_n hx hb dX10_findFar_125 rfl (lv_at hl 0 rfl) ?_
  refine g_R (C := RX10) (T := TX10) (N := 49) (ci := 10) 44 33 65 hx hb hts hown hK hP in_X10 rfl hcb okF_44_33 rfc_44_33 fl_176 dX10_findFar_126 ?_
  refine lv_iload_n hx hb dX10_findFar_129 rfl (lv_at hl 3 rfl) ?_
  obtain ⟨hi130, h⟩ := if_s1 h
  refine a_I 65 hx hb hK hP hcb aln_65 hi130 dX10_findFar_130 ?_
  refine lv_icmp_ge (tgt := 153) hx hb dX10_findFar_131 (by decide) (fun c131 => ?_) (fun c131 => ?_)
  · replace h := if_t c131 h
    exact wX10_findFar_153 bs D y n k40_ k50_ r Gc hk40_ hk50_ x1 x2 r121.2.1 r121.2.2 _ _ _ hP hS (lv_sub hl [0, 1, 2] rfl) h
  · replace h := if_f c131 h
    refine lv_aload_n hx hb dX10_findFar_134 rfl (lv_at hl 0 rfl) ?_
    refine g_R (C := RX10) (T := TX10) (N := 49) (ci := 10) 44 33 65 hx hb hts hown hK hP in_X10 rfl hcb okF_44_33 rfc_44_33 fl_176 dX10_findFar_135 ?_
    refine lv_iload_n hx hb dX10_findFar_138 rfl (lv_at hl 3 rfl) ?_
    refine lv_aload_n hx hb dX10_findFar_139 rfl (lv_at hl 0 rfl) ?_
    refine g_R (C := RX10) (T := TX10) (N := 49) (ci := 10) 44 33 65 hx hb hts hown hK hP in_X10 rfl hcb okF_44_33 rfc_44_33 fl_176 dX10_findFar_140 ?_
    refine lv_iload hx hb dX10_findFar_143 (lv_at hl 4 rfl) ?_
    obtain ⟨hi145, h⟩ := if_s1 h
    refine a_I 65 hx hb hK hP hcb aln_65 hi145 dX10_findFar_145 ?_
    refine lv_aload_n hx hb dX10_findFar_146 rfl (lv_at hl 0 rfl) ?_
    refine lv_iload_n hx hb dX10_findFar_147 rfl (lv_at hl 2 rfl) ?_
    obtain ⟨r148, er148, h⟩ := bd_s1 h
    refine c_VI (k := 44) (ci := 10) (As := [.int x2]) (rest := [.int (r121.2.1 65 (x4).toNatClampNeg), .int x3, .ref (bs + 65)]) hx hb hml hown hts hK hN hL hP hS (cX10_price_ l bs D y hcb n x2 r121.2.1 r121.2.2 r148 er148) ok_X10_price ov_X10_price ml_150 ⟨Nat.le_of_ble_eq_true rfl, Nat.le_of_ble_eq_true rfl⟩ rfl hcb kd_44 hl.1 rfl rfl (Nat.le_of_ble_eq_true rfl) ⟨Nat.zero_le _, Nat.zero_le _⟩ dX10_findFar_148 (fun H locs hP hS => ?_)
    refine lv_iadd hx hb dX10_findFar_151 ?_
    obtain ⟨hi152, h⟩ := if_s1 h
    obtain ⟨I152, eI152, h⟩ := lt_s1 h
    refine t_I 65 eI152 hx hb hK hP hS hcb aln_65 hi152 dX10_findFar_152 (fun H locs hP hS => ?_)
    exact wX10_findFar_153 bs D y n k40_ k50_ r Gc hk40_ hk50_ x1 x2 I152 r148.2.2 _ _ _ hP hS (lv_sub hl [0, 1, 2] rfl) h
set_option maxHeartbeats 4000000 in
set_option maxRecDepth 100000 in
theorem wX10_findFar_50 {p : Program} {l : Launch} {e : Env} {s : State} {m : MethodId} {args : Array Value} {below : List Frame} {meth : Method} {c : Code} (bs : Nat) (D : va_G) (y : Y3) (n : Nat) (k40_ : Int32 → MI → MJ → Option (M2)) (k50_ : Int32 → Int32 → MI → MJ → Option (M2)) (r : M2) (Gc : Gx p s m args meth c cX10_findFar 5 RX10 bs D y none 76) (hk40_ : ∀ (x1 : Int32) (I : MI) (J : MJ) (H : Heap) (locs : List Loc) (ls : Array Slot), va_P D vwCl (wl bs y I J) H → va_S (FA bs) s.heap H locs → lv_has ls 5 [(0, .ref (bs + 44)), (1, .int x1)] → k40_ x1 I J = some r → W p l e (rmm 2 43) s m args below meth c H locs 0 0 (QV below args s bs D y r) (F0 m 40 ls [])) (hk50_ : ∀ (x1 : Int32) (x2 : Int32) (I : MI) (J : MJ) (H : Heap) (locs : List Loc) (ls : Array Slot), va_P D vwCl (wl bs y I J) H → va_S (FA bs) s.heap H locs → lv_has ls 5 [(0, .ref (bs + 44)), (1, .int x1), (2, .int x2)] → k50_ x1 x2 I J = some r → W p l e (rmm 2 43) s m args below meth c H locs 0 0 (QV below args s bs D y r) (F0 m 50 ls [])) (x1 : Int32) (x2 : Int32) (I : MI) (J : MJ) (H : Heap) (locs : List Loc) (ls : Array Slot) (hP : va_P D vwCl (wl bs y I J) H) (hS : va_S (FA bs) s.heap H locs) (hl : lv_has ls 5 [(0, .ref (bs + 44)), (1, .int x1), (2, .int x2)]) (h : fX10_findFar_50 n k40_ k50_ x1 x2 I J = some r) : W p l e (rmm 2 43) s m args below meth c H locs 0 0 (QV below args s bs D y r) (F0 m 50 ls []) := by
  obtain ⟨hx, hb, hml, hown, hts, hK, hN, hL, hr, hlocks, hcb⟩ := id Gc
  unfold fX10_findFar_50 at h
  refine lv_iload_n hx hb dX10_findFar_50 rfl (lv_at hl 2 rfl) ?_
  refine lv_aload_n hx hb dX10_findFar_51 rfl (lv_at hl 0 rfl) ?_
  obtain ⟨r52, er52, h⟩ := bd_s1 h
  refine c_VI (k := 44) (ci := 10) (As := []) (rest := [.int x2]) hx hb hml hown hts hK hN hL hP hS (cX10_joints_ l bs D y hcb n  I J r52 er52) ok_X10_joints ov_X10_joints ml_135 ⟨Nat.le_of_ble_eq_true rfl, Nat.le_of_ble_eq_true rfl⟩ rfl hcb kd_44 hl.1 rfl rfl (Nat.le_of_ble_eq_true rfl) ⟨Nat.zero_le _, Nat.zero_le _⟩ dX10_findFar_52 (fun H locs hP hS => ?_)
  refine lv_icmp_ge (tgt := 159) hx hb dX10_findFar_55 (by decide) (fun c55 => ?_) (fun c55 => ?_)
  · replace h := if_t c55 h
    refine lv_iinc (v := (x1 + (1 : Int32))) (lv' := [(1, .int (x1 + (1 : Int32))), (0, .ref (bs + 44)), (2, .int x2)]) hx hb dX10_findFar_159 hl (k := 1) rfl rfl (by decide) rfl (fun ls hl => ?_)
    refine lv_goto (tgt := 40) hx hb dX10_findFar_162 (by decide) ?_
    exact hk40_ (x1 + (1 : Int32)) r52.2.1 r52.2.2 _ _ _ hP hS (lv_sub hl [1, 0] rfl) h
  · replace h := if_f c55 h
    refine lv_aload_n hx hb dX10_findFar_58 rfl (lv_at hl 0 rfl) ?_
    refine lv_iload_n hx hb dX10_findFar_59 rfl (lv_at hl 2 rfl) ?_
    obtain ⟨r60, er60, h⟩ := bd_s1 h
    refine c_VI (k := 44) (ci := 10) (As := [.int x2]) (rest := []) hx hb hml hown hts hK hN hL hP hS (cX10_lesser_ l bs D y hcb n x2 r52.2.1 r52.2.2 r60 er60) ok_X10_lesser ov_X10_lesser ml_149 ⟨Nat.le_of_ble_eq_true rfl, Nat.le_of_ble_eq_true rfl⟩ rfl hcb kd_44 hl.1 rfl rfl (Nat.le_of_ble_eq_true rfl) ⟨Nat.zero_le _, Nat.zero_le _⟩ dX10_findFar_60 (fun H locs hP hS => ?_)
    obtain ⟨v63, ev63, h⟩ := lt_s1 h
    refine top_i ev63 ?_
    refine lv_istore_n (lv' := [(3, .int v63), (0, .ref (bs + 44)), (1, .int x1), (2, .int x2)]) hx hb dX10_findFar_63 rfl hl (by decide) rfl (fun ls hl => ?_)
    refine lv_aload_n hx hb dX10_findFar_64 rfl (lv_at hl 1 rfl) ?_
    refine lv_iload_n hx hb dX10_findFar_65 rfl (lv_at hl 3 rfl) ?_
    obtain ⟨r66, er66, h⟩ := bd_s1 h
    refine c_VI (k := 44) (ci := 10) (As := [.int x2]) (rest := []) hx hb hml hown hts hK hN hL hP hS (cX10_greater_ l bs D y hcb n x2 r60.2.1 r60.2.2 r66 er66) ok_X10_greater ov_X10_greater ml_151 ⟨Nat.le_of_ble_eq_true rfl, Nat.le_of_ble_eq_true rfl⟩ rfl hcb kd_44 hl.1 rfl rfl (Nat.le_of_ble_eq_true rfl) ⟨Nat.zero_le _, Nat.zero_le _⟩ dX10_findFar_66 (fun H locs hP hS => ?_)
    obtain ⟨v69, ev69, h⟩ := lt_s1 h
    refine top_i ev69 ?_
    refine lv_istore (lv' := [(4, .int v69), (3, .int v63), (0, .ref (bs + 44)), (1, .int x1), (2, .int x2)]) hx hb dX10_findFar_69 hl (by decide) rfl (fun ls hl => ?_)
    refine lv_aload_n hx hb dX10_findFar_71 rfl (lv_at hl 2 rfl) ?_
    refine g_R (C := RX10) (T := TX10) (N := 49) (ci := 10) 44 33 65 hx hb hts hown hK hP in_X10 rfl hcb okF_44_33 rfc_44_33 fl_176 dX10_findFar_72 ?_
    refine lv_iload_n hx hb dX10_findFar_75 rfl (lv_at hl 1 rfl) ?_
    obtain ⟨hi76, h⟩ := if_s1 h
    refine a_I 65 hx hb hK hP hcb aln_65 hi76 dX10_findFar_76 ?_
    refine lv_aload_n hx hb dX10_findFar_77 rfl (lv_at hl 2 rfl) ?_
    refine lv_iload_n hx hb dX10_findFar_78 rfl (lv_at hl 4 rfl) ?_
    obtain ⟨r79, er79, h⟩ := bd_s1 h
    refine c_VI (k := 44) (ci := 10) (As := [.int x2]) (rest := [.int (r66.2.1 65 (v63).toNatClampNeg)]) hx hb hml hown hts hK hN hL hP hS (cX10_price_ l bs D y hcb n x2 r66.2.1 r66.2.2 r79 er79) ok_X10_price ov_X10_price ml_150 ⟨Nat.le_of_ble_eq_true rfl, Nat.le_of_ble_eq_true rfl⟩ rfl hcb kd_44 hl.1 rfl rfl (Nat.le_of_ble_eq_true rfl) ⟨Nat.zero_le _, Nat.zero_le _⟩ dX10_findFar_79 (fun H locs hP hS => ?_)
    refine lv_iadd hx hb dX10_findFar_82 ?_
    refine lv_aload_n hx hb dX10_findFar_83 rfl (lv_at hl 2 rfl) ?_
    refine g_R (C := RX10) (T := TX10) (N := 49) (ci := 10) 44 33 65 hx hb hts hown hK hP in_X10 rfl hcb okF_44_33 rfc_44_33 fl_176 dX10_findFar_84 ?_
    refine lv_iload hx hb dX10_findFar_87 (lv_at hl 0 rfl) ?_
    obtain ⟨hi89, h⟩ := if_s1 h
    refine a_I 65 hx hb hK hP hcb aln_65 hi89 dX10_findFar_89 ?_
    refine lv_icmp_ge (tgt := 112) hx hb dX10_findFar_90 (by decide) (fun c90 => ?_) (fun c90 => ?_)
    · replace h := if_t c90 h
      exact wX10_findFar_112 bs D y n k40_ k50_ r Gc hk40_ hk50_ x1 x2 v63 v69 r79.2.1 r79.2.2 _ _ _ hP hS (lv_sub hl [2, 3, 4, 1, 0] rfl) h
    · replace h := if_f c90 h
      refine lv_aload_n hx hb dX10_findFar_93 rfl (lv_at hl 2 rfl) ?_
      refine g_R (C := RX10) (T := TX10) (N := 49) (ci := 10) 44 33 65 hx hb hts hown hK hP in_X10 rfl hcb okF_44_33 rfc_44_33 fl_176 dX10_findFar_94 ?_
      refine lv_iload hx hb dX10_findFar_97 (lv_at hl 0 rfl) ?_
      refine lv_aload_n hx hb dX10_findFar_99 rfl (lv_at hl 2 rfl) ?_
      refine g_R (C := RX10) (T := TX10) (N := 49) (ci := 10) 44 33 65 hx hb hts hown hK hP in_X10 rfl hcb okF_44_33 rfc_44_33 fl_176 dX10_findFar_100 ?_
      refine lv_iload_n hx hb dX10_findFar_103 rfl (lv_at hl 1 rfl) ?_
      obtain ⟨hi104, h⟩ := if_s1 h
      refine a_I 65 hx hb hK hP hcb aln_65 hi104 dX10_findFar_104 ?_
      refine lv_aload_n hx hb dX10_findFar_105 rfl (lv_at hl 2 rfl) ?_
      refine lv_iload_n hx hb dX10_findFar_106 rfl (lv_at hl 4 rfl) ?_
      obtain ⟨r107, er107, h⟩ := bd_s1 h
      refine c_VI (k := 44) (ci := 10) (As := [.int x2]) (rest := [.int (r79.2.1 65 (v63).toNatClampNeg), .int v69, .ref (bs + 65)]) hx hb hml hown hts hK hN hL hP hS (cX10_price_ l bs D y hcb n x2 r79.2.1 r79.2.2 r107 er107) ok_X10_price ov_X10_price ml_150 ⟨Nat.le_of_ble_eq_true rfl, Nat.le_of_ble_eq_true rfl⟩ rfl hcb kd_44 hl.1 rfl rfl (Nat.le_of_ble_eq_true rfl) ⟨Nat.zero_le _, Nat.zero_le _⟩ dX10_findFar_107 (fun H locs hP hS => ?_)
      refine lv_iadd hx hb dX10_findFar_110 ?_
      obtain ⟨hi111, h⟩ := if_s1 h
      obtain ⟨I111, eI111, h⟩ := lt_s1 h
      refine t_I 65 eI111 hx hb hK hP hS hcb aln_65 hi111 dX10_findFar_111 (fun H locs hP hS => ?_)
      exact wX10_findFar_112 bs D y n k40_ k50_ r Gc hk40_ hk50_ x1 x2 v63 v69 I111 r107.2.2 _ _ _ hP hS (lv_sub hl [2, 3, 4, 1, 0] rfl) h
theorem vX10_findFar_50 {p : Program} {l : Launch} {e : Env} {s : State} {m : MethodId} {args : Array Value} {below : List Frame} {meth : Method} {c : Code} (bs : Nat) (D : va_G) (y : Y3) (n : Nat) (k40_ : Int32 → MI → MJ → Option (M2)) (r : M2) (Gc : Gx p s m args meth c cX10_findFar 5 RX10 bs D y none 76) (hk40_ : ∀ (x1 : Int32) (I : MI) (J : MJ) (H : Heap) (locs : List Loc) (ls : Array Slot), va_P D vwCl (wl bs y I J) H → va_S (FA bs) s.heap H locs → lv_has ls 5 [(0, .ref (bs + 44)), (1, .int x1)] → k40_ x1 I J = some r → W p l e (rmm 2 43) s m args below meth c H locs 0 0 (QV below args s bs D y r) (F0 m 40 ls [])) : ∀ (q : Nat) (x1 : Int32) (x2 : Int32) (I : MI) (J : MJ) (H : Heap) (locs : List Loc) (ls : Array Slot), va_P D vwCl (wl bs y I J) H → va_S (FA bs) s.heap H locs → lv_has ls 5 [(0, .ref (bs + 44)), (1, .int x1), (2, .int x2)] → lX10_findFar_50 n k40_ q x1 x2 I J = some r → W p l e (rmm 2 43) s m args below meth c H locs 0 0 (QV below args s bs D y r) (F0 m 50 ls []) := by
  intro q
  induction q with
  | zero =>
    intro x1 x2 I J H locs ls hP hS hl h
    have h : (none : Option (M2)) = some r := h
    cases h
  | succ q ih =>
    intro x1 x2 I J H locs ls hP hS hl h
    have h : fX10_findFar_50 n k40_ (lX10_findFar_50 n k40_ q) x1 x2 I J = some r := h
    exact wX10_findFar_50 bs D y n k40_ (lX10_findFar_50 n k40_ q) r Gc hk40_ ih x1 x2 I J H locs ls hP hS hl h
set_option maxHeartbeats 4000000 in
set_option maxRecDepth 100000 in
theorem wX10_findFar_40 {p : Program} {l : Launch} {e : Env} {s : State} {m : MethodId} {args : Array Value} {below : List Frame} {meth : Method} {c : Code} (bs : Nat) (D : va_G) (y : Y3) (n : Nat) (k40_ : Int32 → MI → MJ → Option (M2)) (r : M2) (Gc : Gx p s m args meth c cX10_findFar 5 RX10 bs D y none 76) (hk40_ : ∀ (x1 : Int32) (I : MI) (J : MJ) (H : Heap) (locs : List Loc) (ls : Array Slot), va_P D vwCl (wl bs y I J) H → va_S (FA bs) s.heap H locs → lv_has ls 5 [(0, .ref (bs + 44)), (1, .int x1)] → k40_ x1 I J = some r → W p l e (rmm 2 43) s m args below meth c H locs 0 0 (QV below args s bs D y r) (F0 m 40 ls [])) (x1 : Int32) (I : MI) (J : MJ) (H : Heap) (locs : List Loc) (ls : Array Slot) (hP : va_P D vwCl (wl bs y I J) H) (hS : va_S (FA bs) s.heap H locs) (hl : lv_has ls 5 [(0, .ref (bs + 44)), (1, .int x1)]) (h : fX10_findFar_40 n k40_ x1 I J = some r) : W p l e (rmm 2 43) s m args below meth c H locs 0 0 (QV below args s bs D y r) (F0 m 40 ls []) := by
  obtain ⟨hx, hb, hml, hown, hts, hK, hN, hL, hr, hlocks, hcb⟩ := id Gc
  unfold fX10_findFar_40 at h
  refine lv_iload_n hx hb dX10_findFar_40 rfl (lv_at hl 1 rfl) ?_
  refine lv_aload_n hx hb dX10_findFar_41 rfl (lv_at hl 0 rfl) ?_
  obtain ⟨r42, er42, h⟩ := bd_s1 h
  refine c_VI (k := 44) (ci := 10) (As := []) (rest := [.int x1]) hx hb hml hown hts hK hN hL hP hS (cX10_tiles_ l bs D y hcb n  I J r42 er42) ok_X10_tiles ov_X10_tiles ml_132 ⟨Nat.le_of_ble_eq_true rfl, Nat.le_of_ble_eq_true rfl⟩ rfl hcb kd_44 hl.1 rfl rfl (Nat.le_of_ble_eq_true rfl) ⟨Nat.zero_le _, Nat.zero_le _⟩ dX10_findFar_42 (fun H locs hP hS => ?_)
  refine lv_icmp_ge (tgt := 165) hx hb dX10_findFar_45 (by decide) (fun c45 => ?_) (fun c45 => ?_)
  · replace h := if_t c45 h
    exact r_V hx hb hr hlocks hP hK hN hL hS h dX10_findFar_165
  · replace h := if_f c45 h
    refine lv_iconst (v := (0 : Int32)) hx hb dX10_findFar_48 (by decide) ?_
    refine lv_istore_n (lv' := [(2, .int (0 : Int32)), (0, .ref (bs + 44)), (1, .int x1)]) hx hb dX10_findFar_49 rfl hl (by decide) rfl (fun ls hl => ?_)
    exact vX10_findFar_50 bs D y n k40_ r Gc hk40_ n x1 (0 : Int32) r42.2.1 r42.2.2 _ _ _ hP hS (lv_sub hl [1, 2, 0] rfl) h
theorem vX10_findFar_40 {p : Program} {l : Launch} {e : Env} {s : State} {m : MethodId} {args : Array Value} {below : List Frame} {meth : Method} {c : Code} (bs : Nat) (D : va_G) (y : Y3) (n : Nat) (r : M2) (Gc : Gx p s m args meth c cX10_findFar 5 RX10 bs D y none 76)  : ∀ (q : Nat) (x1 : Int32) (I : MI) (J : MJ) (H : Heap) (locs : List Loc) (ls : Array Slot), va_P D vwCl (wl bs y I J) H → va_S (FA bs) s.heap H locs → lv_has ls 5 [(0, .ref (bs + 44)), (1, .int x1)] → lX10_findFar_40 n  q x1 I J = some r → W p l e (rmm 2 43) s m args below meth c H locs 0 0 (QV below args s bs D y r) (F0 m 40 ls []) := by
  intro q
  induction q with
  | zero =>
    intro x1 I J H locs ls hP hS hl h
    have h : (none : Option (M2)) = some r := h
    cases h
  | succ q ih =>
    intro x1 I J H locs ls hP hS hl h
    have h : fX10_findFar_40 n  (lX10_findFar_40 n  q) x1 I J = some r := h
    exact wX10_findFar_40 bs D y n  (lX10_findFar_40 n  q) r Gc  ih x1 I J H locs ls hP hS hl h
set_option maxHeartbeats 4000000 in
set_option maxRecDepth 100000 in
theorem wX10_findFar_31 {p : Program} {l : Launch} {e : Env} {s : State} {m : MethodId} {args : Array Value} {below : List Frame} {meth : Method} {c : Code} (bs : Nat) (D : va_G) (y : Y3) (n : Nat) (k2_ : Int32 → MI → MJ → Option (M2)) (r : M2) (Gc : Gx p s m args meth c cX10_findFar 5 RX10 bs D y none 76) (hk2_ : ∀ (x1 : Int32) (I : MI) (J : MJ) (H : Heap) (locs : List Loc) (ls : Array Slot), va_P D vwCl (wl bs y I J) H → va_S (FA bs) s.heap H locs → lv_has ls 5 [(0, .ref (bs + 44)), (1, .int x1)] → k2_ x1 I J = some r → W p l e (rmm 2 43) s m args below meth c H locs 0 0 (QV below args s bs D y r) (F0 m 2 ls [])) (x1 : Int32) (s1 : Int32) (s2 : Int32) (I : MI) (J : MJ) (H : Heap) (locs : List Loc) (ls : Array Slot) (hP : va_P D vwCl (wl bs y I J) H) (hS : va_S (FA bs) s.heap H locs) (hl : lv_has ls 5 [(0, .ref (bs + 44)), (1, .int x1)]) (h : fX10_findFar_31 n k2_ x1 s1 s2 I J = some r) : W p l e (rmm 2 43) s m args below meth c H locs 0 0 (QV below args s bs D y r) (F0 m 31 ls [.int s2, .int s1, .ref (bs + 65)]) := by
  obtain ⟨hx, hb, hml, hown, hts, hK, hN, hL, hr, hlocks, hcb⟩ := id Gc
  unfold fX10_findFar_31 at h
  obtain ⟨hi31, h⟩ := if_s1 h
  obtain ⟨I31, eI31, h⟩ := lt_s1 h
  refine t_I 65 eI31 hx hb hK hP hS hcb aln_65 hi31 dX10_findFar_31 (fun H locs hP hS => ?_)
  refine lv_iinc (v := (x1 + (1 : Int32))) (lv' := [(1, .int (x1 + (1 : Int32))), (0, .ref (bs + 44))]) hx hb dX10_findFar_32 hl (k := 1) rfl rfl (by decide) rfl (fun ls hl => ?_)
  refine lv_goto (tgt := 2) hx hb dX10_findFar_35 (by decide) ?_
  exact hk2_ (x1 + (1 : Int32)) I31 J _ _ _ hP hS (lv_sub hl [1, 0] rfl) h
set_option maxHeartbeats 4000000 in
set_option maxRecDepth 100000 in
theorem wX10_findFar_2 {p : Program} {l : Launch} {e : Env} {s : State} {m : MethodId} {args : Array Value} {below : List Frame} {meth : Method} {c : Code} (bs : Nat) (D : va_G) (y : Y3) (n : Nat) (k2_ : Int32 → MI → MJ → Option (M2)) (r : M2) (Gc : Gx p s m args meth c cX10_findFar 5 RX10 bs D y none 76) (hk2_ : ∀ (x1 : Int32) (I : MI) (J : MJ) (H : Heap) (locs : List Loc) (ls : Array Slot), va_P D vwCl (wl bs y I J) H → va_S (FA bs) s.heap H locs → lv_has ls 5 [(0, .ref (bs + 44)), (1, .int x1)] → k2_ x1 I J = some r → W p l e (rmm 2 43) s m args below meth c H locs 0 0 (QV below args s bs D y r) (F0 m 2 ls [])) (x1 : Int32) (I : MI) (J : MJ) (H : Heap) (locs : List Loc) (ls : Array Slot) (hP : va_P D vwCl (wl bs y I J) H) (hS : va_S (FA bs) s.heap H locs) (hl : lv_has ls 5 [(0, .ref (bs + 44)), (1, .int x1)]) (h : fX10_findFar_2 n k2_ x1 I J = some r) : W p l e (rmm 2 43) s m args below meth c H locs 0 0 (QV below args s bs D y r) (F0 m 2 ls []) := by
  obtain ⟨hx, hb, hml, hown, hts, hK, hN, hL, hr, hlocks, hcb⟩ := id Gc
  unfold fX10_findFar_2 at h
  refine lv_iload_n hx hb dX10_findFar_2 rfl (lv_at hl 1 rfl) ?_
  refine lv_aload_n hx hb dX10_findFar_3 rfl (lv_at hl 0 rfl) ?_
  obtain ⟨r4, er4, h⟩ := bd_s1 h
  refine c_VI (k := 44) (ci := 10) (As := []) (rest := [.int x1]) hx hb hml hown hts hK hN hL hP hS (cX10_tiles_ l bs D y hcb n  I J r4 er4) ok_X10_tiles ov_X10_tiles ml_132 ⟨Nat.le_of_ble_eq_true rfl, Nat.le_of_ble_eq_true rfl⟩ rfl hcb kd_44 hl.1 rfl rfl (Nat.le_of_ble_eq_true rfl) ⟨Nat.zero_le _, Nat.zero_le _⟩ dX10_findFar_4 (fun H locs hP hS => ?_)
  refine lv_icmp_ge (tgt := 38) hx hb dX10_findFar_7 (by decide) (fun c7 => ?_) (fun c7 => ?_)
  · replace h := if_t c7 h
    refine lv_iconst (v := (0 : Int32)) hx hb dX10_findFar_38 (by decide) ?_
    refine lv_istore_n (lv' := [(1, .int (0 : Int32)), (0, .ref (bs + 44))]) hx hb dX10_findFar_39 rfl hl (by decide) rfl (fun ls hl => ?_)
    exact vX10_findFar_40 bs D y n  r Gc  n (0 : Int32) r4.2.1 r4.2.2 _ _ _ hP hS (lv_sub hl [1, 0] rfl) h
  · replace h := if_f c7 h
    refine lv_aload_n hx hb dX10_findFar_10 rfl (lv_at hl 0 rfl) ?_
    refine g_R (C := RX10) (T := TX10) (N := 49) (ci := 10) 44 33 65 hx hb hts hown hK hP in_X10 rfl hcb okF_44_33 rfc_44_33 fl_176 dX10_findFar_11 ?_
    refine lv_iload_n hx hb dX10_findFar_14 rfl (lv_at hl 1 rfl) ?_
    refine lv_aload_n hx hb dX10_findFar_15 rfl (lv_at hl 0 rfl) ?_
    refine g_R (C := RX10) (T := TX10) (N := 49) (ci := 10) 44 34 66 hx hb hts hown hK hP in_X10 rfl hcb okF_44_34 rfc_44_34 fl_177 dX10_findFar_16 ?_
    refine lv_iload_n hx hb dX10_findFar_19 rfl (lv_at hl 1 rfl) ?_
    obtain ⟨hi20, h⟩ := if_s1 h
    refine a_Z 66 hx hb hK hP hcb alZ_66 hi20 dX10_findFar_20 ?_
    refine lv_if_eq (tgt := 28) hx hb dX10_findFar_21 (by decide) (fun c21 => ?_) (fun c21 => ?_)
    · replace h := if_t c21 h
      refine lv_ldcw hx hb hown (hts _ ci_2) dX10_findFar_28 ?_
      exact wX10_findFar_31 bs D y n k2_ r Gc hk2_ x1 x1 (1000000000 : Int32) r4.2.1 r4.2.2 _ _ _ hP hS (lv_sub hl [0, 1] rfl) h
    · replace h := if_f c21 h
      refine lv_iconst (v := (0 : Int32)) hx hb dX10_findFar_24 (by decide) ?_
      refine lv_goto (tgt := 31) hx hb dX10_findFar_25 (by decide) ?_
      exact wX10_findFar_31 bs D y n k2_ r Gc hk2_ x1 x1 (0 : Int32) r4.2.1 r4.2.2 _ _ _ hP hS (lv_sub hl [0, 1] rfl) h
theorem vX10_findFar_2 {p : Program} {l : Launch} {e : Env} {s : State} {m : MethodId} {args : Array Value} {below : List Frame} {meth : Method} {c : Code} (bs : Nat) (D : va_G) (y : Y3) (n : Nat) (r : M2) (Gc : Gx p s m args meth c cX10_findFar 5 RX10 bs D y none 76)  : ∀ (q : Nat) (x1 : Int32) (I : MI) (J : MJ) (H : Heap) (locs : List Loc) (ls : Array Slot), va_P D vwCl (wl bs y I J) H → va_S (FA bs) s.heap H locs → lv_has ls 5 [(0, .ref (bs + 44)), (1, .int x1)] → lX10_findFar_2 n  q x1 I J = some r → W p l e (rmm 2 43) s m args below meth c H locs 0 0 (QV below args s bs D y r) (F0 m 2 ls []) := by
  intro q
  induction q with
  | zero =>
    intro x1 I J H locs ls hP hS hl h
    have h : (none : Option (M2)) = some r := h
    cases h
  | succ q ih =>
    intro x1 I J H locs ls hP hS hl h
    have h : fX10_findFar_2 n  (lX10_findFar_2 n  q) x1 I J = some r := h
    exact wX10_findFar_2 bs D y n  (lX10_findFar_2 n  q) r Gc  ih x1 I J H locs ls hP hS hl h
set_option maxHeartbeats 4000000 in
set_option maxRecDepth 100000 in
theorem cX10_findFar_ (l : Launch) (bs : Nat) (D : va_G) (y : Y3) (hcb : 76 ≤ y.2.2.2) (n : Nat) (I : MI) (J : MJ) (r : M2) (h : fX10_findFar n  I J = some r) : Met l yX10_findFar (.code yX10_findFar cX10_findFar 5 none :: gtb) (rmm 2 43) (va_Pc [.ref (bs + 44)] (HB bs D y I J)) (QcV bs D y r) 0 0 (FA bs) := by
  refine Met.ofW (cc := cX10_findFar) (maxL := 5) (ret := none) (by decide) rfl ?_
  intro p e s m args below meth c s₁ B hml hv
  obtain ⟨rfl, hP, hK, hN, hL⟩ := hv
  have hx := B.exec
  have hb := B.bytes
  have hr := B.returns
  have hts0 := atoms_spec (ws := .code yX10_findFar cX10_findFar 5 none :: gtb) B.pre
  have hts : ∀ w ∈ gtb, w.before [.ref (bs + 44)].toArray s = true := fun w hw => hts0 w (List.mem_cons_of_mem _ hw)
  have hown : s.vm.findClass RX10 = some m.cls := findClass_of_methodNamed B.named
  have hlocks := B.notSynchronized
  have hS : va_S (FA bs) s.heap s.heap [] := va_S.rf
  have Gc : Gx p s m [.ref (bs + 44)].toArray meth c cX10_findFar 5 RX10 bs D y none 76 := ⟨hx, hb, hml, hown, hts, hK, hN, hL, hr, hlocks, hcb⟩
  have hl := lv_entry [.ref (bs + 44)] (n := 5) (Nat.le_of_ble_eq_true rfl)
  rw [lg_entry_eq]
  generalize (lg_sl [.ref (bs + 44)] ++ List.replicate (5 - (lg_sl [.ref (bs + 44)]).length) Slot.unset).toArray = ls at hl ⊢
  have hl : lv_has ls 5 [(0, .ref (bs + 44))] := hl
  change W p l e (rmm 2 43) s m [.ref (bs + 44)].toArray below meth c s.heap [] 0 0 (QV below [.ref (bs + 44)].toArray s bs D y r) (F0 m 0 ls [])
  unfold fX10_findFar at h
  refine lv_iconst (v := (0 : Int32)) hx hb dX10_findFar_0 (by decide) ?_
  refine lv_istore_n (lv' := [(1, .int (0 : Int32)), (0, .ref (bs + 44))]) hx hb dX10_findFar_1 rfl hl (by decide) rfl (fun ls hl => ?_)
  exact vX10_findFar_2 bs D y n  r Gc  n (0 : Int32) I J _ _ _ hP hS (lv_sub hl [1, 0] rfl) h
theorem dX10_backFrom_0 : decode cX10_backFrom 0 = .ok (.iconst (-1), 1) := by decide +kernel
theorem dX10_backFrom_1 : decode cX10_backFrom 1 = .ok (.istore_n 2, 1) := by decide +kernel
theorem dX10_backFrom_2 : decode cX10_backFrom 2 = .ok (.iconst 0, 1) := by decide +kernel
theorem dX10_backFrom_3 : decode cX10_backFrom 3 = .ok (.istore_n 3, 1) := by decide +kernel
theorem dX10_backFrom_4 : decode cX10_backFrom 4 = .ok (.iconst 0, 1) := by decide +kernel
theorem dX10_backFrom_5 : decode cX10_backFrom 5 = .ok (.istore 4, 2) := by decide +kernel
theorem dX10_backFrom_7 : decode cX10_backFrom 7 = .ok (.iload 4, 2) := by decide +kernel
theorem dX10_backFrom_9 : decode cX10_backFrom 9 = .ok (.aload_n 0, 1) := by decide +kernel
theorem dX10_backFrom_10 : decode cX10_backFrom 10 = .ok (.invokevirtual 230, 3) := by decide +kernel
theorem dX10_backFrom_13 : decode cX10_backFrom 13 = .ok (.if_icmp .ge 97, 3) := by decide +kernel
theorem dX10_backFrom_16 : decode cX10_backFrom 16 = .ok (.aload_n 0, 1) := by decide +kernel
theorem dX10_backFrom_17 : decode cX10_backFrom 17 = .ok (.iload 4, 2) := by decide +kernel
theorem dX10_backFrom_19 : decode cX10_backFrom 19 = .ok (.invokevirtual 278, 3) := by decide +kernel
theorem dX10_backFrom_22 : decode cX10_backFrom 22 = .ok (.iload_n 1, 1) := by decide +kernel
theorem dX10_backFrom_23 : decode cX10_backFrom 23 = .ok (.if_icmp .ne 12, 3) := by decide +kernel
theorem dX10_backFrom_26 : decode cX10_backFrom 26 = .ok (.aload_n 0, 1) := by decide +kernel
theorem dX10_backFrom_27 : decode cX10_backFrom 27 = .ok (.iload 4, 2) := by decide +kernel
theorem dX10_backFrom_29 : decode cX10_backFrom 29 = .ok (.invokevirtual 282, 3) := by decide +kernel
theorem dX10_backFrom_32 : decode cX10_backFrom 32 = .ok (.goto 23, 3) := by decide +kernel
theorem dX10_backFrom_35 : decode cX10_backFrom 35 = .ok (.aload_n 0, 1) := by decide +kernel
theorem dX10_backFrom_36 : decode cX10_backFrom 36 = .ok (.iload 4, 2) := by decide +kernel
theorem dX10_backFrom_38 : decode cX10_backFrom 38 = .ok (.invokevirtual 282, 3) := by decide +kernel
theorem dX10_backFrom_41 : decode cX10_backFrom 41 = .ok (.iload_n 1, 1) := by decide +kernel
theorem dX10_backFrom_42 : decode cX10_backFrom 42 = .ok (.if_icmp .ne 12, 3) := by decide +kernel
theorem dX10_backFrom_45 : decode cX10_backFrom 45 = .ok (.aload_n 0, 1) := by decide +kernel
theorem dX10_backFrom_46 : decode cX10_backFrom 46 = .ok (.iload 4, 2) := by decide +kernel
theorem dX10_backFrom_48 : decode cX10_backFrom 48 = .ok (.invokevirtual 278, 3) := by decide +kernel
theorem dX10_backFrom_51 : decode cX10_backFrom 51 = .ok (.goto 4, 3) := by decide +kernel
theorem dX10_backFrom_54 : decode cX10_backFrom 54 = .ok (.iconst (-1), 1) := by decide +kernel
theorem dX10_backFrom_55 : decode cX10_backFrom 55 = .ok (.istore 5, 2) := by decide +kernel
theorem dX10_backFrom_57 : decode cX10_backFrom 57 = .ok (.iload 5, 2) := by decide +kernel
theorem dX10_backFrom_59 : decode cX10_backFrom 59 = .ok (.ifCond .lt 45, 3) := by decide +kernel
theorem dX10_backFrom_62 : decode cX10_backFrom 62 = .ok (.aload_n 0, 1) := by decide +kernel
theorem dX10_backFrom_63 : decode cX10_backFrom 63 = .ok (.getfield 84, 3) := by decide +kernel
theorem dX10_backFrom_66 : decode cX10_backFrom 66 = .ok (.iload 5, 2) := by decide +kernel
theorem dX10_backFrom_68 : decode cX10_backFrom 68 = .ok (.iaload, 1) := by decide +kernel
theorem dX10_backFrom_69 : decode cX10_backFrom 69 = .ok (.aload_n 0, 1) := by decide +kernel
theorem dX10_backFrom_70 : decode cX10_backFrom 70 = .ok (.iload 4, 2) := by decide +kernel
theorem dX10_backFrom_72 : decode cX10_backFrom 72 = .ok (.invokevirtual 285, 3) := by decide +kernel
theorem dX10_backFrom_75 : decode cX10_backFrom 75 = .ok (.iadd, 1) := by decide +kernel
theorem dX10_backFrom_76 : decode cX10_backFrom 76 = .ok (.aload_n 0, 1) := by decide +kernel
theorem dX10_backFrom_77 : decode cX10_backFrom 77 = .ok (.getfield 84, 3) := by decide +kernel
theorem dX10_backFrom_80 : decode cX10_backFrom 80 = .ok (.iload_n 1, 1) := by decide +kernel
theorem dX10_backFrom_81 : decode cX10_backFrom 81 = .ok (.iaload, 1) := by decide +kernel
theorem dX10_backFrom_82 : decode cX10_backFrom 82 = .ok (.if_icmp .ne 22, 3) := by decide +kernel
theorem dX10_backFrom_85 : decode cX10_backFrom 85 = .ok (.iload_n 2, 1) := by decide +kernel
theorem dX10_backFrom_86 : decode cX10_backFrom 86 = .ok (.ifCond .lt 12, 3) := by decide +kernel
theorem dX10_backFrom_89 : decode cX10_backFrom 89 = .ok (.iload_n 3, 1) := by decide +kernel
theorem dX10_backFrom_90 : decode cX10_backFrom 90 = .ok (.iload 5, 2) := by decide +kernel
theorem dX10_backFrom_92 : decode cX10_backFrom 92 = .ok (.if_icmp .ge 6, 3) := by decide +kernel
theorem dX10_backFrom_95 : decode cX10_backFrom 95 = .ok (.goto 9, 3) := by decide +kernel
theorem dX10_backFrom_98 : decode cX10_backFrom 98 = .ok (.iload 4, 2) := by decide +kernel
theorem dX10_backFrom_100 : decode cX10_backFrom 100 = .ok (.istore_n 2, 1) := by decide +kernel
theorem dX10_backFrom_101 : decode cX10_backFrom 101 = .ok (.iload 5, 2) := by decide +kernel
theorem dX10_backFrom_103 : decode cX10_backFrom 103 = .ok (.istore_n 3, 1) := by decide +kernel
theorem dX10_backFrom_104 : decode cX10_backFrom 104 = .ok (.iinc 4 1, 3) := by decide +kernel
theorem dX10_backFrom_107 : decode cX10_backFrom 107 = .ok (.goto (-100), 3) := by decide +kernel
theorem dX10_backFrom_110 : decode cX10_backFrom 110 = .ok (.iload_n 2, 1) := by decide +kernel
theorem dX10_backFrom_111 : decode cX10_backFrom 111 = .ok (.ireturn, 1) := by decide +kernel
set_option maxHeartbeats 4000000 in
set_option maxRecDepth 100000 in
theorem wX10_backFrom_104 {p : Program} {l : Launch} {e : Env} {s : State} {m : MethodId} {args : Array Value} {below : List Frame} {meth : Method} {c : Code} (bs : Nat) (D : va_G) (y : Y3) (n : Nat) (k7_ : Int32 → Int32 → Int32 → Int32 → MI → MJ → Option (Int32 × M2)) (r : Int32 × M2) (Gc : Gx p s m args meth c cX10_backFrom 6 RX10 bs D y (some .int) 76) (hk7_ : ∀ (x1 : Int32) (x2 : Int32) (x3 : Int32) (x4 : Int32) (I : MI) (J : MJ) (H : Heap) (locs : List Loc) (ls : Array Slot), va_P D vwCl (wl bs y I J) H → va_S (FA bs) s.heap H locs → lv_has ls 6 [(0, .ref (bs + 44)), (1, .int x1), (2, .int x2), (3, .int x3), (4, .int x4)] → k7_ x1 x2 x3 x4 I J = some r → W p l e (rmm 2 43) s m args below meth c H locs 0 0 (QI below args s bs D y r) (F0 m 7 ls [])) (x1 : Int32) (x2 : Int32) (x3 : Int32) (x4 : Int32) (I : MI) (J : MJ) (H : Heap) (locs : List Loc) (ls : Array Slot) (hP : va_P D vwCl (wl bs y I J) H) (hS : va_S (FA bs) s.heap H locs) (hl : lv_has ls 6 [(0, .ref (bs + 44)), (1, .int x1), (2, .int x2), (3, .int x3), (4, .int x4)]) (h : fX10_backFrom_104 n k7_ x1 x2 x3 x4 I J = some r) : W p l e (rmm 2 43) s m args below meth c H locs 0 0 (QI below args s bs D y r) (F0 m 104 ls []) := by
  obtain ⟨hx, hb, hml, hown, hts, hK, hN, hL, hr, hlocks, hcb⟩ := id Gc
  unfold fX10_backFrom_104 at h
  refine lv_iinc (v := (x4 + (1 : Int32))) (lv' := [(4, .int (x4 + (1 : Int32))), (0, .ref (bs + 44)), (1, .int x1), (2, .int x2), (3, .int x3)]) hx hb dX10_backFrom_104 hl (k := 4) rfl rfl (by decide) rfl (fun ls hl => ?_)
  refine lv_goto (tgt := 7) hx hb dX10_backFrom_107 (by decide) ?_
  exact hk7_ x1 x2 x3 (x4 + (1 : Int32)) I J _ _ _ hP hS (lv_sub hl [1, 2, 3, 4, 0] rfl) h
set_option maxHeartbeats 4000000 in
set_option maxRecDepth 100000 in
theorem wX10_backFrom_98 {p : Program} {l : Launch} {e : Env} {s : State} {m : MethodId} {args : Array Value} {below : List Frame} {meth : Method} {c : Code} (bs : Nat) (D : va_G) (y : Y3) (n : Nat) (k7_ : Int32 → Int32 → Int32 → Int32 → MI → MJ → Option (Int32 × M2)) (r : Int32 × M2) (Gc : Gx p s m args meth c cX10_backFrom 6 RX10 bs D y (some .int) 76) (hk7_ : ∀ (x1 : Int32) (x2 : Int32) (x3 : Int32) (x4 : Int32) (I : MI) (J : MJ) (H : Heap) (locs : List Loc) (ls : Array Slot), va_P D vwCl (wl bs y I J) H → va_S (FA bs) s.heap H locs → lv_has ls 6 [(0, .ref (bs + 44)), (1, .int x1), (2, .int x2), (3, .int x3), (4, .int x4)] → k7_ x1 x2 x3 x4 I J = some r → W p l e (rmm 2 43) s m args below meth c H locs 0 0 (QI below args s bs D y r) (F0 m 7 ls [])) (x1 : Int32) (x4 : Int32) (x5 : Int32) (I : MI) (J : MJ) (H : Heap) (locs : List Loc) (ls : Array Slot) (hP : va_P D vwCl (wl bs y I J) H) (hS : va_S (FA bs) s.heap H locs) (hl : lv_has ls 6 [(0, .ref (bs + 44)), (1, .int x1), (4, .int x4), (5, .int x5)]) (h : fX10_backFrom_98 n k7_ x1 x4 x5 I J = some r) : W p l e (rmm 2 43) s m args below meth c H locs 0 0 (QI below args s bs D y r) (F0 m 98 ls []) := by
  obtain ⟨hx, hb, hml, hown, hts, hK, hN, hL, hr, hlocks, hcb⟩ := id Gc
  unfold fX10_backFrom_98 at h
  refine lv_iload hx hb dX10_backFrom_98 (lv_at hl 2 rfl) ?_
  refine lv_istore_n (lv' := [(2, .int x4), (0, .ref (bs + 44)), (1, .int x1), (4, .int x4), (5, .int x5)]) hx hb dX10_backFrom_100 rfl hl (by decide) rfl (fun ls hl => ?_)
  refine lv_iload hx hb dX10_backFrom_101 (lv_at hl 4 rfl) ?_
  refine lv_istore_n (lv' := [(3, .int x5), (2, .int x4), (0, .ref (bs + 44)), (1, .int x1), (4, .int x4), (5, .int x5)]) hx hb dX10_backFrom_103 rfl hl (by decide) rfl (fun ls hl => ?_)
  exact wX10_backFrom_104 bs D y n k7_ r Gc hk7_ x1 x4 x5 x4 I J _ _ _ hP hS (lv_sub hl [2, 3, 1, 0, 4] rfl) h
set_option maxHeartbeats 4000000 in
set_option maxRecDepth 100000 in
theorem wX10_backFrom_55 {p : Program} {l : Launch} {e : Env} {s : State} {m : MethodId} {args : Array Value} {below : List Frame} {meth : Method} {c : Code} (bs : Nat) (D : va_G) (y : Y3) (n : Nat) (k7_ : Int32 → Int32 → Int32 → Int32 → MI → MJ → Option (Int32 × M2)) (r : Int32 × M2) (Gc : Gx p s m args meth c cX10_backFrom 6 RX10 bs D y (some .int) 76) (hk7_ : ∀ (x1 : Int32) (x2 : Int32) (x3 : Int32) (x4 : Int32) (I : MI) (J : MJ) (H : Heap) (locs : List Loc) (ls : Array Slot), va_P D vwCl (wl bs y I J) H → va_S (FA bs) s.heap H locs → lv_has ls 6 [(0, .ref (bs + 44)), (1, .int x1), (2, .int x2), (3, .int x3), (4, .int x4)] → k7_ x1 x2 x3 x4 I J = some r → W p l e (rmm 2 43) s m args below meth c H locs 0 0 (QI below args s bs D y r) (F0 m 7 ls [])) (x1 : Int32) (x2 : Int32) (x3 : Int32) (x4 : Int32) (s0 : Int32) (I : MI) (J : MJ) (H : Heap) (locs : List Loc) (ls : Array Slot) (hP : va_P D vwCl (wl bs y I J) H) (hS : va_S (FA bs) s.heap H locs) (hl : lv_has ls 6 [(0, .ref (bs + 44)), (1, .int x1), (2, .int x2), (3, .int x3), (4, .int x4)]) (h : fX10_backFrom_55 n k7_ x1 x2 x3 x4 s0 I J = some r) : W p l e (rmm 2 43) s m args below meth c H locs 0 0 (QI below args s bs D y r) (F0 m 55 ls [.int s0]) := by
  obtain ⟨hx, hb, hml, hown, hts, hK, hN, hL, hr, hlocks, hcb⟩ := id Gc
  unfold fX10_backFrom_55 at h
  refine lv_istore (lv' := [(5, .int s0), (0, .ref (bs + 44)), (1, .int x1), (2, .int x2), (3, .int x3), (4, .int x4)]) hx hb dX10_backFrom_55 hl (by decide) rfl (fun ls hl => ?_)
  refine lv_iload hx hb dX10_backFrom_57 (lv_at hl 0 rfl) ?_
  refine lv_if_lt (tgt := 104) hx hb dX10_backFrom_59 (by decide) (fun c59 => ?_) (fun c59 => ?_)
  · replace h := if_t c59 h
    exact wX10_backFrom_104 bs D y n k7_ r Gc hk7_ x1 x2 x3 x4 I J _ _ _ hP hS (lv_sub hl [1, 2, 3, 4, 5] rfl) h
  · replace h := if_f c59 h
    refine lv_aload_n hx hb dX10_backFrom_62 rfl (lv_at hl 1 rfl) ?_
    refine g_R (C := RX10) (T := TX10) (N := 49) (ci := 10) 44 33 65 hx hb hts hown hK hP in_X10 rfl hcb okF_44_33 rfc_44_33 fl_176 dX10_backFrom_63 ?_
    refine lv_iload hx hb dX10_backFrom_66 (lv_at hl 0 rfl) ?_
    obtain ⟨hi68, h⟩ := if_s1 h
    refine a_I 65 hx hb hK hP hcb aln_65 hi68 dX10_backFrom_68 ?_
    refine lv_aload_n hx hb dX10_backFrom_69 rfl (lv_at hl 1 rfl) ?_
    refine lv_iload hx hb dX10_backFrom_70 (lv_at hl 5 rfl) ?_
    obtain ⟨r72, er72, h⟩ := bd_s1 h
    refine c_VI (k := 44) (ci := 10) (As := [.int x4]) (rest := [.int (I 65 (s0).toNatClampNeg)]) hx hb hml hown hts hK hN hL hP hS (cX10_price_ l bs D y hcb n x4 I J r72 er72) ok_X10_price ov_X10_price ml_150 ⟨Nat.le_of_ble_eq_true rfl, Nat.le_of_ble_eq_true rfl⟩ rfl hcb kd_44 hl.1 rfl rfl (Nat.le_of_ble_eq_true rfl) ⟨Nat.zero_le _, Nat.zero_le _⟩ dX10_backFrom_72 (fun H locs hP hS => ?_)
    refine lv_iadd hx hb dX10_backFrom_75 ?_
    refine lv_aload_n hx hb dX10_backFrom_76 rfl (lv_at hl 1 rfl) ?_
    refine g_R (C := RX10) (T := TX10) (N := 49) (ci := 10) 44 33 65 hx hb hts hown hK hP in_X10 rfl hcb okF_44_33 rfc_44_33 fl_176 dX10_backFrom_77 ?_
    refine lv_iload_n hx hb dX10_backFrom_80 rfl (lv_at hl 2 rfl) ?_
    obtain ⟨hi81, h⟩ := if_s1 h
    refine a_I 65 hx hb hK hP hcb aln_65 hi81 dX10_backFrom_81 ?_
    refine lv_icmp_ne (tgt := 104) hx hb dX10_backFrom_82 (by decide) (fun c82 => ?_) (fun c82 => ?_)
    · replace h := if_f c82 h
      exact wX10_backFrom_104 bs D y n k7_ r Gc hk7_ x1 x2 x3 x4 r72.2.1 r72.2.2 _ _ _ hP hS (lv_sub hl [1, 2, 3, 4, 5] rfl) h
    · replace h := if_t c82 h
      refine lv_iload_n hx hb dX10_backFrom_85 rfl (lv_at hl 3 rfl) ?_
      refine lv_if_lt (tgt := 98) hx hb dX10_backFrom_86 (by decide) (fun c86 => ?_) (fun c86 => ?_)
      · replace h := if_t c86 h
        exact wX10_backFrom_98 bs D y n k7_ r Gc hk7_ x1 x4 s0 r72.2.1 r72.2.2 _ _ _ hP hS (lv_sub hl [1, 2, 5, 0] rfl) h
      · replace h := if_f c86 h
        refine lv_iload_n hx hb dX10_backFrom_89 rfl (lv_at hl 4 rfl) ?_
        refine lv_iload hx hb dX10_backFrom_90 (lv_at hl 0 rfl) ?_
        refine lv_icmp_ge (tgt := 98) hx hb dX10_backFrom_92 (by decide) (fun c92 => ?_) (fun c92 => ?_)
        · replace h := if_t c92 h
          exact wX10_backFrom_98 bs D y n k7_ r Gc hk7_ x1 x4 s0 r72.2.1 r72.2.2 _ _ _ hP hS (lv_sub hl [1, 2, 5, 0] rfl) h
        · replace h := if_f c92 h
          refine lv_goto (tgt := 104) hx hb dX10_backFrom_95 (by decide) ?_
          exact wX10_backFrom_104 bs D y n k7_ r Gc hk7_ x1 x2 x3 x4 r72.2.1 r72.2.2 _ _ _ hP hS (lv_sub hl [1, 2, 3, 4, 5] rfl) h
set_option maxHeartbeats 4000000 in
set_option maxRecDepth 100000 in
theorem wX10_backFrom_7 {p : Program} {l : Launch} {e : Env} {s : State} {m : MethodId} {args : Array Value} {below : List Frame} {meth : Method} {c : Code} (bs : Nat) (D : va_G) (y : Y3) (n : Nat) (k7_ : Int32 → Int32 → Int32 → Int32 → MI → MJ → Option (Int32 × M2)) (r : Int32 × M2) (Gc : Gx p s m args meth c cX10_backFrom 6 RX10 bs D y (some .int) 76) (hk7_ : ∀ (x1 : Int32) (x2 : Int32) (x3 : Int32) (x4 : Int32) (I : MI) (J : MJ) (H : Heap) (locs : List Loc) (ls : Array Slot), va_P D vwCl (wl bs y I J) H → va_S (FA bs) s.heap H locs → lv_has ls 6 [(0, .ref (bs + 44)), (1, .int x1), (2, .int x2), (3, .int x3), (4, .int x4)] → k7_ x1 x2 x3 x4 I J = some r → W p l e (rmm 2 43) s m args below meth c H locs 0 0 (QI below args s bs D y r) (F0 m 7 ls [])) (x1 : Int32) (x2 : Int32) (x3 : Int32) (x4 : Int32) (I : MI) (J : MJ) (H : Heap) (locs : List Loc) (ls : Array Slot) (hP : va_P D vwCl (wl bs y I J) H) (hS : va_S (FA bs) s.heap H locs) (hl : lv_has ls 6 [(0, .ref (bs + 44)), (1, .int x1), (2, .int x2), (3, .int x3), (4, .int x4)]) (h : fX10_backFrom_7 n k7_ x1 x2 x3 x4 I J = some r) : W p l e (rmm 2 43) s m args below meth c H locs 0 0 (QI below args s bs D y r) (F0 m 7 ls []) := by
  obtain ⟨hx, hb, hml, hown, hts, hK, hN, hL, hr, hlocks, hcb⟩ := id Gc
  unfold fX10_backFrom_7 at h
  refine lv_iload hx hb dX10_backFrom_7 (lv_at hl 4 rfl) ?_
  refine lv_aload_n hx hb dX10_backFrom_9 rfl (lv_at hl 0 rfl) ?_
  obtain ⟨r10, er10, h⟩ := bd_s1 h
  refine c_VI (k := 44) (ci := 10) (As := []) (rest := [.int x4]) hx hb hml hown hts hK hN hL hP hS (cX10_joints_ l bs D y hcb n  I J r10 er10) ok_X10_joints ov_X10_joints ml_135 ⟨Nat.le_of_ble_eq_true rfl, Nat.le_of_ble_eq_true rfl⟩ rfl hcb kd_44 hl.1 rfl rfl (Nat.le_of_ble_eq_true rfl) ⟨Nat.zero_le _, Nat.zero_le _⟩ dX10_backFrom_10 (fun H locs hP hS => ?_)
  refine lv_icmp_ge (tgt := 110) hx hb dX10_backFrom_13 (by decide) (fun c13 => ?_) (fun c13 => ?_)
  · replace h := if_t c13 h
    refine lv_iload_n hx hb dX10_backFrom_110 rfl (lv_at hl 2 rfl) ?_
    exact r_I hx hb hr hlocks hP hK hN hL hS h dX10_backFrom_111
  · replace h := if_f c13 h
    refine lv_aload_n hx hb dX10_backFrom_16 rfl (lv_at hl 0 rfl) ?_
    refine lv_iload hx hb dX10_backFrom_17 (lv_at hl 4 rfl) ?_
    obtain ⟨r19, er19, h⟩ := bd_s1 h
    refine c_VI (k := 44) (ci := 10) (As := [.int x4]) (rest := []) hx hb hml hown hts hK hN hL hP hS (cX10_lesser_ l bs D y hcb n x4 r10.2.1 r10.2.2 r19 er19) ok_X10_lesser ov_X10_lesser ml_149 ⟨Nat.le_of_ble_eq_true rfl, Nat.le_of_ble_eq_true rfl⟩ rfl hcb kd_44 hl.1 rfl rfl (Nat.le_of_ble_eq_true rfl) ⟨Nat.zero_le _, Nat.zero_le _⟩ dX10_backFrom_19 (fun H locs hP hS => ?_)
    refine lv_iload_n hx hb dX10_backFrom_22 rfl (lv_at hl 1 rfl) ?_
    refine lv_icmp_ne (tgt := 35) hx hb dX10_backFrom_23 (by decide) (fun c23 => ?_) (fun c23 => ?_)
    · replace h := if_f c23 h
      refine lv_aload_n hx hb dX10_backFrom_35 rfl (lv_at hl 0 rfl) ?_
      refine lv_iload hx hb dX10_backFrom_36 (lv_at hl 4 rfl) ?_
      obtain ⟨r38, er38, h⟩ := bd_s1 h
      refine c_VI (k := 44) (ci := 10) (As := [.int x4]) (rest := []) hx hb hml hown hts hK hN hL hP hS (cX10_greater_ l bs D y hcb n x4 r19.2.1 r19.2.2 r38 er38) ok_X10_greater ov_X10_greater ml_151 ⟨Nat.le_of_ble_eq_true rfl, Nat.le_of_ble_eq_true rfl⟩ rfl hcb kd_44 hl.1 rfl rfl (Nat.le_of_ble_eq_true rfl) ⟨Nat.zero_le _, Nat.zero_le _⟩ dX10_backFrom_38 (fun H locs hP hS => ?_)
      refine lv_iload_n hx hb dX10_backFrom_41 rfl (lv_at hl 1 rfl) ?_
      refine lv_icmp_ne (tgt := 54) hx hb dX10_backFrom_42 (by decide) (fun c42 => ?_) (fun c42 => ?_)
      · replace h := if_f c42 h
        refine lv_iconst (v := (-1 : Int32)) hx hb dX10_backFrom_54 (by decide) ?_
        exact wX10_backFrom_55 bs D y n k7_ r Gc hk7_ x1 x2 x3 x4 (-1 : Int32) r38.2.1 r38.2.2 _ _ _ hP hS (lv_sub hl [0, 1, 2, 3, 4] rfl) h
      · replace h := if_t c42 h
        refine lv_aload_n hx hb dX10_backFrom_45 rfl (lv_at hl 0 rfl) ?_
        refine lv_iload hx hb dX10_backFrom_46 (lv_at hl 4 rfl) ?_
        obtain ⟨r48, er48, h⟩ := bd_s1 h
        refine c_VI (k := 44) (ci := 10) (As := [.int x4]) (rest := []) hx hb hml hown hts hK hN hL hP hS (cX10_lesser_ l bs D y hcb n x4 r38.2.1 r38.2.2 r48 er48) ok_X10_lesser ov_X10_lesser ml_149 ⟨Nat.le_of_ble_eq_true rfl, Nat.le_of_ble_eq_true rfl⟩ rfl hcb kd_44 hl.1 rfl rfl (Nat.le_of_ble_eq_true rfl) ⟨Nat.zero_le _, Nat.zero_le _⟩ dX10_backFrom_48 (fun H locs hP hS => ?_)
        refine lv_goto (tgt := 55) hx hb dX10_backFrom_51 (by decide) ?_
        exact wX10_backFrom_55 bs D y n k7_ r Gc hk7_ x1 x2 x3 x4 r48.1 r48.2.1 r48.2.2 _ _ _ hP hS (lv_sub hl [0, 1, 2, 3, 4] rfl) h
    · replace h := if_t c23 h
      refine lv_aload_n hx hb dX10_backFrom_26 rfl (lv_at hl 0 rfl) ?_
      refine lv_iload hx hb dX10_backFrom_27 (lv_at hl 4 rfl) ?_
      obtain ⟨r29, er29, h⟩ := bd_s1 h
      refine c_VI (k := 44) (ci := 10) (As := [.int x4]) (rest := []) hx hb hml hown hts hK hN hL hP hS (cX10_greater_ l bs D y hcb n x4 r19.2.1 r19.2.2 r29 er29) ok_X10_greater ov_X10_greater ml_151 ⟨Nat.le_of_ble_eq_true rfl, Nat.le_of_ble_eq_true rfl⟩ rfl hcb kd_44 hl.1 rfl rfl (Nat.le_of_ble_eq_true rfl) ⟨Nat.zero_le _, Nat.zero_le _⟩ dX10_backFrom_29 (fun H locs hP hS => ?_)
      refine lv_goto (tgt := 55) hx hb dX10_backFrom_32 (by decide) ?_
      exact wX10_backFrom_55 bs D y n k7_ r Gc hk7_ x1 x2 x3 x4 r29.1 r29.2.1 r29.2.2 _ _ _ hP hS (lv_sub hl [0, 1, 2, 3, 4] rfl) h
theorem vX10_backFrom_7 {p : Program} {l : Launch} {e : Env} {s : State} {m : MethodId} {args : Array Value} {below : List Frame} {meth : Method} {c : Code} (bs : Nat) (D : va_G) (y : Y3) (n : Nat) (r : Int32 × M2) (Gc : Gx p s m args meth c cX10_backFrom 6 RX10 bs D y (some .int) 76)  : ∀ (q : Nat) (x1 : Int32) (x2 : Int32) (x3 : Int32) (x4 : Int32) (I : MI) (J : MJ) (H : Heap) (locs : List Loc) (ls : Array Slot), va_P D vwCl (wl bs y I J) H → va_S (FA bs) s.heap H locs → lv_has ls 6 [(0, .ref (bs + 44)), (1, .int x1), (2, .int x2), (3, .int x3), (4, .int x4)] → lX10_backFrom_7 n  q x1 x2 x3 x4 I J = some r → W p l e (rmm 2 43) s m args below meth c H locs 0 0 (QI below args s bs D y r) (F0 m 7 ls []) := by
  intro q
  induction q with
  | zero =>
    intro x1 x2 x3 x4 I J H locs ls hP hS hl h
    have h : (none : Option (Int32 × M2)) = some r := h
    cases h
  | succ q ih =>
    intro x1 x2 x3 x4 I J H locs ls hP hS hl h
    have h : fX10_backFrom_7 n  (lX10_backFrom_7 n  q) x1 x2 x3 x4 I J = some r := h
    exact wX10_backFrom_7 bs D y n  (lX10_backFrom_7 n  q) r Gc  ih x1 x2 x3 x4 I J H locs ls hP hS hl h
set_option maxHeartbeats 4000000 in
set_option maxRecDepth 100000 in
theorem cX10_backFrom_ (l : Launch) (bs : Nat) (D : va_G) (y : Y3) (hcb : 76 ≤ y.2.2.2) (n : Nat) (x1 : Int32) (I : MI) (J : MJ) (r : Int32 × M2) (h : fX10_backFrom n x1 I J = some r) : Met l yX10_backFrom (.code yX10_backFrom cX10_backFrom 6 (some .int) :: gtb) (rmm 2 43) (va_Pc [.ref (bs + 44), .int x1] (HB bs D y I J)) (QcI bs D y r) 0 0 (FA bs) := by
  refine Met.ofW (cc := cX10_backFrom) (maxL := 6) (ret := (some .int)) (by decide) rfl ?_
  intro p e s m args below meth c s₁ B hml hv
  obtain ⟨rfl, hP, hK, hN, hL⟩ := hv
  have hx := B.exec
  have hb := B.bytes
  have hr := B.returns
  have hts0 := atoms_spec (ws := .code yX10_backFrom cX10_backFrom 6 (some .int) :: gtb) B.pre
  have hts : ∀ w ∈ gtb, w.before [.ref (bs + 44), .int x1].toArray s = true := fun w hw => hts0 w (List.mem_cons_of_mem _ hw)
  have hown : s.vm.findClass RX10 = some m.cls := findClass_of_methodNamed B.named
  have hlocks := B.notSynchronized
  have hS : va_S (FA bs) s.heap s.heap [] := va_S.rf
  have Gc : Gx p s m [.ref (bs + 44), .int x1].toArray meth c cX10_backFrom 6 RX10 bs D y (some .int) 76 := ⟨hx, hb, hml, hown, hts, hK, hN, hL, hr, hlocks, hcb⟩
  have hl := lv_entry [.ref (bs + 44), .int x1] (n := 6) (Nat.le_of_ble_eq_true rfl)
  rw [lg_entry_eq]
  generalize (lg_sl [.ref (bs + 44), .int x1] ++ List.replicate (6 - (lg_sl [.ref (bs + 44), .int x1]).length) Slot.unset).toArray = ls at hl ⊢
  have hl : lv_has ls 6 [(0, .ref (bs + 44)), (1, .int x1)] := hl
  change W p l e (rmm 2 43) s m [.ref (bs + 44), .int x1].toArray below meth c s.heap [] 0 0 (QI below [.ref (bs + 44), .int x1].toArray s bs D y r) (F0 m 0 ls [])
  unfold fX10_backFrom at h
  refine lv_iconst (v := (-1 : Int32)) hx hb dX10_backFrom_0 (by decide) ?_
  refine lv_istore_n (lv' := [(2, .int (-1 : Int32)), (0, .ref (bs + 44)), (1, .int x1)]) hx hb dX10_backFrom_1 rfl hl (by decide) rfl (fun ls hl => ?_)
  refine lv_iconst (v := (0 : Int32)) hx hb dX10_backFrom_2 (by decide) ?_
  refine lv_istore_n (lv' := [(3, .int (0 : Int32)), (2, .int (-1 : Int32)), (0, .ref (bs + 44)), (1, .int x1)]) hx hb dX10_backFrom_3 rfl hl (by decide) rfl (fun ls hl => ?_)
  refine lv_iconst (v := (0 : Int32)) hx hb dX10_backFrom_4 (by decide) ?_
  refine lv_istore (lv' := [(4, .int (0 : Int32)), (3, .int (0 : Int32)), (2, .int (-1 : Int32)), (0, .ref (bs + 44)), (1, .int x1)]) hx hb dX10_backFrom_5 hl (by decide) rfl (fun ls hl => ?_)
  exact vX10_backFrom_7 bs D y n  r Gc  n x1 (-1 : Int32) (0 : Int32) (0 : Int32) I J _ _ _ hP hS (lv_sub hl [3, 4, 2, 1, 0] rfl) h
theorem dX10_leadTo_0 : decode cX10_leadTo 0 = .ok (.aload_n 0, 1) := by decide +kernel
theorem dX10_leadTo_1 : decode cX10_leadTo 1 = .ok (.invokevirtual 288, 3) := by decide +kernel
theorem dX10_leadTo_4 : decode cX10_leadTo 4 = .ok (.iconst 0, 1) := by decide +kernel
theorem dX10_leadTo_5 : decode cX10_leadTo 5 = .ok (.istore_n 3, 1) := by decide +kernel
theorem dX10_leadTo_6 : decode cX10_leadTo 6 = .ok (.iload_n 2, 1) := by decide +kernel
theorem dX10_leadTo_7 : decode cX10_leadTo 7 = .ok (.istore 4, 2) := by decide +kernel
theorem dX10_leadTo_9 : decode cX10_leadTo 9 = .ok (.aload_n 0, 1) := by decide +kernel
theorem dX10_leadTo_10 : decode cX10_leadTo 10 = .ok (.getfield 87, 3) := by decide +kernel
theorem dX10_leadTo_13 : decode cX10_leadTo 13 = .ok (.iload 4, 2) := by decide +kernel
theorem dX10_leadTo_15 : decode cX10_leadTo 15 = .ok (.baload, 1) := by decide +kernel
theorem dX10_leadTo_16 : decode cX10_leadTo 16 = .ok (.ifCond .ne 61, 3) := by decide +kernel
theorem dX10_leadTo_19 : decode cX10_leadTo 19 = .ok (.aload_n 0, 1) := by decide +kernel
theorem dX10_leadTo_20 : decode cX10_leadTo 20 = .ok (.iload 4, 2) := by decide +kernel
theorem dX10_leadTo_22 : decode cX10_leadTo 22 = .ok (.invokevirtual 291, 3) := by decide +kernel
theorem dX10_leadTo_25 : decode cX10_leadTo 25 = .ok (.istore 5, 2) := by decide +kernel
theorem dX10_leadTo_27 : decode cX10_leadTo 27 = .ok (.aload_n 0, 1) := by decide +kernel
theorem dX10_leadTo_28 : decode cX10_leadTo 28 = .ok (.getfield 90, 3) := by decide +kernel
theorem dX10_leadTo_31 : decode cX10_leadTo 31 = .ok (.iload_n 3, 1) := by decide +kernel
theorem dX10_leadTo_32 : decode cX10_leadTo 32 = .ok (.iload 5, 2) := by decide +kernel
theorem dX10_leadTo_34 : decode cX10_leadTo 34 = .ok (.iastore, 1) := by decide +kernel
theorem dX10_leadTo_35 : decode cX10_leadTo 35 = .ok (.iinc 3 1, 3) := by decide +kernel
theorem dX10_leadTo_38 : decode cX10_leadTo 38 = .ok (.aload_n 0, 1) := by decide +kernel
theorem dX10_leadTo_39 : decode cX10_leadTo 39 = .ok (.getfield 87, 3) := by decide +kernel
theorem dX10_leadTo_42 : decode cX10_leadTo 42 = .ok (.iload 4, 2) := by decide +kernel
theorem dX10_leadTo_44 : decode cX10_leadTo 44 = .ok (.iconst 1, 1) := by decide +kernel
theorem dX10_leadTo_45 : decode cX10_leadTo 45 = .ok (.bastore, 1) := by decide +kernel
theorem dX10_leadTo_46 : decode cX10_leadTo 46 = .ok (.aload_n 0, 1) := by decide +kernel
theorem dX10_leadTo_47 : decode cX10_leadTo 47 = .ok (.iload 5, 2) := by decide +kernel
theorem dX10_leadTo_49 : decode cX10_leadTo 49 = .ok (.invokevirtual 278, 3) := by decide +kernel
theorem dX10_leadTo_52 : decode cX10_leadTo 52 = .ok (.iload 4, 2) := by decide +kernel
theorem dX10_leadTo_54 : decode cX10_leadTo 54 = .ok (.if_icmp .ne 12, 3) := by decide +kernel
theorem dX10_leadTo_57 : decode cX10_leadTo 57 = .ok (.aload_n 0, 1) := by decide +kernel
theorem dX10_leadTo_58 : decode cX10_leadTo 58 = .ok (.iload 5, 2) := by decide +kernel
theorem dX10_leadTo_60 : decode cX10_leadTo 60 = .ok (.invokevirtual 282, 3) := by decide +kernel
theorem dX10_leadTo_63 : decode cX10_leadTo 63 = .ok (.goto 9, 3) := by decide +kernel
theorem dX10_leadTo_66 : decode cX10_leadTo 66 = .ok (.aload_n 0, 1) := by decide +kernel
theorem dX10_leadTo_67 : decode cX10_leadTo 67 = .ok (.iload 5, 2) := by decide +kernel
theorem dX10_leadTo_69 : decode cX10_leadTo 69 = .ok (.invokevirtual 278, 3) := by decide +kernel
theorem dX10_leadTo_72 : decode cX10_leadTo 72 = .ok (.istore 4, 2) := by decide +kernel
theorem dX10_leadTo_74 : decode cX10_leadTo 74 = .ok (.goto (-65), 3) := by decide +kernel
theorem dX10_leadTo_77 : decode cX10_leadTo 77 = .ok (.iconst 0, 1) := by decide +kernel
theorem dX10_leadTo_78 : decode cX10_leadTo 78 = .ok (.istore 5, 2) := by decide +kernel
theorem dX10_leadTo_80 : decode cX10_leadTo 80 = .ok (.iload 5, 2) := by decide +kernel
theorem dX10_leadTo_82 : decode cX10_leadTo 82 = .ok (.iload_n 3, 1) := by decide +kernel
theorem dX10_leadTo_83 : decode cX10_leadTo 83 = .ok (.if_icmp .ge 43, 3) := by decide +kernel
theorem dX10_leadTo_86 : decode cX10_leadTo 86 = .ok (.aload_n 0, 1) := by decide +kernel
theorem dX10_leadTo_87 : decode cX10_leadTo 87 = .ok (.getfield 75, 3) := by decide +kernel
theorem dX10_leadTo_90 : decode cX10_leadTo 90 = .ok (.bipush 60, 2) := by decide +kernel
theorem dX10_leadTo_92 : decode cX10_leadTo 92 = .ok (.iload_n 1, 1) := by decide +kernel
theorem dX10_leadTo_93 : decode cX10_leadTo 93 = .ok (.imul, 1) := by decide +kernel
theorem dX10_leadTo_94 : decode cX10_leadTo 94 = .ok (.aload_n 0, 1) := by decide +kernel
theorem dX10_leadTo_95 : decode cX10_leadTo 95 = .ok (.getfield 90, 3) := by decide +kernel
theorem dX10_leadTo_98 : decode cX10_leadTo 98 = .ok (.iload 5, 2) := by decide +kernel
theorem dX10_leadTo_100 : decode cX10_leadTo 100 = .ok (.iaload, 1) := by decide +kernel
theorem dX10_leadTo_101 : decode cX10_leadTo 101 = .ok (.iadd, 1) := by decide +kernel
theorem dX10_leadTo_102 : decode cX10_leadTo 102 = .ok (.iconst 1, 1) := by decide +kernel
theorem dX10_leadTo_103 : decode cX10_leadTo 103 = .ok (.bastore, 1) := by decide +kernel
theorem dX10_leadTo_104 : decode cX10_leadTo 104 = .ok (.aload_n 0, 1) := by decide +kernel
theorem dX10_leadTo_105 : decode cX10_leadTo 105 = .ok (.getfield 78, 3) := by decide +kernel
theorem dX10_leadTo_108 : decode cX10_leadTo 108 = .ok (.aload_n 0, 1) := by decide +kernel
theorem dX10_leadTo_109 : decode cX10_leadTo 109 = .ok (.getfield 90, 3) := by decide +kernel
theorem dX10_leadTo_112 : decode cX10_leadTo 112 = .ok (.iload 5, 2) := by decide +kernel
theorem dX10_leadTo_114 : decode cX10_leadTo 114 = .ok (.iaload, 1) := by decide +kernel
theorem dX10_leadTo_115 : decode cX10_leadTo 115 = .ok (.dup2, 1) := by decide +kernel
theorem dX10_leadTo_116 : decode cX10_leadTo 116 = .ok (.iaload, 1) := by decide +kernel
theorem dX10_leadTo_117 : decode cX10_leadTo 117 = .ok (.iconst 1, 1) := by decide +kernel
theorem dX10_leadTo_118 : decode cX10_leadTo 118 = .ok (.iadd, 1) := by decide +kernel
theorem dX10_leadTo_119 : decode cX10_leadTo 119 = .ok (.iastore, 1) := by decide +kernel
theorem dX10_leadTo_120 : decode cX10_leadTo 120 = .ok (.iinc 5 1, 3) := by decide +kernel
theorem dX10_leadTo_123 : decode cX10_leadTo 123 = .ok (.goto (-43), 3) := by decide +kernel
theorem dX10_leadTo_126 : decode cX10_leadTo 126 = .ok (.return_, 1) := by decide +kernel
set_option maxHeartbeats 4000000 in
set_option maxRecDepth 100000 in
theorem wX10_leadTo_80 {p : Program} {l : Launch} {e : Env} {s : State} {m : MethodId} {args : Array Value} {below : List Frame} {meth : Method} {c : Code} (bs : Nat) (D : va_G) (y : Y3) (n : Nat) (k80_ : Int32 → Int32 → Int32 → MI → MJ → Option (M2)) (r : M2) (Gc : Gx p s m args meth c cX10_leadTo 6 RX10 bs D y none 76) (hk80_ : ∀ (x1 : Int32) (x3 : Int32) (x5 : Int32) (I : MI) (J : MJ) (H : Heap) (locs : List Loc) (ls : Array Slot), va_P D vwCl (wl bs y I J) H → va_S (FA bs) s.heap H locs → lv_has ls 6 [(0, .ref (bs + 44)), (1, .int x1), (3, .int x3), (5, .int x5)] → k80_ x1 x3 x5 I J = some r → W p l e (rmm 3 68) s m args below meth c H locs 0 0 (QV below args s bs D y r) (F0 m 80 ls [])) (x1 : Int32) (x3 : Int32) (x5 : Int32) (I : MI) (J : MJ) (H : Heap) (locs : List Loc) (ls : Array Slot) (hP : va_P D vwCl (wl bs y I J) H) (hS : va_S (FA bs) s.heap H locs) (hl : lv_has ls 6 [(0, .ref (bs + 44)), (1, .int x1), (3, .int x3), (5, .int x5)]) (h : fX10_leadTo_80 n k80_ x1 x3 x5 I J = some r) : W p l e (rmm 3 68) s m args below meth c H locs 0 0 (QV below args s bs D y r) (F0 m 80 ls []) := by
  obtain ⟨hx, hb, hml, hown, hts, hK, hN, hL, hr, hlocks, hcb⟩ := id Gc
  unfold fX10_leadTo_80 at h
  refine lv_iload hx hb dX10_leadTo_80 (lv_at hl 3 rfl) ?_
  refine lv_iload_n hx hb dX10_leadTo_82 rfl (lv_at hl 2 rfl) ?_
  refine lv_icmp_ge (tgt := 126) hx hb dX10_leadTo_83 (by decide) (fun c83 => ?_) (fun c83 => ?_)
  · replace h := if_t c83 h
    exact r_V hx hb hr hlocks hP hK hN hL hS h dX10_leadTo_126
  · replace h := if_f c83 h
    refine lv_aload_n hx hb dX10_leadTo_86 rfl (lv_at hl 0 rfl) ?_
    refine g_R (C := RX10) (T := TX10) (N := 49) (ci := 10) 44 30 62 hx hb hts hown hK hP in_X10 rfl hcb okF_44_30 rfc_44_30 fl_178 dX10_leadTo_87 ?_
    refine lv_bipush (v := (60 : Int32)) hx hb dX10_leadTo_90 (by decide) ?_
    refine lv_iload_n hx hb dX10_leadTo_92 rfl (lv_at hl 1 rfl) ?_
    refine lv_imul hx hb dX10_leadTo_93 ?_
    refine lv_aload_n hx hb dX10_leadTo_94 rfl (lv_at hl 0 rfl) ?_
    refine g_R (C := RX10) (T := TX10) (N := 49) (ci := 10) 44 35 67 hx hb hts hown hK hP in_X10 rfl hcb okF_44_35 rfc_44_35 fl_179 dX10_leadTo_95 ?_
    refine lv_iload hx hb dX10_leadTo_98 (lv_at hl 3 rfl) ?_
    obtain ⟨hi100, h⟩ := if_s1 h
    refine a_I 67 hx hb hK hP hcb aln_67 hi100 dX10_leadTo_100 ?_
    refine lv_iadd hx hb dX10_leadTo_101 ?_
    refine lv_iconst (v := (1 : Int32)) hx hb dX10_leadTo_102 (by decide) ?_
    obtain ⟨hi103, h⟩ := if_s1 h
    obtain ⟨I103, eI103, h⟩ := lt_s1 h
    refine t_Z 62 eI103 hx hb hK hP hS hcb alZ_62 hi103 dX10_leadTo_103 (fun H locs hP hS => ?_)
    refine lv_aload_n hx hb dX10_leadTo_104 rfl (lv_at hl 0 rfl) ?_
    refine g_R (C := RX10) (T := TX10) (N := 49) (ci := 10) 44 31 63 hx hb hts hown hK hP in_X10 rfl hcb okF_44_31 rfc_44_31 fl_174 dX10_leadTo_105 ?_
    refine lv_aload_n hx hb dX10_leadTo_108 rfl (lv_at hl 0 rfl) ?_
    refine g_R (C := RX10) (T := TX10) (N := 49) (ci := 10) 44 35 67 hx hb hts hown hK hP in_X10 rfl hcb okF_44_35 rfc_44_35 fl_179 dX10_leadTo_109 ?_
    refine lv_iload hx hb dX10_leadTo_112 (lv_at hl 3 rfl) ?_
    obtain ⟨hi114, h⟩ := if_s1 h
    refine a_I 67 hx hb hK hP hcb aln_67 hi114 dX10_leadTo_114 ?_
    refine lv_dup2_11 hx hb dX10_leadTo_115 rfl rfl ?_
    obtain ⟨hi116, h⟩ := if_s1 h
    refine a_I 63 hx hb hK hP hcb aln_63 hi116 dX10_leadTo_116 ?_
    refine lv_iconst (v := (1 : Int32)) hx hb dX10_leadTo_117 (by decide) ?_
    refine lv_iadd hx hb dX10_leadTo_118 ?_
    obtain ⟨hi119, h⟩ := if_s1 h
    obtain ⟨I119, eI119, h⟩ := lt_s1 h
    refine t_I 63 eI119 hx hb hK hP hS hcb aln_63 hi119 dX10_leadTo_119 (fun H locs hP hS => ?_)
    refine lv_iinc (v := (x5 + (1 : Int32))) (lv' := [(5, .int (x5 + (1 : Int32))), (0, .ref (bs + 44)), (1, .int x1), (3, .int x3)]) hx hb dX10_leadTo_120 hl (k := 3) rfl rfl (by decide) rfl (fun ls hl => ?_)
    refine lv_goto (tgt := 80) hx hb dX10_leadTo_123 (by decide) ?_
    exact hk80_ x1 x3 (x5 + (1 : Int32)) I119 J _ _ _ hP hS (lv_sub hl [1, 2, 3, 0] rfl) h
theorem vX10_leadTo_80 {p : Program} {l : Launch} {e : Env} {s : State} {m : MethodId} {args : Array Value} {below : List Frame} {meth : Method} {c : Code} (bs : Nat) (D : va_G) (y : Y3) (n : Nat) (r : M2) (Gc : Gx p s m args meth c cX10_leadTo 6 RX10 bs D y none 76)  : ∀ (q : Nat) (x1 : Int32) (x3 : Int32) (x5 : Int32) (I : MI) (J : MJ) (H : Heap) (locs : List Loc) (ls : Array Slot), va_P D vwCl (wl bs y I J) H → va_S (FA bs) s.heap H locs → lv_has ls 6 [(0, .ref (bs + 44)), (1, .int x1), (3, .int x3), (5, .int x5)] → lX10_leadTo_80 n  q x1 x3 x5 I J = some r → W p l e (rmm 3 68) s m args below meth c H locs 0 0 (QV below args s bs D y r) (F0 m 80 ls []) := by
  intro q
  induction q with
  | zero =>
    intro x1 x3 x5 I J H locs ls hP hS hl h
    have h : (none : Option (M2)) = some r := h
    cases h
  | succ q ih =>
    intro x1 x3 x5 I J H locs ls hP hS hl h
    have h : fX10_leadTo_80 n  (lX10_leadTo_80 n  q) x1 x3 x5 I J = some r := h
    exact wX10_leadTo_80 bs D y n  (lX10_leadTo_80 n  q) r Gc  ih x1 x3 x5 I J H locs ls hP hS hl h
set_option maxHeartbeats 4000000 in
set_option maxRecDepth 100000 in
theorem wX10_leadTo_72 {p : Program} {l : Launch} {e : Env} {s : State} {m : MethodId} {args : Array Value} {below : List Frame} {meth : Method} {c : Code} (bs : Nat) (D : va_G) (y : Y3) (n : Nat) (k9_ : Int32 → Int32 → Int32 → MI → MJ → Option (M2)) (r : M2) (Gc : Gx p s m args meth c cX10_leadTo 6 RX10 bs D y none 76) (hk9_ : ∀ (x1 : Int32) (x3 : Int32) (x4 : Int32) (I : MI) (J : MJ) (H : Heap) (locs : List Loc) (ls : Array Slot), va_P D vwCl (wl bs y I J) H → va_S (FA bs) s.heap H locs → lv_has ls 6 [(0, .ref (bs + 44)), (1, .int x1), (3, .int x3), (4, .int x4)] → k9_ x1 x3 x4 I J = some r → W p l e (rmm 3 68) s m args below meth c H locs 0 0 (QV below args s bs D y r) (F0 m 9 ls [])) (x1 : Int32) (x3 : Int32) (s0 : Int32) (I : MI) (J : MJ) (H : Heap) (locs : List Loc) (ls : Array Slot) (hP : va_P D vwCl (wl bs y I J) H) (hS : va_S (FA bs) s.heap H locs) (hl : lv_has ls 6 [(0, .ref (bs + 44)), (1, .int x1), (3, .int x3)]) (h : fX10_leadTo_72 n k9_ x1 x3 s0 I J = some r) : W p l e (rmm 3 68) s m args below meth c H locs 0 0 (QV below args s bs D y r) (F0 m 72 ls [.int s0]) := by
  obtain ⟨hx, hb, hml, hown, hts, hK, hN, hL, hr, hlocks, hcb⟩ := id Gc
  unfold fX10_leadTo_72 at h
  refine lv_istore (lv' := [(4, .int s0), (0, .ref (bs + 44)), (1, .int x1), (3, .int x3)]) hx hb dX10_leadTo_72 hl (by decide) rfl (fun ls hl => ?_)
  refine lv_goto (tgt := 9) hx hb dX10_leadTo_74 (by decide) ?_
  exact hk9_ x1 x3 s0 I J _ _ _ hP hS (lv_sub hl [1, 2, 3, 0] rfl) h
set_option maxHeartbeats 4000000 in
set_option maxRecDepth 100000 in
theorem wX10_leadTo_9 {p : Program} {l : Launch} {e : Env} {s : State} {m : MethodId} {args : Array Value} {below : List Frame} {meth : Method} {c : Code} (bs : Nat) (D : va_G) (y : Y3) (n : Nat) (k9_ : Int32 → Int32 → Int32 → MI → MJ → Option (M2)) (r : M2) (Gc : Gx p s m args meth c cX10_leadTo 6 RX10 bs D y none 76) (hk9_ : ∀ (x1 : Int32) (x3 : Int32) (x4 : Int32) (I : MI) (J : MJ) (H : Heap) (locs : List Loc) (ls : Array Slot), va_P D vwCl (wl bs y I J) H → va_S (FA bs) s.heap H locs → lv_has ls 6 [(0, .ref (bs + 44)), (1, .int x1), (3, .int x3), (4, .int x4)] → k9_ x1 x3 x4 I J = some r → W p l e (rmm 3 68) s m args below meth c H locs 0 0 (QV below args s bs D y r) (F0 m 9 ls [])) (x1 : Int32) (x3 : Int32) (x4 : Int32) (I : MI) (J : MJ) (H : Heap) (locs : List Loc) (ls : Array Slot) (hP : va_P D vwCl (wl bs y I J) H) (hS : va_S (FA bs) s.heap H locs) (hl : lv_has ls 6 [(0, .ref (bs + 44)), (1, .int x1), (3, .int x3), (4, .int x4)]) (h : fX10_leadTo_9 n k9_ x1 x3 x4 I J = some r) : W p l e (rmm 3 68) s m args below meth c H locs 0 0 (QV below args s bs D y r) (F0 m 9 ls []) := by
  obtain ⟨hx, hb, hml, hown, hts, hK, hN, hL, hr, hlocks, hcb⟩ := id Gc
  unfold fX10_leadTo_9 at h
  refine lv_aload_n hx hb dX10_leadTo_9 rfl (lv_at hl 0 rfl) ?_
  refine g_R (C := RX10) (T := TX10) (N := 49) (ci := 10) 44 34 66 hx hb hts hown hK hP in_X10 rfl hcb okF_44_34 rfc_44_34 fl_177 dX10_leadTo_10 ?_
  refine lv_iload hx hb dX10_leadTo_13 (lv_at hl 3 rfl) ?_
  obtain ⟨hi15, h⟩ := if_s1 h
  refine a_Z 66 hx hb hK hP hcb alZ_66 hi15 dX10_leadTo_15 ?_
  refine lv_if_ne (tgt := 77) hx hb dX10_leadTo_16 (by decide) (fun c16 => ?_) (fun c16 => ?_)
  · replace h := if_f c16 h
    refine lv_iconst (v := (0 : Int32)) hx hb dX10_leadTo_77 (by decide) ?_
    refine lv_istore (lv' := [(5, .int (0 : Int32)), (0, .ref (bs + 44)), (1, .int x1), (3, .int x3), (4, .int x4)]) hx hb dX10_leadTo_78 hl (by decide) rfl (fun ls hl => ?_)
    exact vX10_leadTo_80 bs D y n  r Gc  n x1 x3 (0 : Int32) I J _ _ _ hP hS (lv_sub hl [1, 2, 3, 0] rfl) h
  · replace h := if_t c16 h
    refine lv_aload_n hx hb dX10_leadTo_19 rfl (lv_at hl 0 rfl) ?_
    refine lv_iload hx hb dX10_leadTo_20 (lv_at hl 3 rfl) ?_
    obtain ⟨r22, er22, h⟩ := bd_s1 h
    refine c_VI (k := 44) (ci := 10) (As := [.int x4]) (rest := []) hx hb hml hown hts hK hN hL hP hS (cX10_backFrom_ l bs D y hcb n x4 I J r22 er22) ok_X10_backFrom ov_X10_backFrom ml_152 ⟨Nat.le_of_ble_eq_true rfl, Nat.le_of_ble_eq_true rfl⟩ rfl hcb kd_44 hl.1 rfl rfl (Nat.le_of_ble_eq_true rfl) ⟨Nat.zero_le _, Nat.zero_le _⟩ dX10_leadTo_22 (fun H locs hP hS => ?_)
    obtain ⟨v25, ev25, h⟩ := lt_s1 h
    refine top_i ev25 ?_
    refine lv_istore (lv' := [(5, .int v25), (0, .ref (bs + 44)), (1, .int x1), (3, .int x3), (4, .int x4)]) hx hb dX10_leadTo_25 hl (by decide) rfl (fun ls hl => ?_)
    refine lv_aload_n hx hb dX10_leadTo_27 rfl (lv_at hl 1 rfl) ?_
    refine g_R (C := RX10) (T := TX10) (N := 49) (ci := 10) 44 35 67 hx hb hts hown hK hP in_X10 rfl hcb okF_44_35 rfc_44_35 fl_179 dX10_leadTo_28 ?_
    refine lv_iload_n hx hb dX10_leadTo_31 rfl (lv_at hl 3 rfl) ?_
    refine lv_iload hx hb dX10_leadTo_32 (lv_at hl 0 rfl) ?_
    obtain ⟨hi34, h⟩ := if_s1 h
    obtain ⟨I34, eI34, h⟩ := lt_s1 h
    refine t_I 67 eI34 hx hb hK hP hS hcb aln_67 hi34 dX10_leadTo_34 (fun H locs hP hS => ?_)
    refine lv_iinc (v := (x3 + (1 : Int32))) (lv' := [(3, .int (x3 + (1 : Int32))), (5, .int v25), (0, .ref (bs + 44)), (1, .int x1), (4, .int x4)]) hx hb dX10_leadTo_35 hl (k := 3) rfl rfl (by decide) rfl (fun ls hl => ?_)
    refine lv_aload_n hx hb dX10_leadTo_38 rfl (lv_at hl 2 rfl) ?_
    refine g_R (C := RX10) (T := TX10) (N := 49) (ci := 10) 44 34 66 hx hb hts hown hK hP in_X10 rfl hcb okF_44_34 rfc_44_34 fl_177 dX10_leadTo_39 ?_
    refine lv_iload hx hb dX10_leadTo_42 (lv_at hl 4 rfl) ?_
    refine lv_iconst (v := (1 : Int32)) hx hb dX10_leadTo_44 (by decide) ?_
    obtain ⟨hi45, h⟩ := if_s1 h
    obtain ⟨I45, eI45, h⟩ := lt_s1 h
    refine t_Z 66 eI45 hx hb hK hP hS hcb alZ_66 hi45 dX10_leadTo_45 (fun H locs hP hS => ?_)
    refine lv_aload_n hx hb dX10_leadTo_46 rfl (lv_at hl 2 rfl) ?_
    refine lv_iload hx hb dX10_leadTo_47 (lv_at hl 1 rfl) ?_
    obtain ⟨r49, er49, h⟩ := bd_s1 h
    refine c_VI (k := 44) (ci := 10) (As := [.int v25]) (rest := []) hx hb hml hown hts hK hN hL hP hS (cX10_lesser_ l bs D y hcb n v25 I45 r22.2.2 r49 er49) ok_X10_lesser ov_X10_lesser ml_149 ⟨Nat.le_of_ble_eq_true rfl, Nat.le_of_ble_eq_true rfl⟩ rfl hcb kd_44 hl.1 rfl rfl (Nat.le_of_ble_eq_true rfl) ⟨Nat.zero_le _, Nat.zero_le _⟩ dX10_leadTo_49 (fun H locs hP hS => ?_)
    refine lv_iload hx hb dX10_leadTo_52 (lv_at hl 4 rfl) ?_
    refine lv_icmp_ne (tgt := 66) hx hb dX10_leadTo_54 (by decide) (fun c54 => ?_) (fun c54 => ?_)
    · replace h := if_f c54 h
      refine lv_aload_n hx hb dX10_leadTo_66 rfl (lv_at hl 2 rfl) ?_
      refine lv_iload hx hb dX10_leadTo_67 (lv_at hl 1 rfl) ?_
      obtain ⟨r69, er69, h⟩ := bd_s1 h
      refine c_VI (k := 44) (ci := 10) (As := [.int v25]) (rest := []) hx hb hml hown hts hK hN hL hP hS (cX10_lesser_ l bs D y hcb n v25 r49.2.1 r49.2.2 r69 er69) ok_X10_lesser ov_X10_lesser ml_149 ⟨Nat.le_of_ble_eq_true rfl, Nat.le_of_ble_eq_true rfl⟩ rfl hcb kd_44 hl.1 rfl rfl (Nat.le_of_ble_eq_true rfl) ⟨Nat.zero_le _, Nat.zero_le _⟩ dX10_leadTo_69 (fun H locs hP hS => ?_)
      exact wX10_leadTo_72 bs D y n k9_ r Gc hk9_ x1 (x3 + (1 : Int32)) r69.1 r69.2.1 r69.2.2 _ _ _ hP hS (lv_sub hl [2, 3, 0] rfl) h
    · replace h := if_t c54 h
      refine lv_aload_n hx hb dX10_leadTo_57 rfl (lv_at hl 2 rfl) ?_
      refine lv_iload hx hb dX10_leadTo_58 (lv_at hl 1 rfl) ?_
      obtain ⟨r60, er60, h⟩ := bd_s1 h
      refine c_VI (k := 44) (ci := 10) (As := [.int v25]) (rest := []) hx hb hml hown hts hK hN hL hP hS (cX10_greater_ l bs D y hcb n v25 r49.2.1 r49.2.2 r60 er60) ok_X10_greater ov_X10_greater ml_151 ⟨Nat.le_of_ble_eq_true rfl, Nat.le_of_ble_eq_true rfl⟩ rfl hcb kd_44 hl.1 rfl rfl (Nat.le_of_ble_eq_true rfl) ⟨Nat.zero_le _, Nat.zero_le _⟩ dX10_leadTo_60 (fun H locs hP hS => ?_)
      refine lv_goto (tgt := 72) hx hb dX10_leadTo_63 (by decide) ?_
      exact wX10_leadTo_72 bs D y n k9_ r Gc hk9_ x1 (x3 + (1 : Int32)) r60.1 r60.2.1 r60.2.2 _ _ _ hP hS (lv_sub hl [2, 3, 0] rfl) h
theorem vX10_leadTo_9 {p : Program} {l : Launch} {e : Env} {s : State} {m : MethodId} {args : Array Value} {below : List Frame} {meth : Method} {c : Code} (bs : Nat) (D : va_G) (y : Y3) (n : Nat) (r : M2) (Gc : Gx p s m args meth c cX10_leadTo 6 RX10 bs D y none 76)  : ∀ (q : Nat) (x1 : Int32) (x3 : Int32) (x4 : Int32) (I : MI) (J : MJ) (H : Heap) (locs : List Loc) (ls : Array Slot), va_P D vwCl (wl bs y I J) H → va_S (FA bs) s.heap H locs → lv_has ls 6 [(0, .ref (bs + 44)), (1, .int x1), (3, .int x3), (4, .int x4)] → lX10_leadTo_9 n  q x1 x3 x4 I J = some r → W p l e (rmm 3 68) s m args below meth c H locs 0 0 (QV below args s bs D y r) (F0 m 9 ls []) := by
  intro q
  induction q with
  | zero =>
    intro x1 x3 x4 I J H locs ls hP hS hl h
    have h : (none : Option (M2)) = some r := h
    cases h
  | succ q ih =>
    intro x1 x3 x4 I J H locs ls hP hS hl h
    have h : fX10_leadTo_9 n  (lX10_leadTo_9 n  q) x1 x3 x4 I J = some r := h
    exact wX10_leadTo_9 bs D y n  (lX10_leadTo_9 n  q) r Gc  ih x1 x3 x4 I J H locs ls hP hS hl h
set_option maxHeartbeats 4000000 in
set_option maxRecDepth 100000 in
theorem cX10_leadTo_ (l : Launch) (bs : Nat) (D : va_G) (y : Y3) (hcb : 76 ≤ y.2.2.2) (n : Nat) (x1 : Int32) (x2 : Int32) (I : MI) (J : MJ) (r : M2) (h : fX10_leadTo n x1 x2 I J = some r) : Met l yX10_leadTo (.code yX10_leadTo cX10_leadTo 6 none :: gtb) (rmm 3 68) (va_Pc [.ref (bs + 44), .int x1, .int x2] (HB bs D y I J)) (QcV bs D y r) 0 0 (FA bs) := by
  refine Met.ofW (cc := cX10_leadTo) (maxL := 6) (ret := none) (by decide) rfl ?_
  intro p e s m args below meth c s₁ B hml hv
  obtain ⟨rfl, hP, hK, hN, hL⟩ := hv
  have hx := B.exec
  have hb := B.bytes
  have hr := B.returns
  have hts0 := atoms_spec (ws := .code yX10_leadTo cX10_leadTo 6 none :: gtb) B.pre
  have hts : ∀ w ∈ gtb, w.before [.ref (bs + 44), .int x1, .int x2].toArray s = true := fun w hw => hts0 w (List.mem_cons_of_mem _ hw)
  have hown : s.vm.findClass RX10 = some m.cls := findClass_of_methodNamed B.named
  have hlocks := B.notSynchronized
  have hS : va_S (FA bs) s.heap s.heap [] := va_S.rf
  have Gc : Gx p s m [.ref (bs + 44), .int x1, .int x2].toArray meth c cX10_leadTo 6 RX10 bs D y none 76 := ⟨hx, hb, hml, hown, hts, hK, hN, hL, hr, hlocks, hcb⟩
  have hl := lv_entry [.ref (bs + 44), .int x1, .int x2] (n := 6) (Nat.le_of_ble_eq_true rfl)
  rw [lg_entry_eq]
  generalize (lg_sl [.ref (bs + 44), .int x1, .int x2] ++ List.replicate (6 - (lg_sl [.ref (bs + 44), .int x1, .int x2]).length) Slot.unset).toArray = ls at hl ⊢
  have hl : lv_has ls 6 [(0, .ref (bs + 44)), (1, .int x1), (2, .int x2)] := hl
  change W p l e (rmm 3 68) s m [.ref (bs + 44), .int x1, .int x2].toArray below meth c s.heap [] 0 0 (QV below [.ref (bs + 44), .int x1, .int x2].toArray s bs D y r) (F0 m 0 ls [])
  unfold fX10_leadTo at h
  refine lv_aload_n hx hb dX10_leadTo_0 rfl (lv_at hl 0 rfl) ?_
  obtain ⟨r1, er1, h⟩ := bd_s1 h
  refine c_VV (k := 44) (ci := 10) (As := []) (rest := []) hx hb hml hown hts hK hN hL hP hS (cX10_findFar_ l bs D y hcb n  I J r1 er1) ok_X10_findFar ov_X10_findFar ml_153 ⟨Nat.le_of_ble_eq_true rfl, Nat.le_of_ble_eq_true rfl⟩ rfl hcb kd_44 hl.1 rfl rfl (Nat.le_of_ble_eq_true rfl) ⟨Nat.zero_le _, Nat.zero_le _⟩ dX10_leadTo_1 (fun H locs hP hS => ?_)
  refine lv_iconst (v := (0 : Int32)) hx hb dX10_leadTo_4 (by decide) ?_
  refine lv_istore_n (lv' := [(3, .int (0 : Int32)), (0, .ref (bs + 44)), (1, .int x1), (2, .int x2)]) hx hb dX10_leadTo_5 rfl hl (by decide) rfl (fun ls hl => ?_)
  refine lv_iload_n hx hb dX10_leadTo_6 rfl (lv_at hl 3 rfl) ?_
  refine lv_istore (lv' := [(4, .int x2), (3, .int (0 : Int32)), (0, .ref (bs + 44)), (1, .int x1), (2, .int x2)]) hx hb dX10_leadTo_7 hl (by decide) rfl (fun ls hl => ?_)
  exact vX10_leadTo_9 bs D y n  r Gc  n x1 (0 : Int32) x2 r1.1 r1.2 _ _ _ hP hS (lv_sub hl [2, 3, 1, 0] rfl) h
theorem dX10_takeOff_0 : decode cX10_takeOff 0 = .ok (.iconst 0, 1) := by decide +kernel
theorem dX10_takeOff_1 : decode cX10_takeOff 1 = .ok (.istore_n 2, 1) := by decide +kernel
theorem dX10_takeOff_2 : decode cX10_takeOff 2 = .ok (.iload_n 2, 1) := by decide +kernel
theorem dX10_takeOff_3 : decode cX10_takeOff 3 = .ok (.bipush 60, 2) := by decide +kernel
theorem dX10_takeOff_5 : decode cX10_takeOff 5 = .ok (.if_icmp .ge 45, 3) := by decide +kernel
theorem dX10_takeOff_8 : decode cX10_takeOff 8 = .ok (.aload_n 0, 1) := by decide +kernel
theorem dX10_takeOff_9 : decode cX10_takeOff 9 = .ok (.getfield 75, 3) := by decide +kernel
theorem dX10_takeOff_12 : decode cX10_takeOff 12 = .ok (.bipush 60, 2) := by decide +kernel
theorem dX10_takeOff_14 : decode cX10_takeOff 14 = .ok (.iload_n 1, 1) := by decide +kernel
theorem dX10_takeOff_15 : decode cX10_takeOff 15 = .ok (.imul, 1) := by decide +kernel
theorem dX10_takeOff_16 : decode cX10_takeOff 16 = .ok (.iload_n 2, 1) := by decide +kernel
theorem dX10_takeOff_17 : decode cX10_takeOff 17 = .ok (.iadd, 1) := by decide +kernel
theorem dX10_takeOff_18 : decode cX10_takeOff 18 = .ok (.baload, 1) := by decide +kernel
theorem dX10_takeOff_19 : decode cX10_takeOff 19 = .ok (.ifCond .eq 13, 3) := by decide +kernel
theorem dX10_takeOff_22 : decode cX10_takeOff 22 = .ok (.aload_n 0, 1) := by decide +kernel
theorem dX10_takeOff_23 : decode cX10_takeOff 23 = .ok (.getfield 78, 3) := by decide +kernel
theorem dX10_takeOff_26 : decode cX10_takeOff 26 = .ok (.iload_n 2, 1) := by decide +kernel
theorem dX10_takeOff_27 : decode cX10_takeOff 27 = .ok (.dup2, 1) := by decide +kernel
theorem dX10_takeOff_28 : decode cX10_takeOff 28 = .ok (.iaload, 1) := by decide +kernel
theorem dX10_takeOff_29 : decode cX10_takeOff 29 = .ok (.iconst 1, 1) := by decide +kernel
theorem dX10_takeOff_30 : decode cX10_takeOff 30 = .ok (.isub, 1) := by decide +kernel
theorem dX10_takeOff_31 : decode cX10_takeOff 31 = .ok (.iastore, 1) := by decide +kernel
theorem dX10_takeOff_32 : decode cX10_takeOff 32 = .ok (.aload_n 0, 1) := by decide +kernel
theorem dX10_takeOff_33 : decode cX10_takeOff 33 = .ok (.getfield 75, 3) := by decide +kernel
theorem dX10_takeOff_36 : decode cX10_takeOff 36 = .ok (.bipush 60, 2) := by decide +kernel
theorem dX10_takeOff_38 : decode cX10_takeOff 38 = .ok (.iload_n 1, 1) := by decide +kernel
theorem dX10_takeOff_39 : decode cX10_takeOff 39 = .ok (.imul, 1) := by decide +kernel
theorem dX10_takeOff_40 : decode cX10_takeOff 40 = .ok (.iload_n 2, 1) := by decide +kernel
theorem dX10_takeOff_41 : decode cX10_takeOff 41 = .ok (.iadd, 1) := by decide +kernel
theorem dX10_takeOff_42 : decode cX10_takeOff 42 = .ok (.iconst 0, 1) := by decide +kernel
theorem dX10_takeOff_43 : decode cX10_takeOff 43 = .ok (.bastore, 1) := by decide +kernel
theorem dX10_takeOff_44 : decode cX10_takeOff 44 = .ok (.iinc 2 1, 3) := by decide +kernel
theorem dX10_takeOff_47 : decode cX10_takeOff 47 = .ok (.goto (-45), 3) := by decide +kernel
theorem dX10_takeOff_50 : decode cX10_takeOff 50 = .ok (.return_, 1) := by decide +kernel
set_option maxHeartbeats 4000000 in
set_option maxRecDepth 100000 in
theorem wX10_takeOff_32 {p : Program} {l : Launch} {e : Env} {s : State} {m : MethodId} {args : Array Value} {below : List Frame} {meth : Method} {c : Code} (bs : Nat) (D : va_G) (y : Y3) (n : Nat) (k2_ : Int32 → Int32 → MI → MJ → Option (M2)) (r : M2) (Gc : Gx p s m args meth c cX10_takeOff 3 RX10 bs D y none 76) (hk2_ : ∀ (x1 : Int32) (x2 : Int32) (I : MI) (J : MJ) (H : Heap) (locs : List Loc) (ls : Array Slot), va_P D vwCl (wl bs y I J) H → va_S (FA bs) s.heap H locs → lv_has ls 3 [(0, .ref (bs + 44)), (1, .int x1), (2, .int x2)] → k2_ x1 x2 I J = some r → W p l e (rmm 0 0) s m args below meth c H locs 0 0 (QV below args s bs D y r) (F0 m 2 ls [])) (x1 : Int32) (x2 : Int32) (I : MI) (J : MJ) (H : Heap) (locs : List Loc) (ls : Array Slot) (hP : va_P D vwCl (wl bs y I J) H) (hS : va_S (FA bs) s.heap H locs) (hl : lv_has ls 3 [(0, .ref (bs + 44)), (1, .int x1), (2, .int x2)]) (h : fX10_takeOff_32 n k2_ x1 x2 I J = some r) : W p l e (rmm 0 0) s m args below meth c H locs 0 0 (QV below args s bs D y r) (F0 m 32 ls []) := by
  obtain ⟨hx, hb, hml, hown, hts, hK, hN, hL, hr, hlocks, hcb⟩ := id Gc
  unfold fX10_takeOff_32 at h
  refine lv_aload_n hx hb dX10_takeOff_32 rfl (lv_at hl 0 rfl) ?_
  refine g_R (C := RX10) (T := TX10) (N := 49) (ci := 10) 44 30 62 hx hb hts hown hK hP in_X10 rfl hcb okF_44_30 rfc_44_30 fl_178 dX10_takeOff_33 ?_
  refine lv_bipush (v := (60 : Int32)) hx hb dX10_takeOff_36 (by decide) ?_
  refine lv_iload_n hx hb dX10_takeOff_38 rfl (lv_at hl 1 rfl) ?_
  refine lv_imul hx hb dX10_takeOff_39 ?_
  refine lv_iload_n hx hb dX10_takeOff_40 rfl (lv_at hl 2 rfl) ?_
  refine lv_iadd hx hb dX10_takeOff_41 ?_
  refine lv_iconst (v := (0 : Int32)) hx hb dX10_takeOff_42 (by decide) ?_
  obtain ⟨hi43, h⟩ := if_s1 h
  obtain ⟨I43, eI43, h⟩ := lt_s1 h
  refine t_Z 62 eI43 hx hb hK hP hS hcb alZ_62 hi43 dX10_takeOff_43 (fun H locs hP hS => ?_)
  refine lv_iinc (v := (x2 + (1 : Int32))) (lv' := [(2, .int (x2 + (1 : Int32))), (0, .ref (bs + 44)), (1, .int x1)]) hx hb dX10_takeOff_44 hl (k := 2) rfl rfl (by decide) rfl (fun ls hl => ?_)
  refine lv_goto (tgt := 2) hx hb dX10_takeOff_47 (by decide) ?_
  exact hk2_ x1 (x2 + (1 : Int32)) I43 J _ _ _ hP hS (lv_sub hl [1, 2, 0] rfl) h
set_option maxHeartbeats 4000000 in
set_option maxRecDepth 100000 in
theorem wX10_takeOff_2 {p : Program} {l : Launch} {e : Env} {s : State} {m : MethodId} {args : Array Value} {below : List Frame} {meth : Method} {c : Code} (bs : Nat) (D : va_G) (y : Y3) (n : Nat) (k2_ : Int32 → Int32 → MI → MJ → Option (M2)) (r : M2) (Gc : Gx p s m args meth c cX10_takeOff 3 RX10 bs D y none 76) (hk2_ : ∀ (x1 : Int32) (x2 : Int32) (I : MI) (J : MJ) (H : Heap) (locs : List Loc) (ls : Array Slot), va_P D vwCl (wl bs y I J) H → va_S (FA bs) s.heap H locs → lv_has ls 3 [(0, .ref (bs + 44)), (1, .int x1), (2, .int x2)] → k2_ x1 x2 I J = some r → W p l e (rmm 0 0) s m args below meth c H locs 0 0 (QV below args s bs D y r) (F0 m 2 ls [])) (x1 : Int32) (x2 : Int32) (I : MI) (J : MJ) (H : Heap) (locs : List Loc) (ls : Array Slot) (hP : va_P D vwCl (wl bs y I J) H) (hS : va_S (FA bs) s.heap H locs) (hl : lv_has ls 3 [(0, .ref (bs + 44)), (1, .int x1), (2, .int x2)]) (h : fX10_takeOff_2 n k2_ x1 x2 I J = some r) : W p l e (rmm 0 0) s m args below meth c H locs 0 0 (QV below args s bs D y r) (F0 m 2 ls []) := by
  obtain ⟨hx, hb, hml, hown, hts, hK, hN, hL, hr, hlocks, hcb⟩ := id Gc
  unfold fX10_takeOff_2 at h
  refine lv_iload_n hx hb dX10_takeOff_2 rfl (lv_at hl 2 rfl) ?_
  refine lv_bipush (v := (60 : Int32)) hx hb dX10_takeOff_3 (by decide) ?_
  refine lv_icmp_ge (tgt := 50) hx hb dX10_takeOff_5 (by decide) (fun c5 => ?_) (fun c5 => ?_)
  · replace h := if_t c5 h
    exact r_V hx hb hr hlocks hP hK hN hL hS h dX10_takeOff_50
  · replace h := if_f c5 h
    refine lv_aload_n hx hb dX10_takeOff_8 rfl (lv_at hl 0 rfl) ?_
    refine g_R (C := RX10) (T := TX10) (N := 49) (ci := 10) 44 30 62 hx hb hts hown hK hP in_X10 rfl hcb okF_44_30 rfc_44_30 fl_178 dX10_takeOff_9 ?_
    refine lv_bipush (v := (60 : Int32)) hx hb dX10_takeOff_12 (by decide) ?_
    refine lv_iload_n hx hb dX10_takeOff_14 rfl (lv_at hl 1 rfl) ?_
    refine lv_imul hx hb dX10_takeOff_15 ?_
    refine lv_iload_n hx hb dX10_takeOff_16 rfl (lv_at hl 2 rfl) ?_
    refine lv_iadd hx hb dX10_takeOff_17 ?_
    obtain ⟨hi18, h⟩ := if_s1 h
    refine a_Z 62 hx hb hK hP hcb alZ_62 hi18 dX10_takeOff_18 ?_
    refine lv_if_eq (tgt := 32) hx hb dX10_takeOff_19 (by decide) (fun c19 => ?_) (fun c19 => ?_)
    · replace h := if_t c19 h
      exact wX10_takeOff_32 bs D y n k2_ r Gc hk2_ x1 x2 I J _ _ _ hP hS (lv_sub hl [0, 1, 2] rfl) h
    · replace h := if_f c19 h
      refine lv_aload_n hx hb dX10_takeOff_22 rfl (lv_at hl 0 rfl) ?_
      refine g_R (C := RX10) (T := TX10) (N := 49) (ci := 10) 44 31 63 hx hb hts hown hK hP in_X10 rfl hcb okF_44_31 rfc_44_31 fl_174 dX10_takeOff_23 ?_
      refine lv_iload_n hx hb dX10_takeOff_26 rfl (lv_at hl 2 rfl) ?_
      refine lv_dup2_11 hx hb dX10_takeOff_27 rfl rfl ?_
      obtain ⟨hi28, h⟩ := if_s1 h
      refine a_I 63 hx hb hK hP hcb aln_63 hi28 dX10_takeOff_28 ?_
      refine lv_iconst (v := (1 : Int32)) hx hb dX10_takeOff_29 (by decide) ?_
      refine lv_isub hx hb dX10_takeOff_30 ?_
      obtain ⟨hi31, h⟩ := if_s1 h
      obtain ⟨I31, eI31, h⟩ := lt_s1 h
      refine t_I 63 eI31 hx hb hK hP hS hcb aln_63 hi31 dX10_takeOff_31 (fun H locs hP hS => ?_)
      exact wX10_takeOff_32 bs D y n k2_ r Gc hk2_ x1 x2 I31 J _ _ _ hP hS (lv_sub hl [0, 1, 2] rfl) h
theorem vX10_takeOff_2 {p : Program} {l : Launch} {e : Env} {s : State} {m : MethodId} {args : Array Value} {below : List Frame} {meth : Method} {c : Code} (bs : Nat) (D : va_G) (y : Y3) (n : Nat) (r : M2) (Gc : Gx p s m args meth c cX10_takeOff 3 RX10 bs D y none 76)  : ∀ (q : Nat) (x1 : Int32) (x2 : Int32) (I : MI) (J : MJ) (H : Heap) (locs : List Loc) (ls : Array Slot), va_P D vwCl (wl bs y I J) H → va_S (FA bs) s.heap H locs → lv_has ls 3 [(0, .ref (bs + 44)), (1, .int x1), (2, .int x2)] → lX10_takeOff_2 n  q x1 x2 I J = some r → W p l e (rmm 0 0) s m args below meth c H locs 0 0 (QV below args s bs D y r) (F0 m 2 ls []) := by
  intro q
  induction q with
  | zero =>
    intro x1 x2 I J H locs ls hP hS hl h
    have h : (none : Option (M2)) = some r := h
    cases h
  | succ q ih =>
    intro x1 x2 I J H locs ls hP hS hl h
    have h : fX10_takeOff_2 n  (lX10_takeOff_2 n  q) x1 x2 I J = some r := h
    exact wX10_takeOff_2 bs D y n  (lX10_takeOff_2 n  q) r Gc  ih x1 x2 I J H locs ls hP hS hl h
set_option maxHeartbeats 4000000 in
set_option maxRecDepth 100000 in
theorem cX10_takeOff_ (l : Launch) (bs : Nat) (D : va_G) (y : Y3) (hcb : 76 ≤ y.2.2.2) (n : Nat) (x1 : Int32) (I : MI) (J : MJ) (r : M2) (h : fX10_takeOff n x1 I J = some r) : Met l yX10_takeOff (.code yX10_takeOff cX10_takeOff 3 none :: gtb) (rmm 0 0) (va_Pc [.ref (bs + 44), .int x1] (HB bs D y I J)) (QcV bs D y r) 0 0 (FA bs) := by
  refine Met.ofW (cc := cX10_takeOff) (maxL := 3) (ret := none) (by decide) rfl ?_
  intro p e s m args below meth c s₁ B hml hv
  obtain ⟨rfl, hP, hK, hN, hL⟩ := hv
  have hx := B.exec
  have hb := B.bytes
  have hr := B.returns
  have hts0 := atoms_spec (ws := .code yX10_takeOff cX10_takeOff 3 none :: gtb) B.pre
  have hts : ∀ w ∈ gtb, w.before [.ref (bs + 44), .int x1].toArray s = true := fun w hw => hts0 w (List.mem_cons_of_mem _ hw)
  have hown : s.vm.findClass RX10 = some m.cls := findClass_of_methodNamed B.named
  have hlocks := B.notSynchronized
  have hS : va_S (FA bs) s.heap s.heap [] := va_S.rf
  have Gc : Gx p s m [.ref (bs + 44), .int x1].toArray meth c cX10_takeOff 3 RX10 bs D y none 76 := ⟨hx, hb, hml, hown, hts, hK, hN, hL, hr, hlocks, hcb⟩
  have hl := lv_entry [.ref (bs + 44), .int x1] (n := 3) (Nat.le_of_ble_eq_true rfl)
  rw [lg_entry_eq]
  generalize (lg_sl [.ref (bs + 44), .int x1] ++ List.replicate (3 - (lg_sl [.ref (bs + 44), .int x1]).length) Slot.unset).toArray = ls at hl ⊢
  have hl : lv_has ls 3 [(0, .ref (bs + 44)), (1, .int x1)] := hl
  change W p l e (rmm 0 0) s m [.ref (bs + 44), .int x1].toArray below meth c s.heap [] 0 0 (QV below [.ref (bs + 44), .int x1].toArray s bs D y r) (F0 m 0 ls [])
  unfold fX10_takeOff at h
  refine lv_iconst (v := (0 : Int32)) hx hb dX10_takeOff_0 (by decide) ?_
  refine lv_istore_n (lv' := [(2, .int (0 : Int32)), (0, .ref (bs + 44)), (1, .int x1)]) hx hb dX10_takeOff_1 rfl hl (by decide) rfl (fun ls hl => ?_)
  exact vX10_takeOff_2 bs D y n  r Gc  n x1 (0 : Int32) I J _ _ _ hP hS (lv_sub hl [1, 2, 0] rfl) h
theorem dX10_leadWire_0 : decode cX10_leadWire 0 = .ok (.aload_n 0, 1) := by decide +kernel
theorem dX10_leadWire_1 : decode cX10_leadWire 1 = .ok (.iload_n 1, 1) := by decide +kernel
theorem dX10_leadWire_2 : decode cX10_leadWire 2 = .ok (.invokevirtual 267, 3) := by decide +kernel
theorem dX10_leadWire_5 : decode cX10_leadWire 5 = .ok (.lstore_n 2, 1) := by decide +kernel
theorem dX10_leadWire_6 : decode cX10_leadWire 6 = .ok (.aload_n 0, 1) := by decide +kernel
theorem dX10_leadWire_7 : decode cX10_leadWire 7 = .ok (.iload_n 1, 1) := by decide +kernel
theorem dX10_leadWire_8 : decode cX10_leadWire 8 = .ok (.invokevirtual 294, 3) := by decide +kernel
theorem dX10_leadWire_11 : decode cX10_leadWire 11 = .ok (.iconst 0, 1) := by decide +kernel
theorem dX10_leadWire_12 : decode cX10_leadWire 12 = .ok (.istore 4, 2) := by decide +kernel
theorem dX10_leadWire_14 : decode cX10_leadWire 14 = .ok (.iload 4, 2) := by decide +kernel
theorem dX10_leadWire_16 : decode cX10_leadWire 16 = .ok (.aload_n 0, 1) := by decide +kernel
theorem dX10_leadWire_17 : decode cX10_leadWire 17 = .ok (.invokevirtual 216, 3) := by decide +kernel
theorem dX10_leadWire_20 : decode cX10_leadWire 20 = .ok (.if_icmp .ge 32, 3) := by decide +kernel
theorem dX10_leadWire_23 : decode cX10_leadWire 23 = .ok (.aload_n 0, 1) := by decide +kernel
theorem dX10_leadWire_24 : decode cX10_leadWire 24 = .ok (.getfield 87, 3) := by decide +kernel
theorem dX10_leadWire_27 : decode cX10_leadWire 27 = .ok (.iload 4, 2) := by decide +kernel
theorem dX10_leadWire_29 : decode cX10_leadWire 29 = .ok (.iload 4, 2) := by decide +kernel
theorem dX10_leadWire_31 : decode cX10_leadWire 31 = .ok (.aload_n 0, 1) := by decide +kernel
theorem dX10_leadWire_32 : decode cX10_leadWire 32 = .ok (.getfield 72, 3) := by decide +kernel
theorem dX10_leadWire_35 : decode cX10_leadWire 35 = .ok (.iload_n 1, 1) := by decide +kernel
theorem dX10_leadWire_36 : decode cX10_leadWire 36 = .ok (.iaload, 1) := by decide +kernel
theorem dX10_leadWire_37 : decode cX10_leadWire 37 = .ok (.if_icmp .ne 7, 3) := by decide +kernel
theorem dX10_leadWire_40 : decode cX10_leadWire 40 = .ok (.iconst 1, 1) := by decide +kernel
theorem dX10_leadWire_41 : decode cX10_leadWire 41 = .ok (.goto 4, 3) := by decide +kernel
theorem dX10_leadWire_44 : decode cX10_leadWire 44 = .ok (.iconst 0, 1) := by decide +kernel
theorem dX10_leadWire_45 : decode cX10_leadWire 45 = .ok (.bastore, 1) := by decide +kernel
theorem dX10_leadWire_46 : decode cX10_leadWire 46 = .ok (.iinc 4 1, 3) := by decide +kernel
theorem dX10_leadWire_49 : decode cX10_leadWire 49 = .ok (.goto (-35), 3) := by decide +kernel
theorem dX10_leadWire_52 : decode cX10_leadWire 52 = .ok (.iconst 0, 1) := by decide +kernel
theorem dX10_leadWire_53 : decode cX10_leadWire 53 = .ok (.istore 4, 2) := by decide +kernel
theorem dX10_leadWire_55 : decode cX10_leadWire 55 = .ok (.iload 4, 2) := by decide +kernel
theorem dX10_leadWire_57 : decode cX10_leadWire 57 = .ok (.aload_n 0, 1) := by decide +kernel
theorem dX10_leadWire_58 : decode cX10_leadWire 58 = .ok (.invokevirtual 216, 3) := by decide +kernel
theorem dX10_leadWire_61 : decode cX10_leadWire 61 = .ok (.if_icmp .ge 37, 3) := by decide +kernel
theorem dX10_leadWire_64 : decode cX10_leadWire 64 = .ok (.lload_n 2, 1) := by decide +kernel
theorem dX10_leadWire_65 : decode cX10_leadWire 65 = .ok (.iload 4, 2) := by decide +kernel
theorem dX10_leadWire_67 : decode cX10_leadWire 67 = .ok (.lshr, 1) := by decide +kernel
theorem dX10_leadWire_68 : decode cX10_leadWire 68 = .ok (.lconst 1, 1) := by decide +kernel
theorem dX10_leadWire_69 : decode cX10_leadWire 69 = .ok (.land, 1) := by decide +kernel
theorem dX10_leadWire_70 : decode cX10_leadWire 70 = .ok (.lconst 1, 1) := by decide +kernel
theorem dX10_leadWire_71 : decode cX10_leadWire 71 = .ok (.lcmp, 1) := by decide +kernel
theorem dX10_leadWire_72 : decode cX10_leadWire 72 = .ok (.ifCond .ne 20, 3) := by decide +kernel
theorem dX10_leadWire_75 : decode cX10_leadWire 75 = .ok (.aload_n 0, 1) := by decide +kernel
theorem dX10_leadWire_76 : decode cX10_leadWire 76 = .ok (.getfield 87, 3) := by decide +kernel
theorem dX10_leadWire_79 : decode cX10_leadWire 79 = .ok (.iload 4, 2) := by decide +kernel
theorem dX10_leadWire_81 : decode cX10_leadWire 81 = .ok (.baload, 1) := by decide +kernel
theorem dX10_leadWire_82 : decode cX10_leadWire 82 = .ok (.ifCond .ne 10, 3) := by decide +kernel
theorem dX10_leadWire_85 : decode cX10_leadWire 85 = .ok (.aload_n 0, 1) := by decide +kernel
theorem dX10_leadWire_86 : decode cX10_leadWire 86 = .ok (.iload_n 1, 1) := by decide +kernel
theorem dX10_leadWire_87 : decode cX10_leadWire 87 = .ok (.iload 4, 2) := by decide +kernel
theorem dX10_leadWire_89 : decode cX10_leadWire 89 = .ok (.invokevirtual 297, 3) := by decide +kernel
theorem dX10_leadWire_92 : decode cX10_leadWire 92 = .ok (.iinc 4 1, 3) := by decide +kernel
theorem dX10_leadWire_95 : decode cX10_leadWire 95 = .ok (.goto (-40), 3) := by decide +kernel
theorem dX10_leadWire_98 : decode cX10_leadWire 98 = .ok (.return_, 1) := by decide +kernel
set_option maxHeartbeats 4000000 in
set_option maxRecDepth 100000 in
theorem wX10_leadWire_92 {p : Program} {l : Launch} {e : Env} {s : State} {m : MethodId} {args : Array Value} {below : List Frame} {meth : Method} {c : Code} (bs : Nat) (D : va_G) (y : Y3) (n : Nat) (k55_ : Int32 → Int64 → Int32 → MI → MJ → Option (M2)) (r : M2) (Gc : Gx p s m args meth c cX10_leadWire 5 RX10 bs D y none 76) (hk55_ : ∀ (x1 : Int32) (x2 : Int64) (x4 : Int32) (I : MI) (J : MJ) (H : Heap) (locs : List Loc) (ls : Array Slot), va_P D vwCl (wl bs y I J) H → va_S (FA bs) s.heap H locs → lv_has ls 5 [(0, .ref (bs + 44)), (1, .int x1), (2, .long x2), (4, .int x4)] → k55_ x1 x2 x4 I J = some r → W p l e (rmm 4 93) s m args below meth c H locs 0 0 (QV below args s bs D y r) (F0 m 55 ls [])) (x1 : Int32) (x2 : Int64) (x4 : Int32) (I : MI) (J : MJ) (H : Heap) (locs : List Loc) (ls : Array Slot) (hP : va_P D vwCl (wl bs y I J) H) (hS : va_S (FA bs) s.heap H locs) (hl : lv_has ls 5 [(0, .ref (bs + 44)), (1, .int x1), (2, .long x2), (4, .int x4)]) (h : fX10_leadWire_92 n k55_ x1 x2 x4 I J = some r) : W p l e (rmm 4 93) s m args below meth c H locs 0 0 (QV below args s bs D y r) (F0 m 92 ls []) := by
  obtain ⟨hx, hb, hml, hown, hts, hK, hN, hL, hr, hlocks, hcb⟩ := id Gc
  unfold fX10_leadWire_92 at h
  refine lv_iinc (v := (x4 + (1 : Int32))) (lv' := [(4, .int (x4 + (1 : Int32))), (0, .ref (bs + 44)), (1, .int x1), (2, .long x2)]) hx hb dX10_leadWire_92 hl (k := 3) rfl rfl (by decide) rfl (fun ls hl => ?_)
  refine lv_goto (tgt := 55) hx hb dX10_leadWire_95 (by decide) ?_
  exact hk55_ x1 x2 (x4 + (1 : Int32)) I J _ _ _ hP hS (lv_sub hl [1, 2, 3, 0] rfl) h
set_option maxHeartbeats 4000000 in
set_option maxRecDepth 100000 in
theorem wX10_leadWire_55 {p : Program} {l : Launch} {e : Env} {s : State} {m : MethodId} {args : Array Value} {below : List Frame} {meth : Method} {c : Code} (bs : Nat) (D : va_G) (y : Y3) (n : Nat) (k55_ : Int32 → Int64 → Int32 → MI → MJ → Option (M2)) (r : M2) (Gc : Gx p s m args meth c cX10_leadWire 5 RX10 bs D y none 76) (hk55_ : ∀ (x1 : Int32) (x2 : Int64) (x4 : Int32) (I : MI) (J : MJ) (H : Heap) (locs : List Loc) (ls : Array Slot), va_P D vwCl (wl bs y I J) H → va_S (FA bs) s.heap H locs → lv_has ls 5 [(0, .ref (bs + 44)), (1, .int x1), (2, .long x2), (4, .int x4)] → k55_ x1 x2 x4 I J = some r → W p l e (rmm 4 93) s m args below meth c H locs 0 0 (QV below args s bs D y r) (F0 m 55 ls [])) (x1 : Int32) (x2 : Int64) (x4 : Int32) (I : MI) (J : MJ) (H : Heap) (locs : List Loc) (ls : Array Slot) (hP : va_P D vwCl (wl bs y I J) H) (hS : va_S (FA bs) s.heap H locs) (hl : lv_has ls 5 [(0, .ref (bs + 44)), (1, .int x1), (2, .long x2), (4, .int x4)]) (h : fX10_leadWire_55 n k55_ x1 x2 x4 I J = some r) : W p l e (rmm 4 93) s m args below meth c H locs 0 0 (QV below args s bs D y r) (F0 m 55 ls []) := by
  obtain ⟨hx, hb, hml, hown, hts, hK, hN, hL, hr, hlocks, hcb⟩ := id Gc
  unfold fX10_leadWire_55 at h
  refine lv_iload hx hb dX10_leadWire_55 (lv_at hl 3 rfl) ?_
  refine lv_aload_n hx hb dX10_leadWire_57 rfl (lv_at hl 0 rfl) ?_
  obtain ⟨r58, er58, h⟩ := bd_s1 h
  refine c_VI (k := 44) (ci := 10) (As := []) (rest := [.int x4]) hx hb hml hown hts hK hN hL hP hS (cX10_tiles_ l bs D y hcb n  I J r58 er58) ok_X10_tiles ov_X10_tiles ml_132 ⟨Nat.le_of_ble_eq_true rfl, Nat.le_of_ble_eq_true rfl⟩ rfl hcb kd_44 hl.1 rfl rfl (Nat.le_of_ble_eq_true rfl) ⟨Nat.zero_le _, Nat.zero_le _⟩ dX10_leadWire_58 (fun H locs hP hS => ?_)
  refine lv_icmp_ge (tgt := 98) hx hb dX10_leadWire_61 (by decide) (fun c61 => ?_) (fun c61 => ?_)
  · replace h := if_t c61 h
    exact r_V hx hb hr hlocks hP hK hN hL hS h dX10_leadWire_98
  · replace h := if_f c61 h
    refine lv_lload_n hx hb dX10_leadWire_64 rfl (lv_at hl 2 rfl) ?_
    refine lv_iload hx hb dX10_leadWire_65 (lv_at hl 3 rfl) ?_
    refine lv_lshr (v := (shrL x2 x4)) hx hb dX10_leadWire_67 rfl ?_
    refine lv_lconst (v := (1 : Int64)) hx hb dX10_leadWire_68 (by decide) ?_
    refine lv_land hx hb dX10_leadWire_69 ?_
    refine lv_lconst (v := (1 : Int64)) hx hb dX10_leadWire_70 (by decide) ?_
    refine W.lcmp hx hb dX10_leadWire_71 ?_
    refine lv_if_ne (tgt := 92) hx hb dX10_leadWire_72 (by decide) (fun c72 => ?_) (fun c72 => ?_)
    · replace h := if_f c72 h
      exact wX10_leadWire_92 bs D y n k55_ r Gc hk55_ x1 x2 x4 r58.2.1 r58.2.2 _ _ _ hP hS (lv_sub hl [0, 1, 2, 3] rfl) h
    · replace h := if_t c72 h
      refine lv_aload_n hx hb dX10_leadWire_75 rfl (lv_at hl 0 rfl) ?_
      refine g_R (C := RX10) (T := TX10) (N := 49) (ci := 10) 44 34 66 hx hb hts hown hK hP in_X10 rfl hcb okF_44_34 rfc_44_34 fl_177 dX10_leadWire_76 ?_
      refine lv_iload hx hb dX10_leadWire_79 (lv_at hl 3 rfl) ?_
      obtain ⟨hi81, h⟩ := if_s1 h
      refine a_Z 66 hx hb hK hP hcb alZ_66 hi81 dX10_leadWire_81 ?_
      refine lv_if_ne (tgt := 92) hx hb dX10_leadWire_82 (by decide) (fun c82 => ?_) (fun c82 => ?_)
      · replace h := if_f c82 h
        exact wX10_leadWire_92 bs D y n k55_ r Gc hk55_ x1 x2 x4 r58.2.1 r58.2.2 _ _ _ hP hS (lv_sub hl [0, 1, 2, 3] rfl) h
      · replace h := if_t c82 h
        refine lv_aload_n hx hb dX10_leadWire_85 rfl (lv_at hl 0 rfl) ?_
        refine lv_iload_n hx hb dX10_leadWire_86 rfl (lv_at hl 1 rfl) ?_
        refine lv_iload hx hb dX10_leadWire_87 (lv_at hl 3 rfl) ?_
        obtain ⟨r89, er89, h⟩ := bd_s1 h
        refine c_VV (k := 44) (ci := 10) (As := [.int x1, .int x4]) (rest := []) hx hb hml hown hts hK hN hL hP hS (cX10_leadTo_ l bs D y hcb n x1 x4 r58.2.1 r58.2.2 r89 er89) ok_X10_leadTo ov_X10_leadTo ml_154 ⟨Nat.le_of_ble_eq_true rfl, Nat.le_of_ble_eq_true rfl⟩ rfl hcb kd_44 hl.1 rfl rfl (Nat.le_of_ble_eq_true rfl) ⟨Nat.zero_le _, Nat.zero_le _⟩ dX10_leadWire_89 (fun H locs hP hS => ?_)
        exact wX10_leadWire_92 bs D y n k55_ r Gc hk55_ x1 x2 x4 r89.1 r89.2 _ _ _ hP hS (lv_sub hl [0, 1, 2, 3] rfl) h
theorem vX10_leadWire_55 {p : Program} {l : Launch} {e : Env} {s : State} {m : MethodId} {args : Array Value} {below : List Frame} {meth : Method} {c : Code} (bs : Nat) (D : va_G) (y : Y3) (n : Nat) (r : M2) (Gc : Gx p s m args meth c cX10_leadWire 5 RX10 bs D y none 76)  : ∀ (q : Nat) (x1 : Int32) (x2 : Int64) (x4 : Int32) (I : MI) (J : MJ) (H : Heap) (locs : List Loc) (ls : Array Slot), va_P D vwCl (wl bs y I J) H → va_S (FA bs) s.heap H locs → lv_has ls 5 [(0, .ref (bs + 44)), (1, .int x1), (2, .long x2), (4, .int x4)] → lX10_leadWire_55 n  q x1 x2 x4 I J = some r → W p l e (rmm 4 93) s m args below meth c H locs 0 0 (QV below args s bs D y r) (F0 m 55 ls []) := by
  intro q
  induction q with
  | zero =>
    intro x1 x2 x4 I J H locs ls hP hS hl h
    have h : (none : Option (M2)) = some r := h
    cases h
  | succ q ih =>
    intro x1 x2 x4 I J H locs ls hP hS hl h
    have h : fX10_leadWire_55 n  (lX10_leadWire_55 n  q) x1 x2 x4 I J = some r := h
    exact wX10_leadWire_55 bs D y n  (lX10_leadWire_55 n  q) r Gc  ih x1 x2 x4 I J H locs ls hP hS hl h
set_option maxHeartbeats 4000000 in
set_option maxRecDepth 100000 in
theorem wX10_leadWire_45 {p : Program} {l : Launch} {e : Env} {s : State} {m : MethodId} {args : Array Value} {below : List Frame} {meth : Method} {c : Code} (bs : Nat) (D : va_G) (y : Y3) (n : Nat) (k14_ : Int32 → Int64 → Int32 → MI → MJ → Option (M2)) (r : M2) (Gc : Gx p s m args meth c cX10_leadWire 5 RX10 bs D y none 76) (hk14_ : ∀ (x1 : Int32) (x2 : Int64) (x4 : Int32) (I : MI) (J : MJ) (H : Heap) (locs : List Loc) (ls : Array Slot), va_P D vwCl (wl bs y I J) H → va_S (FA bs) s.heap H locs → lv_has ls 5 [(0, .ref (bs + 44)), (1, .int x1), (2, .long x2), (4, .int x4)] → k14_ x1 x2 x4 I J = some r → W p l e (rmm 4 93) s m args below meth c H locs 0 0 (QV below args s bs D y r) (F0 m 14 ls [])) (x1 : Int32) (x2 : Int64) (x4 : Int32) (s1 : Int32) (s2 : Int32) (I : MI) (J : MJ) (H : Heap) (locs : List Loc) (ls : Array Slot) (hP : va_P D vwCl (wl bs y I J) H) (hS : va_S (FA bs) s.heap H locs) (hl : lv_has ls 5 [(0, .ref (bs + 44)), (1, .int x1), (2, .long x2), (4, .int x4)]) (h : fX10_leadWire_45 n k14_ x1 x2 x4 s1 s2 I J = some r) : W p l e (rmm 4 93) s m args below meth c H locs 0 0 (QV below args s bs D y r) (F0 m 45 ls [.int s2, .int s1, .ref (bs + 66)]) := by
  obtain ⟨hx, hb, hml, hown, hts, hK, hN, hL, hr, hlocks, hcb⟩ := id Gc
  unfold fX10_leadWire_45 at h
  obtain ⟨hi45, h⟩ := if_s1 h
  obtain ⟨I45, eI45, h⟩ := lt_s1 h
  refine t_Z 66 eI45 hx hb hK hP hS hcb alZ_66 hi45 dX10_leadWire_45 (fun H locs hP hS => ?_)
  refine lv_iinc (v := (x4 + (1 : Int32))) (lv' := [(4, .int (x4 + (1 : Int32))), (0, .ref (bs + 44)), (1, .int x1), (2, .long x2)]) hx hb dX10_leadWire_46 hl (k := 3) rfl rfl (by decide) rfl (fun ls hl => ?_)
  refine lv_goto (tgt := 14) hx hb dX10_leadWire_49 (by decide) ?_
  exact hk14_ x1 x2 (x4 + (1 : Int32)) I45 J _ _ _ hP hS (lv_sub hl [1, 2, 3, 0] rfl) h
set_option maxHeartbeats 4000000 in
set_option maxRecDepth 100000 in
theorem wX10_leadWire_14 {p : Program} {l : Launch} {e : Env} {s : State} {m : MethodId} {args : Array Value} {below : List Frame} {meth : Method} {c : Code} (bs : Nat) (D : va_G) (y : Y3) (n : Nat) (k14_ : Int32 → Int64 → Int32 → MI → MJ → Option (M2)) (r : M2) (Gc : Gx p s m args meth c cX10_leadWire 5 RX10 bs D y none 76) (hk14_ : ∀ (x1 : Int32) (x2 : Int64) (x4 : Int32) (I : MI) (J : MJ) (H : Heap) (locs : List Loc) (ls : Array Slot), va_P D vwCl (wl bs y I J) H → va_S (FA bs) s.heap H locs → lv_has ls 5 [(0, .ref (bs + 44)), (1, .int x1), (2, .long x2), (4, .int x4)] → k14_ x1 x2 x4 I J = some r → W p l e (rmm 4 93) s m args below meth c H locs 0 0 (QV below args s bs D y r) (F0 m 14 ls [])) (x1 : Int32) (x2 : Int64) (x4 : Int32) (I : MI) (J : MJ) (H : Heap) (locs : List Loc) (ls : Array Slot) (hP : va_P D vwCl (wl bs y I J) H) (hS : va_S (FA bs) s.heap H locs) (hl : lv_has ls 5 [(0, .ref (bs + 44)), (1, .int x1), (2, .long x2), (4, .int x4)]) (h : fX10_leadWire_14 n k14_ x1 x2 x4 I J = some r) : W p l e (rmm 4 93) s m args below meth c H locs 0 0 (QV below args s bs D y r) (F0 m 14 ls []) := by
  obtain ⟨hx, hb, hml, hown, hts, hK, hN, hL, hr, hlocks, hcb⟩ := id Gc
  unfold fX10_leadWire_14 at h
  refine lv_iload hx hb dX10_leadWire_14 (lv_at hl 3 rfl) ?_
  refine lv_aload_n hx hb dX10_leadWire_16 rfl (lv_at hl 0 rfl) ?_
  obtain ⟨r17, er17, h⟩ := bd_s1 h
  refine c_VI (k := 44) (ci := 10) (As := []) (rest := [.int x4]) hx hb hml hown hts hK hN hL hP hS (cX10_tiles_ l bs D y hcb n  I J r17 er17) ok_X10_tiles ov_X10_tiles ml_132 ⟨Nat.le_of_ble_eq_true rfl, Nat.le_of_ble_eq_true rfl⟩ rfl hcb kd_44 hl.1 rfl rfl (Nat.le_of_ble_eq_true rfl) ⟨Nat.zero_le _, Nat.zero_le _⟩ dX10_leadWire_17 (fun H locs hP hS => ?_)
  refine lv_icmp_ge (tgt := 52) hx hb dX10_leadWire_20 (by decide) (fun c20 => ?_) (fun c20 => ?_)
  · replace h := if_t c20 h
    refine lv_iconst (v := (0 : Int32)) hx hb dX10_leadWire_52 (by decide) ?_
    refine lv_istore (lv' := [(4, .int (0 : Int32)), (0, .ref (bs + 44)), (1, .int x1), (2, .long x2)]) hx hb dX10_leadWire_53 hl (by decide) rfl (fun ls hl => ?_)
    exact vX10_leadWire_55 bs D y n  r Gc  n x1 x2 (0 : Int32) r17.2.1 r17.2.2 _ _ _ hP hS (lv_sub hl [1, 2, 3, 0] rfl) h
  · replace h := if_f c20 h
    refine lv_aload_n hx hb dX10_leadWire_23 rfl (lv_at hl 0 rfl) ?_
    refine g_R (C := RX10) (T := TX10) (N := 49) (ci := 10) 44 34 66 hx hb hts hown hK hP in_X10 rfl hcb okF_44_34 rfc_44_34 fl_177 dX10_leadWire_24 ?_
    refine lv_iload hx hb dX10_leadWire_27 (lv_at hl 3 rfl) ?_
    refine lv_iload hx hb dX10_leadWire_29 (lv_at hl 3 rfl) ?_
    refine lv_aload_n hx hb dX10_leadWire_31 rfl (lv_at hl 0 rfl) ?_
    refine g_R (C := RX10) (T := TX10) (N := 49) (ci := 10) 44 29 61 hx hb hts hown hK hP in_X10 rfl hcb okF_44_29 rfc_44_29 fl_173 dX10_leadWire_32 ?_
    refine lv_iload_n hx hb dX10_leadWire_35 rfl (lv_at hl 1 rfl) ?_
    obtain ⟨hi36, h⟩ := if_s1 h
    refine a_I 61 hx hb hK hP hcb aln_61 hi36 dX10_leadWire_36 ?_
    refine lv_icmp_ne (tgt := 44) hx hb dX10_leadWire_37 (by decide) (fun c37 => ?_) (fun c37 => ?_)
    · replace h := if_f c37 h
      refine lv_iconst (v := (0 : Int32)) hx hb dX10_leadWire_44 (by decide) ?_
      exact wX10_leadWire_45 bs D y n k14_ r Gc hk14_ x1 x2 x4 x4 (0 : Int32) r17.2.1 r17.2.2 _ _ _ hP hS (lv_sub hl [0, 1, 2, 3] rfl) h
    · replace h := if_t c37 h
      refine lv_iconst (v := (1 : Int32)) hx hb dX10_leadWire_40 (by decide) ?_
      refine lv_goto (tgt := 45) hx hb dX10_leadWire_41 (by decide) ?_
      exact wX10_leadWire_45 bs D y n k14_ r Gc hk14_ x1 x2 x4 x4 (1 : Int32) r17.2.1 r17.2.2 _ _ _ hP hS (lv_sub hl [0, 1, 2, 3] rfl) h
theorem vX10_leadWire_14 {p : Program} {l : Launch} {e : Env} {s : State} {m : MethodId} {args : Array Value} {below : List Frame} {meth : Method} {c : Code} (bs : Nat) (D : va_G) (y : Y3) (n : Nat) (r : M2) (Gc : Gx p s m args meth c cX10_leadWire 5 RX10 bs D y none 76)  : ∀ (q : Nat) (x1 : Int32) (x2 : Int64) (x4 : Int32) (I : MI) (J : MJ) (H : Heap) (locs : List Loc) (ls : Array Slot), va_P D vwCl (wl bs y I J) H → va_S (FA bs) s.heap H locs → lv_has ls 5 [(0, .ref (bs + 44)), (1, .int x1), (2, .long x2), (4, .int x4)] → lX10_leadWire_14 n  q x1 x2 x4 I J = some r → W p l e (rmm 4 93) s m args below meth c H locs 0 0 (QV below args s bs D y r) (F0 m 14 ls []) := by
  intro q
  induction q with
  | zero =>
    intro x1 x2 x4 I J H locs ls hP hS hl h
    have h : (none : Option (M2)) = some r := h
    cases h
  | succ q ih =>
    intro x1 x2 x4 I J H locs ls hP hS hl h
    have h : fX10_leadWire_14 n  (lX10_leadWire_14 n  q) x1 x2 x4 I J = some r := h
    exact wX10_leadWire_14 bs D y n  (lX10_leadWire_14 n  q) r Gc  ih x1 x2 x4 I J H locs ls hP hS hl h
set_option maxHeartbeats 4000000 in
set_option maxRecDepth 100000 in
theorem cX10_leadWire_ (l : Launch) (bs : Nat) (D : va_G) (y : Y3) (hcb : 76 ≤ y.2.2.2) (n : Nat) (x1 : Int32) (I : MI) (J : MJ) (r : M2) (h : fX10_leadWire n x1 I J = some r) : Met l yX10_leadWire (.code yX10_leadWire cX10_leadWire 5 none :: gtb) (rmm 4 93) (va_Pc [.ref (bs + 44), .int x1] (HB bs D y I J)) (QcV bs D y r) 0 0 (FA bs) := by
  refine Met.ofW (cc := cX10_leadWire) (maxL := 5) (ret := none) (by decide) rfl ?_
  intro p e s m args below meth c s₁ B hml hv
  obtain ⟨rfl, hP, hK, hN, hL⟩ := hv
  have hx := B.exec
  have hb := B.bytes
  have hr := B.returns
  have hts0 := atoms_spec (ws := .code yX10_leadWire cX10_leadWire 5 none :: gtb) B.pre
  have hts : ∀ w ∈ gtb, w.before [.ref (bs + 44), .int x1].toArray s = true := fun w hw => hts0 w (List.mem_cons_of_mem _ hw)
  have hown : s.vm.findClass RX10 = some m.cls := findClass_of_methodNamed B.named
  have hlocks := B.notSynchronized
  have hS : va_S (FA bs) s.heap s.heap [] := va_S.rf
  have Gc : Gx p s m [.ref (bs + 44), .int x1].toArray meth c cX10_leadWire 5 RX10 bs D y none 76 := ⟨hx, hb, hml, hown, hts, hK, hN, hL, hr, hlocks, hcb⟩
  have hl := lv_entry [.ref (bs + 44), .int x1] (n := 5) (Nat.le_of_ble_eq_true rfl)
  rw [lg_entry_eq]
  generalize (lg_sl [.ref (bs + 44), .int x1] ++ List.replicate (5 - (lg_sl [.ref (bs + 44), .int x1]).length) Slot.unset).toArray = ls at hl ⊢
  have hl : lv_has ls 5 [(0, .ref (bs + 44)), (1, .int x1)] := hl
  change W p l e (rmm 4 93) s m [.ref (bs + 44), .int x1].toArray below meth c s.heap [] 0 0 (QV below [.ref (bs + 44), .int x1].toArray s bs D y r) (F0 m 0 ls [])
  unfold fX10_leadWire at h
  refine lv_aload_n hx hb dX10_leadWire_0 rfl (lv_at hl 0 rfl) ?_
  refine lv_iload_n hx hb dX10_leadWire_1 rfl (lv_at hl 1 rfl) ?_
  obtain ⟨r2, er2, h⟩ := bd_s1 h
  refine c_VJ (k := 44) (ci := 10) (As := [.int x1]) (rest := []) hx hb hml hown hts hK hN hL hP hS (cX10_endsOf_ l bs D y hcb n x1 I J r2 er2) ok_X10_endsOf ov_X10_endsOf ml_143 ⟨Nat.le_of_ble_eq_true rfl, Nat.le_of_ble_eq_true rfl⟩ rfl hcb kd_44 hl.1 rfl rfl (Nat.le_of_ble_eq_true rfl) ⟨Nat.zero_le _, Nat.zero_le _⟩ dX10_leadWire_2 (fun H locs hP hS => ?_)
  obtain ⟨v5, ev5, h⟩ := lt_s1 h
  refine top_j ev5 ?_
  refine lv_lstore_n (lv' := [(2, .long v5), (0, .ref (bs + 44)), (1, .int x1)]) hx hb dX10_leadWire_5 rfl hl (by decide) rfl (fun ls hl => ?_)
  refine lv_aload_n hx hb dX10_leadWire_6 rfl (lv_at hl 1 rfl) ?_
  refine lv_iload_n hx hb dX10_leadWire_7 rfl (lv_at hl 2 rfl) ?_
  obtain ⟨r8, er8, h⟩ := bd_s1 h
  refine c_VV (k := 44) (ci := 10) (As := [.int x1]) (rest := []) hx hb hml hown hts hK hN hL hP hS (cX10_takeOff_ l bs D y hcb n x1 r2.2.1 r2.2.2 r8 er8) ok_X10_takeOff ov_X10_takeOff ml_155 ⟨Nat.le_of_ble_eq_true rfl, Nat.le_of_ble_eq_true rfl⟩ rfl hcb kd_44 hl.1 rfl rfl (Nat.le_of_ble_eq_true rfl) ⟨Nat.zero_le _, Nat.zero_le _⟩ dX10_leadWire_8 (fun H locs hP hS => ?_)
  refine lv_iconst (v := (0 : Int32)) hx hb dX10_leadWire_11 (by decide) ?_
  refine lv_istore (lv' := [(4, .int (0 : Int32)), (2, .long v5), (0, .ref (bs + 44)), (1, .int x1)]) hx hb dX10_leadWire_12 hl (by decide) rfl (fun ls hl => ?_)
  exact vX10_leadWire_14 bs D y n  r Gc  n x1 v5 (0 : Int32) r8.1 r8.2 _ _ _ hP hS (lv_sub hl [2, 3, 1, 0] rfl) h
theorem dX10_lead_0 : decode cX10_lead 0 = .ok (.iload_n 1, 1) := by decide +kernel
theorem dX10_lead_1 : decode cX10_lead 1 = .ok (.ifCond .ge 10, 3) := by decide +kernel
theorem dX10_lead_4 : decode cX10_lead 4 = .ok (.aload_n 0, 1) := by decide +kernel
theorem dX10_lead_5 : decode cX10_lead 5 = .ok (.bipush (-4), 2) := by decide +kernel
theorem dX10_lead_7 : decode cX10_lead 7 = .ok (.invokevirtual 151, 3) := by decide +kernel
theorem dX10_lead_10 : decode cX10_lead 10 = .ok (.ireturn, 1) := by decide +kernel
theorem dX10_lead_11 : decode cX10_lead 11 = .ok (.iload_n 1, 1) := by decide +kernel
theorem dX10_lead_12 : decode cX10_lead 12 = .ok (.i2l, 1) := by decide +kernel
theorem dX10_lead_13 : decode cX10_lead 13 = .ok (.lconst 1, 1) := by decide +kernel
theorem dX10_lead_14 : decode cX10_lead 14 = .ok (.ldc2_w 300, 3) := by decide +kernel
theorem dX10_lead_17 : decode cX10_lead 17 = .ok (.invokestatic 164, 3) := by decide +kernel
theorem dX10_lead_20 : decode cX10_lead 20 = .ok (.ifCond .ne 10, 3) := by decide +kernel
theorem dX10_lead_23 : decode cX10_lead 23 = .ok (.aload_n 0, 1) := by decide +kernel
theorem dX10_lead_24 : decode cX10_lead 24 = .ok (.bipush (-7), 2) := by decide +kernel
theorem dX10_lead_26 : decode cX10_lead 26 = .ok (.invokevirtual 151, 3) := by decide +kernel
theorem dX10_lead_29 : decode cX10_lead 29 = .ok (.ireturn, 1) := by decide +kernel
theorem dX10_lead_30 : decode cX10_lead 30 = .ok (.aload_n 0, 1) := by decide +kernel
theorem dX10_lead_31 : decode cX10_lead 31 = .ok (.getfield 130, 3) := by decide +kernel
theorem dX10_lead_34 : decode cX10_lead 34 = .ok (.ifCond .ne 10, 3) := by decide +kernel
theorem dX10_lead_37 : decode cX10_lead 37 = .ok (.aload_n 0, 1) := by decide +kernel
theorem dX10_lead_38 : decode cX10_lead 38 = .ok (.bipush (-2), 2) := by decide +kernel
theorem dX10_lead_40 : decode cX10_lead 40 = .ok (.invokevirtual 151, 3) := by decide +kernel
theorem dX10_lead_43 : decode cX10_lead 43 = .ok (.ireturn, 1) := by decide +kernel
theorem dX10_lead_44 : decode cX10_lead 44 = .ok (.iconst 0, 1) := by decide +kernel
theorem dX10_lead_45 : decode cX10_lead 45 = .ok (.istore_n 2, 1) := by decide +kernel
theorem dX10_lead_46 : decode cX10_lead 46 = .ok (.iload_n 2, 1) := by decide +kernel
theorem dX10_lead_47 : decode cX10_lead 47 = .ok (.bipush 60, 2) := by decide +kernel
theorem dX10_lead_49 : decode cX10_lead 49 = .ok (.if_icmp .ge 23, 3) := by decide +kernel
theorem dX10_lead_52 : decode cX10_lead 52 = .ok (.aload_n 0, 1) := by decide +kernel
theorem dX10_lead_53 : decode cX10_lead 53 = .ok (.getfield 81, 3) := by decide +kernel
theorem dX10_lead_56 : decode cX10_lead 56 = .ok (.iload_n 2, 1) := by decide +kernel
theorem dX10_lead_57 : decode cX10_lead 57 = .ok (.iconst 0, 1) := by decide +kernel
theorem dX10_lead_58 : decode cX10_lead 58 = .ok (.iastore, 1) := by decide +kernel
theorem dX10_lead_59 : decode cX10_lead 59 = .ok (.aload_n 0, 1) := by decide +kernel
theorem dX10_lead_60 : decode cX10_lead 60 = .ok (.getfield 78, 3) := by decide +kernel
theorem dX10_lead_63 : decode cX10_lead 63 = .ok (.iload_n 2, 1) := by decide +kernel
theorem dX10_lead_64 : decode cX10_lead 64 = .ok (.iconst 0, 1) := by decide +kernel
theorem dX10_lead_65 : decode cX10_lead 65 = .ok (.iastore, 1) := by decide +kernel
theorem dX10_lead_66 : decode cX10_lead 66 = .ok (.iinc 2 1, 3) := by decide +kernel
theorem dX10_lead_69 : decode cX10_lead 69 = .ok (.goto (-23), 3) := by decide +kernel
theorem dX10_lead_72 : decode cX10_lead 72 = .ok (.iconst 0, 1) := by decide +kernel
theorem dX10_lead_73 : decode cX10_lead 73 = .ok (.istore_n 2, 1) := by decide +kernel
theorem dX10_lead_74 : decode cX10_lead 74 = .ok (.iload_n 2, 1) := by decide +kernel
theorem dX10_lead_75 : decode cX10_lead 75 = .ok (.sipush 1920, 3) := by decide +kernel
theorem dX10_lead_78 : decode cX10_lead 78 = .ok (.if_icmp .ge 16, 3) := by decide +kernel
theorem dX10_lead_81 : decode cX10_lead 81 = .ok (.aload_n 0, 1) := by decide +kernel
theorem dX10_lead_82 : decode cX10_lead 82 = .ok (.getfield 75, 3) := by decide +kernel
theorem dX10_lead_85 : decode cX10_lead 85 = .ok (.iload_n 2, 1) := by decide +kernel
theorem dX10_lead_86 : decode cX10_lead 86 = .ok (.iconst 0, 1) := by decide +kernel
theorem dX10_lead_87 : decode cX10_lead 87 = .ok (.bastore, 1) := by decide +kernel
theorem dX10_lead_88 : decode cX10_lead 88 = .ok (.iinc 2 1, 3) := by decide +kernel
theorem dX10_lead_91 : decode cX10_lead 91 = .ok (.goto (-17), 3) := by decide +kernel
theorem dX10_lead_94 : decode cX10_lead 94 = .ok (.aload_n 0, 1) := by decide +kernel
theorem dX10_lead_95 : decode cX10_lead 95 = .ok (.iconst 1, 1) := by decide +kernel
theorem dX10_lead_96 : decode cX10_lead 96 = .ok (.putfield 133, 3) := by decide +kernel
theorem dX10_lead_99 : decode cX10_lead 99 = .ok (.iconst 1, 1) := by decide +kernel
theorem dX10_lead_100 : decode cX10_lead 100 = .ok (.istore_n 2, 1) := by decide +kernel
theorem dX10_lead_101 : decode cX10_lead 101 = .ok (.iload_n 2, 1) := by decide +kernel
theorem dX10_lead_102 : decode cX10_lead 102 = .ok (.iload_n 1, 1) := by decide +kernel
theorem dX10_lead_103 : decode cX10_lead 103 = .ok (.if_icmp .gt 113, 3) := by decide +kernel
theorem dX10_lead_106 : decode cX10_lead 106 = .ok (.iconst 0, 1) := by decide +kernel
theorem dX10_lead_107 : decode cX10_lead 107 = .ok (.istore_n 3, 1) := by decide +kernel
theorem dX10_lead_108 : decode cX10_lead 108 = .ok (.iload_n 3, 1) := by decide +kernel
theorem dX10_lead_109 : decode cX10_lead 109 = .ok (.aload_n 0, 1) := by decide +kernel
theorem dX10_lead_110 : decode cX10_lead 110 = .ok (.getfield 123, 3) := by decide +kernel
theorem dX10_lead_113 : decode cX10_lead 113 = .ok (.if_icmp .ge 22, 3) := by decide +kernel
theorem dX10_lead_116 : decode cX10_lead 116 = .ok (.aload_n 0, 1) := by decide +kernel
theorem dX10_lead_117 : decode cX10_lead 117 = .ok (.iload_n 3, 1) := by decide +kernel
theorem dX10_lead_118 : decode cX10_lead 118 = .ok (.invokevirtual 236, 3) := by decide +kernel
theorem dX10_lead_121 : decode cX10_lead 121 = .ok (.ifCond .eq 8, 3) := by decide +kernel
theorem dX10_lead_124 : decode cX10_lead 124 = .ok (.aload_n 0, 1) := by decide +kernel
theorem dX10_lead_125 : decode cX10_lead 125 = .ok (.iload_n 3, 1) := by decide +kernel
theorem dX10_lead_126 : decode cX10_lead 126 = .ok (.invokevirtual 302, 3) := by decide +kernel
theorem dX10_lead_129 : decode cX10_lead 129 = .ok (.iinc 3 1, 3) := by decide +kernel
theorem dX10_lead_132 : decode cX10_lead 132 = .ok (.goto (-24), 3) := by decide +kernel
theorem dX10_lead_135 : decode cX10_lead 135 = .ok (.iconst 0, 1) := by decide +kernel
theorem dX10_lead_136 : decode cX10_lead 136 = .ok (.istore_n 3, 1) := by decide +kernel
theorem dX10_lead_137 : decode cX10_lead 137 = .ok (.iconst 0, 1) := by decide +kernel
theorem dX10_lead_138 : decode cX10_lead 138 = .ok (.istore 4, 2) := by decide +kernel
theorem dX10_lead_140 : decode cX10_lead 140 = .ok (.iload 4, 2) := by decide +kernel
theorem dX10_lead_142 : decode cX10_lead 142 = .ok (.aload_n 0, 1) := by decide +kernel
theorem dX10_lead_143 : decode cX10_lead 143 = .ok (.invokevirtual 230, 3) := by decide +kernel
theorem dX10_lead_146 : decode cX10_lead 146 = .ok (.if_icmp .ge 58, 3) := by decide +kernel
theorem dX10_lead_149 : decode cX10_lead 149 = .ok (.aload_n 0, 1) := by decide +kernel
theorem dX10_lead_150 : decode cX10_lead 150 = .ok (.getfield 78, 3) := by decide +kernel
theorem dX10_lead_153 : decode cX10_lead 153 = .ok (.iload 4, 2) := by decide +kernel
theorem dX10_lead_155 : decode cX10_lead 155 = .ok (.iaload, 1) := by decide +kernel
theorem dX10_lead_156 : decode cX10_lead 156 = .ok (.aload_n 0, 1) := by decide +kernel
theorem dX10_lead_157 : decode cX10_lead 157 = .ok (.getfield 66, 3) := by decide +kernel
theorem dX10_lead_160 : decode cX10_lead 160 = .ok (.if_icmp .le 18, 3) := by decide +kernel
theorem dX10_lead_163 : decode cX10_lead 163 = .ok (.aload_n 0, 1) := by decide +kernel
theorem dX10_lead_164 : decode cX10_lead 164 = .ok (.getfield 78, 3) := by decide +kernel
theorem dX10_lead_167 : decode cX10_lead 167 = .ok (.iload 4, 2) := by decide +kernel
theorem dX10_lead_169 : decode cX10_lead 169 = .ok (.iaload, 1) := by decide +kernel
theorem dX10_lead_170 : decode cX10_lead 170 = .ok (.aload_n 0, 1) := by decide +kernel
theorem dX10_lead_171 : decode cX10_lead 171 = .ok (.getfield 66, 3) := by decide +kernel
theorem dX10_lead_174 : decode cX10_lead 174 = .ok (.isub, 1) := by decide +kernel
theorem dX10_lead_175 : decode cX10_lead 175 = .ok (.goto 4, 3) := by decide +kernel
theorem dX10_lead_178 : decode cX10_lead 178 = .ok (.iconst 0, 1) := by decide +kernel
theorem dX10_lead_179 : decode cX10_lead 179 = .ok (.istore 5, 2) := by decide +kernel
theorem dX10_lead_181 : decode cX10_lead 181 = .ok (.iload_n 3, 1) := by decide +kernel
theorem dX10_lead_182 : decode cX10_lead 182 = .ok (.iload 5, 2) := by decide +kernel
theorem dX10_lead_184 : decode cX10_lead 184 = .ok (.iadd, 1) := by decide +kernel
theorem dX10_lead_185 : decode cX10_lead 185 = .ok (.istore_n 3, 1) := by decide +kernel
theorem dX10_lead_186 : decode cX10_lead 186 = .ok (.aload_n 0, 1) := by decide +kernel
theorem dX10_lead_187 : decode cX10_lead 187 = .ok (.getfield 81, 3) := by decide +kernel
theorem dX10_lead_190 : decode cX10_lead 190 = .ok (.iload 4, 2) := by decide +kernel
theorem dX10_lead_192 : decode cX10_lead 192 = .ok (.dup2, 1) := by decide +kernel
theorem dX10_lead_193 : decode cX10_lead 193 = .ok (.iaload, 1) := by decide +kernel
theorem dX10_lead_194 : decode cX10_lead 194 = .ok (.iload 5, 2) := by decide +kernel
theorem dX10_lead_196 : decode cX10_lead 196 = .ok (.iadd, 1) := by decide +kernel
theorem dX10_lead_197 : decode cX10_lead 197 = .ok (.iastore, 1) := by decide +kernel
theorem dX10_lead_198 : decode cX10_lead 198 = .ok (.iinc 4 1, 3) := by decide +kernel
theorem dX10_lead_201 : decode cX10_lead 201 = .ok (.goto (-61), 3) := by decide +kernel
theorem dX10_lead_204 : decode cX10_lead 204 = .ok (.iload_n 3, 1) := by decide +kernel
theorem dX10_lead_205 : decode cX10_lead 205 = .ok (.ifCond .ne 5, 3) := by decide +kernel
theorem dX10_lead_208 : decode cX10_lead 208 = .ok (.iload_n 2, 1) := by decide +kernel
theorem dX10_lead_209 : decode cX10_lead 209 = .ok (.ireturn, 1) := by decide +kernel
theorem dX10_lead_210 : decode cX10_lead 210 = .ok (.iinc 2 1, 3) := by decide +kernel
theorem dX10_lead_213 : decode cX10_lead 213 = .ok (.goto (-112), 3) := by decide +kernel
theorem dX10_lead_216 : decode cX10_lead 216 = .ok (.iconst (-1), 1) := by decide +kernel
theorem dX10_lead_217 : decode cX10_lead 217 = .ok (.ireturn, 1) := by decide +kernel
set_option maxHeartbeats 4000000 in
set_option maxRecDepth 100000 in
theorem wX10_lead_179 {p : Program} {l : Launch} {e : Env} {s : State} {m : MethodId} {args : Array Value} {below : List Frame} {meth : Method} {c : Code} (bs : Nat) (D : va_G) (y : Y3) (n : Nat) (k101_ : Int32 → Int32 → MI → MJ → Option (Int32 × M2)) (k140_ : Int32 → Int32 → Int32 → Int32 → MI → MJ → Option (Int32 × M2)) (r : Int32 × M2) (Gc : Gx p s m args meth c cX10_lead 6 RX10 bs D y (some .int) 76) (hk101_ : ∀ (x1 : Int32) (x2 : Int32) (I : MI) (J : MJ) (H : Heap) (locs : List Loc) (ls : Array Slot), va_P D vwCl (wl bs y I J) H → va_S (FA bs) s.heap H locs → lv_has ls 6 [(0, .ref (bs + 44)), (1, .int x1), (2, .int x2)] → k101_ x1 x2 I J = some r → W p l e (rmm 5 117) s m args below meth c H locs 0 0 (QI below args s bs D y r) (F0 m 101 ls [])) (hk140_ : ∀ (x1 : Int32) (x2 : Int32) (x3 : Int32) (x4 : Int32) (I : MI) (J : MJ) (H : Heap) (locs : List Loc) (ls : Array Slot), va_P D vwCl (wl bs y I J) H → va_S (FA bs) s.heap H locs → lv_has ls 6 [(0, .ref (bs + 44)), (1, .int x1), (2, .int x2), (3, .int x3), (4, .int x4)] → k140_ x1 x2 x3 x4 I J = some r → W p l e (rmm 5 117) s m args below meth c H locs 0 0 (QI below args s bs D y r) (F0 m 140 ls [])) (x1 : Int32) (x2 : Int32) (x3 : Int32) (x4 : Int32) (s0 : Int32) (I : MI) (J : MJ) (H : Heap) (locs : List Loc) (ls : Array Slot) (hP : va_P D vwCl (wl bs y I J) H) (hS : va_S (FA bs) s.heap H locs) (hl : lv_has ls 6 [(0, .ref (bs + 44)), (1, .int x1), (2, .int x2), (3, .int x3), (4, .int x4)]) (h : fX10_lead_179 n k101_ k140_ x1 x2 x3 x4 s0 I J = some r) : W p l e (rmm 5 117) s m args below meth c H locs 0 0 (QI below args s bs D y r) (F0 m 179 ls [.int s0]) := by
  obtain ⟨hx, hb, hml, hown, hts, hK, hN, hL, hr, hlocks, hcb⟩ := id Gc
  unfold fX10_lead_179 at h
  refine lv_istore (lv' := [(5, .int s0), (0, .ref (bs + 44)), (1, .int x1), (2, .int x2), (3, .int x3), (4, .int x4)]) hx hb dX10_lead_179 hl (by decide) rfl (fun ls hl => ?_)
  refine lv_iload_n hx hb dX10_lead_181 rfl (lv_at hl 4 rfl) ?_
  refine lv_iload hx hb dX10_lead_182 (lv_at hl 0 rfl) ?_
  refine lv_iadd hx hb dX10_lead_184 ?_
  obtain ⟨v185, ev185, h⟩ := lt_s1 h
  refine top_i ev185 ?_
  refine lv_istore_n (lv' := [(3, .int v185), (5, .int s0), (0, .ref (bs + 44)), (1, .int x1), (2, .int x2), (4, .int x4)]) hx hb dX10_lead_185 rfl hl (by decide) rfl (fun ls hl => ?_)
  refine lv_aload_n hx hb dX10_lead_186 rfl (lv_at hl 2 rfl) ?_
  refine g_R (C := RX10) (T := TX10) (N := 49) (ci := 10) 44 32 64 hx hb hts hown hK hP in_X10 rfl hcb okF_44_32 rfc_44_32 fl_175 dX10_lead_187 ?_
  refine lv_iload hx hb dX10_lead_190 (lv_at hl 5 rfl) ?_
  refine lv_dup2_11 hx hb dX10_lead_192 rfl rfl ?_
  obtain ⟨hi193, h⟩ := if_s1 h
  refine a_I 64 hx hb hK hP hcb aln_64 hi193 dX10_lead_193 ?_
  refine lv_iload hx hb dX10_lead_194 (lv_at hl 1 rfl) ?_
  refine lv_iadd hx hb dX10_lead_196 ?_
  obtain ⟨hi197, h⟩ := if_s1 h
  obtain ⟨I197, eI197, h⟩ := lt_s1 h
  refine t_I 64 eI197 hx hb hK hP hS hcb aln_64 hi197 dX10_lead_197 (fun H locs hP hS => ?_)
  refine lv_iinc (v := (x4 + (1 : Int32))) (lv' := [(4, .int (x4 + (1 : Int32))), (3, .int v185), (5, .int s0), (0, .ref (bs + 44)), (1, .int x1), (2, .int x2)]) hx hb dX10_lead_198 hl (k := 5) rfl rfl (by decide) rfl (fun ls hl => ?_)
  refine lv_goto (tgt := 140) hx hb dX10_lead_201 (by decide) ?_
  exact hk140_ x1 x2 v185 (x4 + (1 : Int32)) I197 J _ _ _ hP hS (lv_sub hl [3, 4, 5, 1, 0] rfl) h
set_option maxHeartbeats 4000000 in
set_option maxRecDepth 100000 in
theorem wX10_lead_140 {p : Program} {l : Launch} {e : Env} {s : State} {m : MethodId} {args : Array Value} {below : List Frame} {meth : Method} {c : Code} (bs : Nat) (D : va_G) (y : Y3) (n : Nat) (k101_ : Int32 → Int32 → MI → MJ → Option (Int32 × M2)) (k140_ : Int32 → Int32 → Int32 → Int32 → MI → MJ → Option (Int32 × M2)) (r : Int32 × M2) (Gc : Gx p s m args meth c cX10_lead 6 RX10 bs D y (some .int) 76) (hk101_ : ∀ (x1 : Int32) (x2 : Int32) (I : MI) (J : MJ) (H : Heap) (locs : List Loc) (ls : Array Slot), va_P D vwCl (wl bs y I J) H → va_S (FA bs) s.heap H locs → lv_has ls 6 [(0, .ref (bs + 44)), (1, .int x1), (2, .int x2)] → k101_ x1 x2 I J = some r → W p l e (rmm 5 117) s m args below meth c H locs 0 0 (QI below args s bs D y r) (F0 m 101 ls [])) (hk140_ : ∀ (x1 : Int32) (x2 : Int32) (x3 : Int32) (x4 : Int32) (I : MI) (J : MJ) (H : Heap) (locs : List Loc) (ls : Array Slot), va_P D vwCl (wl bs y I J) H → va_S (FA bs) s.heap H locs → lv_has ls 6 [(0, .ref (bs + 44)), (1, .int x1), (2, .int x2), (3, .int x3), (4, .int x4)] → k140_ x1 x2 x3 x4 I J = some r → W p l e (rmm 5 117) s m args below meth c H locs 0 0 (QI below args s bs D y r) (F0 m 140 ls [])) (x1 : Int32) (x2 : Int32) (x3 : Int32) (x4 : Int32) (I : MI) (J : MJ) (H : Heap) (locs : List Loc) (ls : Array Slot) (hP : va_P D vwCl (wl bs y I J) H) (hS : va_S (FA bs) s.heap H locs) (hl : lv_has ls 6 [(0, .ref (bs + 44)), (1, .int x1), (2, .int x2), (3, .int x3), (4, .int x4)]) (h : fX10_lead_140 n k101_ k140_ x1 x2 x3 x4 I J = some r) : W p l e (rmm 5 117) s m args below meth c H locs 0 0 (QI below args s bs D y r) (F0 m 140 ls []) := by
  obtain ⟨hx, hb, hml, hown, hts, hK, hN, hL, hr, hlocks, hcb⟩ := id Gc
  unfold fX10_lead_140 at h
  refine lv_iload hx hb dX10_lead_140 (lv_at hl 4 rfl) ?_
  refine lv_aload_n hx hb dX10_lead_142 rfl (lv_at hl 0 rfl) ?_
  obtain ⟨r143, er143, h⟩ := bd_s1 h
  refine c_VI (k := 44) (ci := 10) (As := []) (rest := [.int x4]) hx hb hml hown hts hK hN hL hP hS (cX10_joints_ l bs D y hcb n  I J r143 er143) ok_X10_joints ov_X10_joints ml_135 ⟨Nat.le_of_ble_eq_true rfl, Nat.le_of_ble_eq_true rfl⟩ rfl hcb kd_44 hl.1 rfl rfl (Nat.le_of_ble_eq_true rfl) ⟨Nat.zero_le _, Nat.zero_le _⟩ dX10_lead_143 (fun H locs hP hS => ?_)
  refine lv_icmp_ge (tgt := 204) hx hb dX10_lead_146 (by decide) (fun c146 => ?_) (fun c146 => ?_)
  · replace h := if_t c146 h
    refine lv_iload_n hx hb dX10_lead_204 rfl (lv_at hl 3 rfl) ?_
    refine lv_if_ne (tgt := 210) hx hb dX10_lead_205 (by decide) (fun c205 => ?_) (fun c205 => ?_)
    · replace h := if_f c205 h
      refine lv_iinc (v := (x2 + (1 : Int32))) (lv' := [(2, .int (x2 + (1 : Int32))), (0, .ref (bs + 44)), (1, .int x1), (3, .int x3), (4, .int x4)]) hx hb dX10_lead_210 hl (k := 2) rfl rfl (by decide) rfl (fun ls hl => ?_)
      refine lv_goto (tgt := 101) hx hb dX10_lead_213 (by decide) ?_
      exact hk101_ x1 (x2 + (1 : Int32)) r143.2.1 r143.2.2 _ _ _ hP hS (lv_sub hl [1, 2, 0] rfl) h
    · replace h := if_t c205 h
      refine lv_iload_n hx hb dX10_lead_208 rfl (lv_at hl 2 rfl) ?_
      exact r_I hx hb hr hlocks hP hK hN hL hS h dX10_lead_209
  · replace h := if_f c146 h
    refine lv_aload_n hx hb dX10_lead_149 rfl (lv_at hl 0 rfl) ?_
    refine g_R (C := RX10) (T := TX10) (N := 49) (ci := 10) 44 31 63 hx hb hts hown hK hP in_X10 rfl hcb okF_44_31 rfc_44_31 fl_174 dX10_lead_150 ?_
    refine lv_iload hx hb dX10_lead_153 (lv_at hl 4 rfl) ?_
    obtain ⟨hi155, h⟩ := if_s1 h
    refine a_I 63 hx hb hK hP hcb aln_63 hi155 dX10_lead_155 ?_
    refine lv_aload_n hx hb dX10_lead_156 rfl (lv_at hl 0 rfl) ?_
    refine g_I (C := RX10) (T := TX10) (N := 49) (ci := 10) 44 27 hx hb hts hown hK hP in_X10 rfl hcb okF_44_27 fl_172 dX10_lead_157 ?_
    refine lv_icmp_le (tgt := 178) hx hb dX10_lead_160 (by decide) (fun c160 => ?_) (fun c160 => ?_)
    · replace h := if_t c160 h
      refine lv_iconst (v := (0 : Int32)) hx hb dX10_lead_178 (by decide) ?_
      exact wX10_lead_179 bs D y n k101_ k140_ r Gc hk101_ hk140_ x1 x2 x3 x4 (0 : Int32) r143.2.1 r143.2.2 _ _ _ hP hS (lv_sub hl [0, 1, 2, 3, 4] rfl) h
    · replace h := if_f c160 h
      refine lv_aload_n hx hb dX10_lead_163 rfl (lv_at hl 0 rfl) ?_
      refine g_R (C := RX10) (T := TX10) (N := 49) (ci := 10) 44 31 63 hx hb hts hown hK hP in_X10 rfl hcb okF_44_31 rfc_44_31 fl_174 dX10_lead_164 ?_
      refine lv_iload hx hb dX10_lead_167 (lv_at hl 4 rfl) ?_
      obtain ⟨hi169, h⟩ := if_s1 h
      refine a_I 63 hx hb hK hP hcb aln_63 hi169 dX10_lead_169 ?_
      refine lv_aload_n hx hb dX10_lead_170 rfl (lv_at hl 0 rfl) ?_
      refine g_I (C := RX10) (T := TX10) (N := 49) (ci := 10) 44 27 hx hb hts hown hK hP in_X10 rfl hcb okF_44_27 fl_172 dX10_lead_171 ?_
      refine lv_isub hx hb dX10_lead_174 ?_
      refine lv_goto (tgt := 179) hx hb dX10_lead_175 (by decide) ?_
      exact wX10_lead_179 bs D y n k101_ k140_ r Gc hk101_ hk140_ x1 x2 x3 x4 ((r143.2.1 63 (x4).toNatClampNeg) - (r143.2.1 44 27)) r143.2.1 r143.2.2 _ _ _ hP hS (lv_sub hl [0, 1, 2, 3, 4] rfl) h
theorem vX10_lead_140 {p : Program} {l : Launch} {e : Env} {s : State} {m : MethodId} {args : Array Value} {below : List Frame} {meth : Method} {c : Code} (bs : Nat) (D : va_G) (y : Y3) (n : Nat) (k101_ : Int32 → Int32 → MI → MJ → Option (Int32 × M2)) (r : Int32 × M2) (Gc : Gx p s m args meth c cX10_lead 6 RX10 bs D y (some .int) 76) (hk101_ : ∀ (x1 : Int32) (x2 : Int32) (I : MI) (J : MJ) (H : Heap) (locs : List Loc) (ls : Array Slot), va_P D vwCl (wl bs y I J) H → va_S (FA bs) s.heap H locs → lv_has ls 6 [(0, .ref (bs + 44)), (1, .int x1), (2, .int x2)] → k101_ x1 x2 I J = some r → W p l e (rmm 5 117) s m args below meth c H locs 0 0 (QI below args s bs D y r) (F0 m 101 ls [])) : ∀ (q : Nat) (x1 : Int32) (x2 : Int32) (x3 : Int32) (x4 : Int32) (I : MI) (J : MJ) (H : Heap) (locs : List Loc) (ls : Array Slot), va_P D vwCl (wl bs y I J) H → va_S (FA bs) s.heap H locs → lv_has ls 6 [(0, .ref (bs + 44)), (1, .int x1), (2, .int x2), (3, .int x3), (4, .int x4)] → lX10_lead_140 n k101_ q x1 x2 x3 x4 I J = some r → W p l e (rmm 5 117) s m args below meth c H locs 0 0 (QI below args s bs D y r) (F0 m 140 ls []) := by
  intro q
  induction q with
  | zero =>
    intro x1 x2 x3 x4 I J H locs ls hP hS hl h
    have h : (none : Option (Int32 × M2)) = some r := h
    cases h
  | succ q ih =>
    intro x1 x2 x3 x4 I J H locs ls hP hS hl h
    have h : fX10_lead_140 n k101_ (lX10_lead_140 n k101_ q) x1 x2 x3 x4 I J = some r := h
    exact wX10_lead_140 bs D y n k101_ (lX10_lead_140 n k101_ q) r Gc hk101_ ih x1 x2 x3 x4 I J H locs ls hP hS hl h
set_option maxHeartbeats 4000000 in
set_option maxRecDepth 100000 in
theorem wX10_lead_129 {p : Program} {l : Launch} {e : Env} {s : State} {m : MethodId} {args : Array Value} {below : List Frame} {meth : Method} {c : Code} (bs : Nat) (D : va_G) (y : Y3) (n : Nat) (k101_ : Int32 → Int32 → MI → MJ → Option (Int32 × M2)) (k108_ : Int32 → Int32 → Int32 → MI → MJ → Option (Int32 × M2)) (r : Int32 × M2) (Gc : Gx p s m args meth c cX10_lead 6 RX10 bs D y (some .int) 76) (hk101_ : ∀ (x1 : Int32) (x2 : Int32) (I : MI) (J : MJ) (H : Heap) (locs : List Loc) (ls : Array Slot), va_P D vwCl (wl bs y I J) H → va_S (FA bs) s.heap H locs → lv_has ls 6 [(0, .ref (bs + 44)), (1, .int x1), (2, .int x2)] → k101_ x1 x2 I J = some r → W p l e (rmm 5 117) s m args below meth c H locs 0 0 (QI below args s bs D y r) (F0 m 101 ls [])) (hk108_ : ∀ (x1 : Int32) (x2 : Int32) (x3 : Int32) (I : MI) (J : MJ) (H : Heap) (locs : List Loc) (ls : Array Slot), va_P D vwCl (wl bs y I J) H → va_S (FA bs) s.heap H locs → lv_has ls 6 [(0, .ref (bs + 44)), (1, .int x1), (2, .int x2), (3, .int x3)] → k108_ x1 x2 x3 I J = some r → W p l e (rmm 5 117) s m args below meth c H locs 0 0 (QI below args s bs D y r) (F0 m 108 ls [])) (x1 : Int32) (x2 : Int32) (x3 : Int32) (I : MI) (J : MJ) (H : Heap) (locs : List Loc) (ls : Array Slot) (hP : va_P D vwCl (wl bs y I J) H) (hS : va_S (FA bs) s.heap H locs) (hl : lv_has ls 6 [(0, .ref (bs + 44)), (1, .int x1), (2, .int x2), (3, .int x3)]) (h : fX10_lead_129 n k101_ k108_ x1 x2 x3 I J = some r) : W p l e (rmm 5 117) s m args below meth c H locs 0 0 (QI below args s bs D y r) (F0 m 129 ls []) := by
  obtain ⟨hx, hb, hml, hown, hts, hK, hN, hL, hr, hlocks, hcb⟩ := id Gc
  unfold fX10_lead_129 at h
  refine lv_iinc (v := (x3 + (1 : Int32))) (lv' := [(3, .int (x3 + (1 : Int32))), (0, .ref (bs + 44)), (1, .int x1), (2, .int x2)]) hx hb dX10_lead_129 hl (k := 3) rfl rfl (by decide) rfl (fun ls hl => ?_)
  refine lv_goto (tgt := 108) hx hb dX10_lead_132 (by decide) ?_
  exact hk108_ x1 x2 (x3 + (1 : Int32)) I J _ _ _ hP hS (lv_sub hl [1, 2, 3, 0] rfl) h
set_option maxHeartbeats 4000000 in
set_option maxRecDepth 100000 in
theorem wX10_lead_108 {p : Program} {l : Launch} {e : Env} {s : State} {m : MethodId} {args : Array Value} {below : List Frame} {meth : Method} {c : Code} (bs : Nat) (D : va_G) (y : Y3) (n : Nat) (k101_ : Int32 → Int32 → MI → MJ → Option (Int32 × M2)) (k108_ : Int32 → Int32 → Int32 → MI → MJ → Option (Int32 × M2)) (r : Int32 × M2) (Gc : Gx p s m args meth c cX10_lead 6 RX10 bs D y (some .int) 76) (hk101_ : ∀ (x1 : Int32) (x2 : Int32) (I : MI) (J : MJ) (H : Heap) (locs : List Loc) (ls : Array Slot), va_P D vwCl (wl bs y I J) H → va_S (FA bs) s.heap H locs → lv_has ls 6 [(0, .ref (bs + 44)), (1, .int x1), (2, .int x2)] → k101_ x1 x2 I J = some r → W p l e (rmm 5 117) s m args below meth c H locs 0 0 (QI below args s bs D y r) (F0 m 101 ls [])) (hk108_ : ∀ (x1 : Int32) (x2 : Int32) (x3 : Int32) (I : MI) (J : MJ) (H : Heap) (locs : List Loc) (ls : Array Slot), va_P D vwCl (wl bs y I J) H → va_S (FA bs) s.heap H locs → lv_has ls 6 [(0, .ref (bs + 44)), (1, .int x1), (2, .int x2), (3, .int x3)] → k108_ x1 x2 x3 I J = some r → W p l e (rmm 5 117) s m args below meth c H locs 0 0 (QI below args s bs D y r) (F0 m 108 ls [])) (x1 : Int32) (x2 : Int32) (x3 : Int32) (I : MI) (J : MJ) (H : Heap) (locs : List Loc) (ls : Array Slot) (hP : va_P D vwCl (wl bs y I J) H) (hS : va_S (FA bs) s.heap H locs) (hl : lv_has ls 6 [(0, .ref (bs + 44)), (1, .int x1), (2, .int x2), (3, .int x3)]) (h : fX10_lead_108 n k101_ k108_ x1 x2 x3 I J = some r) : W p l e (rmm 5 117) s m args below meth c H locs 0 0 (QI below args s bs D y r) (F0 m 108 ls []) := by
  obtain ⟨hx, hb, hml, hown, hts, hK, hN, hL, hr, hlocks, hcb⟩ := id Gc
  unfold fX10_lead_108 at h
  refine lv_iload_n hx hb dX10_lead_108 rfl (lv_at hl 3 rfl) ?_
  refine lv_aload_n hx hb dX10_lead_109 rfl (lv_at hl 0 rfl) ?_
  refine g_I (C := RX10) (T := TX10) (N := 49) (ci := 10) 44 6 hx hb hts hown hK hP in_X10 rfl hcb okF_44_6 fl_141 dX10_lead_110 ?_
  refine lv_icmp_ge (tgt := 135) hx hb dX10_lead_113 (by decide) (fun c113 => ?_) (fun c113 => ?_)
  · replace h := if_t c113 h
    refine lv_iconst (v := (0 : Int32)) hx hb dX10_lead_135 (by decide) ?_
    refine lv_istore_n (lv' := [(3, .int (0 : Int32)), (0, .ref (bs + 44)), (1, .int x1), (2, .int x2)]) hx hb dX10_lead_136 rfl hl (by decide) rfl (fun ls hl => ?_)
    refine lv_iconst (v := (0 : Int32)) hx hb dX10_lead_137 (by decide) ?_
    refine lv_istore (lv' := [(4, .int (0 : Int32)), (3, .int (0 : Int32)), (0, .ref (bs + 44)), (1, .int x1), (2, .int x2)]) hx hb dX10_lead_138 hl (by decide) rfl (fun ls hl => ?_)
    exact vX10_lead_140 bs D y n k101_ r Gc hk101_ n x1 x2 (0 : Int32) (0 : Int32) I J _ _ _ hP hS (lv_sub hl [2, 3, 4, 1, 0] rfl) h
  · replace h := if_f c113 h
    refine lv_aload_n hx hb dX10_lead_116 rfl (lv_at hl 0 rfl) ?_
    refine lv_iload_n hx hb dX10_lead_117 rfl (lv_at hl 3 rfl) ?_
    obtain ⟨r118, er118, h⟩ := bd_s1 h
    refine c_VI (k := 44) (ci := 10) (As := [.int x3]) (rest := []) hx hb hml hown hts hK hN hL hP hS (cX10_isThing_ l bs D y hcb n x3 I J r118 er118) ok_X10_isThing ov_X10_isThing ml_137 ⟨Nat.le_of_ble_eq_true rfl, Nat.le_of_ble_eq_true rfl⟩ rfl hcb kd_44 hl.1 rfl rfl (Nat.le_of_ble_eq_true rfl) ⟨Nat.zero_le _, Nat.zero_le _⟩ dX10_lead_118 (fun H locs hP hS => ?_)
    refine lv_if_eq (tgt := 129) hx hb dX10_lead_121 (by decide) (fun c121 => ?_) (fun c121 => ?_)
    · replace h := if_t c121 h
      exact wX10_lead_129 bs D y n k101_ k108_ r Gc hk101_ hk108_ x1 x2 x3 r118.2.1 r118.2.2 _ _ _ hP hS (lv_sub hl [0, 1, 2, 3] rfl) h
    · replace h := if_f c121 h
      refine lv_aload_n hx hb dX10_lead_124 rfl (lv_at hl 0 rfl) ?_
      refine lv_iload_n hx hb dX10_lead_125 rfl (lv_at hl 3 rfl) ?_
      obtain ⟨r126, er126, h⟩ := bd_s1 h
      refine c_VV (k := 44) (ci := 10) (As := [.int x3]) (rest := []) hx hb hml hown hts hK hN hL hP hS (cX10_leadWire_ l bs D y hcb n x3 r118.2.1 r118.2.2 r126 er126) ok_X10_leadWire ov_X10_leadWire ml_156 ⟨Nat.le_of_ble_eq_true rfl, Nat.le_of_ble_eq_true rfl⟩ rfl hcb kd_44 hl.1 rfl rfl (Nat.le_of_ble_eq_true rfl) ⟨Nat.zero_le _, Nat.zero_le _⟩ dX10_lead_126 (fun H locs hP hS => ?_)
      exact wX10_lead_129 bs D y n k101_ k108_ r Gc hk101_ hk108_ x1 x2 x3 r126.1 r126.2 _ _ _ hP hS (lv_sub hl [0, 1, 2, 3] rfl) h
theorem vX10_lead_108 {p : Program} {l : Launch} {e : Env} {s : State} {m : MethodId} {args : Array Value} {below : List Frame} {meth : Method} {c : Code} (bs : Nat) (D : va_G) (y : Y3) (n : Nat) (k101_ : Int32 → Int32 → MI → MJ → Option (Int32 × M2)) (r : Int32 × M2) (Gc : Gx p s m args meth c cX10_lead 6 RX10 bs D y (some .int) 76) (hk101_ : ∀ (x1 : Int32) (x2 : Int32) (I : MI) (J : MJ) (H : Heap) (locs : List Loc) (ls : Array Slot), va_P D vwCl (wl bs y I J) H → va_S (FA bs) s.heap H locs → lv_has ls 6 [(0, .ref (bs + 44)), (1, .int x1), (2, .int x2)] → k101_ x1 x2 I J = some r → W p l e (rmm 5 117) s m args below meth c H locs 0 0 (QI below args s bs D y r) (F0 m 101 ls [])) : ∀ (q : Nat) (x1 : Int32) (x2 : Int32) (x3 : Int32) (I : MI) (J : MJ) (H : Heap) (locs : List Loc) (ls : Array Slot), va_P D vwCl (wl bs y I J) H → va_S (FA bs) s.heap H locs → lv_has ls 6 [(0, .ref (bs + 44)), (1, .int x1), (2, .int x2), (3, .int x3)] → lX10_lead_108 n k101_ q x1 x2 x3 I J = some r → W p l e (rmm 5 117) s m args below meth c H locs 0 0 (QI below args s bs D y r) (F0 m 108 ls []) := by
  intro q
  induction q with
  | zero =>
    intro x1 x2 x3 I J H locs ls hP hS hl h
    have h : (none : Option (Int32 × M2)) = some r := h
    cases h
  | succ q ih =>
    intro x1 x2 x3 I J H locs ls hP hS hl h
    have h : fX10_lead_108 n k101_ (lX10_lead_108 n k101_ q) x1 x2 x3 I J = some r := h
    exact wX10_lead_108 bs D y n k101_ (lX10_lead_108 n k101_ q) r Gc hk101_ ih x1 x2 x3 I J H locs ls hP hS hl h
set_option maxHeartbeats 4000000 in
set_option maxRecDepth 100000 in
theorem wX10_lead_101 {p : Program} {l : Launch} {e : Env} {s : State} {m : MethodId} {args : Array Value} {below : List Frame} {meth : Method} {c : Code} (bs : Nat) (D : va_G) (y : Y3) (n : Nat) (k101_ : Int32 → Int32 → MI → MJ → Option (Int32 × M2)) (r : Int32 × M2) (Gc : Gx p s m args meth c cX10_lead 6 RX10 bs D y (some .int) 76) (hk101_ : ∀ (x1 : Int32) (x2 : Int32) (I : MI) (J : MJ) (H : Heap) (locs : List Loc) (ls : Array Slot), va_P D vwCl (wl bs y I J) H → va_S (FA bs) s.heap H locs → lv_has ls 6 [(0, .ref (bs + 44)), (1, .int x1), (2, .int x2)] → k101_ x1 x2 I J = some r → W p l e (rmm 5 117) s m args below meth c H locs 0 0 (QI below args s bs D y r) (F0 m 101 ls [])) (x1 : Int32) (x2 : Int32) (I : MI) (J : MJ) (H : Heap) (locs : List Loc) (ls : Array Slot) (hP : va_P D vwCl (wl bs y I J) H) (hS : va_S (FA bs) s.heap H locs) (hl : lv_has ls 6 [(0, .ref (bs + 44)), (1, .int x1), (2, .int x2)]) (h : fX10_lead_101 n k101_ x1 x2 I J = some r) : W p l e (rmm 5 117) s m args below meth c H locs 0 0 (QI below args s bs D y r) (F0 m 101 ls []) := by
  obtain ⟨hx, hb, hml, hown, hts, hK, hN, hL, hr, hlocks, hcb⟩ := id Gc
  unfold fX10_lead_101 at h
  refine lv_iload_n hx hb dX10_lead_101 rfl (lv_at hl 2 rfl) ?_
  refine lv_iload_n hx hb dX10_lead_102 rfl (lv_at hl 1 rfl) ?_
  refine lv_icmp_gt (tgt := 216) hx hb dX10_lead_103 (by decide) (fun c103 => ?_) (fun c103 => ?_)
  · replace h := if_t c103 h
    refine lv_iconst (v := (-1 : Int32)) hx hb dX10_lead_216 (by decide) ?_
    exact r_I hx hb hr hlocks hP hK hN hL hS h dX10_lead_217
  · replace h := if_f c103 h
    refine lv_iconst (v := (0 : Int32)) hx hb dX10_lead_106 (by decide) ?_
    refine lv_istore_n (lv' := [(3, .int (0 : Int32)), (0, .ref (bs + 44)), (1, .int x1), (2, .int x2)]) hx hb dX10_lead_107 rfl hl (by decide) rfl (fun ls hl => ?_)
    exact vX10_lead_108 bs D y n k101_ r Gc hk101_ n x1 x2 (0 : Int32) I J _ _ _ hP hS (lv_sub hl [1, 2, 3, 0] rfl) h
theorem vX10_lead_101 {p : Program} {l : Launch} {e : Env} {s : State} {m : MethodId} {args : Array Value} {below : List Frame} {meth : Method} {c : Code} (bs : Nat) (D : va_G) (y : Y3) (n : Nat) (r : Int32 × M2) (Gc : Gx p s m args meth c cX10_lead 6 RX10 bs D y (some .int) 76)  : ∀ (q : Nat) (x1 : Int32) (x2 : Int32) (I : MI) (J : MJ) (H : Heap) (locs : List Loc) (ls : Array Slot), va_P D vwCl (wl bs y I J) H → va_S (FA bs) s.heap H locs → lv_has ls 6 [(0, .ref (bs + 44)), (1, .int x1), (2, .int x2)] → lX10_lead_101 n  q x1 x2 I J = some r → W p l e (rmm 5 117) s m args below meth c H locs 0 0 (QI below args s bs D y r) (F0 m 101 ls []) := by
  intro q
  induction q with
  | zero =>
    intro x1 x2 I J H locs ls hP hS hl h
    have h : (none : Option (Int32 × M2)) = some r := h
    cases h
  | succ q ih =>
    intro x1 x2 I J H locs ls hP hS hl h
    have h : fX10_lead_101 n  (lX10_lead_101 n  q) x1 x2 I J = some r := h
    exact wX10_lead_101 bs D y n  (lX10_lead_101 n  q) r Gc  ih x1 x2 I J H locs ls hP hS hl h
set_option maxHeartbeats 4000000 in
set_option maxRecDepth 100000 in
theorem wX10_lead_74 {p : Program} {l : Launch} {e : Env} {s : State} {m : MethodId} {args : Array Value} {below : List Frame} {meth : Method} {c : Code} (bs : Nat) (D : va_G) (y : Y3) (n : Nat) (k74_ : Int32 → Int32 → MI → MJ → Option (Int32 × M2)) (r : Int32 × M2) (Gc : Gx p s m args meth c cX10_lead 6 RX10 bs D y (some .int) 76) (hk74_ : ∀ (x1 : Int32) (x2 : Int32) (I : MI) (J : MJ) (H : Heap) (locs : List Loc) (ls : Array Slot), va_P D vwCl (wl bs y I J) H → va_S (FA bs) s.heap H locs → lv_has ls 6 [(0, .ref (bs + 44)), (1, .int x1), (2, .int x2)] → k74_ x1 x2 I J = some r → W p l e (rmm 5 117) s m args below meth c H locs 0 0 (QI below args s bs D y r) (F0 m 74 ls [])) (x1 : Int32) (x2 : Int32) (I : MI) (J : MJ) (H : Heap) (locs : List Loc) (ls : Array Slot) (hP : va_P D vwCl (wl bs y I J) H) (hS : va_S (FA bs) s.heap H locs) (hl : lv_has ls 6 [(0, .ref (bs + 44)), (1, .int x1), (2, .int x2)]) (h : fX10_lead_74 n k74_ x1 x2 I J = some r) : W p l e (rmm 5 117) s m args below meth c H locs 0 0 (QI below args s bs D y r) (F0 m 74 ls []) := by
  obtain ⟨hx, hb, hml, hown, hts, hK, hN, hL, hr, hlocks, hcb⟩ := id Gc
  unfold fX10_lead_74 at h
  refine lv_iload_n hx hb dX10_lead_74 rfl (lv_at hl 2 rfl) ?_
  refine lv_sipush (v := (1920 : Int32)) hx hb dX10_lead_75 (by decide) ?_
  refine lv_icmp_ge (tgt := 94) hx hb dX10_lead_78 (by decide) (fun c78 => ?_) (fun c78 => ?_)
  · replace h := if_t c78 h
    refine lv_aload_n hx hb dX10_lead_94 rfl (lv_at hl 0 rfl) ?_
    refine lv_iconst (v := (1 : Int32)) hx hb dX10_lead_95 (by decide) ?_
    obtain ⟨I96, eI96, h⟩ := lt_s1 h
    refine s_I (C := RX10) (T := TX10) (N := 49) (ci := 10) (ty := .boolean) 44 13 eI96 tyX10 hx hb hts hown hK hP hS in_X10 tyX10_ok nmX10 rfl hcb okF_44_13 fl_150 rfl (by decide +kernel) (by decide) rfl dX10_lead_96 (fun H locs hP hS => ?_)
    refine lv_iconst (v := (1 : Int32)) hx hb dX10_lead_99 (by decide) ?_
    refine lv_istore_n (lv' := [(2, .int (1 : Int32)), (0, .ref (bs + 44)), (1, .int x1)]) hx hb dX10_lead_100 rfl hl (by decide) rfl (fun ls hl => ?_)
    exact vX10_lead_101 bs D y n  r Gc  n x1 (1 : Int32) I96 J _ _ _ hP hS (lv_sub hl [1, 2, 0] rfl) h
  · replace h := if_f c78 h
    refine lv_aload_n hx hb dX10_lead_81 rfl (lv_at hl 0 rfl) ?_
    refine g_R (C := RX10) (T := TX10) (N := 49) (ci := 10) 44 30 62 hx hb hts hown hK hP in_X10 rfl hcb okF_44_30 rfc_44_30 fl_178 dX10_lead_82 ?_
    refine lv_iload_n hx hb dX10_lead_85 rfl (lv_at hl 2 rfl) ?_
    refine lv_iconst (v := (0 : Int32)) hx hb dX10_lead_86 (by decide) ?_
    obtain ⟨hi87, h⟩ := if_s1 h
    obtain ⟨I87, eI87, h⟩ := lt_s1 h
    refine t_Z 62 eI87 hx hb hK hP hS hcb alZ_62 hi87 dX10_lead_87 (fun H locs hP hS => ?_)
    refine lv_iinc (v := (x2 + (1 : Int32))) (lv' := [(2, .int (x2 + (1 : Int32))), (0, .ref (bs + 44)), (1, .int x1)]) hx hb dX10_lead_88 hl (k := 2) rfl rfl (by decide) rfl (fun ls hl => ?_)
    refine lv_goto (tgt := 74) hx hb dX10_lead_91 (by decide) ?_
    exact hk74_ x1 (x2 + (1 : Int32)) I87 J _ _ _ hP hS (lv_sub hl [1, 2, 0] rfl) h
theorem vX10_lead_74 {p : Program} {l : Launch} {e : Env} {s : State} {m : MethodId} {args : Array Value} {below : List Frame} {meth : Method} {c : Code} (bs : Nat) (D : va_G) (y : Y3) (n : Nat) (r : Int32 × M2) (Gc : Gx p s m args meth c cX10_lead 6 RX10 bs D y (some .int) 76)  : ∀ (q : Nat) (x1 : Int32) (x2 : Int32) (I : MI) (J : MJ) (H : Heap) (locs : List Loc) (ls : Array Slot), va_P D vwCl (wl bs y I J) H → va_S (FA bs) s.heap H locs → lv_has ls 6 [(0, .ref (bs + 44)), (1, .int x1), (2, .int x2)] → lX10_lead_74 n  q x1 x2 I J = some r → W p l e (rmm 5 117) s m args below meth c H locs 0 0 (QI below args s bs D y r) (F0 m 74 ls []) := by
  intro q
  induction q with
  | zero =>
    intro x1 x2 I J H locs ls hP hS hl h
    have h : (none : Option (Int32 × M2)) = some r := h
    cases h
  | succ q ih =>
    intro x1 x2 I J H locs ls hP hS hl h
    have h : fX10_lead_74 n  (lX10_lead_74 n  q) x1 x2 I J = some r := h
    exact wX10_lead_74 bs D y n  (lX10_lead_74 n  q) r Gc  ih x1 x2 I J H locs ls hP hS hl h
set_option maxHeartbeats 4000000 in
set_option maxRecDepth 100000 in
theorem wX10_lead_46 {p : Program} {l : Launch} {e : Env} {s : State} {m : MethodId} {args : Array Value} {below : List Frame} {meth : Method} {c : Code} (bs : Nat) (D : va_G) (y : Y3) (n : Nat) (k46_ : Int32 → Int32 → MI → MJ → Option (Int32 × M2)) (r : Int32 × M2) (Gc : Gx p s m args meth c cX10_lead 6 RX10 bs D y (some .int) 76) (hk46_ : ∀ (x1 : Int32) (x2 : Int32) (I : MI) (J : MJ) (H : Heap) (locs : List Loc) (ls : Array Slot), va_P D vwCl (wl bs y I J) H → va_S (FA bs) s.heap H locs → lv_has ls 6 [(0, .ref (bs + 44)), (1, .int x1), (2, .int x2)] → k46_ x1 x2 I J = some r → W p l e (rmm 5 117) s m args below meth c H locs 0 0 (QI below args s bs D y r) (F0 m 46 ls [])) (x1 : Int32) (x2 : Int32) (I : MI) (J : MJ) (H : Heap) (locs : List Loc) (ls : Array Slot) (hP : va_P D vwCl (wl bs y I J) H) (hS : va_S (FA bs) s.heap H locs) (hl : lv_has ls 6 [(0, .ref (bs + 44)), (1, .int x1), (2, .int x2)]) (h : fX10_lead_46 n k46_ x1 x2 I J = some r) : W p l e (rmm 5 117) s m args below meth c H locs 0 0 (QI below args s bs D y r) (F0 m 46 ls []) := by
  obtain ⟨hx, hb, hml, hown, hts, hK, hN, hL, hr, hlocks, hcb⟩ := id Gc
  unfold fX10_lead_46 at h
  refine lv_iload_n hx hb dX10_lead_46 rfl (lv_at hl 2 rfl) ?_
  refine lv_bipush (v := (60 : Int32)) hx hb dX10_lead_47 (by decide) ?_
  refine lv_icmp_ge (tgt := 72) hx hb dX10_lead_49 (by decide) (fun c49 => ?_) (fun c49 => ?_)
  · replace h := if_t c49 h
    refine lv_iconst (v := (0 : Int32)) hx hb dX10_lead_72 (by decide) ?_
    refine lv_istore_n (lv' := [(2, .int (0 : Int32)), (0, .ref (bs + 44)), (1, .int x1)]) hx hb dX10_lead_73 rfl hl (by decide) rfl (fun ls hl => ?_)
    exact vX10_lead_74 bs D y n  r Gc  n x1 (0 : Int32) I J _ _ _ hP hS (lv_sub hl [1, 2, 0] rfl) h
  · replace h := if_f c49 h
    refine lv_aload_n hx hb dX10_lead_52 rfl (lv_at hl 0 rfl) ?_
    refine g_R (C := RX10) (T := TX10) (N := 49) (ci := 10) 44 32 64 hx hb hts hown hK hP in_X10 rfl hcb okF_44_32 rfc_44_32 fl_175 dX10_lead_53 ?_
    refine lv_iload_n hx hb dX10_lead_56 rfl (lv_at hl 2 rfl) ?_
    refine lv_iconst (v := (0 : Int32)) hx hb dX10_lead_57 (by decide) ?_
    obtain ⟨hi58, h⟩ := if_s1 h
    obtain ⟨I58, eI58, h⟩ := lt_s1 h
    refine t_I 64 eI58 hx hb hK hP hS hcb aln_64 hi58 dX10_lead_58 (fun H locs hP hS => ?_)
    refine lv_aload_n hx hb dX10_lead_59 rfl (lv_at hl 0 rfl) ?_
    refine g_R (C := RX10) (T := TX10) (N := 49) (ci := 10) 44 31 63 hx hb hts hown hK hP in_X10 rfl hcb okF_44_31 rfc_44_31 fl_174 dX10_lead_60 ?_
    refine lv_iload_n hx hb dX10_lead_63 rfl (lv_at hl 2 rfl) ?_
    refine lv_iconst (v := (0 : Int32)) hx hb dX10_lead_64 (by decide) ?_
    obtain ⟨hi65, h⟩ := if_s1 h
    obtain ⟨I65, eI65, h⟩ := lt_s1 h
    refine t_I 63 eI65 hx hb hK hP hS hcb aln_63 hi65 dX10_lead_65 (fun H locs hP hS => ?_)
    refine lv_iinc (v := (x2 + (1 : Int32))) (lv' := [(2, .int (x2 + (1 : Int32))), (0, .ref (bs + 44)), (1, .int x1)]) hx hb dX10_lead_66 hl (k := 2) rfl rfl (by decide) rfl (fun ls hl => ?_)
    refine lv_goto (tgt := 46) hx hb dX10_lead_69 (by decide) ?_
    exact hk46_ x1 (x2 + (1 : Int32)) I65 J _ _ _ hP hS (lv_sub hl [1, 2, 0] rfl) h
theorem vX10_lead_46 {p : Program} {l : Launch} {e : Env} {s : State} {m : MethodId} {args : Array Value} {below : List Frame} {meth : Method} {c : Code} (bs : Nat) (D : va_G) (y : Y3) (n : Nat) (r : Int32 × M2) (Gc : Gx p s m args meth c cX10_lead 6 RX10 bs D y (some .int) 76)  : ∀ (q : Nat) (x1 : Int32) (x2 : Int32) (I : MI) (J : MJ) (H : Heap) (locs : List Loc) (ls : Array Slot), va_P D vwCl (wl bs y I J) H → va_S (FA bs) s.heap H locs → lv_has ls 6 [(0, .ref (bs + 44)), (1, .int x1), (2, .int x2)] → lX10_lead_46 n  q x1 x2 I J = some r → W p l e (rmm 5 117) s m args below meth c H locs 0 0 (QI below args s bs D y r) (F0 m 46 ls []) := by
  intro q
  induction q with
  | zero =>
    intro x1 x2 I J H locs ls hP hS hl h
    have h : (none : Option (Int32 × M2)) = some r := h
    cases h
  | succ q ih =>
    intro x1 x2 I J H locs ls hP hS hl h
    have h : fX10_lead_46 n  (lX10_lead_46 n  q) x1 x2 I J = some r := h
    exact wX10_lead_46 bs D y n  (lX10_lead_46 n  q) r Gc  ih x1 x2 I J H locs ls hP hS hl h
set_option maxHeartbeats 4000000 in
set_option maxRecDepth 100000 in
theorem cX10_lead_ (l : Launch) (bs : Nat) (D : va_G) (y : Y3) (hcb : 76 ≤ y.2.2.2) (n : Nat) (x1 : Int32) (I : MI) (J : MJ) (r : Int32 × M2) (h : fX10_lead n x1 I J = some r) : Met l yX10_lead (.code yX10_lead cX10_lead 6 (some .int) :: gtb) (rmm 5 117) (va_Pc [.ref (bs + 44), .int x1] (HB bs D y I J)) (QcI bs D y r) 0 0 (FA bs) := by
  refine Met.ofW (cc := cX10_lead) (maxL := 6) (ret := (some .int)) (by decide) rfl ?_
  intro p e s m args below meth c s₁ B hml hv
  obtain ⟨rfl, hP, hK, hN, hL⟩ := hv
  have hx := B.exec
  have hb := B.bytes
  have hr := B.returns
  have hts0 := atoms_spec (ws := .code yX10_lead cX10_lead 6 (some .int) :: gtb) B.pre
  have hts : ∀ w ∈ gtb, w.before [.ref (bs + 44), .int x1].toArray s = true := fun w hw => hts0 w (List.mem_cons_of_mem _ hw)
  have hown : s.vm.findClass RX10 = some m.cls := findClass_of_methodNamed B.named
  have hlocks := B.notSynchronized
  have hS : va_S (FA bs) s.heap s.heap [] := va_S.rf
  have Gc : Gx p s m [.ref (bs + 44), .int x1].toArray meth c cX10_lead 6 RX10 bs D y (some .int) 76 := ⟨hx, hb, hml, hown, hts, hK, hN, hL, hr, hlocks, hcb⟩
  have hl := lv_entry [.ref (bs + 44), .int x1] (n := 6) (Nat.le_of_ble_eq_true rfl)
  rw [lg_entry_eq]
  generalize (lg_sl [.ref (bs + 44), .int x1] ++ List.replicate (6 - (lg_sl [.ref (bs + 44), .int x1]).length) Slot.unset).toArray = ls at hl ⊢
  have hl : lv_has ls 6 [(0, .ref (bs + 44)), (1, .int x1)] := hl
  change W p l e (rmm 5 117) s m [.ref (bs + 44), .int x1].toArray below meth c s.heap [] 0 0 (QI below [.ref (bs + 44), .int x1].toArray s bs D y r) (F0 m 0 ls [])
  unfold fX10_lead at h
  refine lv_iload_n hx hb dX10_lead_0 rfl (lv_at hl 1 rfl) ?_
  refine lv_if_ge (tgt := 11) hx hb dX10_lead_1 (by decide) (fun c1 => ?_) (fun c1 => ?_)
  · replace h := if_t c1 h
    refine lv_iload_n hx hb dX10_lead_11 rfl (lv_at hl 1 rfl) ?_
    refine lv_i2l (v := (x1).toInt64) hx hb dX10_lead_12 rfl ?_
    refine lv_lconst (v := (1 : Int64)) hx hb dX10_lead_13 (by decide) ?_
    refine lv_ldc2 hx hb hown (hts _ cl_17) dX10_lead_14 ?_
    obtain ⟨r17, er17, h⟩ := bd_s1 h
    refine c_SI (As := [.long (x1).toInt64, .long (1 : Int64), .long (40 : Int64)]) (rest := []) hx hb hml hown hts hK hN hL hP hS (cX10_isIn_ l bs D y hcb n (x1).toInt64 (1 : Int64) (40 : Int64) I J r17 er17) ok_X10_isIn ov_X10_isIn ml_120 ⟨Nat.le_of_ble_eq_true rfl, Nat.le_of_ble_eq_true rfl⟩ hl.1 rfl rfl (Nat.le_of_ble_eq_true rfl) ⟨Nat.zero_le _, Nat.zero_le _⟩ dX10_lead_17 (fun H locs hP hS => ?_)
    refine lv_if_ne (tgt := 30) hx hb dX10_lead_20 (by decide) (fun c20 => ?_) (fun c20 => ?_)
    · replace h := if_f c20 h
      refine lv_aload_n hx hb dX10_lead_30 rfl (lv_at hl 0 rfl) ?_
      refine g_I (C := RX10) (T := TX10) (N := 49) (ci := 10) 44 12 hx hb hts hown hK hP in_X10 rfl hcb okF_44_12 fl_149 dX10_lead_31 ?_
      refine lv_if_ne (tgt := 44) hx hb dX10_lead_34 (by decide) (fun c34 => ?_) (fun c34 => ?_)
      · replace h := if_f c34 h
        refine lv_iconst (v := (0 : Int32)) hx hb dX10_lead_44 (by decide) ?_
        refine lv_istore_n (lv' := [(2, .int (0 : Int32)), (0, .ref (bs + 44)), (1, .int x1)]) hx hb dX10_lead_45 rfl hl (by decide) rfl (fun ls hl => ?_)
        exact vX10_lead_46 bs D y n  r Gc  n x1 (0 : Int32) r17.2.1 r17.2.2 _ _ _ hP hS (lv_sub hl [1, 2, 0] rfl) h
      · replace h := if_t c34 h
        refine lv_aload_n hx hb dX10_lead_37 rfl (lv_at hl 0 rfl) ?_
        refine lv_bipush (v := (-2 : Int32)) hx hb dX10_lead_38 (by decide) ?_
        obtain ⟨r40, er40, h⟩ := bd_s1 h
        refine c_VI (k := 44) (ci := 10) (As := [.int (-2 : Int32)]) (rest := []) hx hb hml hown hts hK hN hL hP hS (cX10_no_ l bs D y hcb n (-2 : Int32) r17.2.1 r17.2.2 r40 er40) ok_X10_no ov_X10_no ml_118 ⟨Nat.le_of_ble_eq_true rfl, Nat.le_of_ble_eq_true rfl⟩ rfl hcb kd_44 hl.1 rfl rfl (Nat.le_of_ble_eq_true rfl) ⟨Nat.zero_le _, Nat.zero_le _⟩ dX10_lead_40 (fun H locs hP hS => ?_)
        exact r_I hx hb hr hlocks hP hK hN hL hS h dX10_lead_43
    · replace h := if_t c20 h
      refine lv_aload_n hx hb dX10_lead_23 rfl (lv_at hl 0 rfl) ?_
      refine lv_bipush (v := (-7 : Int32)) hx hb dX10_lead_24 (by decide) ?_
      obtain ⟨r26, er26, h⟩ := bd_s1 h
      refine c_VI (k := 44) (ci := 10) (As := [.int (-7 : Int32)]) (rest := []) hx hb hml hown hts hK hN hL hP hS (cX10_no_ l bs D y hcb n (-7 : Int32) r17.2.1 r17.2.2 r26 er26) ok_X10_no ov_X10_no ml_118 ⟨Nat.le_of_ble_eq_true rfl, Nat.le_of_ble_eq_true rfl⟩ rfl hcb kd_44 hl.1 rfl rfl (Nat.le_of_ble_eq_true rfl) ⟨Nat.zero_le _, Nat.zero_le _⟩ dX10_lead_26 (fun H locs hP hS => ?_)
      exact r_I hx hb hr hlocks hP hK hN hL hS h dX10_lead_29
  · replace h := if_f c1 h
    refine lv_aload_n hx hb dX10_lead_4 rfl (lv_at hl 0 rfl) ?_
    refine lv_bipush (v := (-4 : Int32)) hx hb dX10_lead_5 (by decide) ?_
    obtain ⟨r7, er7, h⟩ := bd_s1 h
    refine c_VI (k := 44) (ci := 10) (As := [.int (-4 : Int32)]) (rest := []) hx hb hml hown hts hK hN hL hP hS (cX10_no_ l bs D y hcb n (-4 : Int32) I J r7 er7) ok_X10_no ov_X10_no ml_118 ⟨Nat.le_of_ble_eq_true rfl, Nat.le_of_ble_eq_true rfl⟩ rfl hcb kd_44 hl.1 rfl rfl (Nat.le_of_ble_eq_true rfl) ⟨Nat.zero_le _, Nat.zero_le _⟩ dX10_lead_7 (fun H locs hP hS => ?_)
    exact r_I hx hb hr hlocks hP hK hN hL hS h dX10_lead_10
