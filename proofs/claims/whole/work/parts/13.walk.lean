/-! walks: J7_fill_d0a16 X8_takeOff X8_setPrices X8_plantTree X8_relax X8_measure X8_joinTree X8_goBack X8_leadWire X8_addPasts X8_leadAll X8_jointOf X8_longestOf X8_longestOfAll X9_within X9_refuse X9_forgetWays X9_forgetPlaces X9_forgetTables X9_input X9_keeper -/
theorem dJ7_fill_d0a16_0 : decode cJ7_fill_d0a16 0 = .ok (.iconst 0, 1) := by decide +kernel
theorem dJ7_fill_d0a16_1 : decode cJ7_fill_d0a16 1 = .ok (.istore_n 3, 1) := by decide +kernel
theorem dJ7_fill_d0a16_2 : decode cJ7_fill_d0a16 2 = .ok (.aload_n 0, 1) := by decide +kernel
theorem dJ7_fill_d0a16_3 : decode cJ7_fill_d0a16 3 = .ok (.arraylength, 1) := by decide +kernel
theorem dJ7_fill_d0a16_4 : decode cJ7_fill_d0a16 4 = .ok (.istore 4, 2) := by decide +kernel
theorem dJ7_fill_d0a16_6 : decode cJ7_fill_d0a16 6 = .ok (.iload_n 3, 1) := by decide +kernel
theorem dJ7_fill_d0a16_7 : decode cJ7_fill_d0a16 7 = .ok (.iload 4, 2) := by decide +kernel
theorem dJ7_fill_d0a16_9 : decode cJ7_fill_d0a16 9 = .ok (.if_icmp .ge 13, 3) := by decide +kernel
theorem dJ7_fill_d0a16_12 : decode cJ7_fill_d0a16 12 = .ok (.aload_n 0, 1) := by decide +kernel
theorem dJ7_fill_d0a16_13 : decode cJ7_fill_d0a16 13 = .ok (.iload_n 3, 1) := by decide +kernel
theorem dJ7_fill_d0a16_14 : decode cJ7_fill_d0a16 14 = .ok (.lload_n 1, 1) := by decide +kernel
theorem dJ7_fill_d0a16_15 : decode cJ7_fill_d0a16 15 = .ok (.lastore, 1) := by decide +kernel
theorem dJ7_fill_d0a16_16 : decode cJ7_fill_d0a16 16 = .ok (.iinc 3 1, 3) := by decide +kernel
theorem dJ7_fill_d0a16_19 : decode cJ7_fill_d0a16 19 = .ok (.goto (-13), 3) := by decide +kernel
theorem dJ7_fill_d0a16_22 : decode cJ7_fill_d0a16 22 = .ok (.return_, 1) := by decide +kernel
set_option maxHeartbeats 4000000 in
set_option maxRecDepth 100000 in
theorem wJ7_fill_d0a16_6 {p : Program} {l : Launch} {e : Env} {s : State} {m : MethodId} {args : Array Value} {below : List Frame} {meth : Method} {c : Code} (bs : Nat) (D : va_G) (y : Y3) (n : Nat) (k6_ : Nat → Int64 → Int32 → Int32 → MI → MJ → Option (M2)) (r : M2) (Gc : Gx p s m args meth c cJ7_fill_d0a16 5 RJ7 bs D y none 44) (hk6_ : ∀ (k0 : Nat) (x1 : Int64) (x3 : Int32) (x4 : Int32) (I : MI) (J : MJ) (H : Heap) (locs : List Loc) (ls : Array Slot), va_P D vwCl (wl bs y I J) H → va_S (FA bs) s.heap H locs → lv_has ls 5 [(0, .ref (bs + k0)), (1, .long x1), (3, .int x3), (4, .int x4)] → k6_ k0 x1 x3 x4 I J = some r → W p l e (rmm 0 0) s m args below meth c H locs 0 0 (QV below args s bs D y r) (F0 m 6 ls [])) (k0 : Nat) (x1 : Int64) (x3 : Int32) (x4 : Int32) (I : MI) (J : MJ) (H : Heap) (locs : List Loc) (ls : Array Slot) (hP : va_P D vwCl (wl bs y I J) H) (hS : va_S (FA bs) s.heap H locs) (hl : lv_has ls 5 [(0, .ref (bs + k0)), (1, .long x1), (3, .int x3), (4, .int x4)]) (h : fJ7_fill_d0a16_6 n k6_ k0 x1 x3 x4 I J = some r) : W p l e (rmm 0 0) s m args below meth c H locs 0 0 (QV below args s bs D y r) (F0 m 6 ls []) := by
  obtain ⟨hx, hb, hml, hown, hts, hK, hN, hL, hr, hlocks, hcb⟩ := id Gc
  unfold fJ7_fill_d0a16_6 at h
  refine lv_iload_n hx hb dJ7_fill_d0a16_6 rfl (lv_at hl 2 rfl) ?_
  refine lv_iload hx hb dJ7_fill_d0a16_7 (lv_at hl 3 rfl) ?_
  refine lv_icmp_ge (tgt := 22) hx hb dJ7_fill_d0a16_9 (by decide) (fun c9 => ?_) (fun c9 => ?_)
  · replace h := if_t c9 h
    exact r_V hx hb hr hlocks hP hK hN hL hS h dJ7_fill_d0a16_22
  · replace h := if_f c9 h
    refine lv_aload_n hx hb dJ7_fill_d0a16_12 rfl (lv_at hl 0 rfl) ?_
    refine lv_iload_n hx hb dJ7_fill_d0a16_13 rfl (lv_at hl 2 rfl) ?_
    refine lv_lload_n hx hb dJ7_fill_d0a16_14 rfl (lv_at hl 1 rfl) ?_
    obtain ⟨hi15, h⟩ := if_s1 h
    obtain ⟨J15, eJ15, h⟩ := lt_s1 h
    refine t_J k0 eJ15 hx hb hK hP hS hcb rfl hi15 dJ7_fill_d0a16_15 (fun H locs hP hS => ?_)
    refine lv_iinc (v := (x3 + (1 : Int32))) (lv' := [(3, .int (x3 + (1 : Int32))), (0, .ref (bs + k0)), (1, .long x1), (4, .int x4)]) hx hb dJ7_fill_d0a16_16 hl (k := 2) rfl rfl (by decide) rfl (fun ls hl => ?_)
    refine lv_goto (tgt := 6) hx hb dJ7_fill_d0a16_19 (by decide) ?_
    exact hk6_ k0 x1 (x3 + (1 : Int32)) x4 I J15 _ _ _ hP hS (lv_sub hl [1, 2, 0, 3] rfl) h
theorem vJ7_fill_d0a16_6 {p : Program} {l : Launch} {e : Env} {s : State} {m : MethodId} {args : Array Value} {below : List Frame} {meth : Method} {c : Code} (bs : Nat) (D : va_G) (y : Y3) (n : Nat) (r : M2) (Gc : Gx p s m args meth c cJ7_fill_d0a16 5 RJ7 bs D y none 44)  : ∀ (q : Nat) (k0 : Nat) (x1 : Int64) (x3 : Int32) (x4 : Int32) (I : MI) (J : MJ) (H : Heap) (locs : List Loc) (ls : Array Slot), va_P D vwCl (wl bs y I J) H → va_S (FA bs) s.heap H locs → lv_has ls 5 [(0, .ref (bs + k0)), (1, .long x1), (3, .int x3), (4, .int x4)] → lJ7_fill_d0a16_6 n  q k0 x1 x3 x4 I J = some r → W p l e (rmm 0 0) s m args below meth c H locs 0 0 (QV below args s bs D y r) (F0 m 6 ls []) := by
  intro q
  induction q with
  | zero =>
    intro k0 x1 x3 x4 I J H locs ls hP hS hl h
    have h : (none : Option (M2)) = some r := h
    cases h
  | succ q ih =>
    intro k0 x1 x3 x4 I J H locs ls hP hS hl h
    have h : fJ7_fill_d0a16_6 n  (lJ7_fill_d0a16_6 n  q) k0 x1 x3 x4 I J = some r := h
    exact wJ7_fill_d0a16_6 bs D y n  (lJ7_fill_d0a16_6 n  q) r Gc  ih k0 x1 x3 x4 I J H locs ls hP hS hl h
set_option maxHeartbeats 4000000 in
set_option maxRecDepth 100000 in
theorem cJ7_fill_d0a16_ (l : Launch) (bs : Nat) (D : va_G) (y : Y3) (hcb : 44 ≤ y.2.2.2) (n : Nat) (k0 : Nat) (x1 : Int64) (I : MI) (J : MJ) (r : M2) (h : fJ7_fill_d0a16 n k0 x1 I J = some r) : Met l yJ7_fill_d0a16 (.code yJ7_fill_d0a16 cJ7_fill_d0a16 5 none :: gtb) (rmm 0 0) (va_Pc [.ref (bs + k0), .long x1] (HB bs D y I J)) (QcV bs D y r) 0 0 (FA bs) := by
  refine Met.ofW (cc := cJ7_fill_d0a16) (maxL := 5) (ret := none) (by decide) rfl ?_
  intro p e s m args below meth c s₁ B hml hv
  obtain ⟨rfl, hP, hK, hN, hL⟩ := hv
  have hx := B.exec
  have hb := B.bytes
  have hr := B.returns
  have hts0 := atoms_spec (ws := .code yJ7_fill_d0a16 cJ7_fill_d0a16 5 none :: gtb) B.pre
  have hts : ∀ w ∈ gtb, w.before [.ref (bs + k0), .long x1].toArray s = true := fun w hw => hts0 w (List.mem_cons_of_mem _ hw)
  have hown : s.vm.findClass RJ7 = some m.cls := findClass_of_methodNamed B.named
  have hlocks := B.notSynchronized
  have hS : va_S (FA bs) s.heap s.heap [] := va_S.rf
  have Gc : Gx p s m [.ref (bs + k0), .long x1].toArray meth c cJ7_fill_d0a16 5 RJ7 bs D y none 44 := ⟨hx, hb, hml, hown, hts, hK, hN, hL, hr, hlocks, hcb⟩
  have hl := lv_entry [.ref (bs + k0), .long x1] (n := 5) (Nat.le_of_ble_eq_true rfl)
  rw [lg_entry_eq]
  generalize (lg_sl [.ref (bs + k0), .long x1] ++ List.replicate (5 - (lg_sl [.ref (bs + k0), .long x1]).length) Slot.unset).toArray = ls at hl ⊢
  have hl : lv_has ls 5 [(0, .ref (bs + k0)), (1, .long x1)] := hl
  change W p l e (rmm 0 0) s m [.ref (bs + k0), .long x1].toArray below meth c s.heap [] 0 0 (QV below [.ref (bs + k0), .long x1].toArray s bs D y r) (F0 m 0 ls [])
  unfold fJ7_fill_d0a16 at h
  refine lv_iconst (v := (0 : Int32)) hx hb dJ7_fill_d0a16_0 (by decide) ?_
  refine lv_istore_n (lv' := [(3, .int (0 : Int32)), (0, .ref (bs + k0)), (1, .long x1)]) hx hb dJ7_fill_d0a16_1 rfl hl (by decide) rfl (fun ls hl => ?_)
  refine lv_aload_n hx hb dJ7_fill_d0a16_2 rfl (lv_at hl 1 rfl) ?_
  obtain ⟨hz3, h⟩ := if_s1 h
  refine a_lenJ k0 hx hb hK hP hcb rfl (of_decide_eq_true hz3) rfl dJ7_fill_d0a16_3 ?_
  obtain ⟨v4, ev4, h⟩ := lt_s1 h
  refine top_i ev4 ?_
  refine lv_istore (lv' := [(4, .int v4), (3, .int (0 : Int32)), (0, .ref (bs + k0)), (1, .long x1)]) hx hb dJ7_fill_d0a16_4 hl (by decide) rfl (fun ls hl => ?_)
  exact vJ7_fill_d0a16_6 bs D y n  r Gc  n k0 x1 (0 : Int32) v4 I J _ _ _ hP hS (lv_sub hl [2, 3, 1, 0] rfl) h
theorem dX8_takeOff_0 : decode cX8_takeOff 0 = .ok (.iconst 0, 1) := by decide +kernel
theorem dX8_takeOff_1 : decode cX8_takeOff 1 = .ok (.istore_n 3, 1) := by decide +kernel
theorem dX8_takeOff_2 : decode cX8_takeOff 2 = .ok (.iload_n 3, 1) := by decide +kernel
theorem dX8_takeOff_3 : decode cX8_takeOff 3 = .ok (.aload_n 2, 1) := by decide +kernel
theorem dX8_takeOff_4 : decode cX8_takeOff 4 = .ok (.getfield 58, 3) := by decide +kernel
theorem dX8_takeOff_7 : decode cX8_takeOff 7 = .ok (.if_icmp .ge 32, 3) := by decide +kernel
theorem dX8_takeOff_10 : decode cX8_takeOff 10 = .ok (.aload_n 0, 1) := by decide +kernel
theorem dX8_takeOff_11 : decode cX8_takeOff 11 = .ok (.getfield 18, 3) := by decide +kernel
theorem dX8_takeOff_14 : decode cX8_takeOff 14 = .ok (.iload_n 1, 1) := by decide +kernel
theorem dX8_takeOff_15 : decode cX8_takeOff 15 = .ok (.laload, 1) := by decide +kernel
theorem dX8_takeOff_16 : decode cX8_takeOff 16 = .ok (.iload_n 3, 1) := by decide +kernel
theorem dX8_takeOff_17 : decode cX8_takeOff 17 = .ok (.invokestatic 88, 3) := by decide +kernel
theorem dX8_takeOff_20 : decode cX8_takeOff 20 = .ok (.ifCond .eq 13, 3) := by decide +kernel
theorem dX8_takeOff_23 : decode cX8_takeOff 23 = .ok (.aload_n 0, 1) := by decide +kernel
theorem dX8_takeOff_24 : decode cX8_takeOff 24 = .ok (.getfield 9, 3) := by decide +kernel
theorem dX8_takeOff_27 : decode cX8_takeOff 27 = .ok (.iload_n 3, 1) := by decide +kernel
theorem dX8_takeOff_28 : decode cX8_takeOff 28 = .ok (.dup2, 1) := by decide +kernel
theorem dX8_takeOff_29 : decode cX8_takeOff 29 = .ok (.iaload, 1) := by decide +kernel
theorem dX8_takeOff_30 : decode cX8_takeOff 30 = .ok (.iconst 1, 1) := by decide +kernel
theorem dX8_takeOff_31 : decode cX8_takeOff 31 = .ok (.isub, 1) := by decide +kernel
theorem dX8_takeOff_32 : decode cX8_takeOff 32 = .ok (.iastore, 1) := by decide +kernel
theorem dX8_takeOff_33 : decode cX8_takeOff 33 = .ok (.iinc 3 1, 3) := by decide +kernel
theorem dX8_takeOff_36 : decode cX8_takeOff 36 = .ok (.goto (-34), 3) := by decide +kernel
theorem dX8_takeOff_39 : decode cX8_takeOff 39 = .ok (.aload_n 0, 1) := by decide +kernel
theorem dX8_takeOff_40 : decode cX8_takeOff 40 = .ok (.getfield 18, 3) := by decide +kernel
theorem dX8_takeOff_43 : decode cX8_takeOff 43 = .ok (.iload_n 1, 1) := by decide +kernel
theorem dX8_takeOff_44 : decode cX8_takeOff 44 = .ok (.lconst 0, 1) := by decide +kernel
theorem dX8_takeOff_45 : decode cX8_takeOff 45 = .ok (.lastore, 1) := by decide +kernel
theorem dX8_takeOff_46 : decode cX8_takeOff 46 = .ok (.return_, 1) := by decide +kernel
set_option maxHeartbeats 4000000 in
set_option maxRecDepth 100000 in
theorem wX8_takeOff_33 {p : Program} {l : Launch} {e : Env} {s : State} {m : MethodId} {args : Array Value} {below : List Frame} {meth : Method} {c : Code} (bs : Nat) (D : va_G) (y : Y3) (n : Nat) (k2_ : Int32 → Int32 → MI → MJ → Option (M2)) (r : M2) (Gc : Gx p s m args meth c cX8_takeOff 4 RX8 bs D y none 44) (hk2_ : ∀ (x1 : Int32) (x3 : Int32) (I : MI) (J : MJ) (H : Heap) (locs : List Loc) (ls : Array Slot), va_P D vwCl (wl bs y I J) H → va_S (FA bs) s.heap H locs → lv_has ls 4 [(0, .ref (bs + 28)), (1, .int x1), (2, .ref (bs + 16)), (3, .int x3)] → k2_ x1 x3 I J = some r → W p l e (rmm 1 22) s m args below meth c H locs 0 0 (QV below args s bs D y r) (F0 m 2 ls [])) (x1 : Int32) (x3 : Int32) (I : MI) (J : MJ) (H : Heap) (locs : List Loc) (ls : Array Slot) (hP : va_P D vwCl (wl bs y I J) H) (hS : va_S (FA bs) s.heap H locs) (hl : lv_has ls 4 [(0, .ref (bs + 28)), (1, .int x1), (2, .ref (bs + 16)), (3, .int x3)]) (h : fX8_takeOff_33 n k2_ x1 x3 I J = some r) : W p l e (rmm 1 22) s m args below meth c H locs 0 0 (QV below args s bs D y r) (F0 m 33 ls []) := by
  obtain ⟨hx, hb, hml, hown, hts, hK, hN, hL, hr, hlocks, hcb⟩ := id Gc
  unfold fX8_takeOff_33 at h
  refine lv_iinc (v := (x3 + (1 : Int32))) (lv' := [(3, .int (x3 + (1 : Int32))), (0, .ref (bs + 28)), (1, .int x1), (2, .ref (bs + 16))]) hx hb dX8_takeOff_33 hl (k := 3) rfl rfl (by decide) rfl (fun ls hl => ?_)
  refine lv_goto (tgt := 2) hx hb dX8_takeOff_36 (by decide) ?_
  exact hk2_ x1 (x3 + (1 : Int32)) I J _ _ _ hP hS (lv_sub hl [1, 2, 3, 0] rfl) h
set_option maxHeartbeats 4000000 in
set_option maxRecDepth 100000 in
theorem wX8_takeOff_2 {p : Program} {l : Launch} {e : Env} {s : State} {m : MethodId} {args : Array Value} {below : List Frame} {meth : Method} {c : Code} (bs : Nat) (D : va_G) (y : Y3) (n : Nat) (k2_ : Int32 → Int32 → MI → MJ → Option (M2)) (r : M2) (Gc : Gx p s m args meth c cX8_takeOff 4 RX8 bs D y none 44) (hk2_ : ∀ (x1 : Int32) (x3 : Int32) (I : MI) (J : MJ) (H : Heap) (locs : List Loc) (ls : Array Slot), va_P D vwCl (wl bs y I J) H → va_S (FA bs) s.heap H locs → lv_has ls 4 [(0, .ref (bs + 28)), (1, .int x1), (2, .ref (bs + 16)), (3, .int x3)] → k2_ x1 x3 I J = some r → W p l e (rmm 1 22) s m args below meth c H locs 0 0 (QV below args s bs D y r) (F0 m 2 ls [])) (x1 : Int32) (x3 : Int32) (I : MI) (J : MJ) (H : Heap) (locs : List Loc) (ls : Array Slot) (hP : va_P D vwCl (wl bs y I J) H) (hS : va_S (FA bs) s.heap H locs) (hl : lv_has ls 4 [(0, .ref (bs + 28)), (1, .int x1), (2, .ref (bs + 16)), (3, .int x3)]) (h : fX8_takeOff_2 n k2_ x1 x3 I J = some r) : W p l e (rmm 1 22) s m args below meth c H locs 0 0 (QV below args s bs D y r) (F0 m 2 ls []) := by
  obtain ⟨hx, hb, hml, hown, hts, hK, hN, hL, hr, hlocks, hcb⟩ := id Gc
  unfold fX8_takeOff_2 at h
  refine lv_iload_n hx hb dX8_takeOff_2 rfl (lv_at hl 3 rfl) ?_
  refine lv_aload_n hx hb dX8_takeOff_3 rfl (lv_at hl 2 rfl) ?_
  refine g_I (C := RX2) (T := TX2) (N := 10) (ci := 2) 16 2 hx hb hts hown hK hP in_X2 rfl hcb okF_16_2 fl_82 dX8_takeOff_4 ?_
  refine lv_icmp_ge (tgt := 39) hx hb dX8_takeOff_7 (by decide) (fun c7 => ?_) (fun c7 => ?_)
  · replace h := if_t c7 h
    refine lv_aload_n hx hb dX8_takeOff_39 rfl (lv_at hl 0 rfl) ?_
    refine g_R (C := RX8) (T := TX8) (N := 6) (ci := 8) 28 3 31 hx hb hts hown hK hP in_X8 rfl hcb okF_28_3 rfc_28_3 fl_83 dX8_takeOff_40 ?_
    refine lv_iload_n hx hb dX8_takeOff_43 rfl (lv_at hl 1 rfl) ?_
    refine lv_lconst (v := (0 : Int64)) hx hb dX8_takeOff_44 (by decide) ?_
    obtain ⟨hi45, h⟩ := if_s1 h
    obtain ⟨J45, eJ45, h⟩ := lt_s1 h
    refine t_J 31 eJ45 hx hb hK hP hS hcb alJ_31 hi45 dX8_takeOff_45 (fun H locs hP hS => ?_)
    exact r_V hx hb hr hlocks hP hK hN hL hS h dX8_takeOff_46
  · replace h := if_f c7 h
    refine lv_aload_n hx hb dX8_takeOff_10 rfl (lv_at hl 0 rfl) ?_
    refine g_R (C := RX8) (T := TX8) (N := 6) (ci := 8) 28 3 31 hx hb hts hown hK hP in_X8 rfl hcb okF_28_3 rfc_28_3 fl_83 dX8_takeOff_11 ?_
    refine lv_iload_n hx hb dX8_takeOff_14 rfl (lv_at hl 1 rfl) ?_
    obtain ⟨hi15, h⟩ := if_s1 h
    refine a_J 31 hx hb hK hP hcb alJ_31 hi15 dX8_takeOff_15 ?_
    refine lv_iload_n hx hb dX8_takeOff_16 rfl (lv_at hl 3 rfl) ?_
    obtain ⟨r17, er17, h⟩ := bd_s1 h
    refine c_NI (As := [.long (J 31 (x1).toNatClampNeg), .int x3]) (rest := []) hx hb hml hown hts hK hN hL hP hS (cX9_hasBit_ l bs D y hcb n (J 31 (x1).toNatClampNeg) x3 I J r17 er17) ok_X9_hasBit ov_X9_hasBit mn_4 ⟨Nat.le_of_ble_eq_true rfl, Nat.le_of_ble_eq_true rfl⟩ hl.1 rfl rfl (Nat.le_of_ble_eq_true rfl) ⟨Nat.zero_le _, Nat.zero_le _⟩ dX8_takeOff_17 (fun H locs hP hS => ?_)
    refine lv_if_eq (tgt := 33) hx hb dX8_takeOff_20 (by decide) (fun c20 => ?_) (fun c20 => ?_)
    · replace h := if_t c20 h
      exact wX8_takeOff_33 bs D y n k2_ r Gc hk2_ x1 x3 r17.2.1 r17.2.2 _ _ _ hP hS (lv_sub hl [0, 1, 2, 3] rfl) h
    · replace h := if_f c20 h
      refine lv_aload_n hx hb dX8_takeOff_23 rfl (lv_at hl 0 rfl) ?_
      refine g_R (C := RX8) (T := TX8) (N := 6) (ci := 8) 28 1 29 hx hb hts hown hK hP in_X8 rfl hcb okF_28_1 rfc_28_1 fl_84 dX8_takeOff_24 ?_
      refine lv_iload_n hx hb dX8_takeOff_27 rfl (lv_at hl 3 rfl) ?_
      refine lv_dup2_11 hx hb dX8_takeOff_28 rfl rfl ?_
      obtain ⟨hi29, h⟩ := if_s1 h
      refine a_I 29 hx hb hK hP hcb aln_29 hi29 dX8_takeOff_29 ?_
      refine lv_iconst (v := (1 : Int32)) hx hb dX8_takeOff_30 (by decide) ?_
      refine lv_isub hx hb dX8_takeOff_31 ?_
      obtain ⟨hi32, h⟩ := if_s1 h
      obtain ⟨I32, eI32, h⟩ := lt_s1 h
      refine t_I 29 eI32 hx hb hK hP hS hcb aln_29 hi32 dX8_takeOff_32 (fun H locs hP hS => ?_)
      exact wX8_takeOff_33 bs D y n k2_ r Gc hk2_ x1 x3 I32 r17.2.2 _ _ _ hP hS (lv_sub hl [0, 1, 2, 3] rfl) h
theorem vX8_takeOff_2 {p : Program} {l : Launch} {e : Env} {s : State} {m : MethodId} {args : Array Value} {below : List Frame} {meth : Method} {c : Code} (bs : Nat) (D : va_G) (y : Y3) (n : Nat) (r : M2) (Gc : Gx p s m args meth c cX8_takeOff 4 RX8 bs D y none 44)  : ∀ (q : Nat) (x1 : Int32) (x3 : Int32) (I : MI) (J : MJ) (H : Heap) (locs : List Loc) (ls : Array Slot), va_P D vwCl (wl bs y I J) H → va_S (FA bs) s.heap H locs → lv_has ls 4 [(0, .ref (bs + 28)), (1, .int x1), (2, .ref (bs + 16)), (3, .int x3)] → lX8_takeOff_2 n  q x1 x3 I J = some r → W p l e (rmm 1 22) s m args below meth c H locs 0 0 (QV below args s bs D y r) (F0 m 2 ls []) := by
  intro q
  induction q with
  | zero =>
    intro x1 x3 I J H locs ls hP hS hl h
    have h : (none : Option (M2)) = some r := h
    cases h
  | succ q ih =>
    intro x1 x3 I J H locs ls hP hS hl h
    have h : fX8_takeOff_2 n  (lX8_takeOff_2 n  q) x1 x3 I J = some r := h
    exact wX8_takeOff_2 bs D y n  (lX8_takeOff_2 n  q) r Gc  ih x1 x3 I J H locs ls hP hS hl h
set_option maxHeartbeats 4000000 in
set_option maxRecDepth 100000 in
theorem cX8_takeOff_ (l : Launch) (bs : Nat) (D : va_G) (y : Y3) (hcb : 44 ≤ y.2.2.2) (n : Nat) (x1 : Int32) (I : MI) (J : MJ) (r : M2) (h : fX8_takeOff n x1 I J = some r) : Met l yX8_takeOff (.code yX8_takeOff cX8_takeOff 4 none :: gtb) (rmm 1 22) (va_Pc [.ref (bs + 28), .int x1, .ref (bs + 16)] (HB bs D y I J)) (QcV bs D y r) 0 0 (FA bs) := by
  refine Met.ofW (cc := cX8_takeOff) (maxL := 4) (ret := none) (by decide) rfl ?_
  intro p e s m args below meth c s₁ B hml hv
  obtain ⟨rfl, hP, hK, hN, hL⟩ := hv
  have hx := B.exec
  have hb := B.bytes
  have hr := B.returns
  have hts0 := atoms_spec (ws := .code yX8_takeOff cX8_takeOff 4 none :: gtb) B.pre
  have hts : ∀ w ∈ gtb, w.before [.ref (bs + 28), .int x1, .ref (bs + 16)].toArray s = true := fun w hw => hts0 w (List.mem_cons_of_mem _ hw)
  have hown : s.vm.findClass RX8 = some m.cls := findClass_of_methodNamed B.named
  have hlocks := B.notSynchronized
  have hS : va_S (FA bs) s.heap s.heap [] := va_S.rf
  have Gc : Gx p s m [.ref (bs + 28), .int x1, .ref (bs + 16)].toArray meth c cX8_takeOff 4 RX8 bs D y none 44 := ⟨hx, hb, hml, hown, hts, hK, hN, hL, hr, hlocks, hcb⟩
  have hl := lv_entry [.ref (bs + 28), .int x1, .ref (bs + 16)] (n := 4) (Nat.le_of_ble_eq_true rfl)
  rw [lg_entry_eq]
  generalize (lg_sl [.ref (bs + 28), .int x1, .ref (bs + 16)] ++ List.replicate (4 - (lg_sl [.ref (bs + 28), .int x1, .ref (bs + 16)]).length) Slot.unset).toArray = ls at hl ⊢
  have hl : lv_has ls 4 [(0, .ref (bs + 28)), (1, .int x1), (2, .ref (bs + 16))] := hl
  change W p l e (rmm 1 22) s m [.ref (bs + 28), .int x1, .ref (bs + 16)].toArray below meth c s.heap [] 0 0 (QV below [.ref (bs + 28), .int x1, .ref (bs + 16)].toArray s bs D y r) (F0 m 0 ls [])
  unfold fX8_takeOff at h
  refine lv_iconst (v := (0 : Int32)) hx hb dX8_takeOff_0 (by decide) ?_
  refine lv_istore_n (lv' := [(3, .int (0 : Int32)), (0, .ref (bs + 28)), (1, .int x1), (2, .ref (bs + 16))]) hx hb dX8_takeOff_1 rfl hl (by decide) rfl (fun ls hl => ?_)
  exact vX8_takeOff_2 bs D y n  r Gc  n x1 (0 : Int32) I J _ _ _ hP hS (lv_sub hl [1, 2, 3, 0] rfl) h
theorem dX8_setPrices_0 : decode cX8_setPrices 0 = .ok (.iconst 0, 1) := by decide +kernel
theorem dX8_setPrices_1 : decode cX8_setPrices 1 = .ok (.istore_n 2, 1) := by decide +kernel
theorem dX8_setPrices_2 : decode cX8_setPrices 2 = .ok (.iload_n 2, 1) := by decide +kernel
theorem dX8_setPrices_3 : decode cX8_setPrices 3 = .ok (.aload_n 1, 1) := by decide +kernel
theorem dX8_setPrices_4 : decode cX8_setPrices 4 = .ok (.getfield 58, 3) := by decide +kernel
theorem dX8_setPrices_7 : decode cX8_setPrices 7 = .ok (.if_icmp .ge 43, 3) := by decide +kernel
theorem dX8_setPrices_10 : decode cX8_setPrices 10 = .ok (.aload_n 0, 1) := by decide +kernel
theorem dX8_setPrices_11 : decode cX8_setPrices 11 = .ok (.getfield 22, 3) := by decide +kernel
theorem dX8_setPrices_14 : decode cX8_setPrices 14 = .ok (.iload_n 2, 1) := by decide +kernel
theorem dX8_setPrices_15 : decode cX8_setPrices 15 = .ok (.iconst 1, 1) := by decide +kernel
theorem dX8_setPrices_16 : decode cX8_setPrices 16 = .ok (.aload_n 0, 1) := by decide +kernel
theorem dX8_setPrices_17 : decode cX8_setPrices 17 = .ok (.getfield 15, 3) := by decide +kernel
theorem dX8_setPrices_20 : decode cX8_setPrices 20 = .ok (.iload_n 2, 1) := by decide +kernel
theorem dX8_setPrices_21 : decode cX8_setPrices 21 = .ok (.iaload, 1) := by decide +kernel
theorem dX8_setPrices_22 : decode cX8_setPrices 22 = .ok (.iadd, 1) := by decide +kernel
theorem dX8_setPrices_23 : decode cX8_setPrices 23 = .ok (.iconst 1, 1) := by decide +kernel
theorem dX8_setPrices_24 : decode cX8_setPrices 24 = .ok (.iconst 0, 1) := by decide +kernel
theorem dX8_setPrices_25 : decode cX8_setPrices 25 = .ok (.aload_n 0, 1) := by decide +kernel
theorem dX8_setPrices_26 : decode cX8_setPrices 26 = .ok (.getfield 9, 3) := by decide +kernel
theorem dX8_setPrices_29 : decode cX8_setPrices 29 = .ok (.iload_n 2, 1) := by decide +kernel
theorem dX8_setPrices_30 : decode cX8_setPrices 30 = .ok (.iaload, 1) := by decide +kernel
theorem dX8_setPrices_31 : decode cX8_setPrices 31 = .ok (.iconst 1, 1) := by decide +kernel
theorem dX8_setPrices_32 : decode cX8_setPrices 32 = .ok (.iadd, 1) := by decide +kernel
theorem dX8_setPrices_33 : decode cX8_setPrices 33 = .ok (.aload_n 1, 1) := by decide +kernel
theorem dX8_setPrices_34 : decode cX8_setPrices 34 = .ok (.getfield 63, 3) := by decide +kernel
theorem dX8_setPrices_37 : decode cX8_setPrices 37 = .ok (.isub, 1) := by decide +kernel
theorem dX8_setPrices_38 : decode cX8_setPrices 38 = .ok (.invokestatic 102, 3) := by decide +kernel
theorem dX8_setPrices_41 : decode cX8_setPrices 41 = .ok (.iadd, 1) := by decide +kernel
theorem dX8_setPrices_42 : decode cX8_setPrices 42 = .ok (.imul, 1) := by decide +kernel
theorem dX8_setPrices_43 : decode cX8_setPrices 43 = .ok (.iastore, 1) := by decide +kernel
theorem dX8_setPrices_44 : decode cX8_setPrices 44 = .ok (.iinc 2 1, 3) := by decide +kernel
theorem dX8_setPrices_47 : decode cX8_setPrices 47 = .ok (.goto (-45), 3) := by decide +kernel
theorem dX8_setPrices_50 : decode cX8_setPrices 50 = .ok (.return_, 1) := by decide +kernel
set_option maxHeartbeats 4000000 in
set_option maxRecDepth 100000 in
theorem wX8_setPrices_2 {p : Program} {l : Launch} {e : Env} {s : State} {m : MethodId} {args : Array Value} {below : List Frame} {meth : Method} {c : Code} (bs : Nat) (D : va_G) (y : Y3) (n : Nat) (k2_ : Int32 → MI → MJ → Option (M2)) (r : M2) (Gc : Gx p s m args meth c cX8_setPrices 3 RX8 bs D y none 44) (hk2_ : ∀ (x2 : Int32) (I : MI) (J : MJ) (H : Heap) (locs : List Loc) (ls : Array Slot), va_P D vwCl (wl bs y I J) H → va_S (FA bs) s.heap H locs → lv_has ls 3 [(0, .ref (bs + 28)), (1, .ref (bs + 16)), (2, .int x2)] → k2_ x2 I J = some r → W p l e (rmm 1 21) s m args below meth c H locs 0 0 (QV below args s bs D y r) (F0 m 2 ls [])) (x2 : Int32) (I : MI) (J : MJ) (H : Heap) (locs : List Loc) (ls : Array Slot) (hP : va_P D vwCl (wl bs y I J) H) (hS : va_S (FA bs) s.heap H locs) (hl : lv_has ls 3 [(0, .ref (bs + 28)), (1, .ref (bs + 16)), (2, .int x2)]) (h : fX8_setPrices_2 n k2_ x2 I J = some r) : W p l e (rmm 1 21) s m args below meth c H locs 0 0 (QV below args s bs D y r) (F0 m 2 ls []) := by
  obtain ⟨hx, hb, hml, hown, hts, hK, hN, hL, hr, hlocks, hcb⟩ := id Gc
  unfold fX8_setPrices_2 at h
  refine lv_iload_n hx hb dX8_setPrices_2 rfl (lv_at hl 2 rfl) ?_
  refine lv_aload_n hx hb dX8_setPrices_3 rfl (lv_at hl 1 rfl) ?_
  refine g_I (C := RX2) (T := TX2) (N := 10) (ci := 2) 16 2 hx hb hts hown hK hP in_X2 rfl hcb okF_16_2 fl_82 dX8_setPrices_4 ?_
  refine lv_icmp_ge (tgt := 50) hx hb dX8_setPrices_7 (by decide) (fun c7 => ?_) (fun c7 => ?_)
  · replace h := if_t c7 h
    exact r_V hx hb hr hlocks hP hK hN hL hS h dX8_setPrices_50
  · replace h := if_f c7 h
    refine lv_aload_n hx hb dX8_setPrices_10 rfl (lv_at hl 0 rfl) ?_
    refine g_R (C := RX8) (T := TX8) (N := 6) (ci := 8) 28 4 32 hx hb hts hown hK hP in_X8 rfl hcb okF_28_4 rfc_28_4 fl_85 dX8_setPrices_11 ?_
    refine lv_iload_n hx hb dX8_setPrices_14 rfl (lv_at hl 2 rfl) ?_
    refine lv_iconst (v := (1 : Int32)) hx hb dX8_setPrices_15 (by decide) ?_
    refine lv_aload_n hx hb dX8_setPrices_16 rfl (lv_at hl 0 rfl) ?_
    refine g_R (C := RX8) (T := TX8) (N := 6) (ci := 8) 28 2 30 hx hb hts hown hK hP in_X8 rfl hcb okF_28_2 rfc_28_2 fl_86 dX8_setPrices_17 ?_
    refine lv_iload_n hx hb dX8_setPrices_20 rfl (lv_at hl 2 rfl) ?_
    obtain ⟨hi21, h⟩ := if_s1 h
    refine a_I 30 hx hb hK hP hcb aln_30 hi21 dX8_setPrices_21 ?_
    refine lv_iadd hx hb dX8_setPrices_22 ?_
    refine lv_iconst (v := (1 : Int32)) hx hb dX8_setPrices_23 (by decide) ?_
    refine lv_iconst (v := (0 : Int32)) hx hb dX8_setPrices_24 (by decide) ?_
    refine lv_aload_n hx hb dX8_setPrices_25 rfl (lv_at hl 0 rfl) ?_
    refine g_R (C := RX8) (T := TX8) (N := 6) (ci := 8) 28 1 29 hx hb hts hown hK hP in_X8 rfl hcb okF_28_1 rfc_28_1 fl_84 dX8_setPrices_26 ?_
    refine lv_iload_n hx hb dX8_setPrices_29 rfl (lv_at hl 2 rfl) ?_
    obtain ⟨hi30, h⟩ := if_s1 h
    refine a_I 29 hx hb hK hP hcb aln_29 hi30 dX8_setPrices_30 ?_
    refine lv_iconst (v := (1 : Int32)) hx hb dX8_setPrices_31 (by decide) ?_
    refine lv_iadd hx hb dX8_setPrices_32 ?_
    refine lv_aload_n hx hb dX8_setPrices_33 rfl (lv_at hl 1 rfl) ?_
    refine g_I (C := RX2) (T := TX2) (N := 10) (ci := 2) 16 0 hx hb hts hown hK hP in_X2 rfl hcb okF_16_0 fl_87 dX8_setPrices_34 ?_
    refine lv_isub hx hb dX8_setPrices_37 ?_
    refine va_mmax hx hb (hml.trans hl.1.symm) hown (hts _ ml_51) (hts _ ms_va_mmax) (hts _ ms_i) (hts _ mc_va_mmax) (Nat.le_of_ble_eq_true rfl) (Nat.le_of_ble_eq_true rfl) (Nat.zero_le _) (Nat.zero_le _) dX8_setPrices_38 ?_
    refine lv_iadd hx hb dX8_setPrices_41 ?_
    refine lv_imul hx hb dX8_setPrices_42 ?_
    obtain ⟨hi43, h⟩ := if_s1 h
    obtain ⟨I43, eI43, h⟩ := lt_s1 h
    refine t_I 32 eI43 hx hb hK hP hS hcb aln_32 hi43 dX8_setPrices_43 (fun H locs hP hS => ?_)
    refine lv_iinc (v := (x2 + (1 : Int32))) (lv' := [(2, .int (x2 + (1 : Int32))), (0, .ref (bs + 28)), (1, .ref (bs + 16))]) hx hb dX8_setPrices_44 hl (k := 2) rfl rfl (by decide) rfl (fun ls hl => ?_)
    refine lv_goto (tgt := 2) hx hb dX8_setPrices_47 (by decide) ?_
    exact hk2_ (x2 + (1 : Int32)) I43 J _ _ _ hP hS (lv_sub hl [1, 2, 0] rfl) h
theorem vX8_setPrices_2 {p : Program} {l : Launch} {e : Env} {s : State} {m : MethodId} {args : Array Value} {below : List Frame} {meth : Method} {c : Code} (bs : Nat) (D : va_G) (y : Y3) (n : Nat) (r : M2) (Gc : Gx p s m args meth c cX8_setPrices 3 RX8 bs D y none 44)  : ∀ (q : Nat) (x2 : Int32) (I : MI) (J : MJ) (H : Heap) (locs : List Loc) (ls : Array Slot), va_P D vwCl (wl bs y I J) H → va_S (FA bs) s.heap H locs → lv_has ls 3 [(0, .ref (bs + 28)), (1, .ref (bs + 16)), (2, .int x2)] → lX8_setPrices_2 n  q x2 I J = some r → W p l e (rmm 1 21) s m args below meth c H locs 0 0 (QV below args s bs D y r) (F0 m 2 ls []) := by
  intro q
  induction q with
  | zero =>
    intro x2 I J H locs ls hP hS hl h
    have h : (none : Option (M2)) = some r := h
    cases h
  | succ q ih =>
    intro x2 I J H locs ls hP hS hl h
    have h : fX8_setPrices_2 n  (lX8_setPrices_2 n  q) x2 I J = some r := h
    exact wX8_setPrices_2 bs D y n  (lX8_setPrices_2 n  q) r Gc  ih x2 I J H locs ls hP hS hl h
set_option maxHeartbeats 4000000 in
set_option maxRecDepth 100000 in
theorem cX8_setPrices_ (l : Launch) (bs : Nat) (D : va_G) (y : Y3) (hcb : 44 ≤ y.2.2.2) (n : Nat) (I : MI) (J : MJ) (r : M2) (h : fX8_setPrices n  I J = some r) : Met l yX8_setPrices (.code yX8_setPrices cX8_setPrices 3 none :: gtb) (rmm 1 21) (va_Pc [.ref (bs + 28), .ref (bs + 16)] (HB bs D y I J)) (QcV bs D y r) 0 0 (FA bs) := by
  refine Met.ofW (cc := cX8_setPrices) (maxL := 3) (ret := none) (by decide) rfl ?_
  intro p e s m args below meth c s₁ B hml hv
  obtain ⟨rfl, hP, hK, hN, hL⟩ := hv
  have hx := B.exec
  have hb := B.bytes
  have hr := B.returns
  have hts0 := atoms_spec (ws := .code yX8_setPrices cX8_setPrices 3 none :: gtb) B.pre
  have hts : ∀ w ∈ gtb, w.before [.ref (bs + 28), .ref (bs + 16)].toArray s = true := fun w hw => hts0 w (List.mem_cons_of_mem _ hw)
  have hown : s.vm.findClass RX8 = some m.cls := findClass_of_methodNamed B.named
  have hlocks := B.notSynchronized
  have hS : va_S (FA bs) s.heap s.heap [] := va_S.rf
  have Gc : Gx p s m [.ref (bs + 28), .ref (bs + 16)].toArray meth c cX8_setPrices 3 RX8 bs D y none 44 := ⟨hx, hb, hml, hown, hts, hK, hN, hL, hr, hlocks, hcb⟩
  have hl := lv_entry [.ref (bs + 28), .ref (bs + 16)] (n := 3) (Nat.le_of_ble_eq_true rfl)
  rw [lg_entry_eq]
  generalize (lg_sl [.ref (bs + 28), .ref (bs + 16)] ++ List.replicate (3 - (lg_sl [.ref (bs + 28), .ref (bs + 16)]).length) Slot.unset).toArray = ls at hl ⊢
  have hl : lv_has ls 3 [(0, .ref (bs + 28)), (1, .ref (bs + 16))] := hl
  change W p l e (rmm 1 21) s m [.ref (bs + 28), .ref (bs + 16)].toArray below meth c s.heap [] 0 0 (QV below [.ref (bs + 28), .ref (bs + 16)].toArray s bs D y r) (F0 m 0 ls [])
  unfold fX8_setPrices at h
  refine lv_iconst (v := (0 : Int32)) hx hb dX8_setPrices_0 (by decide) ?_
  refine lv_istore_n (lv' := [(2, .int (0 : Int32)), (0, .ref (bs + 28)), (1, .ref (bs + 16))]) hx hb dX8_setPrices_1 rfl hl (by decide) rfl (fun ls hl => ?_)
  exact vX8_setPrices_2 bs D y n  r Gc  n (0 : Int32) I J _ _ _ hP hS (lv_sub hl [1, 2, 0] rfl) h
theorem dX8_plantTree_0 : decode cX8_plantTree 0 = .ok (.aload_n 0, 1) := by decide +kernel
theorem dX8_plantTree_1 : decode cX8_plantTree 1 = .ok (.getfield 25, 3) := by decide +kernel
theorem dX8_plantTree_4 : decode cX8_plantTree 4 = .ok (.ldc 108, 2) := by decide +kernel
theorem dX8_plantTree_6 : decode cX8_plantTree 6 = .ok (.invokestatic 32, 3) := by decide +kernel
theorem dX8_plantTree_9 : decode cX8_plantTree 9 = .ok (.aload_n 0, 1) := by decide +kernel
theorem dX8_plantTree_10 : decode cX8_plantTree 10 = .ok (.getfield 25, 3) := by decide +kernel
theorem dX8_plantTree_13 : decode cX8_plantTree 13 = .ok (.iload_n 1, 1) := by decide +kernel
theorem dX8_plantTree_14 : decode cX8_plantTree 14 = .ok (.iconst 0, 1) := by decide +kernel
theorem dX8_plantTree_15 : decode cX8_plantTree 15 = .ok (.iastore, 1) := by decide +kernel
theorem dX8_plantTree_16 : decode cX8_plantTree 16 = .ok (.return_, 1) := by decide +kernel
set_option maxHeartbeats 4000000 in
set_option maxRecDepth 100000 in
theorem cX8_plantTree_ (l : Launch) (bs : Nat) (D : va_G) (y : Y3) (hcb : 44 ≤ y.2.2.2) (n : Nat) (x1 : Int32) (I : MI) (J : MJ) (r : M2) (h : fX8_plantTree n x1 I J = some r) : Met l yX8_plantTree (.code yX8_plantTree cX8_plantTree 2 none :: gtb) (rmm 1 23) (va_Pc [.ref (bs + 28), .int x1] (HB bs D y I J)) (QcV bs D y r) 0 0 (FA bs) := by
  refine Met.ofW (cc := cX8_plantTree) (maxL := 2) (ret := none) (by decide) rfl ?_
  intro p e s m args below meth c s₁ B hml hv
  obtain ⟨rfl, hP, hK, hN, hL⟩ := hv
  have hx := B.exec
  have hb := B.bytes
  have hr := B.returns
  have hts0 := atoms_spec (ws := .code yX8_plantTree cX8_plantTree 2 none :: gtb) B.pre
  have hts : ∀ w ∈ gtb, w.before [.ref (bs + 28), .int x1].toArray s = true := fun w hw => hts0 w (List.mem_cons_of_mem _ hw)
  have hown : s.vm.findClass RX8 = some m.cls := findClass_of_methodNamed B.named
  have hlocks := B.notSynchronized
  have hS : va_S (FA bs) s.heap s.heap [] := va_S.rf
  have Gc : Gx p s m [.ref (bs + 28), .int x1].toArray meth c cX8_plantTree 2 RX8 bs D y none 44 := ⟨hx, hb, hml, hown, hts, hK, hN, hL, hr, hlocks, hcb⟩
  have hl := lv_entry [.ref (bs + 28), .int x1] (n := 2) (Nat.le_of_ble_eq_true rfl)
  rw [lg_entry_eq]
  generalize (lg_sl [.ref (bs + 28), .int x1] ++ List.replicate (2 - (lg_sl [.ref (bs + 28), .int x1]).length) Slot.unset).toArray = ls at hl ⊢
  have hl : lv_has ls 2 [(0, .ref (bs + 28)), (1, .int x1)] := hl
  change W p l e (rmm 1 23) s m [.ref (bs + 28), .int x1].toArray below meth c s.heap [] 0 0 (QV below [.ref (bs + 28), .int x1].toArray s bs D y r) (F0 m 0 ls [])
  unfold fX8_plantTree at h
  refine lv_aload_n hx hb dX8_plantTree_0 rfl (lv_at hl 0 rfl) ?_
  refine g_R (C := RX8) (T := TX8) (N := 6) (ci := 8) 28 5 33 hx hb hts hown hK hP in_X8 rfl hcb okF_28_5 rfc_28_5 fl_88 dX8_plantTree_1 ?_
  refine lv_ldc hx hb hown (hts _ ci_1) dX8_plantTree_4 ?_
  obtain ⟨r6, er6, h⟩ := bd_s1 h
  refine c_SV (As := [.ref (bs + 33), .int (536870912 : Int32)]) (rest := []) hx hb hml hown hts hK hN hL hP hS (cJ7_fill_53178_ l bs D y hcb n 33 (536870912 : Int32) I J r6 er6) ok_J7_fill_53178 ov_J7_fill_53178 ml_52 ⟨Nat.le_of_ble_eq_true rfl, Nat.le_of_ble_eq_true rfl⟩ hl.1 rfl rfl (Nat.le_of_ble_eq_true rfl) ⟨Nat.zero_le _, Nat.zero_le _⟩ dX8_plantTree_6 (fun H locs hP hS => ?_)
  refine lv_aload_n hx hb dX8_plantTree_9 rfl (lv_at hl 0 rfl) ?_
  refine g_R (C := RX8) (T := TX8) (N := 6) (ci := 8) 28 5 33 hx hb hts hown hK hP in_X8 rfl hcb okF_28_5 rfc_28_5 fl_88 dX8_plantTree_10 ?_
  refine lv_iload_n hx hb dX8_plantTree_13 rfl (lv_at hl 1 rfl) ?_
  refine lv_iconst (v := (0 : Int32)) hx hb dX8_plantTree_14 (by decide) ?_
  obtain ⟨hi15, h⟩ := if_s1 h
  obtain ⟨I15, eI15, h⟩ := lt_s1 h
  refine t_I 33 eI15 hx hb hK hP hS hcb aln_33 hi15 dX8_plantTree_15 (fun H locs hP hS => ?_)
  exact r_V hx hb hr hlocks hP hK hN hL hS h dX8_plantTree_16
theorem dX8_relax_0 : decode cX8_relax 0 = .ok (.aload_n 2, 1) := by decide +kernel
theorem dX8_relax_1 : decode cX8_relax 1 = .ok (.getfield 113, 3) := by decide +kernel
theorem dX8_relax_4 : decode cX8_relax 4 = .ok (.iload_n 1, 1) := by decide +kernel
theorem dX8_relax_5 : decode cX8_relax 5 = .ok (.iaload, 1) := by decide +kernel
theorem dX8_relax_6 : decode cX8_relax 6 = .ok (.istore_n 3, 1) := by decide +kernel
theorem dX8_relax_7 : decode cX8_relax 7 = .ok (.aload_n 2, 1) := by decide +kernel
theorem dX8_relax_8 : decode cX8_relax 8 = .ok (.getfield 116, 3) := by decide +kernel
theorem dX8_relax_11 : decode cX8_relax 11 = .ok (.iload_n 1, 1) := by decide +kernel
theorem dX8_relax_12 : decode cX8_relax 12 = .ok (.iaload, 1) := by decide +kernel
theorem dX8_relax_13 : decode cX8_relax 13 = .ok (.istore 4, 2) := by decide +kernel
theorem dX8_relax_15 : decode cX8_relax 15 = .ok (.aload_n 0, 1) := by decide +kernel
theorem dX8_relax_16 : decode cX8_relax 16 = .ok (.getfield 22, 3) := by decide +kernel
theorem dX8_relax_19 : decode cX8_relax 19 = .ok (.iload_n 1, 1) := by decide +kernel
theorem dX8_relax_20 : decode cX8_relax 20 = .ok (.iaload, 1) := by decide +kernel
theorem dX8_relax_21 : decode cX8_relax 21 = .ok (.istore 5, 2) := by decide +kernel
theorem dX8_relax_23 : decode cX8_relax 23 = .ok (.aload_n 0, 1) := by decide +kernel
theorem dX8_relax_24 : decode cX8_relax 24 = .ok (.getfield 25, 3) := by decide +kernel
theorem dX8_relax_27 : decode cX8_relax 27 = .ok (.iload_n 3, 1) := by decide +kernel
theorem dX8_relax_28 : decode cX8_relax 28 = .ok (.iaload, 1) := by decide +kernel
theorem dX8_relax_29 : decode cX8_relax 29 = .ok (.iload 5, 2) := by decide +kernel
theorem dX8_relax_31 : decode cX8_relax 31 = .ok (.iadd, 1) := by decide +kernel
theorem dX8_relax_32 : decode cX8_relax 32 = .ok (.aload_n 0, 1) := by decide +kernel
theorem dX8_relax_33 : decode cX8_relax 33 = .ok (.getfield 25, 3) := by decide +kernel
theorem dX8_relax_36 : decode cX8_relax 36 = .ok (.iload 4, 2) := by decide +kernel
theorem dX8_relax_38 : decode cX8_relax 38 = .ok (.iaload, 1) := by decide +kernel
theorem dX8_relax_39 : decode cX8_relax 39 = .ok (.if_icmp .ge 21, 3) := by decide +kernel
theorem dX8_relax_42 : decode cX8_relax 42 = .ok (.aload_n 0, 1) := by decide +kernel
theorem dX8_relax_43 : decode cX8_relax 43 = .ok (.getfield 25, 3) := by decide +kernel
theorem dX8_relax_46 : decode cX8_relax 46 = .ok (.iload 4, 2) := by decide +kernel
theorem dX8_relax_48 : decode cX8_relax 48 = .ok (.aload_n 0, 1) := by decide +kernel
theorem dX8_relax_49 : decode cX8_relax 49 = .ok (.getfield 25, 3) := by decide +kernel
theorem dX8_relax_52 : decode cX8_relax 52 = .ok (.iload_n 3, 1) := by decide +kernel
theorem dX8_relax_53 : decode cX8_relax 53 = .ok (.iaload, 1) := by decide +kernel
theorem dX8_relax_54 : decode cX8_relax 54 = .ok (.iload 5, 2) := by decide +kernel
theorem dX8_relax_56 : decode cX8_relax 56 = .ok (.iadd, 1) := by decide +kernel
theorem dX8_relax_57 : decode cX8_relax 57 = .ok (.iastore, 1) := by decide +kernel
theorem dX8_relax_58 : decode cX8_relax 58 = .ok (.iconst 1, 1) := by decide +kernel
theorem dX8_relax_59 : decode cX8_relax 59 = .ok (.ireturn, 1) := by decide +kernel
theorem dX8_relax_60 : decode cX8_relax 60 = .ok (.aload_n 0, 1) := by decide +kernel
theorem dX8_relax_61 : decode cX8_relax 61 = .ok (.getfield 25, 3) := by decide +kernel
theorem dX8_relax_64 : decode cX8_relax 64 = .ok (.iload 4, 2) := by decide +kernel
theorem dX8_relax_66 : decode cX8_relax 66 = .ok (.iaload, 1) := by decide +kernel
theorem dX8_relax_67 : decode cX8_relax 67 = .ok (.iload 5, 2) := by decide +kernel
theorem dX8_relax_69 : decode cX8_relax 69 = .ok (.iadd, 1) := by decide +kernel
theorem dX8_relax_70 : decode cX8_relax 70 = .ok (.aload_n 0, 1) := by decide +kernel
theorem dX8_relax_71 : decode cX8_relax 71 = .ok (.getfield 25, 3) := by decide +kernel
theorem dX8_relax_74 : decode cX8_relax 74 = .ok (.iload_n 3, 1) := by decide +kernel
theorem dX8_relax_75 : decode cX8_relax 75 = .ok (.iaload, 1) := by decide +kernel
theorem dX8_relax_76 : decode cX8_relax 76 = .ok (.if_icmp .ge 21, 3) := by decide +kernel
theorem dX8_relax_79 : decode cX8_relax 79 = .ok (.aload_n 0, 1) := by decide +kernel
theorem dX8_relax_80 : decode cX8_relax 80 = .ok (.getfield 25, 3) := by decide +kernel
theorem dX8_relax_83 : decode cX8_relax 83 = .ok (.iload_n 3, 1) := by decide +kernel
theorem dX8_relax_84 : decode cX8_relax 84 = .ok (.aload_n 0, 1) := by decide +kernel
theorem dX8_relax_85 : decode cX8_relax 85 = .ok (.getfield 25, 3) := by decide +kernel
theorem dX8_relax_88 : decode cX8_relax 88 = .ok (.iload 4, 2) := by decide +kernel
theorem dX8_relax_90 : decode cX8_relax 90 = .ok (.iaload, 1) := by decide +kernel
theorem dX8_relax_91 : decode cX8_relax 91 = .ok (.iload 5, 2) := by decide +kernel
theorem dX8_relax_93 : decode cX8_relax 93 = .ok (.iadd, 1) := by decide +kernel
theorem dX8_relax_94 : decode cX8_relax 94 = .ok (.iastore, 1) := by decide +kernel
theorem dX8_relax_95 : decode cX8_relax 95 = .ok (.iconst 1, 1) := by decide +kernel
theorem dX8_relax_96 : decode cX8_relax 96 = .ok (.ireturn, 1) := by decide +kernel
theorem dX8_relax_97 : decode cX8_relax 97 = .ok (.iconst 0, 1) := by decide +kernel
theorem dX8_relax_98 : decode cX8_relax 98 = .ok (.ireturn, 1) := by decide +kernel
set_option maxHeartbeats 4000000 in
set_option maxRecDepth 100000 in
theorem cX8_relax_ (l : Launch) (bs : Nat) (D : va_G) (y : Y3) (hcb : 44 ≤ y.2.2.2) (n : Nat) (x1 : Int32) (I : MI) (J : MJ) (r : Int32 × M2) (h : fX8_relax n x1 I J = some r) : Met l yX8_relax (.code yX8_relax cX8_relax 6 (some .boolean) :: gtb) (rmm 0 0) (va_Pc [.ref (bs + 28), .int x1, .ref (bs + 16)] (HB bs D y I J)) (QcI bs D y r) 0 0 (FA bs) := by
  refine Met.ofW (cc := cX8_relax) (maxL := 6) (ret := (some .boolean)) (by decide) rfl ?_
  intro p e s m args below meth c s₁ B hml hv
  obtain ⟨rfl, hP, hK, hN, hL⟩ := hv
  have hx := B.exec
  have hb := B.bytes
  have hr := B.returns
  have hts0 := atoms_spec (ws := .code yX8_relax cX8_relax 6 (some .boolean) :: gtb) B.pre
  have hts : ∀ w ∈ gtb, w.before [.ref (bs + 28), .int x1, .ref (bs + 16)].toArray s = true := fun w hw => hts0 w (List.mem_cons_of_mem _ hw)
  have hown : s.vm.findClass RX8 = some m.cls := findClass_of_methodNamed B.named
  have hlocks := B.notSynchronized
  have hS : va_S (FA bs) s.heap s.heap [] := va_S.rf
  have Gc : Gx p s m [.ref (bs + 28), .int x1, .ref (bs + 16)].toArray meth c cX8_relax 6 RX8 bs D y (some .boolean) 44 := ⟨hx, hb, hml, hown, hts, hK, hN, hL, hr, hlocks, hcb⟩
  have hl := lv_entry [.ref (bs + 28), .int x1, .ref (bs + 16)] (n := 6) (Nat.le_of_ble_eq_true rfl)
  rw [lg_entry_eq]
  generalize (lg_sl [.ref (bs + 28), .int x1, .ref (bs + 16)] ++ List.replicate (6 - (lg_sl [.ref (bs + 28), .int x1, .ref (bs + 16)]).length) Slot.unset).toArray = ls at hl ⊢
  have hl : lv_has ls 6 [(0, .ref (bs + 28)), (1, .int x1), (2, .ref (bs + 16))] := hl
  change W p l e (rmm 0 0) s m [.ref (bs + 28), .int x1, .ref (bs + 16)].toArray below meth c s.heap [] 0 0 (QI below [.ref (bs + 28), .int x1, .ref (bs + 16)].toArray s bs D y r) (F0 m 0 ls [])
  unfold fX8_relax at h
  refine lv_aload_n hx hb dX8_relax_0 rfl (lv_at hl 2 rfl) ?_
  refine g_R (C := RX2) (T := TX2) (N := 10) (ci := 2) 16 5 19 hx hb hts hown hK hP in_X2 rfl hcb okF_16_5 rfc_16_5 fl_89 dX8_relax_1 ?_
  refine lv_iload_n hx hb dX8_relax_4 rfl (lv_at hl 1 rfl) ?_
  obtain ⟨hi5, h⟩ := if_s1 h
  refine a_I 19 hx hb hK hP hcb aln_19 hi5 dX8_relax_5 ?_
  obtain ⟨v6, ev6, h⟩ := lt_s1 h
  refine top_i ev6 ?_
  refine lv_istore_n (lv' := [(3, .int v6), (0, .ref (bs + 28)), (1, .int x1), (2, .ref (bs + 16))]) hx hb dX8_relax_6 rfl hl (by decide) rfl (fun ls hl => ?_)
  refine lv_aload_n hx hb dX8_relax_7 rfl (lv_at hl 3 rfl) ?_
  refine g_R (C := RX2) (T := TX2) (N := 10) (ci := 2) 16 6 20 hx hb hts hown hK hP in_X2 rfl hcb okF_16_6 rfc_16_6 fl_90 dX8_relax_8 ?_
  refine lv_iload_n hx hb dX8_relax_11 rfl (lv_at hl 2 rfl) ?_
  obtain ⟨hi12, h⟩ := if_s1 h
  refine a_I 20 hx hb hK hP hcb aln_20 hi12 dX8_relax_12 ?_
  obtain ⟨v13, ev13, h⟩ := lt_s1 h
  refine top_i ev13 ?_
  refine lv_istore (lv' := [(4, .int v13), (3, .int v6), (0, .ref (bs + 28)), (1, .int x1), (2, .ref (bs + 16))]) hx hb dX8_relax_13 hl (by decide) rfl (fun ls hl => ?_)
  refine lv_aload_n hx hb dX8_relax_15 rfl (lv_at hl 2 rfl) ?_
  refine g_R (C := RX8) (T := TX8) (N := 6) (ci := 8) 28 4 32 hx hb hts hown hK hP in_X8 rfl hcb okF_28_4 rfc_28_4 fl_85 dX8_relax_16 ?_
  refine lv_iload_n hx hb dX8_relax_19 rfl (lv_at hl 3 rfl) ?_
  obtain ⟨hi20, h⟩ := if_s1 h
  refine a_I 32 hx hb hK hP hcb aln_32 hi20 dX8_relax_20 ?_
  obtain ⟨v21, ev21, h⟩ := lt_s1 h
  refine top_i ev21 ?_
  refine lv_istore (lv' := [(5, .int v21), (4, .int v13), (3, .int v6), (0, .ref (bs + 28)), (1, .int x1), (2, .ref (bs + 16))]) hx hb dX8_relax_21 hl (by decide) rfl (fun ls hl => ?_)
  refine lv_aload_n hx hb dX8_relax_23 rfl (lv_at hl 3 rfl) ?_
  refine g_R (C := RX8) (T := TX8) (N := 6) (ci := 8) 28 5 33 hx hb hts hown hK hP in_X8 rfl hcb okF_28_5 rfc_28_5 fl_88 dX8_relax_24 ?_
  refine lv_iload_n hx hb dX8_relax_27 rfl (lv_at hl 2 rfl) ?_
  obtain ⟨hi28, h⟩ := if_s1 h
  refine a_I 33 hx hb hK hP hcb aln_33 hi28 dX8_relax_28 ?_
  refine lv_iload hx hb dX8_relax_29 (lv_at hl 0 rfl) ?_
  refine lv_iadd hx hb dX8_relax_31 ?_
  refine lv_aload_n hx hb dX8_relax_32 rfl (lv_at hl 3 rfl) ?_
  refine g_R (C := RX8) (T := TX8) (N := 6) (ci := 8) 28 5 33 hx hb hts hown hK hP in_X8 rfl hcb okF_28_5 rfc_28_5 fl_88 dX8_relax_33 ?_
  refine lv_iload hx hb dX8_relax_36 (lv_at hl 1 rfl) ?_
  obtain ⟨hi38, h⟩ := if_s1 h
  refine a_I 33 hx hb hK hP hcb aln_33 hi38 dX8_relax_38 ?_
  refine lv_icmp_ge (tgt := 60) hx hb dX8_relax_39 (by decide) (fun c39 => ?_) (fun c39 => ?_)
  · replace h := if_t c39 h
    refine lv_aload_n hx hb dX8_relax_60 rfl (lv_at hl 3 rfl) ?_
    refine g_R (C := RX8) (T := TX8) (N := 6) (ci := 8) 28 5 33 hx hb hts hown hK hP in_X8 rfl hcb okF_28_5 rfc_28_5 fl_88 dX8_relax_61 ?_
    refine lv_iload hx hb dX8_relax_64 (lv_at hl 1 rfl) ?_
    obtain ⟨hi66, h⟩ := if_s1 h
    refine a_I 33 hx hb hK hP hcb aln_33 hi66 dX8_relax_66 ?_
    refine lv_iload hx hb dX8_relax_67 (lv_at hl 0 rfl) ?_
    refine lv_iadd hx hb dX8_relax_69 ?_
    refine lv_aload_n hx hb dX8_relax_70 rfl (lv_at hl 3 rfl) ?_
    refine g_R (C := RX8) (T := TX8) (N := 6) (ci := 8) 28 5 33 hx hb hts hown hK hP in_X8 rfl hcb okF_28_5 rfc_28_5 fl_88 dX8_relax_71 ?_
    refine lv_iload_n hx hb dX8_relax_74 rfl (lv_at hl 2 rfl) ?_
    obtain ⟨hi75, h⟩ := if_s1 h
    refine a_I 33 hx hb hK hP hcb aln_33 hi75 dX8_relax_75 ?_
    refine lv_icmp_ge (tgt := 97) hx hb dX8_relax_76 (by decide) (fun c76 => ?_) (fun c76 => ?_)
    · replace h := if_t c76 h
      refine lv_iconst (v := (0 : Int32)) hx hb dX8_relax_97 (by decide) ?_
      exact r_Z hx hb hr hlocks hP hK hN hL hS (by decide) h dX8_relax_98
    · replace h := if_f c76 h
      refine lv_aload_n hx hb dX8_relax_79 rfl (lv_at hl 3 rfl) ?_
      refine g_R (C := RX8) (T := TX8) (N := 6) (ci := 8) 28 5 33 hx hb hts hown hK hP in_X8 rfl hcb okF_28_5 rfc_28_5 fl_88 dX8_relax_80 ?_
      refine lv_iload_n hx hb dX8_relax_83 rfl (lv_at hl 2 rfl) ?_
      refine lv_aload_n hx hb dX8_relax_84 rfl (lv_at hl 3 rfl) ?_
      refine g_R (C := RX8) (T := TX8) (N := 6) (ci := 8) 28 5 33 hx hb hts hown hK hP in_X8 rfl hcb okF_28_5 rfc_28_5 fl_88 dX8_relax_85 ?_
      refine lv_iload hx hb dX8_relax_88 (lv_at hl 1 rfl) ?_
      obtain ⟨hi90, h⟩ := if_s1 h
      refine a_I 33 hx hb hK hP hcb aln_33 hi90 dX8_relax_90 ?_
      refine lv_iload hx hb dX8_relax_91 (lv_at hl 0 rfl) ?_
      refine lv_iadd hx hb dX8_relax_93 ?_
      obtain ⟨hi94, h⟩ := if_s1 h
      obtain ⟨I94, eI94, h⟩ := lt_s1 h
      refine t_I 33 eI94 hx hb hK hP hS hcb aln_33 hi94 dX8_relax_94 (fun H locs hP hS => ?_)
      refine lv_iconst (v := (1 : Int32)) hx hb dX8_relax_95 (by decide) ?_
      exact r_Z hx hb hr hlocks hP hK hN hL hS (by decide) h dX8_relax_96
  · replace h := if_f c39 h
    refine lv_aload_n hx hb dX8_relax_42 rfl (lv_at hl 3 rfl) ?_
    refine g_R (C := RX8) (T := TX8) (N := 6) (ci := 8) 28 5 33 hx hb hts hown hK hP in_X8 rfl hcb okF_28_5 rfc_28_5 fl_88 dX8_relax_43 ?_
    refine lv_iload hx hb dX8_relax_46 (lv_at hl 1 rfl) ?_
    refine lv_aload_n hx hb dX8_relax_48 rfl (lv_at hl 3 rfl) ?_
    refine g_R (C := RX8) (T := TX8) (N := 6) (ci := 8) 28 5 33 hx hb hts hown hK hP in_X8 rfl hcb okF_28_5 rfc_28_5 fl_88 dX8_relax_49 ?_
    refine lv_iload_n hx hb dX8_relax_52 rfl (lv_at hl 2 rfl) ?_
    obtain ⟨hi53, h⟩ := if_s1 h
    refine a_I 33 hx hb hK hP hcb aln_33 hi53 dX8_relax_53 ?_
    refine lv_iload hx hb dX8_relax_54 (lv_at hl 0 rfl) ?_
    refine lv_iadd hx hb dX8_relax_56 ?_
    obtain ⟨hi57, h⟩ := if_s1 h
    obtain ⟨I57, eI57, h⟩ := lt_s1 h
    refine t_I 33 eI57 hx hb hK hP hS hcb aln_33 hi57 dX8_relax_57 (fun H locs hP hS => ?_)
    refine lv_iconst (v := (1 : Int32)) hx hb dX8_relax_58 (by decide) ?_
    exact r_Z hx hb hr hlocks hP hK hN hL hS (by decide) h dX8_relax_59
theorem dX8_measure_0 : decode cX8_measure 0 = .ok (.iconst 1, 1) := by decide +kernel
theorem dX8_measure_1 : decode cX8_measure 1 = .ok (.istore 4, 2) := by decide +kernel
theorem dX8_measure_3 : decode cX8_measure 3 = .ok (.iconst 0, 1) := by decide +kernel
theorem dX8_measure_4 : decode cX8_measure 4 = .ok (.istore 5, 2) := by decide +kernel
theorem dX8_measure_6 : decode cX8_measure 6 = .ok (.iload 5, 2) := by decide +kernel
theorem dX8_measure_8 : decode cX8_measure 8 = .ok (.aload_n 1, 1) := by decide +kernel
theorem dX8_measure_9 : decode cX8_measure 9 = .ok (.getfield 85, 3) := by decide +kernel
theorem dX8_measure_12 : decode cX8_measure 12 = .ok (.if_icmp .ge 112, 3) := by decide +kernel
theorem dX8_measure_15 : decode cX8_measure 15 = .ok (.iload 4, 2) := by decide +kernel
theorem dX8_measure_17 : decode cX8_measure 17 = .ok (.ifCond .eq 107, 3) := by decide +kernel
theorem dX8_measure_20 : decode cX8_measure 20 = .ok (.iconst 0, 1) := by decide +kernel
theorem dX8_measure_21 : decode cX8_measure 21 = .ok (.istore 4, 2) := by decide +kernel
theorem dX8_measure_23 : decode cX8_measure 23 = .ok (.iconst 0, 1) := by decide +kernel
theorem dX8_measure_24 : decode cX8_measure 24 = .ok (.istore 6, 2) := by decide +kernel
theorem dX8_measure_26 : decode cX8_measure 26 = .ok (.iload 6, 2) := by decide +kernel
theorem dX8_measure_28 : decode cX8_measure 28 = .ok (.aload_n 1, 1) := by decide +kernel
theorem dX8_measure_29 : decode cX8_measure 29 = .ok (.getfield 58, 3) := by decide +kernel
theorem dX8_measure_32 : decode cX8_measure 32 = .ok (.if_icmp .ge 38, 3) := by decide +kernel
theorem dX8_measure_35 : decode cX8_measure 35 = .ok (.iload 4, 2) := by decide +kernel
theorem dX8_measure_37 : decode cX8_measure 37 = .ok (.lload_n 2, 1) := by decide +kernel
theorem dX8_measure_38 : decode cX8_measure 38 = .ok (.iload 6, 2) := by decide +kernel
theorem dX8_measure_40 : decode cX8_measure 40 = .ok (.invokestatic 88, 3) := by decide +kernel
theorem dX8_measure_43 : decode cX8_measure 43 = .ok (.ifCond .eq 17, 3) := by decide +kernel
theorem dX8_measure_46 : decode cX8_measure 46 = .ok (.aload_n 0, 1) := by decide +kernel
theorem dX8_measure_47 : decode cX8_measure 47 = .ok (.iload 6, 2) := by decide +kernel
theorem dX8_measure_49 : decode cX8_measure 49 = .ok (.aload_n 1, 1) := by decide +kernel
theorem dX8_measure_50 : decode cX8_measure 50 = .ok (.invokevirtual 109, 3) := by decide +kernel
theorem dX8_measure_53 : decode cX8_measure 53 = .ok (.ifCond .eq 7, 3) := by decide +kernel
theorem dX8_measure_56 : decode cX8_measure 56 = .ok (.iconst 1, 1) := by decide +kernel
theorem dX8_measure_57 : decode cX8_measure 57 = .ok (.goto 4, 3) := by decide +kernel
theorem dX8_measure_60 : decode cX8_measure 60 = .ok (.iconst 0, 1) := by decide +kernel
theorem dX8_measure_61 : decode cX8_measure 61 = .ok (.ior, 1) := by decide +kernel
theorem dX8_measure_62 : decode cX8_measure 62 = .ok (.istore 4, 2) := by decide +kernel
theorem dX8_measure_64 : decode cX8_measure 64 = .ok (.iinc 6 1, 3) := by decide +kernel
theorem dX8_measure_67 : decode cX8_measure 67 = .ok (.goto (-41), 3) := by decide +kernel
theorem dX8_measure_70 : decode cX8_measure 70 = .ok (.aload_n 1, 1) := by decide +kernel
theorem dX8_measure_71 : decode cX8_measure 71 = .ok (.getfield 58, 3) := by decide +kernel
theorem dX8_measure_74 : decode cX8_measure 74 = .ok (.iconst 1, 1) := by decide +kernel
theorem dX8_measure_75 : decode cX8_measure 75 = .ok (.isub, 1) := by decide +kernel
theorem dX8_measure_76 : decode cX8_measure 76 = .ok (.istore 6, 2) := by decide +kernel
theorem dX8_measure_78 : decode cX8_measure 78 = .ok (.iload 6, 2) := by decide +kernel
theorem dX8_measure_80 : decode cX8_measure 80 = .ok (.ifCond .lt 38, 3) := by decide +kernel
theorem dX8_measure_83 : decode cX8_measure 83 = .ok (.iload 4, 2) := by decide +kernel
theorem dX8_measure_85 : decode cX8_measure 85 = .ok (.lload_n 2, 1) := by decide +kernel
theorem dX8_measure_86 : decode cX8_measure 86 = .ok (.iload 6, 2) := by decide +kernel
theorem dX8_measure_88 : decode cX8_measure 88 = .ok (.invokestatic 88, 3) := by decide +kernel
theorem dX8_measure_91 : decode cX8_measure 91 = .ok (.ifCond .eq 17, 3) := by decide +kernel
theorem dX8_measure_94 : decode cX8_measure 94 = .ok (.aload_n 0, 1) := by decide +kernel
theorem dX8_measure_95 : decode cX8_measure 95 = .ok (.iload 6, 2) := by decide +kernel
theorem dX8_measure_97 : decode cX8_measure 97 = .ok (.aload_n 1, 1) := by decide +kernel
theorem dX8_measure_98 : decode cX8_measure 98 = .ok (.invokevirtual 109, 3) := by decide +kernel
theorem dX8_measure_101 : decode cX8_measure 101 = .ok (.ifCond .eq 7, 3) := by decide +kernel
theorem dX8_measure_104 : decode cX8_measure 104 = .ok (.iconst 1, 1) := by decide +kernel
theorem dX8_measure_105 : decode cX8_measure 105 = .ok (.goto 4, 3) := by decide +kernel
theorem dX8_measure_108 : decode cX8_measure 108 = .ok (.iconst 0, 1) := by decide +kernel
theorem dX8_measure_109 : decode cX8_measure 109 = .ok (.ior, 1) := by decide +kernel
theorem dX8_measure_110 : decode cX8_measure 110 = .ok (.istore 4, 2) := by decide +kernel
theorem dX8_measure_112 : decode cX8_measure 112 = .ok (.iinc 6 (-1), 3) := by decide +kernel
theorem dX8_measure_115 : decode cX8_measure 115 = .ok (.goto (-37), 3) := by decide +kernel
theorem dX8_measure_118 : decode cX8_measure 118 = .ok (.iinc 5 1, 3) := by decide +kernel
theorem dX8_measure_121 : decode cX8_measure 121 = .ok (.goto (-115), 3) := by decide +kernel
theorem dX8_measure_124 : decode cX8_measure 124 = .ok (.return_, 1) := by decide +kernel
set_option maxHeartbeats 4000000 in
set_option maxRecDepth 100000 in
theorem wX8_measure_109 {p : Program} {l : Launch} {e : Env} {s : State} {m : MethodId} {args : Array Value} {below : List Frame} {meth : Method} {c : Code} (bs : Nat) (D : va_G) (y : Y3) (n : Nat) (k6_ : Int64 → Int32 → Int32 → MI → MJ → Option (M2)) (k78_ : Int64 → Int32 → Int32 → Int32 → MI → MJ → Option (M2)) (r : M2) (Gc : Gx p s m args meth c cX8_measure 7 RX8 bs D y none 44) (hk6_ : ∀ (x2 : Int64) (x4 : Int32) (x5 : Int32) (I : MI) (J : MJ) (H : Heap) (locs : List Loc) (ls : Array Slot), va_P D vwCl (wl bs y I J) H → va_S (FA bs) s.heap H locs → lv_has ls 7 [(0, .ref (bs + 28)), (1, .ref (bs + 16)), (2, .long x2), (4, .int x4), (5, .int x5)] → k6_ x2 x4 x5 I J = some r → W p l e (rmm 1 25) s m args below meth c H locs 0 0 (QV below args s bs D y r) (F0 m 6 ls [])) (hk78_ : ∀ (x2 : Int64) (x4 : Int32) (x5 : Int32) (x6 : Int32) (I : MI) (J : MJ) (H : Heap) (locs : List Loc) (ls : Array Slot), va_P D vwCl (wl bs y I J) H → va_S (FA bs) s.heap H locs → lv_has ls 7 [(0, .ref (bs + 28)), (1, .ref (bs + 16)), (2, .long x2), (4, .int x4), (5, .int x5), (6, .int x6)] → k78_ x2 x4 x5 x6 I J = some r → W p l e (rmm 1 25) s m args below meth c H locs 0 0 (QV below args s bs D y r) (F0 m 78 ls [])) (x2 : Int64) (x5 : Int32) (x6 : Int32) (s0 : Int32) (s1 : Int32) (I : MI) (J : MJ) (H : Heap) (locs : List Loc) (ls : Array Slot) (hP : va_P D vwCl (wl bs y I J) H) (hS : va_S (FA bs) s.heap H locs) (hl : lv_has ls 7 [(0, .ref (bs + 28)), (1, .ref (bs + 16)), (2, .long x2), (5, .int x5), (6, .int x6)]) (h : fX8_measure_109 n k6_ k78_ x2 x5 x6 s0 s1 I J = some r) : W p l e (rmm 1 25) s m args below meth c H locs 0 0 (QV below args s bs D y r) (F0 m 109 ls [.int s1, .int s0]) := by
  obtain ⟨hx, hb, hml, hown, hts, hK, hN, hL, hr, hlocks, hcb⟩ := id Gc
  unfold fX8_measure_109 at h
  refine lv_ior hx hb dX8_measure_109 ?_
  obtain ⟨v110, ev110, h⟩ := lt_s1 h
  refine top_i ev110 ?_
  refine lv_istore (lv' := [(4, .int v110), (0, .ref (bs + 28)), (1, .ref (bs + 16)), (2, .long x2), (5, .int x5), (6, .int x6)]) hx hb dX8_measure_110 hl (by decide) rfl (fun ls hl => ?_)
  refine lv_iinc (v := (x6 + (-1 : Int32))) (lv' := [(6, .int (x6 + (-1 : Int32))), (4, .int v110), (0, .ref (bs + 28)), (1, .ref (bs + 16)), (2, .long x2), (5, .int x5)]) hx hb dX8_measure_112 hl (k := 5) rfl rfl (by decide) rfl (fun ls hl => ?_)
  refine lv_goto (tgt := 78) hx hb dX8_measure_115 (by decide) ?_
  exact hk78_ x2 v110 x5 (x6 + (-1 : Int32)) I J _ _ _ hP hS (lv_sub hl [2, 3, 4, 1, 5, 0] rfl) h
set_option maxHeartbeats 4000000 in
set_option maxRecDepth 100000 in
theorem wX8_measure_108 {p : Program} {l : Launch} {e : Env} {s : State} {m : MethodId} {args : Array Value} {below : List Frame} {meth : Method} {c : Code} (bs : Nat) (D : va_G) (y : Y3) (n : Nat) (k6_ : Int64 → Int32 → Int32 → MI → MJ → Option (M2)) (k78_ : Int64 → Int32 → Int32 → Int32 → MI → MJ → Option (M2)) (r : M2) (Gc : Gx p s m args meth c cX8_measure 7 RX8 bs D y none 44) (hk6_ : ∀ (x2 : Int64) (x4 : Int32) (x5 : Int32) (I : MI) (J : MJ) (H : Heap) (locs : List Loc) (ls : Array Slot), va_P D vwCl (wl bs y I J) H → va_S (FA bs) s.heap H locs → lv_has ls 7 [(0, .ref (bs + 28)), (1, .ref (bs + 16)), (2, .long x2), (4, .int x4), (5, .int x5)] → k6_ x2 x4 x5 I J = some r → W p l e (rmm 1 25) s m args below meth c H locs 0 0 (QV below args s bs D y r) (F0 m 6 ls [])) (hk78_ : ∀ (x2 : Int64) (x4 : Int32) (x5 : Int32) (x6 : Int32) (I : MI) (J : MJ) (H : Heap) (locs : List Loc) (ls : Array Slot), va_P D vwCl (wl bs y I J) H → va_S (FA bs) s.heap H locs → lv_has ls 7 [(0, .ref (bs + 28)), (1, .ref (bs + 16)), (2, .long x2), (4, .int x4), (5, .int x5), (6, .int x6)] → k78_ x2 x4 x5 x6 I J = some r → W p l e (rmm 1 25) s m args below meth c H locs 0 0 (QV below args s bs D y r) (F0 m 78 ls [])) (x2 : Int64) (x5 : Int32) (x6 : Int32) (s0 : Int32) (I : MI) (J : MJ) (H : Heap) (locs : List Loc) (ls : Array Slot) (hP : va_P D vwCl (wl bs y I J) H) (hS : va_S (FA bs) s.heap H locs) (hl : lv_has ls 7 [(0, .ref (bs + 28)), (1, .ref (bs + 16)), (2, .long x2), (5, .int x5), (6, .int x6)]) (h : fX8_measure_108 n k6_ k78_ x2 x5 x6 s0 I J = some r) : W p l e (rmm 1 25) s m args below meth c H locs 0 0 (QV below args s bs D y r) (F0 m 108 ls [.int s0]) := by
  obtain ⟨hx, hb, hml, hown, hts, hK, hN, hL, hr, hlocks, hcb⟩ := id Gc
  unfold fX8_measure_108 at h
  refine lv_iconst (v := (0 : Int32)) hx hb dX8_measure_108 (by decide) ?_
  exact wX8_measure_109 bs D y n k6_ k78_ r Gc hk6_ hk78_ x2 x5 x6 s0 (0 : Int32) I J _ _ _ hP hS (lv_sub hl [0, 1, 2, 3, 4] rfl) h
set_option maxHeartbeats 4000000 in
set_option maxRecDepth 100000 in
theorem wX8_measure_78 {p : Program} {l : Launch} {e : Env} {s : State} {m : MethodId} {args : Array Value} {below : List Frame} {meth : Method} {c : Code} (bs : Nat) (D : va_G) (y : Y3) (n : Nat) (k6_ : Int64 → Int32 → Int32 → MI → MJ → Option (M2)) (k78_ : Int64 → Int32 → Int32 → Int32 → MI → MJ → Option (M2)) (r : M2) (Gc : Gx p s m args meth c cX8_measure 7 RX8 bs D y none 44) (hk6_ : ∀ (x2 : Int64) (x4 : Int32) (x5 : Int32) (I : MI) (J : MJ) (H : Heap) (locs : List Loc) (ls : Array Slot), va_P D vwCl (wl bs y I J) H → va_S (FA bs) s.heap H locs → lv_has ls 7 [(0, .ref (bs + 28)), (1, .ref (bs + 16)), (2, .long x2), (4, .int x4), (5, .int x5)] → k6_ x2 x4 x5 I J = some r → W p l e (rmm 1 25) s m args below meth c H locs 0 0 (QV below args s bs D y r) (F0 m 6 ls [])) (hk78_ : ∀ (x2 : Int64) (x4 : Int32) (x5 : Int32) (x6 : Int32) (I : MI) (J : MJ) (H : Heap) (locs : List Loc) (ls : Array Slot), va_P D vwCl (wl bs y I J) H → va_S (FA bs) s.heap H locs → lv_has ls 7 [(0, .ref (bs + 28)), (1, .ref (bs + 16)), (2, .long x2), (4, .int x4), (5, .int x5), (6, .int x6)] → k78_ x2 x4 x5 x6 I J = some r → W p l e (rmm 1 25) s m args below meth c H locs 0 0 (QV below args s bs D y r) (F0 m 78 ls [])) (x2 : Int64) (x4 : Int32) (x5 : Int32) (x6 : Int32) (I : MI) (J : MJ) (H : Heap) (locs : List Loc) (ls : Array Slot) (hP : va_P D vwCl (wl bs y I J) H) (hS : va_S (FA bs) s.heap H locs) (hl : lv_has ls 7 [(0, .ref (bs + 28)), (1, .ref (bs + 16)), (2, .long x2), (4, .int x4), (5, .int x5), (6, .int x6)]) (h : fX8_measure_78 n k6_ k78_ x2 x4 x5 x6 I J = some r) : W p l e (rmm 1 25) s m args below meth c H locs 0 0 (QV below args s bs D y r) (F0 m 78 ls []) := by
  obtain ⟨hx, hb, hml, hown, hts, hK, hN, hL, hr, hlocks, hcb⟩ := id Gc
  unfold fX8_measure_78 at h
  refine lv_iload hx hb dX8_measure_78 (lv_at hl 5 rfl) ?_
  refine lv_if_lt (tgt := 118) hx hb dX8_measure_80 (by decide) (fun c80 => ?_) (fun c80 => ?_)
  · replace h := if_t c80 h
    refine lv_iinc (v := (x5 + (1 : Int32))) (lv' := [(5, .int (x5 + (1 : Int32))), (0, .ref (bs + 28)), (1, .ref (bs + 16)), (2, .long x2), (4, .int x4), (6, .int x6)]) hx hb dX8_measure_118 hl (k := 4) rfl rfl (by decide) rfl (fun ls hl => ?_)
    refine lv_goto (tgt := 6) hx hb dX8_measure_121 (by decide) ?_
    exact hk6_ x2 x4 (x5 + (1 : Int32)) I J _ _ _ hP hS (lv_sub hl [1, 2, 3, 4, 0] rfl) h
  · replace h := if_f c80 h
    refine lv_iload hx hb dX8_measure_83 (lv_at hl 3 rfl) ?_
    refine lv_lload_n hx hb dX8_measure_85 rfl (lv_at hl 2 rfl) ?_
    refine lv_iload hx hb dX8_measure_86 (lv_at hl 5 rfl) ?_
    obtain ⟨r88, er88, h⟩ := bd_s1 h
    refine c_NI (As := [.long x2, .int x6]) (rest := [.int x4]) hx hb hml hown hts hK hN hL hP hS (cX9_hasBit_ l bs D y hcb n x2 x6 I J r88 er88) ok_X9_hasBit ov_X9_hasBit mn_4 ⟨Nat.le_of_ble_eq_true rfl, Nat.le_of_ble_eq_true rfl⟩ hl.1 rfl rfl (Nat.le_of_ble_eq_true rfl) ⟨Nat.zero_le _, Nat.zero_le _⟩ dX8_measure_88 (fun H locs hP hS => ?_)
    refine lv_if_eq (tgt := 108) hx hb dX8_measure_91 (by decide) (fun c91 => ?_) (fun c91 => ?_)
    · replace h := if_t c91 h
      exact wX8_measure_108 bs D y n k6_ k78_ r Gc hk6_ hk78_ x2 x5 x6 x4 r88.2.1 r88.2.2 _ _ _ hP hS (lv_sub hl [0, 1, 2, 4, 5] rfl) h
    · replace h := if_f c91 h
      refine lv_aload_n hx hb dX8_measure_94 rfl (lv_at hl 0 rfl) ?_
      refine lv_iload hx hb dX8_measure_95 (lv_at hl 5 rfl) ?_
      refine lv_aload_n hx hb dX8_measure_97 rfl (lv_at hl 1 rfl) ?_
      obtain ⟨r98, er98, h⟩ := bd_s1 h
      refine c_VI (k := 28) (ci := 8) (As := [.int x6, .ref (bs + 16)]) (rest := [.int x4]) hx hb hml hown hts hK hN hL hP hS (cX8_relax_ l bs D y hcb n x6 r88.2.1 r88.2.2 r98 er98) ok_X8_relax ov_X8_relax ml_53 ⟨Nat.le_of_ble_eq_true rfl, Nat.le_of_ble_eq_true rfl⟩ rfl hcb kd_28 hl.1 rfl rfl (Nat.le_of_ble_eq_true rfl) ⟨Nat.zero_le _, Nat.zero_le _⟩ dX8_measure_98 (fun H locs hP hS => ?_)
      refine lv_if_eq (tgt := 108) hx hb dX8_measure_101 (by decide) (fun c101 => ?_) (fun c101 => ?_)
      · replace h := if_t c101 h
        exact wX8_measure_108 bs D y n k6_ k78_ r Gc hk6_ hk78_ x2 x5 x6 x4 r98.2.1 r98.2.2 _ _ _ hP hS (lv_sub hl [0, 1, 2, 4, 5] rfl) h
      · replace h := if_f c101 h
        refine lv_iconst (v := (1 : Int32)) hx hb dX8_measure_104 (by decide) ?_
        refine lv_goto (tgt := 109) hx hb dX8_measure_105 (by decide) ?_
        exact wX8_measure_109 bs D y n k6_ k78_ r Gc hk6_ hk78_ x2 x5 x6 x4 (1 : Int32) r98.2.1 r98.2.2 _ _ _ hP hS (lv_sub hl [0, 1, 2, 4, 5] rfl) h
theorem vX8_measure_78 {p : Program} {l : Launch} {e : Env} {s : State} {m : MethodId} {args : Array Value} {below : List Frame} {meth : Method} {c : Code} (bs : Nat) (D : va_G) (y : Y3) (n : Nat) (k6_ : Int64 → Int32 → Int32 → MI → MJ → Option (M2)) (r : M2) (Gc : Gx p s m args meth c cX8_measure 7 RX8 bs D y none 44) (hk6_ : ∀ (x2 : Int64) (x4 : Int32) (x5 : Int32) (I : MI) (J : MJ) (H : Heap) (locs : List Loc) (ls : Array Slot), va_P D vwCl (wl bs y I J) H → va_S (FA bs) s.heap H locs → lv_has ls 7 [(0, .ref (bs + 28)), (1, .ref (bs + 16)), (2, .long x2), (4, .int x4), (5, .int x5)] → k6_ x2 x4 x5 I J = some r → W p l e (rmm 1 25) s m args below meth c H locs 0 0 (QV below args s bs D y r) (F0 m 6 ls [])) : ∀ (q : Nat) (x2 : Int64) (x4 : Int32) (x5 : Int32) (x6 : Int32) (I : MI) (J : MJ) (H : Heap) (locs : List Loc) (ls : Array Slot), va_P D vwCl (wl bs y I J) H → va_S (FA bs) s.heap H locs → lv_has ls 7 [(0, .ref (bs + 28)), (1, .ref (bs + 16)), (2, .long x2), (4, .int x4), (5, .int x5), (6, .int x6)] → lX8_measure_78 n k6_ q x2 x4 x5 x6 I J = some r → W p l e (rmm 1 25) s m args below meth c H locs 0 0 (QV below args s bs D y r) (F0 m 78 ls []) := by
  intro q
  induction q with
  | zero =>
    intro x2 x4 x5 x6 I J H locs ls hP hS hl h
    have h : (none : Option (M2)) = some r := h
    cases h
  | succ q ih =>
    intro x2 x4 x5 x6 I J H locs ls hP hS hl h
    have h : fX8_measure_78 n k6_ (lX8_measure_78 n k6_ q) x2 x4 x5 x6 I J = some r := h
    exact wX8_measure_78 bs D y n k6_ (lX8_measure_78 n k6_ q) r Gc hk6_ ih x2 x4 x5 x6 I J H locs ls hP hS hl h
set_option maxHeartbeats 4000000 in
set_option maxRecDepth 100000 in
theorem wX8_measure_61 {p : Program} {l : Launch} {e : Env} {s : State} {m : MethodId} {args : Array Value} {below : List Frame} {meth : Method} {c : Code} (bs : Nat) (D : va_G) (y : Y3) (n : Nat) (k6_ : Int64 → Int32 → Int32 → MI → MJ → Option (M2)) (k26_ : Int64 → Int32 → Int32 → Int32 → MI → MJ → Option (M2)) (r : M2) (Gc : Gx p s m args meth c cX8_measure 7 RX8 bs D y none 44) (hk6_ : ∀ (x2 : Int64) (x4 : Int32) (x5 : Int32) (I : MI) (J : MJ) (H : Heap) (locs : List Loc) (ls : Array Slot), va_P D vwCl (wl bs y I J) H → va_S (FA bs) s.heap H locs → lv_has ls 7 [(0, .ref (bs + 28)), (1, .ref (bs + 16)), (2, .long x2), (4, .int x4), (5, .int x5)] → k6_ x2 x4 x5 I J = some r → W p l e (rmm 1 25) s m args below meth c H locs 0 0 (QV below args s bs D y r) (F0 m 6 ls [])) (hk26_ : ∀ (x2 : Int64) (x4 : Int32) (x5 : Int32) (x6 : Int32) (I : MI) (J : MJ) (H : Heap) (locs : List Loc) (ls : Array Slot), va_P D vwCl (wl bs y I J) H → va_S (FA bs) s.heap H locs → lv_has ls 7 [(0, .ref (bs + 28)), (1, .ref (bs + 16)), (2, .long x2), (4, .int x4), (5, .int x5), (6, .int x6)] → k26_ x2 x4 x5 x6 I J = some r → W p l e (rmm 1 25) s m args below meth c H locs 0 0 (QV below args s bs D y r) (F0 m 26 ls [])) (x2 : Int64) (x5 : Int32) (x6 : Int32) (s0 : Int32) (s1 : Int32) (I : MI) (J : MJ) (H : Heap) (locs : List Loc) (ls : Array Slot) (hP : va_P D vwCl (wl bs y I J) H) (hS : va_S (FA bs) s.heap H locs) (hl : lv_has ls 7 [(0, .ref (bs + 28)), (1, .ref (bs + 16)), (2, .long x2), (5, .int x5), (6, .int x6)]) (h : fX8_measure_61 n k6_ k26_ x2 x5 x6 s0 s1 I J = some r) : W p l e (rmm 1 25) s m args below meth c H locs 0 0 (QV below args s bs D y r) (F0 m 61 ls [.int s1, .int s0]) := by
  obtain ⟨hx, hb, hml, hown, hts, hK, hN, hL, hr, hlocks, hcb⟩ := id Gc
  unfold fX8_measure_61 at h
  refine lv_ior hx hb dX8_measure_61 ?_
  obtain ⟨v62, ev62, h⟩ := lt_s1 h
  refine top_i ev62 ?_
  refine lv_istore (lv' := [(4, .int v62), (0, .ref (bs + 28)), (1, .ref (bs + 16)), (2, .long x2), (5, .int x5), (6, .int x6)]) hx hb dX8_measure_62 hl (by decide) rfl (fun ls hl => ?_)
  refine lv_iinc (v := (x6 + (1 : Int32))) (lv' := [(6, .int (x6 + (1 : Int32))), (4, .int v62), (0, .ref (bs + 28)), (1, .ref (bs + 16)), (2, .long x2), (5, .int x5)]) hx hb dX8_measure_64 hl (k := 5) rfl rfl (by decide) rfl (fun ls hl => ?_)
  refine lv_goto (tgt := 26) hx hb dX8_measure_67 (by decide) ?_
  exact hk26_ x2 v62 x5 (x6 + (1 : Int32)) I J _ _ _ hP hS (lv_sub hl [2, 3, 4, 1, 5, 0] rfl) h
set_option maxHeartbeats 4000000 in
set_option maxRecDepth 100000 in
theorem wX8_measure_60 {p : Program} {l : Launch} {e : Env} {s : State} {m : MethodId} {args : Array Value} {below : List Frame} {meth : Method} {c : Code} (bs : Nat) (D : va_G) (y : Y3) (n : Nat) (k6_ : Int64 → Int32 → Int32 → MI → MJ → Option (M2)) (k26_ : Int64 → Int32 → Int32 → Int32 → MI → MJ → Option (M2)) (r : M2) (Gc : Gx p s m args meth c cX8_measure 7 RX8 bs D y none 44) (hk6_ : ∀ (x2 : Int64) (x4 : Int32) (x5 : Int32) (I : MI) (J : MJ) (H : Heap) (locs : List Loc) (ls : Array Slot), va_P D vwCl (wl bs y I J) H → va_S (FA bs) s.heap H locs → lv_has ls 7 [(0, .ref (bs + 28)), (1, .ref (bs + 16)), (2, .long x2), (4, .int x4), (5, .int x5)] → k6_ x2 x4 x5 I J = some r → W p l e (rmm 1 25) s m args below meth c H locs 0 0 (QV below args s bs D y r) (F0 m 6 ls [])) (hk26_ : ∀ (x2 : Int64) (x4 : Int32) (x5 : Int32) (x6 : Int32) (I : MI) (J : MJ) (H : Heap) (locs : List Loc) (ls : Array Slot), va_P D vwCl (wl bs y I J) H → va_S (FA bs) s.heap H locs → lv_has ls 7 [(0, .ref (bs + 28)), (1, .ref (bs + 16)), (2, .long x2), (4, .int x4), (5, .int x5), (6, .int x6)] → k26_ x2 x4 x5 x6 I J = some r → W p l e (rmm 1 25) s m args below meth c H locs 0 0 (QV below args s bs D y r) (F0 m 26 ls [])) (x2 : Int64) (x5 : Int32) (x6 : Int32) (s0 : Int32) (I : MI) (J : MJ) (H : Heap) (locs : List Loc) (ls : Array Slot) (hP : va_P D vwCl (wl bs y I J) H) (hS : va_S (FA bs) s.heap H locs) (hl : lv_has ls 7 [(0, .ref (bs + 28)), (1, .ref (bs + 16)), (2, .long x2), (5, .int x5), (6, .int x6)]) (h : fX8_measure_60 n k6_ k26_ x2 x5 x6 s0 I J = some r) : W p l e (rmm 1 25) s m args below meth c H locs 0 0 (QV below args s bs D y r) (F0 m 60 ls [.int s0]) := by
  obtain ⟨hx, hb, hml, hown, hts, hK, hN, hL, hr, hlocks, hcb⟩ := id Gc
  unfold fX8_measure_60 at h
  refine lv_iconst (v := (0 : Int32)) hx hb dX8_measure_60 (by decide) ?_
  exact wX8_measure_61 bs D y n k6_ k26_ r Gc hk6_ hk26_ x2 x5 x6 s0 (0 : Int32) I J _ _ _ hP hS (lv_sub hl [0, 1, 2, 3, 4] rfl) h
set_option maxHeartbeats 4000000 in
set_option maxRecDepth 100000 in
theorem wX8_measure_26 {p : Program} {l : Launch} {e : Env} {s : State} {m : MethodId} {args : Array Value} {below : List Frame} {meth : Method} {c : Code} (bs : Nat) (D : va_G) (y : Y3) (n : Nat) (k6_ : Int64 → Int32 → Int32 → MI → MJ → Option (M2)) (k26_ : Int64 → Int32 → Int32 → Int32 → MI → MJ → Option (M2)) (r : M2) (Gc : Gx p s m args meth c cX8_measure 7 RX8 bs D y none 44) (hk6_ : ∀ (x2 : Int64) (x4 : Int32) (x5 : Int32) (I : MI) (J : MJ) (H : Heap) (locs : List Loc) (ls : Array Slot), va_P D vwCl (wl bs y I J) H → va_S (FA bs) s.heap H locs → lv_has ls 7 [(0, .ref (bs + 28)), (1, .ref (bs + 16)), (2, .long x2), (4, .int x4), (5, .int x5)] → k6_ x2 x4 x5 I J = some r → W p l e (rmm 1 25) s m args below meth c H locs 0 0 (QV below args s bs D y r) (F0 m 6 ls [])) (hk26_ : ∀ (x2 : Int64) (x4 : Int32) (x5 : Int32) (x6 : Int32) (I : MI) (J : MJ) (H : Heap) (locs : List Loc) (ls : Array Slot), va_P D vwCl (wl bs y I J) H → va_S (FA bs) s.heap H locs → lv_has ls 7 [(0, .ref (bs + 28)), (1, .ref (bs + 16)), (2, .long x2), (4, .int x4), (5, .int x5), (6, .int x6)] → k26_ x2 x4 x5 x6 I J = some r → W p l e (rmm 1 25) s m args below meth c H locs 0 0 (QV below args s bs D y r) (F0 m 26 ls [])) (x2 : Int64) (x4 : Int32) (x5 : Int32) (x6 : Int32) (I : MI) (J : MJ) (H : Heap) (locs : List Loc) (ls : Array Slot) (hP : va_P D vwCl (wl bs y I J) H) (hS : va_S (FA bs) s.heap H locs) (hl : lv_has ls 7 [(0, .ref (bs + 28)), (1, .ref (bs + 16)), (2, .long x2), (4, .int x4), (5, .int x5), (6, .int x6)]) (h : fX8_measure_26 n k6_ k26_ x2 x4 x5 x6 I J = some r) : W p l e (rmm 1 25) s m args below meth c H locs 0 0 (QV below args s bs D y r) (F0 m 26 ls []) := by
  obtain ⟨hx, hb, hml, hown, hts, hK, hN, hL, hr, hlocks, hcb⟩ := id Gc
  unfold fX8_measure_26 at h
  refine lv_iload hx hb dX8_measure_26 (lv_at hl 5 rfl) ?_
  refine lv_aload_n hx hb dX8_measure_28 rfl (lv_at hl 1 rfl) ?_
  refine g_I (C := RX2) (T := TX2) (N := 10) (ci := 2) 16 2 hx hb hts hown hK hP in_X2 rfl hcb okF_16_2 fl_82 dX8_measure_29 ?_
  refine lv_icmp_ge (tgt := 70) hx hb dX8_measure_32 (by decide) (fun c32 => ?_) (fun c32 => ?_)
  · replace h := if_t c32 h
    refine lv_aload_n hx hb dX8_measure_70 rfl (lv_at hl 1 rfl) ?_
    refine g_I (C := RX2) (T := TX2) (N := 10) (ci := 2) 16 2 hx hb hts hown hK hP in_X2 rfl hcb okF_16_2 fl_82 dX8_measure_71 ?_
    refine lv_iconst (v := (1 : Int32)) hx hb dX8_measure_74 (by decide) ?_
    refine lv_isub hx hb dX8_measure_75 ?_
    obtain ⟨v76, ev76, h⟩ := lt_s1 h
    refine top_i ev76 ?_
    refine lv_istore (lv' := [(6, .int v76), (0, .ref (bs + 28)), (1, .ref (bs + 16)), (2, .long x2), (4, .int x4), (5, .int x5)]) hx hb dX8_measure_76 hl (by decide) rfl (fun ls hl => ?_)
    exact vX8_measure_78 bs D y n k6_ r Gc hk6_ n x2 x4 x5 v76 I J _ _ _ hP hS (lv_sub hl [1, 2, 3, 4, 5, 0] rfl) h
  · replace h := if_f c32 h
    refine lv_iload hx hb dX8_measure_35 (lv_at hl 3 rfl) ?_
    refine lv_lload_n hx hb dX8_measure_37 rfl (lv_at hl 2 rfl) ?_
    refine lv_iload hx hb dX8_measure_38 (lv_at hl 5 rfl) ?_
    obtain ⟨r40, er40, h⟩ := bd_s1 h
    refine c_NI (As := [.long x2, .int x6]) (rest := [.int x4]) hx hb hml hown hts hK hN hL hP hS (cX9_hasBit_ l bs D y hcb n x2 x6 I J r40 er40) ok_X9_hasBit ov_X9_hasBit mn_4 ⟨Nat.le_of_ble_eq_true rfl, Nat.le_of_ble_eq_true rfl⟩ hl.1 rfl rfl (Nat.le_of_ble_eq_true rfl) ⟨Nat.zero_le _, Nat.zero_le _⟩ dX8_measure_40 (fun H locs hP hS => ?_)
    refine lv_if_eq (tgt := 60) hx hb dX8_measure_43 (by decide) (fun c43 => ?_) (fun c43 => ?_)
    · replace h := if_t c43 h
      exact wX8_measure_60 bs D y n k6_ k26_ r Gc hk6_ hk26_ x2 x5 x6 x4 r40.2.1 r40.2.2 _ _ _ hP hS (lv_sub hl [0, 1, 2, 4, 5] rfl) h
    · replace h := if_f c43 h
      refine lv_aload_n hx hb dX8_measure_46 rfl (lv_at hl 0 rfl) ?_
      refine lv_iload hx hb dX8_measure_47 (lv_at hl 5 rfl) ?_
      refine lv_aload_n hx hb dX8_measure_49 rfl (lv_at hl 1 rfl) ?_
      obtain ⟨r50, er50, h⟩ := bd_s1 h
      refine c_VI (k := 28) (ci := 8) (As := [.int x6, .ref (bs + 16)]) (rest := [.int x4]) hx hb hml hown hts hK hN hL hP hS (cX8_relax_ l bs D y hcb n x6 r40.2.1 r40.2.2 r50 er50) ok_X8_relax ov_X8_relax ml_53 ⟨Nat.le_of_ble_eq_true rfl, Nat.le_of_ble_eq_true rfl⟩ rfl hcb kd_28 hl.1 rfl rfl (Nat.le_of_ble_eq_true rfl) ⟨Nat.zero_le _, Nat.zero_le _⟩ dX8_measure_50 (fun H locs hP hS => ?_)
      refine lv_if_eq (tgt := 60) hx hb dX8_measure_53 (by decide) (fun c53 => ?_) (fun c53 => ?_)
      · replace h := if_t c53 h
        exact wX8_measure_60 bs D y n k6_ k26_ r Gc hk6_ hk26_ x2 x5 x6 x4 r50.2.1 r50.2.2 _ _ _ hP hS (lv_sub hl [0, 1, 2, 4, 5] rfl) h
      · replace h := if_f c53 h
        refine lv_iconst (v := (1 : Int32)) hx hb dX8_measure_56 (by decide) ?_
        refine lv_goto (tgt := 61) hx hb dX8_measure_57 (by decide) ?_
        exact wX8_measure_61 bs D y n k6_ k26_ r Gc hk6_ hk26_ x2 x5 x6 x4 (1 : Int32) r50.2.1 r50.2.2 _ _ _ hP hS (lv_sub hl [0, 1, 2, 4, 5] rfl) h
theorem vX8_measure_26 {p : Program} {l : Launch} {e : Env} {s : State} {m : MethodId} {args : Array Value} {below : List Frame} {meth : Method} {c : Code} (bs : Nat) (D : va_G) (y : Y3) (n : Nat) (k6_ : Int64 → Int32 → Int32 → MI → MJ → Option (M2)) (r : M2) (Gc : Gx p s m args meth c cX8_measure 7 RX8 bs D y none 44) (hk6_ : ∀ (x2 : Int64) (x4 : Int32) (x5 : Int32) (I : MI) (J : MJ) (H : Heap) (locs : List Loc) (ls : Array Slot), va_P D vwCl (wl bs y I J) H → va_S (FA bs) s.heap H locs → lv_has ls 7 [(0, .ref (bs + 28)), (1, .ref (bs + 16)), (2, .long x2), (4, .int x4), (5, .int x5)] → k6_ x2 x4 x5 I J = some r → W p l e (rmm 1 25) s m args below meth c H locs 0 0 (QV below args s bs D y r) (F0 m 6 ls [])) : ∀ (q : Nat) (x2 : Int64) (x4 : Int32) (x5 : Int32) (x6 : Int32) (I : MI) (J : MJ) (H : Heap) (locs : List Loc) (ls : Array Slot), va_P D vwCl (wl bs y I J) H → va_S (FA bs) s.heap H locs → lv_has ls 7 [(0, .ref (bs + 28)), (1, .ref (bs + 16)), (2, .long x2), (4, .int x4), (5, .int x5), (6, .int x6)] → lX8_measure_26 n k6_ q x2 x4 x5 x6 I J = some r → W p l e (rmm 1 25) s m args below meth c H locs 0 0 (QV below args s bs D y r) (F0 m 26 ls []) := by
  intro q
  induction q with
  | zero =>
    intro x2 x4 x5 x6 I J H locs ls hP hS hl h
    have h : (none : Option (M2)) = some r := h
    cases h
  | succ q ih =>
    intro x2 x4 x5 x6 I J H locs ls hP hS hl h
    have h : fX8_measure_26 n k6_ (lX8_measure_26 n k6_ q) x2 x4 x5 x6 I J = some r := h
    exact wX8_measure_26 bs D y n k6_ (lX8_measure_26 n k6_ q) r Gc hk6_ ih x2 x4 x5 x6 I J H locs ls hP hS hl h
set_option maxHeartbeats 4000000 in
set_option maxRecDepth 100000 in
theorem wX8_measure_6 {p : Program} {l : Launch} {e : Env} {s : State} {m : MethodId} {args : Array Value} {below : List Frame} {meth : Method} {c : Code} (bs : Nat) (D : va_G) (y : Y3) (n : Nat) (k6_ : Int64 → Int32 → Int32 → MI → MJ → Option (M2)) (r : M2) (Gc : Gx p s m args meth c cX8_measure 7 RX8 bs D y none 44) (hk6_ : ∀ (x2 : Int64) (x4 : Int32) (x5 : Int32) (I : MI) (J : MJ) (H : Heap) (locs : List Loc) (ls : Array Slot), va_P D vwCl (wl bs y I J) H → va_S (FA bs) s.heap H locs → lv_has ls 7 [(0, .ref (bs + 28)), (1, .ref (bs + 16)), (2, .long x2), (4, .int x4), (5, .int x5)] → k6_ x2 x4 x5 I J = some r → W p l e (rmm 1 25) s m args below meth c H locs 0 0 (QV below args s bs D y r) (F0 m 6 ls [])) (x2 : Int64) (x4 : Int32) (x5 : Int32) (I : MI) (J : MJ) (H : Heap) (locs : List Loc) (ls : Array Slot) (hP : va_P D vwCl (wl bs y I J) H) (hS : va_S (FA bs) s.heap H locs) (hl : lv_has ls 7 [(0, .ref (bs + 28)), (1, .ref (bs + 16)), (2, .long x2), (4, .int x4), (5, .int x5)]) (h : fX8_measure_6 n k6_ x2 x4 x5 I J = some r) : W p l e (rmm 1 25) s m args below meth c H locs 0 0 (QV below args s bs D y r) (F0 m 6 ls []) := by
  obtain ⟨hx, hb, hml, hown, hts, hK, hN, hL, hr, hlocks, hcb⟩ := id Gc
  unfold fX8_measure_6 at h
  refine lv_iload hx hb dX8_measure_6 (lv_at hl 4 rfl) ?_
  refine lv_aload_n hx hb dX8_measure_8 rfl (lv_at hl 1 rfl) ?_
  refine g_I (C := RX2) (T := TX2) (N := 10) (ci := 2) 16 1 hx hb hts hown hK hP in_X2 rfl hcb okF_16_1 fl_91 dX8_measure_9 ?_
  refine lv_icmp_ge (tgt := 124) hx hb dX8_measure_12 (by decide) (fun c12 => ?_) (fun c12 => ?_)
  · replace h := if_t c12 h
    exact r_V hx hb hr hlocks hP hK hN hL hS h dX8_measure_124
  · replace h := if_f c12 h
    refine lv_iload hx hb dX8_measure_15 (lv_at hl 3 rfl) ?_
    refine lv_if_eq (tgt := 124) hx hb dX8_measure_17 (by decide) (fun c17 => ?_) (fun c17 => ?_)
    · replace h := if_t c17 h
      exact r_V hx hb hr hlocks hP hK hN hL hS h dX8_measure_124
    · replace h := if_f c17 h
      refine lv_iconst (v := (0 : Int32)) hx hb dX8_measure_20 (by decide) ?_
      refine lv_istore (lv' := [(4, .int (0 : Int32)), (0, .ref (bs + 28)), (1, .ref (bs + 16)), (2, .long x2), (5, .int x5)]) hx hb dX8_measure_21 hl (by decide) rfl (fun ls hl => ?_)
      refine lv_iconst (v := (0 : Int32)) hx hb dX8_measure_23 (by decide) ?_
      refine lv_istore (lv' := [(6, .int (0 : Int32)), (4, .int (0 : Int32)), (0, .ref (bs + 28)), (1, .ref (bs + 16)), (2, .long x2), (5, .int x5)]) hx hb dX8_measure_24 hl (by decide) rfl (fun ls hl => ?_)
      exact vX8_measure_26 bs D y n k6_ r Gc hk6_ n x2 (0 : Int32) x5 (0 : Int32) I J _ _ _ hP hS (lv_sub hl [2, 3, 4, 1, 5, 0] rfl) h
theorem vX8_measure_6 {p : Program} {l : Launch} {e : Env} {s : State} {m : MethodId} {args : Array Value} {below : List Frame} {meth : Method} {c : Code} (bs : Nat) (D : va_G) (y : Y3) (n : Nat) (r : M2) (Gc : Gx p s m args meth c cX8_measure 7 RX8 bs D y none 44)  : ∀ (q : Nat) (x2 : Int64) (x4 : Int32) (x5 : Int32) (I : MI) (J : MJ) (H : Heap) (locs : List Loc) (ls : Array Slot), va_P D vwCl (wl bs y I J) H → va_S (FA bs) s.heap H locs → lv_has ls 7 [(0, .ref (bs + 28)), (1, .ref (bs + 16)), (2, .long x2), (4, .int x4), (5, .int x5)] → lX8_measure_6 n  q x2 x4 x5 I J = some r → W p l e (rmm 1 25) s m args below meth c H locs 0 0 (QV below args s bs D y r) (F0 m 6 ls []) := by
  intro q
  induction q with
  | zero =>
    intro x2 x4 x5 I J H locs ls hP hS hl h
    have h : (none : Option (M2)) = some r := h
    cases h
  | succ q ih =>
    intro x2 x4 x5 I J H locs ls hP hS hl h
    have h : fX8_measure_6 n  (lX8_measure_6 n  q) x2 x4 x5 I J = some r := h
    exact wX8_measure_6 bs D y n  (lX8_measure_6 n  q) r Gc  ih x2 x4 x5 I J H locs ls hP hS hl h
set_option maxHeartbeats 4000000 in
set_option maxRecDepth 100000 in
theorem cX8_measure_ (l : Launch) (bs : Nat) (D : va_G) (y : Y3) (hcb : 44 ≤ y.2.2.2) (n : Nat) (x2 : Int64) (I : MI) (J : MJ) (r : M2) (h : fX8_measure n x2 I J = some r) : Met l yX8_measure (.code yX8_measure cX8_measure 7 none :: gtb) (rmm 1 25) (va_Pc [.ref (bs + 28), .ref (bs + 16), .long x2] (HB bs D y I J)) (QcV bs D y r) 0 0 (FA bs) := by
  refine Met.ofW (cc := cX8_measure) (maxL := 7) (ret := none) (by decide) rfl ?_
  intro p e s m args below meth c s₁ B hml hv
  obtain ⟨rfl, hP, hK, hN, hL⟩ := hv
  have hx := B.exec
  have hb := B.bytes
  have hr := B.returns
  have hts0 := atoms_spec (ws := .code yX8_measure cX8_measure 7 none :: gtb) B.pre
  have hts : ∀ w ∈ gtb, w.before [.ref (bs + 28), .ref (bs + 16), .long x2].toArray s = true := fun w hw => hts0 w (List.mem_cons_of_mem _ hw)
  have hown : s.vm.findClass RX8 = some m.cls := findClass_of_methodNamed B.named
  have hlocks := B.notSynchronized
  have hS : va_S (FA bs) s.heap s.heap [] := va_S.rf
  have Gc : Gx p s m [.ref (bs + 28), .ref (bs + 16), .long x2].toArray meth c cX8_measure 7 RX8 bs D y none 44 := ⟨hx, hb, hml, hown, hts, hK, hN, hL, hr, hlocks, hcb⟩
  have hl := lv_entry [.ref (bs + 28), .ref (bs + 16), .long x2] (n := 7) (Nat.le_of_ble_eq_true rfl)
  rw [lg_entry_eq]
  generalize (lg_sl [.ref (bs + 28), .ref (bs + 16), .long x2] ++ List.replicate (7 - (lg_sl [.ref (bs + 28), .ref (bs + 16), .long x2]).length) Slot.unset).toArray = ls at hl ⊢
  have hl : lv_has ls 7 [(0, .ref (bs + 28)), (1, .ref (bs + 16)), (2, .long x2)] := hl
  change W p l e (rmm 1 25) s m [.ref (bs + 28), .ref (bs + 16), .long x2].toArray below meth c s.heap [] 0 0 (QV below [.ref (bs + 28), .ref (bs + 16), .long x2].toArray s bs D y r) (F0 m 0 ls [])
  unfold fX8_measure at h
  refine lv_iconst (v := (1 : Int32)) hx hb dX8_measure_0 (by decide) ?_
  refine lv_istore (lv' := [(4, .int (1 : Int32)), (0, .ref (bs + 28)), (1, .ref (bs + 16)), (2, .long x2)]) hx hb dX8_measure_1 hl (by decide) rfl (fun ls hl => ?_)
  refine lv_iconst (v := (0 : Int32)) hx hb dX8_measure_3 (by decide) ?_
  refine lv_istore (lv' := [(5, .int (0 : Int32)), (4, .int (1 : Int32)), (0, .ref (bs + 28)), (1, .ref (bs + 16)), (2, .long x2)]) hx hb dX8_measure_4 hl (by decide) rfl (fun ls hl => ?_)
  exact vX8_measure_6 bs D y n  r Gc  n x2 (1 : Int32) (0 : Int32) I J _ _ _ hP hS (lv_sub hl [2, 3, 4, 1, 0] rfl) h
theorem dX8_joinTree_0 : decode cX8_joinTree 0 = .ok (.iconst 0, 1) := by decide +kernel
theorem dX8_joinTree_1 : decode cX8_joinTree 1 = .ok (.istore 4, 2) := by decide +kernel
theorem dX8_joinTree_3 : decode cX8_joinTree 3 = .ok (.iload 4, 2) := by decide +kernel
theorem dX8_joinTree_5 : decode cX8_joinTree 5 = .ok (.aload_n 3, 1) := by decide +kernel
theorem dX8_joinTree_6 : decode cX8_joinTree 6 = .ok (.getfield 85, 3) := by decide +kernel
theorem dX8_joinTree_9 : decode cX8_joinTree 9 = .ok (.if_icmp .ge 26, 3) := by decide +kernel
theorem dX8_joinTree_12 : decode cX8_joinTree 12 = .ok (.lload_n 1, 1) := by decide +kernel
theorem dX8_joinTree_13 : decode cX8_joinTree 13 = .ok (.iload 4, 2) := by decide +kernel
theorem dX8_joinTree_15 : decode cX8_joinTree 15 = .ok (.invokestatic 88, 3) := by decide +kernel
theorem dX8_joinTree_18 : decode cX8_joinTree 18 = .ok (.ifCond .eq 11, 3) := by decide +kernel
theorem dX8_joinTree_21 : decode cX8_joinTree 21 = .ok (.aload_n 0, 1) := by decide +kernel
theorem dX8_joinTree_22 : decode cX8_joinTree 22 = .ok (.getfield 25, 3) := by decide +kernel
theorem dX8_joinTree_25 : decode cX8_joinTree 25 = .ok (.iload 4, 2) := by decide +kernel
theorem dX8_joinTree_27 : decode cX8_joinTree 27 = .ok (.iconst 0, 1) := by decide +kernel
theorem dX8_joinTree_28 : decode cX8_joinTree 28 = .ok (.iastore, 1) := by decide +kernel
theorem dX8_joinTree_29 : decode cX8_joinTree 29 = .ok (.iinc 4 1, 3) := by decide +kernel
theorem dX8_joinTree_32 : decode cX8_joinTree 32 = .ok (.goto (-29), 3) := by decide +kernel
theorem dX8_joinTree_35 : decode cX8_joinTree 35 = .ok (.return_, 1) := by decide +kernel
set_option maxHeartbeats 4000000 in
set_option maxRecDepth 100000 in
theorem wX8_joinTree_29 {p : Program} {l : Launch} {e : Env} {s : State} {m : MethodId} {args : Array Value} {below : List Frame} {meth : Method} {c : Code} (bs : Nat) (D : va_G) (y : Y3) (n : Nat) (k3_ : Int64 → Int32 → MI → MJ → Option (M2)) (r : M2) (Gc : Gx p s m args meth c cX8_joinTree 5 RX8 bs D y none 44) (hk3_ : ∀ (x1 : Int64) (x4 : Int32) (I : MI) (J : MJ) (H : Heap) (locs : List Loc) (ls : Array Slot), va_P D vwCl (wl bs y I J) H → va_S (FA bs) s.heap H locs → lv_has ls 5 [(0, .ref (bs + 28)), (1, .long x1), (3, .ref (bs + 16)), (4, .int x4)] → k3_ x1 x4 I J = some r → W p l e (rmm 1 22) s m args below meth c H locs 0 0 (QV below args s bs D y r) (F0 m 3 ls [])) (x1 : Int64) (x4 : Int32) (I : MI) (J : MJ) (H : Heap) (locs : List Loc) (ls : Array Slot) (hP : va_P D vwCl (wl bs y I J) H) (hS : va_S (FA bs) s.heap H locs) (hl : lv_has ls 5 [(0, .ref (bs + 28)), (1, .long x1), (3, .ref (bs + 16)), (4, .int x4)]) (h : fX8_joinTree_29 n k3_ x1 x4 I J = some r) : W p l e (rmm 1 22) s m args below meth c H locs 0 0 (QV below args s bs D y r) (F0 m 29 ls []) := by
  obtain ⟨hx, hb, hml, hown, hts, hK, hN, hL, hr, hlocks, hcb⟩ := id Gc
  unfold fX8_joinTree_29 at h
  refine lv_iinc (v := (x4 + (1 : Int32))) (lv' := [(4, .int (x4 + (1 : Int32))), (0, .ref (bs + 28)), (1, .long x1), (3, .ref (bs + 16))]) hx hb dX8_joinTree_29 hl (k := 3) rfl rfl (by decide) rfl (fun ls hl => ?_)
  refine lv_goto (tgt := 3) hx hb dX8_joinTree_32 (by decide) ?_
  exact hk3_ x1 (x4 + (1 : Int32)) I J _ _ _ hP hS (lv_sub hl [1, 2, 3, 0] rfl) h
set_option maxHeartbeats 4000000 in
set_option maxRecDepth 100000 in
theorem wX8_joinTree_3 {p : Program} {l : Launch} {e : Env} {s : State} {m : MethodId} {args : Array Value} {below : List Frame} {meth : Method} {c : Code} (bs : Nat) (D : va_G) (y : Y3) (n : Nat) (k3_ : Int64 → Int32 → MI → MJ → Option (M2)) (r : M2) (Gc : Gx p s m args meth c cX8_joinTree 5 RX8 bs D y none 44) (hk3_ : ∀ (x1 : Int64) (x4 : Int32) (I : MI) (J : MJ) (H : Heap) (locs : List Loc) (ls : Array Slot), va_P D vwCl (wl bs y I J) H → va_S (FA bs) s.heap H locs → lv_has ls 5 [(0, .ref (bs + 28)), (1, .long x1), (3, .ref (bs + 16)), (4, .int x4)] → k3_ x1 x4 I J = some r → W p l e (rmm 1 22) s m args below meth c H locs 0 0 (QV below args s bs D y r) (F0 m 3 ls [])) (x1 : Int64) (x4 : Int32) (I : MI) (J : MJ) (H : Heap) (locs : List Loc) (ls : Array Slot) (hP : va_P D vwCl (wl bs y I J) H) (hS : va_S (FA bs) s.heap H locs) (hl : lv_has ls 5 [(0, .ref (bs + 28)), (1, .long x1), (3, .ref (bs + 16)), (4, .int x4)]) (h : fX8_joinTree_3 n k3_ x1 x4 I J = some r) : W p l e (rmm 1 22) s m args below meth c H locs 0 0 (QV below args s bs D y r) (F0 m 3 ls []) := by
  obtain ⟨hx, hb, hml, hown, hts, hK, hN, hL, hr, hlocks, hcb⟩ := id Gc
  unfold fX8_joinTree_3 at h
  refine lv_iload hx hb dX8_joinTree_3 (lv_at hl 3 rfl) ?_
  refine lv_aload_n hx hb dX8_joinTree_5 rfl (lv_at hl 2 rfl) ?_
  refine g_I (C := RX2) (T := TX2) (N := 10) (ci := 2) 16 1 hx hb hts hown hK hP in_X2 rfl hcb okF_16_1 fl_91 dX8_joinTree_6 ?_
  refine lv_icmp_ge (tgt := 35) hx hb dX8_joinTree_9 (by decide) (fun c9 => ?_) (fun c9 => ?_)
  · replace h := if_t c9 h
    exact r_V hx hb hr hlocks hP hK hN hL hS h dX8_joinTree_35
  · replace h := if_f c9 h
    refine lv_lload_n hx hb dX8_joinTree_12 rfl (lv_at hl 1 rfl) ?_
    refine lv_iload hx hb dX8_joinTree_13 (lv_at hl 3 rfl) ?_
    obtain ⟨r15, er15, h⟩ := bd_s1 h
    refine c_NI (As := [.long x1, .int x4]) (rest := []) hx hb hml hown hts hK hN hL hP hS (cX9_hasBit_ l bs D y hcb n x1 x4 I J r15 er15) ok_X9_hasBit ov_X9_hasBit mn_4 ⟨Nat.le_of_ble_eq_true rfl, Nat.le_of_ble_eq_true rfl⟩ hl.1 rfl rfl (Nat.le_of_ble_eq_true rfl) ⟨Nat.zero_le _, Nat.zero_le _⟩ dX8_joinTree_15 (fun H locs hP hS => ?_)
    refine lv_if_eq (tgt := 29) hx hb dX8_joinTree_18 (by decide) (fun c18 => ?_) (fun c18 => ?_)
    · replace h := if_t c18 h
      exact wX8_joinTree_29 bs D y n k3_ r Gc hk3_ x1 x4 r15.2.1 r15.2.2 _ _ _ hP hS (lv_sub hl [0, 1, 2, 3] rfl) h
    · replace h := if_f c18 h
      refine lv_aload_n hx hb dX8_joinTree_21 rfl (lv_at hl 0 rfl) ?_
      refine g_R (C := RX8) (T := TX8) (N := 6) (ci := 8) 28 5 33 hx hb hts hown hK hP in_X8 rfl hcb okF_28_5 rfc_28_5 fl_88 dX8_joinTree_22 ?_
      refine lv_iload hx hb dX8_joinTree_25 (lv_at hl 3 rfl) ?_
      refine lv_iconst (v := (0 : Int32)) hx hb dX8_joinTree_27 (by decide) ?_
      obtain ⟨hi28, h⟩ := if_s1 h
      obtain ⟨I28, eI28, h⟩ := lt_s1 h
      refine t_I 33 eI28 hx hb hK hP hS hcb aln_33 hi28 dX8_joinTree_28 (fun H locs hP hS => ?_)
      exact wX8_joinTree_29 bs D y n k3_ r Gc hk3_ x1 x4 I28 r15.2.2 _ _ _ hP hS (lv_sub hl [0, 1, 2, 3] rfl) h
theorem vX8_joinTree_3 {p : Program} {l : Launch} {e : Env} {s : State} {m : MethodId} {args : Array Value} {below : List Frame} {meth : Method} {c : Code} (bs : Nat) (D : va_G) (y : Y3) (n : Nat) (r : M2) (Gc : Gx p s m args meth c cX8_joinTree 5 RX8 bs D y none 44)  : ∀ (q : Nat) (x1 : Int64) (x4 : Int32) (I : MI) (J : MJ) (H : Heap) (locs : List Loc) (ls : Array Slot), va_P D vwCl (wl bs y I J) H → va_S (FA bs) s.heap H locs → lv_has ls 5 [(0, .ref (bs + 28)), (1, .long x1), (3, .ref (bs + 16)), (4, .int x4)] → lX8_joinTree_3 n  q x1 x4 I J = some r → W p l e (rmm 1 22) s m args below meth c H locs 0 0 (QV below args s bs D y r) (F0 m 3 ls []) := by
  intro q
  induction q with
  | zero =>
    intro x1 x4 I J H locs ls hP hS hl h
    have h : (none : Option (M2)) = some r := h
    cases h
  | succ q ih =>
    intro x1 x4 I J H locs ls hP hS hl h
    have h : fX8_joinTree_3 n  (lX8_joinTree_3 n  q) x1 x4 I J = some r := h
    exact wX8_joinTree_3 bs D y n  (lX8_joinTree_3 n  q) r Gc  ih x1 x4 I J H locs ls hP hS hl h
set_option maxHeartbeats 4000000 in
set_option maxRecDepth 100000 in
theorem cX8_joinTree_ (l : Launch) (bs : Nat) (D : va_G) (y : Y3) (hcb : 44 ≤ y.2.2.2) (n : Nat) (x1 : Int64) (I : MI) (J : MJ) (r : M2) (h : fX8_joinTree n x1 I J = some r) : Met l yX8_joinTree (.code yX8_joinTree cX8_joinTree 5 none :: gtb) (rmm 1 22) (va_Pc [.ref (bs + 28), .long x1, .ref (bs + 16)] (HB bs D y I J)) (QcV bs D y r) 0 0 (FA bs) := by
  refine Met.ofW (cc := cX8_joinTree) (maxL := 5) (ret := none) (by decide) rfl ?_
  intro p e s m args below meth c s₁ B hml hv
  obtain ⟨rfl, hP, hK, hN, hL⟩ := hv
  have hx := B.exec
  have hb := B.bytes
  have hr := B.returns
  have hts0 := atoms_spec (ws := .code yX8_joinTree cX8_joinTree 5 none :: gtb) B.pre
  have hts : ∀ w ∈ gtb, w.before [.ref (bs + 28), .long x1, .ref (bs + 16)].toArray s = true := fun w hw => hts0 w (List.mem_cons_of_mem _ hw)
  have hown : s.vm.findClass RX8 = some m.cls := findClass_of_methodNamed B.named
  have hlocks := B.notSynchronized
  have hS : va_S (FA bs) s.heap s.heap [] := va_S.rf
  have Gc : Gx p s m [.ref (bs + 28), .long x1, .ref (bs + 16)].toArray meth c cX8_joinTree 5 RX8 bs D y none 44 := ⟨hx, hb, hml, hown, hts, hK, hN, hL, hr, hlocks, hcb⟩
  have hl := lv_entry [.ref (bs + 28), .long x1, .ref (bs + 16)] (n := 5) (Nat.le_of_ble_eq_true rfl)
  rw [lg_entry_eq]
  generalize (lg_sl [.ref (bs + 28), .long x1, .ref (bs + 16)] ++ List.replicate (5 - (lg_sl [.ref (bs + 28), .long x1, .ref (bs + 16)]).length) Slot.unset).toArray = ls at hl ⊢
  have hl : lv_has ls 5 [(0, .ref (bs + 28)), (1, .long x1), (3, .ref (bs + 16))] := hl
  change W p l e (rmm 1 22) s m [.ref (bs + 28), .long x1, .ref (bs + 16)].toArray below meth c s.heap [] 0 0 (QV below [.ref (bs + 28), .long x1, .ref (bs + 16)].toArray s bs D y r) (F0 m 0 ls [])
  unfold fX8_joinTree at h
  refine lv_iconst (v := (0 : Int32)) hx hb dX8_joinTree_0 (by decide) ?_
  refine lv_istore (lv' := [(4, .int (0 : Int32)), (0, .ref (bs + 28)), (1, .long x1), (3, .ref (bs + 16))]) hx hb dX8_joinTree_1 hl (by decide) rfl (fun ls hl => ?_)
  exact vX8_joinTree_3 bs D y n  r Gc  n x1 (0 : Int32) I J _ _ _ hP hS (lv_sub hl [1, 2, 3, 0] rfl) h
theorem dX8_goBack_0 : decode cX8_goBack 0 = .ok (.lconst 0, 1) := by decide +kernel
theorem dX8_goBack_1 : decode cX8_goBack 1 = .ok (.lstore 4, 2) := by decide +kernel
theorem dX8_goBack_3 : decode cX8_goBack 3 = .ok (.iload_n 2, 1) := by decide +kernel
theorem dX8_goBack_4 : decode cX8_goBack 4 = .ok (.istore 6, 2) := by decide +kernel
theorem dX8_goBack_6 : decode cX8_goBack 6 = .ok (.iconst 0, 1) := by decide +kernel
theorem dX8_goBack_7 : decode cX8_goBack 7 = .ok (.istore 7, 2) := by decide +kernel
theorem dX8_goBack_9 : decode cX8_goBack 9 = .ok (.iload 7, 2) := by decide +kernel
theorem dX8_goBack_11 : decode cX8_goBack 11 = .ok (.aload_n 3, 1) := by decide +kernel
theorem dX8_goBack_12 : decode cX8_goBack 12 = .ok (.getfield 85, 3) := by decide +kernel
theorem dX8_goBack_15 : decode cX8_goBack 15 = .ok (.if_icmp .ge 87, 3) := by decide +kernel
theorem dX8_goBack_18 : decode cX8_goBack 18 = .ok (.aload_n 0, 1) := by decide +kernel
theorem dX8_goBack_19 : decode cX8_goBack 19 = .ok (.getfield 25, 3) := by decide +kernel
theorem dX8_goBack_22 : decode cX8_goBack 22 = .ok (.iload 6, 2) := by decide +kernel
theorem dX8_goBack_24 : decode cX8_goBack 24 = .ok (.iaload, 1) := by decide +kernel
theorem dX8_goBack_25 : decode cX8_goBack 25 = .ok (.ifCond .eq 77, 3) := by decide +kernel
theorem dX8_goBack_28 : decode cX8_goBack 28 = .ok (.aload_n 3, 1) := by decide +kernel
theorem dX8_goBack_29 : decode cX8_goBack 29 = .ok (.iload 6, 2) := by decide +kernel
theorem dX8_goBack_31 : decode cX8_goBack 31 = .ok (.aload_n 0, 1) := by decide +kernel
theorem dX8_goBack_32 : decode cX8_goBack 32 = .ok (.getfield 25, 3) := by decide +kernel
theorem dX8_goBack_35 : decode cX8_goBack 35 = .ok (.aload_n 0, 1) := by decide +kernel
theorem dX8_goBack_36 : decode cX8_goBack 36 = .ok (.getfield 22, 3) := by decide +kernel
theorem dX8_goBack_39 : decode cX8_goBack 39 = .ok (.invokevirtual 119, 3) := by decide +kernel
theorem dX8_goBack_42 : decode cX8_goBack 42 = .ok (.istore 8, 2) := by decide +kernel
theorem dX8_goBack_44 : decode cX8_goBack 44 = .ok (.iload 8, 2) := by decide +kernel
theorem dX8_goBack_46 : decode cX8_goBack 46 = .ok (.iconst (-1), 1) := by decide +kernel
theorem dX8_goBack_47 : decode cX8_goBack 47 = .ok (.if_icmp .ne 6, 3) := by decide +kernel
theorem dX8_goBack_50 : decode cX8_goBack 50 = .ok (.goto 52, 3) := by decide +kernel
theorem dX8_goBack_53 : decode cX8_goBack 53 = .ok (.lload 4, 2) := by decide +kernel
theorem dX8_goBack_55 : decode cX8_goBack 55 = .ok (.lconst 1, 1) := by decide +kernel
theorem dX8_goBack_56 : decode cX8_goBack 56 = .ok (.iload 6, 2) := by decide +kernel
theorem dX8_goBack_58 : decode cX8_goBack 58 = .ok (.lshl, 1) := by decide +kernel
theorem dX8_goBack_59 : decode cX8_goBack 59 = .ok (.lor, 1) := by decide +kernel
theorem dX8_goBack_60 : decode cX8_goBack 60 = .ok (.lstore 4, 2) := by decide +kernel
theorem dX8_goBack_62 : decode cX8_goBack 62 = .ok (.aload_n 0, 1) := by decide +kernel
theorem dX8_goBack_63 : decode cX8_goBack 63 = .ok (.getfield 18, 3) := by decide +kernel
theorem dX8_goBack_66 : decode cX8_goBack 66 = .ok (.iload_n 1, 1) := by decide +kernel
theorem dX8_goBack_67 : decode cX8_goBack 67 = .ok (.dup2, 1) := by decide +kernel
theorem dX8_goBack_68 : decode cX8_goBack 68 = .ok (.laload, 1) := by decide +kernel
theorem dX8_goBack_69 : decode cX8_goBack 69 = .ok (.lconst 1, 1) := by decide +kernel
theorem dX8_goBack_70 : decode cX8_goBack 70 = .ok (.iload 8, 2) := by decide +kernel
theorem dX8_goBack_72 : decode cX8_goBack 72 = .ok (.lshl, 1) := by decide +kernel
theorem dX8_goBack_73 : decode cX8_goBack 73 = .ok (.lor, 1) := by decide +kernel
theorem dX8_goBack_74 : decode cX8_goBack 74 = .ok (.lastore, 1) := by decide +kernel
theorem dX8_goBack_75 : decode cX8_goBack 75 = .ok (.aload_n 0, 1) := by decide +kernel
theorem dX8_goBack_76 : decode cX8_goBack 76 = .ok (.getfield 9, 3) := by decide +kernel
theorem dX8_goBack_79 : decode cX8_goBack 79 = .ok (.iload 8, 2) := by decide +kernel
theorem dX8_goBack_81 : decode cX8_goBack 81 = .ok (.dup2, 1) := by decide +kernel
theorem dX8_goBack_82 : decode cX8_goBack 82 = .ok (.iaload, 1) := by decide +kernel
theorem dX8_goBack_83 : decode cX8_goBack 83 = .ok (.iconst 1, 1) := by decide +kernel
theorem dX8_goBack_84 : decode cX8_goBack 84 = .ok (.iadd, 1) := by decide +kernel
theorem dX8_goBack_85 : decode cX8_goBack 85 = .ok (.iastore, 1) := by decide +kernel
theorem dX8_goBack_86 : decode cX8_goBack 86 = .ok (.aload_n 3, 1) := by decide +kernel
theorem dX8_goBack_87 : decode cX8_goBack 87 = .ok (.iload 8, 2) := by decide +kernel
theorem dX8_goBack_89 : decode cX8_goBack 89 = .ok (.iload 6, 2) := by decide +kernel
theorem dX8_goBack_91 : decode cX8_goBack 91 = .ok (.invokevirtual 123, 3) := by decide +kernel
theorem dX8_goBack_94 : decode cX8_goBack 94 = .ok (.istore 6, 2) := by decide +kernel
theorem dX8_goBack_96 : decode cX8_goBack 96 = .ok (.iinc 7 1, 3) := by decide +kernel
theorem dX8_goBack_99 : decode cX8_goBack 99 = .ok (.goto (-90), 3) := by decide +kernel
theorem dX8_goBack_102 : decode cX8_goBack 102 = .ok (.aload_n 0, 1) := by decide +kernel
theorem dX8_goBack_103 : decode cX8_goBack 103 = .ok (.lload 4, 2) := by decide +kernel
theorem dX8_goBack_105 : decode cX8_goBack 105 = .ok (.aload_n 3, 1) := by decide +kernel
theorem dX8_goBack_106 : decode cX8_goBack 106 = .ok (.invokevirtual 126, 3) := by decide +kernel
theorem dX8_goBack_109 : decode cX8_goBack 109 = .ok (.return_, 1) := by decide +kernel
set_option maxHeartbeats 4000000 in
set_option maxRecDepth 100000 in
theorem wX8_goBack_102 {p : Program} {l : Launch} {e : Env} {s : State} {m : MethodId} {args : Array Value} {below : List Frame} {meth : Method} {c : Code} (bs : Nat) (D : va_G) (y : Y3) (n : Nat) (r : M2) (Gc : Gx p s m args meth c cX8_goBack 9 RX8 bs D y none 44)  (x4 : Int64) (I : MI) (J : MJ) (H : Heap) (locs : List Loc) (ls : Array Slot) (hP : va_P D vwCl (wl bs y I J) H) (hS : va_S (FA bs) s.heap H locs) (hl : lv_has ls 9 [(0, .ref (bs + 28)), (3, .ref (bs + 16)), (4, .long x4)]) (h : fX8_goBack_102 n  x4 I J = some r) : W p l e (rmm 2 47) s m args below meth c H locs 0 0 (QV below args s bs D y r) (F0 m 102 ls []) := by
  obtain ⟨hx, hb, hml, hown, hts, hK, hN, hL, hr, hlocks, hcb⟩ := id Gc
  unfold fX8_goBack_102 at h
  refine lv_aload_n hx hb dX8_goBack_102 rfl (lv_at hl 0 rfl) ?_
  refine lv_lload hx hb dX8_goBack_103 (lv_at hl 2 rfl) ?_
  refine lv_aload_n hx hb dX8_goBack_105 rfl (lv_at hl 1 rfl) ?_
  obtain ⟨r106, er106, h⟩ := bd_s1 h
  refine c_VV (k := 28) (ci := 8) (As := [.long x4, .ref (bs + 16)]) (rest := []) hx hb hml hown hts hK hN hL hP hS (cX8_joinTree_ l bs D y hcb n x4 I J r106 er106) ok_X8_joinTree ov_X8_joinTree ml_54 ⟨Nat.le_of_ble_eq_true rfl, Nat.le_of_ble_eq_true rfl⟩ rfl hcb kd_28 hl.1 rfl rfl (Nat.le_of_ble_eq_true rfl) ⟨Nat.zero_le _, Nat.zero_le _⟩ dX8_goBack_106 (fun H locs hP hS => ?_)
  exact r_V hx hb hr hlocks hP hK hN hL hS h dX8_goBack_109
set_option maxHeartbeats 4000000 in
set_option maxRecDepth 100000 in
theorem wX8_goBack_9 {p : Program} {l : Launch} {e : Env} {s : State} {m : MethodId} {args : Array Value} {below : List Frame} {meth : Method} {c : Code} (bs : Nat) (D : va_G) (y : Y3) (n : Nat) (k9_ : Int32 → Int64 → Int32 → Int32 → MI → MJ → Option (M2)) (r : M2) (Gc : Gx p s m args meth c cX8_goBack 9 RX8 bs D y none 44) (hk9_ : ∀ (x1 : Int32) (x4 : Int64) (x6 : Int32) (x7 : Int32) (I : MI) (J : MJ) (H : Heap) (locs : List Loc) (ls : Array Slot), va_P D vwCl (wl bs y I J) H → va_S (FA bs) s.heap H locs → lv_has ls 9 [(0, .ref (bs + 28)), (1, .int x1), (3, .ref (bs + 16)), (4, .long x4), (6, .int x6), (7, .int x7)] → k9_ x1 x4 x6 x7 I J = some r → W p l e (rmm 2 47) s m args below meth c H locs 0 0 (QV below args s bs D y r) (F0 m 9 ls [])) (x1 : Int32) (x4 : Int64) (x6 : Int32) (x7 : Int32) (I : MI) (J : MJ) (H : Heap) (locs : List Loc) (ls : Array Slot) (hP : va_P D vwCl (wl bs y I J) H) (hS : va_S (FA bs) s.heap H locs) (hl : lv_has ls 9 [(0, .ref (bs + 28)), (1, .int x1), (3, .ref (bs + 16)), (4, .long x4), (6, .int x6), (7, .int x7)]) (h : fX8_goBack_9 n k9_ x1 x4 x6 x7 I J = some r) : W p l e (rmm 2 47) s m args below meth c H locs 0 0 (QV below args s bs D y r) (F0 m 9 ls []) := by
  obtain ⟨hx, hb, hml, hown, hts, hK, hN, hL, hr, hlocks, hcb⟩ := id Gc
  unfold fX8_goBack_9 at h
  refine lv_iload hx hb dX8_goBack_9 (lv_at hl 5 rfl) ?_
  refine lv_aload_n hx hb dX8_goBack_11 rfl (lv_at hl 2 rfl) ?_
  refine g_I (C := RX2) (T := TX2) (N := 10) (ci := 2) 16 1 hx hb hts hown hK hP in_X2 rfl hcb okF_16_1 fl_91 dX8_goBack_12 ?_
  refine lv_icmp_ge (tgt := 102) hx hb dX8_goBack_15 (by decide) (fun c15 => ?_) (fun c15 => ?_)
  · replace h := if_t c15 h
    exact wX8_goBack_102 bs D y n  r Gc  x4 I J _ _ _ hP hS (lv_sub hl [0, 2, 3] rfl) h
  · replace h := if_f c15 h
    refine lv_aload_n hx hb dX8_goBack_18 rfl (lv_at hl 0 rfl) ?_
    refine g_R (C := RX8) (T := TX8) (N := 6) (ci := 8) 28 5 33 hx hb hts hown hK hP in_X8 rfl hcb okF_28_5 rfc_28_5 fl_88 dX8_goBack_19 ?_
    refine lv_iload hx hb dX8_goBack_22 (lv_at hl 4 rfl) ?_
    obtain ⟨hi24, h⟩ := if_s1 h
    refine a_I 33 hx hb hK hP hcb aln_33 hi24 dX8_goBack_24 ?_
    refine lv_if_eq (tgt := 102) hx hb dX8_goBack_25 (by decide) (fun c25 => ?_) (fun c25 => ?_)
    · replace h := if_t c25 h
      exact wX8_goBack_102 bs D y n  r Gc  x4 I J _ _ _ hP hS (lv_sub hl [0, 2, 3] rfl) h
    · replace h := if_f c25 h
      refine lv_aload_n hx hb dX8_goBack_28 rfl (lv_at hl 2 rfl) ?_
      refine lv_iload hx hb dX8_goBack_29 (lv_at hl 4 rfl) ?_
      refine lv_aload_n hx hb dX8_goBack_31 rfl (lv_at hl 0 rfl) ?_
      refine g_R (C := RX8) (T := TX8) (N := 6) (ci := 8) 28 5 33 hx hb hts hown hK hP in_X8 rfl hcb okF_28_5 rfc_28_5 fl_88 dX8_goBack_32 ?_
      refine lv_aload_n hx hb dX8_goBack_35 rfl (lv_at hl 0 rfl) ?_
      refine g_R (C := RX8) (T := TX8) (N := 6) (ci := 8) 28 4 32 hx hb hts hown hK hP in_X8 rfl hcb okF_28_4 rfc_28_4 fl_85 dX8_goBack_36 ?_
      obtain ⟨r39, er39, h⟩ := bd_s1 h
      refine c_VI (k := 16) (ci := 2) (As := [.int x6, .ref (bs + 33), .ref (bs + 32)]) (rest := []) hx hb hml hown hts hK hN hL hP hS (cX2_jointBack_ l bs D y hcb n x6 33 32 I J r39 er39) ok_X2_jointBack ov_X2_jointBack ml_55 ⟨Nat.le_of_ble_eq_true rfl, Nat.le_of_ble_eq_true rfl⟩ rfl hcb kd_16 hl.1 rfl rfl (Nat.le_of_ble_eq_true rfl) ⟨Nat.zero_le _, Nat.zero_le _⟩ dX8_goBack_39 (fun H locs hP hS => ?_)
      obtain ⟨v42, ev42, h⟩ := lt_s1 h
      refine top_i ev42 ?_
      refine lv_istore (lv' := [(8, .int v42), (0, .ref (bs + 28)), (1, .int x1), (3, .ref (bs + 16)), (4, .long x4), (6, .int x6), (7, .int x7)]) hx hb dX8_goBack_42 hl (by decide) rfl (fun ls hl => ?_)
      refine lv_iload hx hb dX8_goBack_44 (lv_at hl 0 rfl) ?_
      refine lv_iconst (v := (-1 : Int32)) hx hb dX8_goBack_46 (by decide) ?_
      refine lv_icmp_ne (tgt := 53) hx hb dX8_goBack_47 (by decide) (fun c47 => ?_) (fun c47 => ?_)
      · replace h := if_f c47 h
        refine lv_lload hx hb dX8_goBack_53 (lv_at hl 4 rfl) ?_
        refine lv_lconst (v := (1 : Int64)) hx hb dX8_goBack_55 (by decide) ?_
        refine lv_iload hx hb dX8_goBack_56 (lv_at hl 5 rfl) ?_
        refine lv_lshl (v := (shlL (1 : Int64) x6)) hx hb dX8_goBack_58 rfl ?_
        refine lv_lor hx hb dX8_goBack_59 ?_
        obtain ⟨v60, ev60, h⟩ := lt_s1 h
        refine top_j ev60 ?_
        refine lv_lstore (lv' := [(4, .long v60), (8, .int v42), (0, .ref (bs + 28)), (1, .int x1), (3, .ref (bs + 16)), (6, .int x6), (7, .int x7)]) hx hb dX8_goBack_60 hl (by decide) rfl (fun ls hl => ?_)
        refine lv_aload_n hx hb dX8_goBack_62 rfl (lv_at hl 2 rfl) ?_
        refine g_R (C := RX8) (T := TX8) (N := 6) (ci := 8) 28 3 31 hx hb hts hown hK hP in_X8 rfl hcb okF_28_3 rfc_28_3 fl_83 dX8_goBack_63 ?_
        refine lv_iload_n hx hb dX8_goBack_66 rfl (lv_at hl 3 rfl) ?_
        refine lv_dup2_11 hx hb dX8_goBack_67 rfl rfl ?_
        obtain ⟨hi68, h⟩ := if_s1 h
        refine a_J 31 hx hb hK hP hcb alJ_31 hi68 dX8_goBack_68 ?_
        refine lv_lconst (v := (1 : Int64)) hx hb dX8_goBack_69 (by decide) ?_
        refine lv_iload hx hb dX8_goBack_70 (lv_at hl 1 rfl) ?_
        refine lv_lshl (v := (shlL (1 : Int64) v42)) hx hb dX8_goBack_72 rfl ?_
        refine lv_lor hx hb dX8_goBack_73 ?_
        obtain ⟨hi74, h⟩ := if_s1 h
        obtain ⟨J74, eJ74, h⟩ := lt_s1 h
        refine t_J 31 eJ74 hx hb hK hP hS hcb alJ_31 hi74 dX8_goBack_74 (fun H locs hP hS => ?_)
        refine lv_aload_n hx hb dX8_goBack_75 rfl (lv_at hl 2 rfl) ?_
        refine g_R (C := RX8) (T := TX8) (N := 6) (ci := 8) 28 1 29 hx hb hts hown hK hP in_X8 rfl hcb okF_28_1 rfc_28_1 fl_84 dX8_goBack_76 ?_
        refine lv_iload hx hb dX8_goBack_79 (lv_at hl 1 rfl) ?_
        refine lv_dup2_11 hx hb dX8_goBack_81 rfl rfl ?_
        obtain ⟨hi82, h⟩ := if_s1 h
        refine a_I 29 hx hb hK hP hcb aln_29 hi82 dX8_goBack_82 ?_
        refine lv_iconst (v := (1 : Int32)) hx hb dX8_goBack_83 (by decide) ?_
        refine lv_iadd hx hb dX8_goBack_84 ?_
        obtain ⟨hi85, h⟩ := if_s1 h
        obtain ⟨I85, eI85, h⟩ := lt_s1 h
        refine t_I 29 eI85 hx hb hK hP hS hcb aln_29 hi85 dX8_goBack_85 (fun H locs hP hS => ?_)
        refine lv_aload_n hx hb dX8_goBack_86 rfl (lv_at hl 4 rfl) ?_
        refine lv_iload hx hb dX8_goBack_87 (lv_at hl 1 rfl) ?_
        refine lv_iload hx hb dX8_goBack_89 (lv_at hl 5 rfl) ?_
        obtain ⟨r91, er91, h⟩ := bd_s1 h
        refine c_VI (k := 16) (ci := 2) (As := [.int v42, .int x6]) (rest := []) hx hb hml hown hts hK hN hL hP hS (cX2_beyondJoint_ l bs D y hcb n v42 x6 I85 J74 r91 er91) ok_X2_beyondJoint ov_X2_beyondJoint ml_56 ⟨Nat.le_of_ble_eq_true rfl, Nat.le_of_ble_eq_true rfl⟩ rfl hcb kd_16 hl.1 rfl rfl (Nat.le_of_ble_eq_true rfl) ⟨Nat.zero_le _, Nat.zero_le _⟩ dX8_goBack_91 (fun H locs hP hS => ?_)
        obtain ⟨v94, ev94, h⟩ := lt_s1 h
        refine top_i ev94 ?_
        refine lv_istore (lv' := [(6, .int v94), (4, .long v60), (8, .int v42), (0, .ref (bs + 28)), (1, .int x1), (3, .ref (bs + 16)), (7, .int x7)]) hx hb dX8_goBack_94 hl (by decide) rfl (fun ls hl => ?_)
        refine lv_iinc (v := (x7 + (1 : Int32))) (lv' := [(7, .int (x7 + (1 : Int32))), (6, .int v94), (4, .long v60), (8, .int v42), (0, .ref (bs + 28)), (1, .int x1), (3, .ref (bs + 16))]) hx hb dX8_goBack_96 hl (k := 6) rfl rfl (by decide) rfl (fun ls hl => ?_)
        refine lv_goto (tgt := 9) hx hb dX8_goBack_99 (by decide) ?_
        exact hk9_ x1 v60 v94 (x7 + (1 : Int32)) r91.2.1 r91.2.2 _ _ _ hP hS (lv_sub hl [4, 5, 6, 2, 1, 0] rfl) h
      · replace h := if_t c47 h
        refine lv_goto (tgt := 102) hx hb dX8_goBack_50 (by decide) ?_
        exact wX8_goBack_102 bs D y n  r Gc  x4 r39.2.1 r39.2.2 _ _ _ hP hS (lv_sub hl [1, 3, 4] rfl) h
theorem vX8_goBack_9 {p : Program} {l : Launch} {e : Env} {s : State} {m : MethodId} {args : Array Value} {below : List Frame} {meth : Method} {c : Code} (bs : Nat) (D : va_G) (y : Y3) (n : Nat) (r : M2) (Gc : Gx p s m args meth c cX8_goBack 9 RX8 bs D y none 44)  : ∀ (q : Nat) (x1 : Int32) (x4 : Int64) (x6 : Int32) (x7 : Int32) (I : MI) (J : MJ) (H : Heap) (locs : List Loc) (ls : Array Slot), va_P D vwCl (wl bs y I J) H → va_S (FA bs) s.heap H locs → lv_has ls 9 [(0, .ref (bs + 28)), (1, .int x1), (3, .ref (bs + 16)), (4, .long x4), (6, .int x6), (7, .int x7)] → lX8_goBack_9 n  q x1 x4 x6 x7 I J = some r → W p l e (rmm 2 47) s m args below meth c H locs 0 0 (QV below args s bs D y r) (F0 m 9 ls []) := by
  intro q
  induction q with
  | zero =>
    intro x1 x4 x6 x7 I J H locs ls hP hS hl h
    have h : (none : Option (M2)) = some r := h
    cases h
  | succ q ih =>
    intro x1 x4 x6 x7 I J H locs ls hP hS hl h
    have h : fX8_goBack_9 n  (lX8_goBack_9 n  q) x1 x4 x6 x7 I J = some r := h
    exact wX8_goBack_9 bs D y n  (lX8_goBack_9 n  q) r Gc  ih x1 x4 x6 x7 I J H locs ls hP hS hl h
set_option maxHeartbeats 4000000 in
set_option maxRecDepth 100000 in
theorem cX8_goBack_ (l : Launch) (bs : Nat) (D : va_G) (y : Y3) (hcb : 44 ≤ y.2.2.2) (n : Nat) (x1 : Int32) (x2 : Int32) (I : MI) (J : MJ) (r : M2) (h : fX8_goBack n x1 x2 I J = some r) : Met l yX8_goBack (.code yX8_goBack cX8_goBack 9 none :: gtb) (rmm 2 47) (va_Pc [.ref (bs + 28), .int x1, .int x2, .ref (bs + 16)] (HB bs D y I J)) (QcV bs D y r) 0 0 (FA bs) := by
  refine Met.ofW (cc := cX8_goBack) (maxL := 9) (ret := none) (by decide) rfl ?_
  intro p e s m args below meth c s₁ B hml hv
  obtain ⟨rfl, hP, hK, hN, hL⟩ := hv
  have hx := B.exec
  have hb := B.bytes
  have hr := B.returns
  have hts0 := atoms_spec (ws := .code yX8_goBack cX8_goBack 9 none :: gtb) B.pre
  have hts : ∀ w ∈ gtb, w.before [.ref (bs + 28), .int x1, .int x2, .ref (bs + 16)].toArray s = true := fun w hw => hts0 w (List.mem_cons_of_mem _ hw)
  have hown : s.vm.findClass RX8 = some m.cls := findClass_of_methodNamed B.named
  have hlocks := B.notSynchronized
  have hS : va_S (FA bs) s.heap s.heap [] := va_S.rf
  have Gc : Gx p s m [.ref (bs + 28), .int x1, .int x2, .ref (bs + 16)].toArray meth c cX8_goBack 9 RX8 bs D y none 44 := ⟨hx, hb, hml, hown, hts, hK, hN, hL, hr, hlocks, hcb⟩
  have hl := lv_entry [.ref (bs + 28), .int x1, .int x2, .ref (bs + 16)] (n := 9) (Nat.le_of_ble_eq_true rfl)
  rw [lg_entry_eq]
  generalize (lg_sl [.ref (bs + 28), .int x1, .int x2, .ref (bs + 16)] ++ List.replicate (9 - (lg_sl [.ref (bs + 28), .int x1, .int x2, .ref (bs + 16)]).length) Slot.unset).toArray = ls at hl ⊢
  have hl : lv_has ls 9 [(0, .ref (bs + 28)), (1, .int x1), (2, .int x2), (3, .ref (bs + 16))] := hl
  change W p l e (rmm 2 47) s m [.ref (bs + 28), .int x1, .int x2, .ref (bs + 16)].toArray below meth c s.heap [] 0 0 (QV below [.ref (bs + 28), .int x1, .int x2, .ref (bs + 16)].toArray s bs D y r) (F0 m 0 ls [])
  unfold fX8_goBack at h
  refine lv_lconst (v := (0 : Int64)) hx hb dX8_goBack_0 (by decide) ?_
  refine lv_lstore (lv' := [(4, .long (0 : Int64)), (0, .ref (bs + 28)), (1, .int x1), (2, .int x2), (3, .ref (bs + 16))]) hx hb dX8_goBack_1 hl (by decide) rfl (fun ls hl => ?_)
  refine lv_iload_n hx hb dX8_goBack_3 rfl (lv_at hl 3 rfl) ?_
  refine lv_istore (lv' := [(6, .int x2), (4, .long (0 : Int64)), (0, .ref (bs + 28)), (1, .int x1), (2, .int x2), (3, .ref (bs + 16))]) hx hb dX8_goBack_4 hl (by decide) rfl (fun ls hl => ?_)
  refine lv_iconst (v := (0 : Int32)) hx hb dX8_goBack_6 (by decide) ?_
  refine lv_istore (lv' := [(7, .int (0 : Int32)), (6, .int x2), (4, .long (0 : Int64)), (0, .ref (bs + 28)), (1, .int x1), (2, .int x2), (3, .ref (bs + 16))]) hx hb dX8_goBack_7 hl (by decide) rfl (fun ls hl => ?_)
  exact vX8_goBack_9 bs D y n  r Gc  n x1 (0 : Int64) x2 (0 : Int32) I J _ _ _ hP hS (lv_sub hl [3, 4, 6, 2, 1, 0] rfl) h
theorem dX8_leadWire_0 : decode cX8_leadWire 0 = .ok (.aload_n 0, 1) := by decide +kernel
theorem dX8_leadWire_1 : decode cX8_leadWire 1 = .ok (.iload_n 1, 1) := by decide +kernel
theorem dX8_leadWire_2 : decode cX8_leadWire 2 = .ok (.aload_n 2, 1) := by decide +kernel
theorem dX8_leadWire_3 : decode cX8_leadWire 3 = .ok (.invokevirtual 66, 3) := by decide +kernel
theorem dX8_leadWire_6 : decode cX8_leadWire 6 = .ok (.aload_n 3, 1) := by decide +kernel
theorem dX8_leadWire_7 : decode cX8_leadWire 7 = .ok (.iload_n 1, 1) := by decide +kernel
theorem dX8_leadWire_8 : decode cX8_leadWire 8 = .ok (.invokevirtual 70, 3) := by decide +kernel
theorem dX8_leadWire_11 : decode cX8_leadWire 11 = .ok (.lstore 4, 2) := by decide +kernel
theorem dX8_leadWire_13 : decode cX8_leadWire 13 = .ok (.lload 4, 2) := by decide +kernel
theorem dX8_leadWire_15 : decode cX8_leadWire 15 = .ok (.lconst 0, 1) := by decide +kernel
theorem dX8_leadWire_16 : decode cX8_leadWire 16 = .ok (.lcmp, 1) := by decide +kernel
theorem dX8_leadWire_17 : decode cX8_leadWire 17 = .ok (.ifCond .ne 4, 3) := by decide +kernel
theorem dX8_leadWire_20 : decode cX8_leadWire 20 = .ok (.return_, 1) := by decide +kernel
theorem dX8_leadWire_21 : decode cX8_leadWire 21 = .ok (.aload_n 0, 1) := by decide +kernel
theorem dX8_leadWire_22 : decode cX8_leadWire 22 = .ok (.aload_n 2, 1) := by decide +kernel
theorem dX8_leadWire_23 : decode cX8_leadWire 23 = .ok (.invokevirtual 74, 3) := by decide +kernel
theorem dX8_leadWire_26 : decode cX8_leadWire 26 = .ok (.aload_n 0, 1) := by decide +kernel
theorem dX8_leadWire_27 : decode cX8_leadWire 27 = .ok (.aload_n 3, 1) := by decide +kernel
theorem dX8_leadWire_28 : decode cX8_leadWire 28 = .ok (.getfield 78, 3) := by decide +kernel
theorem dX8_leadWire_31 : decode cX8_leadWire 31 = .ok (.iload_n 1, 1) := by decide +kernel
theorem dX8_leadWire_32 : decode cX8_leadWire 32 = .ok (.iaload, 1) := by decide +kernel
theorem dX8_leadWire_33 : decode cX8_leadWire 33 = .ok (.invokevirtual 81, 3) := by decide +kernel
theorem dX8_leadWire_36 : decode cX8_leadWire 36 = .ok (.iconst 0, 1) := by decide +kernel
theorem dX8_leadWire_37 : decode cX8_leadWire 37 = .ok (.istore 6, 2) := by decide +kernel
theorem dX8_leadWire_39 : decode cX8_leadWire 39 = .ok (.iload 6, 2) := by decide +kernel
theorem dX8_leadWire_41 : decode cX8_leadWire 41 = .ok (.aload_n 2, 1) := by decide +kernel
theorem dX8_leadWire_42 : decode cX8_leadWire 42 = .ok (.getfield 85, 3) := by decide +kernel
theorem dX8_leadWire_45 : decode cX8_leadWire 45 = .ok (.if_icmp .ge 45, 3) := by decide +kernel
theorem dX8_leadWire_48 : decode cX8_leadWire 48 = .ok (.lload 4, 2) := by decide +kernel
theorem dX8_leadWire_50 : decode cX8_leadWire 50 = .ok (.iload 6, 2) := by decide +kernel
theorem dX8_leadWire_52 : decode cX8_leadWire 52 = .ok (.invokestatic 88, 3) := by decide +kernel
theorem dX8_leadWire_55 : decode cX8_leadWire 55 = .ok (.ifCond .eq 29, 3) := by decide +kernel
theorem dX8_leadWire_58 : decode cX8_leadWire 58 = .ok (.aload_n 0, 1) := by decide +kernel
theorem dX8_leadWire_59 : decode cX8_leadWire 59 = .ok (.getfield 25, 3) := by decide +kernel
theorem dX8_leadWire_62 : decode cX8_leadWire 62 = .ok (.iload 6, 2) := by decide +kernel
theorem dX8_leadWire_64 : decode cX8_leadWire 64 = .ok (.iaload, 1) := by decide +kernel
theorem dX8_leadWire_65 : decode cX8_leadWire 65 = .ok (.ifCond .eq 19, 3) := by decide +kernel
theorem dX8_leadWire_68 : decode cX8_leadWire 68 = .ok (.aload_n 0, 1) := by decide +kernel
theorem dX8_leadWire_69 : decode cX8_leadWire 69 = .ok (.aload_n 2, 1) := by decide +kernel
theorem dX8_leadWire_70 : decode cX8_leadWire 70 = .ok (.ldc2_w 92, 3) := by decide +kernel
theorem dX8_leadWire_73 : decode cX8_leadWire 73 = .ok (.invokevirtual 94, 3) := by decide +kernel
theorem dX8_leadWire_76 : decode cX8_leadWire 76 = .ok (.aload_n 0, 1) := by decide +kernel
theorem dX8_leadWire_77 : decode cX8_leadWire 77 = .ok (.iload_n 1, 1) := by decide +kernel
theorem dX8_leadWire_78 : decode cX8_leadWire 78 = .ok (.iload 6, 2) := by decide +kernel
theorem dX8_leadWire_80 : decode cX8_leadWire 80 = .ok (.aload_n 2, 1) := by decide +kernel
theorem dX8_leadWire_81 : decode cX8_leadWire 81 = .ok (.invokevirtual 98, 3) := by decide +kernel
theorem dX8_leadWire_84 : decode cX8_leadWire 84 = .ok (.iinc 6 1, 3) := by decide +kernel
theorem dX8_leadWire_87 : decode cX8_leadWire 87 = .ok (.goto (-48), 3) := by decide +kernel
theorem dX8_leadWire_90 : decode cX8_leadWire 90 = .ok (.return_, 1) := by decide +kernel
set_option maxHeartbeats 4000000 in
set_option maxRecDepth 100000 in
theorem wX8_leadWire_84 {p : Program} {l : Launch} {e : Env} {s : State} {m : MethodId} {args : Array Value} {below : List Frame} {meth : Method} {c : Code} (bs : Nat) (D : va_G) (y : Y3) (n : Nat) (k39_ : Int32 → Int64 → Int32 → MI → MJ → Option (M2)) (r : M2) (Gc : Gx p s m args meth c cX8_leadWire 7 RX8 bs D y none 44) (hk39_ : ∀ (x1 : Int32) (x4 : Int64) (x6 : Int32) (I : MI) (J : MJ) (H : Heap) (locs : List Loc) (ls : Array Slot), va_P D vwCl (wl bs y I J) H → va_S (FA bs) s.heap H locs → lv_has ls 7 [(0, .ref (bs + 28)), (1, .int x1), (2, .ref (bs + 16)), (4, .long x4), (6, .int x6)] → k39_ x1 x4 x6 I J = some r → W p l e (rmm 3 75) s m args below meth c H locs 0 0 (QV below args s bs D y r) (F0 m 39 ls [])) (x1 : Int32) (x4 : Int64) (x6 : Int32) (I : MI) (J : MJ) (H : Heap) (locs : List Loc) (ls : Array Slot) (hP : va_P D vwCl (wl bs y I J) H) (hS : va_S (FA bs) s.heap H locs) (hl : lv_has ls 7 [(0, .ref (bs + 28)), (1, .int x1), (2, .ref (bs + 16)), (4, .long x4), (6, .int x6)]) (h : fX8_leadWire_84 n k39_ x1 x4 x6 I J = some r) : W p l e (rmm 3 75) s m args below meth c H locs 0 0 (QV below args s bs D y r) (F0 m 84 ls []) := by
  obtain ⟨hx, hb, hml, hown, hts, hK, hN, hL, hr, hlocks, hcb⟩ := id Gc
  unfold fX8_leadWire_84 at h
  refine lv_iinc (v := (x6 + (1 : Int32))) (lv' := [(6, .int (x6 + (1 : Int32))), (0, .ref (bs + 28)), (1, .int x1), (2, .ref (bs + 16)), (4, .long x4)]) hx hb dX8_leadWire_84 hl (k := 4) rfl rfl (by decide) rfl (fun ls hl => ?_)
  refine lv_goto (tgt := 39) hx hb dX8_leadWire_87 (by decide) ?_
  exact hk39_ x1 x4 (x6 + (1 : Int32)) I J _ _ _ hP hS (lv_sub hl [1, 2, 3, 4, 0] rfl) h
set_option maxHeartbeats 4000000 in
set_option maxRecDepth 100000 in
theorem wX8_leadWire_39 {p : Program} {l : Launch} {e : Env} {s : State} {m : MethodId} {args : Array Value} {below : List Frame} {meth : Method} {c : Code} (bs : Nat) (D : va_G) (y : Y3) (n : Nat) (k39_ : Int32 → Int64 → Int32 → MI → MJ → Option (M2)) (r : M2) (Gc : Gx p s m args meth c cX8_leadWire 7 RX8 bs D y none 44) (hk39_ : ∀ (x1 : Int32) (x4 : Int64) (x6 : Int32) (I : MI) (J : MJ) (H : Heap) (locs : List Loc) (ls : Array Slot), va_P D vwCl (wl bs y I J) H → va_S (FA bs) s.heap H locs → lv_has ls 7 [(0, .ref (bs + 28)), (1, .int x1), (2, .ref (bs + 16)), (4, .long x4), (6, .int x6)] → k39_ x1 x4 x6 I J = some r → W p l e (rmm 3 75) s m args below meth c H locs 0 0 (QV below args s bs D y r) (F0 m 39 ls [])) (x1 : Int32) (x4 : Int64) (x6 : Int32) (I : MI) (J : MJ) (H : Heap) (locs : List Loc) (ls : Array Slot) (hP : va_P D vwCl (wl bs y I J) H) (hS : va_S (FA bs) s.heap H locs) (hl : lv_has ls 7 [(0, .ref (bs + 28)), (1, .int x1), (2, .ref (bs + 16)), (4, .long x4), (6, .int x6)]) (h : fX8_leadWire_39 n k39_ x1 x4 x6 I J = some r) : W p l e (rmm 3 75) s m args below meth c H locs 0 0 (QV below args s bs D y r) (F0 m 39 ls []) := by
  obtain ⟨hx, hb, hml, hown, hts, hK, hN, hL, hr, hlocks, hcb⟩ := id Gc
  unfold fX8_leadWire_39 at h
  refine lv_iload hx hb dX8_leadWire_39 (lv_at hl 4 rfl) ?_
  refine lv_aload_n hx hb dX8_leadWire_41 rfl (lv_at hl 2 rfl) ?_
  refine g_I (C := RX2) (T := TX2) (N := 10) (ci := 2) 16 1 hx hb hts hown hK hP in_X2 rfl hcb okF_16_1 fl_91 dX8_leadWire_42 ?_
  refine lv_icmp_ge (tgt := 90) hx hb dX8_leadWire_45 (by decide) (fun c45 => ?_) (fun c45 => ?_)
  · replace h := if_t c45 h
    exact r_V hx hb hr hlocks hP hK hN hL hS h dX8_leadWire_90
  · replace h := if_f c45 h
    refine lv_lload hx hb dX8_leadWire_48 (lv_at hl 3 rfl) ?_
    refine lv_iload hx hb dX8_leadWire_50 (lv_at hl 4 rfl) ?_
    obtain ⟨r52, er52, h⟩ := bd_s1 h
    refine c_NI (As := [.long x4, .int x6]) (rest := []) hx hb hml hown hts hK hN hL hP hS (cX9_hasBit_ l bs D y hcb n x4 x6 I J r52 er52) ok_X9_hasBit ov_X9_hasBit mn_4 ⟨Nat.le_of_ble_eq_true rfl, Nat.le_of_ble_eq_true rfl⟩ hl.1 rfl rfl (Nat.le_of_ble_eq_true rfl) ⟨Nat.zero_le _, Nat.zero_le _⟩ dX8_leadWire_52 (fun H locs hP hS => ?_)
    refine lv_if_eq (tgt := 84) hx hb dX8_leadWire_55 (by decide) (fun c55 => ?_) (fun c55 => ?_)
    · replace h := if_t c55 h
      exact wX8_leadWire_84 bs D y n k39_ r Gc hk39_ x1 x4 x6 r52.2.1 r52.2.2 _ _ _ hP hS (lv_sub hl [0, 1, 2, 3, 4] rfl) h
    · replace h := if_f c55 h
      refine lv_aload_n hx hb dX8_leadWire_58 rfl (lv_at hl 0 rfl) ?_
      refine g_R (C := RX8) (T := TX8) (N := 6) (ci := 8) 28 5 33 hx hb hts hown hK hP in_X8 rfl hcb okF_28_5 rfc_28_5 fl_88 dX8_leadWire_59 ?_
      refine lv_iload hx hb dX8_leadWire_62 (lv_at hl 4 rfl) ?_
      obtain ⟨hi64, h⟩ := if_s1 h
      refine a_I 33 hx hb hK hP hcb aln_33 hi64 dX8_leadWire_64 ?_
      refine lv_if_eq (tgt := 84) hx hb dX8_leadWire_65 (by decide) (fun c65 => ?_) (fun c65 => ?_)
      · replace h := if_t c65 h
        exact wX8_leadWire_84 bs D y n k39_ r Gc hk39_ x1 x4 x6 r52.2.1 r52.2.2 _ _ _ hP hS (lv_sub hl [0, 1, 2, 3, 4] rfl) h
      · replace h := if_f c65 h
        refine lv_aload_n hx hb dX8_leadWire_68 rfl (lv_at hl 0 rfl) ?_
        refine lv_aload_n hx hb dX8_leadWire_69 rfl (lv_at hl 2 rfl) ?_
        refine lv_ldc2 hx hb hown (hts _ cl_8) dX8_leadWire_70 ?_
        obtain ⟨r73, er73, h⟩ := bd_s1 h
        refine c_VV (k := 28) (ci := 8) (As := [.ref (bs + 16), .long (-1 : Int64)]) (rest := []) hx hb hml hown hts hK hN hL hP hS (cX8_measure_ l bs D y hcb n (-1 : Int64) r52.2.1 r52.2.2 r73 er73) ok_X8_measure ov_X8_measure ml_57 ⟨Nat.le_of_ble_eq_true rfl, Nat.le_of_ble_eq_true rfl⟩ rfl hcb kd_28 hl.1 rfl rfl (Nat.le_of_ble_eq_true rfl) ⟨Nat.zero_le _, Nat.zero_le _⟩ dX8_leadWire_73 (fun H locs hP hS => ?_)
        refine lv_aload_n hx hb dX8_leadWire_76 rfl (lv_at hl 0 rfl) ?_
        refine lv_iload_n hx hb dX8_leadWire_77 rfl (lv_at hl 1 rfl) ?_
        refine lv_iload hx hb dX8_leadWire_78 (lv_at hl 4 rfl) ?_
        refine lv_aload_n hx hb dX8_leadWire_80 rfl (lv_at hl 2 rfl) ?_
        obtain ⟨r81, er81, h⟩ := bd_s1 h
        refine c_VV (k := 28) (ci := 8) (As := [.int x1, .int x6, .ref (bs + 16)]) (rest := []) hx hb hml hown hts hK hN hL hP hS (cX8_goBack_ l bs D y hcb n x1 x6 r73.1 r73.2 r81 er81) ok_X8_goBack ov_X8_goBack ml_58 ⟨Nat.le_of_ble_eq_true rfl, Nat.le_of_ble_eq_true rfl⟩ rfl hcb kd_28 hl.1 rfl rfl (Nat.le_of_ble_eq_true rfl) ⟨Nat.zero_le _, Nat.zero_le _⟩ dX8_leadWire_81 (fun H locs hP hS => ?_)
        exact wX8_leadWire_84 bs D y n k39_ r Gc hk39_ x1 x4 x6 r81.1 r81.2 _ _ _ hP hS (lv_sub hl [0, 1, 2, 3, 4] rfl) h
theorem vX8_leadWire_39 {p : Program} {l : Launch} {e : Env} {s : State} {m : MethodId} {args : Array Value} {below : List Frame} {meth : Method} {c : Code} (bs : Nat) (D : va_G) (y : Y3) (n : Nat) (r : M2) (Gc : Gx p s m args meth c cX8_leadWire 7 RX8 bs D y none 44)  : ∀ (q : Nat) (x1 : Int32) (x4 : Int64) (x6 : Int32) (I : MI) (J : MJ) (H : Heap) (locs : List Loc) (ls : Array Slot), va_P D vwCl (wl bs y I J) H → va_S (FA bs) s.heap H locs → lv_has ls 7 [(0, .ref (bs + 28)), (1, .int x1), (2, .ref (bs + 16)), (4, .long x4), (6, .int x6)] → lX8_leadWire_39 n  q x1 x4 x6 I J = some r → W p l e (rmm 3 75) s m args below meth c H locs 0 0 (QV below args s bs D y r) (F0 m 39 ls []) := by
  intro q
  induction q with
  | zero =>
    intro x1 x4 x6 I J H locs ls hP hS hl h
    have h : (none : Option (M2)) = some r := h
    cases h
  | succ q ih =>
    intro x1 x4 x6 I J H locs ls hP hS hl h
    have h : fX8_leadWire_39 n  (lX8_leadWire_39 n  q) x1 x4 x6 I J = some r := h
    exact wX8_leadWire_39 bs D y n  (lX8_leadWire_39 n  q) r Gc  ih x1 x4 x6 I J H locs ls hP hS hl h
set_option maxHeartbeats 4000000 in
set_option maxRecDepth 100000 in
theorem cX8_leadWire_ (l : Launch) (bs : Nat) (D : va_G) (y : Y3) (hcb : 44 ≤ y.2.2.2) (n : Nat) (x1 : Int32) (I : MI) (J : MJ) (r : M2) (h : fX8_leadWire n x1 I J = some r) : Met l yX8_leadWire (.code yX8_leadWire cX8_leadWire 7 none :: gtb) (rmm 3 75) (va_Pc [.ref (bs + 28), .int x1, .ref (bs + 16), .ref (bs + 22)] (HB bs D y I J)) (QcV bs D y r) 0 0 (FA bs) := by
  refine Met.ofW (cc := cX8_leadWire) (maxL := 7) (ret := none) (by decide) rfl ?_
  intro p e s m args below meth c s₁ B hml hv
  obtain ⟨rfl, hP, hK, hN, hL⟩ := hv
  have hx := B.exec
  have hb := B.bytes
  have hr := B.returns
  have hts0 := atoms_spec (ws := .code yX8_leadWire cX8_leadWire 7 none :: gtb) B.pre
  have hts : ∀ w ∈ gtb, w.before [.ref (bs + 28), .int x1, .ref (bs + 16), .ref (bs + 22)].toArray s = true := fun w hw => hts0 w (List.mem_cons_of_mem _ hw)
  have hown : s.vm.findClass RX8 = some m.cls := findClass_of_methodNamed B.named
  have hlocks := B.notSynchronized
  have hS : va_S (FA bs) s.heap s.heap [] := va_S.rf
  have Gc : Gx p s m [.ref (bs + 28), .int x1, .ref (bs + 16), .ref (bs + 22)].toArray meth c cX8_leadWire 7 RX8 bs D y none 44 := ⟨hx, hb, hml, hown, hts, hK, hN, hL, hr, hlocks, hcb⟩
  have hl := lv_entry [.ref (bs + 28), .int x1, .ref (bs + 16), .ref (bs + 22)] (n := 7) (Nat.le_of_ble_eq_true rfl)
  rw [lg_entry_eq]
  generalize (lg_sl [.ref (bs + 28), .int x1, .ref (bs + 16), .ref (bs + 22)] ++ List.replicate (7 - (lg_sl [.ref (bs + 28), .int x1, .ref (bs + 16), .ref (bs + 22)]).length) Slot.unset).toArray = ls at hl ⊢
  have hl : lv_has ls 7 [(0, .ref (bs + 28)), (1, .int x1), (2, .ref (bs + 16)), (3, .ref (bs + 22))] := hl
  change W p l e (rmm 3 75) s m [.ref (bs + 28), .int x1, .ref (bs + 16), .ref (bs + 22)].toArray below meth c s.heap [] 0 0 (QV below [.ref (bs + 28), .int x1, .ref (bs + 16), .ref (bs + 22)].toArray s bs D y r) (F0 m 0 ls [])
  unfold fX8_leadWire at h
  refine lv_aload_n hx hb dX8_leadWire_0 rfl (lv_at hl 0 rfl) ?_
  refine lv_iload_n hx hb dX8_leadWire_1 rfl (lv_at hl 1 rfl) ?_
  refine lv_aload_n hx hb dX8_leadWire_2 rfl (lv_at hl 2 rfl) ?_
  obtain ⟨r3, er3, h⟩ := bd_s1 h
  refine c_VV (k := 28) (ci := 8) (As := [.int x1, .ref (bs + 16)]) (rest := []) hx hb hml hown hts hK hN hL hP hS (cX8_takeOff_ l bs D y hcb n x1 I J r3 er3) ok_X8_takeOff ov_X8_takeOff ml_59 ⟨Nat.le_of_ble_eq_true rfl, Nat.le_of_ble_eq_true rfl⟩ rfl hcb kd_28 hl.1 rfl rfl (Nat.le_of_ble_eq_true rfl) ⟨Nat.zero_le _, Nat.zero_le _⟩ dX8_leadWire_3 (fun H locs hP hS => ?_)
  refine lv_aload_n hx hb dX8_leadWire_6 rfl (lv_at hl 3 rfl) ?_
  refine lv_iload_n hx hb dX8_leadWire_7 rfl (lv_at hl 1 rfl) ?_
  obtain ⟨r8, er8, h⟩ := bd_s1 h
  refine c_VJ (k := 22) (ci := 5) (As := [.int x1]) (rest := []) hx hb hml hown hts hK hN hL hP hS (cX5_endsOf_ l bs D y hcb n x1 r3.1 r3.2 r8 er8) ok_X5_endsOf ov_X5_endsOf ml_60 ⟨Nat.le_of_ble_eq_true rfl, Nat.le_of_ble_eq_true rfl⟩ rfl hcb kd_22 hl.1 rfl rfl (Nat.le_of_ble_eq_true rfl) ⟨Nat.zero_le _, Nat.zero_le _⟩ dX8_leadWire_8 (fun H locs hP hS => ?_)
  obtain ⟨v11, ev11, h⟩ := lt_s1 h
  refine top_j ev11 ?_
  refine lv_lstore (lv' := [(4, .long v11), (0, .ref (bs + 28)), (1, .int x1), (2, .ref (bs + 16)), (3, .ref (bs + 22))]) hx hb dX8_leadWire_11 hl (by decide) rfl (fun ls hl => ?_)
  refine lv_lload hx hb dX8_leadWire_13 (lv_at hl 0 rfl) ?_
  refine lv_lconst (v := (0 : Int64)) hx hb dX8_leadWire_15 (by decide) ?_
  refine W.lcmp hx hb dX8_leadWire_16 ?_
  refine lv_if_ne (tgt := 21) hx hb dX8_leadWire_17 (by decide) (fun c17 => ?_) (fun c17 => ?_)
  · replace h := if_f c17 h
    refine lv_aload_n hx hb dX8_leadWire_21 rfl (lv_at hl 1 rfl) ?_
    refine lv_aload_n hx hb dX8_leadWire_22 rfl (lv_at hl 3 rfl) ?_
    obtain ⟨r23, er23, h⟩ := bd_s1 h
    refine c_VV (k := 28) (ci := 8) (As := [.ref (bs + 16)]) (rest := []) hx hb hml hown hts hK hN hL hP hS (cX8_setPrices_ l bs D y hcb n  r8.2.1 r8.2.2 r23 er23) ok_X8_setPrices ov_X8_setPrices ml_61 ⟨Nat.le_of_ble_eq_true rfl, Nat.le_of_ble_eq_true rfl⟩ rfl hcb kd_28 hl.1 rfl rfl (Nat.le_of_ble_eq_true rfl) ⟨Nat.zero_le _, Nat.zero_le _⟩ dX8_leadWire_23 (fun H locs hP hS => ?_)
    refine lv_aload_n hx hb dX8_leadWire_26 rfl (lv_at hl 1 rfl) ?_
    refine lv_aload_n hx hb dX8_leadWire_27 rfl (lv_at hl 4 rfl) ?_
    refine g_R (C := RX5) (T := TX5) (N := 7) (ci := 5) 22 3 24 hx hb hts hown hK hP in_X5 rfl hcb okF_22_3 rfc_22_3 fl_92 dX8_leadWire_28 ?_
    refine lv_iload_n hx hb dX8_leadWire_31 rfl (lv_at hl 2 rfl) ?_
    obtain ⟨hi32, h⟩ := if_s1 h
    refine a_I 24 hx hb hK hP hcb aln_24 hi32 dX8_leadWire_32 ?_
    obtain ⟨r33, er33, h⟩ := bd_s1 h
    refine c_VV (k := 28) (ci := 8) (As := [.int (r23.1 24 (x1).toNatClampNeg)]) (rest := []) hx hb hml hown hts hK hN hL hP hS (cX8_plantTree_ l bs D y hcb n (r23.1 24 (x1).toNatClampNeg) r23.1 r23.2 r33 er33) ok_X8_plantTree ov_X8_plantTree ml_62 ⟨Nat.le_of_ble_eq_true rfl, Nat.le_of_ble_eq_true rfl⟩ rfl hcb kd_28 hl.1 rfl rfl (Nat.le_of_ble_eq_true rfl) ⟨Nat.zero_le _, Nat.zero_le _⟩ dX8_leadWire_33 (fun H locs hP hS => ?_)
    refine lv_iconst (v := (0 : Int32)) hx hb dX8_leadWire_36 (by decide) ?_
    refine lv_istore (lv' := [(6, .int (0 : Int32)), (4, .long v11), (0, .ref (bs + 28)), (1, .int x1), (2, .ref (bs + 16)), (3, .ref (bs + 22))]) hx hb dX8_leadWire_37 hl (by decide) rfl (fun ls hl => ?_)
    exact vX8_leadWire_39 bs D y n  r Gc  n x1 v11 (0 : Int32) r33.1 r33.2 _ _ _ hP hS (lv_sub hl [2, 3, 4, 1, 0] rfl) h
  · replace h := if_t c17 h
    exact r_V hx hb hr hlocks hP hK hN hL hS h dX8_leadWire_20
theorem dX8_addPasts_0 : decode cX8_addPasts 0 = .ok (.iconst 0, 1) := by decide +kernel
theorem dX8_addPasts_1 : decode cX8_addPasts 1 = .ok (.istore_n 2, 1) := by decide +kernel
theorem dX8_addPasts_2 : decode cX8_addPasts 2 = .ok (.iconst 0, 1) := by decide +kernel
theorem dX8_addPasts_3 : decode cX8_addPasts 3 = .ok (.istore_n 3, 1) := by decide +kernel
theorem dX8_addPasts_4 : decode cX8_addPasts 4 = .ok (.iload_n 3, 1) := by decide +kernel
theorem dX8_addPasts_5 : decode cX8_addPasts 5 = .ok (.aload_n 1, 1) := by decide +kernel
theorem dX8_addPasts_6 : decode cX8_addPasts 6 = .ok (.getfield 58, 3) := by decide +kernel
theorem dX8_addPasts_9 : decode cX8_addPasts 9 = .ok (.if_icmp .ge 44, 3) := by decide +kernel
theorem dX8_addPasts_12 : decode cX8_addPasts 12 = .ok (.aload_n 0, 1) := by decide +kernel
theorem dX8_addPasts_13 : decode cX8_addPasts 13 = .ok (.getfield 9, 3) := by decide +kernel
theorem dX8_addPasts_16 : decode cX8_addPasts 16 = .ok (.iload_n 3, 1) := by decide +kernel
theorem dX8_addPasts_17 : decode cX8_addPasts 17 = .ok (.iaload, 1) := by decide +kernel
theorem dX8_addPasts_18 : decode cX8_addPasts 18 = .ok (.aload_n 1, 1) := by decide +kernel
theorem dX8_addPasts_19 : decode cX8_addPasts 19 = .ok (.getfield 63, 3) := by decide +kernel
theorem dX8_addPasts_22 : decode cX8_addPasts 22 = .ok (.if_icmp .le 25, 3) := by decide +kernel
theorem dX8_addPasts_25 : decode cX8_addPasts 25 = .ok (.aload_n 0, 1) := by decide +kernel
theorem dX8_addPasts_26 : decode cX8_addPasts 26 = .ok (.getfield 15, 3) := by decide +kernel
theorem dX8_addPasts_29 : decode cX8_addPasts 29 = .ok (.iload_n 3, 1) := by decide +kernel
theorem dX8_addPasts_30 : decode cX8_addPasts 30 = .ok (.dup2, 1) := by decide +kernel
theorem dX8_addPasts_31 : decode cX8_addPasts 31 = .ok (.iaload, 1) := by decide +kernel
theorem dX8_addPasts_32 : decode cX8_addPasts 32 = .ok (.aload_n 0, 1) := by decide +kernel
theorem dX8_addPasts_33 : decode cX8_addPasts 33 = .ok (.getfield 9, 3) := by decide +kernel
theorem dX8_addPasts_36 : decode cX8_addPasts 36 = .ok (.iload_n 3, 1) := by decide +kernel
theorem dX8_addPasts_37 : decode cX8_addPasts 37 = .ok (.iaload, 1) := by decide +kernel
theorem dX8_addPasts_38 : decode cX8_addPasts 38 = .ok (.aload_n 1, 1) := by decide +kernel
theorem dX8_addPasts_39 : decode cX8_addPasts 39 = .ok (.getfield 63, 3) := by decide +kernel
theorem dX8_addPasts_42 : decode cX8_addPasts 42 = .ok (.isub, 1) := by decide +kernel
theorem dX8_addPasts_43 : decode cX8_addPasts 43 = .ok (.iadd, 1) := by decide +kernel
theorem dX8_addPasts_44 : decode cX8_addPasts 44 = .ok (.iastore, 1) := by decide +kernel
theorem dX8_addPasts_45 : decode cX8_addPasts 45 = .ok (.iconst 1, 1) := by decide +kernel
theorem dX8_addPasts_46 : decode cX8_addPasts 46 = .ok (.istore_n 2, 1) := by decide +kernel
theorem dX8_addPasts_47 : decode cX8_addPasts 47 = .ok (.iinc 3 1, 3) := by decide +kernel
theorem dX8_addPasts_50 : decode cX8_addPasts 50 = .ok (.goto (-46), 3) := by decide +kernel
theorem dX8_addPasts_53 : decode cX8_addPasts 53 = .ok (.iload_n 2, 1) := by decide +kernel
theorem dX8_addPasts_54 : decode cX8_addPasts 54 = .ok (.ireturn, 1) := by decide +kernel
set_option maxHeartbeats 4000000 in
set_option maxRecDepth 100000 in
theorem wX8_addPasts_47 {p : Program} {l : Launch} {e : Env} {s : State} {m : MethodId} {args : Array Value} {below : List Frame} {meth : Method} {c : Code} (bs : Nat) (D : va_G) (y : Y3) (n : Nat) (k4_ : Int32 → Int32 → MI → MJ → Option (Int32 × M2)) (r : Int32 × M2) (Gc : Gx p s m args meth c cX8_addPasts 4 RX8 bs D y (some .boolean) 44) (hk4_ : ∀ (x2 : Int32) (x3 : Int32) (I : MI) (J : MJ) (H : Heap) (locs : List Loc) (ls : Array Slot), va_P D vwCl (wl bs y I J) H → va_S (FA bs) s.heap H locs → lv_has ls 4 [(0, .ref (bs + 28)), (1, .ref (bs + 16)), (2, .int x2), (3, .int x3)] → k4_ x2 x3 I J = some r → W p l e (rmm 0 0) s m args below meth c H locs 0 0 (QI below args s bs D y r) (F0 m 4 ls [])) (x2 : Int32) (x3 : Int32) (I : MI) (J : MJ) (H : Heap) (locs : List Loc) (ls : Array Slot) (hP : va_P D vwCl (wl bs y I J) H) (hS : va_S (FA bs) s.heap H locs) (hl : lv_has ls 4 [(0, .ref (bs + 28)), (1, .ref (bs + 16)), (2, .int x2), (3, .int x3)]) (h : fX8_addPasts_47 n k4_ x2 x3 I J = some r) : W p l e (rmm 0 0) s m args below meth c H locs 0 0 (QI below args s bs D y r) (F0 m 47 ls []) := by
  obtain ⟨hx, hb, hml, hown, hts, hK, hN, hL, hr, hlocks, hcb⟩ := id Gc
  unfold fX8_addPasts_47 at h
  refine lv_iinc (v := (x3 + (1 : Int32))) (lv' := [(3, .int (x3 + (1 : Int32))), (0, .ref (bs + 28)), (1, .ref (bs + 16)), (2, .int x2)]) hx hb dX8_addPasts_47 hl (k := 3) rfl rfl (by decide) rfl (fun ls hl => ?_)
  refine lv_goto (tgt := 4) hx hb dX8_addPasts_50 (by decide) ?_
  exact hk4_ x2 (x3 + (1 : Int32)) I J _ _ _ hP hS (lv_sub hl [1, 2, 3, 0] rfl) h
set_option maxHeartbeats 4000000 in
set_option maxRecDepth 100000 in
theorem wX8_addPasts_4 {p : Program} {l : Launch} {e : Env} {s : State} {m : MethodId} {args : Array Value} {below : List Frame} {meth : Method} {c : Code} (bs : Nat) (D : va_G) (y : Y3) (n : Nat) (k4_ : Int32 → Int32 → MI → MJ → Option (Int32 × M2)) (r : Int32 × M2) (Gc : Gx p s m args meth c cX8_addPasts 4 RX8 bs D y (some .boolean) 44) (hk4_ : ∀ (x2 : Int32) (x3 : Int32) (I : MI) (J : MJ) (H : Heap) (locs : List Loc) (ls : Array Slot), va_P D vwCl (wl bs y I J) H → va_S (FA bs) s.heap H locs → lv_has ls 4 [(0, .ref (bs + 28)), (1, .ref (bs + 16)), (2, .int x2), (3, .int x3)] → k4_ x2 x3 I J = some r → W p l e (rmm 0 0) s m args below meth c H locs 0 0 (QI below args s bs D y r) (F0 m 4 ls [])) (x2 : Int32) (x3 : Int32) (I : MI) (J : MJ) (H : Heap) (locs : List Loc) (ls : Array Slot) (hP : va_P D vwCl (wl bs y I J) H) (hS : va_S (FA bs) s.heap H locs) (hl : lv_has ls 4 [(0, .ref (bs + 28)), (1, .ref (bs + 16)), (2, .int x2), (3, .int x3)]) (h : fX8_addPasts_4 n k4_ x2 x3 I J = some r) : W p l e (rmm 0 0) s m args below meth c H locs 0 0 (QI below args s bs D y r) (F0 m 4 ls []) := by
  obtain ⟨hx, hb, hml, hown, hts, hK, hN, hL, hr, hlocks, hcb⟩ := id Gc
  unfold fX8_addPasts_4 at h
  refine lv_iload_n hx hb dX8_addPasts_4 rfl (lv_at hl 3 rfl) ?_
  refine lv_aload_n hx hb dX8_addPasts_5 rfl (lv_at hl 1 rfl) ?_
  refine g_I (C := RX2) (T := TX2) (N := 10) (ci := 2) 16 2 hx hb hts hown hK hP in_X2 rfl hcb okF_16_2 fl_82 dX8_addPasts_6 ?_
  refine lv_icmp_ge (tgt := 53) hx hb dX8_addPasts_9 (by decide) (fun c9 => ?_) (fun c9 => ?_)
  · replace h := if_t c9 h
    refine lv_iload_n hx hb dX8_addPasts_53 rfl (lv_at hl 2 rfl) ?_
    obtain ⟨hz54, h⟩ := if_s1 h
    exact r_Z hx hb hr hlocks hP hK hN hL hS (of_decide_eq_true hz54) h dX8_addPasts_54
  · replace h := if_f c9 h
    refine lv_aload_n hx hb dX8_addPasts_12 rfl (lv_at hl 0 rfl) ?_
    refine g_R (C := RX8) (T := TX8) (N := 6) (ci := 8) 28 1 29 hx hb hts hown hK hP in_X8 rfl hcb okF_28_1 rfc_28_1 fl_84 dX8_addPasts_13 ?_
    refine lv_iload_n hx hb dX8_addPasts_16 rfl (lv_at hl 3 rfl) ?_
    obtain ⟨hi17, h⟩ := if_s1 h
    refine a_I 29 hx hb hK hP hcb aln_29 hi17 dX8_addPasts_17 ?_
    refine lv_aload_n hx hb dX8_addPasts_18 rfl (lv_at hl 1 rfl) ?_
    refine g_I (C := RX2) (T := TX2) (N := 10) (ci := 2) 16 0 hx hb hts hown hK hP in_X2 rfl hcb okF_16_0 fl_87 dX8_addPasts_19 ?_
    refine lv_icmp_le (tgt := 47) hx hb dX8_addPasts_22 (by decide) (fun c22 => ?_) (fun c22 => ?_)
    · replace h := if_t c22 h
      exact wX8_addPasts_47 bs D y n k4_ r Gc hk4_ x2 x3 I J _ _ _ hP hS (lv_sub hl [0, 1, 2, 3] rfl) h
    · replace h := if_f c22 h
      refine lv_aload_n hx hb dX8_addPasts_25 rfl (lv_at hl 0 rfl) ?_
      refine g_R (C := RX8) (T := TX8) (N := 6) (ci := 8) 28 2 30 hx hb hts hown hK hP in_X8 rfl hcb okF_28_2 rfc_28_2 fl_86 dX8_addPasts_26 ?_
      refine lv_iload_n hx hb dX8_addPasts_29 rfl (lv_at hl 3 rfl) ?_
      refine lv_dup2_11 hx hb dX8_addPasts_30 rfl rfl ?_
      obtain ⟨hi31, h⟩ := if_s1 h
      refine a_I 30 hx hb hK hP hcb aln_30 hi31 dX8_addPasts_31 ?_
      refine lv_aload_n hx hb dX8_addPasts_32 rfl (lv_at hl 0 rfl) ?_
      refine g_R (C := RX8) (T := TX8) (N := 6) (ci := 8) 28 1 29 hx hb hts hown hK hP in_X8 rfl hcb okF_28_1 rfc_28_1 fl_84 dX8_addPasts_33 ?_
      refine lv_iload_n hx hb dX8_addPasts_36 rfl (lv_at hl 3 rfl) ?_
      obtain ⟨hi37, h⟩ := if_s1 h
      refine a_I 29 hx hb hK hP hcb aln_29 hi37 dX8_addPasts_37 ?_
      refine lv_aload_n hx hb dX8_addPasts_38 rfl (lv_at hl 1 rfl) ?_
      refine g_I (C := RX2) (T := TX2) (N := 10) (ci := 2) 16 0 hx hb hts hown hK hP in_X2 rfl hcb okF_16_0 fl_87 dX8_addPasts_39 ?_
      refine lv_isub hx hb dX8_addPasts_42 ?_
      refine lv_iadd hx hb dX8_addPasts_43 ?_
      obtain ⟨hi44, h⟩ := if_s1 h
      obtain ⟨I44, eI44, h⟩ := lt_s1 h
      refine t_I 30 eI44 hx hb hK hP hS hcb aln_30 hi44 dX8_addPasts_44 (fun H locs hP hS => ?_)
      refine lv_iconst (v := (1 : Int32)) hx hb dX8_addPasts_45 (by decide) ?_
      refine lv_istore_n (lv' := [(2, .int (1 : Int32)), (0, .ref (bs + 28)), (1, .ref (bs + 16)), (3, .int x3)]) hx hb dX8_addPasts_46 rfl hl (by decide) rfl (fun ls hl => ?_)
      exact wX8_addPasts_47 bs D y n k4_ r Gc hk4_ (1 : Int32) x3 I44 J _ _ _ hP hS (lv_sub hl [1, 2, 0, 3] rfl) h
theorem vX8_addPasts_4 {p : Program} {l : Launch} {e : Env} {s : State} {m : MethodId} {args : Array Value} {below : List Frame} {meth : Method} {c : Code} (bs : Nat) (D : va_G) (y : Y3) (n : Nat) (r : Int32 × M2) (Gc : Gx p s m args meth c cX8_addPasts 4 RX8 bs D y (some .boolean) 44)  : ∀ (q : Nat) (x2 : Int32) (x3 : Int32) (I : MI) (J : MJ) (H : Heap) (locs : List Loc) (ls : Array Slot), va_P D vwCl (wl bs y I J) H → va_S (FA bs) s.heap H locs → lv_has ls 4 [(0, .ref (bs + 28)), (1, .ref (bs + 16)), (2, .int x2), (3, .int x3)] → lX8_addPasts_4 n  q x2 x3 I J = some r → W p l e (rmm 0 0) s m args below meth c H locs 0 0 (QI below args s bs D y r) (F0 m 4 ls []) := by
  intro q
  induction q with
  | zero =>
    intro x2 x3 I J H locs ls hP hS hl h
    have h : (none : Option (Int32 × M2)) = some r := h
    cases h
  | succ q ih =>
    intro x2 x3 I J H locs ls hP hS hl h
    have h : fX8_addPasts_4 n  (lX8_addPasts_4 n  q) x2 x3 I J = some r := h
    exact wX8_addPasts_4 bs D y n  (lX8_addPasts_4 n  q) r Gc  ih x2 x3 I J H locs ls hP hS hl h
set_option maxHeartbeats 4000000 in
set_option maxRecDepth 100000 in
theorem cX8_addPasts_ (l : Launch) (bs : Nat) (D : va_G) (y : Y3) (hcb : 44 ≤ y.2.2.2) (n : Nat) (I : MI) (J : MJ) (r : Int32 × M2) (h : fX8_addPasts n  I J = some r) : Met l yX8_addPasts (.code yX8_addPasts cX8_addPasts 4 (some .boolean) :: gtb) (rmm 0 0) (va_Pc [.ref (bs + 28), .ref (bs + 16)] (HB bs D y I J)) (QcI bs D y r) 0 0 (FA bs) := by
  refine Met.ofW (cc := cX8_addPasts) (maxL := 4) (ret := (some .boolean)) (by decide) rfl ?_
  intro p e s m args below meth c s₁ B hml hv
  obtain ⟨rfl, hP, hK, hN, hL⟩ := hv
  have hx := B.exec
  have hb := B.bytes
  have hr := B.returns
  have hts0 := atoms_spec (ws := .code yX8_addPasts cX8_addPasts 4 (some .boolean) :: gtb) B.pre
  have hts : ∀ w ∈ gtb, w.before [.ref (bs + 28), .ref (bs + 16)].toArray s = true := fun w hw => hts0 w (List.mem_cons_of_mem _ hw)
  have hown : s.vm.findClass RX8 = some m.cls := findClass_of_methodNamed B.named
  have hlocks := B.notSynchronized
  have hS : va_S (FA bs) s.heap s.heap [] := va_S.rf
  have Gc : Gx p s m [.ref (bs + 28), .ref (bs + 16)].toArray meth c cX8_addPasts 4 RX8 bs D y (some .boolean) 44 := ⟨hx, hb, hml, hown, hts, hK, hN, hL, hr, hlocks, hcb⟩
  have hl := lv_entry [.ref (bs + 28), .ref (bs + 16)] (n := 4) (Nat.le_of_ble_eq_true rfl)
  rw [lg_entry_eq]
  generalize (lg_sl [.ref (bs + 28), .ref (bs + 16)] ++ List.replicate (4 - (lg_sl [.ref (bs + 28), .ref (bs + 16)]).length) Slot.unset).toArray = ls at hl ⊢
  have hl : lv_has ls 4 [(0, .ref (bs + 28)), (1, .ref (bs + 16))] := hl
  change W p l e (rmm 0 0) s m [.ref (bs + 28), .ref (bs + 16)].toArray below meth c s.heap [] 0 0 (QI below [.ref (bs + 28), .ref (bs + 16)].toArray s bs D y r) (F0 m 0 ls [])
  unfold fX8_addPasts at h
  refine lv_iconst (v := (0 : Int32)) hx hb dX8_addPasts_0 (by decide) ?_
  refine lv_istore_n (lv' := [(2, .int (0 : Int32)), (0, .ref (bs + 28)), (1, .ref (bs + 16))]) hx hb dX8_addPasts_1 rfl hl (by decide) rfl (fun ls hl => ?_)
  refine lv_iconst (v := (0 : Int32)) hx hb dX8_addPasts_2 (by decide) ?_
  refine lv_istore_n (lv' := [(3, .int (0 : Int32)), (2, .int (0 : Int32)), (0, .ref (bs + 28)), (1, .ref (bs + 16))]) hx hb dX8_addPasts_3 rfl hl (by decide) rfl (fun ls hl => ?_)
  exact vX8_addPasts_4 bs D y n  r Gc  n (0 : Int32) (0 : Int32) I J _ _ _ hP hS (lv_sub hl [2, 3, 1, 0] rfl) h
theorem dX8_leadAll_0 : decode cX8_leadAll 0 = .ok (.aload_n 0, 1) := by decide +kernel
theorem dX8_leadAll_1 : decode cX8_leadAll 1 = .ok (.iconst 1, 1) := by decide +kernel
theorem dX8_leadAll_2 : decode cX8_leadAll 2 = .ok (.putfield 28, 3) := by decide +kernel
theorem dX8_leadAll_5 : decode cX8_leadAll 5 = .ok (.aload_n 0, 1) := by decide +kernel
theorem dX8_leadAll_6 : decode cX8_leadAll 6 = .ok (.getfield 9, 3) := by decide +kernel
theorem dX8_leadAll_9 : decode cX8_leadAll 9 = .ok (.iconst 0, 1) := by decide +kernel
theorem dX8_leadAll_10 : decode cX8_leadAll 10 = .ok (.invokestatic 32, 3) := by decide +kernel
theorem dX8_leadAll_13 : decode cX8_leadAll 13 = .ok (.aload_n 0, 1) := by decide +kernel
theorem dX8_leadAll_14 : decode cX8_leadAll 14 = .ok (.getfield 15, 3) := by decide +kernel
theorem dX8_leadAll_17 : decode cX8_leadAll 17 = .ok (.iconst 0, 1) := by decide +kernel
theorem dX8_leadAll_18 : decode cX8_leadAll 18 = .ok (.invokestatic 32, 3) := by decide +kernel
theorem dX8_leadAll_21 : decode cX8_leadAll 21 = .ok (.aload_n 0, 1) := by decide +kernel
theorem dX8_leadAll_22 : decode cX8_leadAll 22 = .ok (.getfield 18, 3) := by decide +kernel
theorem dX8_leadAll_25 : decode cX8_leadAll 25 = .ok (.lconst 0, 1) := by decide +kernel
theorem dX8_leadAll_26 : decode cX8_leadAll 26 = .ok (.invokestatic 38, 3) := by decide +kernel
theorem dX8_leadAll_29 : decode cX8_leadAll 29 = .ok (.iconst 1, 1) := by decide +kernel
theorem dX8_leadAll_30 : decode cX8_leadAll 30 = .ok (.istore 4, 2) := by decide +kernel
theorem dX8_leadAll_32 : decode cX8_leadAll 32 = .ok (.iload 4, 2) := by decide +kernel
theorem dX8_leadAll_34 : decode cX8_leadAll 34 = .ok (.iload_n 1, 1) := by decide +kernel
theorem dX8_leadAll_35 : decode cX8_leadAll 35 = .ok (.if_icmp .gt 51, 3) := by decide +kernel
theorem dX8_leadAll_38 : decode cX8_leadAll 38 = .ok (.iconst 0, 1) := by decide +kernel
theorem dX8_leadAll_39 : decode cX8_leadAll 39 = .ok (.istore 5, 2) := by decide +kernel
theorem dX8_leadAll_41 : decode cX8_leadAll 41 = .ok (.iload 5, 2) := by decide +kernel
theorem dX8_leadAll_43 : decode cX8_leadAll 43 = .ok (.aload_n 3, 1) := by decide +kernel
theorem dX8_leadAll_44 : decode cX8_leadAll 44 = .ok (.getfield 41, 3) := by decide +kernel
theorem dX8_leadAll_47 : decode cX8_leadAll 47 = .ok (.if_icmp .ge 22, 3) := by decide +kernel
theorem dX8_leadAll_50 : decode cX8_leadAll 50 = .ok (.aload_n 0, 1) := by decide +kernel
theorem dX8_leadAll_51 : decode cX8_leadAll 51 = .ok (.aload_n 3, 1) := by decide +kernel
theorem dX8_leadAll_52 : decode cX8_leadAll 52 = .ok (.getfield 47, 3) := by decide +kernel
theorem dX8_leadAll_55 : decode cX8_leadAll 55 = .ok (.iload 5, 2) := by decide +kernel
theorem dX8_leadAll_57 : decode cX8_leadAll 57 = .ok (.iaload, 1) := by decide +kernel
theorem dX8_leadAll_58 : decode cX8_leadAll 58 = .ok (.aload_n 2, 1) := by decide +kernel
theorem dX8_leadAll_59 : decode cX8_leadAll 59 = .ok (.aload_n 3, 1) := by decide +kernel
theorem dX8_leadAll_60 : decode cX8_leadAll 60 = .ok (.invokevirtual 50, 3) := by decide +kernel
theorem dX8_leadAll_63 : decode cX8_leadAll 63 = .ok (.iinc 5 1, 3) := by decide +kernel
theorem dX8_leadAll_66 : decode cX8_leadAll 66 = .ok (.goto (-25), 3) := by decide +kernel
theorem dX8_leadAll_69 : decode cX8_leadAll 69 = .ok (.aload_n 0, 1) := by decide +kernel
theorem dX8_leadAll_70 : decode cX8_leadAll 70 = .ok (.aload_n 2, 1) := by decide +kernel
theorem dX8_leadAll_71 : decode cX8_leadAll 71 = .ok (.invokevirtual 54, 3) := by decide +kernel
theorem dX8_leadAll_74 : decode cX8_leadAll 74 = .ok (.ifCond .ne 6, 3) := by decide +kernel
theorem dX8_leadAll_77 : decode cX8_leadAll 77 = .ok (.iload 4, 2) := by decide +kernel
theorem dX8_leadAll_79 : decode cX8_leadAll 79 = .ok (.ireturn, 1) := by decide +kernel
theorem dX8_leadAll_80 : decode cX8_leadAll 80 = .ok (.iinc 4 1, 3) := by decide +kernel
theorem dX8_leadAll_83 : decode cX8_leadAll 83 = .ok (.goto (-51), 3) := by decide +kernel
theorem dX8_leadAll_86 : decode cX8_leadAll 86 = .ok (.iconst (-1), 1) := by decide +kernel
theorem dX8_leadAll_87 : decode cX8_leadAll 87 = .ok (.ireturn, 1) := by decide +kernel
set_option maxHeartbeats 4000000 in
set_option maxRecDepth 100000 in
theorem wX8_leadAll_41 {p : Program} {l : Launch} {e : Env} {s : State} {m : MethodId} {args : Array Value} {below : List Frame} {meth : Method} {c : Code} (bs : Nat) (D : va_G) (y : Y3) (n : Nat) (k32_ : Int32 → Int32 → MI → MJ → Option (Int32 × M2)) (k41_ : Int32 → Int32 → Int32 → MI → MJ → Option (Int32 × M2)) (r : Int32 × M2) (Gc : Gx p s m args meth c cX8_leadAll 6 RX8 bs D y (some .int) 44) (hk32_ : ∀ (x1 : Int32) (x4 : Int32) (I : MI) (J : MJ) (H : Heap) (locs : List Loc) (ls : Array Slot), va_P D vwCl (wl bs y I J) H → va_S (FA bs) s.heap H locs → lv_has ls 6 [(0, .ref (bs + 28)), (1, .int x1), (2, .ref (bs + 16)), (3, .ref (bs + 22)), (4, .int x4)] → k32_ x1 x4 I J = some r → W p l e (rmm 4 101) s m args below meth c H locs 0 0 (QI below args s bs D y r) (F0 m 32 ls [])) (hk41_ : ∀ (x1 : Int32) (x4 : Int32) (x5 : Int32) (I : MI) (J : MJ) (H : Heap) (locs : List Loc) (ls : Array Slot), va_P D vwCl (wl bs y I J) H → va_S (FA bs) s.heap H locs → lv_has ls 6 [(0, .ref (bs + 28)), (1, .int x1), (2, .ref (bs + 16)), (3, .ref (bs + 22)), (4, .int x4), (5, .int x5)] → k41_ x1 x4 x5 I J = some r → W p l e (rmm 4 101) s m args below meth c H locs 0 0 (QI below args s bs D y r) (F0 m 41 ls [])) (x1 : Int32) (x4 : Int32) (x5 : Int32) (I : MI) (J : MJ) (H : Heap) (locs : List Loc) (ls : Array Slot) (hP : va_P D vwCl (wl bs y I J) H) (hS : va_S (FA bs) s.heap H locs) (hl : lv_has ls 6 [(0, .ref (bs + 28)), (1, .int x1), (2, .ref (bs + 16)), (3, .ref (bs + 22)), (4, .int x4), (5, .int x5)]) (h : fX8_leadAll_41 n k32_ k41_ x1 x4 x5 I J = some r) : W p l e (rmm 4 101) s m args below meth c H locs 0 0 (QI below args s bs D y r) (F0 m 41 ls []) := by
  obtain ⟨hx, hb, hml, hown, hts, hK, hN, hL, hr, hlocks, hcb⟩ := id Gc
  unfold fX8_leadAll_41 at h
  refine lv_iload hx hb dX8_leadAll_41 (lv_at hl 5 rfl) ?_
  refine lv_aload_n hx hb dX8_leadAll_43 rfl (lv_at hl 3 rfl) ?_
  refine g_I (C := RX5) (T := TX5) (N := 7) (ci := 5) 22 1 hx hb hts hown hK hP in_X5 rfl hcb okF_22_1 fl_93 dX8_leadAll_44 ?_
  refine lv_icmp_ge (tgt := 69) hx hb dX8_leadAll_47 (by decide) (fun c47 => ?_) (fun c47 => ?_)
  · replace h := if_t c47 h
    refine lv_aload_n hx hb dX8_leadAll_69 rfl (lv_at hl 0 rfl) ?_
    refine lv_aload_n hx hb dX8_leadAll_70 rfl (lv_at hl 2 rfl) ?_
    obtain ⟨r71, er71, h⟩ := bd_s1 h
    refine c_VI (k := 28) (ci := 8) (As := [.ref (bs + 16)]) (rest := []) hx hb hml hown hts hK hN hL hP hS (cX8_addPasts_ l bs D y hcb n  I J r71 er71) ok_X8_addPasts ov_X8_addPasts ml_63 ⟨Nat.le_of_ble_eq_true rfl, Nat.le_of_ble_eq_true rfl⟩ rfl hcb kd_28 hl.1 rfl rfl (Nat.le_of_ble_eq_true rfl) ⟨Nat.zero_le _, Nat.zero_le _⟩ dX8_leadAll_71 (fun H locs hP hS => ?_)
    refine lv_if_ne (tgt := 80) hx hb dX8_leadAll_74 (by decide) (fun c74 => ?_) (fun c74 => ?_)
    · replace h := if_f c74 h
      refine lv_iinc (v := (x4 + (1 : Int32))) (lv' := [(4, .int (x4 + (1 : Int32))), (0, .ref (bs + 28)), (1, .int x1), (2, .ref (bs + 16)), (3, .ref (bs + 22)), (5, .int x5)]) hx hb dX8_leadAll_80 hl (k := 4) rfl rfl (by decide) rfl (fun ls hl => ?_)
      refine lv_goto (tgt := 32) hx hb dX8_leadAll_83 (by decide) ?_
      exact hk32_ x1 (x4 + (1 : Int32)) r71.2.1 r71.2.2 _ _ _ hP hS (lv_sub hl [1, 2, 3, 4, 0] rfl) h
    · replace h := if_t c74 h
      refine lv_iload hx hb dX8_leadAll_77 (lv_at hl 4 rfl) ?_
      exact r_I hx hb hr hlocks hP hK hN hL hS h dX8_leadAll_79
  · replace h := if_f c47 h
    refine lv_aload_n hx hb dX8_leadAll_50 rfl (lv_at hl 0 rfl) ?_
    refine lv_aload_n hx hb dX8_leadAll_51 rfl (lv_at hl 3 rfl) ?_
    refine g_R (C := RX5) (T := TX5) (N := 7) (ci := 5) 22 2 23 hx hb hts hown hK hP in_X5 rfl hcb okF_22_2 rfc_22_2 fl_94 dX8_leadAll_52 ?_
    refine lv_iload hx hb dX8_leadAll_55 (lv_at hl 5 rfl) ?_
    obtain ⟨hi57, h⟩ := if_s1 h
    refine a_I 23 hx hb hK hP hcb aln_23 hi57 dX8_leadAll_57 ?_
    refine lv_aload_n hx hb dX8_leadAll_58 rfl (lv_at hl 2 rfl) ?_
    refine lv_aload_n hx hb dX8_leadAll_59 rfl (lv_at hl 3 rfl) ?_
    obtain ⟨r60, er60, h⟩ := bd_s1 h
    refine c_VV (k := 28) (ci := 8) (As := [.int (I 23 (x5).toNatClampNeg), .ref (bs + 16), .ref (bs + 22)]) (rest := []) hx hb hml hown hts hK hN hL hP hS (cX8_leadWire_ l bs D y hcb n (I 23 (x5).toNatClampNeg) I J r60 er60) ok_X8_leadWire ov_X8_leadWire ml_64 ⟨Nat.le_of_ble_eq_true rfl, Nat.le_of_ble_eq_true rfl⟩ rfl hcb kd_28 hl.1 rfl rfl (Nat.le_of_ble_eq_true rfl) ⟨Nat.zero_le _, Nat.zero_le _⟩ dX8_leadAll_60 (fun H locs hP hS => ?_)
    refine lv_iinc (v := (x5 + (1 : Int32))) (lv' := [(5, .int (x5 + (1 : Int32))), (0, .ref (bs + 28)), (1, .int x1), (2, .ref (bs + 16)), (3, .ref (bs + 22)), (4, .int x4)]) hx hb dX8_leadAll_63 hl (k := 5) rfl rfl (by decide) rfl (fun ls hl => ?_)
    refine lv_goto (tgt := 41) hx hb dX8_leadAll_66 (by decide) ?_
    exact hk41_ x1 x4 (x5 + (1 : Int32)) r60.1 r60.2 _ _ _ hP hS (lv_sub hl [1, 2, 3, 4, 5, 0] rfl) h
theorem vX8_leadAll_41 {p : Program} {l : Launch} {e : Env} {s : State} {m : MethodId} {args : Array Value} {below : List Frame} {meth : Method} {c : Code} (bs : Nat) (D : va_G) (y : Y3) (n : Nat) (k32_ : Int32 → Int32 → MI → MJ → Option (Int32 × M2)) (r : Int32 × M2) (Gc : Gx p s m args meth c cX8_leadAll 6 RX8 bs D y (some .int) 44) (hk32_ : ∀ (x1 : Int32) (x4 : Int32) (I : MI) (J : MJ) (H : Heap) (locs : List Loc) (ls : Array Slot), va_P D vwCl (wl bs y I J) H → va_S (FA bs) s.heap H locs → lv_has ls 6 [(0, .ref (bs + 28)), (1, .int x1), (2, .ref (bs + 16)), (3, .ref (bs + 22)), (4, .int x4)] → k32_ x1 x4 I J = some r → W p l e (rmm 4 101) s m args below meth c H locs 0 0 (QI below args s bs D y r) (F0 m 32 ls [])) : ∀ (q : Nat) (x1 : Int32) (x4 : Int32) (x5 : Int32) (I : MI) (J : MJ) (H : Heap) (locs : List Loc) (ls : Array Slot), va_P D vwCl (wl bs y I J) H → va_S (FA bs) s.heap H locs → lv_has ls 6 [(0, .ref (bs + 28)), (1, .int x1), (2, .ref (bs + 16)), (3, .ref (bs + 22)), (4, .int x4), (5, .int x5)] → lX8_leadAll_41 n k32_ q x1 x4 x5 I J = some r → W p l e (rmm 4 101) s m args below meth c H locs 0 0 (QI below args s bs D y r) (F0 m 41 ls []) := by
  intro q
  induction q with
  | zero =>
    intro x1 x4 x5 I J H locs ls hP hS hl h
    have h : (none : Option (Int32 × M2)) = some r := h
    cases h
  | succ q ih =>
    intro x1 x4 x5 I J H locs ls hP hS hl h
    have h : fX8_leadAll_41 n k32_ (lX8_leadAll_41 n k32_ q) x1 x4 x5 I J = some r := h
    exact wX8_leadAll_41 bs D y n k32_ (lX8_leadAll_41 n k32_ q) r Gc hk32_ ih x1 x4 x5 I J H locs ls hP hS hl h
set_option maxHeartbeats 4000000 in
set_option maxRecDepth 100000 in
theorem wX8_leadAll_32 {p : Program} {l : Launch} {e : Env} {s : State} {m : MethodId} {args : Array Value} {below : List Frame} {meth : Method} {c : Code} (bs : Nat) (D : va_G) (y : Y3) (n : Nat) (k32_ : Int32 → Int32 → MI → MJ → Option (Int32 × M2)) (r : Int32 × M2) (Gc : Gx p s m args meth c cX8_leadAll 6 RX8 bs D y (some .int) 44) (hk32_ : ∀ (x1 : Int32) (x4 : Int32) (I : MI) (J : MJ) (H : Heap) (locs : List Loc) (ls : Array Slot), va_P D vwCl (wl bs y I J) H → va_S (FA bs) s.heap H locs → lv_has ls 6 [(0, .ref (bs + 28)), (1, .int x1), (2, .ref (bs + 16)), (3, .ref (bs + 22)), (4, .int x4)] → k32_ x1 x4 I J = some r → W p l e (rmm 4 101) s m args below meth c H locs 0 0 (QI below args s bs D y r) (F0 m 32 ls [])) (x1 : Int32) (x4 : Int32) (I : MI) (J : MJ) (H : Heap) (locs : List Loc) (ls : Array Slot) (hP : va_P D vwCl (wl bs y I J) H) (hS : va_S (FA bs) s.heap H locs) (hl : lv_has ls 6 [(0, .ref (bs + 28)), (1, .int x1), (2, .ref (bs + 16)), (3, .ref (bs + 22)), (4, .int x4)]) (h : fX8_leadAll_32 n k32_ x1 x4 I J = some r) : W p l e (rmm 4 101) s m args below meth c H locs 0 0 (QI below args s bs D y r) (F0 m 32 ls []) := by
  obtain ⟨hx, hb, hml, hown, hts, hK, hN, hL, hr, hlocks, hcb⟩ := id Gc
  unfold fX8_leadAll_32 at h
  refine lv_iload hx hb dX8_leadAll_32 (lv_at hl 4 rfl) ?_
  refine lv_iload_n hx hb dX8_leadAll_34 rfl (lv_at hl 1 rfl) ?_
  refine lv_icmp_gt (tgt := 86) hx hb dX8_leadAll_35 (by decide) (fun c35 => ?_) (fun c35 => ?_)
  · replace h := if_t c35 h
    refine lv_iconst (v := (-1 : Int32)) hx hb dX8_leadAll_86 (by decide) ?_
    exact r_I hx hb hr hlocks hP hK hN hL hS h dX8_leadAll_87
  · replace h := if_f c35 h
    refine lv_iconst (v := (0 : Int32)) hx hb dX8_leadAll_38 (by decide) ?_
    refine lv_istore (lv' := [(5, .int (0 : Int32)), (0, .ref (bs + 28)), (1, .int x1), (2, .ref (bs + 16)), (3, .ref (bs + 22)), (4, .int x4)]) hx hb dX8_leadAll_39 hl (by decide) rfl (fun ls hl => ?_)
    exact vX8_leadAll_41 bs D y n k32_ r Gc hk32_ n x1 x4 (0 : Int32) I J _ _ _ hP hS (lv_sub hl [1, 2, 3, 4, 5, 0] rfl) h
theorem vX8_leadAll_32 {p : Program} {l : Launch} {e : Env} {s : State} {m : MethodId} {args : Array Value} {below : List Frame} {meth : Method} {c : Code} (bs : Nat) (D : va_G) (y : Y3) (n : Nat) (r : Int32 × M2) (Gc : Gx p s m args meth c cX8_leadAll 6 RX8 bs D y (some .int) 44)  : ∀ (q : Nat) (x1 : Int32) (x4 : Int32) (I : MI) (J : MJ) (H : Heap) (locs : List Loc) (ls : Array Slot), va_P D vwCl (wl bs y I J) H → va_S (FA bs) s.heap H locs → lv_has ls 6 [(0, .ref (bs + 28)), (1, .int x1), (2, .ref (bs + 16)), (3, .ref (bs + 22)), (4, .int x4)] → lX8_leadAll_32 n  q x1 x4 I J = some r → W p l e (rmm 4 101) s m args below meth c H locs 0 0 (QI below args s bs D y r) (F0 m 32 ls []) := by
  intro q
  induction q with
  | zero =>
    intro x1 x4 I J H locs ls hP hS hl h
    have h : (none : Option (Int32 × M2)) = some r := h
    cases h
  | succ q ih =>
    intro x1 x4 I J H locs ls hP hS hl h
    have h : fX8_leadAll_32 n  (lX8_leadAll_32 n  q) x1 x4 I J = some r := h
    exact wX8_leadAll_32 bs D y n  (lX8_leadAll_32 n  q) r Gc  ih x1 x4 I J H locs ls hP hS hl h
set_option maxHeartbeats 4000000 in
set_option maxRecDepth 100000 in
theorem cX8_leadAll_ (l : Launch) (bs : Nat) (D : va_G) (y : Y3) (hcb : 44 ≤ y.2.2.2) (n : Nat) (x1 : Int32) (I : MI) (J : MJ) (r : Int32 × M2) (h : fX8_leadAll n x1 I J = some r) : Met l yX8_leadAll (.code yX8_leadAll cX8_leadAll 6 (some .int) :: gtb) (rmm 4 101) (va_Pc [.ref (bs + 28), .int x1, .ref (bs + 16), .ref (bs + 22)] (HB bs D y I J)) (QcI bs D y r) 0 0 (FA bs) := by
  refine Met.ofW (cc := cX8_leadAll) (maxL := 6) (ret := (some .int)) (by decide) rfl ?_
  intro p e s m args below meth c s₁ B hml hv
  obtain ⟨rfl, hP, hK, hN, hL⟩ := hv
  have hx := B.exec
  have hb := B.bytes
  have hr := B.returns
  have hts0 := atoms_spec (ws := .code yX8_leadAll cX8_leadAll 6 (some .int) :: gtb) B.pre
  have hts : ∀ w ∈ gtb, w.before [.ref (bs + 28), .int x1, .ref (bs + 16), .ref (bs + 22)].toArray s = true := fun w hw => hts0 w (List.mem_cons_of_mem _ hw)
  have hown : s.vm.findClass RX8 = some m.cls := findClass_of_methodNamed B.named
  have hlocks := B.notSynchronized
  have hS : va_S (FA bs) s.heap s.heap [] := va_S.rf
  have Gc : Gx p s m [.ref (bs + 28), .int x1, .ref (bs + 16), .ref (bs + 22)].toArray meth c cX8_leadAll 6 RX8 bs D y (some .int) 44 := ⟨hx, hb, hml, hown, hts, hK, hN, hL, hr, hlocks, hcb⟩
  have hl := lv_entry [.ref (bs + 28), .int x1, .ref (bs + 16), .ref (bs + 22)] (n := 6) (Nat.le_of_ble_eq_true rfl)
  rw [lg_entry_eq]
  generalize (lg_sl [.ref (bs + 28), .int x1, .ref (bs + 16), .ref (bs + 22)] ++ List.replicate (6 - (lg_sl [.ref (bs + 28), .int x1, .ref (bs + 16), .ref (bs + 22)]).length) Slot.unset).toArray = ls at hl ⊢
  have hl : lv_has ls 6 [(0, .ref (bs + 28)), (1, .int x1), (2, .ref (bs + 16)), (3, .ref (bs + 22))] := hl
  change W p l e (rmm 4 101) s m [.ref (bs + 28), .int x1, .ref (bs + 16), .ref (bs + 22)].toArray below meth c s.heap [] 0 0 (QI below [.ref (bs + 28), .int x1, .ref (bs + 16), .ref (bs + 22)].toArray s bs D y r) (F0 m 0 ls [])
  unfold fX8_leadAll at h
  refine lv_aload_n hx hb dX8_leadAll_0 rfl (lv_at hl 0 rfl) ?_
  refine lv_iconst (v := (1 : Int32)) hx hb dX8_leadAll_1 (by decide) ?_
  obtain ⟨I2, eI2, h⟩ := lt_s1 h
  refine s_I (C := RX8) (T := TX8) (N := 6) (ci := 8) (ty := .boolean) 28 0 eI2 tyX8 hx hb hts hown hK hP hS in_X8 tyX8_ok nmX8 rfl hcb okF_28_0 fl_95 rfl (by decide +kernel) (by decide) rfl dX8_leadAll_2 (fun H locs hP hS => ?_)
  refine lv_aload_n hx hb dX8_leadAll_5 rfl (lv_at hl 0 rfl) ?_
  refine g_R (C := RX8) (T := TX8) (N := 6) (ci := 8) 28 1 29 hx hb hts hown hK hP in_X8 rfl hcb okF_28_1 rfc_28_1 fl_84 dX8_leadAll_6 ?_
  refine lv_iconst (v := (0 : Int32)) hx hb dX8_leadAll_9 (by decide) ?_
  obtain ⟨r10, er10, h⟩ := bd_s1 h
  refine c_SV (As := [.ref (bs + 29), .int (0 : Int32)]) (rest := []) hx hb hml hown hts hK hN hL hP hS (cJ7_fill_53178_ l bs D y hcb n 29 (0 : Int32) I2 J r10 er10) ok_J7_fill_53178 ov_J7_fill_53178 ml_52 ⟨Nat.le_of_ble_eq_true rfl, Nat.le_of_ble_eq_true rfl⟩ hl.1 rfl rfl (Nat.le_of_ble_eq_true rfl) ⟨Nat.zero_le _, Nat.zero_le _⟩ dX8_leadAll_10 (fun H locs hP hS => ?_)
  refine lv_aload_n hx hb dX8_leadAll_13 rfl (lv_at hl 0 rfl) ?_
  refine g_R (C := RX8) (T := TX8) (N := 6) (ci := 8) 28 2 30 hx hb hts hown hK hP in_X8 rfl hcb okF_28_2 rfc_28_2 fl_86 dX8_leadAll_14 ?_
  refine lv_iconst (v := (0 : Int32)) hx hb dX8_leadAll_17 (by decide) ?_
  obtain ⟨r18, er18, h⟩ := bd_s1 h
  refine c_SV (As := [.ref (bs + 30), .int (0 : Int32)]) (rest := []) hx hb hml hown hts hK hN hL hP hS (cJ7_fill_53178_ l bs D y hcb n 30 (0 : Int32) r10.1 r10.2 r18 er18) ok_J7_fill_53178 ov_J7_fill_53178 ml_52 ⟨Nat.le_of_ble_eq_true rfl, Nat.le_of_ble_eq_true rfl⟩ hl.1 rfl rfl (Nat.le_of_ble_eq_true rfl) ⟨Nat.zero_le _, Nat.zero_le _⟩ dX8_leadAll_18 (fun H locs hP hS => ?_)
  refine lv_aload_n hx hb dX8_leadAll_21 rfl (lv_at hl 0 rfl) ?_
  refine g_R (C := RX8) (T := TX8) (N := 6) (ci := 8) 28 3 31 hx hb hts hown hK hP in_X8 rfl hcb okF_28_3 rfc_28_3 fl_83 dX8_leadAll_22 ?_
  refine lv_lconst (v := (0 : Int64)) hx hb dX8_leadAll_25 (by decide) ?_
  obtain ⟨r26, er26, h⟩ := bd_s1 h
  refine c_SV (As := [.ref (bs + 31), .long (0 : Int64)]) (rest := []) hx hb hml hown hts hK hN hL hP hS (cJ7_fill_d0a16_ l bs D y hcb n 31 (0 : Int64) r18.1 r18.2 r26 er26) ok_J7_fill_d0a16 ov_J7_fill_d0a16 ml_65 ⟨Nat.le_of_ble_eq_true rfl, Nat.le_of_ble_eq_true rfl⟩ hl.1 rfl rfl (Nat.le_of_ble_eq_true rfl) ⟨Nat.zero_le _, Nat.zero_le _⟩ dX8_leadAll_26 (fun H locs hP hS => ?_)
  refine lv_iconst (v := (1 : Int32)) hx hb dX8_leadAll_29 (by decide) ?_
  refine lv_istore (lv' := [(4, .int (1 : Int32)), (0, .ref (bs + 28)), (1, .int x1), (2, .ref (bs + 16)), (3, .ref (bs + 22))]) hx hb dX8_leadAll_30 hl (by decide) rfl (fun ls hl => ?_)
  exact vX8_leadAll_32 bs D y n  r Gc  n x1 (1 : Int32) r26.1 r26.2 _ _ _ hP hS (lv_sub hl [1, 2, 3, 4, 0] rfl) h
theorem dX8_jointOf_0 : decode cX8_jointOf 0 = .ok (.iload_n 2, 1) := by decide +kernel
theorem dX8_jointOf_1 : decode cX8_jointOf 1 = .ok (.istore 4, 2) := by decide +kernel
theorem dX8_jointOf_3 : decode cX8_jointOf 3 = .ok (.iconst 0, 1) := by decide +kernel
theorem dX8_jointOf_4 : decode cX8_jointOf 4 = .ok (.istore 5, 2) := by decide +kernel
theorem dX8_jointOf_6 : decode cX8_jointOf 6 = .ok (.iload 5, 2) := by decide +kernel
theorem dX8_jointOf_8 : decode cX8_jointOf 8 = .ok (.aload_n 3, 1) := by decide +kernel
theorem dX8_jointOf_9 : decode cX8_jointOf 9 = .ok (.getfield 58, 3) := by decide +kernel
theorem dX8_jointOf_12 : decode cX8_jointOf 12 = .ok (.if_icmp .ge 34, 3) := by decide +kernel
theorem dX8_jointOf_15 : decode cX8_jointOf 15 = .ok (.aload_n 0, 1) := by decide +kernel
theorem dX8_jointOf_16 : decode cX8_jointOf 16 = .ok (.getfield 18, 3) := by decide +kernel
theorem dX8_jointOf_19 : decode cX8_jointOf 19 = .ok (.iload_n 1, 1) := by decide +kernel
theorem dX8_jointOf_20 : decode cX8_jointOf 20 = .ok (.laload, 1) := by decide +kernel
theorem dX8_jointOf_21 : decode cX8_jointOf 21 = .ok (.iload 5, 2) := by decide +kernel
theorem dX8_jointOf_23 : decode cX8_jointOf 23 = .ok (.invokestatic 88, 3) := by decide +kernel
theorem dX8_jointOf_26 : decode cX8_jointOf 26 = .ok (.ifCond .eq 14, 3) := by decide +kernel
theorem dX8_jointOf_29 : decode cX8_jointOf 29 = .ok (.iload 4, 2) := by decide +kernel
theorem dX8_jointOf_31 : decode cX8_jointOf 31 = .ok (.ifCond .ne 6, 3) := by decide +kernel
theorem dX8_jointOf_34 : decode cX8_jointOf 34 = .ok (.iload 5, 2) := by decide +kernel
theorem dX8_jointOf_36 : decode cX8_jointOf 36 = .ok (.ireturn, 1) := by decide +kernel
theorem dX8_jointOf_37 : decode cX8_jointOf 37 = .ok (.iinc 4 (-1), 3) := by decide +kernel
theorem dX8_jointOf_40 : decode cX8_jointOf 40 = .ok (.iinc 5 1, 3) := by decide +kernel
theorem dX8_jointOf_43 : decode cX8_jointOf 43 = .ok (.goto (-37), 3) := by decide +kernel
theorem dX8_jointOf_46 : decode cX8_jointOf 46 = .ok (.iconst (-1), 1) := by decide +kernel
theorem dX8_jointOf_47 : decode cX8_jointOf 47 = .ok (.ireturn, 1) := by decide +kernel
set_option maxHeartbeats 4000000 in
set_option maxRecDepth 100000 in
theorem wX8_jointOf_40 {p : Program} {l : Launch} {e : Env} {s : State} {m : MethodId} {args : Array Value} {below : List Frame} {meth : Method} {c : Code} (bs : Nat) (D : va_G) (y : Y3) (n : Nat) (k6_ : Int32 → Int32 → Int32 → MI → MJ → Option (Int32 × M2)) (r : Int32 × M2) (Gc : Gx p s m args meth c cX8_jointOf 6 RX8 bs D y (some .int) 44) (hk6_ : ∀ (x1 : Int32) (x4 : Int32) (x5 : Int32) (I : MI) (J : MJ) (H : Heap) (locs : List Loc) (ls : Array Slot), va_P D vwCl (wl bs y I J) H → va_S (FA bs) s.heap H locs → lv_has ls 6 [(0, .ref (bs + 28)), (1, .int x1), (3, .ref (bs + 16)), (4, .int x4), (5, .int x5)] → k6_ x1 x4 x5 I J = some r → W p l e (rmm 1 22) s m args below meth c H locs 0 0 (QI below args s bs D y r) (F0 m 6 ls [])) (x1 : Int32) (x4 : Int32) (x5 : Int32) (I : MI) (J : MJ) (H : Heap) (locs : List Loc) (ls : Array Slot) (hP : va_P D vwCl (wl bs y I J) H) (hS : va_S (FA bs) s.heap H locs) (hl : lv_has ls 6 [(0, .ref (bs + 28)), (1, .int x1), (3, .ref (bs + 16)), (4, .int x4), (5, .int x5)]) (h : fX8_jointOf_40 n k6_ x1 x4 x5 I J = some r) : W p l e (rmm 1 22) s m args below meth c H locs 0 0 (QI below args s bs D y r) (F0 m 40 ls []) := by
  obtain ⟨hx, hb, hml, hown, hts, hK, hN, hL, hr, hlocks, hcb⟩ := id Gc
  unfold fX8_jointOf_40 at h
  refine lv_iinc (v := (x5 + (1 : Int32))) (lv' := [(5, .int (x5 + (1 : Int32))), (0, .ref (bs + 28)), (1, .int x1), (3, .ref (bs + 16)), (4, .int x4)]) hx hb dX8_jointOf_40 hl (k := 4) rfl rfl (by decide) rfl (fun ls hl => ?_)
  refine lv_goto (tgt := 6) hx hb dX8_jointOf_43 (by decide) ?_
  exact hk6_ x1 x4 (x5 + (1 : Int32)) I J _ _ _ hP hS (lv_sub hl [1, 2, 3, 4, 0] rfl) h
set_option maxHeartbeats 4000000 in
set_option maxRecDepth 100000 in
theorem wX8_jointOf_6 {p : Program} {l : Launch} {e : Env} {s : State} {m : MethodId} {args : Array Value} {below : List Frame} {meth : Method} {c : Code} (bs : Nat) (D : va_G) (y : Y3) (n : Nat) (k6_ : Int32 → Int32 → Int32 → MI → MJ → Option (Int32 × M2)) (r : Int32 × M2) (Gc : Gx p s m args meth c cX8_jointOf 6 RX8 bs D y (some .int) 44) (hk6_ : ∀ (x1 : Int32) (x4 : Int32) (x5 : Int32) (I : MI) (J : MJ) (H : Heap) (locs : List Loc) (ls : Array Slot), va_P D vwCl (wl bs y I J) H → va_S (FA bs) s.heap H locs → lv_has ls 6 [(0, .ref (bs + 28)), (1, .int x1), (3, .ref (bs + 16)), (4, .int x4), (5, .int x5)] → k6_ x1 x4 x5 I J = some r → W p l e (rmm 1 22) s m args below meth c H locs 0 0 (QI below args s bs D y r) (F0 m 6 ls [])) (x1 : Int32) (x4 : Int32) (x5 : Int32) (I : MI) (J : MJ) (H : Heap) (locs : List Loc) (ls : Array Slot) (hP : va_P D vwCl (wl bs y I J) H) (hS : va_S (FA bs) s.heap H locs) (hl : lv_has ls 6 [(0, .ref (bs + 28)), (1, .int x1), (3, .ref (bs + 16)), (4, .int x4), (5, .int x5)]) (h : fX8_jointOf_6 n k6_ x1 x4 x5 I J = some r) : W p l e (rmm 1 22) s m args below meth c H locs 0 0 (QI below args s bs D y r) (F0 m 6 ls []) := by
  obtain ⟨hx, hb, hml, hown, hts, hK, hN, hL, hr, hlocks, hcb⟩ := id Gc
  unfold fX8_jointOf_6 at h
  refine lv_iload hx hb dX8_jointOf_6 (lv_at hl 4 rfl) ?_
  refine lv_aload_n hx hb dX8_jointOf_8 rfl (lv_at hl 2 rfl) ?_
  refine g_I (C := RX2) (T := TX2) (N := 10) (ci := 2) 16 2 hx hb hts hown hK hP in_X2 rfl hcb okF_16_2 fl_82 dX8_jointOf_9 ?_
  refine lv_icmp_ge (tgt := 46) hx hb dX8_jointOf_12 (by decide) (fun c12 => ?_) (fun c12 => ?_)
  · replace h := if_t c12 h
    refine lv_iconst (v := (-1 : Int32)) hx hb dX8_jointOf_46 (by decide) ?_
    exact r_I hx hb hr hlocks hP hK hN hL hS h dX8_jointOf_47
  · replace h := if_f c12 h
    refine lv_aload_n hx hb dX8_jointOf_15 rfl (lv_at hl 0 rfl) ?_
    refine g_R (C := RX8) (T := TX8) (N := 6) (ci := 8) 28 3 31 hx hb hts hown hK hP in_X8 rfl hcb okF_28_3 rfc_28_3 fl_83 dX8_jointOf_16 ?_
    refine lv_iload_n hx hb dX8_jointOf_19 rfl (lv_at hl 1 rfl) ?_
    obtain ⟨hi20, h⟩ := if_s1 h
    refine a_J 31 hx hb hK hP hcb alJ_31 hi20 dX8_jointOf_20 ?_
    refine lv_iload hx hb dX8_jointOf_21 (lv_at hl 4 rfl) ?_
    obtain ⟨r23, er23, h⟩ := bd_s1 h
    refine c_NI (As := [.long (J 31 (x1).toNatClampNeg), .int x5]) (rest := []) hx hb hml hown hts hK hN hL hP hS (cX9_hasBit_ l bs D y hcb n (J 31 (x1).toNatClampNeg) x5 I J r23 er23) ok_X9_hasBit ov_X9_hasBit mn_4 ⟨Nat.le_of_ble_eq_true rfl, Nat.le_of_ble_eq_true rfl⟩ hl.1 rfl rfl (Nat.le_of_ble_eq_true rfl) ⟨Nat.zero_le _, Nat.zero_le _⟩ dX8_jointOf_23 (fun H locs hP hS => ?_)
    refine lv_if_eq (tgt := 40) hx hb dX8_jointOf_26 (by decide) (fun c26 => ?_) (fun c26 => ?_)
    · replace h := if_t c26 h
      exact wX8_jointOf_40 bs D y n k6_ r Gc hk6_ x1 x4 x5 r23.2.1 r23.2.2 _ _ _ hP hS (lv_sub hl [0, 1, 2, 3, 4] rfl) h
    · replace h := if_f c26 h
      refine lv_iload hx hb dX8_jointOf_29 (lv_at hl 3 rfl) ?_
      refine lv_if_ne (tgt := 37) hx hb dX8_jointOf_31 (by decide) (fun c31 => ?_) (fun c31 => ?_)
      · replace h := if_f c31 h
        refine lv_iinc (v := (x4 + (-1 : Int32))) (lv' := [(4, .int (x4 + (-1 : Int32))), (0, .ref (bs + 28)), (1, .int x1), (3, .ref (bs + 16)), (5, .int x5)]) hx hb dX8_jointOf_37 hl (k := 3) rfl rfl (by decide) rfl (fun ls hl => ?_)
        exact wX8_jointOf_40 bs D y n k6_ r Gc hk6_ x1 (x4 + (-1 : Int32)) x5 r23.2.1 r23.2.2 _ _ _ hP hS (lv_sub hl [1, 2, 3, 0, 4] rfl) h
      · replace h := if_t c31 h
        refine lv_iload hx hb dX8_jointOf_34 (lv_at hl 4 rfl) ?_
        exact r_I hx hb hr hlocks hP hK hN hL hS h dX8_jointOf_36
theorem vX8_jointOf_6 {p : Program} {l : Launch} {e : Env} {s : State} {m : MethodId} {args : Array Value} {below : List Frame} {meth : Method} {c : Code} (bs : Nat) (D : va_G) (y : Y3) (n : Nat) (r : Int32 × M2) (Gc : Gx p s m args meth c cX8_jointOf 6 RX8 bs D y (some .int) 44)  : ∀ (q : Nat) (x1 : Int32) (x4 : Int32) (x5 : Int32) (I : MI) (J : MJ) (H : Heap) (locs : List Loc) (ls : Array Slot), va_P D vwCl (wl bs y I J) H → va_S (FA bs) s.heap H locs → lv_has ls 6 [(0, .ref (bs + 28)), (1, .int x1), (3, .ref (bs + 16)), (4, .int x4), (5, .int x5)] → lX8_jointOf_6 n  q x1 x4 x5 I J = some r → W p l e (rmm 1 22) s m args below meth c H locs 0 0 (QI below args s bs D y r) (F0 m 6 ls []) := by
  intro q
  induction q with
  | zero =>
    intro x1 x4 x5 I J H locs ls hP hS hl h
    have h : (none : Option (Int32 × M2)) = some r := h
    cases h
  | succ q ih =>
    intro x1 x4 x5 I J H locs ls hP hS hl h
    have h : fX8_jointOf_6 n  (lX8_jointOf_6 n  q) x1 x4 x5 I J = some r := h
    exact wX8_jointOf_6 bs D y n  (lX8_jointOf_6 n  q) r Gc  ih x1 x4 x5 I J H locs ls hP hS hl h
set_option maxHeartbeats 4000000 in
set_option maxRecDepth 100000 in
theorem cX8_jointOf_ (l : Launch) (bs : Nat) (D : va_G) (y : Y3) (hcb : 44 ≤ y.2.2.2) (n : Nat) (x1 : Int32) (x2 : Int32) (I : MI) (J : MJ) (r : Int32 × M2) (h : fX8_jointOf n x1 x2 I J = some r) : Met l yX8_jointOf (.code yX8_jointOf cX8_jointOf 6 (some .int) :: gtb) (rmm 1 22) (va_Pc [.ref (bs + 28), .int x1, .int x2, .ref (bs + 16)] (HB bs D y I J)) (QcI bs D y r) 0 0 (FA bs) := by
  refine Met.ofW (cc := cX8_jointOf) (maxL := 6) (ret := (some .int)) (by decide) rfl ?_
  intro p e s m args below meth c s₁ B hml hv
  obtain ⟨rfl, hP, hK, hN, hL⟩ := hv
  have hx := B.exec
  have hb := B.bytes
  have hr := B.returns
  have hts0 := atoms_spec (ws := .code yX8_jointOf cX8_jointOf 6 (some .int) :: gtb) B.pre
  have hts : ∀ w ∈ gtb, w.before [.ref (bs + 28), .int x1, .int x2, .ref (bs + 16)].toArray s = true := fun w hw => hts0 w (List.mem_cons_of_mem _ hw)
  have hown : s.vm.findClass RX8 = some m.cls := findClass_of_methodNamed B.named
  have hlocks := B.notSynchronized
  have hS : va_S (FA bs) s.heap s.heap [] := va_S.rf
  have Gc : Gx p s m [.ref (bs + 28), .int x1, .int x2, .ref (bs + 16)].toArray meth c cX8_jointOf 6 RX8 bs D y (some .int) 44 := ⟨hx, hb, hml, hown, hts, hK, hN, hL, hr, hlocks, hcb⟩
  have hl := lv_entry [.ref (bs + 28), .int x1, .int x2, .ref (bs + 16)] (n := 6) (Nat.le_of_ble_eq_true rfl)
  rw [lg_entry_eq]
  generalize (lg_sl [.ref (bs + 28), .int x1, .int x2, .ref (bs + 16)] ++ List.replicate (6 - (lg_sl [.ref (bs + 28), .int x1, .int x2, .ref (bs + 16)]).length) Slot.unset).toArray = ls at hl ⊢
  have hl : lv_has ls 6 [(0, .ref (bs + 28)), (1, .int x1), (2, .int x2), (3, .ref (bs + 16))] := hl
  change W p l e (rmm 1 22) s m [.ref (bs + 28), .int x1, .int x2, .ref (bs + 16)].toArray below meth c s.heap [] 0 0 (QI below [.ref (bs + 28), .int x1, .int x2, .ref (bs + 16)].toArray s bs D y r) (F0 m 0 ls [])
  unfold fX8_jointOf at h
  refine lv_iload_n hx hb dX8_jointOf_0 rfl (lv_at hl 2 rfl) ?_
  refine lv_istore (lv' := [(4, .int x2), (0, .ref (bs + 28)), (1, .int x1), (2, .int x2), (3, .ref (bs + 16))]) hx hb dX8_jointOf_1 hl (by decide) rfl (fun ls hl => ?_)
  refine lv_iconst (v := (0 : Int32)) hx hb dX8_jointOf_3 (by decide) ?_
  refine lv_istore (lv' := [(5, .int (0 : Int32)), (4, .int x2), (0, .ref (bs + 28)), (1, .int x1), (2, .int x2), (3, .ref (bs + 16))]) hx hb dX8_jointOf_4 hl (by decide) rfl (fun ls hl => ?_)
  exact vX8_jointOf_6 bs D y n  r Gc  n x1 x2 (0 : Int32) I J _ _ _ hP hS (lv_sub hl [2, 3, 5, 1, 0] rfl) h
theorem dX8_longestOf_0 : decode cX8_longestOf 0 = .ok (.aload_n 3, 1) := by decide +kernel
theorem dX8_longestOf_1 : decode cX8_longestOf 1 = .ok (.iload_n 1, 1) := by decide +kernel
theorem dX8_longestOf_2 : decode cX8_longestOf 2 = .ok (.invokevirtual 70, 3) := by decide +kernel
theorem dX8_longestOf_5 : decode cX8_longestOf 5 = .ok (.lstore 4, 2) := by decide +kernel
theorem dX8_longestOf_7 : decode cX8_longestOf 7 = .ok (.lload 4, 2) := by decide +kernel
theorem dX8_longestOf_9 : decode cX8_longestOf 9 = .ok (.lconst 0, 1) := by decide +kernel
theorem dX8_longestOf_10 : decode cX8_longestOf 10 = .ok (.lcmp, 1) := by decide +kernel
theorem dX8_longestOf_11 : decode cX8_longestOf 11 = .ok (.ifCond .ne 5, 3) := by decide +kernel
theorem dX8_longestOf_14 : decode cX8_longestOf 14 = .ok (.iconst 0, 1) := by decide +kernel
theorem dX8_longestOf_15 : decode cX8_longestOf 15 = .ok (.ireturn, 1) := by decide +kernel
theorem dX8_longestOf_16 : decode cX8_longestOf 16 = .ok (.aload_n 0, 1) := by decide +kernel
theorem dX8_longestOf_17 : decode cX8_longestOf 17 = .ok (.aload_n 3, 1) := by decide +kernel
theorem dX8_longestOf_18 : decode cX8_longestOf 18 = .ok (.getfield 78, 3) := by decide +kernel
theorem dX8_longestOf_21 : decode cX8_longestOf 21 = .ok (.iload_n 1, 1) := by decide +kernel
theorem dX8_longestOf_22 : decode cX8_longestOf 22 = .ok (.iaload, 1) := by decide +kernel
theorem dX8_longestOf_23 : decode cX8_longestOf 23 = .ok (.invokevirtual 81, 3) := by decide +kernel
theorem dX8_longestOf_26 : decode cX8_longestOf 26 = .ok (.aload_n 0, 1) := by decide +kernel
theorem dX8_longestOf_27 : decode cX8_longestOf 27 = .ok (.aload_n 2, 1) := by decide +kernel
theorem dX8_longestOf_28 : decode cX8_longestOf 28 = .ok (.aload_n 0, 1) := by decide +kernel
theorem dX8_longestOf_29 : decode cX8_longestOf 29 = .ok (.getfield 18, 3) := by decide +kernel
theorem dX8_longestOf_32 : decode cX8_longestOf 32 = .ok (.iload_n 1, 1) := by decide +kernel
theorem dX8_longestOf_33 : decode cX8_longestOf 33 = .ok (.laload, 1) := by decide +kernel
theorem dX8_longestOf_34 : decode cX8_longestOf 34 = .ok (.invokevirtual 94, 3) := by decide +kernel
theorem dX8_longestOf_37 : decode cX8_longestOf 37 = .ok (.iconst 0, 1) := by decide +kernel
theorem dX8_longestOf_38 : decode cX8_longestOf 38 = .ok (.istore 6, 2) := by decide +kernel
theorem dX8_longestOf_40 : decode cX8_longestOf 40 = .ok (.iconst 0, 1) := by decide +kernel
theorem dX8_longestOf_41 : decode cX8_longestOf 41 = .ok (.istore 7, 2) := by decide +kernel
theorem dX8_longestOf_43 : decode cX8_longestOf 43 = .ok (.iload 7, 2) := by decide +kernel
theorem dX8_longestOf_45 : decode cX8_longestOf 45 = .ok (.aload_n 2, 1) := by decide +kernel
theorem dX8_longestOf_46 : decode cX8_longestOf 46 = .ok (.getfield 85, 3) := by decide +kernel
theorem dX8_longestOf_49 : decode cX8_longestOf 49 = .ok (.if_icmp .ge 33, 3) := by decide +kernel
theorem dX8_longestOf_52 : decode cX8_longestOf 52 = .ok (.lload 4, 2) := by decide +kernel
theorem dX8_longestOf_54 : decode cX8_longestOf 54 = .ok (.iload 7, 2) := by decide +kernel
theorem dX8_longestOf_56 : decode cX8_longestOf 56 = .ok (.invokestatic 88, 3) := by decide +kernel
theorem dX8_longestOf_59 : decode cX8_longestOf 59 = .ok (.ifCond .eq 17, 3) := by decide +kernel
theorem dX8_longestOf_62 : decode cX8_longestOf 62 = .ok (.iload 6, 2) := by decide +kernel
theorem dX8_longestOf_64 : decode cX8_longestOf 64 = .ok (.aload_n 0, 1) := by decide +kernel
theorem dX8_longestOf_65 : decode cX8_longestOf 65 = .ok (.getfield 25, 3) := by decide +kernel
theorem dX8_longestOf_68 : decode cX8_longestOf 68 = .ok (.iload 7, 2) := by decide +kernel
theorem dX8_longestOf_70 : decode cX8_longestOf 70 = .ok (.iaload, 1) := by decide +kernel
theorem dX8_longestOf_71 : decode cX8_longestOf 71 = .ok (.invokestatic 102, 3) := by decide +kernel
theorem dX8_longestOf_74 : decode cX8_longestOf 74 = .ok (.istore 6, 2) := by decide +kernel
theorem dX8_longestOf_76 : decode cX8_longestOf 76 = .ok (.iinc 7 1, 3) := by decide +kernel
theorem dX8_longestOf_79 : decode cX8_longestOf 79 = .ok (.goto (-36), 3) := by decide +kernel
theorem dX8_longestOf_82 : decode cX8_longestOf 82 = .ok (.iload 6, 2) := by decide +kernel
theorem dX8_longestOf_84 : decode cX8_longestOf 84 = .ok (.ireturn, 1) := by decide +kernel
set_option maxHeartbeats 4000000 in
set_option maxRecDepth 100000 in
theorem wX8_longestOf_76 {p : Program} {l : Launch} {e : Env} {s : State} {m : MethodId} {args : Array Value} {below : List Frame} {meth : Method} {c : Code} (bs : Nat) (D : va_G) (y : Y3) (n : Nat) (k43_ : Int64 → Int32 → Int32 → MI → MJ → Option (Int32 × M2)) (r : Int32 × M2) (Gc : Gx p s m args meth c cX8_longestOf 8 RX8 bs D y (some .int) 44) (hk43_ : ∀ (x4 : Int64) (x6 : Int32) (x7 : Int32) (I : MI) (J : MJ) (H : Heap) (locs : List Loc) (ls : Array Slot), va_P D vwCl (wl bs y I J) H → va_S (FA bs) s.heap H locs → lv_has ls 8 [(0, .ref (bs + 28)), (2, .ref (bs + 16)), (4, .long x4), (6, .int x6), (7, .int x7)] → k43_ x4 x6 x7 I J = some r → W p l e (rmm 2 51) s m args below meth c H locs 0 0 (QI below args s bs D y r) (F0 m 43 ls [])) (x4 : Int64) (x6 : Int32) (x7 : Int32) (I : MI) (J : MJ) (H : Heap) (locs : List Loc) (ls : Array Slot) (hP : va_P D vwCl (wl bs y I J) H) (hS : va_S (FA bs) s.heap H locs) (hl : lv_has ls 8 [(0, .ref (bs + 28)), (2, .ref (bs + 16)), (4, .long x4), (6, .int x6), (7, .int x7)]) (h : fX8_longestOf_76 n k43_ x4 x6 x7 I J = some r) : W p l e (rmm 2 51) s m args below meth c H locs 0 0 (QI below args s bs D y r) (F0 m 76 ls []) := by
  obtain ⟨hx, hb, hml, hown, hts, hK, hN, hL, hr, hlocks, hcb⟩ := id Gc
  unfold fX8_longestOf_76 at h
  refine lv_iinc (v := (x7 + (1 : Int32))) (lv' := [(7, .int (x7 + (1 : Int32))), (0, .ref (bs + 28)), (2, .ref (bs + 16)), (4, .long x4), (6, .int x6)]) hx hb dX8_longestOf_76 hl (k := 4) rfl rfl (by decide) rfl (fun ls hl => ?_)
  refine lv_goto (tgt := 43) hx hb dX8_longestOf_79 (by decide) ?_
  exact hk43_ x4 x6 (x7 + (1 : Int32)) I J _ _ _ hP hS (lv_sub hl [1, 2, 3, 4, 0] rfl) h
set_option maxHeartbeats 4000000 in
set_option maxRecDepth 100000 in
theorem wX8_longestOf_43 {p : Program} {l : Launch} {e : Env} {s : State} {m : MethodId} {args : Array Value} {below : List Frame} {meth : Method} {c : Code} (bs : Nat) (D : va_G) (y : Y3) (n : Nat) (k43_ : Int64 → Int32 → Int32 → MI → MJ → Option (Int32 × M2)) (r : Int32 × M2) (Gc : Gx p s m args meth c cX8_longestOf 8 RX8 bs D y (some .int) 44) (hk43_ : ∀ (x4 : Int64) (x6 : Int32) (x7 : Int32) (I : MI) (J : MJ) (H : Heap) (locs : List Loc) (ls : Array Slot), va_P D vwCl (wl bs y I J) H → va_S (FA bs) s.heap H locs → lv_has ls 8 [(0, .ref (bs + 28)), (2, .ref (bs + 16)), (4, .long x4), (6, .int x6), (7, .int x7)] → k43_ x4 x6 x7 I J = some r → W p l e (rmm 2 51) s m args below meth c H locs 0 0 (QI below args s bs D y r) (F0 m 43 ls [])) (x4 : Int64) (x6 : Int32) (x7 : Int32) (I : MI) (J : MJ) (H : Heap) (locs : List Loc) (ls : Array Slot) (hP : va_P D vwCl (wl bs y I J) H) (hS : va_S (FA bs) s.heap H locs) (hl : lv_has ls 8 [(0, .ref (bs + 28)), (2, .ref (bs + 16)), (4, .long x4), (6, .int x6), (7, .int x7)]) (h : fX8_longestOf_43 n k43_ x4 x6 x7 I J = some r) : W p l e (rmm 2 51) s m args below meth c H locs 0 0 (QI below args s bs D y r) (F0 m 43 ls []) := by
  obtain ⟨hx, hb, hml, hown, hts, hK, hN, hL, hr, hlocks, hcb⟩ := id Gc
  unfold fX8_longestOf_43 at h
  refine lv_iload hx hb dX8_longestOf_43 (lv_at hl 4 rfl) ?_
  refine lv_aload_n hx hb dX8_longestOf_45 rfl (lv_at hl 1 rfl) ?_
  refine g_I (C := RX2) (T := TX2) (N := 10) (ci := 2) 16 1 hx hb hts hown hK hP in_X2 rfl hcb okF_16_1 fl_91 dX8_longestOf_46 ?_
  refine lv_icmp_ge (tgt := 82) hx hb dX8_longestOf_49 (by decide) (fun c49 => ?_) (fun c49 => ?_)
  · replace h := if_t c49 h
    refine lv_iload hx hb dX8_longestOf_82 (lv_at hl 3 rfl) ?_
    exact r_I hx hb hr hlocks hP hK hN hL hS h dX8_longestOf_84
  · replace h := if_f c49 h
    refine lv_lload hx hb dX8_longestOf_52 (lv_at hl 2 rfl) ?_
    refine lv_iload hx hb dX8_longestOf_54 (lv_at hl 4 rfl) ?_
    obtain ⟨r56, er56, h⟩ := bd_s1 h
    refine c_NI (As := [.long x4, .int x7]) (rest := []) hx hb hml hown hts hK hN hL hP hS (cX9_hasBit_ l bs D y hcb n x4 x7 I J r56 er56) ok_X9_hasBit ov_X9_hasBit mn_4 ⟨Nat.le_of_ble_eq_true rfl, Nat.le_of_ble_eq_true rfl⟩ hl.1 rfl rfl (Nat.le_of_ble_eq_true rfl) ⟨Nat.zero_le _, Nat.zero_le _⟩ dX8_longestOf_56 (fun H locs hP hS => ?_)
    refine lv_if_eq (tgt := 76) hx hb dX8_longestOf_59 (by decide) (fun c59 => ?_) (fun c59 => ?_)
    · replace h := if_t c59 h
      exact wX8_longestOf_76 bs D y n k43_ r Gc hk43_ x4 x6 x7 r56.2.1 r56.2.2 _ _ _ hP hS (lv_sub hl [0, 1, 2, 3, 4] rfl) h
    · replace h := if_f c59 h
      refine lv_iload hx hb dX8_longestOf_62 (lv_at hl 3 rfl) ?_
      refine lv_aload_n hx hb dX8_longestOf_64 rfl (lv_at hl 0 rfl) ?_
      refine g_R (C := RX8) (T := TX8) (N := 6) (ci := 8) 28 5 33 hx hb hts hown hK hP in_X8 rfl hcb okF_28_5 rfc_28_5 fl_88 dX8_longestOf_65 ?_
      refine lv_iload hx hb dX8_longestOf_68 (lv_at hl 4 rfl) ?_
      obtain ⟨hi70, h⟩ := if_s1 h
      refine a_I 33 hx hb hK hP hcb aln_33 hi70 dX8_longestOf_70 ?_
      refine va_mmax hx hb (hml.trans hl.1.symm) hown (hts _ ml_51) (hts _ ms_va_mmax) (hts _ ms_i) (hts _ mc_va_mmax) (Nat.le_of_ble_eq_true rfl) (Nat.le_of_ble_eq_true rfl) (Nat.zero_le _) (Nat.zero_le _) dX8_longestOf_71 ?_
      obtain ⟨v74, ev74, h⟩ := lt_s1 h
      refine top_i ev74 ?_
      refine lv_istore (lv' := [(6, .int v74), (0, .ref (bs + 28)), (2, .ref (bs + 16)), (4, .long x4), (7, .int x7)]) hx hb dX8_longestOf_74 hl (by decide) rfl (fun ls hl => ?_)
      exact wX8_longestOf_76 bs D y n k43_ r Gc hk43_ x4 v74 x7 r56.2.1 r56.2.2 _ _ _ hP hS (lv_sub hl [1, 2, 3, 0, 4] rfl) h
theorem vX8_longestOf_43 {p : Program} {l : Launch} {e : Env} {s : State} {m : MethodId} {args : Array Value} {below : List Frame} {meth : Method} {c : Code} (bs : Nat) (D : va_G) (y : Y3) (n : Nat) (r : Int32 × M2) (Gc : Gx p s m args meth c cX8_longestOf 8 RX8 bs D y (some .int) 44)  : ∀ (q : Nat) (x4 : Int64) (x6 : Int32) (x7 : Int32) (I : MI) (J : MJ) (H : Heap) (locs : List Loc) (ls : Array Slot), va_P D vwCl (wl bs y I J) H → va_S (FA bs) s.heap H locs → lv_has ls 8 [(0, .ref (bs + 28)), (2, .ref (bs + 16)), (4, .long x4), (6, .int x6), (7, .int x7)] → lX8_longestOf_43 n  q x4 x6 x7 I J = some r → W p l e (rmm 2 51) s m args below meth c H locs 0 0 (QI below args s bs D y r) (F0 m 43 ls []) := by
  intro q
  induction q with
  | zero =>
    intro x4 x6 x7 I J H locs ls hP hS hl h
    have h : (none : Option (Int32 × M2)) = some r := h
    cases h
  | succ q ih =>
    intro x4 x6 x7 I J H locs ls hP hS hl h
    have h : fX8_longestOf_43 n  (lX8_longestOf_43 n  q) x4 x6 x7 I J = some r := h
    exact wX8_longestOf_43 bs D y n  (lX8_longestOf_43 n  q) r Gc  ih x4 x6 x7 I J H locs ls hP hS hl h
set_option maxHeartbeats 4000000 in
set_option maxRecDepth 100000 in
theorem cX8_longestOf_ (l : Launch) (bs : Nat) (D : va_G) (y : Y3) (hcb : 44 ≤ y.2.2.2) (n : Nat) (x1 : Int32) (I : MI) (J : MJ) (r : Int32 × M2) (h : fX8_longestOf n x1 I J = some r) : Met l yX8_longestOf (.code yX8_longestOf cX8_longestOf 8 (some .int) :: gtb) (rmm 2 51) (va_Pc [.ref (bs + 28), .int x1, .ref (bs + 16), .ref (bs + 22)] (HB bs D y I J)) (QcI bs D y r) 0 0 (FA bs) := by
  refine Met.ofW (cc := cX8_longestOf) (maxL := 8) (ret := (some .int)) (by decide) rfl ?_
  intro p e s m args below meth c s₁ B hml hv
  obtain ⟨rfl, hP, hK, hN, hL⟩ := hv
  have hx := B.exec
  have hb := B.bytes
  have hr := B.returns
  have hts0 := atoms_spec (ws := .code yX8_longestOf cX8_longestOf 8 (some .int) :: gtb) B.pre
  have hts : ∀ w ∈ gtb, w.before [.ref (bs + 28), .int x1, .ref (bs + 16), .ref (bs + 22)].toArray s = true := fun w hw => hts0 w (List.mem_cons_of_mem _ hw)
  have hown : s.vm.findClass RX8 = some m.cls := findClass_of_methodNamed B.named
  have hlocks := B.notSynchronized
  have hS : va_S (FA bs) s.heap s.heap [] := va_S.rf
  have Gc : Gx p s m [.ref (bs + 28), .int x1, .ref (bs + 16), .ref (bs + 22)].toArray meth c cX8_longestOf 8 RX8 bs D y (some .int) 44 := ⟨hx, hb, hml, hown, hts, hK, hN, hL, hr, hlocks, hcb⟩
  have hl := lv_entry [.ref (bs + 28), .int x1, .ref (bs + 16), .ref (bs + 22)] (n := 8) (Nat.le_of_ble_eq_true rfl)
  rw [lg_entry_eq]
  generalize (lg_sl [.ref (bs + 28), .int x1, .ref (bs + 16), .ref (bs + 22)] ++ List.replicate (8 - (lg_sl [.ref (bs + 28), .int x1, .ref (bs + 16), .ref (bs + 22)]).length) Slot.unset).toArray = ls at hl ⊢
  have hl : lv_has ls 8 [(0, .ref (bs + 28)), (1, .int x1), (2, .ref (bs + 16)), (3, .ref (bs + 22))] := hl
  change W p l e (rmm 2 51) s m [.ref (bs + 28), .int x1, .ref (bs + 16), .ref (bs + 22)].toArray below meth c s.heap [] 0 0 (QI below [.ref (bs + 28), .int x1, .ref (bs + 16), .ref (bs + 22)].toArray s bs D y r) (F0 m 0 ls [])
  unfold fX8_longestOf at h
  refine lv_aload_n hx hb dX8_longestOf_0 rfl (lv_at hl 3 rfl) ?_
  refine lv_iload_n hx hb dX8_longestOf_1 rfl (lv_at hl 1 rfl) ?_
  obtain ⟨r2, er2, h⟩ := bd_s1 h
  refine c_VJ (k := 22) (ci := 5) (As := [.int x1]) (rest := []) hx hb hml hown hts hK hN hL hP hS (cX5_endsOf_ l bs D y hcb n x1 I J r2 er2) ok_X5_endsOf ov_X5_endsOf ml_60 ⟨Nat.le_of_ble_eq_true rfl, Nat.le_of_ble_eq_true rfl⟩ rfl hcb kd_22 hl.1 rfl rfl (Nat.le_of_ble_eq_true rfl) ⟨Nat.zero_le _, Nat.zero_le _⟩ dX8_longestOf_2 (fun H locs hP hS => ?_)
  obtain ⟨v5, ev5, h⟩ := lt_s1 h
  refine top_j ev5 ?_
  refine lv_lstore (lv' := [(4, .long v5), (0, .ref (bs + 28)), (1, .int x1), (2, .ref (bs + 16)), (3, .ref (bs + 22))]) hx hb dX8_longestOf_5 hl (by decide) rfl (fun ls hl => ?_)
  refine lv_lload hx hb dX8_longestOf_7 (lv_at hl 0 rfl) ?_
  refine lv_lconst (v := (0 : Int64)) hx hb dX8_longestOf_9 (by decide) ?_
  refine W.lcmp hx hb dX8_longestOf_10 ?_
  refine lv_if_ne (tgt := 16) hx hb dX8_longestOf_11 (by decide) (fun c11 => ?_) (fun c11 => ?_)
  · replace h := if_f c11 h
    refine lv_aload_n hx hb dX8_longestOf_16 rfl (lv_at hl 1 rfl) ?_
    refine lv_aload_n hx hb dX8_longestOf_17 rfl (lv_at hl 4 rfl) ?_
    refine g_R (C := RX5) (T := TX5) (N := 7) (ci := 5) 22 3 24 hx hb hts hown hK hP in_X5 rfl hcb okF_22_3 rfc_22_3 fl_92 dX8_longestOf_18 ?_
    refine lv_iload_n hx hb dX8_longestOf_21 rfl (lv_at hl 2 rfl) ?_
    obtain ⟨hi22, h⟩ := if_s1 h
    refine a_I 24 hx hb hK hP hcb aln_24 hi22 dX8_longestOf_22 ?_
    obtain ⟨r23, er23, h⟩ := bd_s1 h
    refine c_VV (k := 28) (ci := 8) (As := [.int (r2.2.1 24 (x1).toNatClampNeg)]) (rest := []) hx hb hml hown hts hK hN hL hP hS (cX8_plantTree_ l bs D y hcb n (r2.2.1 24 (x1).toNatClampNeg) r2.2.1 r2.2.2 r23 er23) ok_X8_plantTree ov_X8_plantTree ml_62 ⟨Nat.le_of_ble_eq_true rfl, Nat.le_of_ble_eq_true rfl⟩ rfl hcb kd_28 hl.1 rfl rfl (Nat.le_of_ble_eq_true rfl) ⟨Nat.zero_le _, Nat.zero_le _⟩ dX8_longestOf_23 (fun H locs hP hS => ?_)
    refine lv_aload_n hx hb dX8_longestOf_26 rfl (lv_at hl 1 rfl) ?_
    refine lv_aload_n hx hb dX8_longestOf_27 rfl (lv_at hl 3 rfl) ?_
    refine lv_aload_n hx hb dX8_longestOf_28 rfl (lv_at hl 1 rfl) ?_
    refine g_R (C := RX8) (T := TX8) (N := 6) (ci := 8) 28 3 31 hx hb hts hown hK hP in_X8 rfl hcb okF_28_3 rfc_28_3 fl_83 dX8_longestOf_29 ?_
    refine lv_iload_n hx hb dX8_longestOf_32 rfl (lv_at hl 2 rfl) ?_
    obtain ⟨hi33, h⟩ := if_s1 h
    refine a_J 31 hx hb hK hP hcb alJ_31 hi33 dX8_longestOf_33 ?_
    obtain ⟨r34, er34, h⟩ := bd_s1 h
    refine c_VV (k := 28) (ci := 8) (As := [.ref (bs + 16), .long (r23.2 31 (x1).toNatClampNeg)]) (rest := []) hx hb hml hown hts hK hN hL hP hS (cX8_measure_ l bs D y hcb n (r23.2 31 (x1).toNatClampNeg) r23.1 r23.2 r34 er34) ok_X8_measure ov_X8_measure ml_57 ⟨Nat.le_of_ble_eq_true rfl, Nat.le_of_ble_eq_true rfl⟩ rfl hcb kd_28 hl.1 rfl rfl (Nat.le_of_ble_eq_true rfl) ⟨Nat.zero_le _, Nat.zero_le _⟩ dX8_longestOf_34 (fun H locs hP hS => ?_)
    refine lv_iconst (v := (0 : Int32)) hx hb dX8_longestOf_37 (by decide) ?_
    refine lv_istore (lv' := [(6, .int (0 : Int32)), (4, .long v5), (0, .ref (bs + 28)), (1, .int x1), (2, .ref (bs + 16)), (3, .ref (bs + 22))]) hx hb dX8_longestOf_38 hl (by decide) rfl (fun ls hl => ?_)
    refine lv_iconst (v := (0 : Int32)) hx hb dX8_longestOf_40 (by decide) ?_
    refine lv_istore (lv' := [(7, .int (0 : Int32)), (6, .int (0 : Int32)), (4, .long v5), (0, .ref (bs + 28)), (1, .int x1), (2, .ref (bs + 16)), (3, .ref (bs + 22))]) hx hb dX8_longestOf_41 hl (by decide) rfl (fun ls hl => ?_)
    exact vX8_longestOf_43 bs D y n  r Gc  n v5 (0 : Int32) (0 : Int32) r34.1 r34.2 _ _ _ hP hS (lv_sub hl [3, 5, 2, 1, 0] rfl) h
  · replace h := if_t c11 h
    refine lv_iconst (v := (0 : Int32)) hx hb dX8_longestOf_14 (by decide) ?_
    exact r_I hx hb hr hlocks hP hK hN hL hS h dX8_longestOf_15
theorem dX8_longestOfAll_0 : decode cX8_longestOfAll 0 = .ok (.aload_n 0, 1) := by decide +kernel
theorem dX8_longestOfAll_1 : decode cX8_longestOfAll 1 = .ok (.getfield 22, 3) := by decide +kernel
theorem dX8_longestOfAll_4 : decode cX8_longestOfAll 4 = .ok (.iconst 1, 1) := by decide +kernel
theorem dX8_longestOfAll_5 : decode cX8_longestOfAll 5 = .ok (.invokestatic 32, 3) := by decide +kernel
theorem dX8_longestOfAll_8 : decode cX8_longestOfAll 8 = .ok (.iconst 0, 1) := by decide +kernel
theorem dX8_longestOfAll_9 : decode cX8_longestOfAll 9 = .ok (.istore_n 3, 1) := by decide +kernel
theorem dX8_longestOfAll_10 : decode cX8_longestOfAll 10 = .ok (.iconst 0, 1) := by decide +kernel
theorem dX8_longestOfAll_11 : decode cX8_longestOfAll 11 = .ok (.istore 4, 2) := by decide +kernel
theorem dX8_longestOfAll_13 : decode cX8_longestOfAll 13 = .ok (.iload 4, 2) := by decide +kernel
theorem dX8_longestOfAll_15 : decode cX8_longestOfAll 15 = .ok (.aload_n 2, 1) := by decide +kernel
theorem dX8_longestOfAll_16 : decode cX8_longestOfAll 16 = .ok (.getfield 41, 3) := by decide +kernel
theorem dX8_longestOfAll_19 : decode cX8_longestOfAll 19 = .ok (.if_icmp .ge 27, 3) := by decide +kernel
theorem dX8_longestOfAll_22 : decode cX8_longestOfAll 22 = .ok (.iload_n 3, 1) := by decide +kernel
theorem dX8_longestOfAll_23 : decode cX8_longestOfAll 23 = .ok (.aload_n 0, 1) := by decide +kernel
theorem dX8_longestOfAll_24 : decode cX8_longestOfAll 24 = .ok (.aload_n 2, 1) := by decide +kernel
theorem dX8_longestOfAll_25 : decode cX8_longestOfAll 25 = .ok (.getfield 47, 3) := by decide +kernel
theorem dX8_longestOfAll_28 : decode cX8_longestOfAll 28 = .ok (.iload 4, 2) := by decide +kernel
theorem dX8_longestOfAll_30 : decode cX8_longestOfAll 30 = .ok (.iaload, 1) := by decide +kernel
theorem dX8_longestOfAll_31 : decode cX8_longestOfAll 31 = .ok (.aload_n 1, 1) := by decide +kernel
theorem dX8_longestOfAll_32 : decode cX8_longestOfAll 32 = .ok (.aload_n 2, 1) := by decide +kernel
theorem dX8_longestOfAll_33 : decode cX8_longestOfAll 33 = .ok (.invokevirtual 130, 3) := by decide +kernel
theorem dX8_longestOfAll_36 : decode cX8_longestOfAll 36 = .ok (.invokestatic 102, 3) := by decide +kernel
theorem dX8_longestOfAll_39 : decode cX8_longestOfAll 39 = .ok (.istore_n 3, 1) := by decide +kernel
theorem dX8_longestOfAll_40 : decode cX8_longestOfAll 40 = .ok (.iinc 4 1, 3) := by decide +kernel
theorem dX8_longestOfAll_43 : decode cX8_longestOfAll 43 = .ok (.goto (-30), 3) := by decide +kernel
theorem dX8_longestOfAll_46 : decode cX8_longestOfAll 46 = .ok (.iload_n 3, 1) := by decide +kernel
theorem dX8_longestOfAll_47 : decode cX8_longestOfAll 47 = .ok (.ireturn, 1) := by decide +kernel
set_option maxHeartbeats 4000000 in
set_option maxRecDepth 100000 in
theorem wX8_longestOfAll_13 {p : Program} {l : Launch} {e : Env} {s : State} {m : MethodId} {args : Array Value} {below : List Frame} {meth : Method} {c : Code} (bs : Nat) (D : va_G) (y : Y3) (n : Nat) (k13_ : Int32 → Int32 → MI → MJ → Option (Int32 × M2)) (r : Int32 × M2) (Gc : Gx p s m args meth c cX8_longestOfAll 5 RX8 bs D y (some .int) 44) (hk13_ : ∀ (x3 : Int32) (x4 : Int32) (I : MI) (J : MJ) (H : Heap) (locs : List Loc) (ls : Array Slot), va_P D vwCl (wl bs y I J) H → va_S (FA bs) s.heap H locs → lv_has ls 5 [(0, .ref (bs + 28)), (1, .ref (bs + 16)), (2, .ref (bs + 22)), (3, .int x3), (4, .int x4)] → k13_ x3 x4 I J = some r → W p l e (rmm 3 78) s m args below meth c H locs 0 0 (QI below args s bs D y r) (F0 m 13 ls [])) (x3 : Int32) (x4 : Int32) (I : MI) (J : MJ) (H : Heap) (locs : List Loc) (ls : Array Slot) (hP : va_P D vwCl (wl bs y I J) H) (hS : va_S (FA bs) s.heap H locs) (hl : lv_has ls 5 [(0, .ref (bs + 28)), (1, .ref (bs + 16)), (2, .ref (bs + 22)), (3, .int x3), (4, .int x4)]) (h : fX8_longestOfAll_13 n k13_ x3 x4 I J = some r) : W p l e (rmm 3 78) s m args below meth c H locs 0 0 (QI below args s bs D y r) (F0 m 13 ls []) := by
  obtain ⟨hx, hb, hml, hown, hts, hK, hN, hL, hr, hlocks, hcb⟩ := id Gc
  unfold fX8_longestOfAll_13 at h
  refine lv_iload hx hb dX8_longestOfAll_13 (lv_at hl 4 rfl) ?_
  refine lv_aload_n hx hb dX8_longestOfAll_15 rfl (lv_at hl 2 rfl) ?_
  refine g_I (C := RX5) (T := TX5) (N := 7) (ci := 5) 22 1 hx hb hts hown hK hP in_X5 rfl hcb okF_22_1 fl_93 dX8_longestOfAll_16 ?_
  refine lv_icmp_ge (tgt := 46) hx hb dX8_longestOfAll_19 (by decide) (fun c19 => ?_) (fun c19 => ?_)
  · replace h := if_t c19 h
    refine lv_iload_n hx hb dX8_longestOfAll_46 rfl (lv_at hl 3 rfl) ?_
    exact r_I hx hb hr hlocks hP hK hN hL hS h dX8_longestOfAll_47
  · replace h := if_f c19 h
    refine lv_iload_n hx hb dX8_longestOfAll_22 rfl (lv_at hl 3 rfl) ?_
    refine lv_aload_n hx hb dX8_longestOfAll_23 rfl (lv_at hl 0 rfl) ?_
    refine lv_aload_n hx hb dX8_longestOfAll_24 rfl (lv_at hl 2 rfl) ?_
    refine g_R (C := RX5) (T := TX5) (N := 7) (ci := 5) 22 2 23 hx hb hts hown hK hP in_X5 rfl hcb okF_22_2 rfc_22_2 fl_94 dX8_longestOfAll_25 ?_
    refine lv_iload hx hb dX8_longestOfAll_28 (lv_at hl 4 rfl) ?_
    obtain ⟨hi30, h⟩ := if_s1 h
    refine a_I 23 hx hb hK hP hcb aln_23 hi30 dX8_longestOfAll_30 ?_
    refine lv_aload_n hx hb dX8_longestOfAll_31 rfl (lv_at hl 1 rfl) ?_
    refine lv_aload_n hx hb dX8_longestOfAll_32 rfl (lv_at hl 2 rfl) ?_
    obtain ⟨r33, er33, h⟩ := bd_s1 h
    refine c_VI (k := 28) (ci := 8) (As := [.int (I 23 (x4).toNatClampNeg), .ref (bs + 16), .ref (bs + 22)]) (rest := [.int x3]) hx hb hml hown hts hK hN hL hP hS (cX8_longestOf_ l bs D y hcb n (I 23 (x4).toNatClampNeg) I J r33 er33) ok_X8_longestOf ov_X8_longestOf ml_66 ⟨Nat.le_of_ble_eq_true rfl, Nat.le_of_ble_eq_true rfl⟩ rfl hcb kd_28 hl.1 rfl rfl (Nat.le_of_ble_eq_true rfl) ⟨Nat.zero_le _, Nat.zero_le _⟩ dX8_longestOfAll_33 (fun H locs hP hS => ?_)
    refine va_mmax hx hb (hml.trans hl.1.symm) hown (hts _ ml_51) (hts _ ms_va_mmax) (hts _ ms_i) (hts _ mc_va_mmax) (Nat.le_of_ble_eq_true rfl) (Nat.le_of_ble_eq_true rfl) (Nat.zero_le _) (Nat.zero_le _) dX8_longestOfAll_36 ?_
    obtain ⟨v39, ev39, h⟩ := lt_s1 h
    refine top_i ev39 ?_
    refine lv_istore_n (lv' := [(3, .int v39), (0, .ref (bs + 28)), (1, .ref (bs + 16)), (2, .ref (bs + 22)), (4, .int x4)]) hx hb dX8_longestOfAll_39 rfl hl (by decide) rfl (fun ls hl => ?_)
    refine lv_iinc (v := (x4 + (1 : Int32))) (lv' := [(4, .int (x4 + (1 : Int32))), (3, .int v39), (0, .ref (bs + 28)), (1, .ref (bs + 16)), (2, .ref (bs + 22))]) hx hb dX8_longestOfAll_40 hl (k := 4) rfl rfl (by decide) rfl (fun ls hl => ?_)
    refine lv_goto (tgt := 13) hx hb dX8_longestOfAll_43 (by decide) ?_
    exact hk13_ v39 (x4 + (1 : Int32)) r33.2.1 r33.2.2 _ _ _ hP hS (lv_sub hl [2, 3, 4, 1, 0] rfl) h
theorem vX8_longestOfAll_13 {p : Program} {l : Launch} {e : Env} {s : State} {m : MethodId} {args : Array Value} {below : List Frame} {meth : Method} {c : Code} (bs : Nat) (D : va_G) (y : Y3) (n : Nat) (r : Int32 × M2) (Gc : Gx p s m args meth c cX8_longestOfAll 5 RX8 bs D y (some .int) 44)  : ∀ (q : Nat) (x3 : Int32) (x4 : Int32) (I : MI) (J : MJ) (H : Heap) (locs : List Loc) (ls : Array Slot), va_P D vwCl (wl bs y I J) H → va_S (FA bs) s.heap H locs → lv_has ls 5 [(0, .ref (bs + 28)), (1, .ref (bs + 16)), (2, .ref (bs + 22)), (3, .int x3), (4, .int x4)] → lX8_longestOfAll_13 n  q x3 x4 I J = some r → W p l e (rmm 3 78) s m args below meth c H locs 0 0 (QI below args s bs D y r) (F0 m 13 ls []) := by
  intro q
  induction q with
  | zero =>
    intro x3 x4 I J H locs ls hP hS hl h
    have h : (none : Option (Int32 × M2)) = some r := h
    cases h
  | succ q ih =>
    intro x3 x4 I J H locs ls hP hS hl h
    have h : fX8_longestOfAll_13 n  (lX8_longestOfAll_13 n  q) x3 x4 I J = some r := h
    exact wX8_longestOfAll_13 bs D y n  (lX8_longestOfAll_13 n  q) r Gc  ih x3 x4 I J H locs ls hP hS hl h
set_option maxHeartbeats 4000000 in
set_option maxRecDepth 100000 in
theorem cX8_longestOfAll_ (l : Launch) (bs : Nat) (D : va_G) (y : Y3) (hcb : 44 ≤ y.2.2.2) (n : Nat) (I : MI) (J : MJ) (r : Int32 × M2) (h : fX8_longestOfAll n  I J = some r) : Met l yX8_longestOfAll (.code yX8_longestOfAll cX8_longestOfAll 5 (some .int) :: gtb) (rmm 3 78) (va_Pc [.ref (bs + 28), .ref (bs + 16), .ref (bs + 22)] (HB bs D y I J)) (QcI bs D y r) 0 0 (FA bs) := by
  refine Met.ofW (cc := cX8_longestOfAll) (maxL := 5) (ret := (some .int)) (by decide) rfl ?_
  intro p e s m args below meth c s₁ B hml hv
  obtain ⟨rfl, hP, hK, hN, hL⟩ := hv
  have hx := B.exec
  have hb := B.bytes
  have hr := B.returns
  have hts0 := atoms_spec (ws := .code yX8_longestOfAll cX8_longestOfAll 5 (some .int) :: gtb) B.pre
  have hts : ∀ w ∈ gtb, w.before [.ref (bs + 28), .ref (bs + 16), .ref (bs + 22)].toArray s = true := fun w hw => hts0 w (List.mem_cons_of_mem _ hw)
  have hown : s.vm.findClass RX8 = some m.cls := findClass_of_methodNamed B.named
  have hlocks := B.notSynchronized
  have hS : va_S (FA bs) s.heap s.heap [] := va_S.rf
  have Gc : Gx p s m [.ref (bs + 28), .ref (bs + 16), .ref (bs + 22)].toArray meth c cX8_longestOfAll 5 RX8 bs D y (some .int) 44 := ⟨hx, hb, hml, hown, hts, hK, hN, hL, hr, hlocks, hcb⟩
  have hl := lv_entry [.ref (bs + 28), .ref (bs + 16), .ref (bs + 22)] (n := 5) (Nat.le_of_ble_eq_true rfl)
  rw [lg_entry_eq]
  generalize (lg_sl [.ref (bs + 28), .ref (bs + 16), .ref (bs + 22)] ++ List.replicate (5 - (lg_sl [.ref (bs + 28), .ref (bs + 16), .ref (bs + 22)]).length) Slot.unset).toArray = ls at hl ⊢
  have hl : lv_has ls 5 [(0, .ref (bs + 28)), (1, .ref (bs + 16)), (2, .ref (bs + 22))] := hl
  change W p l e (rmm 3 78) s m [.ref (bs + 28), .ref (bs + 16), .ref (bs + 22)].toArray below meth c s.heap [] 0 0 (QI below [.ref (bs + 28), .ref (bs + 16), .ref (bs + 22)].toArray s bs D y r) (F0 m 0 ls [])
  unfold fX8_longestOfAll at h
  refine lv_aload_n hx hb dX8_longestOfAll_0 rfl (lv_at hl 0 rfl) ?_
  refine g_R (C := RX8) (T := TX8) (N := 6) (ci := 8) 28 4 32 hx hb hts hown hK hP in_X8 rfl hcb okF_28_4 rfc_28_4 fl_85 dX8_longestOfAll_1 ?_
  refine lv_iconst (v := (1 : Int32)) hx hb dX8_longestOfAll_4 (by decide) ?_
  obtain ⟨r5, er5, h⟩ := bd_s1 h
  refine c_SV (As := [.ref (bs + 32), .int (1 : Int32)]) (rest := []) hx hb hml hown hts hK hN hL hP hS (cJ7_fill_53178_ l bs D y hcb n 32 (1 : Int32) I J r5 er5) ok_J7_fill_53178 ov_J7_fill_53178 ml_52 ⟨Nat.le_of_ble_eq_true rfl, Nat.le_of_ble_eq_true rfl⟩ hl.1 rfl rfl (Nat.le_of_ble_eq_true rfl) ⟨Nat.zero_le _, Nat.zero_le _⟩ dX8_longestOfAll_5 (fun H locs hP hS => ?_)
  refine lv_iconst (v := (0 : Int32)) hx hb dX8_longestOfAll_8 (by decide) ?_
  refine lv_istore_n (lv' := [(3, .int (0 : Int32)), (0, .ref (bs + 28)), (1, .ref (bs + 16)), (2, .ref (bs + 22))]) hx hb dX8_longestOfAll_9 rfl hl (by decide) rfl (fun ls hl => ?_)
  refine lv_iconst (v := (0 : Int32)) hx hb dX8_longestOfAll_10 (by decide) ?_
  refine lv_istore (lv' := [(4, .int (0 : Int32)), (3, .int (0 : Int32)), (0, .ref (bs + 28)), (1, .ref (bs + 16)), (2, .ref (bs + 22))]) hx hb dX8_longestOfAll_11 hl (by decide) rfl (fun ls hl => ?_)
  exact vX8_longestOfAll_13 bs D y n  r Gc  n (0 : Int32) (0 : Int32) r5.1 r5.2 _ _ _ hP hS (lv_sub hl [2, 3, 4, 1, 0] rfl) h
theorem dX9_within_0 : decode cX9_within 0 = .ok (.iload_n 0, 1) := by decide +kernel
theorem dX9_within_1 : decode cX9_within 1 = .ok (.iload_n 1, 1) := by decide +kernel
theorem dX9_within_2 : decode cX9_within 2 = .ok (.if_icmp .lt 12, 3) := by decide +kernel
theorem dX9_within_5 : decode cX9_within 5 = .ok (.iload_n 0, 1) := by decide +kernel
theorem dX9_within_6 : decode cX9_within 6 = .ok (.iload_n 2, 1) := by decide +kernel
theorem dX9_within_7 : decode cX9_within 7 = .ok (.if_icmp .gt 7, 3) := by decide +kernel
theorem dX9_within_10 : decode cX9_within 10 = .ok (.iconst 1, 1) := by decide +kernel
theorem dX9_within_11 : decode cX9_within 11 = .ok (.goto 4, 3) := by decide +kernel
theorem dX9_within_14 : decode cX9_within 14 = .ok (.iconst 0, 1) := by decide +kernel
theorem dX9_within_15 : decode cX9_within 15 = .ok (.ireturn, 1) := by decide +kernel
set_option maxHeartbeats 4000000 in
set_option maxRecDepth 100000 in
theorem cX9_within_ (l : Launch) (bs : Nat) (D : va_G) (y : Y3) (hcb : 44 ≤ y.2.2.2) (n : Nat) (x0 : Int32) (x1 : Int32) (x2 : Int32) (I : MI) (J : MJ) (r : Int32 × M2) (h : fX9_within n x0 x1 x2 I J = some r) : Met l yX9_within (.code yX9_within cX9_within 3 (some .boolean) :: gtb) (rmm 0 0) (va_Pc [.int x0, .int x1, .int x2] (HB bs D y I J)) (QcI bs D y r) 0 0 (FA bs) := by
  refine Met.ofW (cc := cX9_within) (maxL := 3) (ret := (some .boolean)) (by decide) rfl ?_
  intro p e s m args below meth c s₁ B hml hv
  obtain ⟨rfl, hP, hK, hN, hL⟩ := hv
  have hx := B.exec
  have hb := B.bytes
  have hr := B.returns
  have hts0 := atoms_spec (ws := .code yX9_within cX9_within 3 (some .boolean) :: gtb) B.pre
  have hts : ∀ w ∈ gtb, w.before [.int x0, .int x1, .int x2].toArray s = true := fun w hw => hts0 w (List.mem_cons_of_mem _ hw)
  have hown : s.vm.findClass RX9 = some m.cls := findClass_of_methodNamed B.named
  have hlocks := B.notSynchronized
  have hS : va_S (FA bs) s.heap s.heap [] := va_S.rf
  have Gc : Gx p s m [.int x0, .int x1, .int x2].toArray meth c cX9_within 3 RX9 bs D y (some .boolean) 44 := ⟨hx, hb, hml, hown, hts, hK, hN, hL, hr, hlocks, hcb⟩
  have hl := lv_entry [.int x0, .int x1, .int x2] (n := 3) (Nat.le_of_ble_eq_true rfl)
  rw [lg_entry_eq]
  generalize (lg_sl [.int x0, .int x1, .int x2] ++ List.replicate (3 - (lg_sl [.int x0, .int x1, .int x2]).length) Slot.unset).toArray = ls at hl ⊢
  have hl : lv_has ls 3 [(0, .int x0), (1, .int x1), (2, .int x2)] := hl
  change W p l e (rmm 0 0) s m [.int x0, .int x1, .int x2].toArray below meth c s.heap [] 0 0 (QI below [.int x0, .int x1, .int x2].toArray s bs D y r) (F0 m 0 ls [])
  unfold fX9_within at h
  refine lv_iload_n hx hb dX9_within_0 rfl (lv_at hl 0 rfl) ?_
  refine lv_iload_n hx hb dX9_within_1 rfl (lv_at hl 1 rfl) ?_
  refine lv_icmp_lt (tgt := 14) hx hb dX9_within_2 (by decide) (fun c2 => ?_) (fun c2 => ?_)
  · replace h := if_t c2 h
    refine lv_iconst (v := (0 : Int32)) hx hb dX9_within_14 (by decide) ?_
    exact r_Z hx hb hr hlocks hP hK hN hL hS (by decide) h dX9_within_15
  · replace h := if_f c2 h
    refine lv_iload_n hx hb dX9_within_5 rfl (lv_at hl 0 rfl) ?_
    refine lv_iload_n hx hb dX9_within_6 rfl (lv_at hl 2 rfl) ?_
    refine lv_icmp_gt (tgt := 14) hx hb dX9_within_7 (by decide) (fun c7 => ?_) (fun c7 => ?_)
    · replace h := if_t c7 h
      refine lv_iconst (v := (0 : Int32)) hx hb dX9_within_14 (by decide) ?_
      exact r_Z hx hb hr hlocks hP hK hN hL hS (by decide) h dX9_within_15
    · replace h := if_f c7 h
      refine lv_iconst (v := (1 : Int32)) hx hb dX9_within_10 (by decide) ?_
      refine lv_goto (tgt := 15) hx hb dX9_within_11 (by decide) ?_
      exact r_Z hx hb hr hlocks hP hK hN hL hS (by decide) h dX9_within_15
theorem dX9_refuse_0 : decode cX9_refuse 0 = .ok (.iload_n 1, 1) := by decide +kernel
theorem dX9_refuse_1 : decode cX9_refuse 1 = .ok (.bipush (-8), 2) := by decide +kernel
theorem dX9_refuse_3 : decode cX9_refuse 3 = .ok (.bipush (-2), 2) := by decide +kernel
theorem dX9_refuse_5 : decode cX9_refuse 5 = .ok (.invokestatic 181, 3) := by decide +kernel
theorem dX9_refuse_8 : decode cX9_refuse 8 = .ok (.ifCond .eq 16, 3) := by decide +kernel
theorem dX9_refuse_11 : decode cX9_refuse 11 = .ok (.aload_n 0, 1) := by decide +kernel
theorem dX9_refuse_12 : decode cX9_refuse 12 = .ok (.getfield 72, 3) := by decide +kernel
theorem dX9_refuse_15 : decode cX9_refuse 15 = .ok (.bipush (-2), 2) := by decide +kernel
theorem dX9_refuse_17 : decode cX9_refuse 17 = .ok (.iload_n 1, 1) := by decide +kernel
theorem dX9_refuse_18 : decode cX9_refuse 18 = .ok (.isub, 1) := by decide +kernel
theorem dX9_refuse_19 : decode cX9_refuse 19 = .ok (.dup2, 1) := by decide +kernel
theorem dX9_refuse_20 : decode cX9_refuse 20 = .ok (.iaload, 1) := by decide +kernel
theorem dX9_refuse_21 : decode cX9_refuse 21 = .ok (.iconst 1, 1) := by decide +kernel
theorem dX9_refuse_22 : decode cX9_refuse 22 = .ok (.iadd, 1) := by decide +kernel
theorem dX9_refuse_23 : decode cX9_refuse 23 = .ok (.iastore, 1) := by decide +kernel
theorem dX9_refuse_24 : decode cX9_refuse 24 = .ok (.iload_n 1, 1) := by decide +kernel
theorem dX9_refuse_25 : decode cX9_refuse 25 = .ok (.ireturn, 1) := by decide +kernel
set_option maxHeartbeats 4000000 in
set_option maxRecDepth 100000 in
theorem cX9_refuse_ (l : Launch) (bs : Nat) (D : va_G) (y : Y3) (hcb : 44 ≤ y.2.2.2) (n : Nat) (x1 : Int32) (I : MI) (J : MJ) (r : Int32 × M2) (h : fX9_refuse n x1 I J = some r) : Met l yX9_refuse (.code yX9_refuse cX9_refuse 2 (some .int) :: gtb) (rmm 1 22) (va_Pc [.ref (bs + 0), .int x1] (HB bs D y I J)) (QcI bs D y r) 0 0 (FA bs) := by
  refine Met.ofW (cc := cX9_refuse) (maxL := 2) (ret := (some .int)) (by decide) rfl ?_
  intro p e s m args below meth c s₁ B hml hv
  obtain ⟨rfl, hP, hK, hN, hL⟩ := hv
  have hx := B.exec
  have hb := B.bytes
  have hr := B.returns
  have hts0 := atoms_spec (ws := .code yX9_refuse cX9_refuse 2 (some .int) :: gtb) B.pre
  have hts : ∀ w ∈ gtb, w.before [.ref (bs + 0), .int x1].toArray s = true := fun w hw => hts0 w (List.mem_cons_of_mem _ hw)
  have hown : s.vm.findClass RX9 = some m.cls := findClass_of_methodNamed B.named
  have hlocks := B.notSynchronized
  have hS : va_S (FA bs) s.heap s.heap [] := va_S.rf
  have Gc : Gx p s m [.ref (bs + 0), .int x1].toArray meth c cX9_refuse 2 RX9 bs D y (some .int) 44 := ⟨hx, hb, hml, hown, hts, hK, hN, hL, hr, hlocks, hcb⟩
  have hl := lv_entry [.ref (bs + 0), .int x1] (n := 2) (Nat.le_of_ble_eq_true rfl)
  rw [lg_entry_eq]
  generalize (lg_sl [.ref (bs + 0), .int x1] ++ List.replicate (2 - (lg_sl [.ref (bs + 0), .int x1]).length) Slot.unset).toArray = ls at hl ⊢
  have hl : lv_has ls 2 [(0, .ref (bs + 0)), (1, .int x1)] := hl
  change W p l e (rmm 1 22) s m [.ref (bs + 0), .int x1].toArray below meth c s.heap [] 0 0 (QI below [.ref (bs + 0), .int x1].toArray s bs D y r) (F0 m 0 ls [])
  unfold fX9_refuse at h
  refine lv_iload_n hx hb dX9_refuse_0 rfl (lv_at hl 1 rfl) ?_
  refine lv_bipush (v := (-8 : Int32)) hx hb dX9_refuse_1 (by decide) ?_
  refine lv_bipush (v := (-2 : Int32)) hx hb dX9_refuse_3 (by decide) ?_
  obtain ⟨r5, er5, h⟩ := bd_s1 h
  refine c_SI (As := [.int x1, .int (-8 : Int32), .int (-2 : Int32)]) (rest := []) hx hb hml hown hts hK hN hL hP hS (cX9_within_ l bs D y hcb n x1 (-8 : Int32) (-2 : Int32) I J r5 er5) ok_X9_within ov_X9_within ml_67 ⟨Nat.le_of_ble_eq_true rfl, Nat.le_of_ble_eq_true rfl⟩ hl.1 rfl rfl (Nat.le_of_ble_eq_true rfl) ⟨Nat.zero_le _, Nat.zero_le _⟩ dX9_refuse_5 (fun H locs hP hS => ?_)
  refine lv_if_eq (tgt := 24) hx hb dX9_refuse_8 (by decide) (fun c8 => ?_) (fun c8 => ?_)
  · replace h := if_t c8 h
    refine lv_iload_n hx hb dX9_refuse_24 rfl (lv_at hl 1 rfl) ?_
    exact r_I hx hb hr hlocks hP hK hN hL hS h dX9_refuse_25
  · replace h := if_f c8 h
    refine lv_aload_n hx hb dX9_refuse_11 rfl (lv_at hl 0 rfl) ?_
    refine g_R (C := RX9) (T := TX9) (N := 10) (ci := 9) 0 9 43 hx hb hts hown hK hP in_X9 rfl hcb okF_0_9 rfc_0_9 fl_96 dX9_refuse_12 ?_
    refine lv_bipush (v := (-2 : Int32)) hx hb dX9_refuse_15 (by decide) ?_
    refine lv_iload_n hx hb dX9_refuse_17 rfl (lv_at hl 1 rfl) ?_
    refine lv_isub hx hb dX9_refuse_18 ?_
    refine lv_dup2_11 hx hb dX9_refuse_19 rfl rfl ?_
    obtain ⟨hi20, h⟩ := if_s1 h
    refine a_I 43 hx hb hK hP hcb aln_43 hi20 dX9_refuse_20 ?_
    refine lv_iconst (v := (1 : Int32)) hx hb dX9_refuse_21 (by decide) ?_
    refine lv_iadd hx hb dX9_refuse_22 ?_
    obtain ⟨hi23, h⟩ := if_s1 h
    obtain ⟨I23, eI23, h⟩ := lt_s1 h
    refine t_I 43 eI23 hx hb hK hP hS hcb aln_43 hi23 dX9_refuse_23 (fun H locs hP hS => ?_)
    refine lv_iload_n hx hb dX9_refuse_24 rfl (lv_at hl 1 rfl) ?_
    exact r_I hx hb hr hlocks hP hK hN hL hS h dX9_refuse_25
theorem dX9_forgetWays_0 : decode cX9_forgetWays 0 = .ok (.aload_n 0, 1) := by decide +kernel
theorem dX9_forgetWays_1 : decode cX9_forgetWays 1 = .ok (.getfield 47, 3) := by decide +kernel
theorem dX9_forgetWays_4 : decode cX9_forgetWays 4 = .ok (.iconst 0, 1) := by decide +kernel
theorem dX9_forgetWays_5 : decode cX9_forgetWays 5 = .ok (.putfield 264, 3) := by decide +kernel
theorem dX9_forgetWays_8 : decode cX9_forgetWays 8 = .ok (.aload_n 0, 1) := by decide +kernel
theorem dX9_forgetWays_9 : decode cX9_forgetWays 9 = .ok (.getfield 54, 3) := by decide +kernel
theorem dX9_forgetWays_12 : decode cX9_forgetWays 12 = .ok (.iconst 0, 1) := by decide +kernel
theorem dX9_forgetWays_13 : decode cX9_forgetWays 13 = .ok (.putfield 301, 3) := by decide +kernel
theorem dX9_forgetWays_16 : decode cX9_forgetWays 16 = .ok (.return_, 1) := by decide +kernel
set_option maxHeartbeats 4000000 in
set_option maxRecDepth 100000 in
theorem cX9_forgetWays_ (l : Launch) (bs : Nat) (D : va_G) (y : Y3) (hcb : 44 ≤ y.2.2.2) (n : Nat) (I : MI) (J : MJ) (r : M2) (h : fX9_forgetWays n  I J = some r) : Met l yX9_forgetWays (.code yX9_forgetWays cX9_forgetWays 1 none :: gtb) (rmm 0 0) (va_Pc [.ref (bs + 0)] (HB bs D y I J)) (QcV bs D y r) 0 0 (FA bs) := by
  refine Met.ofW (cc := cX9_forgetWays) (maxL := 1) (ret := none) (by decide) rfl ?_
  intro p e s m args below meth c s₁ B hml hv
  obtain ⟨rfl, hP, hK, hN, hL⟩ := hv
  have hx := B.exec
  have hb := B.bytes
  have hr := B.returns
  have hts0 := atoms_spec (ws := .code yX9_forgetWays cX9_forgetWays 1 none :: gtb) B.pre
  have hts : ∀ w ∈ gtb, w.before [.ref (bs + 0)].toArray s = true := fun w hw => hts0 w (List.mem_cons_of_mem _ hw)
  have hown : s.vm.findClass RX9 = some m.cls := findClass_of_methodNamed B.named
  have hlocks := B.notSynchronized
  have hS : va_S (FA bs) s.heap s.heap [] := va_S.rf
  have Gc : Gx p s m [.ref (bs + 0)].toArray meth c cX9_forgetWays 1 RX9 bs D y none 44 := ⟨hx, hb, hml, hown, hts, hK, hN, hL, hr, hlocks, hcb⟩
  have hl := lv_entry [.ref (bs + 0)] (n := 1) (Nat.le_of_ble_eq_true rfl)
  rw [lg_entry_eq]
  generalize (lg_sl [.ref (bs + 0)] ++ List.replicate (1 - (lg_sl [.ref (bs + 0)]).length) Slot.unset).toArray = ls at hl ⊢
  have hl : lv_has ls 1 [(0, .ref (bs + 0))] := hl
  change W p l e (rmm 0 0) s m [.ref (bs + 0)].toArray below meth c s.heap [] 0 0 (QV below [.ref (bs + 0)].toArray s bs D y r) (F0 m 0 ls [])
  unfold fX9_forgetWays at h
  refine lv_aload_n hx hb dX9_forgetWays_0 rfl (lv_at hl 0 rfl) ?_
  refine g_R (C := RX9) (T := TX9) (N := 10) (ci := 9) 0 5 28 hx hb hts hown hK hP in_X9 rfl hcb okF_0_5 rfc_0_5 fl_97 dX9_forgetWays_1 ?_
  refine lv_iconst (v := (0 : Int32)) hx hb dX9_forgetWays_4 (by decide) ?_
  obtain ⟨I5, eI5, h⟩ := lt_s1 h
  refine s_I (C := RX8) (T := TX8) (N := 6) (ci := 8) (ty := .boolean) 28 0 eI5 tyX8 hx hb hts hown hK hP hS in_X8 tyX8_ok nmX8 rfl hcb okF_28_0 fl_98 rfl (by decide +kernel) (by decide) rfl dX9_forgetWays_5 (fun H locs hP hS => ?_)
  refine lv_aload_n hx hb dX9_forgetWays_8 rfl (lv_at hl 0 rfl) ?_
  refine g_R (C := RX9) (T := TX9) (N := 10) (ci := 9) 0 6 34 hx hb hts hown hK hP in_X9 rfl hcb okF_0_6 rfc_0_6 fl_99 dX9_forgetWays_9 ?_
  refine lv_iconst (v := (0 : Int32)) hx hb dX9_forgetWays_12 (by decide) ?_
  obtain ⟨I13, eI13, h⟩ := lt_s1 h
  refine s_I (C := RX1) (T := TX1) (N := 5) (ci := 1) (ty := .boolean) 34 0 eI13 tyX1 hx hb hts hown hK hP hS in_X1 tyX1_ok nmX1 rfl hcb okF_34_0 fl_100 rfl (by decide +kernel) (by decide) rfl dX9_forgetWays_13 (fun H locs hP hS => ?_)
  exact r_V hx hb hr hlocks hP hK hN hL hS h dX9_forgetWays_16
theorem dX9_forgetPlaces_0 : decode cX9_forgetPlaces 0 = .ok (.aload_n 0, 1) := by decide +kernel
theorem dX9_forgetPlaces_1 : decode cX9_forgetPlaces 1 = .ok (.getfield 40, 3) := by decide +kernel
theorem dX9_forgetPlaces_4 : decode cX9_forgetPlaces 4 = .ok (.iconst 0, 1) := by decide +kernel
theorem dX9_forgetPlaces_5 : decode cX9_forgetPlaces 5 = .ok (.putfield 239, 3) := by decide +kernel
theorem dX9_forgetPlaces_8 : decode cX9_forgetPlaces 8 = .ok (.aload_n 0, 1) := by decide +kernel
theorem dX9_forgetPlaces_9 : decode cX9_forgetPlaces 9 = .ok (.invokevirtual 212, 3) := by decide +kernel
theorem dX9_forgetPlaces_12 : decode cX9_forgetPlaces 12 = .ok (.return_, 1) := by decide +kernel
set_option maxHeartbeats 4000000 in
set_option maxRecDepth 100000 in
theorem cX9_forgetPlaces_ (l : Launch) (bs : Nat) (D : va_G) (y : Y3) (hcb : 44 ≤ y.2.2.2) (n : Nat) (I : MI) (J : MJ) (r : M2) (h : fX9_forgetPlaces n  I J = some r) : Met l yX9_forgetPlaces (.code yX9_forgetPlaces cX9_forgetPlaces 1 none :: gtb) (rmm 1 20) (va_Pc [.ref (bs + 0)] (HB bs D y I J)) (QcV bs D y r) 0 0 (FA bs) := by
  refine Met.ofW (cc := cX9_forgetPlaces) (maxL := 1) (ret := none) (by decide) rfl ?_
  intro p e s m args below meth c s₁ B hml hv
  obtain ⟨rfl, hP, hK, hN, hL⟩ := hv
  have hx := B.exec
  have hb := B.bytes
  have hr := B.returns
  have hts0 := atoms_spec (ws := .code yX9_forgetPlaces cX9_forgetPlaces 1 none :: gtb) B.pre
  have hts : ∀ w ∈ gtb, w.before [.ref (bs + 0)].toArray s = true := fun w hw => hts0 w (List.mem_cons_of_mem _ hw)
  have hown : s.vm.findClass RX9 = some m.cls := findClass_of_methodNamed B.named
  have hlocks := B.notSynchronized
  have hS : va_S (FA bs) s.heap s.heap [] := va_S.rf
  have Gc : Gx p s m [.ref (bs + 0)].toArray meth c cX9_forgetPlaces 1 RX9 bs D y none 44 := ⟨hx, hb, hml, hown, hts, hK, hN, hL, hr, hlocks, hcb⟩
  have hl := lv_entry [.ref (bs + 0)] (n := 1) (Nat.le_of_ble_eq_true rfl)
  rw [lg_entry_eq]
  generalize (lg_sl [.ref (bs + 0)] ++ List.replicate (1 - (lg_sl [.ref (bs + 0)]).length) Slot.unset).toArray = ls at hl ⊢
  have hl : lv_has ls 1 [(0, .ref (bs + 0))] := hl
  change W p l e (rmm 1 20) s m [.ref (bs + 0)].toArray below meth c s.heap [] 0 0 (QV below [.ref (bs + 0)].toArray s bs D y r) (F0 m 0 ls [])
  unfold fX9_forgetPlaces at h
  refine lv_aload_n hx hb dX9_forgetPlaces_0 rfl (lv_at hl 0 rfl) ?_
  refine g_R (C := RX9) (T := TX9) (N := 10) (ci := 9) 0 4 22 hx hb hts hown hK hP in_X9 rfl hcb okF_0_4 rfc_0_4 fl_101 dX9_forgetPlaces_1 ?_
  refine lv_iconst (v := (0 : Int32)) hx hb dX9_forgetPlaces_4 (by decide) ?_
  obtain ⟨I5, eI5, h⟩ := lt_s1 h
  refine s_I (C := RX5) (T := TX5) (N := 7) (ci := 5) (ty := .boolean) 22 0 eI5 tyX5 hx hb hts hown hK hP hS in_X5 tyX5_ok nmX5 rfl hcb okF_22_0 fl_102 rfl (by decide +kernel) (by decide) rfl dX9_forgetPlaces_5 (fun H locs hP hS => ?_)
  refine lv_aload_n hx hb dX9_forgetPlaces_8 rfl (lv_at hl 0 rfl) ?_
  obtain ⟨r9, er9, h⟩ := bd_s1 h
  refine c_VV (k := 0) (ci := 9) (As := []) (rest := []) hx hb hml hown hts hK hN hL hP hS (cX9_forgetWays_ l bs D y hcb n  I5 J r9 er9) ok_X9_forgetWays ov_X9_forgetWays ml_68 ⟨Nat.le_of_ble_eq_true rfl, Nat.le_of_ble_eq_true rfl⟩ rfl hcb kd_0 hl.1 rfl rfl (Nat.le_of_ble_eq_true rfl) ⟨Nat.zero_le _, Nat.zero_le _⟩ dX9_forgetPlaces_9 (fun H locs hP hS => ?_)
  exact r_V hx hb hr hlocks hP hK hN hL hS h dX9_forgetPlaces_12
theorem dX9_forgetTables_0 : decode cX9_forgetTables 0 = .ok (.aload_n 0, 1) := by decide +kernel
theorem dX9_forgetTables_1 : decode cX9_forgetTables 1 = .ok (.getfield 26, 3) := by decide +kernel
theorem dX9_forgetTables_4 : decode cX9_forgetTables 4 = .ok (.iconst 0, 1) := by decide +kernel
theorem dX9_forgetTables_5 : decode cX9_forgetTables 5 = .ok (.putfield 165, 3) := by decide +kernel
theorem dX9_forgetTables_8 : decode cX9_forgetTables 8 = .ok (.aload_n 0, 1) := by decide +kernel
theorem dX9_forgetTables_9 : decode cX9_forgetTables 9 = .ok (.invokevirtual 185, 3) := by decide +kernel
theorem dX9_forgetTables_12 : decode cX9_forgetTables 12 = .ok (.aload_n 0, 1) := by decide +kernel
theorem dX9_forgetTables_13 : decode cX9_forgetTables 13 = .ok (.getfield 61, 3) := by decide +kernel
theorem dX9_forgetTables_16 : decode cX9_forgetTables 16 = .ok (.aload_n 0, 1) := by decide +kernel
theorem dX9_forgetTables_17 : decode cX9_forgetTables 17 = .ok (.getfield 12, 3) := by decide +kernel
theorem dX9_forgetTables_20 : decode cX9_forgetTables 20 = .ok (.invokevirtual 80, 3) := by decide +kernel
theorem dX9_forgetTables_23 : decode cX9_forgetTables 23 = .ok (.return_, 1) := by decide +kernel
set_option maxHeartbeats 4000000 in
set_option maxRecDepth 100000 in
theorem cX9_forgetTables_ (l : Launch) (bs : Nat) (D : va_G) (y : Y3) (hcb : 44 ≤ y.2.2.2) (n : Nat) (I : MI) (J : MJ) (r : M2) (h : fX9_forgetTables n  I J = some r) : Met l yX9_forgetTables (.code yX9_forgetTables cX9_forgetTables 1 none :: gtb) (rmm 2 40) (va_Pc [.ref (bs + 0)] (HB bs D y I J)) (QcV bs D y r) 0 0 (FA bs) := by
  refine Met.ofW (cc := cX9_forgetTables) (maxL := 1) (ret := none) (by decide) rfl ?_
  intro p e s m args below meth c s₁ B hml hv
  obtain ⟨rfl, hP, hK, hN, hL⟩ := hv
  have hx := B.exec
  have hb := B.bytes
  have hr := B.returns
  have hts0 := atoms_spec (ws := .code yX9_forgetTables cX9_forgetTables 1 none :: gtb) B.pre
  have hts : ∀ w ∈ gtb, w.before [.ref (bs + 0)].toArray s = true := fun w hw => hts0 w (List.mem_cons_of_mem _ hw)
  have hown : s.vm.findClass RX9 = some m.cls := findClass_of_methodNamed B.named
  have hlocks := B.notSynchronized
  have hS : va_S (FA bs) s.heap s.heap [] := va_S.rf
  have Gc : Gx p s m [.ref (bs + 0)].toArray meth c cX9_forgetTables 1 RX9 bs D y none 44 := ⟨hx, hb, hml, hown, hts, hK, hN, hL, hr, hlocks, hcb⟩
  have hl := lv_entry [.ref (bs + 0)] (n := 1) (Nat.le_of_ble_eq_true rfl)
  rw [lg_entry_eq]
  generalize (lg_sl [.ref (bs + 0)] ++ List.replicate (1 - (lg_sl [.ref (bs + 0)]).length) Slot.unset).toArray = ls at hl ⊢
  have hl : lv_has ls 1 [(0, .ref (bs + 0))] := hl
  change W p l e (rmm 2 40) s m [.ref (bs + 0)].toArray below meth c s.heap [] 0 0 (QV below [.ref (bs + 0)].toArray s bs D y r) (F0 m 0 ls [])
  unfold fX9_forgetTables at h
  refine lv_aload_n hx hb dX9_forgetTables_0 rfl (lv_at hl 0 rfl) ?_
  refine g_R (C := RX9) (T := TX9) (N := 10) (ci := 9) 0 2 11 hx hb hts hown hK hP in_X9 rfl hcb okF_0_2 rfc_0_2 fl_103 dX9_forgetTables_1 ?_
  refine lv_iconst (v := (0 : Int32)) hx hb dX9_forgetTables_4 (by decide) ?_
  obtain ⟨I5, eI5, h⟩ := lt_s1 h
  refine s_I (C := RX7) (T := TX7) (N := 7) (ci := 7) (ty := .boolean) 11 0 eI5 tyX7 hx hb hts hown hK hP hS in_X7 tyX7_ok nmX7 rfl hcb okF_11_0 fl_104 rfl (by decide +kernel) (by decide) rfl dX9_forgetTables_5 (fun H locs hP hS => ?_)
  refine lv_aload_n hx hb dX9_forgetTables_8 rfl (lv_at hl 0 rfl) ?_
  obtain ⟨r9, er9, h⟩ := bd_s1 h
  refine c_VV (k := 0) (ci := 9) (As := []) (rest := []) hx hb hml hown hts hK hN hL hP hS (cX9_forgetPlaces_ l bs D y hcb n  I5 J r9 er9) ok_X9_forgetPlaces ov_X9_forgetPlaces ml_69 ⟨Nat.le_of_ble_eq_true rfl, Nat.le_of_ble_eq_true rfl⟩ rfl hcb kd_0 hl.1 rfl rfl (Nat.le_of_ble_eq_true rfl) ⟨Nat.zero_le _, Nat.zero_le _⟩ dX9_forgetTables_9 (fun H locs hP hS => ?_)
  refine lv_aload_n hx hb dX9_forgetTables_12 rfl (lv_at hl 0 rfl) ?_
  refine g_R (C := RX9) (T := TX9) (N := 10) (ci := 9) 0 7 38 hx hb hts hown hK hP in_X9 rfl hcb okF_0_7 rfc_0_7 fl_105 dX9_forgetTables_13 ?_
  refine lv_aload_n hx hb dX9_forgetTables_16 rfl (lv_at hl 0 rfl) ?_
  refine g_R (C := RX9) (T := TX9) (N := 10) (ci := 9) 0 0 1 hx hb hts hown hK hP in_X9 rfl hcb okF_0_0 rfc_0_0 fl_106 dX9_forgetTables_17 ?_
  obtain ⟨r20, er20, h⟩ := bd_s1 h
  refine c_VV (k := 38) (ci := 6) (As := [.ref (bs + 1)]) (rest := []) hx hb hml hown hts hK hN hL hP hS (cX6_begin_ l bs D y hcb n  r9.1 r9.2 r20 er20) ok_X6_begin ov_X6_begin ml_70 ⟨Nat.le_of_ble_eq_true rfl, Nat.le_of_ble_eq_true rfl⟩ rfl hcb kd_38 hl.1 rfl rfl (Nat.le_of_ble_eq_true rfl) ⟨Nat.zero_le _, Nat.zero_le _⟩ dX9_forgetTables_20 (fun H locs hP hS => ?_)
  exact r_V hx hb hr hlocks hP hK hN hL hS h dX9_forgetTables_23
theorem dX9_input_0 : decode cX9_input 0 = .ok (.aload_n 0, 1) := by decide +kernel
theorem dX9_input_1 : decode cX9_input 1 = .ok (.getfield 12, 3) := by decide +kernel
theorem dX9_input_4 : decode cX9_input 4 = .ok (.getfield 84, 3) := by decide +kernel
theorem dX9_input_7 : decode cX9_input 7 = .ok (.bipush 32, 2) := by decide +kernel
theorem dX9_input_9 : decode cX9_input 9 = .ok (.if_icmp .ge 15, 3) := by decide +kernel
theorem dX9_input_12 : decode cX9_input 12 = .ok (.aload_n 0, 1) := by decide +kernel
theorem dX9_input_13 : decode cX9_input 13 = .ok (.getfield 12, 3) := by decide +kernel
theorem dX9_input_16 : decode cX9_input 16 = .ok (.getfield 88, 3) := by decide +kernel
theorem dX9_input_19 : decode cX9_input 19 = .ok (.bipush 6, 2) := by decide +kernel
theorem dX9_input_21 : decode cX9_input 21 = .ok (.if_icmp .lt 10, 3) := by decide +kernel
theorem dX9_input_24 : decode cX9_input 24 = .ok (.aload_n 0, 1) := by decide +kernel
theorem dX9_input_25 : decode cX9_input 25 = .ok (.bipush (-8), 2) := by decide +kernel
theorem dX9_input_27 : decode cX9_input 27 = .ok (.invokevirtual 91, 3) := by decide +kernel
theorem dX9_input_30 : decode cX9_input 30 = .ok (.ireturn, 1) := by decide +kernel
theorem dX9_input_31 : decode cX9_input 31 = .ok (.aload_n 0, 1) := by decide +kernel
theorem dX9_input_32 : decode cX9_input 32 = .ok (.getfield 12, 3) := by decide +kernel
theorem dX9_input_35 : decode cX9_input 35 = .ok (.invokevirtual 95, 3) := by decide +kernel
theorem dX9_input_38 : decode cX9_input 38 = .ok (.istore_n 1, 1) := by decide +kernel
theorem dX9_input_39 : decode cX9_input 39 = .ok (.aload_n 0, 1) := by decide +kernel
theorem dX9_input_40 : decode cX9_input 40 = .ok (.getfield 19, 3) := by decide +kernel
theorem dX9_input_43 : decode cX9_input 43 = .ok (.iload_n 1, 1) := by decide +kernel
theorem dX9_input_44 : decode cX9_input 44 = .ok (.invokevirtual 99, 3) := by decide +kernel
theorem dX9_input_47 : decode cX9_input 47 = .ok (.aload_n 0, 1) := by decide +kernel
theorem dX9_input_48 : decode cX9_input 48 = .ok (.invokevirtual 103, 3) := by decide +kernel
theorem dX9_input_51 : decode cX9_input 51 = .ok (.iload_n 1, 1) := by decide +kernel
theorem dX9_input_52 : decode cX9_input 52 = .ok (.ireturn, 1) := by decide +kernel
set_option maxHeartbeats 4000000 in
set_option maxRecDepth 100000 in
theorem wX9_input_24 {p : Program} {l : Launch} {e : Env} {s : State} {m : MethodId} {args : Array Value} {below : List Frame} {meth : Method} {c : Code} (bs : Nat) (D : va_G) (y : Y3) (n : Nat) (r : Int32 × M2) (Gc : Gx p s m args meth c cX9_input 2 RX9 bs D y (some .int) 44)  (I : MI) (J : MJ) (H : Heap) (locs : List Loc) (ls : Array Slot) (hP : va_P D vwCl (wl bs y I J) H) (hS : va_S (FA bs) s.heap H locs) (hl : lv_has ls 2 [(0, .ref (bs + 0))]) (h : fX9_input_24 n   I J = some r) : W p l e (rmm 3 60) s m args below meth c H locs 0 0 (QI below args s bs D y r) (F0 m 24 ls []) := by
  obtain ⟨hx, hb, hml, hown, hts, hK, hN, hL, hr, hlocks, hcb⟩ := id Gc
  unfold fX9_input_24 at h
  refine lv_aload_n hx hb dX9_input_24 rfl (lv_at hl 0 rfl) ?_
  refine lv_bipush (v := (-8 : Int32)) hx hb dX9_input_25 (by decide) ?_
  obtain ⟨r27, er27, h⟩ := bd_s1 h
  refine c_VI (k := 0) (ci := 9) (As := [.int (-8 : Int32)]) (rest := []) hx hb hml hown hts hK hN hL hP hS (cX9_refuse_ l bs D y hcb n (-8 : Int32) I J r27 er27) ok_X9_refuse ov_X9_refuse ml_71 ⟨Nat.le_of_ble_eq_true rfl, Nat.le_of_ble_eq_true rfl⟩ rfl hcb kd_0 hl.1 rfl rfl (Nat.le_of_ble_eq_true rfl) ⟨Nat.zero_le _, Nat.zero_le _⟩ dX9_input_27 (fun H locs hP hS => ?_)
  exact r_I hx hb hr hlocks hP hK hN hL hS h dX9_input_30
set_option maxHeartbeats 4000000 in
set_option maxRecDepth 100000 in
theorem cX9_input_ (l : Launch) (bs : Nat) (D : va_G) (y : Y3) (hcb : 44 ≤ y.2.2.2) (n : Nat) (I : MI) (J : MJ) (r : Int32 × M2) (h : fX9_input n  I J = some r) : Met l yX9_input (.code yX9_input cX9_input 2 (some .int) :: gtb) (rmm 3 60) (va_Pc [.ref (bs + 0)] (HB bs D y I J)) (QcI bs D y r) 0 0 (FA bs) := by
  refine Met.ofW (cc := cX9_input) (maxL := 2) (ret := (some .int)) (by decide) rfl ?_
  intro p e s m args below meth c s₁ B hml hv
  obtain ⟨rfl, hP, hK, hN, hL⟩ := hv
  have hx := B.exec
  have hb := B.bytes
  have hr := B.returns
  have hts0 := atoms_spec (ws := .code yX9_input cX9_input 2 (some .int) :: gtb) B.pre
  have hts : ∀ w ∈ gtb, w.before [.ref (bs + 0)].toArray s = true := fun w hw => hts0 w (List.mem_cons_of_mem _ hw)
  have hown : s.vm.findClass RX9 = some m.cls := findClass_of_methodNamed B.named
  have hlocks := B.notSynchronized
  have hS : va_S (FA bs) s.heap s.heap [] := va_S.rf
  have Gc : Gx p s m [.ref (bs + 0)].toArray meth c cX9_input 2 RX9 bs D y (some .int) 44 := ⟨hx, hb, hml, hown, hts, hK, hN, hL, hr, hlocks, hcb⟩
  have hl := lv_entry [.ref (bs + 0)] (n := 2) (Nat.le_of_ble_eq_true rfl)
  rw [lg_entry_eq]
  generalize (lg_sl [.ref (bs + 0)] ++ List.replicate (2 - (lg_sl [.ref (bs + 0)]).length) Slot.unset).toArray = ls at hl ⊢
  have hl : lv_has ls 2 [(0, .ref (bs + 0))] := hl
  change W p l e (rmm 3 60) s m [.ref (bs + 0)].toArray below meth c s.heap [] 0 0 (QI below [.ref (bs + 0)].toArray s bs D y r) (F0 m 0 ls [])
  unfold fX9_input at h
  refine lv_aload_n hx hb dX9_input_0 rfl (lv_at hl 0 rfl) ?_
  refine g_R (C := RX9) (T := TX9) (N := 10) (ci := 9) 0 0 1 hx hb hts hown hK hP in_X9 rfl hcb okF_0_0 rfc_0_0 fl_106 dX9_input_1 ?_
  refine g_I (C := RX3) (T := TX3) (N := 11) (ci := 3) 1 5 hx hb hts hown hK hP in_X3 rfl hcb okF_1_5 fl_107 dX9_input_4 ?_
  refine lv_bipush (v := (32 : Int32)) hx hb dX9_input_7 (by decide) ?_
  refine lv_icmp_ge (tgt := 24) hx hb dX9_input_9 (by decide) (fun c9 => ?_) (fun c9 => ?_)
  · replace h := if_t c9 h
    exact wX9_input_24 bs D y n  r Gc   I J _ _ _ hP hS (lv_sub hl [0] rfl) h
  · replace h := if_f c9 h
    refine lv_aload_n hx hb dX9_input_12 rfl (lv_at hl 0 rfl) ?_
    refine g_R (C := RX9) (T := TX9) (N := 10) (ci := 9) 0 0 1 hx hb hts hown hK hP in_X9 rfl hcb okF_0_0 rfc_0_0 fl_106 dX9_input_13 ?_
    refine g_I (C := RX3) (T := TX3) (N := 11) (ci := 3) 1 6 hx hb hts hown hK hP in_X3 rfl hcb okF_1_6 fl_108 dX9_input_16 ?_
    refine lv_bipush (v := (6 : Int32)) hx hb dX9_input_19 (by decide) ?_
    refine lv_icmp_lt (tgt := 31) hx hb dX9_input_21 (by decide) (fun c21 => ?_) (fun c21 => ?_)
    · replace h := if_t c21 h
      refine lv_aload_n hx hb dX9_input_31 rfl (lv_at hl 0 rfl) ?_
      refine g_R (C := RX9) (T := TX9) (N := 10) (ci := 9) 0 0 1 hx hb hts hown hK hP in_X9 rfl hcb okF_0_0 rfc_0_0 fl_106 dX9_input_32 ?_
      obtain ⟨r35, er35, h⟩ := bd_s1 h
      refine c_VI (k := 1) (ci := 3) (As := []) (rest := []) hx hb hml hown hts hK hN hL hP hS (cX3_addInput_ l bs D y hcb n  I J r35 er35) ok_X3_addInput ov_X3_addInput ml_72 ⟨Nat.le_of_ble_eq_true rfl, Nat.le_of_ble_eq_true rfl⟩ rfl hcb kd_1 hl.1 rfl rfl (Nat.le_of_ble_eq_true rfl) ⟨Nat.zero_le _, Nat.zero_le _⟩ dX9_input_35 (fun H locs hP hS => ?_)
      obtain ⟨v38, ev38, h⟩ := lt_s1 h
      refine top_i ev38 ?_
      refine lv_istore_n (lv' := [(1, .int v38), (0, .ref (bs + 0))]) hx hb dX9_input_38 rfl hl (by decide) rfl (fun ls hl => ?_)
      refine lv_aload_n hx hb dX9_input_39 rfl (lv_at hl 1 rfl) ?_
      refine g_R (C := RX9) (T := TX9) (N := 10) (ci := 9) 0 1 7 hx hb hts hown hK hP in_X9 rfl hcb okF_0_1 rfc_0_1 fl_109 dX9_input_40 ?_
      refine lv_iload_n hx hb dX9_input_43 rfl (lv_at hl 0 rfl) ?_
      obtain ⟨r44, er44, h⟩ := bd_s1 h
      refine c_VV (k := 7) (ci := 0) (As := [.int v38]) (rest := []) hx hb hml hown hts hK hN hL hP hS (cX0_addPlain_ l bs D y hcb n v38 r35.2.1 r35.2.2 r44 er44) ok_X0_addPlain ov_X0_addPlain ml_73 ⟨Nat.le_of_ble_eq_true rfl, Nat.le_of_ble_eq_true rfl⟩ rfl hcb kd_7 hl.1 rfl rfl (Nat.le_of_ble_eq_true rfl) ⟨Nat.zero_le _, Nat.zero_le _⟩ dX9_input_44 (fun H locs hP hS => ?_)
      refine lv_aload_n hx hb dX9_input_47 rfl (lv_at hl 1 rfl) ?_
      obtain ⟨r48, er48, h⟩ := bd_s1 h
      refine c_VV (k := 0) (ci := 9) (As := []) (rest := []) hx hb hml hown hts hK hN hL hP hS (cX9_forgetTables_ l bs D y hcb n  r44.1 r44.2 r48 er48) ok_X9_forgetTables ov_X9_forgetTables ml_74 ⟨Nat.le_of_ble_eq_true rfl, Nat.le_of_ble_eq_true rfl⟩ rfl hcb kd_0 hl.1 rfl rfl (Nat.le_of_ble_eq_true rfl) ⟨Nat.zero_le _, Nat.zero_le _⟩ dX9_input_48 (fun H locs hP hS => ?_)
      refine lv_iload_n hx hb dX9_input_51 rfl (lv_at hl 0 rfl) ?_
      exact r_I hx hb hr hlocks hP hK hN hL hS h dX9_input_52
    · replace h := if_f c21 h
      exact wX9_input_24 bs D y n  r Gc   I J _ _ _ hP hS (lv_sub hl [0] rfl) h
theorem dX9_keeper_0 : decode cX9_keeper 0 = .ok (.aload_n 0, 1) := by decide +kernel
theorem dX9_keeper_1 : decode cX9_keeper 1 = .ok (.getfield 12, 3) := by decide +kernel
theorem dX9_keeper_4 : decode cX9_keeper 4 = .ok (.getfield 84, 3) := by decide +kernel
theorem dX9_keeper_7 : decode cX9_keeper 7 = .ok (.bipush 32, 2) := by decide +kernel
theorem dX9_keeper_9 : decode cX9_keeper 9 = .ok (.if_icmp .ge 15, 3) := by decide +kernel
theorem dX9_keeper_12 : decode cX9_keeper 12 = .ok (.aload_n 0, 1) := by decide +kernel
theorem dX9_keeper_13 : decode cX9_keeper 13 = .ok (.getfield 12, 3) := by decide +kernel
theorem dX9_keeper_16 : decode cX9_keeper 16 = .ok (.getfield 106, 3) := by decide +kernel
theorem dX9_keeper_19 : decode cX9_keeper 19 = .ok (.bipush 6, 2) := by decide +kernel
theorem dX9_keeper_21 : decode cX9_keeper 21 = .ok (.if_icmp .lt 10, 3) := by decide +kernel
theorem dX9_keeper_24 : decode cX9_keeper 24 = .ok (.aload_n 0, 1) := by decide +kernel
theorem dX9_keeper_25 : decode cX9_keeper 25 = .ok (.bipush (-8), 2) := by decide +kernel
theorem dX9_keeper_27 : decode cX9_keeper 27 = .ok (.invokevirtual 91, 3) := by decide +kernel
theorem dX9_keeper_30 : decode cX9_keeper 30 = .ok (.ireturn, 1) := by decide +kernel
theorem dX9_keeper_31 : decode cX9_keeper 31 = .ok (.aload_n 0, 1) := by decide +kernel
theorem dX9_keeper_32 : decode cX9_keeper 32 = .ok (.getfield 12, 3) := by decide +kernel
theorem dX9_keeper_35 : decode cX9_keeper 35 = .ok (.iload_n 1, 1) := by decide +kernel
theorem dX9_keeper_36 : decode cX9_keeper 36 = .ok (.invokevirtual 109, 3) := by decide +kernel
theorem dX9_keeper_39 : decode cX9_keeper 39 = .ok (.istore_n 2, 1) := by decide +kernel
theorem dX9_keeper_40 : decode cX9_keeper 40 = .ok (.aload_n 0, 1) := by decide +kernel
theorem dX9_keeper_41 : decode cX9_keeper 41 = .ok (.getfield 19, 3) := by decide +kernel
theorem dX9_keeper_44 : decode cX9_keeper 44 = .ok (.iload_n 2, 1) := by decide +kernel
theorem dX9_keeper_45 : decode cX9_keeper 45 = .ok (.invokevirtual 99, 3) := by decide +kernel
theorem dX9_keeper_48 : decode cX9_keeper 48 = .ok (.aload_n 0, 1) := by decide +kernel
theorem dX9_keeper_49 : decode cX9_keeper 49 = .ok (.invokevirtual 103, 3) := by decide +kernel
theorem dX9_keeper_52 : decode cX9_keeper 52 = .ok (.iload_n 2, 1) := by decide +kernel
theorem dX9_keeper_53 : decode cX9_keeper 53 = .ok (.ireturn, 1) := by decide +kernel
set_option maxHeartbeats 4000000 in
set_option maxRecDepth 100000 in
theorem wX9_keeper_24 {p : Program} {l : Launch} {e : Env} {s : State} {m : MethodId} {args : Array Value} {below : List Frame} {meth : Method} {c : Code} (bs : Nat) (D : va_G) (y : Y3) (n : Nat) (r : Int32 × M2) (Gc : Gx p s m args meth c cX9_keeper 3 RX9 bs D y (some .int) 44)  (I : MI) (J : MJ) (H : Heap) (locs : List Loc) (ls : Array Slot) (hP : va_P D vwCl (wl bs y I J) H) (hS : va_S (FA bs) s.heap H locs) (hl : lv_has ls 3 [(0, .ref (bs + 0))]) (h : fX9_keeper_24 n   I J = some r) : W p l e (rmm 3 60) s m args below meth c H locs 0 0 (QI below args s bs D y r) (F0 m 24 ls []) := by
  obtain ⟨hx, hb, hml, hown, hts, hK, hN, hL, hr, hlocks, hcb⟩ := id Gc
  unfold fX9_keeper_24 at h
  refine lv_aload_n hx hb dX9_keeper_24 rfl (lv_at hl 0 rfl) ?_
  refine lv_bipush (v := (-8 : Int32)) hx hb dX9_keeper_25 (by decide) ?_
  obtain ⟨r27, er27, h⟩ := bd_s1 h
  refine c_VI (k := 0) (ci := 9) (As := [.int (-8 : Int32)]) (rest := []) hx hb hml hown hts hK hN hL hP hS (cX9_refuse_ l bs D y hcb n (-8 : Int32) I J r27 er27) ok_X9_refuse ov_X9_refuse ml_71 ⟨Nat.le_of_ble_eq_true rfl, Nat.le_of_ble_eq_true rfl⟩ rfl hcb kd_0 hl.1 rfl rfl (Nat.le_of_ble_eq_true rfl) ⟨Nat.zero_le _, Nat.zero_le _⟩ dX9_keeper_27 (fun H locs hP hS => ?_)
  exact r_I hx hb hr hlocks hP hK hN hL hS h dX9_keeper_30
set_option maxHeartbeats 4000000 in
set_option maxRecDepth 100000 in
theorem cX9_keeper_ (l : Launch) (bs : Nat) (D : va_G) (y : Y3) (hcb : 44 ≤ y.2.2.2) (n : Nat) (x1 : Int32) (I : MI) (J : MJ) (r : Int32 × M2) (h : fX9_keeper n x1 I J = some r) : Met l yX9_keeper (.code yX9_keeper cX9_keeper 3 (some .int) :: gtb) (rmm 3 60) (va_Pc [.ref (bs + 0), .int x1] (HB bs D y I J)) (QcI bs D y r) 0 0 (FA bs) := by
  refine Met.ofW (cc := cX9_keeper) (maxL := 3) (ret := (some .int)) (by decide) rfl ?_
  intro p e s m args below meth c s₁ B hml hv
  obtain ⟨rfl, hP, hK, hN, hL⟩ := hv
  have hx := B.exec
  have hb := B.bytes
  have hr := B.returns
  have hts0 := atoms_spec (ws := .code yX9_keeper cX9_keeper 3 (some .int) :: gtb) B.pre
  have hts : ∀ w ∈ gtb, w.before [.ref (bs + 0), .int x1].toArray s = true := fun w hw => hts0 w (List.mem_cons_of_mem _ hw)
  have hown : s.vm.findClass RX9 = some m.cls := findClass_of_methodNamed B.named
  have hlocks := B.notSynchronized
  have hS : va_S (FA bs) s.heap s.heap [] := va_S.rf
  have Gc : Gx p s m [.ref (bs + 0), .int x1].toArray meth c cX9_keeper 3 RX9 bs D y (some .int) 44 := ⟨hx, hb, hml, hown, hts, hK, hN, hL, hr, hlocks, hcb⟩
  have hl := lv_entry [.ref (bs + 0), .int x1] (n := 3) (Nat.le_of_ble_eq_true rfl)
  rw [lg_entry_eq]
  generalize (lg_sl [.ref (bs + 0), .int x1] ++ List.replicate (3 - (lg_sl [.ref (bs + 0), .int x1]).length) Slot.unset).toArray = ls at hl ⊢
  have hl : lv_has ls 3 [(0, .ref (bs + 0)), (1, .int x1)] := hl
  change W p l e (rmm 3 60) s m [.ref (bs + 0), .int x1].toArray below meth c s.heap [] 0 0 (QI below [.ref (bs + 0), .int x1].toArray s bs D y r) (F0 m 0 ls [])
  unfold fX9_keeper at h
  refine lv_aload_n hx hb dX9_keeper_0 rfl (lv_at hl 0 rfl) ?_
  refine g_R (C := RX9) (T := TX9) (N := 10) (ci := 9) 0 0 1 hx hb hts hown hK hP in_X9 rfl hcb okF_0_0 rfc_0_0 fl_106 dX9_keeper_1 ?_
  refine g_I (C := RX3) (T := TX3) (N := 11) (ci := 3) 1 5 hx hb hts hown hK hP in_X3 rfl hcb okF_1_5 fl_107 dX9_keeper_4 ?_
  refine lv_bipush (v := (32 : Int32)) hx hb dX9_keeper_7 (by decide) ?_
  refine lv_icmp_ge (tgt := 24) hx hb dX9_keeper_9 (by decide) (fun c9 => ?_) (fun c9 => ?_)
  · replace h := if_t c9 h
    exact wX9_keeper_24 bs D y n  r Gc   I J _ _ _ hP hS (lv_sub hl [0] rfl) h
  · replace h := if_f c9 h
    refine lv_aload_n hx hb dX9_keeper_12 rfl (lv_at hl 0 rfl) ?_
    refine g_R (C := RX9) (T := TX9) (N := 10) (ci := 9) 0 0 1 hx hb hts hown hK hP in_X9 rfl hcb okF_0_0 rfc_0_0 fl_106 dX9_keeper_13 ?_
    refine g_I (C := RX3) (T := TX3) (N := 11) (ci := 3) 1 7 hx hb hts hown hK hP in_X3 rfl hcb okF_1_7 fl_110 dX9_keeper_16 ?_
    refine lv_bipush (v := (6 : Int32)) hx hb dX9_keeper_19 (by decide) ?_
    refine lv_icmp_lt (tgt := 31) hx hb dX9_keeper_21 (by decide) (fun c21 => ?_) (fun c21 => ?_)
    · replace h := if_t c21 h
      refine lv_aload_n hx hb dX9_keeper_31 rfl (lv_at hl 0 rfl) ?_
      refine g_R (C := RX9) (T := TX9) (N := 10) (ci := 9) 0 0 1 hx hb hts hown hK hP in_X9 rfl hcb okF_0_0 rfc_0_0 fl_106 dX9_keeper_32 ?_
      refine lv_iload_n hx hb dX9_keeper_35 rfl (lv_at hl 1 rfl) ?_
      obtain ⟨r36, er36, h⟩ := bd_s1 h
      refine c_VI (k := 1) (ci := 3) (As := [.int x1]) (rest := []) hx hb hml hown hts hK hN hL hP hS (cX3_addKeeper_ l bs D y hcb n x1 I J r36 er36) ok_X3_addKeeper ov_X3_addKeeper ml_75 ⟨Nat.le_of_ble_eq_true rfl, Nat.le_of_ble_eq_true rfl⟩ rfl hcb kd_1 hl.1 rfl rfl (Nat.le_of_ble_eq_true rfl) ⟨Nat.zero_le _, Nat.zero_le _⟩ dX9_keeper_36 (fun H locs hP hS => ?_)
      obtain ⟨v39, ev39, h⟩ := lt_s1 h
      refine top_i ev39 ?_
      refine lv_istore_n (lv' := [(2, .int v39), (0, .ref (bs + 0)), (1, .int x1)]) hx hb dX9_keeper_39 rfl hl (by decide) rfl (fun ls hl => ?_)
      refine lv_aload_n hx hb dX9_keeper_40 rfl (lv_at hl 1 rfl) ?_
      refine g_R (C := RX9) (T := TX9) (N := 10) (ci := 9) 0 1 7 hx hb hts hown hK hP in_X9 rfl hcb okF_0_1 rfc_0_1 fl_109 dX9_keeper_41 ?_
      refine lv_iload_n hx hb dX9_keeper_44 rfl (lv_at hl 0 rfl) ?_
      obtain ⟨r45, er45, h⟩ := bd_s1 h
      refine c_VV (k := 7) (ci := 0) (As := [.int v39]) (rest := []) hx hb hml hown hts hK hN hL hP hS (cX0_addPlain_ l bs D y hcb n v39 r36.2.1 r36.2.2 r45 er45) ok_X0_addPlain ov_X0_addPlain ml_73 ⟨Nat.le_of_ble_eq_true rfl, Nat.le_of_ble_eq_true rfl⟩ rfl hcb kd_7 hl.1 rfl rfl (Nat.le_of_ble_eq_true rfl) ⟨Nat.zero_le _, Nat.zero_le _⟩ dX9_keeper_45 (fun H locs hP hS => ?_)
      refine lv_aload_n hx hb dX9_keeper_48 rfl (lv_at hl 1 rfl) ?_
      obtain ⟨r49, er49, h⟩ := bd_s1 h
      refine c_VV (k := 0) (ci := 9) (As := []) (rest := []) hx hb hml hown hts hK hN hL hP hS (cX9_forgetTables_ l bs D y hcb n  r45.1 r45.2 r49 er49) ok_X9_forgetTables ov_X9_forgetTables ml_74 ⟨Nat.le_of_ble_eq_true rfl, Nat.le_of_ble_eq_true rfl⟩ rfl hcb kd_0 hl.1 rfl rfl (Nat.le_of_ble_eq_true rfl) ⟨Nat.zero_le _, Nat.zero_le _⟩ dX9_keeper_49 (fun H locs hP hS => ?_)
      refine lv_iload_n hx hb dX9_keeper_52 rfl (lv_at hl 0 rfl) ?_
      exact r_I hx hb hr hlocks hP hK hN hL hS h dX9_keeper_53
    · replace h := if_f c21 h
      exact wX9_keeper_24 bs D y n  r Gc   I J _ _ _ hP hS (lv_sub hl [0] rfl) h
