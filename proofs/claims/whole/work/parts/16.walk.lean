/-! walks: X10_gateOf X10_many X10_depthOf X10_isAhead X10_enters X10_partOf X10_findCuts X10_cuts X10_cut X10_depth X10_isOf X10_findBits X10_tables -/
theorem dX10_gateOf_0 : decode cX10_gateOf 0 = .ok (.iload_n 0, 1) := by decide +kernel
theorem dX10_gateOf_1 : decode cX10_gateOf 1 = .ok (.ifCond .ne 19, 3) := by decide +kernel
theorem dX10_gateOf_4 : decode cX10_gateOf 4 = .ok (.iload_n 1, 1) := by decide +kernel
theorem dX10_gateOf_5 : decode cX10_gateOf 5 = .ok (.ifCond .eq 11, 3) := by decide +kernel
theorem dX10_gateOf_8 : decode cX10_gateOf 8 = .ok (.iload_n 2, 1) := by decide +kernel
theorem dX10_gateOf_9 : decode cX10_gateOf 9 = .ok (.ifCond .eq 7, 3) := by decide +kernel
theorem dX10_gateOf_12 : decode cX10_gateOf 12 = .ok (.iconst 1, 1) := by decide +kernel
theorem dX10_gateOf_13 : decode cX10_gateOf 13 = .ok (.goto 38, 3) := by decide +kernel
theorem dX10_gateOf_16 : decode cX10_gateOf 16 = .ok (.iconst 0, 1) := by decide +kernel
theorem dX10_gateOf_17 : decode cX10_gateOf 17 = .ok (.goto 34, 3) := by decide +kernel
theorem dX10_gateOf_20 : decode cX10_gateOf 20 = .ok (.iload_n 0, 1) := by decide +kernel
theorem dX10_gateOf_21 : decode cX10_gateOf 21 = .ok (.iconst 1, 1) := by decide +kernel
theorem dX10_gateOf_22 : decode cX10_gateOf 22 = .ok (.if_icmp .ne 19, 3) := by decide +kernel
theorem dX10_gateOf_25 : decode cX10_gateOf 25 = .ok (.iload_n 1, 1) := by decide +kernel
theorem dX10_gateOf_26 : decode cX10_gateOf 26 = .ok (.ifCond .ne 7, 3) := by decide +kernel
theorem dX10_gateOf_29 : decode cX10_gateOf 29 = .ok (.iload_n 2, 1) := by decide +kernel
theorem dX10_gateOf_30 : decode cX10_gateOf 30 = .ok (.ifCond .eq 7, 3) := by decide +kernel
theorem dX10_gateOf_33 : decode cX10_gateOf 33 = .ok (.iconst 1, 1) := by decide +kernel
theorem dX10_gateOf_34 : decode cX10_gateOf 34 = .ok (.goto 17, 3) := by decide +kernel
theorem dX10_gateOf_37 : decode cX10_gateOf 37 = .ok (.iconst 0, 1) := by decide +kernel
theorem dX10_gateOf_38 : decode cX10_gateOf 38 = .ok (.goto 13, 3) := by decide +kernel
theorem dX10_gateOf_41 : decode cX10_gateOf 41 = .ok (.iload_n 1, 1) := by decide +kernel
theorem dX10_gateOf_42 : decode cX10_gateOf 42 = .ok (.iload_n 2, 1) := by decide +kernel
theorem dX10_gateOf_43 : decode cX10_gateOf 43 = .ok (.if_icmp .eq 7, 3) := by decide +kernel
theorem dX10_gateOf_46 : decode cX10_gateOf 46 = .ok (.iconst 1, 1) := by decide +kernel
theorem dX10_gateOf_47 : decode cX10_gateOf 47 = .ok (.goto 4, 3) := by decide +kernel
theorem dX10_gateOf_50 : decode cX10_gateOf 50 = .ok (.iconst 0, 1) := by decide +kernel
theorem dX10_gateOf_51 : decode cX10_gateOf 51 = .ok (.ireturn, 1) := by decide +kernel
set_option maxHeartbeats 4000000 in
set_option maxRecDepth 100000 in
theorem wX10_gateOf_33 {p : Program} {l : Launch} {e : Env} {s : State} {m : MethodId} {args : Array Value} {below : List Frame} {meth : Method} {c : Code} (bs : Nat) (D : va_G) (y : Y3) (n : Nat) (r : Int32 × M2) (Gc : Gx p s m args meth c cX10_gateOf 3 RX10 bs D y (some .boolean) 76)  (I : MI) (J : MJ) (H : Heap) (locs : List Loc) (ls : Array Slot) (hP : va_P D vwCl (wl bs y I J) H) (hS : va_S (FA bs) s.heap H locs) (hl : lv_has ls 3 []) (h : fX10_gateOf_33 n   I J = some r) : W p l e (rmm 0 0) s m args below meth c H locs 0 0 (QI below args s bs D y r) (F0 m 33 ls []) := by
  obtain ⟨hx, hb, hml, hown, hts, hK, hN, hL, hr, hlocks, hcb⟩ := id Gc
  unfold fX10_gateOf_33 at h
  refine lv_iconst (v := (1 : Int32)) hx hb dX10_gateOf_33 (by decide) ?_
  refine lv_goto (tgt := 51) hx hb dX10_gateOf_34 (by decide) ?_
  exact r_Z hx hb hr hlocks hP hK hN hL hS (by decide) h dX10_gateOf_51
set_option maxHeartbeats 4000000 in
set_option maxRecDepth 100000 in
theorem wX10_gateOf_16 {p : Program} {l : Launch} {e : Env} {s : State} {m : MethodId} {args : Array Value} {below : List Frame} {meth : Method} {c : Code} (bs : Nat) (D : va_G) (y : Y3) (n : Nat) (r : Int32 × M2) (Gc : Gx p s m args meth c cX10_gateOf 3 RX10 bs D y (some .boolean) 76)  (I : MI) (J : MJ) (H : Heap) (locs : List Loc) (ls : Array Slot) (hP : va_P D vwCl (wl bs y I J) H) (hS : va_S (FA bs) s.heap H locs) (hl : lv_has ls 3 []) (h : fX10_gateOf_16 n   I J = some r) : W p l e (rmm 0 0) s m args below meth c H locs 0 0 (QI below args s bs D y r) (F0 m 16 ls []) := by
  obtain ⟨hx, hb, hml, hown, hts, hK, hN, hL, hr, hlocks, hcb⟩ := id Gc
  unfold fX10_gateOf_16 at h
  refine lv_iconst (v := (0 : Int32)) hx hb dX10_gateOf_16 (by decide) ?_
  refine lv_goto (tgt := 51) hx hb dX10_gateOf_17 (by decide) ?_
  exact r_Z hx hb hr hlocks hP hK hN hL hS (by decide) h dX10_gateOf_51
set_option maxHeartbeats 4000000 in
set_option maxRecDepth 100000 in
theorem cX10_gateOf_ (l : Launch) (bs : Nat) (D : va_G) (y : Y3) (hcb : 76 ≤ y.2.2.2) (n : Nat) (x0 : Int32) (x1 : Int32) (x2 : Int32) (I : MI) (J : MJ) (r : Int32 × M2) (h : fX10_gateOf n x0 x1 x2 I J = some r) : Met l yX10_gateOf (.code yX10_gateOf cX10_gateOf 3 (some .boolean) :: gtb) (rmm 0 0) (va_Pc [.int x0, .int x1, .int x2] (HB bs D y I J)) (QcI bs D y r) 0 0 (FA bs) := by
  refine Met.ofW (cc := cX10_gateOf) (maxL := 3) (ret := (some .boolean)) (by decide) rfl ?_
  intro p e s m args below meth c s₁ B hml hv
  obtain ⟨rfl, hP, hK, hN, hL⟩ := hv
  have hx := B.exec
  have hb := B.bytes
  have hr := B.returns
  have hts0 := atoms_spec (ws := .code yX10_gateOf cX10_gateOf 3 (some .boolean) :: gtb) B.pre
  have hts : ∀ w ∈ gtb, w.before [.int x0, .int x1, .int x2].toArray s = true := fun w hw => hts0 w (List.mem_cons_of_mem _ hw)
  have hown : s.vm.findClass RX10 = some m.cls := findClass_of_methodNamed B.named
  have hlocks := B.notSynchronized
  have hS : va_S (FA bs) s.heap s.heap [] := va_S.rf
  have Gc : Gx p s m [.int x0, .int x1, .int x2].toArray meth c cX10_gateOf 3 RX10 bs D y (some .boolean) 76 := ⟨hx, hb, hml, hown, hts, hK, hN, hL, hr, hlocks, hcb⟩
  have hl := lv_entry [.int x0, .int x1, .int x2] (n := 3) (Nat.le_of_ble_eq_true rfl)
  rw [lg_entry_eq]
  generalize (lg_sl [.int x0, .int x1, .int x2] ++ List.replicate (3 - (lg_sl [.int x0, .int x1, .int x2]).length) Slot.unset).toArray = ls at hl ⊢
  have hl : lv_has ls 3 [(0, .int x0), (1, .int x1), (2, .int x2)] := hl
  change W p l e (rmm 0 0) s m [.int x0, .int x1, .int x2].toArray below meth c s.heap [] 0 0 (QI below [.int x0, .int x1, .int x2].toArray s bs D y r) (F0 m 0 ls [])
  unfold fX10_gateOf at h
  refine lv_iload_n hx hb dX10_gateOf_0 rfl (lv_at hl 0 rfl) ?_
  refine lv_if_ne (tgt := 20) hx hb dX10_gateOf_1 (by decide) (fun c1 => ?_) (fun c1 => ?_)
  · replace h := if_f c1 h
    refine lv_iload_n hx hb dX10_gateOf_20 rfl (lv_at hl 0 rfl) ?_
    refine lv_iconst (v := (1 : Int32)) hx hb dX10_gateOf_21 (by decide) ?_
    refine lv_icmp_ne (tgt := 41) hx hb dX10_gateOf_22 (by decide) (fun c22 => ?_) (fun c22 => ?_)
    · replace h := if_f c22 h
      refine lv_iload_n hx hb dX10_gateOf_41 rfl (lv_at hl 1 rfl) ?_
      refine lv_iload_n hx hb dX10_gateOf_42 rfl (lv_at hl 2 rfl) ?_
      refine lv_icmp_eq (tgt := 50) hx hb dX10_gateOf_43 (by decide) (fun c43 => ?_) (fun c43 => ?_)
      · replace h := if_t c43 h
        refine lv_iconst (v := (0 : Int32)) hx hb dX10_gateOf_50 (by decide) ?_
        exact r_Z hx hb hr hlocks hP hK hN hL hS (by decide) h dX10_gateOf_51
      · replace h := if_f c43 h
        refine lv_iconst (v := (1 : Int32)) hx hb dX10_gateOf_46 (by decide) ?_
        refine lv_goto (tgt := 51) hx hb dX10_gateOf_47 (by decide) ?_
        exact r_Z hx hb hr hlocks hP hK hN hL hS (by decide) h dX10_gateOf_51
    · replace h := if_t c22 h
      refine lv_iload_n hx hb dX10_gateOf_25 rfl (lv_at hl 1 rfl) ?_
      refine lv_if_ne (tgt := 33) hx hb dX10_gateOf_26 (by decide) (fun c26 => ?_) (fun c26 => ?_)
      · replace h := if_f c26 h
        exact wX10_gateOf_33 bs D y n  r Gc   I J _ _ _ hP hS (lv_sub hl [] rfl) h
      · replace h := if_t c26 h
        refine lv_iload_n hx hb dX10_gateOf_29 rfl (lv_at hl 2 rfl) ?_
        refine lv_if_eq (tgt := 37) hx hb dX10_gateOf_30 (by decide) (fun c30 => ?_) (fun c30 => ?_)
        · replace h := if_t c30 h
          refine lv_iconst (v := (0 : Int32)) hx hb dX10_gateOf_37 (by decide) ?_
          refine lv_goto (tgt := 51) hx hb dX10_gateOf_38 (by decide) ?_
          exact r_Z hx hb hr hlocks hP hK hN hL hS (by decide) h dX10_gateOf_51
        · replace h := if_f c30 h
          exact wX10_gateOf_33 bs D y n  r Gc   I J _ _ _ hP hS (lv_sub hl [] rfl) h
  · replace h := if_t c1 h
    refine lv_iload_n hx hb dX10_gateOf_4 rfl (lv_at hl 1 rfl) ?_
    refine lv_if_eq (tgt := 16) hx hb dX10_gateOf_5 (by decide) (fun c5 => ?_) (fun c5 => ?_)
    · replace h := if_t c5 h
      exact wX10_gateOf_16 bs D y n  r Gc   I J _ _ _ hP hS (lv_sub hl [] rfl) h
    · replace h := if_f c5 h
      refine lv_iload_n hx hb dX10_gateOf_8 rfl (lv_at hl 2 rfl) ?_
      refine lv_if_eq (tgt := 16) hx hb dX10_gateOf_9 (by decide) (fun c9 => ?_) (fun c9 => ?_)
      · replace h := if_t c9 h
        exact wX10_gateOf_16 bs D y n  r Gc   I J _ _ _ hP hS (lv_sub hl [] rfl) h
      · replace h := if_f c9 h
        refine lv_iconst (v := (1 : Int32)) hx hb dX10_gateOf_12 (by decide) ?_
        refine lv_goto (tgt := 51) hx hb dX10_gateOf_13 (by decide) ?_
        exact r_Z hx hb hr hlocks hP hK hN hL hS (by decide) h dX10_gateOf_51
theorem dX10_many_0 : decode cX10_many 0 = .ok (.iconst 0, 1) := by decide +kernel
theorem dX10_many_1 : decode cX10_many 1 = .ok (.istore_n 1, 1) := by decide +kernel
theorem dX10_many_2 : decode cX10_many 2 = .ok (.iconst 0, 1) := by decide +kernel
theorem dX10_many_3 : decode cX10_many 3 = .ok (.istore_n 2, 1) := by decide +kernel
theorem dX10_many_4 : decode cX10_many 4 = .ok (.iload_n 2, 1) := by decide +kernel
theorem dX10_many_5 : decode cX10_many 5 = .ok (.bipush 32, 2) := by decide +kernel
theorem dX10_many_7 : decode cX10_many 7 = .ok (.if_icmp .ge 17, 3) := by decide +kernel
theorem dX10_many_10 : decode cX10_many 10 = .ok (.iload_n 1, 1) := by decide +kernel
theorem dX10_many_11 : decode cX10_many 11 = .ok (.iload_n 0, 1) := by decide +kernel
theorem dX10_many_12 : decode cX10_many 12 = .ok (.iload_n 2, 1) := by decide +kernel
theorem dX10_many_13 : decode cX10_many 13 = .ok (.iushr, 1) := by decide +kernel
theorem dX10_many_14 : decode cX10_many 14 = .ok (.iconst 1, 1) := by decide +kernel
theorem dX10_many_15 : decode cX10_many 15 = .ok (.iand, 1) := by decide +kernel
theorem dX10_many_16 : decode cX10_many 16 = .ok (.iadd, 1) := by decide +kernel
theorem dX10_many_17 : decode cX10_many 17 = .ok (.istore_n 1, 1) := by decide +kernel
theorem dX10_many_18 : decode cX10_many 18 = .ok (.iinc 2 1, 3) := by decide +kernel
theorem dX10_many_21 : decode cX10_many 21 = .ok (.goto (-17), 3) := by decide +kernel
theorem dX10_many_24 : decode cX10_many 24 = .ok (.iload_n 1, 1) := by decide +kernel
theorem dX10_many_25 : decode cX10_many 25 = .ok (.ireturn, 1) := by decide +kernel
set_option maxHeartbeats 4000000 in
set_option maxRecDepth 100000 in
theorem wX10_many_4 {p : Program} {l : Launch} {e : Env} {s : State} {m : MethodId} {args : Array Value} {below : List Frame} {meth : Method} {c : Code} (bs : Nat) (D : va_G) (y : Y3) (n : Nat) (k4_ : Int32 → Int32 → Int32 → MI → MJ → Option (Int32 × M2)) (r : Int32 × M2) (Gc : Gx p s m args meth c cX10_many 3 RX10 bs D y (some .int) 76) (hk4_ : ∀ (x0 : Int32) (x1 : Int32) (x2 : Int32) (I : MI) (J : MJ) (H : Heap) (locs : List Loc) (ls : Array Slot), va_P D vwCl (wl bs y I J) H → va_S (FA bs) s.heap H locs → lv_has ls 3 [(0, .int x0), (1, .int x1), (2, .int x2)] → k4_ x0 x1 x2 I J = some r → W p l e (rmm 0 0) s m args below meth c H locs 0 0 (QI below args s bs D y r) (F0 m 4 ls [])) (x0 : Int32) (x1 : Int32) (x2 : Int32) (I : MI) (J : MJ) (H : Heap) (locs : List Loc) (ls : Array Slot) (hP : va_P D vwCl (wl bs y I J) H) (hS : va_S (FA bs) s.heap H locs) (hl : lv_has ls 3 [(0, .int x0), (1, .int x1), (2, .int x2)]) (h : fX10_many_4 n k4_ x0 x1 x2 I J = some r) : W p l e (rmm 0 0) s m args below meth c H locs 0 0 (QI below args s bs D y r) (F0 m 4 ls []) := by
  obtain ⟨hx, hb, hml, hown, hts, hK, hN, hL, hr, hlocks, hcb⟩ := id Gc
  unfold fX10_many_4 at h
  refine lv_iload_n hx hb dX10_many_4 rfl (lv_at hl 2 rfl) ?_
  refine lv_bipush (v := (32 : Int32)) hx hb dX10_many_5 (by decide) ?_
  refine lv_icmp_ge (tgt := 24) hx hb dX10_many_7 (by decide) (fun c7 => ?_) (fun c7 => ?_)
  · replace h := if_t c7 h
    refine lv_iload_n hx hb dX10_many_24 rfl (lv_at hl 1 rfl) ?_
    exact r_I hx hb hr hlocks hP hK hN hL hS h dX10_many_25
  · replace h := if_f c7 h
    refine lv_iload_n hx hb dX10_many_10 rfl (lv_at hl 1 rfl) ?_
    refine lv_iload_n hx hb dX10_many_11 rfl (lv_at hl 0 rfl) ?_
    refine lv_iload_n hx hb dX10_many_12 rfl (lv_at hl 2 rfl) ?_
    refine lv_iushr (v := (ushrI x0 x2)) hx hb dX10_many_13 rfl ?_
    refine lv_iconst (v := (1 : Int32)) hx hb dX10_many_14 (by decide) ?_
    refine lv_iand hx hb dX10_many_15 ?_
    refine lv_iadd hx hb dX10_many_16 ?_
    obtain ⟨v17, ev17, h⟩ := lt_s1 h
    refine top_i ev17 ?_
    refine lv_istore_n (lv' := [(1, .int v17), (0, .int x0), (2, .int x2)]) hx hb dX10_many_17 rfl hl (by decide) rfl (fun ls hl => ?_)
    refine lv_iinc (v := (x2 + (1 : Int32))) (lv' := [(2, .int (x2 + (1 : Int32))), (1, .int v17), (0, .int x0)]) hx hb dX10_many_18 hl (k := 2) rfl rfl (by decide) rfl (fun ls hl => ?_)
    refine lv_goto (tgt := 4) hx hb dX10_many_21 (by decide) ?_
    exact hk4_ x0 v17 (x2 + (1 : Int32)) I J _ _ _ hP hS (lv_sub hl [2, 1, 0] rfl) h
theorem vX10_many_4 {p : Program} {l : Launch} {e : Env} {s : State} {m : MethodId} {args : Array Value} {below : List Frame} {meth : Method} {c : Code} (bs : Nat) (D : va_G) (y : Y3) (n : Nat) (r : Int32 × M2) (Gc : Gx p s m args meth c cX10_many 3 RX10 bs D y (some .int) 76)  : ∀ (q : Nat) (x0 : Int32) (x1 : Int32) (x2 : Int32) (I : MI) (J : MJ) (H : Heap) (locs : List Loc) (ls : Array Slot), va_P D vwCl (wl bs y I J) H → va_S (FA bs) s.heap H locs → lv_has ls 3 [(0, .int x0), (1, .int x1), (2, .int x2)] → lX10_many_4 n  q x0 x1 x2 I J = some r → W p l e (rmm 0 0) s m args below meth c H locs 0 0 (QI below args s bs D y r) (F0 m 4 ls []) := by
  intro q
  induction q with
  | zero =>
    intro x0 x1 x2 I J H locs ls hP hS hl h
    have h : (none : Option (Int32 × M2)) = some r := h
    cases h
  | succ q ih =>
    intro x0 x1 x2 I J H locs ls hP hS hl h
    have h : fX10_many_4 n  (lX10_many_4 n  q) x0 x1 x2 I J = some r := h
    exact wX10_many_4 bs D y n  (lX10_many_4 n  q) r Gc  ih x0 x1 x2 I J H locs ls hP hS hl h
set_option maxHeartbeats 4000000 in
set_option maxRecDepth 100000 in
theorem cX10_many_ (l : Launch) (bs : Nat) (D : va_G) (y : Y3) (hcb : 76 ≤ y.2.2.2) (n : Nat) (x0 : Int32) (I : MI) (J : MJ) (r : Int32 × M2) (h : fX10_many n x0 I J = some r) : Met l yX10_many (.code yX10_many cX10_many 3 (some .int) :: gtb) (rmm 0 0) (va_Pc [.int x0] (HB bs D y I J)) (QcI bs D y r) 0 0 (FA bs) := by
  refine Met.ofW (cc := cX10_many) (maxL := 3) (ret := (some .int)) (by decide) rfl ?_
  intro p e s m args below meth c s₁ B hml hv
  obtain ⟨rfl, hP, hK, hN, hL⟩ := hv
  have hx := B.exec
  have hb := B.bytes
  have hr := B.returns
  have hts0 := atoms_spec (ws := .code yX10_many cX10_many 3 (some .int) :: gtb) B.pre
  have hts : ∀ w ∈ gtb, w.before [.int x0].toArray s = true := fun w hw => hts0 w (List.mem_cons_of_mem _ hw)
  have hown : s.vm.findClass RX10 = some m.cls := findClass_of_methodNamed B.named
  have hlocks := B.notSynchronized
  have hS : va_S (FA bs) s.heap s.heap [] := va_S.rf
  have Gc : Gx p s m [.int x0].toArray meth c cX10_many 3 RX10 bs D y (some .int) 76 := ⟨hx, hb, hml, hown, hts, hK, hN, hL, hr, hlocks, hcb⟩
  have hl := lv_entry [.int x0] (n := 3) (Nat.le_of_ble_eq_true rfl)
  rw [lg_entry_eq]
  generalize (lg_sl [.int x0] ++ List.replicate (3 - (lg_sl [.int x0]).length) Slot.unset).toArray = ls at hl ⊢
  have hl : lv_has ls 3 [(0, .int x0)] := hl
  change W p l e (rmm 0 0) s m [.int x0].toArray below meth c s.heap [] 0 0 (QI below [.int x0].toArray s bs D y r) (F0 m 0 ls [])
  unfold fX10_many at h
  refine lv_iconst (v := (0 : Int32)) hx hb dX10_many_0 (by decide) ?_
  refine lv_istore_n (lv' := [(1, .int (0 : Int32)), (0, .int x0)]) hx hb dX10_many_1 rfl hl (by decide) rfl (fun ls hl => ?_)
  refine lv_iconst (v := (0 : Int32)) hx hb dX10_many_2 (by decide) ?_
  refine lv_istore_n (lv' := [(2, .int (0 : Int32)), (1, .int (0 : Int32)), (0, .int x0)]) hx hb dX10_many_3 rfl hl (by decide) rfl (fun ls hl => ?_)
  exact vX10_many_4 bs D y n  r Gc  n x0 (0 : Int32) (0 : Int32) I J _ _ _ hP hS (lv_sub hl [2, 1, 0] rfl) h
theorem dX10_depthOf_0 : decode cX10_depthOf 0 = .ok (.iconst 0, 1) := by decide +kernel
theorem dX10_depthOf_1 : decode cX10_depthOf 1 = .ok (.istore_n 2, 1) := by decide +kernel
theorem dX10_depthOf_2 : decode cX10_depthOf 2 = .ok (.iconst 0, 1) := by decide +kernel
theorem dX10_depthOf_3 : decode cX10_depthOf 3 = .ok (.istore_n 3, 1) := by decide +kernel
theorem dX10_depthOf_4 : decode cX10_depthOf 4 = .ok (.iload_n 3, 1) := by decide +kernel
theorem dX10_depthOf_5 : decode cX10_depthOf 5 = .ok (.bipush 32, 2) := by decide +kernel
theorem dX10_depthOf_7 : decode cX10_depthOf 7 = .ok (.if_icmp .ge 35, 3) := by decide +kernel
theorem dX10_depthOf_10 : decode cX10_depthOf 10 = .ok (.iload_n 1, 1) := by decide +kernel
theorem dX10_depthOf_11 : decode cX10_depthOf 11 = .ok (.iload_n 3, 1) := by decide +kernel
theorem dX10_depthOf_12 : decode cX10_depthOf 12 = .ok (.iushr, 1) := by decide +kernel
theorem dX10_depthOf_13 : decode cX10_depthOf 13 = .ok (.iconst 1, 1) := by decide +kernel
theorem dX10_depthOf_14 : decode cX10_depthOf 14 = .ok (.iand, 1) := by decide +kernel
theorem dX10_depthOf_15 : decode cX10_depthOf 15 = .ok (.iconst 1, 1) := by decide +kernel
theorem dX10_depthOf_16 : decode cX10_depthOf 16 = .ok (.if_icmp .ne 20, 3) := by decide +kernel
theorem dX10_depthOf_19 : decode cX10_depthOf 19 = .ok (.aload_n 0, 1) := by decide +kernel
theorem dX10_depthOf_20 : decode cX10_depthOf 20 = .ok (.getfield 38, 3) := by decide +kernel
theorem dX10_depthOf_23 : decode cX10_depthOf 23 = .ok (.iload_n 3, 1) := by decide +kernel
theorem dX10_depthOf_24 : decode cX10_depthOf 24 = .ok (.iaload, 1) := by decide +kernel
theorem dX10_depthOf_25 : decode cX10_depthOf 25 = .ok (.iload_n 2, 1) := by decide +kernel
theorem dX10_depthOf_26 : decode cX10_depthOf 26 = .ok (.if_icmp .le 10, 3) := by decide +kernel
theorem dX10_depthOf_29 : decode cX10_depthOf 29 = .ok (.aload_n 0, 1) := by decide +kernel
theorem dX10_depthOf_30 : decode cX10_depthOf 30 = .ok (.getfield 38, 3) := by decide +kernel
theorem dX10_depthOf_33 : decode cX10_depthOf 33 = .ok (.iload_n 3, 1) := by decide +kernel
theorem dX10_depthOf_34 : decode cX10_depthOf 34 = .ok (.iaload, 1) := by decide +kernel
theorem dX10_depthOf_35 : decode cX10_depthOf 35 = .ok (.istore_n 2, 1) := by decide +kernel
theorem dX10_depthOf_36 : decode cX10_depthOf 36 = .ok (.iinc 3 1, 3) := by decide +kernel
theorem dX10_depthOf_39 : decode cX10_depthOf 39 = .ok (.goto (-35), 3) := by decide +kernel
theorem dX10_depthOf_42 : decode cX10_depthOf 42 = .ok (.iconst 1, 1) := by decide +kernel
theorem dX10_depthOf_43 : decode cX10_depthOf 43 = .ok (.iload_n 2, 1) := by decide +kernel
theorem dX10_depthOf_44 : decode cX10_depthOf 44 = .ok (.iadd, 1) := by decide +kernel
theorem dX10_depthOf_45 : decode cX10_depthOf 45 = .ok (.ireturn, 1) := by decide +kernel
set_option maxHeartbeats 4000000 in
set_option maxRecDepth 100000 in
theorem wX10_depthOf_36 {p : Program} {l : Launch} {e : Env} {s : State} {m : MethodId} {args : Array Value} {below : List Frame} {meth : Method} {c : Code} (bs : Nat) (D : va_G) (y : Y3) (n : Nat) (k4_ : Int32 → Int32 → Int32 → MI → MJ → Option (Int32 × M2)) (r : Int32 × M2) (Gc : Gx p s m args meth c cX10_depthOf 4 RX10 bs D y (some .int) 76) (hk4_ : ∀ (x1 : Int32) (x2 : Int32) (x3 : Int32) (I : MI) (J : MJ) (H : Heap) (locs : List Loc) (ls : Array Slot), va_P D vwCl (wl bs y I J) H → va_S (FA bs) s.heap H locs → lv_has ls 4 [(0, .ref (bs + 44)), (1, .int x1), (2, .int x2), (3, .int x3)] → k4_ x1 x2 x3 I J = some r → W p l e (rmm 0 0) s m args below meth c H locs 0 0 (QI below args s bs D y r) (F0 m 4 ls [])) (x1 : Int32) (x2 : Int32) (x3 : Int32) (I : MI) (J : MJ) (H : Heap) (locs : List Loc) (ls : Array Slot) (hP : va_P D vwCl (wl bs y I J) H) (hS : va_S (FA bs) s.heap H locs) (hl : lv_has ls 4 [(0, .ref (bs + 44)), (1, .int x1), (2, .int x2), (3, .int x3)]) (h : fX10_depthOf_36 n k4_ x1 x2 x3 I J = some r) : W p l e (rmm 0 0) s m args below meth c H locs 0 0 (QI below args s bs D y r) (F0 m 36 ls []) := by
  obtain ⟨hx, hb, hml, hown, hts, hK, hN, hL, hr, hlocks, hcb⟩ := id Gc
  unfold fX10_depthOf_36 at h
  refine lv_iinc (v := (x3 + (1 : Int32))) (lv' := [(3, .int (x3 + (1 : Int32))), (0, .ref (bs + 44)), (1, .int x1), (2, .int x2)]) hx hb dX10_depthOf_36 hl (k := 3) rfl rfl (by decide) rfl (fun ls hl => ?_)
  refine lv_goto (tgt := 4) hx hb dX10_depthOf_39 (by decide) ?_
  exact hk4_ x1 x2 (x3 + (1 : Int32)) I J _ _ _ hP hS (lv_sub hl [1, 2, 3, 0] rfl) h
set_option maxHeartbeats 4000000 in
set_option maxRecDepth 100000 in
theorem wX10_depthOf_4 {p : Program} {l : Launch} {e : Env} {s : State} {m : MethodId} {args : Array Value} {below : List Frame} {meth : Method} {c : Code} (bs : Nat) (D : va_G) (y : Y3) (n : Nat) (k4_ : Int32 → Int32 → Int32 → MI → MJ → Option (Int32 × M2)) (r : Int32 × M2) (Gc : Gx p s m args meth c cX10_depthOf 4 RX10 bs D y (some .int) 76) (hk4_ : ∀ (x1 : Int32) (x2 : Int32) (x3 : Int32) (I : MI) (J : MJ) (H : Heap) (locs : List Loc) (ls : Array Slot), va_P D vwCl (wl bs y I J) H → va_S (FA bs) s.heap H locs → lv_has ls 4 [(0, .ref (bs + 44)), (1, .int x1), (2, .int x2), (3, .int x3)] → k4_ x1 x2 x3 I J = some r → W p l e (rmm 0 0) s m args below meth c H locs 0 0 (QI below args s bs D y r) (F0 m 4 ls [])) (x1 : Int32) (x2 : Int32) (x3 : Int32) (I : MI) (J : MJ) (H : Heap) (locs : List Loc) (ls : Array Slot) (hP : va_P D vwCl (wl bs y I J) H) (hS : va_S (FA bs) s.heap H locs) (hl : lv_has ls 4 [(0, .ref (bs + 44)), (1, .int x1), (2, .int x2), (3, .int x3)]) (h : fX10_depthOf_4 n k4_ x1 x2 x3 I J = some r) : W p l e (rmm 0 0) s m args below meth c H locs 0 0 (QI below args s bs D y r) (F0 m 4 ls []) := by
  obtain ⟨hx, hb, hml, hown, hts, hK, hN, hL, hr, hlocks, hcb⟩ := id Gc
  unfold fX10_depthOf_4 at h
  refine lv_iload_n hx hb dX10_depthOf_4 rfl (lv_at hl 3 rfl) ?_
  refine lv_bipush (v := (32 : Int32)) hx hb dX10_depthOf_5 (by decide) ?_
  refine lv_icmp_ge (tgt := 42) hx hb dX10_depthOf_7 (by decide) (fun c7 => ?_) (fun c7 => ?_)
  · replace h := if_t c7 h
    refine lv_iconst (v := (1 : Int32)) hx hb dX10_depthOf_42 (by decide) ?_
    refine lv_iload_n hx hb dX10_depthOf_43 rfl (lv_at hl 2 rfl) ?_
    refine lv_iadd hx hb dX10_depthOf_44 ?_
    exact r_I hx hb hr hlocks hP hK hN hL hS h dX10_depthOf_45
  · replace h := if_f c7 h
    refine lv_iload_n hx hb dX10_depthOf_10 rfl (lv_at hl 1 rfl) ?_
    refine lv_iload_n hx hb dX10_depthOf_11 rfl (lv_at hl 3 rfl) ?_
    refine lv_iushr (v := (ushrI x1 x3)) hx hb dX10_depthOf_12 rfl ?_
    refine lv_iconst (v := (1 : Int32)) hx hb dX10_depthOf_13 (by decide) ?_
    refine lv_iand hx hb dX10_depthOf_14 ?_
    refine lv_iconst (v := (1 : Int32)) hx hb dX10_depthOf_15 (by decide) ?_
    refine lv_icmp_ne (tgt := 36) hx hb dX10_depthOf_16 (by decide) (fun c16 => ?_) (fun c16 => ?_)
    · replace h := if_f c16 h
      exact wX10_depthOf_36 bs D y n k4_ r Gc hk4_ x1 x2 x3 I J _ _ _ hP hS (lv_sub hl [0, 1, 2, 3] rfl) h
    · replace h := if_t c16 h
      refine lv_aload_n hx hb dX10_depthOf_19 rfl (lv_at hl 0 rfl) ?_
      refine g_R (C := RX10) (T := TX10) (N := 49) (ci := 10) 44 18 54 hx hb hts hown hK hP in_X10 rfl hcb okF_44_18 rfc_44_18 fl_160 dX10_depthOf_20 ?_
      refine lv_iload_n hx hb dX10_depthOf_23 rfl (lv_at hl 3 rfl) ?_
      obtain ⟨hi24, h⟩ := if_s1 h
      refine a_I 54 hx hb hK hP hcb aln_54 hi24 dX10_depthOf_24 ?_
      refine lv_iload_n hx hb dX10_depthOf_25 rfl (lv_at hl 2 rfl) ?_
      refine lv_icmp_le (tgt := 36) hx hb dX10_depthOf_26 (by decide) (fun c26 => ?_) (fun c26 => ?_)
      · replace h := if_t c26 h
        exact wX10_depthOf_36 bs D y n k4_ r Gc hk4_ x1 x2 x3 I J _ _ _ hP hS (lv_sub hl [0, 1, 2, 3] rfl) h
      · replace h := if_f c26 h
        refine lv_aload_n hx hb dX10_depthOf_29 rfl (lv_at hl 0 rfl) ?_
        refine g_R (C := RX10) (T := TX10) (N := 49) (ci := 10) 44 18 54 hx hb hts hown hK hP in_X10 rfl hcb okF_44_18 rfc_44_18 fl_160 dX10_depthOf_30 ?_
        refine lv_iload_n hx hb dX10_depthOf_33 rfl (lv_at hl 3 rfl) ?_
        obtain ⟨hi34, h⟩ := if_s1 h
        refine a_I 54 hx hb hK hP hcb aln_54 hi34 dX10_depthOf_34 ?_
        obtain ⟨v35, ev35, h⟩ := lt_s1 h
        refine top_i ev35 ?_
        refine lv_istore_n (lv' := [(2, .int v35), (0, .ref (bs + 44)), (1, .int x1), (3, .int x3)]) hx hb dX10_depthOf_35 rfl hl (by decide) rfl (fun ls hl => ?_)
        exact wX10_depthOf_36 bs D y n k4_ r Gc hk4_ x1 v35 x3 I J _ _ _ hP hS (lv_sub hl [1, 2, 0, 3] rfl) h
theorem vX10_depthOf_4 {p : Program} {l : Launch} {e : Env} {s : State} {m : MethodId} {args : Array Value} {below : List Frame} {meth : Method} {c : Code} (bs : Nat) (D : va_G) (y : Y3) (n : Nat) (r : Int32 × M2) (Gc : Gx p s m args meth c cX10_depthOf 4 RX10 bs D y (some .int) 76)  : ∀ (q : Nat) (x1 : Int32) (x2 : Int32) (x3 : Int32) (I : MI) (J : MJ) (H : Heap) (locs : List Loc) (ls : Array Slot), va_P D vwCl (wl bs y I J) H → va_S (FA bs) s.heap H locs → lv_has ls 4 [(0, .ref (bs + 44)), (1, .int x1), (2, .int x2), (3, .int x3)] → lX10_depthOf_4 n  q x1 x2 x3 I J = some r → W p l e (rmm 0 0) s m args below meth c H locs 0 0 (QI below args s bs D y r) (F0 m 4 ls []) := by
  intro q
  induction q with
  | zero =>
    intro x1 x2 x3 I J H locs ls hP hS hl h
    have h : (none : Option (Int32 × M2)) = some r := h
    cases h
  | succ q ih =>
    intro x1 x2 x3 I J H locs ls hP hS hl h
    have h : fX10_depthOf_4 n  (lX10_depthOf_4 n  q) x1 x2 x3 I J = some r := h
    exact wX10_depthOf_4 bs D y n  (lX10_depthOf_4 n  q) r Gc  ih x1 x2 x3 I J H locs ls hP hS hl h
set_option maxHeartbeats 4000000 in
set_option maxRecDepth 100000 in
theorem cX10_depthOf_ (l : Launch) (bs : Nat) (D : va_G) (y : Y3) (hcb : 76 ≤ y.2.2.2) (n : Nat) (x1 : Int32) (I : MI) (J : MJ) (r : Int32 × M2) (h : fX10_depthOf n x1 I J = some r) : Met l yX10_depthOf (.code yX10_depthOf cX10_depthOf 4 (some .int) :: gtb) (rmm 0 0) (va_Pc [.ref (bs + 44), .int x1] (HB bs D y I J)) (QcI bs D y r) 0 0 (FA bs) := by
  refine Met.ofW (cc := cX10_depthOf) (maxL := 4) (ret := (some .int)) (by decide) rfl ?_
  intro p e s m args below meth c s₁ B hml hv
  obtain ⟨rfl, hP, hK, hN, hL⟩ := hv
  have hx := B.exec
  have hb := B.bytes
  have hr := B.returns
  have hts0 := atoms_spec (ws := .code yX10_depthOf cX10_depthOf 4 (some .int) :: gtb) B.pre
  have hts : ∀ w ∈ gtb, w.before [.ref (bs + 44), .int x1].toArray s = true := fun w hw => hts0 w (List.mem_cons_of_mem _ hw)
  have hown : s.vm.findClass RX10 = some m.cls := findClass_of_methodNamed B.named
  have hlocks := B.notSynchronized
  have hS : va_S (FA bs) s.heap s.heap [] := va_S.rf
  have Gc : Gx p s m [.ref (bs + 44), .int x1].toArray meth c cX10_depthOf 4 RX10 bs D y (some .int) 76 := ⟨hx, hb, hml, hown, hts, hK, hN, hL, hr, hlocks, hcb⟩
  have hl := lv_entry [.ref (bs + 44), .int x1] (n := 4) (Nat.le_of_ble_eq_true rfl)
  rw [lg_entry_eq]
  generalize (lg_sl [.ref (bs + 44), .int x1] ++ List.replicate (4 - (lg_sl [.ref (bs + 44), .int x1]).length) Slot.unset).toArray = ls at hl ⊢
  have hl : lv_has ls 4 [(0, .ref (bs + 44)), (1, .int x1)] := hl
  change W p l e (rmm 0 0) s m [.ref (bs + 44), .int x1].toArray below meth c s.heap [] 0 0 (QI below [.ref (bs + 44), .int x1].toArray s bs D y r) (F0 m 0 ls [])
  unfold fX10_depthOf at h
  refine lv_iconst (v := (0 : Int32)) hx hb dX10_depthOf_0 (by decide) ?_
  refine lv_istore_n (lv' := [(2, .int (0 : Int32)), (0, .ref (bs + 44)), (1, .int x1)]) hx hb dX10_depthOf_1 rfl hl (by decide) rfl (fun ls hl => ?_)
  refine lv_iconst (v := (0 : Int32)) hx hb dX10_depthOf_2 (by decide) ?_
  refine lv_istore_n (lv' := [(3, .int (0 : Int32)), (2, .int (0 : Int32)), (0, .ref (bs + 44)), (1, .int x1)]) hx hb dX10_depthOf_3 rfl hl (by decide) rfl (fun ls hl => ?_)
  exact vX10_depthOf_4 bs D y n  r Gc  n x1 (0 : Int32) (0 : Int32) I J _ _ _ hP hS (lv_sub hl [2, 3, 1, 0] rfl) h
theorem dX10_isAhead_0 : decode cX10_isAhead 0 = .ok (.aload_n 0, 1) := by decide +kernel
theorem dX10_isAhead_1 : decode cX10_isAhead 1 = .ok (.iload_n 1, 1) := by decide +kernel
theorem dX10_isAhead_2 : decode cX10_isAhead 2 = .ok (.invokevirtual 180, 3) := by decide +kernel
theorem dX10_isAhead_5 : decode cX10_isAhead 5 = .ok (.istore_n 3, 1) := by decide +kernel
theorem dX10_isAhead_6 : decode cX10_isAhead 6 = .ok (.aload_n 0, 1) := by decide +kernel
theorem dX10_isAhead_7 : decode cX10_isAhead 7 = .ok (.iload_n 2, 1) := by decide +kernel
theorem dX10_isAhead_8 : decode cX10_isAhead 8 = .ok (.invokevirtual 180, 3) := by decide +kernel
theorem dX10_isAhead_11 : decode cX10_isAhead 11 = .ok (.istore 4, 2) := by decide +kernel
theorem dX10_isAhead_13 : decode cX10_isAhead 13 = .ok (.iload_n 3, 1) := by decide +kernel
theorem dX10_isAhead_14 : decode cX10_isAhead 14 = .ok (.iload 4, 2) := by decide +kernel
theorem dX10_isAhead_16 : decode cX10_isAhead 16 = .ok (.if_icmp .eq 15, 3) := by decide +kernel
theorem dX10_isAhead_19 : decode cX10_isAhead 19 = .ok (.iload_n 3, 1) := by decide +kernel
theorem dX10_isAhead_20 : decode cX10_isAhead 20 = .ok (.iload 4, 2) := by decide +kernel
theorem dX10_isAhead_22 : decode cX10_isAhead 22 = .ok (.if_icmp .ge 7, 3) := by decide +kernel
theorem dX10_isAhead_25 : decode cX10_isAhead 25 = .ok (.iconst 1, 1) := by decide +kernel
theorem dX10_isAhead_26 : decode cX10_isAhead 26 = .ok (.goto 4, 3) := by decide +kernel
theorem dX10_isAhead_29 : decode cX10_isAhead 29 = .ok (.iconst 0, 1) := by decide +kernel
theorem dX10_isAhead_30 : decode cX10_isAhead 30 = .ok (.ireturn, 1) := by decide +kernel
theorem dX10_isAhead_31 : decode cX10_isAhead 31 = .ok (.iload_n 1, 1) := by decide +kernel
theorem dX10_isAhead_32 : decode cX10_isAhead 32 = .ok (.invokestatic 183, 3) := by decide +kernel
theorem dX10_isAhead_35 : decode cX10_isAhead 35 = .ok (.iload_n 2, 1) := by decide +kernel
theorem dX10_isAhead_36 : decode cX10_isAhead 36 = .ok (.invokestatic 183, 3) := by decide +kernel
theorem dX10_isAhead_39 : decode cX10_isAhead 39 = .ok (.if_icmp .eq 20, 3) := by decide +kernel
theorem dX10_isAhead_42 : decode cX10_isAhead 42 = .ok (.iload_n 1, 1) := by decide +kernel
theorem dX10_isAhead_43 : decode cX10_isAhead 43 = .ok (.invokestatic 183, 3) := by decide +kernel
theorem dX10_isAhead_46 : decode cX10_isAhead 46 = .ok (.iload_n 2, 1) := by decide +kernel
theorem dX10_isAhead_47 : decode cX10_isAhead 47 = .ok (.invokestatic 183, 3) := by decide +kernel
theorem dX10_isAhead_50 : decode cX10_isAhead 50 = .ok (.if_icmp .ge 7, 3) := by decide +kernel
theorem dX10_isAhead_53 : decode cX10_isAhead 53 = .ok (.iconst 1, 1) := by decide +kernel
theorem dX10_isAhead_54 : decode cX10_isAhead 54 = .ok (.goto 4, 3) := by decide +kernel
theorem dX10_isAhead_57 : decode cX10_isAhead 57 = .ok (.iconst 0, 1) := by decide +kernel
theorem dX10_isAhead_58 : decode cX10_isAhead 58 = .ok (.ireturn, 1) := by decide +kernel
theorem dX10_isAhead_59 : decode cX10_isAhead 59 = .ok (.iload_n 1, 1) := by decide +kernel
theorem dX10_isAhead_60 : decode cX10_isAhead 60 = .ok (.i2l, 1) := by decide +kernel
theorem dX10_isAhead_61 : decode cX10_isAhead 61 = .ok (.ldc2_w 186, 3) := by decide +kernel
theorem dX10_isAhead_64 : decode cX10_isAhead 64 = .ok (.land, 1) := by decide +kernel
theorem dX10_isAhead_65 : decode cX10_isAhead 65 = .ok (.iload_n 2, 1) := by decide +kernel
theorem dX10_isAhead_66 : decode cX10_isAhead 66 = .ok (.i2l, 1) := by decide +kernel
theorem dX10_isAhead_67 : decode cX10_isAhead 67 = .ok (.ldc2_w 186, 3) := by decide +kernel
theorem dX10_isAhead_70 : decode cX10_isAhead 70 = .ok (.land, 1) := by decide +kernel
theorem dX10_isAhead_71 : decode cX10_isAhead 71 = .ok (.lcmp, 1) := by decide +kernel
theorem dX10_isAhead_72 : decode cX10_isAhead 72 = .ok (.ifCond .ge 7, 3) := by decide +kernel
theorem dX10_isAhead_75 : decode cX10_isAhead 75 = .ok (.iconst 1, 1) := by decide +kernel
theorem dX10_isAhead_76 : decode cX10_isAhead 76 = .ok (.goto 4, 3) := by decide +kernel
theorem dX10_isAhead_79 : decode cX10_isAhead 79 = .ok (.iconst 0, 1) := by decide +kernel
theorem dX10_isAhead_80 : decode cX10_isAhead 80 = .ok (.ireturn, 1) := by decide +kernel
set_option maxHeartbeats 4000000 in
set_option maxRecDepth 100000 in
theorem cX10_isAhead_ (l : Launch) (bs : Nat) (D : va_G) (y : Y3) (hcb : 76 ≤ y.2.2.2) (n : Nat) (x1 : Int32) (x2 : Int32) (I : MI) (J : MJ) (r : Int32 × M2) (h : fX10_isAhead n x1 x2 I J = some r) : Met l yX10_isAhead (.code yX10_isAhead cX10_isAhead 5 (some .boolean) :: gtb) (rmm 1 23) (va_Pc [.ref (bs + 44), .int x1, .int x2] (HB bs D y I J)) (QcI bs D y r) 0 0 (FA bs) := by
  refine Met.ofW (cc := cX10_isAhead) (maxL := 5) (ret := (some .boolean)) (by decide) rfl ?_
  intro p e s m args below meth c s₁ B hml hv
  obtain ⟨rfl, hP, hK, hN, hL⟩ := hv
  have hx := B.exec
  have hb := B.bytes
  have hr := B.returns
  have hts0 := atoms_spec (ws := .code yX10_isAhead cX10_isAhead 5 (some .boolean) :: gtb) B.pre
  have hts : ∀ w ∈ gtb, w.before [.ref (bs + 44), .int x1, .int x2].toArray s = true := fun w hw => hts0 w (List.mem_cons_of_mem _ hw)
  have hown : s.vm.findClass RX10 = some m.cls := findClass_of_methodNamed B.named
  have hlocks := B.notSynchronized
  have hS : va_S (FA bs) s.heap s.heap [] := va_S.rf
  have Gc : Gx p s m [.ref (bs + 44), .int x1, .int x2].toArray meth c cX10_isAhead 5 RX10 bs D y (some .boolean) 76 := ⟨hx, hb, hml, hown, hts, hK, hN, hL, hr, hlocks, hcb⟩
  have hl := lv_entry [.ref (bs + 44), .int x1, .int x2] (n := 5) (Nat.le_of_ble_eq_true rfl)
  rw [lg_entry_eq]
  generalize (lg_sl [.ref (bs + 44), .int x1, .int x2] ++ List.replicate (5 - (lg_sl [.ref (bs + 44), .int x1, .int x2]).length) Slot.unset).toArray = ls at hl ⊢
  have hl : lv_has ls 5 [(0, .ref (bs + 44)), (1, .int x1), (2, .int x2)] := hl
  change W p l e (rmm 1 23) s m [.ref (bs + 44), .int x1, .int x2].toArray below meth c s.heap [] 0 0 (QI below [.ref (bs + 44), .int x1, .int x2].toArray s bs D y r) (F0 m 0 ls [])
  unfold fX10_isAhead at h
  refine lv_aload_n hx hb dX10_isAhead_0 rfl (lv_at hl 0 rfl) ?_
  refine lv_iload_n hx hb dX10_isAhead_1 rfl (lv_at hl 1 rfl) ?_
  obtain ⟨r2, er2, h⟩ := bd_s1 h
  refine c_VI (k := 44) (ci := 10) (As := [.int x1]) (rest := []) hx hb hml hown hts hK hN hL hP hS (cX10_depthOf_ l bs D y hcb n x1 I J r2 er2) ok_X10_depthOf ov_X10_depthOf ml_123 ⟨Nat.le_of_ble_eq_true rfl, Nat.le_of_ble_eq_true rfl⟩ rfl hcb kd_44 hl.1 rfl rfl (Nat.le_of_ble_eq_true rfl) ⟨Nat.zero_le _, Nat.zero_le _⟩ dX10_isAhead_2 (fun H locs hP hS => ?_)
  obtain ⟨v5, ev5, h⟩ := lt_s1 h
  refine top_i ev5 ?_
  refine lv_istore_n (lv' := [(3, .int v5), (0, .ref (bs + 44)), (1, .int x1), (2, .int x2)]) hx hb dX10_isAhead_5 rfl hl (by decide) rfl (fun ls hl => ?_)
  refine lv_aload_n hx hb dX10_isAhead_6 rfl (lv_at hl 1 rfl) ?_
  refine lv_iload_n hx hb dX10_isAhead_7 rfl (lv_at hl 3 rfl) ?_
  obtain ⟨r8, er8, h⟩ := bd_s1 h
  refine c_VI (k := 44) (ci := 10) (As := [.int x2]) (rest := []) hx hb hml hown hts hK hN hL hP hS (cX10_depthOf_ l bs D y hcb n x2 r2.2.1 r2.2.2 r8 er8) ok_X10_depthOf ov_X10_depthOf ml_123 ⟨Nat.le_of_ble_eq_true rfl, Nat.le_of_ble_eq_true rfl⟩ rfl hcb kd_44 hl.1 rfl rfl (Nat.le_of_ble_eq_true rfl) ⟨Nat.zero_le _, Nat.zero_le _⟩ dX10_isAhead_8 (fun H locs hP hS => ?_)
  obtain ⟨v11, ev11, h⟩ := lt_s1 h
  refine top_i ev11 ?_
  refine lv_istore (lv' := [(4, .int v11), (3, .int v5), (0, .ref (bs + 44)), (1, .int x1), (2, .int x2)]) hx hb dX10_isAhead_11 hl (by decide) rfl (fun ls hl => ?_)
  refine lv_iload_n hx hb dX10_isAhead_13 rfl (lv_at hl 1 rfl) ?_
  refine lv_iload hx hb dX10_isAhead_14 (lv_at hl 0 rfl) ?_
  refine lv_icmp_eq (tgt := 31) hx hb dX10_isAhead_16 (by decide) (fun c16 => ?_) (fun c16 => ?_)
  · replace h := if_t c16 h
    refine lv_iload_n hx hb dX10_isAhead_31 rfl (lv_at hl 3 rfl) ?_
    obtain ⟨r32, er32, h⟩ := bd_s1 h
    refine c_SI (As := [.int x1]) (rest := []) hx hb hml hown hts hK hN hL hP hS (cX10_many_ l bs D y hcb n x1 r8.2.1 r8.2.2 r32 er32) ok_X10_many ov_X10_many ml_124 ⟨Nat.le_of_ble_eq_true rfl, Nat.le_of_ble_eq_true rfl⟩ hl.1 rfl rfl (Nat.le_of_ble_eq_true rfl) ⟨Nat.zero_le _, Nat.zero_le _⟩ dX10_isAhead_32 (fun H locs hP hS => ?_)
    refine lv_iload_n hx hb dX10_isAhead_35 rfl (lv_at hl 4 rfl) ?_
    obtain ⟨r36, er36, h⟩ := bd_s1 h
    refine c_SI (As := [.int x2]) (rest := [.int r32.1]) hx hb hml hown hts hK hN hL hP hS (cX10_many_ l bs D y hcb n x2 r32.2.1 r32.2.2 r36 er36) ok_X10_many ov_X10_many ml_124 ⟨Nat.le_of_ble_eq_true rfl, Nat.le_of_ble_eq_true rfl⟩ hl.1 rfl rfl (Nat.le_of_ble_eq_true rfl) ⟨Nat.zero_le _, Nat.zero_le _⟩ dX10_isAhead_36 (fun H locs hP hS => ?_)
    refine lv_icmp_eq (tgt := 59) hx hb dX10_isAhead_39 (by decide) (fun c39 => ?_) (fun c39 => ?_)
    · replace h := if_t c39 h
      refine lv_iload_n hx hb dX10_isAhead_59 rfl (lv_at hl 3 rfl) ?_
      refine lv_i2l (v := (x1).toInt64) hx hb dX10_isAhead_60 rfl ?_
      refine lv_ldc2 hx hb hown (hts _ cl_11) dX10_isAhead_61 ?_
      refine lv_land hx hb dX10_isAhead_64 ?_
      refine lv_iload_n hx hb dX10_isAhead_65 rfl (lv_at hl 4 rfl) ?_
      refine lv_i2l (v := (x2).toInt64) hx hb dX10_isAhead_66 rfl ?_
      refine lv_ldc2 hx hb hown (hts _ cl_11) dX10_isAhead_67 ?_
      refine lv_land hx hb dX10_isAhead_70 ?_
      refine W.lcmp hx hb dX10_isAhead_71 ?_
      refine lv_if_ge (tgt := 79) hx hb dX10_isAhead_72 (by decide) (fun c72 => ?_) (fun c72 => ?_)
      · replace h := if_t c72 h
        refine lv_iconst (v := (0 : Int32)) hx hb dX10_isAhead_79 (by decide) ?_
        exact r_Z hx hb hr hlocks hP hK hN hL hS (by decide) h dX10_isAhead_80
      · replace h := if_f c72 h
        refine lv_iconst (v := (1 : Int32)) hx hb dX10_isAhead_75 (by decide) ?_
        refine lv_goto (tgt := 80) hx hb dX10_isAhead_76 (by decide) ?_
        exact r_Z hx hb hr hlocks hP hK hN hL hS (by decide) h dX10_isAhead_80
    · replace h := if_f c39 h
      refine lv_iload_n hx hb dX10_isAhead_42 rfl (lv_at hl 3 rfl) ?_
      obtain ⟨r43, er43, h⟩ := bd_s1 h
      refine c_SI (As := [.int x1]) (rest := []) hx hb hml hown hts hK hN hL hP hS (cX10_many_ l bs D y hcb n x1 r36.2.1 r36.2.2 r43 er43) ok_X10_many ov_X10_many ml_124 ⟨Nat.le_of_ble_eq_true rfl, Nat.le_of_ble_eq_true rfl⟩ hl.1 rfl rfl (Nat.le_of_ble_eq_true rfl) ⟨Nat.zero_le _, Nat.zero_le _⟩ dX10_isAhead_43 (fun H locs hP hS => ?_)
      refine lv_iload_n hx hb dX10_isAhead_46 rfl (lv_at hl 4 rfl) ?_
      obtain ⟨r47, er47, h⟩ := bd_s1 h
      refine c_SI (As := [.int x2]) (rest := [.int r43.1]) hx hb hml hown hts hK hN hL hP hS (cX10_many_ l bs D y hcb n x2 r43.2.1 r43.2.2 r47 er47) ok_X10_many ov_X10_many ml_124 ⟨Nat.le_of_ble_eq_true rfl, Nat.le_of_ble_eq_true rfl⟩ hl.1 rfl rfl (Nat.le_of_ble_eq_true rfl) ⟨Nat.zero_le _, Nat.zero_le _⟩ dX10_isAhead_47 (fun H locs hP hS => ?_)
      refine lv_icmp_ge (tgt := 57) hx hb dX10_isAhead_50 (by decide) (fun c50 => ?_) (fun c50 => ?_)
      · replace h := if_t c50 h
        refine lv_iconst (v := (0 : Int32)) hx hb dX10_isAhead_57 (by decide) ?_
        exact r_Z hx hb hr hlocks hP hK hN hL hS (by decide) h dX10_isAhead_58
      · replace h := if_f c50 h
        refine lv_iconst (v := (1 : Int32)) hx hb dX10_isAhead_53 (by decide) ?_
        refine lv_goto (tgt := 58) hx hb dX10_isAhead_54 (by decide) ?_
        exact r_Z hx hb hr hlocks hP hK hN hL hS (by decide) h dX10_isAhead_58
  · replace h := if_f c16 h
    refine lv_iload_n hx hb dX10_isAhead_19 rfl (lv_at hl 1 rfl) ?_
    refine lv_iload hx hb dX10_isAhead_20 (lv_at hl 0 rfl) ?_
    refine lv_icmp_ge (tgt := 29) hx hb dX10_isAhead_22 (by decide) (fun c22 => ?_) (fun c22 => ?_)
    · replace h := if_t c22 h
      refine lv_iconst (v := (0 : Int32)) hx hb dX10_isAhead_29 (by decide) ?_
      exact r_Z hx hb hr hlocks hP hK hN hL hS (by decide) h dX10_isAhead_30
    · replace h := if_f c22 h
      refine lv_iconst (v := (1 : Int32)) hx hb dX10_isAhead_25 (by decide) ?_
      refine lv_goto (tgt := 30) hx hb dX10_isAhead_26 (by decide) ?_
      exact r_Z hx hb hr hlocks hP hK hN hL hS (by decide) h dX10_isAhead_30
theorem dX10_enters_0 : decode cX10_enters 0 = .ok (.bipush 40, 2) := by decide +kernel
theorem dX10_enters_2 : decode cX10_enters 2 = .ok (.iload_n 1, 1) := by decide +kernel
theorem dX10_enters_3 : decode cX10_enters 3 = .ok (.imul, 1) := by decide +kernel
theorem dX10_enters_4 : decode cX10_enters 4 = .ok (.istore_n 3, 1) := by decide +kernel
theorem dX10_enters_5 : decode cX10_enters 5 = .ok (.iconst 0, 1) := by decide +kernel
theorem dX10_enters_6 : decode cX10_enters 6 = .ok (.istore 4, 2) := by decide +kernel
theorem dX10_enters_8 : decode cX10_enters 8 = .ok (.iload 4, 2) := by decide +kernel
theorem dX10_enters_10 : decode cX10_enters 10 = .ok (.aload_n 0, 1) := by decide +kernel
theorem dX10_enters_11 : decode cX10_enters 11 = .ok (.getfield 35, 3) := by decide +kernel
theorem dX10_enters_14 : decode cX10_enters 14 = .ok (.iload_n 1, 1) := by decide +kernel
theorem dX10_enters_15 : decode cX10_enters 15 = .ok (.iaload, 1) := by decide +kernel
theorem dX10_enters_16 : decode cX10_enters 16 = .ok (.if_icmp .ge 26, 3) := by decide +kernel
theorem dX10_enters_19 : decode cX10_enters 19 = .ok (.aload_n 0, 1) := by decide +kernel
theorem dX10_enters_20 : decode cX10_enters 20 = .ok (.aload_n 0, 1) := by decide +kernel
theorem dX10_enters_21 : decode cX10_enters 21 = .ok (.getfield 32, 3) := by decide +kernel
theorem dX10_enters_24 : decode cX10_enters 24 = .ok (.iload_n 3, 1) := by decide +kernel
theorem dX10_enters_25 : decode cX10_enters 25 = .ok (.iload 4, 2) := by decide +kernel
theorem dX10_enters_27 : decode cX10_enters 27 = .ok (.iadd, 1) := by decide +kernel
theorem dX10_enters_28 : decode cX10_enters 28 = .ok (.iaload, 1) := by decide +kernel
theorem dX10_enters_29 : decode cX10_enters 29 = .ok (.iload_n 2, 1) := by decide +kernel
theorem dX10_enters_30 : decode cX10_enters 30 = .ok (.invokevirtual 188, 3) := by decide +kernel
theorem dX10_enters_33 : decode cX10_enters 33 = .ok (.ifCond .eq 9, 3) := by decide +kernel
theorem dX10_enters_36 : decode cX10_enters 36 = .ok (.iinc 4 1, 3) := by decide +kernel
theorem dX10_enters_39 : decode cX10_enters 39 = .ok (.goto (-31), 3) := by decide +kernel
theorem dX10_enters_42 : decode cX10_enters 42 = .ok (.iload 4, 2) := by decide +kernel
theorem dX10_enters_44 : decode cX10_enters 44 = .ok (.aload_n 0, 1) := by decide +kernel
theorem dX10_enters_45 : decode cX10_enters 45 = .ok (.getfield 35, 3) := by decide +kernel
theorem dX10_enters_48 : decode cX10_enters 48 = .ok (.iload_n 1, 1) := by decide +kernel
theorem dX10_enters_49 : decode cX10_enters 49 = .ok (.iaload, 1) := by decide +kernel
theorem dX10_enters_50 : decode cX10_enters 50 = .ok (.if_icmp .ge 16, 3) := by decide +kernel
theorem dX10_enters_53 : decode cX10_enters 53 = .ok (.aload_n 0, 1) := by decide +kernel
theorem dX10_enters_54 : decode cX10_enters 54 = .ok (.getfield 32, 3) := by decide +kernel
theorem dX10_enters_57 : decode cX10_enters 57 = .ok (.iload_n 3, 1) := by decide +kernel
theorem dX10_enters_58 : decode cX10_enters 58 = .ok (.iload 4, 2) := by decide +kernel
theorem dX10_enters_60 : decode cX10_enters 60 = .ok (.iadd, 1) := by decide +kernel
theorem dX10_enters_61 : decode cX10_enters 61 = .ok (.iaload, 1) := by decide +kernel
theorem dX10_enters_62 : decode cX10_enters 62 = .ok (.iload_n 2, 1) := by decide +kernel
theorem dX10_enters_63 : decode cX10_enters 63 = .ok (.if_icmp .eq 10, 3) := by decide +kernel
theorem dX10_enters_66 : decode cX10_enters 66 = .ok (.iload 4, 2) := by decide +kernel
theorem dX10_enters_68 : decode cX10_enters 68 = .ok (.bipush 40, 2) := by decide +kernel
theorem dX10_enters_70 : decode cX10_enters 70 = .ok (.if_icmp .ne 4, 3) := by decide +kernel
theorem dX10_enters_73 : decode cX10_enters 73 = .ok (.return_, 1) := by decide +kernel
theorem dX10_enters_74 : decode cX10_enters 74 = .ok (.aload_n 0, 1) := by decide +kernel
theorem dX10_enters_75 : decode cX10_enters 75 = .ok (.getfield 35, 3) := by decide +kernel
theorem dX10_enters_78 : decode cX10_enters 78 = .ok (.iload_n 1, 1) := by decide +kernel
theorem dX10_enters_79 : decode cX10_enters 79 = .ok (.iaload, 1) := by decide +kernel
theorem dX10_enters_80 : decode cX10_enters 80 = .ok (.bipush 40, 2) := by decide +kernel
theorem dX10_enters_82 : decode cX10_enters 82 = .ok (.if_icmp .ge 13, 3) := by decide +kernel
theorem dX10_enters_85 : decode cX10_enters 85 = .ok (.aload_n 0, 1) := by decide +kernel
theorem dX10_enters_86 : decode cX10_enters 86 = .ok (.getfield 35, 3) := by decide +kernel
theorem dX10_enters_89 : decode cX10_enters 89 = .ok (.iload_n 1, 1) := by decide +kernel
theorem dX10_enters_90 : decode cX10_enters 90 = .ok (.dup2, 1) := by decide +kernel
theorem dX10_enters_91 : decode cX10_enters 91 = .ok (.iaload, 1) := by decide +kernel
theorem dX10_enters_92 : decode cX10_enters 92 = .ok (.iconst 1, 1) := by decide +kernel
theorem dX10_enters_93 : decode cX10_enters 93 = .ok (.iadd, 1) := by decide +kernel
theorem dX10_enters_94 : decode cX10_enters 94 = .ok (.iastore, 1) := by decide +kernel
theorem dX10_enters_95 : decode cX10_enters 95 = .ok (.aload_n 0, 1) := by decide +kernel
theorem dX10_enters_96 : decode cX10_enters 96 = .ok (.getfield 35, 3) := by decide +kernel
theorem dX10_enters_99 : decode cX10_enters 99 = .ok (.iload_n 1, 1) := by decide +kernel
theorem dX10_enters_100 : decode cX10_enters 100 = .ok (.iaload, 1) := by decide +kernel
theorem dX10_enters_101 : decode cX10_enters 101 = .ok (.iconst 1, 1) := by decide +kernel
theorem dX10_enters_102 : decode cX10_enters 102 = .ok (.isub, 1) := by decide +kernel
theorem dX10_enters_103 : decode cX10_enters 103 = .ok (.istore 5, 2) := by decide +kernel
theorem dX10_enters_105 : decode cX10_enters 105 = .ok (.iload 5, 2) := by decide +kernel
theorem dX10_enters_107 : decode cX10_enters 107 = .ok (.iload 4, 2) := by decide +kernel
theorem dX10_enters_109 : decode cX10_enters 109 = .ok (.if_icmp .le 29, 3) := by decide +kernel
theorem dX10_enters_112 : decode cX10_enters 112 = .ok (.aload_n 0, 1) := by decide +kernel
theorem dX10_enters_113 : decode cX10_enters 113 = .ok (.getfield 32, 3) := by decide +kernel
theorem dX10_enters_116 : decode cX10_enters 116 = .ok (.iload_n 3, 1) := by decide +kernel
theorem dX10_enters_117 : decode cX10_enters 117 = .ok (.iload 5, 2) := by decide +kernel
theorem dX10_enters_119 : decode cX10_enters 119 = .ok (.iadd, 1) := by decide +kernel
theorem dX10_enters_120 : decode cX10_enters 120 = .ok (.aload_n 0, 1) := by decide +kernel
theorem dX10_enters_121 : decode cX10_enters 121 = .ok (.getfield 32, 3) := by decide +kernel
theorem dX10_enters_124 : decode cX10_enters 124 = .ok (.iload_n 3, 1) := by decide +kernel
theorem dX10_enters_125 : decode cX10_enters 125 = .ok (.iload 5, 2) := by decide +kernel
theorem dX10_enters_127 : decode cX10_enters 127 = .ok (.iadd, 1) := by decide +kernel
theorem dX10_enters_128 : decode cX10_enters 128 = .ok (.iconst 1, 1) := by decide +kernel
theorem dX10_enters_129 : decode cX10_enters 129 = .ok (.isub, 1) := by decide +kernel
theorem dX10_enters_130 : decode cX10_enters 130 = .ok (.iaload, 1) := by decide +kernel
theorem dX10_enters_131 : decode cX10_enters 131 = .ok (.iastore, 1) := by decide +kernel
theorem dX10_enters_132 : decode cX10_enters 132 = .ok (.iinc 5 (-1), 3) := by decide +kernel
theorem dX10_enters_135 : decode cX10_enters 135 = .ok (.goto (-30), 3) := by decide +kernel
theorem dX10_enters_138 : decode cX10_enters 138 = .ok (.aload_n 0, 1) := by decide +kernel
theorem dX10_enters_139 : decode cX10_enters 139 = .ok (.getfield 32, 3) := by decide +kernel
theorem dX10_enters_142 : decode cX10_enters 142 = .ok (.iload_n 3, 1) := by decide +kernel
theorem dX10_enters_143 : decode cX10_enters 143 = .ok (.iload 4, 2) := by decide +kernel
theorem dX10_enters_145 : decode cX10_enters 145 = .ok (.iadd, 1) := by decide +kernel
theorem dX10_enters_146 : decode cX10_enters 146 = .ok (.iload_n 2, 1) := by decide +kernel
theorem dX10_enters_147 : decode cX10_enters 147 = .ok (.iastore, 1) := by decide +kernel
theorem dX10_enters_148 : decode cX10_enters 148 = .ok (.return_, 1) := by decide +kernel
set_option maxHeartbeats 4000000 in
set_option maxRecDepth 100000 in
theorem wX10_enters_105 {p : Program} {l : Launch} {e : Env} {s : State} {m : MethodId} {args : Array Value} {below : List Frame} {meth : Method} {c : Code} (bs : Nat) (D : va_G) (y : Y3) (n : Nat) (k105_ : Int32 → Int32 → Int32 → Int32 → MI → MJ → Option (M2)) (r : M2) (Gc : Gx p s m args meth c cX10_enters 6 RX10 bs D y none 76) (hk105_ : ∀ (x2 : Int32) (x3 : Int32) (x4 : Int32) (x5 : Int32) (I : MI) (J : MJ) (H : Heap) (locs : List Loc) (ls : Array Slot), va_P D vwCl (wl bs y I J) H → va_S (FA bs) s.heap H locs → lv_has ls 6 [(0, .ref (bs + 44)), (2, .int x2), (3, .int x3), (4, .int x4), (5, .int x5)] → k105_ x2 x3 x4 x5 I J = some r → W p l e (rmm 2 47) s m args below meth c H locs 0 0 (QV below args s bs D y r) (F0 m 105 ls [])) (x2 : Int32) (x3 : Int32) (x4 : Int32) (x5 : Int32) (I : MI) (J : MJ) (H : Heap) (locs : List Loc) (ls : Array Slot) (hP : va_P D vwCl (wl bs y I J) H) (hS : va_S (FA bs) s.heap H locs) (hl : lv_has ls 6 [(0, .ref (bs + 44)), (2, .int x2), (3, .int x3), (4, .int x4), (5, .int x5)]) (h : fX10_enters_105 n k105_ x2 x3 x4 x5 I J = some r) : W p l e (rmm 2 47) s m args below meth c H locs 0 0 (QV below args s bs D y r) (F0 m 105 ls []) := by
  obtain ⟨hx, hb, hml, hown, hts, hK, hN, hL, hr, hlocks, hcb⟩ := id Gc
  unfold fX10_enters_105 at h
  refine lv_iload hx hb dX10_enters_105 (lv_at hl 4 rfl) ?_
  refine lv_iload hx hb dX10_enters_107 (lv_at hl 3 rfl) ?_
  refine lv_icmp_le (tgt := 138) hx hb dX10_enters_109 (by decide) (fun c109 => ?_) (fun c109 => ?_)
  · replace h := if_t c109 h
    refine lv_aload_n hx hb dX10_enters_138 rfl (lv_at hl 0 rfl) ?_
    refine g_R (C := RX10) (T := TX10) (N := 49) (ci := 10) 44 16 52 hx hb hts hown hK hP in_X10 rfl hcb okF_44_16 rfc_44_16 fl_161 dX10_enters_139 ?_
    refine lv_iload_n hx hb dX10_enters_142 rfl (lv_at hl 2 rfl) ?_
    refine lv_iload hx hb dX10_enters_143 (lv_at hl 3 rfl) ?_
    refine lv_iadd hx hb dX10_enters_145 ?_
    refine lv_iload_n hx hb dX10_enters_146 rfl (lv_at hl 1 rfl) ?_
    obtain ⟨hi147, h⟩ := if_s1 h
    obtain ⟨I147, eI147, h⟩ := lt_s1 h
    refine t_I 52 eI147 hx hb hK hP hS hcb aln_52 hi147 dX10_enters_147 (fun H locs hP hS => ?_)
    exact r_V hx hb hr hlocks hP hK hN hL hS h dX10_enters_148
  · replace h := if_f c109 h
    refine lv_aload_n hx hb dX10_enters_112 rfl (lv_at hl 0 rfl) ?_
    refine g_R (C := RX10) (T := TX10) (N := 49) (ci := 10) 44 16 52 hx hb hts hown hK hP in_X10 rfl hcb okF_44_16 rfc_44_16 fl_161 dX10_enters_113 ?_
    refine lv_iload_n hx hb dX10_enters_116 rfl (lv_at hl 2 rfl) ?_
    refine lv_iload hx hb dX10_enters_117 (lv_at hl 4 rfl) ?_
    refine lv_iadd hx hb dX10_enters_119 ?_
    refine lv_aload_n hx hb dX10_enters_120 rfl (lv_at hl 0 rfl) ?_
    refine g_R (C := RX10) (T := TX10) (N := 49) (ci := 10) 44 16 52 hx hb hts hown hK hP in_X10 rfl hcb okF_44_16 rfc_44_16 fl_161 dX10_enters_121 ?_
    refine lv_iload_n hx hb dX10_enters_124 rfl (lv_at hl 2 rfl) ?_
    refine lv_iload hx hb dX10_enters_125 (lv_at hl 4 rfl) ?_
    refine lv_iadd hx hb dX10_enters_127 ?_
    refine lv_iconst (v := (1 : Int32)) hx hb dX10_enters_128 (by decide) ?_
    refine lv_isub hx hb dX10_enters_129 ?_
    obtain ⟨hi130, h⟩ := if_s1 h
    refine a_I 52 hx hb hK hP hcb aln_52 hi130 dX10_enters_130 ?_
    obtain ⟨hi131, h⟩ := if_s1 h
    obtain ⟨I131, eI131, h⟩ := lt_s1 h
    refine t_I 52 eI131 hx hb hK hP hS hcb aln_52 hi131 dX10_enters_131 (fun H locs hP hS => ?_)
    refine lv_iinc (v := (x5 + (-1 : Int32))) (lv' := [(5, .int (x5 + (-1 : Int32))), (0, .ref (bs + 44)), (2, .int x2), (3, .int x3), (4, .int x4)]) hx hb dX10_enters_132 hl (k := 4) rfl rfl (by decide) rfl (fun ls hl => ?_)
    refine lv_goto (tgt := 105) hx hb dX10_enters_135 (by decide) ?_
    exact hk105_ x2 x3 x4 (x5 + (-1 : Int32)) I131 J _ _ _ hP hS (lv_sub hl [1, 2, 3, 4, 0] rfl) h
theorem vX10_enters_105 {p : Program} {l : Launch} {e : Env} {s : State} {m : MethodId} {args : Array Value} {below : List Frame} {meth : Method} {c : Code} (bs : Nat) (D : va_G) (y : Y3) (n : Nat) (r : M2) (Gc : Gx p s m args meth c cX10_enters 6 RX10 bs D y none 76)  : ∀ (q : Nat) (x2 : Int32) (x3 : Int32) (x4 : Int32) (x5 : Int32) (I : MI) (J : MJ) (H : Heap) (locs : List Loc) (ls : Array Slot), va_P D vwCl (wl bs y I J) H → va_S (FA bs) s.heap H locs → lv_has ls 6 [(0, .ref (bs + 44)), (2, .int x2), (3, .int x3), (4, .int x4), (5, .int x5)] → lX10_enters_105 n  q x2 x3 x4 x5 I J = some r → W p l e (rmm 2 47) s m args below meth c H locs 0 0 (QV below args s bs D y r) (F0 m 105 ls []) := by
  intro q
  induction q with
  | zero =>
    intro x2 x3 x4 x5 I J H locs ls hP hS hl h
    have h : (none : Option (M2)) = some r := h
    cases h
  | succ q ih =>
    intro x2 x3 x4 x5 I J H locs ls hP hS hl h
    have h : fX10_enters_105 n  (lX10_enters_105 n  q) x2 x3 x4 x5 I J = some r := h
    exact wX10_enters_105 bs D y n  (lX10_enters_105 n  q) r Gc  ih x2 x3 x4 x5 I J H locs ls hP hS hl h
set_option maxHeartbeats 4000000 in
set_option maxRecDepth 100000 in
theorem wX10_enters_95 {p : Program} {l : Launch} {e : Env} {s : State} {m : MethodId} {args : Array Value} {below : List Frame} {meth : Method} {c : Code} (bs : Nat) (D : va_G) (y : Y3) (n : Nat) (r : M2) (Gc : Gx p s m args meth c cX10_enters 6 RX10 bs D y none 76)  (x1 : Int32) (x2 : Int32) (x3 : Int32) (x4 : Int32) (I : MI) (J : MJ) (H : Heap) (locs : List Loc) (ls : Array Slot) (hP : va_P D vwCl (wl bs y I J) H) (hS : va_S (FA bs) s.heap H locs) (hl : lv_has ls 6 [(0, .ref (bs + 44)), (1, .int x1), (2, .int x2), (3, .int x3), (4, .int x4)]) (h : fX10_enters_95 n  x1 x2 x3 x4 I J = some r) : W p l e (rmm 2 47) s m args below meth c H locs 0 0 (QV below args s bs D y r) (F0 m 95 ls []) := by
  obtain ⟨hx, hb, hml, hown, hts, hK, hN, hL, hr, hlocks, hcb⟩ := id Gc
  unfold fX10_enters_95 at h
  refine lv_aload_n hx hb dX10_enters_95 rfl (lv_at hl 0 rfl) ?_
  refine g_R (C := RX10) (T := TX10) (N := 49) (ci := 10) 44 17 53 hx hb hts hown hK hP in_X10 rfl hcb okF_44_17 rfc_44_17 fl_162 dX10_enters_96 ?_
  refine lv_iload_n hx hb dX10_enters_99 rfl (lv_at hl 1 rfl) ?_
  obtain ⟨hi100, h⟩ := if_s1 h
  refine a_I 53 hx hb hK hP hcb aln_53 hi100 dX10_enters_100 ?_
  refine lv_iconst (v := (1 : Int32)) hx hb dX10_enters_101 (by decide) ?_
  refine lv_isub hx hb dX10_enters_102 ?_
  obtain ⟨v103, ev103, h⟩ := lt_s1 h
  refine top_i ev103 ?_
  refine lv_istore (lv' := [(5, .int v103), (0, .ref (bs + 44)), (1, .int x1), (2, .int x2), (3, .int x3), (4, .int x4)]) hx hb dX10_enters_103 hl (by decide) rfl (fun ls hl => ?_)
  exact vX10_enters_105 bs D y n  r Gc  n x2 x3 x4 v103 I J _ _ _ hP hS (lv_sub hl [1, 3, 4, 5, 0] rfl) h
set_option maxHeartbeats 4000000 in
set_option maxRecDepth 100000 in
theorem wX10_enters_66 {p : Program} {l : Launch} {e : Env} {s : State} {m : MethodId} {args : Array Value} {below : List Frame} {meth : Method} {c : Code} (bs : Nat) (D : va_G) (y : Y3) (n : Nat) (r : M2) (Gc : Gx p s m args meth c cX10_enters 6 RX10 bs D y none 76)  (x1 : Int32) (x2 : Int32) (x3 : Int32) (x4 : Int32) (I : MI) (J : MJ) (H : Heap) (locs : List Loc) (ls : Array Slot) (hP : va_P D vwCl (wl bs y I J) H) (hS : va_S (FA bs) s.heap H locs) (hl : lv_has ls 6 [(0, .ref (bs + 44)), (1, .int x1), (2, .int x2), (3, .int x3), (4, .int x4)]) (h : fX10_enters_66 n  x1 x2 x3 x4 I J = some r) : W p l e (rmm 2 47) s m args below meth c H locs 0 0 (QV below args s bs D y r) (F0 m 66 ls []) := by
  obtain ⟨hx, hb, hml, hown, hts, hK, hN, hL, hr, hlocks, hcb⟩ := id Gc
  unfold fX10_enters_66 at h
  refine lv_iload hx hb dX10_enters_66 (lv_at hl 4 rfl) ?_
  refine lv_bipush (v := (40 : Int32)) hx hb dX10_enters_68 (by decide) ?_
  refine lv_icmp_ne (tgt := 74) hx hb dX10_enters_70 (by decide) (fun c70 => ?_) (fun c70 => ?_)
  · replace h := if_f c70 h
    refine lv_aload_n hx hb dX10_enters_74 rfl (lv_at hl 0 rfl) ?_
    refine g_R (C := RX10) (T := TX10) (N := 49) (ci := 10) 44 17 53 hx hb hts hown hK hP in_X10 rfl hcb okF_44_17 rfc_44_17 fl_162 dX10_enters_75 ?_
    refine lv_iload_n hx hb dX10_enters_78 rfl (lv_at hl 1 rfl) ?_
    obtain ⟨hi79, h⟩ := if_s1 h
    refine a_I 53 hx hb hK hP hcb aln_53 hi79 dX10_enters_79 ?_
    refine lv_bipush (v := (40 : Int32)) hx hb dX10_enters_80 (by decide) ?_
    refine lv_icmp_ge (tgt := 95) hx hb dX10_enters_82 (by decide) (fun c82 => ?_) (fun c82 => ?_)
    · replace h := if_t c82 h
      exact wX10_enters_95 bs D y n  r Gc  x1 x2 x3 x4 I J _ _ _ hP hS (lv_sub hl [0, 1, 2, 3, 4] rfl) h
    · replace h := if_f c82 h
      refine lv_aload_n hx hb dX10_enters_85 rfl (lv_at hl 0 rfl) ?_
      refine g_R (C := RX10) (T := TX10) (N := 49) (ci := 10) 44 17 53 hx hb hts hown hK hP in_X10 rfl hcb okF_44_17 rfc_44_17 fl_162 dX10_enters_86 ?_
      refine lv_iload_n hx hb dX10_enters_89 rfl (lv_at hl 1 rfl) ?_
      refine lv_dup2_11 hx hb dX10_enters_90 rfl rfl ?_
      obtain ⟨hi91, h⟩ := if_s1 h
      refine a_I 53 hx hb hK hP hcb aln_53 hi91 dX10_enters_91 ?_
      refine lv_iconst (v := (1 : Int32)) hx hb dX10_enters_92 (by decide) ?_
      refine lv_iadd hx hb dX10_enters_93 ?_
      obtain ⟨hi94, h⟩ := if_s1 h
      obtain ⟨I94, eI94, h⟩ := lt_s1 h
      refine t_I 53 eI94 hx hb hK hP hS hcb aln_53 hi94 dX10_enters_94 (fun H locs hP hS => ?_)
      exact wX10_enters_95 bs D y n  r Gc  x1 x2 x3 x4 I94 J _ _ _ hP hS (lv_sub hl [0, 1, 2, 3, 4] rfl) h
  · replace h := if_t c70 h
    exact r_V hx hb hr hlocks hP hK hN hL hS h dX10_enters_73
set_option maxHeartbeats 4000000 in
set_option maxRecDepth 100000 in
theorem wX10_enters_42 {p : Program} {l : Launch} {e : Env} {s : State} {m : MethodId} {args : Array Value} {below : List Frame} {meth : Method} {c : Code} (bs : Nat) (D : va_G) (y : Y3) (n : Nat) (r : M2) (Gc : Gx p s m args meth c cX10_enters 6 RX10 bs D y none 76)  (x1 : Int32) (x2 : Int32) (x3 : Int32) (x4 : Int32) (I : MI) (J : MJ) (H : Heap) (locs : List Loc) (ls : Array Slot) (hP : va_P D vwCl (wl bs y I J) H) (hS : va_S (FA bs) s.heap H locs) (hl : lv_has ls 6 [(0, .ref (bs + 44)), (1, .int x1), (2, .int x2), (3, .int x3), (4, .int x4)]) (h : fX10_enters_42 n  x1 x2 x3 x4 I J = some r) : W p l e (rmm 2 47) s m args below meth c H locs 0 0 (QV below args s bs D y r) (F0 m 42 ls []) := by
  obtain ⟨hx, hb, hml, hown, hts, hK, hN, hL, hr, hlocks, hcb⟩ := id Gc
  unfold fX10_enters_42 at h
  refine lv_iload hx hb dX10_enters_42 (lv_at hl 4 rfl) ?_
  refine lv_aload_n hx hb dX10_enters_44 rfl (lv_at hl 0 rfl) ?_
  refine g_R (C := RX10) (T := TX10) (N := 49) (ci := 10) 44 17 53 hx hb hts hown hK hP in_X10 rfl hcb okF_44_17 rfc_44_17 fl_162 dX10_enters_45 ?_
  refine lv_iload_n hx hb dX10_enters_48 rfl (lv_at hl 1 rfl) ?_
  obtain ⟨hi49, h⟩ := if_s1 h
  refine a_I 53 hx hb hK hP hcb aln_53 hi49 dX10_enters_49 ?_
  refine lv_icmp_ge (tgt := 66) hx hb dX10_enters_50 (by decide) (fun c50 => ?_) (fun c50 => ?_)
  · replace h := if_t c50 h
    exact wX10_enters_66 bs D y n  r Gc  x1 x2 x3 x4 I J _ _ _ hP hS (lv_sub hl [0, 1, 2, 3, 4] rfl) h
  · replace h := if_f c50 h
    refine lv_aload_n hx hb dX10_enters_53 rfl (lv_at hl 0 rfl) ?_
    refine g_R (C := RX10) (T := TX10) (N := 49) (ci := 10) 44 16 52 hx hb hts hown hK hP in_X10 rfl hcb okF_44_16 rfc_44_16 fl_161 dX10_enters_54 ?_
    refine lv_iload_n hx hb dX10_enters_57 rfl (lv_at hl 3 rfl) ?_
    refine lv_iload hx hb dX10_enters_58 (lv_at hl 4 rfl) ?_
    refine lv_iadd hx hb dX10_enters_60 ?_
    obtain ⟨hi61, h⟩ := if_s1 h
    refine a_I 52 hx hb hK hP hcb aln_52 hi61 dX10_enters_61 ?_
    refine lv_iload_n hx hb dX10_enters_62 rfl (lv_at hl 2 rfl) ?_
    refine lv_icmp_eq (tgt := 73) hx hb dX10_enters_63 (by decide) (fun c63 => ?_) (fun c63 => ?_)
    · replace h := if_t c63 h
      exact r_V hx hb hr hlocks hP hK hN hL hS h dX10_enters_73
    · replace h := if_f c63 h
      exact wX10_enters_66 bs D y n  r Gc  x1 x2 x3 x4 I J _ _ _ hP hS (lv_sub hl [0, 1, 2, 3, 4] rfl) h
set_option maxHeartbeats 4000000 in
set_option maxRecDepth 100000 in
theorem wX10_enters_8 {p : Program} {l : Launch} {e : Env} {s : State} {m : MethodId} {args : Array Value} {below : List Frame} {meth : Method} {c : Code} (bs : Nat) (D : va_G) (y : Y3) (n : Nat) (k8_ : Int32 → Int32 → Int32 → Int32 → MI → MJ → Option (M2)) (r : M2) (Gc : Gx p s m args meth c cX10_enters 6 RX10 bs D y none 76) (hk8_ : ∀ (x1 : Int32) (x2 : Int32) (x3 : Int32) (x4 : Int32) (I : MI) (J : MJ) (H : Heap) (locs : List Loc) (ls : Array Slot), va_P D vwCl (wl bs y I J) H → va_S (FA bs) s.heap H locs → lv_has ls 6 [(0, .ref (bs + 44)), (1, .int x1), (2, .int x2), (3, .int x3), (4, .int x4)] → k8_ x1 x2 x3 x4 I J = some r → W p l e (rmm 2 47) s m args below meth c H locs 0 0 (QV below args s bs D y r) (F0 m 8 ls [])) (x1 : Int32) (x2 : Int32) (x3 : Int32) (x4 : Int32) (I : MI) (J : MJ) (H : Heap) (locs : List Loc) (ls : Array Slot) (hP : va_P D vwCl (wl bs y I J) H) (hS : va_S (FA bs) s.heap H locs) (hl : lv_has ls 6 [(0, .ref (bs + 44)), (1, .int x1), (2, .int x2), (3, .int x3), (4, .int x4)]) (h : fX10_enters_8 n k8_ x1 x2 x3 x4 I J = some r) : W p l e (rmm 2 47) s m args below meth c H locs 0 0 (QV below args s bs D y r) (F0 m 8 ls []) := by
  obtain ⟨hx, hb, hml, hown, hts, hK, hN, hL, hr, hlocks, hcb⟩ := id Gc
  unfold fX10_enters_8 at h
  refine lv_iload hx hb dX10_enters_8 (lv_at hl 4 rfl) ?_
  refine lv_aload_n hx hb dX10_enters_10 rfl (lv_at hl 0 rfl) ?_
  refine g_R (C := RX10) (T := TX10) (N := 49) (ci := 10) 44 17 53 hx hb hts hown hK hP in_X10 rfl hcb okF_44_17 rfc_44_17 fl_162 dX10_enters_11 ?_
  refine lv_iload_n hx hb dX10_enters_14 rfl (lv_at hl 1 rfl) ?_
  obtain ⟨hi15, h⟩ := if_s1 h
  refine a_I 53 hx hb hK hP hcb aln_53 hi15 dX10_enters_15 ?_
  refine lv_icmp_ge (tgt := 42) hx hb dX10_enters_16 (by decide) (fun c16 => ?_) (fun c16 => ?_)
  · replace h := if_t c16 h
    exact wX10_enters_42 bs D y n  r Gc  x1 x2 x3 x4 I J _ _ _ hP hS (lv_sub hl [0, 1, 2, 3, 4] rfl) h
  · replace h := if_f c16 h
    refine lv_aload_n hx hb dX10_enters_19 rfl (lv_at hl 0 rfl) ?_
    refine lv_aload_n hx hb dX10_enters_20 rfl (lv_at hl 0 rfl) ?_
    refine g_R (C := RX10) (T := TX10) (N := 49) (ci := 10) 44 16 52 hx hb hts hown hK hP in_X10 rfl hcb okF_44_16 rfc_44_16 fl_161 dX10_enters_21 ?_
    refine lv_iload_n hx hb dX10_enters_24 rfl (lv_at hl 3 rfl) ?_
    refine lv_iload hx hb dX10_enters_25 (lv_at hl 4 rfl) ?_
    refine lv_iadd hx hb dX10_enters_27 ?_
    obtain ⟨hi28, h⟩ := if_s1 h
    refine a_I 52 hx hb hK hP hcb aln_52 hi28 dX10_enters_28 ?_
    refine lv_iload_n hx hb dX10_enters_29 rfl (lv_at hl 2 rfl) ?_
    obtain ⟨r30, er30, h⟩ := bd_s1 h
    refine c_VI (k := 44) (ci := 10) (As := [.int (I 52 ((x3 + x4)).toNatClampNeg), .int x2]) (rest := []) hx hb hml hown hts hK hN hL hP hS (cX10_isAhead_ l bs D y hcb n (I 52 ((x3 + x4)).toNatClampNeg) x2 I J r30 er30) ok_X10_isAhead ov_X10_isAhead ml_125 ⟨Nat.le_of_ble_eq_true rfl, Nat.le_of_ble_eq_true rfl⟩ rfl hcb kd_44 hl.1 rfl rfl (Nat.le_of_ble_eq_true rfl) ⟨Nat.zero_le _, Nat.zero_le _⟩ dX10_enters_30 (fun H locs hP hS => ?_)
    refine lv_if_eq (tgt := 42) hx hb dX10_enters_33 (by decide) (fun c33 => ?_) (fun c33 => ?_)
    · replace h := if_t c33 h
      exact wX10_enters_42 bs D y n  r Gc  x1 x2 x3 x4 r30.2.1 r30.2.2 _ _ _ hP hS (lv_sub hl [0, 1, 2, 3, 4] rfl) h
    · replace h := if_f c33 h
      refine lv_iinc (v := (x4 + (1 : Int32))) (lv' := [(4, .int (x4 + (1 : Int32))), (0, .ref (bs + 44)), (1, .int x1), (2, .int x2), (3, .int x3)]) hx hb dX10_enters_36 hl (k := 4) rfl rfl (by decide) rfl (fun ls hl => ?_)
      refine lv_goto (tgt := 8) hx hb dX10_enters_39 (by decide) ?_
      exact hk8_ x1 x2 x3 (x4 + (1 : Int32)) r30.2.1 r30.2.2 _ _ _ hP hS (lv_sub hl [1, 2, 3, 4, 0] rfl) h
theorem vX10_enters_8 {p : Program} {l : Launch} {e : Env} {s : State} {m : MethodId} {args : Array Value} {below : List Frame} {meth : Method} {c : Code} (bs : Nat) (D : va_G) (y : Y3) (n : Nat) (r : M2) (Gc : Gx p s m args meth c cX10_enters 6 RX10 bs D y none 76)  : ∀ (q : Nat) (x1 : Int32) (x2 : Int32) (x3 : Int32) (x4 : Int32) (I : MI) (J : MJ) (H : Heap) (locs : List Loc) (ls : Array Slot), va_P D vwCl (wl bs y I J) H → va_S (FA bs) s.heap H locs → lv_has ls 6 [(0, .ref (bs + 44)), (1, .int x1), (2, .int x2), (3, .int x3), (4, .int x4)] → lX10_enters_8 n  q x1 x2 x3 x4 I J = some r → W p l e (rmm 2 47) s m args below meth c H locs 0 0 (QV below args s bs D y r) (F0 m 8 ls []) := by
  intro q
  induction q with
  | zero =>
    intro x1 x2 x3 x4 I J H locs ls hP hS hl h
    have h : (none : Option (M2)) = some r := h
    cases h
  | succ q ih =>
    intro x1 x2 x3 x4 I J H locs ls hP hS hl h
    have h : fX10_enters_8 n  (lX10_enters_8 n  q) x1 x2 x3 x4 I J = some r := h
    exact wX10_enters_8 bs D y n  (lX10_enters_8 n  q) r Gc  ih x1 x2 x3 x4 I J H locs ls hP hS hl h
set_option maxHeartbeats 4000000 in
set_option maxRecDepth 100000 in
theorem cX10_enters_ (l : Launch) (bs : Nat) (D : va_G) (y : Y3) (hcb : 76 ≤ y.2.2.2) (n : Nat) (x1 : Int32) (x2 : Int32) (I : MI) (J : MJ) (r : M2) (h : fX10_enters n x1 x2 I J = some r) : Met l yX10_enters (.code yX10_enters cX10_enters 6 none :: gtb) (rmm 2 47) (va_Pc [.ref (bs + 44), .int x1, .int x2] (HB bs D y I J)) (QcV bs D y r) 0 0 (FA bs) := by
  refine Met.ofW (cc := cX10_enters) (maxL := 6) (ret := none) (by decide) rfl ?_
  intro p e s m args below meth c s₁ B hml hv
  obtain ⟨rfl, hP, hK, hN, hL⟩ := hv
  have hx := B.exec
  have hb := B.bytes
  have hr := B.returns
  have hts0 := atoms_spec (ws := .code yX10_enters cX10_enters 6 none :: gtb) B.pre
  have hts : ∀ w ∈ gtb, w.before [.ref (bs + 44), .int x1, .int x2].toArray s = true := fun w hw => hts0 w (List.mem_cons_of_mem _ hw)
  have hown : s.vm.findClass RX10 = some m.cls := findClass_of_methodNamed B.named
  have hlocks := B.notSynchronized
  have hS : va_S (FA bs) s.heap s.heap [] := va_S.rf
  have Gc : Gx p s m [.ref (bs + 44), .int x1, .int x2].toArray meth c cX10_enters 6 RX10 bs D y none 76 := ⟨hx, hb, hml, hown, hts, hK, hN, hL, hr, hlocks, hcb⟩
  have hl := lv_entry [.ref (bs + 44), .int x1, .int x2] (n := 6) (Nat.le_of_ble_eq_true rfl)
  rw [lg_entry_eq]
  generalize (lg_sl [.ref (bs + 44), .int x1, .int x2] ++ List.replicate (6 - (lg_sl [.ref (bs + 44), .int x1, .int x2]).length) Slot.unset).toArray = ls at hl ⊢
  have hl : lv_has ls 6 [(0, .ref (bs + 44)), (1, .int x1), (2, .int x2)] := hl
  change W p l e (rmm 2 47) s m [.ref (bs + 44), .int x1, .int x2].toArray below meth c s.heap [] 0 0 (QV below [.ref (bs + 44), .int x1, .int x2].toArray s bs D y r) (F0 m 0 ls [])
  unfold fX10_enters at h
  refine lv_bipush (v := (40 : Int32)) hx hb dX10_enters_0 (by decide) ?_
  refine lv_iload_n hx hb dX10_enters_2 rfl (lv_at hl 1 rfl) ?_
  refine lv_imul hx hb dX10_enters_3 ?_
  obtain ⟨v4, ev4, h⟩ := lt_s1 h
  refine top_i ev4 ?_
  refine lv_istore_n (lv' := [(3, .int v4), (0, .ref (bs + 44)), (1, .int x1), (2, .int x2)]) hx hb dX10_enters_4 rfl hl (by decide) rfl (fun ls hl => ?_)
  refine lv_iconst (v := (0 : Int32)) hx hb dX10_enters_5 (by decide) ?_
  refine lv_istore (lv' := [(4, .int (0 : Int32)), (3, .int v4), (0, .ref (bs + 44)), (1, .int x1), (2, .int x2)]) hx hb dX10_enters_6 hl (by decide) rfl (fun ls hl => ?_)
  exact vX10_enters_8 bs D y n  r Gc  n x1 x2 v4 (0 : Int32) I J _ _ _ hP hS (lv_sub hl [2, 3, 4, 1, 0] rfl) h
theorem dX10_partOf_0 : decode cX10_partOf 0 = .ok (.iload_n 2, 1) := by decide +kernel
theorem dX10_partOf_1 : decode cX10_partOf 1 = .ok (.aload_n 0, 1) := by decide +kernel
theorem dX10_partOf_2 : decode cX10_partOf 2 = .ok (.getfield 35, 3) := by decide +kernel
theorem dX10_partOf_5 : decode cX10_partOf 5 = .ok (.iload_n 1, 1) := by decide +kernel
theorem dX10_partOf_6 : decode cX10_partOf 6 = .ok (.iaload, 1) := by decide +kernel
theorem dX10_partOf_7 : decode cX10_partOf 7 = .ok (.if_icmp .ge 17, 3) := by decide +kernel
theorem dX10_partOf_10 : decode cX10_partOf 10 = .ok (.aload_n 0, 1) := by decide +kernel
theorem dX10_partOf_11 : decode cX10_partOf 11 = .ok (.getfield 32, 3) := by decide +kernel
theorem dX10_partOf_14 : decode cX10_partOf 14 = .ok (.bipush 40, 2) := by decide +kernel
theorem dX10_partOf_16 : decode cX10_partOf 16 = .ok (.iload_n 1, 1) := by decide +kernel
theorem dX10_partOf_17 : decode cX10_partOf 17 = .ok (.imul, 1) := by decide +kernel
theorem dX10_partOf_18 : decode cX10_partOf 18 = .ok (.iload_n 2, 1) := by decide +kernel
theorem dX10_partOf_19 : decode cX10_partOf 19 = .ok (.iadd, 1) := by decide +kernel
theorem dX10_partOf_20 : decode cX10_partOf 20 = .ok (.iaload, 1) := by decide +kernel
theorem dX10_partOf_21 : decode cX10_partOf 21 = .ok (.goto 6, 3) := by decide +kernel
theorem dX10_partOf_24 : decode cX10_partOf 24 = .ok (.iconst 1, 1) := by decide +kernel
theorem dX10_partOf_25 : decode cX10_partOf 25 = .ok (.iload_n 1, 1) := by decide +kernel
theorem dX10_partOf_26 : decode cX10_partOf 26 = .ok (.ishl, 1) := by decide +kernel
theorem dX10_partOf_27 : decode cX10_partOf 27 = .ok (.ireturn, 1) := by decide +kernel
set_option maxHeartbeats 4000000 in
set_option maxRecDepth 100000 in
theorem cX10_partOf_ (l : Launch) (bs : Nat) (D : va_G) (y : Y3) (hcb : 76 ≤ y.2.2.2) (n : Nat) (x1 : Int32) (x2 : Int32) (I : MI) (J : MJ) (r : Int32 × M2) (h : fX10_partOf n x1 x2 I J = some r) : Met l yX10_partOf (.code yX10_partOf cX10_partOf 3 (some .int) :: gtb) (rmm 0 0) (va_Pc [.ref (bs + 44), .int x1, .int x2] (HB bs D y I J)) (QcI bs D y r) 0 0 (FA bs) := by
  refine Met.ofW (cc := cX10_partOf) (maxL := 3) (ret := (some .int)) (by decide) rfl ?_
  intro p e s m args below meth c s₁ B hml hv
  obtain ⟨rfl, hP, hK, hN, hL⟩ := hv
  have hx := B.exec
  have hb := B.bytes
  have hr := B.returns
  have hts0 := atoms_spec (ws := .code yX10_partOf cX10_partOf 3 (some .int) :: gtb) B.pre
  have hts : ∀ w ∈ gtb, w.before [.ref (bs + 44), .int x1, .int x2].toArray s = true := fun w hw => hts0 w (List.mem_cons_of_mem _ hw)
  have hown : s.vm.findClass RX10 = some m.cls := findClass_of_methodNamed B.named
  have hlocks := B.notSynchronized
  have hS : va_S (FA bs) s.heap s.heap [] := va_S.rf
  have Gc : Gx p s m [.ref (bs + 44), .int x1, .int x2].toArray meth c cX10_partOf 3 RX10 bs D y (some .int) 76 := ⟨hx, hb, hml, hown, hts, hK, hN, hL, hr, hlocks, hcb⟩
  have hl := lv_entry [.ref (bs + 44), .int x1, .int x2] (n := 3) (Nat.le_of_ble_eq_true rfl)
  rw [lg_entry_eq]
  generalize (lg_sl [.ref (bs + 44), .int x1, .int x2] ++ List.replicate (3 - (lg_sl [.ref (bs + 44), .int x1, .int x2]).length) Slot.unset).toArray = ls at hl ⊢
  have hl : lv_has ls 3 [(0, .ref (bs + 44)), (1, .int x1), (2, .int x2)] := hl
  change W p l e (rmm 0 0) s m [.ref (bs + 44), .int x1, .int x2].toArray below meth c s.heap [] 0 0 (QI below [.ref (bs + 44), .int x1, .int x2].toArray s bs D y r) (F0 m 0 ls [])
  unfold fX10_partOf at h
  refine lv_iload_n hx hb dX10_partOf_0 rfl (lv_at hl 2 rfl) ?_
  refine lv_aload_n hx hb dX10_partOf_1 rfl (lv_at hl 0 rfl) ?_
  refine g_R (C := RX10) (T := TX10) (N := 49) (ci := 10) 44 17 53 hx hb hts hown hK hP in_X10 rfl hcb okF_44_17 rfc_44_17 fl_162 dX10_partOf_2 ?_
  refine lv_iload_n hx hb dX10_partOf_5 rfl (lv_at hl 1 rfl) ?_
  obtain ⟨hi6, h⟩ := if_s1 h
  refine a_I 53 hx hb hK hP hcb aln_53 hi6 dX10_partOf_6 ?_
  refine lv_icmp_ge (tgt := 24) hx hb dX10_partOf_7 (by decide) (fun c7 => ?_) (fun c7 => ?_)
  · replace h := if_t c7 h
    refine lv_iconst (v := (1 : Int32)) hx hb dX10_partOf_24 (by decide) ?_
    refine lv_iload_n hx hb dX10_partOf_25 rfl (lv_at hl 1 rfl) ?_
    refine lv_ishl hx hb dX10_partOf_26 ?_
    exact r_I hx hb hr hlocks hP hK hN hL hS h dX10_partOf_27
  · replace h := if_f c7 h
    refine lv_aload_n hx hb dX10_partOf_10 rfl (lv_at hl 0 rfl) ?_
    refine g_R (C := RX10) (T := TX10) (N := 49) (ci := 10) 44 16 52 hx hb hts hown hK hP in_X10 rfl hcb okF_44_16 rfc_44_16 fl_161 dX10_partOf_11 ?_
    refine lv_bipush (v := (40 : Int32)) hx hb dX10_partOf_14 (by decide) ?_
    refine lv_iload_n hx hb dX10_partOf_16 rfl (lv_at hl 1 rfl) ?_
    refine lv_imul hx hb dX10_partOf_17 ?_
    refine lv_iload_n hx hb dX10_partOf_18 rfl (lv_at hl 2 rfl) ?_
    refine lv_iadd hx hb dX10_partOf_19 ?_
    obtain ⟨hi20, h⟩ := if_s1 h
    refine a_I 52 hx hb hK hP hcb aln_52 hi20 dX10_partOf_20 ?_
    refine lv_goto (tgt := 27) hx hb dX10_partOf_21 (by decide) ?_
    exact r_I hx hb hr hlocks hP hK hN hL hS h dX10_partOf_27
theorem dX10_findCuts_0 : decode cX10_findCuts 0 = .ok (.aload_n 0, 1) := by decide +kernel
theorem dX10_findCuts_1 : decode cX10_findCuts 1 = .ok (.getfield 139, 3) := by decide +kernel
theorem dX10_findCuts_4 : decode cX10_findCuts 4 = .ok (.ifCond .eq 4, 3) := by decide +kernel
theorem dX10_findCuts_7 : decode cX10_findCuts 7 = .ok (.return_, 1) := by decide +kernel
theorem dX10_findCuts_8 : decode cX10_findCuts 8 = .ok (.aload_n 0, 1) := by decide +kernel
theorem dX10_findCuts_9 : decode cX10_findCuts 9 = .ok (.iconst 1, 1) := by decide +kernel
theorem dX10_findCuts_10 : decode cX10_findCuts 10 = .ok (.putfield 139, 3) := by decide +kernel
theorem dX10_findCuts_13 : decode cX10_findCuts 13 = .ok (.iconst 0, 1) := by decide +kernel
theorem dX10_findCuts_14 : decode cX10_findCuts 14 = .ok (.istore_n 1, 1) := by decide +kernel
theorem dX10_findCuts_15 : decode cX10_findCuts 15 = .ok (.iload_n 1, 1) := by decide +kernel
theorem dX10_findCuts_16 : decode cX10_findCuts 16 = .ok (.aload_n 0, 1) := by decide +kernel
theorem dX10_findCuts_17 : decode cX10_findCuts 17 = .ok (.getfield 123, 3) := by decide +kernel
theorem dX10_findCuts_20 : decode cX10_findCuts 20 = .ok (.if_icmp .ge 146, 3) := by decide +kernel
theorem dX10_findCuts_23 : decode cX10_findCuts 23 = .ok (.aload_n 0, 1) := by decide +kernel
theorem dX10_findCuts_24 : decode cX10_findCuts 24 = .ok (.getfield 35, 3) := by decide +kernel
theorem dX10_findCuts_27 : decode cX10_findCuts 27 = .ok (.iload_n 1, 1) := by decide +kernel
theorem dX10_findCuts_28 : decode cX10_findCuts 28 = .ok (.iconst 0, 1) := by decide +kernel
theorem dX10_findCuts_29 : decode cX10_findCuts 29 = .ok (.iastore, 1) := by decide +kernel
theorem dX10_findCuts_30 : decode cX10_findCuts 30 = .ok (.aload_n 0, 1) := by decide +kernel
theorem dX10_findCuts_31 : decode cX10_findCuts 31 = .ok (.getfield 38, 3) := by decide +kernel
theorem dX10_findCuts_34 : decode cX10_findCuts 34 = .ok (.iload_n 1, 1) := by decide +kernel
theorem dX10_findCuts_35 : decode cX10_findCuts 35 = .ok (.iconst 0, 1) := by decide +kernel
theorem dX10_findCuts_36 : decode cX10_findCuts 36 = .ok (.iastore, 1) := by decide +kernel
theorem dX10_findCuts_37 : decode cX10_findCuts 37 = .ok (.aload_n 0, 1) := by decide +kernel
theorem dX10_findCuts_38 : decode cX10_findCuts 38 = .ok (.getfield 7, 3) := by decide +kernel
theorem dX10_findCuts_41 : decode cX10_findCuts 41 = .ok (.iload_n 1, 1) := by decide +kernel
theorem dX10_findCuts_42 : decode cX10_findCuts 42 = .ok (.iaload, 1) := by decide +kernel
theorem dX10_findCuts_43 : decode cX10_findCuts 43 = .ok (.iconst 2, 1) := by decide +kernel
theorem dX10_findCuts_44 : decode cX10_findCuts 44 = .ok (.if_icmp .eq 6, 3) := by decide +kernel
theorem dX10_findCuts_47 : decode cX10_findCuts 47 = .ok (.goto 113, 3) := by decide +kernel
theorem dX10_findCuts_50 : decode cX10_findCuts 50 = .ok (.aload_n 0, 1) := by decide +kernel
theorem dX10_findCuts_51 : decode cX10_findCuts 51 = .ok (.getfield 13, 3) := by decide +kernel
theorem dX10_findCuts_54 : decode cX10_findCuts 54 = .ok (.iload_n 1, 1) := by decide +kernel
theorem dX10_findCuts_55 : decode cX10_findCuts 55 = .ok (.iaload, 1) := by decide +kernel
theorem dX10_findCuts_56 : decode cX10_findCuts 56 = .ok (.iconst 2, 1) := by decide +kernel
theorem dX10_findCuts_57 : decode cX10_findCuts 57 = .ok (.idiv, 1) := by decide +kernel
theorem dX10_findCuts_58 : decode cX10_findCuts 58 = .ok (.istore_n 2, 1) := by decide +kernel
theorem dX10_findCuts_59 : decode cX10_findCuts 59 = .ok (.aload_n 0, 1) := by decide +kernel
theorem dX10_findCuts_60 : decode cX10_findCuts 60 = .ok (.getfield 16, 3) := by decide +kernel
theorem dX10_findCuts_63 : decode cX10_findCuts 63 = .ok (.iload_n 1, 1) := by decide +kernel
theorem dX10_findCuts_64 : decode cX10_findCuts 64 = .ok (.iaload, 1) := by decide +kernel
theorem dX10_findCuts_65 : decode cX10_findCuts 65 = .ok (.iconst 2, 1) := by decide +kernel
theorem dX10_findCuts_66 : decode cX10_findCuts 66 = .ok (.idiv, 1) := by decide +kernel
theorem dX10_findCuts_67 : decode cX10_findCuts 67 = .ok (.istore_n 3, 1) := by decide +kernel
theorem dX10_findCuts_68 : decode cX10_findCuts 68 = .ok (.iconst 0, 1) := by decide +kernel
theorem dX10_findCuts_69 : decode cX10_findCuts 69 = .ok (.istore 4, 2) := by decide +kernel
theorem dX10_findCuts_71 : decode cX10_findCuts 71 = .ok (.iload 4, 2) := by decide +kernel
theorem dX10_findCuts_73 : decode cX10_findCuts 73 = .ok (.aload_n 0, 1) := by decide +kernel
theorem dX10_findCuts_74 : decode cX10_findCuts 74 = .ok (.getfield 35, 3) := by decide +kernel
theorem dX10_findCuts_77 : decode cX10_findCuts 77 = .ok (.iload_n 2, 1) := by decide +kernel
theorem dX10_findCuts_78 : decode cX10_findCuts 78 = .ok (.iaload, 1) := by decide +kernel
theorem dX10_findCuts_79 : decode cX10_findCuts 79 = .ok (.if_icmp .gt 62, 3) := by decide +kernel
theorem dX10_findCuts_82 : decode cX10_findCuts 82 = .ok (.iconst 0, 1) := by decide +kernel
theorem dX10_findCuts_83 : decode cX10_findCuts 83 = .ok (.istore 5, 2) := by decide +kernel
theorem dX10_findCuts_85 : decode cX10_findCuts 85 = .ok (.iload 5, 2) := by decide +kernel
theorem dX10_findCuts_87 : decode cX10_findCuts 87 = .ok (.aload_n 0, 1) := by decide +kernel
theorem dX10_findCuts_88 : decode cX10_findCuts 88 = .ok (.getfield 35, 3) := by decide +kernel
theorem dX10_findCuts_91 : decode cX10_findCuts 91 = .ok (.iload_n 3, 1) := by decide +kernel
theorem dX10_findCuts_92 : decode cX10_findCuts 92 = .ok (.iaload, 1) := by decide +kernel
theorem dX10_findCuts_93 : decode cX10_findCuts 93 = .ok (.if_icmp .gt 42, 3) := by decide +kernel
theorem dX10_findCuts_96 : decode cX10_findCuts 96 = .ok (.aload_n 0, 1) := by decide +kernel
theorem dX10_findCuts_97 : decode cX10_findCuts 97 = .ok (.iload_n 2, 1) := by decide +kernel
theorem dX10_findCuts_98 : decode cX10_findCuts 98 = .ok (.iload 4, 2) := by decide +kernel
theorem dX10_findCuts_100 : decode cX10_findCuts 100 = .ok (.invokevirtual 192, 3) := by decide +kernel
theorem dX10_findCuts_103 : decode cX10_findCuts 103 = .ok (.aload_n 0, 1) := by decide +kernel
theorem dX10_findCuts_104 : decode cX10_findCuts 104 = .ok (.iload_n 3, 1) := by decide +kernel
theorem dX10_findCuts_105 : decode cX10_findCuts 105 = .ok (.iload 5, 2) := by decide +kernel
theorem dX10_findCuts_107 : decode cX10_findCuts 107 = .ok (.invokevirtual 192, 3) := by decide +kernel
theorem dX10_findCuts_110 : decode cX10_findCuts 110 = .ok (.ior, 1) := by decide +kernel
theorem dX10_findCuts_111 : decode cX10_findCuts 111 = .ok (.istore 6, 2) := by decide +kernel
theorem dX10_findCuts_113 : decode cX10_findCuts 113 = .ok (.iload 6, 2) := by decide +kernel
theorem dX10_findCuts_115 : decode cX10_findCuts 115 = .ok (.invokestatic 183, 3) := by decide +kernel
theorem dX10_findCuts_118 : decode cX10_findCuts 118 = .ok (.iconst 4, 1) := by decide +kernel
theorem dX10_findCuts_119 : decode cX10_findCuts 119 = .ok (.if_icmp .gt 10, 3) := by decide +kernel
theorem dX10_findCuts_122 : decode cX10_findCuts 122 = .ok (.aload_n 0, 1) := by decide +kernel
theorem dX10_findCuts_123 : decode cX10_findCuts 123 = .ok (.iload_n 1, 1) := by decide +kernel
theorem dX10_findCuts_124 : decode cX10_findCuts 124 = .ok (.iload 6, 2) := by decide +kernel
theorem dX10_findCuts_126 : decode cX10_findCuts 126 = .ok (.invokevirtual 196, 3) := by decide +kernel
theorem dX10_findCuts_129 : decode cX10_findCuts 129 = .ok (.iinc 5 1, 3) := by decide +kernel
theorem dX10_findCuts_132 : decode cX10_findCuts 132 = .ok (.goto (-47), 3) := by decide +kernel
theorem dX10_findCuts_135 : decode cX10_findCuts 135 = .ok (.iinc 4 1, 3) := by decide +kernel
theorem dX10_findCuts_138 : decode cX10_findCuts 138 = .ok (.goto (-67), 3) := by decide +kernel
theorem dX10_findCuts_141 : decode cX10_findCuts 141 = .ok (.aload_n 0, 1) := by decide +kernel
theorem dX10_findCuts_142 : decode cX10_findCuts 142 = .ok (.getfield 38, 3) := by decide +kernel
theorem dX10_findCuts_145 : decode cX10_findCuts 145 = .ok (.iload_n 1, 1) := by decide +kernel
theorem dX10_findCuts_146 : decode cX10_findCuts 146 = .ok (.aload_n 0, 1) := by decide +kernel
theorem dX10_findCuts_147 : decode cX10_findCuts 147 = .ok (.aload_n 0, 1) := by decide +kernel
theorem dX10_findCuts_148 : decode cX10_findCuts 148 = .ok (.getfield 32, 3) := by decide +kernel
theorem dX10_findCuts_151 : decode cX10_findCuts 151 = .ok (.bipush 40, 2) := by decide +kernel
theorem dX10_findCuts_153 : decode cX10_findCuts 153 = .ok (.iload_n 1, 1) := by decide +kernel
theorem dX10_findCuts_154 : decode cX10_findCuts 154 = .ok (.imul, 1) := by decide +kernel
theorem dX10_findCuts_155 : decode cX10_findCuts 155 = .ok (.iaload, 1) := by decide +kernel
theorem dX10_findCuts_156 : decode cX10_findCuts 156 = .ok (.invokevirtual 180, 3) := by decide +kernel
theorem dX10_findCuts_159 : decode cX10_findCuts 159 = .ok (.iastore, 1) := by decide +kernel
theorem dX10_findCuts_160 : decode cX10_findCuts 160 = .ok (.iinc 1 1, 3) := by decide +kernel
theorem dX10_findCuts_163 : decode cX10_findCuts 163 = .ok (.goto (-148), 3) := by decide +kernel
theorem dX10_findCuts_166 : decode cX10_findCuts 166 = .ok (.return_, 1) := by decide +kernel
set_option maxHeartbeats 4000000 in
set_option maxRecDepth 100000 in
theorem wX10_findCuts_160 {p : Program} {l : Launch} {e : Env} {s : State} {m : MethodId} {args : Array Value} {below : List Frame} {meth : Method} {c : Code} (bs : Nat) (D : va_G) (y : Y3) (n : Nat) (k15_ : Int32 → MI → MJ → Option (M2)) (r : M2) (Gc : Gx p s m args meth c cX10_findCuts 7 RX10 bs D y none 76) (hk15_ : ∀ (x1 : Int32) (I : MI) (J : MJ) (H : Heap) (locs : List Loc) (ls : Array Slot), va_P D vwCl (wl bs y I J) H → va_S (FA bs) s.heap H locs → lv_has ls 7 [(0, .ref (bs + 44)), (1, .int x1)] → k15_ x1 I J = some r → W p l e (rmm 3 72) s m args below meth c H locs 0 0 (QV below args s bs D y r) (F0 m 15 ls [])) (x1 : Int32) (I : MI) (J : MJ) (H : Heap) (locs : List Loc) (ls : Array Slot) (hP : va_P D vwCl (wl bs y I J) H) (hS : va_S (FA bs) s.heap H locs) (hl : lv_has ls 7 [(0, .ref (bs + 44)), (1, .int x1)]) (h : fX10_findCuts_160 n k15_ x1 I J = some r) : W p l e (rmm 3 72) s m args below meth c H locs 0 0 (QV below args s bs D y r) (F0 m 160 ls []) := by
  obtain ⟨hx, hb, hml, hown, hts, hK, hN, hL, hr, hlocks, hcb⟩ := id Gc
  unfold fX10_findCuts_160 at h
  refine lv_iinc (v := (x1 + (1 : Int32))) (lv' := [(1, .int (x1 + (1 : Int32))), (0, .ref (bs + 44))]) hx hb dX10_findCuts_160 hl (k := 1) rfl rfl (by decide) rfl (fun ls hl => ?_)
  refine lv_goto (tgt := 15) hx hb dX10_findCuts_163 (by decide) ?_
  exact hk15_ (x1 + (1 : Int32)) I J _ _ _ hP hS (lv_sub hl [1, 0] rfl) h
set_option maxHeartbeats 4000000 in
set_option maxRecDepth 100000 in
theorem wX10_findCuts_129 {p : Program} {l : Launch} {e : Env} {s : State} {m : MethodId} {args : Array Value} {below : List Frame} {meth : Method} {c : Code} (bs : Nat) (D : va_G) (y : Y3) (n : Nat) (k15_ : Int32 → MI → MJ → Option (M2)) (k71_ : Int32 → Int32 → Int32 → Int32 → MI → MJ → Option (M2)) (k85_ : Int32 → Int32 → Int32 → Int32 → Int32 → MI → MJ → Option (M2)) (r : M2) (Gc : Gx p s m args meth c cX10_findCuts 7 RX10 bs D y none 76) (hk15_ : ∀ (x1 : Int32) (I : MI) (J : MJ) (H : Heap) (locs : List Loc) (ls : Array Slot), va_P D vwCl (wl bs y I J) H → va_S (FA bs) s.heap H locs → lv_has ls 7 [(0, .ref (bs + 44)), (1, .int x1)] → k15_ x1 I J = some r → W p l e (rmm 3 72) s m args below meth c H locs 0 0 (QV below args s bs D y r) (F0 m 15 ls [])) (hk71_ : ∀ (x1 : Int32) (x2 : Int32) (x3 : Int32) (x4 : Int32) (I : MI) (J : MJ) (H : Heap) (locs : List Loc) (ls : Array Slot), va_P D vwCl (wl bs y I J) H → va_S (FA bs) s.heap H locs → lv_has ls 7 [(0, .ref (bs + 44)), (1, .int x1), (2, .int x2), (3, .int x3), (4, .int x4)] → k71_ x1 x2 x3 x4 I J = some r → W p l e (rmm 3 72) s m args below meth c H locs 0 0 (QV below args s bs D y r) (F0 m 71 ls [])) (hk85_ : ∀ (x1 : Int32) (x2 : Int32) (x3 : Int32) (x4 : Int32) (x5 : Int32) (I : MI) (J : MJ) (H : Heap) (locs : List Loc) (ls : Array Slot), va_P D vwCl (wl bs y I J) H → va_S (FA bs) s.heap H locs → lv_has ls 7 [(0, .ref (bs + 44)), (1, .int x1), (2, .int x2), (3, .int x3), (4, .int x4), (5, .int x5)] → k85_ x1 x2 x3 x4 x5 I J = some r → W p l e (rmm 3 72) s m args below meth c H locs 0 0 (QV below args s bs D y r) (F0 m 85 ls [])) (x1 : Int32) (x2 : Int32) (x3 : Int32) (x4 : Int32) (x5 : Int32) (I : MI) (J : MJ) (H : Heap) (locs : List Loc) (ls : Array Slot) (hP : va_P D vwCl (wl bs y I J) H) (hS : va_S (FA bs) s.heap H locs) (hl : lv_has ls 7 [(0, .ref (bs + 44)), (1, .int x1), (2, .int x2), (3, .int x3), (4, .int x4), (5, .int x5)]) (h : fX10_findCuts_129 n k15_ k71_ k85_ x1 x2 x3 x4 x5 I J = some r) : W p l e (rmm 3 72) s m args below meth c H locs 0 0 (QV below args s bs D y r) (F0 m 129 ls []) := by
  obtain ⟨hx, hb, hml, hown, hts, hK, hN, hL, hr, hlocks, hcb⟩ := id Gc
  unfold fX10_findCuts_129 at h
  refine lv_iinc (v := (x5 + (1 : Int32))) (lv' := [(5, .int (x5 + (1 : Int32))), (0, .ref (bs + 44)), (1, .int x1), (2, .int x2), (3, .int x3), (4, .int x4)]) hx hb dX10_findCuts_129 hl (k := 5) rfl rfl (by decide) rfl (fun ls hl => ?_)
  refine lv_goto (tgt := 85) hx hb dX10_findCuts_132 (by decide) ?_
  exact hk85_ x1 x2 x3 x4 (x5 + (1 : Int32)) I J _ _ _ hP hS (lv_sub hl [1, 2, 3, 4, 5, 0] rfl) h
set_option maxHeartbeats 4000000 in
set_option maxRecDepth 100000 in
theorem wX10_findCuts_85 {p : Program} {l : Launch} {e : Env} {s : State} {m : MethodId} {args : Array Value} {below : List Frame} {meth : Method} {c : Code} (bs : Nat) (D : va_G) (y : Y3) (n : Nat) (k15_ : Int32 → MI → MJ → Option (M2)) (k71_ : Int32 → Int32 → Int32 → Int32 → MI → MJ → Option (M2)) (k85_ : Int32 → Int32 → Int32 → Int32 → Int32 → MI → MJ → Option (M2)) (r : M2) (Gc : Gx p s m args meth c cX10_findCuts 7 RX10 bs D y none 76) (hk15_ : ∀ (x1 : Int32) (I : MI) (J : MJ) (H : Heap) (locs : List Loc) (ls : Array Slot), va_P D vwCl (wl bs y I J) H → va_S (FA bs) s.heap H locs → lv_has ls 7 [(0, .ref (bs + 44)), (1, .int x1)] → k15_ x1 I J = some r → W p l e (rmm 3 72) s m args below meth c H locs 0 0 (QV below args s bs D y r) (F0 m 15 ls [])) (hk71_ : ∀ (x1 : Int32) (x2 : Int32) (x3 : Int32) (x4 : Int32) (I : MI) (J : MJ) (H : Heap) (locs : List Loc) (ls : Array Slot), va_P D vwCl (wl bs y I J) H → va_S (FA bs) s.heap H locs → lv_has ls 7 [(0, .ref (bs + 44)), (1, .int x1), (2, .int x2), (3, .int x3), (4, .int x4)] → k71_ x1 x2 x3 x4 I J = some r → W p l e (rmm 3 72) s m args below meth c H locs 0 0 (QV below args s bs D y r) (F0 m 71 ls [])) (hk85_ : ∀ (x1 : Int32) (x2 : Int32) (x3 : Int32) (x4 : Int32) (x5 : Int32) (I : MI) (J : MJ) (H : Heap) (locs : List Loc) (ls : Array Slot), va_P D vwCl (wl bs y I J) H → va_S (FA bs) s.heap H locs → lv_has ls 7 [(0, .ref (bs + 44)), (1, .int x1), (2, .int x2), (3, .int x3), (4, .int x4), (5, .int x5)] → k85_ x1 x2 x3 x4 x5 I J = some r → W p l e (rmm 3 72) s m args below meth c H locs 0 0 (QV below args s bs D y r) (F0 m 85 ls [])) (x1 : Int32) (x2 : Int32) (x3 : Int32) (x4 : Int32) (x5 : Int32) (I : MI) (J : MJ) (H : Heap) (locs : List Loc) (ls : Array Slot) (hP : va_P D vwCl (wl bs y I J) H) (hS : va_S (FA bs) s.heap H locs) (hl : lv_has ls 7 [(0, .ref (bs + 44)), (1, .int x1), (2, .int x2), (3, .int x3), (4, .int x4), (5, .int x5)]) (h : fX10_findCuts_85 n k15_ k71_ k85_ x1 x2 x3 x4 x5 I J = some r) : W p l e (rmm 3 72) s m args below meth c H locs 0 0 (QV below args s bs D y r) (F0 m 85 ls []) := by
  obtain ⟨hx, hb, hml, hown, hts, hK, hN, hL, hr, hlocks, hcb⟩ := id Gc
  unfold fX10_findCuts_85 at h
  refine lv_iload hx hb dX10_findCuts_85 (lv_at hl 5 rfl) ?_
  refine lv_aload_n hx hb dX10_findCuts_87 rfl (lv_at hl 0 rfl) ?_
  refine g_R (C := RX10) (T := TX10) (N := 49) (ci := 10) 44 17 53 hx hb hts hown hK hP in_X10 rfl hcb okF_44_17 rfc_44_17 fl_162 dX10_findCuts_88 ?_
  refine lv_iload_n hx hb dX10_findCuts_91 rfl (lv_at hl 3 rfl) ?_
  obtain ⟨hi92, h⟩ := if_s1 h
  refine a_I 53 hx hb hK hP hcb aln_53 hi92 dX10_findCuts_92 ?_
  refine lv_icmp_gt (tgt := 135) hx hb dX10_findCuts_93 (by decide) (fun c93 => ?_) (fun c93 => ?_)
  · replace h := if_t c93 h
    refine lv_iinc (v := (x4 + (1 : Int32))) (lv' := [(4, .int (x4 + (1 : Int32))), (0, .ref (bs + 44)), (1, .int x1), (2, .int x2), (3, .int x3), (5, .int x5)]) hx hb dX10_findCuts_135 hl (k := 4) rfl rfl (by decide) rfl (fun ls hl => ?_)
    refine lv_goto (tgt := 71) hx hb dX10_findCuts_138 (by decide) ?_
    exact hk71_ x1 x2 x3 (x4 + (1 : Int32)) I J _ _ _ hP hS (lv_sub hl [1, 2, 3, 4, 0] rfl) h
  · replace h := if_f c93 h
    refine lv_aload_n hx hb dX10_findCuts_96 rfl (lv_at hl 0 rfl) ?_
    refine lv_iload_n hx hb dX10_findCuts_97 rfl (lv_at hl 2 rfl) ?_
    refine lv_iload hx hb dX10_findCuts_98 (lv_at hl 4 rfl) ?_
    obtain ⟨r100, er100, h⟩ := bd_s1 h
    refine c_VI (k := 44) (ci := 10) (As := [.int x2, .int x4]) (rest := []) hx hb hml hown hts hK hN hL hP hS (cX10_partOf_ l bs D y hcb n x2 x4 I J r100 er100) ok_X10_partOf ov_X10_partOf ml_126 ⟨Nat.le_of_ble_eq_true rfl, Nat.le_of_ble_eq_true rfl⟩ rfl hcb kd_44 hl.1 rfl rfl (Nat.le_of_ble_eq_true rfl) ⟨Nat.zero_le _, Nat.zero_le _⟩ dX10_findCuts_100 (fun H locs hP hS => ?_)
    refine lv_aload_n hx hb dX10_findCuts_103 rfl (lv_at hl 0 rfl) ?_
    refine lv_iload_n hx hb dX10_findCuts_104 rfl (lv_at hl 3 rfl) ?_
    refine lv_iload hx hb dX10_findCuts_105 (lv_at hl 5 rfl) ?_
    obtain ⟨r107, er107, h⟩ := bd_s1 h
    refine c_VI (k := 44) (ci := 10) (As := [.int x3, .int x5]) (rest := [.int r100.1]) hx hb hml hown hts hK hN hL hP hS (cX10_partOf_ l bs D y hcb n x3 x5 r100.2.1 r100.2.2 r107 er107) ok_X10_partOf ov_X10_partOf ml_126 ⟨Nat.le_of_ble_eq_true rfl, Nat.le_of_ble_eq_true rfl⟩ rfl hcb kd_44 hl.1 rfl rfl (Nat.le_of_ble_eq_true rfl) ⟨Nat.zero_le _, Nat.zero_le _⟩ dX10_findCuts_107 (fun H locs hP hS => ?_)
    refine lv_ior hx hb dX10_findCuts_110 ?_
    obtain ⟨v111, ev111, h⟩ := lt_s1 h
    refine top_i ev111 ?_
    refine lv_istore (lv' := [(6, .int v111), (0, .ref (bs + 44)), (1, .int x1), (2, .int x2), (3, .int x3), (4, .int x4), (5, .int x5)]) hx hb dX10_findCuts_111 hl (by decide) rfl (fun ls hl => ?_)
    refine lv_iload hx hb dX10_findCuts_113 (lv_at hl 0 rfl) ?_
    obtain ⟨r115, er115, h⟩ := bd_s1 h
    refine c_SI (As := [.int v111]) (rest := []) hx hb hml hown hts hK hN hL hP hS (cX10_many_ l bs D y hcb n v111 r107.2.1 r107.2.2 r115 er115) ok_X10_many ov_X10_many ml_124 ⟨Nat.le_of_ble_eq_true rfl, Nat.le_of_ble_eq_true rfl⟩ hl.1 rfl rfl (Nat.le_of_ble_eq_true rfl) ⟨Nat.zero_le _, Nat.zero_le _⟩ dX10_findCuts_115 (fun H locs hP hS => ?_)
    refine lv_iconst (v := (4 : Int32)) hx hb dX10_findCuts_118 (by decide) ?_
    refine lv_icmp_gt (tgt := 129) hx hb dX10_findCuts_119 (by decide) (fun c119 => ?_) (fun c119 => ?_)
    · replace h := if_t c119 h
      exact wX10_findCuts_129 bs D y n k15_ k71_ k85_ r Gc hk15_ hk71_ hk85_ x1 x2 x3 x4 x5 r115.2.1 r115.2.2 _ _ _ hP hS (lv_sub hl [1, 2, 3, 4, 5, 6] rfl) h
    · replace h := if_f c119 h
      refine lv_aload_n hx hb dX10_findCuts_122 rfl (lv_at hl 1 rfl) ?_
      refine lv_iload_n hx hb dX10_findCuts_123 rfl (lv_at hl 2 rfl) ?_
      refine lv_iload hx hb dX10_findCuts_124 (lv_at hl 0 rfl) ?_
      obtain ⟨r126, er126, h⟩ := bd_s1 h
      refine c_VV (k := 44) (ci := 10) (As := [.int x1, .int v111]) (rest := []) hx hb hml hown hts hK hN hL hP hS (cX10_enters_ l bs D y hcb n x1 v111 r115.2.1 r115.2.2 r126 er126) ok_X10_enters ov_X10_enters ml_127 ⟨Nat.le_of_ble_eq_true rfl, Nat.le_of_ble_eq_true rfl⟩ rfl hcb kd_44 hl.1 rfl rfl (Nat.le_of_ble_eq_true rfl) ⟨Nat.zero_le _, Nat.zero_le _⟩ dX10_findCuts_126 (fun H locs hP hS => ?_)
      exact wX10_findCuts_129 bs D y n k15_ k71_ k85_ r Gc hk15_ hk71_ hk85_ x1 x2 x3 x4 x5 r126.1 r126.2 _ _ _ hP hS (lv_sub hl [1, 2, 3, 4, 5, 6] rfl) h
theorem vX10_findCuts_85 {p : Program} {l : Launch} {e : Env} {s : State} {m : MethodId} {args : Array Value} {below : List Frame} {meth : Method} {c : Code} (bs : Nat) (D : va_G) (y : Y3) (n : Nat) (k15_ : Int32 → MI → MJ → Option (M2)) (k71_ : Int32 → Int32 → Int32 → Int32 → MI → MJ → Option (M2)) (r : M2) (Gc : Gx p s m args meth c cX10_findCuts 7 RX10 bs D y none 76) (hk15_ : ∀ (x1 : Int32) (I : MI) (J : MJ) (H : Heap) (locs : List Loc) (ls : Array Slot), va_P D vwCl (wl bs y I J) H → va_S (FA bs) s.heap H locs → lv_has ls 7 [(0, .ref (bs + 44)), (1, .int x1)] → k15_ x1 I J = some r → W p l e (rmm 3 72) s m args below meth c H locs 0 0 (QV below args s bs D y r) (F0 m 15 ls [])) (hk71_ : ∀ (x1 : Int32) (x2 : Int32) (x3 : Int32) (x4 : Int32) (I : MI) (J : MJ) (H : Heap) (locs : List Loc) (ls : Array Slot), va_P D vwCl (wl bs y I J) H → va_S (FA bs) s.heap H locs → lv_has ls 7 [(0, .ref (bs + 44)), (1, .int x1), (2, .int x2), (3, .int x3), (4, .int x4)] → k71_ x1 x2 x3 x4 I J = some r → W p l e (rmm 3 72) s m args below meth c H locs 0 0 (QV below args s bs D y r) (F0 m 71 ls [])) : ∀ (q : Nat) (x1 : Int32) (x2 : Int32) (x3 : Int32) (x4 : Int32) (x5 : Int32) (I : MI) (J : MJ) (H : Heap) (locs : List Loc) (ls : Array Slot), va_P D vwCl (wl bs y I J) H → va_S (FA bs) s.heap H locs → lv_has ls 7 [(0, .ref (bs + 44)), (1, .int x1), (2, .int x2), (3, .int x3), (4, .int x4), (5, .int x5)] → lX10_findCuts_85 n k15_ k71_ q x1 x2 x3 x4 x5 I J = some r → W p l e (rmm 3 72) s m args below meth c H locs 0 0 (QV below args s bs D y r) (F0 m 85 ls []) := by
  intro q
  induction q with
  | zero =>
    intro x1 x2 x3 x4 x5 I J H locs ls hP hS hl h
    have h : (none : Option (M2)) = some r := h
    cases h
  | succ q ih =>
    intro x1 x2 x3 x4 x5 I J H locs ls hP hS hl h
    have h : fX10_findCuts_85 n k15_ k71_ (lX10_findCuts_85 n k15_ k71_ q) x1 x2 x3 x4 x5 I J = some r := h
    exact wX10_findCuts_85 bs D y n k15_ k71_ (lX10_findCuts_85 n k15_ k71_ q) r Gc hk15_ hk71_ ih x1 x2 x3 x4 x5 I J H locs ls hP hS hl h
set_option maxHeartbeats 4000000 in
set_option maxRecDepth 100000 in
theorem wX10_findCuts_71 {p : Program} {l : Launch} {e : Env} {s : State} {m : MethodId} {args : Array Value} {below : List Frame} {meth : Method} {c : Code} (bs : Nat) (D : va_G) (y : Y3) (n : Nat) (k15_ : Int32 → MI → MJ → Option (M2)) (k71_ : Int32 → Int32 → Int32 → Int32 → MI → MJ → Option (M2)) (r : M2) (Gc : Gx p s m args meth c cX10_findCuts 7 RX10 bs D y none 76) (hk15_ : ∀ (x1 : Int32) (I : MI) (J : MJ) (H : Heap) (locs : List Loc) (ls : Array Slot), va_P D vwCl (wl bs y I J) H → va_S (FA bs) s.heap H locs → lv_has ls 7 [(0, .ref (bs + 44)), (1, .int x1)] → k15_ x1 I J = some r → W p l e (rmm 3 72) s m args below meth c H locs 0 0 (QV below args s bs D y r) (F0 m 15 ls [])) (hk71_ : ∀ (x1 : Int32) (x2 : Int32) (x3 : Int32) (x4 : Int32) (I : MI) (J : MJ) (H : Heap) (locs : List Loc) (ls : Array Slot), va_P D vwCl (wl bs y I J) H → va_S (FA bs) s.heap H locs → lv_has ls 7 [(0, .ref (bs + 44)), (1, .int x1), (2, .int x2), (3, .int x3), (4, .int x4)] → k71_ x1 x2 x3 x4 I J = some r → W p l e (rmm 3 72) s m args below meth c H locs 0 0 (QV below args s bs D y r) (F0 m 71 ls [])) (x1 : Int32) (x2 : Int32) (x3 : Int32) (x4 : Int32) (I : MI) (J : MJ) (H : Heap) (locs : List Loc) (ls : Array Slot) (hP : va_P D vwCl (wl bs y I J) H) (hS : va_S (FA bs) s.heap H locs) (hl : lv_has ls 7 [(0, .ref (bs + 44)), (1, .int x1), (2, .int x2), (3, .int x3), (4, .int x4)]) (h : fX10_findCuts_71 n k15_ k71_ x1 x2 x3 x4 I J = some r) : W p l e (rmm 3 72) s m args below meth c H locs 0 0 (QV below args s bs D y r) (F0 m 71 ls []) := by
  obtain ⟨hx, hb, hml, hown, hts, hK, hN, hL, hr, hlocks, hcb⟩ := id Gc
  unfold fX10_findCuts_71 at h
  refine lv_iload hx hb dX10_findCuts_71 (lv_at hl 4 rfl) ?_
  refine lv_aload_n hx hb dX10_findCuts_73 rfl (lv_at hl 0 rfl) ?_
  refine g_R (C := RX10) (T := TX10) (N := 49) (ci := 10) 44 17 53 hx hb hts hown hK hP in_X10 rfl hcb okF_44_17 rfc_44_17 fl_162 dX10_findCuts_74 ?_
  refine lv_iload_n hx hb dX10_findCuts_77 rfl (lv_at hl 2 rfl) ?_
  obtain ⟨hi78, h⟩ := if_s1 h
  refine a_I 53 hx hb hK hP hcb aln_53 hi78 dX10_findCuts_78 ?_
  refine lv_icmp_gt (tgt := 141) hx hb dX10_findCuts_79 (by decide) (fun c79 => ?_) (fun c79 => ?_)
  · replace h := if_t c79 h
    refine lv_aload_n hx hb dX10_findCuts_141 rfl (lv_at hl 0 rfl) ?_
    refine g_R (C := RX10) (T := TX10) (N := 49) (ci := 10) 44 18 54 hx hb hts hown hK hP in_X10 rfl hcb okF_44_18 rfc_44_18 fl_160 dX10_findCuts_142 ?_
    refine lv_iload_n hx hb dX10_findCuts_145 rfl (lv_at hl 1 rfl) ?_
    refine lv_aload_n hx hb dX10_findCuts_146 rfl (lv_at hl 0 rfl) ?_
    refine lv_aload_n hx hb dX10_findCuts_147 rfl (lv_at hl 0 rfl) ?_
    refine g_R (C := RX10) (T := TX10) (N := 49) (ci := 10) 44 16 52 hx hb hts hown hK hP in_X10 rfl hcb okF_44_16 rfc_44_16 fl_161 dX10_findCuts_148 ?_
    refine lv_bipush (v := (40 : Int32)) hx hb dX10_findCuts_151 (by decide) ?_
    refine lv_iload_n hx hb dX10_findCuts_153 rfl (lv_at hl 1 rfl) ?_
    refine lv_imul hx hb dX10_findCuts_154 ?_
    obtain ⟨hi155, h⟩ := if_s1 h
    refine a_I 52 hx hb hK hP hcb aln_52 hi155 dX10_findCuts_155 ?_
    obtain ⟨r156, er156, h⟩ := bd_s1 h
    refine c_VI (k := 44) (ci := 10) (As := [.int (I 52 (((40 : Int32) * x1)).toNatClampNeg)]) (rest := [.int x1, .ref (bs + 54)]) hx hb hml hown hts hK hN hL hP hS (cX10_depthOf_ l bs D y hcb n (I 52 (((40 : Int32) * x1)).toNatClampNeg) I J r156 er156) ok_X10_depthOf ov_X10_depthOf ml_123 ⟨Nat.le_of_ble_eq_true rfl, Nat.le_of_ble_eq_true rfl⟩ rfl hcb kd_44 hl.1 rfl rfl (Nat.le_of_ble_eq_true rfl) ⟨Nat.zero_le _, Nat.zero_le _⟩ dX10_findCuts_156 (fun H locs hP hS => ?_)
    obtain ⟨hi159, h⟩ := if_s1 h
    obtain ⟨I159, eI159, h⟩ := lt_s1 h
    refine t_I 54 eI159 hx hb hK hP hS hcb aln_54 hi159 dX10_findCuts_159 (fun H locs hP hS => ?_)
    exact wX10_findCuts_160 bs D y n k15_ r Gc hk15_ x1 I159 r156.2.2 _ _ _ hP hS (lv_sub hl [0, 1] rfl) h
  · replace h := if_f c79 h
    refine lv_iconst (v := (0 : Int32)) hx hb dX10_findCuts_82 (by decide) ?_
    refine lv_istore (lv' := [(5, .int (0 : Int32)), (0, .ref (bs + 44)), (1, .int x1), (2, .int x2), (3, .int x3), (4, .int x4)]) hx hb dX10_findCuts_83 hl (by decide) rfl (fun ls hl => ?_)
    exact vX10_findCuts_85 bs D y n k15_ k71_ r Gc hk15_ hk71_ n x1 x2 x3 x4 (0 : Int32) I J _ _ _ hP hS (lv_sub hl [1, 2, 3, 4, 5, 0] rfl) h
theorem vX10_findCuts_71 {p : Program} {l : Launch} {e : Env} {s : State} {m : MethodId} {args : Array Value} {below : List Frame} {meth : Method} {c : Code} (bs : Nat) (D : va_G) (y : Y3) (n : Nat) (k15_ : Int32 → MI → MJ → Option (M2)) (r : M2) (Gc : Gx p s m args meth c cX10_findCuts 7 RX10 bs D y none 76) (hk15_ : ∀ (x1 : Int32) (I : MI) (J : MJ) (H : Heap) (locs : List Loc) (ls : Array Slot), va_P D vwCl (wl bs y I J) H → va_S (FA bs) s.heap H locs → lv_has ls 7 [(0, .ref (bs + 44)), (1, .int x1)] → k15_ x1 I J = some r → W p l e (rmm 3 72) s m args below meth c H locs 0 0 (QV below args s bs D y r) (F0 m 15 ls [])) : ∀ (q : Nat) (x1 : Int32) (x2 : Int32) (x3 : Int32) (x4 : Int32) (I : MI) (J : MJ) (H : Heap) (locs : List Loc) (ls : Array Slot), va_P D vwCl (wl bs y I J) H → va_S (FA bs) s.heap H locs → lv_has ls 7 [(0, .ref (bs + 44)), (1, .int x1), (2, .int x2), (3, .int x3), (4, .int x4)] → lX10_findCuts_71 n k15_ q x1 x2 x3 x4 I J = some r → W p l e (rmm 3 72) s m args below meth c H locs 0 0 (QV below args s bs D y r) (F0 m 71 ls []) := by
  intro q
  induction q with
  | zero =>
    intro x1 x2 x3 x4 I J H locs ls hP hS hl h
    have h : (none : Option (M2)) = some r := h
    cases h
  | succ q ih =>
    intro x1 x2 x3 x4 I J H locs ls hP hS hl h
    have h : fX10_findCuts_71 n k15_ (lX10_findCuts_71 n k15_ q) x1 x2 x3 x4 I J = some r := h
    exact wX10_findCuts_71 bs D y n k15_ (lX10_findCuts_71 n k15_ q) r Gc hk15_ ih x1 x2 x3 x4 I J H locs ls hP hS hl h
set_option maxHeartbeats 4000000 in
set_option maxRecDepth 100000 in
theorem wX10_findCuts_15 {p : Program} {l : Launch} {e : Env} {s : State} {m : MethodId} {args : Array Value} {below : List Frame} {meth : Method} {c : Code} (bs : Nat) (D : va_G) (y : Y3) (n : Nat) (k15_ : Int32 → MI → MJ → Option (M2)) (r : M2) (Gc : Gx p s m args meth c cX10_findCuts 7 RX10 bs D y none 76) (hk15_ : ∀ (x1 : Int32) (I : MI) (J : MJ) (H : Heap) (locs : List Loc) (ls : Array Slot), va_P D vwCl (wl bs y I J) H → va_S (FA bs) s.heap H locs → lv_has ls 7 [(0, .ref (bs + 44)), (1, .int x1)] → k15_ x1 I J = some r → W p l e (rmm 3 72) s m args below meth c H locs 0 0 (QV below args s bs D y r) (F0 m 15 ls [])) (x1 : Int32) (I : MI) (J : MJ) (H : Heap) (locs : List Loc) (ls : Array Slot) (hP : va_P D vwCl (wl bs y I J) H) (hS : va_S (FA bs) s.heap H locs) (hl : lv_has ls 7 [(0, .ref (bs + 44)), (1, .int x1)]) (h : fX10_findCuts_15 n k15_ x1 I J = some r) : W p l e (rmm 3 72) s m args below meth c H locs 0 0 (QV below args s bs D y r) (F0 m 15 ls []) := by
  obtain ⟨hx, hb, hml, hown, hts, hK, hN, hL, hr, hlocks, hcb⟩ := id Gc
  unfold fX10_findCuts_15 at h
  refine lv_iload_n hx hb dX10_findCuts_15 rfl (lv_at hl 1 rfl) ?_
  refine lv_aload_n hx hb dX10_findCuts_16 rfl (lv_at hl 0 rfl) ?_
  refine g_I (C := RX10) (T := TX10) (N := 49) (ci := 10) 44 6 hx hb hts hown hK hP in_X10 rfl hcb okF_44_6 fl_141 dX10_findCuts_17 ?_
  refine lv_icmp_ge (tgt := 166) hx hb dX10_findCuts_20 (by decide) (fun c20 => ?_) (fun c20 => ?_)
  · replace h := if_t c20 h
    exact r_V hx hb hr hlocks hP hK hN hL hS h dX10_findCuts_166
  · replace h := if_f c20 h
    refine lv_aload_n hx hb dX10_findCuts_23 rfl (lv_at hl 0 rfl) ?_
    refine g_R (C := RX10) (T := TX10) (N := 49) (ci := 10) 44 17 53 hx hb hts hown hK hP in_X10 rfl hcb okF_44_17 rfc_44_17 fl_162 dX10_findCuts_24 ?_
    refine lv_iload_n hx hb dX10_findCuts_27 rfl (lv_at hl 1 rfl) ?_
    refine lv_iconst (v := (0 : Int32)) hx hb dX10_findCuts_28 (by decide) ?_
    obtain ⟨hi29, h⟩ := if_s1 h
    obtain ⟨I29, eI29, h⟩ := lt_s1 h
    refine t_I 53 eI29 hx hb hK hP hS hcb aln_53 hi29 dX10_findCuts_29 (fun H locs hP hS => ?_)
    refine lv_aload_n hx hb dX10_findCuts_30 rfl (lv_at hl 0 rfl) ?_
    refine g_R (C := RX10) (T := TX10) (N := 49) (ci := 10) 44 18 54 hx hb hts hown hK hP in_X10 rfl hcb okF_44_18 rfc_44_18 fl_160 dX10_findCuts_31 ?_
    refine lv_iload_n hx hb dX10_findCuts_34 rfl (lv_at hl 1 rfl) ?_
    refine lv_iconst (v := (0 : Int32)) hx hb dX10_findCuts_35 (by decide) ?_
    obtain ⟨hi36, h⟩ := if_s1 h
    obtain ⟨I36, eI36, h⟩ := lt_s1 h
    refine t_I 54 eI36 hx hb hK hP hS hcb aln_54 hi36 dX10_findCuts_36 (fun H locs hP hS => ?_)
    refine lv_aload_n hx hb dX10_findCuts_37 rfl (lv_at hl 0 rfl) ?_
    refine g_R (C := RX10) (T := TX10) (N := 49) (ci := 10) 44 0 45 hx hb hts hown hK hP in_X10 rfl hcb okF_44_0 rfc_44_0 fl_146 dX10_findCuts_38 ?_
    refine lv_iload_n hx hb dX10_findCuts_41 rfl (lv_at hl 1 rfl) ?_
    obtain ⟨hi42, h⟩ := if_s1 h
    refine a_I 45 hx hb hK hP hcb aln_45 hi42 dX10_findCuts_42 ?_
    refine lv_iconst (v := (2 : Int32)) hx hb dX10_findCuts_43 (by decide) ?_
    refine lv_icmp_eq (tgt := 50) hx hb dX10_findCuts_44 (by decide) (fun c44 => ?_) (fun c44 => ?_)
    · replace h := if_t c44 h
      refine lv_aload_n hx hb dX10_findCuts_50 rfl (lv_at hl 0 rfl) ?_
      refine g_R (C := RX10) (T := TX10) (N := 49) (ci := 10) 44 1 46 hx hb hts hown hK hP in_X10 rfl hcb okF_44_1 rfc_44_1 fl_153 dX10_findCuts_51 ?_
      refine lv_iload_n hx hb dX10_findCuts_54 rfl (lv_at hl 1 rfl) ?_
      obtain ⟨hi55, h⟩ := if_s1 h
      refine a_I 46 hx hb hK hP hcb aln_46 hi55 dX10_findCuts_55 ?_
      refine lv_iconst (v := (2 : Int32)) hx hb dX10_findCuts_56 (by decide) ?_
      refine lv_idiv hx hb dX10_findCuts_57 (by decide) ?_
      obtain ⟨v58, ev58, h⟩ := lt_s1 h
      refine top_i ev58 ?_
      refine lv_istore_n (lv' := [(2, .int v58), (0, .ref (bs + 44)), (1, .int x1)]) hx hb dX10_findCuts_58 rfl hl (by decide) rfl (fun ls hl => ?_)
      refine lv_aload_n hx hb dX10_findCuts_59 rfl (lv_at hl 1 rfl) ?_
      refine g_R (C := RX10) (T := TX10) (N := 49) (ci := 10) 44 2 47 hx hb hts hown hK hP in_X10 rfl hcb okF_44_2 rfc_44_2 fl_154 dX10_findCuts_60 ?_
      refine lv_iload_n hx hb dX10_findCuts_63 rfl (lv_at hl 2 rfl) ?_
      obtain ⟨hi64, h⟩ := if_s1 h
      refine a_I 47 hx hb hK hP hcb aln_47 hi64 dX10_findCuts_64 ?_
      refine lv_iconst (v := (2 : Int32)) hx hb dX10_findCuts_65 (by decide) ?_
      refine lv_idiv hx hb dX10_findCuts_66 (by decide) ?_
      obtain ⟨v67, ev67, h⟩ := lt_s1 h
      refine top_i ev67 ?_
      refine lv_istore_n (lv' := [(3, .int v67), (2, .int v58), (0, .ref (bs + 44)), (1, .int x1)]) hx hb dX10_findCuts_67 rfl hl (by decide) rfl (fun ls hl => ?_)
      refine lv_iconst (v := (0 : Int32)) hx hb dX10_findCuts_68 (by decide) ?_
      refine lv_istore (lv' := [(4, .int (0 : Int32)), (3, .int v67), (2, .int v58), (0, .ref (bs + 44)), (1, .int x1)]) hx hb dX10_findCuts_69 hl (by decide) rfl (fun ls hl => ?_)
      exact vX10_findCuts_71 bs D y n k15_ r Gc hk15_ n x1 v58 v67 (0 : Int32) I36 J _ _ _ hP hS (lv_sub hl [3, 4, 2, 1, 0] rfl) h
    · replace h := if_f c44 h
      refine lv_goto (tgt := 160) hx hb dX10_findCuts_47 (by decide) ?_
      exact wX10_findCuts_160 bs D y n k15_ r Gc hk15_ x1 I36 J _ _ _ hP hS (lv_sub hl [0, 1] rfl) h
theorem vX10_findCuts_15 {p : Program} {l : Launch} {e : Env} {s : State} {m : MethodId} {args : Array Value} {below : List Frame} {meth : Method} {c : Code} (bs : Nat) (D : va_G) (y : Y3) (n : Nat) (r : M2) (Gc : Gx p s m args meth c cX10_findCuts 7 RX10 bs D y none 76)  : ∀ (q : Nat) (x1 : Int32) (I : MI) (J : MJ) (H : Heap) (locs : List Loc) (ls : Array Slot), va_P D vwCl (wl bs y I J) H → va_S (FA bs) s.heap H locs → lv_has ls 7 [(0, .ref (bs + 44)), (1, .int x1)] → lX10_findCuts_15 n  q x1 I J = some r → W p l e (rmm 3 72) s m args below meth c H locs 0 0 (QV below args s bs D y r) (F0 m 15 ls []) := by
  intro q
  induction q with
  | zero =>
    intro x1 I J H locs ls hP hS hl h
    have h : (none : Option (M2)) = some r := h
    cases h
  | succ q ih =>
    intro x1 I J H locs ls hP hS hl h
    have h : fX10_findCuts_15 n  (lX10_findCuts_15 n  q) x1 I J = some r := h
    exact wX10_findCuts_15 bs D y n  (lX10_findCuts_15 n  q) r Gc  ih x1 I J H locs ls hP hS hl h
set_option maxHeartbeats 4000000 in
set_option maxRecDepth 100000 in
theorem cX10_findCuts_ (l : Launch) (bs : Nat) (D : va_G) (y : Y3) (hcb : 76 ≤ y.2.2.2) (n : Nat) (I : MI) (J : MJ) (r : M2) (h : fX10_findCuts n  I J = some r) : Met l yX10_findCuts (.code yX10_findCuts cX10_findCuts 7 none :: gtb) (rmm 3 72) (va_Pc [.ref (bs + 44)] (HB bs D y I J)) (QcV bs D y r) 0 0 (FA bs) := by
  refine Met.ofW (cc := cX10_findCuts) (maxL := 7) (ret := none) (by decide) rfl ?_
  intro p e s m args below meth c s₁ B hml hv
  obtain ⟨rfl, hP, hK, hN, hL⟩ := hv
  have hx := B.exec
  have hb := B.bytes
  have hr := B.returns
  have hts0 := atoms_spec (ws := .code yX10_findCuts cX10_findCuts 7 none :: gtb) B.pre
  have hts : ∀ w ∈ gtb, w.before [.ref (bs + 44)].toArray s = true := fun w hw => hts0 w (List.mem_cons_of_mem _ hw)
  have hown : s.vm.findClass RX10 = some m.cls := findClass_of_methodNamed B.named
  have hlocks := B.notSynchronized
  have hS : va_S (FA bs) s.heap s.heap [] := va_S.rf
  have Gc : Gx p s m [.ref (bs + 44)].toArray meth c cX10_findCuts 7 RX10 bs D y none 76 := ⟨hx, hb, hml, hown, hts, hK, hN, hL, hr, hlocks, hcb⟩
  have hl := lv_entry [.ref (bs + 44)] (n := 7) (Nat.le_of_ble_eq_true rfl)
  rw [lg_entry_eq]
  generalize (lg_sl [.ref (bs + 44)] ++ List.replicate (7 - (lg_sl [.ref (bs + 44)]).length) Slot.unset).toArray = ls at hl ⊢
  have hl : lv_has ls 7 [(0, .ref (bs + 44))] := hl
  change W p l e (rmm 3 72) s m [.ref (bs + 44)].toArray below meth c s.heap [] 0 0 (QV below [.ref (bs + 44)].toArray s bs D y r) (F0 m 0 ls [])
  unfold fX10_findCuts at h
  refine lv_aload_n hx hb dX10_findCuts_0 rfl (lv_at hl 0 rfl) ?_
  refine g_I (C := RX10) (T := TX10) (N := 49) (ci := 10) 44 15 hx hb hts hown hK hP in_X10 rfl hcb okF_44_15 fl_152 dX10_findCuts_1 ?_
  refine lv_if_eq (tgt := 8) hx hb dX10_findCuts_4 (by decide) (fun c4 => ?_) (fun c4 => ?_)
  · replace h := if_t c4 h
    refine lv_aload_n hx hb dX10_findCuts_8 rfl (lv_at hl 0 rfl) ?_
    refine lv_iconst (v := (1 : Int32)) hx hb dX10_findCuts_9 (by decide) ?_
    obtain ⟨I10, eI10, h⟩ := lt_s1 h
    refine s_I (C := RX10) (T := TX10) (N := 49) (ci := 10) (ty := .boolean) 44 15 eI10 tyX10 hx hb hts hown hK hP hS in_X10 tyX10_ok nmX10 rfl hcb okF_44_15 fl_152 rfl (by decide +kernel) (by decide) rfl dX10_findCuts_10 (fun H locs hP hS => ?_)
    refine lv_iconst (v := (0 : Int32)) hx hb dX10_findCuts_13 (by decide) ?_
    refine lv_istore_n (lv' := [(1, .int (0 : Int32)), (0, .ref (bs + 44))]) hx hb dX10_findCuts_14 rfl hl (by decide) rfl (fun ls hl => ?_)
    exact vX10_findCuts_15 bs D y n  r Gc  n (0 : Int32) I10 J _ _ _ hP hS (lv_sub hl [1, 0] rfl) h
  · replace h := if_f c4 h
    exact r_V hx hb hr hlocks hP hK hN hL hS h dX10_findCuts_7
theorem dX10_cuts_0 : decode cX10_cuts 0 = .ok (.aload_n 0, 1) := by decide +kernel
theorem dX10_cuts_1 : decode cX10_cuts 1 = .ok (.iload_n 1, 1) := by decide +kernel
theorem dX10_cuts_2 : decode cX10_cuts 2 = .ok (.invokevirtual 172, 3) := by decide +kernel
theorem dX10_cuts_5 : decode cX10_cuts 5 = .ok (.ifCond .ne 10, 3) := by decide +kernel
theorem dX10_cuts_8 : decode cX10_cuts 8 = .ok (.aload_n 0, 1) := by decide +kernel
theorem dX10_cuts_9 : decode cX10_cuts 9 = .ok (.bipush (-3), 2) := by decide +kernel
theorem dX10_cuts_11 : decode cX10_cuts 11 = .ok (.invokevirtual 151, 3) := by decide +kernel
theorem dX10_cuts_14 : decode cX10_cuts 14 = .ok (.ireturn, 1) := by decide +kernel
theorem dX10_cuts_15 : decode cX10_cuts 15 = .ok (.aload_n 0, 1) := by decide +kernel
theorem dX10_cuts_16 : decode cX10_cuts 16 = .ok (.getfield 7, 3) := by decide +kernel
theorem dX10_cuts_19 : decode cX10_cuts 19 = .ok (.iload_n 1, 1) := by decide +kernel
theorem dX10_cuts_20 : decode cX10_cuts 20 = .ok (.iaload, 1) := by decide +kernel
theorem dX10_cuts_21 : decode cX10_cuts 21 = .ok (.iconst 2, 1) := by decide +kernel
theorem dX10_cuts_22 : decode cX10_cuts 22 = .ok (.if_icmp .eq 10, 3) := by decide +kernel
theorem dX10_cuts_25 : decode cX10_cuts 25 = .ok (.aload_n 0, 1) := by decide +kernel
theorem dX10_cuts_26 : decode cX10_cuts 26 = .ok (.bipush (-5), 2) := by decide +kernel
theorem dX10_cuts_28 : decode cX10_cuts 28 = .ok (.invokevirtual 151, 3) := by decide +kernel
theorem dX10_cuts_31 : decode cX10_cuts 31 = .ok (.ireturn, 1) := by decide +kernel
theorem dX10_cuts_32 : decode cX10_cuts 32 = .ok (.aload_n 0, 1) := by decide +kernel
theorem dX10_cuts_33 : decode cX10_cuts 33 = .ok (.invokevirtual 200, 3) := by decide +kernel
theorem dX10_cuts_36 : decode cX10_cuts 36 = .ok (.aload_n 0, 1) := by decide +kernel
theorem dX10_cuts_37 : decode cX10_cuts 37 = .ok (.getfield 35, 3) := by decide +kernel
theorem dX10_cuts_40 : decode cX10_cuts 40 = .ok (.iload_n 1, 1) := by decide +kernel
theorem dX10_cuts_41 : decode cX10_cuts 41 = .ok (.iaload, 1) := by decide +kernel
theorem dX10_cuts_42 : decode cX10_cuts 42 = .ok (.ireturn, 1) := by decide +kernel
set_option maxHeartbeats 4000000 in
set_option maxRecDepth 100000 in
theorem cX10_cuts_ (l : Launch) (bs : Nat) (D : va_G) (y : Y3) (hcb : 76 ≤ y.2.2.2) (n : Nat) (x1 : Int32) (I : MI) (J : MJ) (r : Int32 × M2) (h : fX10_cuts n x1 I J = some r) : Met l yX10_cuts (.code yX10_cuts cX10_cuts 2 (some .int) :: gtb) (rmm 4 98) (va_Pc [.ref (bs + 44), .int x1] (HB bs D y I J)) (QcI bs D y r) 0 0 (FA bs) := by
  refine Met.ofW (cc := cX10_cuts) (maxL := 2) (ret := (some .int)) (by decide) rfl ?_
  intro p e s m args below meth c s₁ B hml hv
  obtain ⟨rfl, hP, hK, hN, hL⟩ := hv
  have hx := B.exec
  have hb := B.bytes
  have hr := B.returns
  have hts0 := atoms_spec (ws := .code yX10_cuts cX10_cuts 2 (some .int) :: gtb) B.pre
  have hts : ∀ w ∈ gtb, w.before [.ref (bs + 44), .int x1].toArray s = true := fun w hw => hts0 w (List.mem_cons_of_mem _ hw)
  have hown : s.vm.findClass RX10 = some m.cls := findClass_of_methodNamed B.named
  have hlocks := B.notSynchronized
  have hS : va_S (FA bs) s.heap s.heap [] := va_S.rf
  have Gc : Gx p s m [.ref (bs + 44), .int x1].toArray meth c cX10_cuts 2 RX10 bs D y (some .int) 76 := ⟨hx, hb, hml, hown, hts, hK, hN, hL, hr, hlocks, hcb⟩
  have hl := lv_entry [.ref (bs + 44), .int x1] (n := 2) (Nat.le_of_ble_eq_true rfl)
  rw [lg_entry_eq]
  generalize (lg_sl [.ref (bs + 44), .int x1] ++ List.replicate (2 - (lg_sl [.ref (bs + 44), .int x1]).length) Slot.unset).toArray = ls at hl ⊢
  have hl : lv_has ls 2 [(0, .ref (bs + 44)), (1, .int x1)] := hl
  change W p l e (rmm 4 98) s m [.ref (bs + 44), .int x1].toArray below meth c s.heap [] 0 0 (QI below [.ref (bs + 44), .int x1].toArray s bs D y r) (F0 m 0 ls [])
  unfold fX10_cuts at h
  refine lv_aload_n hx hb dX10_cuts_0 rfl (lv_at hl 0 rfl) ?_
  refine lv_iload_n hx hb dX10_cuts_1 rfl (lv_at hl 1 rfl) ?_
  obtain ⟨r2, er2, h⟩ := bd_s1 h
  refine c_VI (k := 44) (ci := 10) (As := [.int x1]) (rest := []) hx hb hml hown hts hK hN hL hP hS (cX10_isCell_ l bs D y hcb n x1 I J r2 er2) ok_X10_isCell ov_X10_isCell ml_122 ⟨Nat.le_of_ble_eq_true rfl, Nat.le_of_ble_eq_true rfl⟩ rfl hcb kd_44 hl.1 rfl rfl (Nat.le_of_ble_eq_true rfl) ⟨Nat.zero_le _, Nat.zero_le _⟩ dX10_cuts_2 (fun H locs hP hS => ?_)
  refine lv_if_ne (tgt := 15) hx hb dX10_cuts_5 (by decide) (fun c5 => ?_) (fun c5 => ?_)
  · replace h := if_f c5 h
    refine lv_aload_n hx hb dX10_cuts_15 rfl (lv_at hl 0 rfl) ?_
    refine g_R (C := RX10) (T := TX10) (N := 49) (ci := 10) 44 0 45 hx hb hts hown hK hP in_X10 rfl hcb okF_44_0 rfc_44_0 fl_146 dX10_cuts_16 ?_
    refine lv_iload_n hx hb dX10_cuts_19 rfl (lv_at hl 1 rfl) ?_
    obtain ⟨hi20, h⟩ := if_s1 h
    refine a_I 45 hx hb hK hP hcb aln_45 hi20 dX10_cuts_20 ?_
    refine lv_iconst (v := (2 : Int32)) hx hb dX10_cuts_21 (by decide) ?_
    refine lv_icmp_eq (tgt := 32) hx hb dX10_cuts_22 (by decide) (fun c22 => ?_) (fun c22 => ?_)
    · replace h := if_t c22 h
      refine lv_aload_n hx hb dX10_cuts_32 rfl (lv_at hl 0 rfl) ?_
      obtain ⟨r33, er33, h⟩ := bd_s1 h
      refine c_VV (k := 44) (ci := 10) (As := []) (rest := []) hx hb hml hown hts hK hN hL hP hS (cX10_findCuts_ l bs D y hcb n  r2.2.1 r2.2.2 r33 er33) ok_X10_findCuts ov_X10_findCuts ml_128 ⟨Nat.le_of_ble_eq_true rfl, Nat.le_of_ble_eq_true rfl⟩ rfl hcb kd_44 hl.1 rfl rfl (Nat.le_of_ble_eq_true rfl) ⟨Nat.zero_le _, Nat.zero_le _⟩ dX10_cuts_33 (fun H locs hP hS => ?_)
      refine lv_aload_n hx hb dX10_cuts_36 rfl (lv_at hl 0 rfl) ?_
      refine g_R (C := RX10) (T := TX10) (N := 49) (ci := 10) 44 17 53 hx hb hts hown hK hP in_X10 rfl hcb okF_44_17 rfc_44_17 fl_162 dX10_cuts_37 ?_
      refine lv_iload_n hx hb dX10_cuts_40 rfl (lv_at hl 1 rfl) ?_
      obtain ⟨hi41, h⟩ := if_s1 h
      refine a_I 53 hx hb hK hP hcb aln_53 hi41 dX10_cuts_41 ?_
      exact r_I hx hb hr hlocks hP hK hN hL hS h dX10_cuts_42
    · replace h := if_f c22 h
      refine lv_aload_n hx hb dX10_cuts_25 rfl (lv_at hl 0 rfl) ?_
      refine lv_bipush (v := (-5 : Int32)) hx hb dX10_cuts_26 (by decide) ?_
      obtain ⟨r28, er28, h⟩ := bd_s1 h
      refine c_VI (k := 44) (ci := 10) (As := [.int (-5 : Int32)]) (rest := []) hx hb hml hown hts hK hN hL hP hS (cX10_no_ l bs D y hcb n (-5 : Int32) r2.2.1 r2.2.2 r28 er28) ok_X10_no ov_X10_no ml_118 ⟨Nat.le_of_ble_eq_true rfl, Nat.le_of_ble_eq_true rfl⟩ rfl hcb kd_44 hl.1 rfl rfl (Nat.le_of_ble_eq_true rfl) ⟨Nat.zero_le _, Nat.zero_le _⟩ dX10_cuts_28 (fun H locs hP hS => ?_)
      exact r_I hx hb hr hlocks hP hK hN hL hS h dX10_cuts_31
  · replace h := if_t c5 h
    refine lv_aload_n hx hb dX10_cuts_8 rfl (lv_at hl 0 rfl) ?_
    refine lv_bipush (v := (-3 : Int32)) hx hb dX10_cuts_9 (by decide) ?_
    obtain ⟨r11, er11, h⟩ := bd_s1 h
    refine c_VI (k := 44) (ci := 10) (As := [.int (-3 : Int32)]) (rest := []) hx hb hml hown hts hK hN hL hP hS (cX10_no_ l bs D y hcb n (-3 : Int32) r2.2.1 r2.2.2 r11 er11) ok_X10_no ov_X10_no ml_118 ⟨Nat.le_of_ble_eq_true rfl, Nat.le_of_ble_eq_true rfl⟩ rfl hcb kd_44 hl.1 rfl rfl (Nat.le_of_ble_eq_true rfl) ⟨Nat.zero_le _, Nat.zero_le _⟩ dX10_cuts_11 (fun H locs hP hS => ?_)
    exact r_I hx hb hr hlocks hP hK hN hL hS h dX10_cuts_14
theorem dX10_cut_0 : decode cX10_cut 0 = .ok (.aload_n 0, 1) := by decide +kernel
theorem dX10_cut_1 : decode cX10_cut 1 = .ok (.iload_n 1, 1) := by decide +kernel
theorem dX10_cut_2 : decode cX10_cut 2 = .ok (.invokevirtual 172, 3) := by decide +kernel
theorem dX10_cut_5 : decode cX10_cut 5 = .ok (.ifCond .ne 8, 3) := by decide +kernel
theorem dX10_cut_8 : decode cX10_cut 8 = .ok (.bipush (-3), 2) := by decide +kernel
theorem dX10_cut_10 : decode cX10_cut 10 = .ok (.goto 19, 3) := by decide +kernel
theorem dX10_cut_13 : decode cX10_cut 13 = .ok (.aload_n 0, 1) := by decide +kernel
theorem dX10_cut_14 : decode cX10_cut 14 = .ok (.getfield 7, 3) := by decide +kernel
theorem dX10_cut_17 : decode cX10_cut 17 = .ok (.iload_n 1, 1) := by decide +kernel
theorem dX10_cut_18 : decode cX10_cut 18 = .ok (.iaload, 1) := by decide +kernel
theorem dX10_cut_19 : decode cX10_cut 19 = .ok (.iconst 2, 1) := by decide +kernel
theorem dX10_cut_20 : decode cX10_cut 20 = .ok (.if_icmp .eq 8, 3) := by decide +kernel
theorem dX10_cut_23 : decode cX10_cut 23 = .ok (.bipush (-5), 2) := by decide +kernel
theorem dX10_cut_25 : decode cX10_cut 25 = .ok (.goto 4, 3) := by decide +kernel
theorem dX10_cut_28 : decode cX10_cut 28 = .ok (.iconst 0, 1) := by decide +kernel
theorem dX10_cut_29 : decode cX10_cut 29 = .ok (.istore_n 3, 1) := by decide +kernel
theorem dX10_cut_30 : decode cX10_cut 30 = .ok (.aload_n 0, 1) := by decide +kernel
theorem dX10_cut_31 : decode cX10_cut 31 = .ok (.invokevirtual 200, 3) := by decide +kernel
theorem dX10_cut_34 : decode cX10_cut 34 = .ok (.iload_n 3, 1) := by decide +kernel
theorem dX10_cut_35 : decode cX10_cut 35 = .ok (.ifCond .ne 24, 3) := by decide +kernel
theorem dX10_cut_38 : decode cX10_cut 38 = .ok (.iload_n 2, 1) := by decide +kernel
theorem dX10_cut_39 : decode cX10_cut 39 = .ok (.i2l, 1) := by decide +kernel
theorem dX10_cut_40 : decode cX10_cut 40 = .ok (.lconst 0, 1) := by decide +kernel
theorem dX10_cut_41 : decode cX10_cut 41 = .ok (.aload_n 0, 1) := by decide +kernel
theorem dX10_cut_42 : decode cX10_cut 42 = .ok (.getfield 35, 3) := by decide +kernel
theorem dX10_cut_45 : decode cX10_cut 45 = .ok (.iload_n 1, 1) := by decide +kernel
theorem dX10_cut_46 : decode cX10_cut 46 = .ok (.iaload, 1) := by decide +kernel
theorem dX10_cut_47 : decode cX10_cut 47 = .ok (.iconst 1, 1) := by decide +kernel
theorem dX10_cut_48 : decode cX10_cut 48 = .ok (.isub, 1) := by decide +kernel
theorem dX10_cut_49 : decode cX10_cut 49 = .ok (.i2l, 1) := by decide +kernel
theorem dX10_cut_50 : decode cX10_cut 50 = .ok (.invokestatic 164, 3) := by decide +kernel
theorem dX10_cut_53 : decode cX10_cut 53 = .ok (.ifCond .ne 6, 3) := by decide +kernel
theorem dX10_cut_56 : decode cX10_cut 56 = .ok (.bipush (-3), 2) := by decide +kernel
theorem dX10_cut_58 : decode cX10_cut 58 = .ok (.istore_n 3, 1) := by decide +kernel
theorem dX10_cut_59 : decode cX10_cut 59 = .ok (.iload_n 3, 1) := by decide +kernel
theorem dX10_cut_60 : decode cX10_cut 60 = .ok (.ifCond .ne 15, 3) := by decide +kernel
theorem dX10_cut_63 : decode cX10_cut 63 = .ok (.aload_n 0, 1) := by decide +kernel
theorem dX10_cut_64 : decode cX10_cut 64 = .ok (.getfield 32, 3) := by decide +kernel
theorem dX10_cut_67 : decode cX10_cut 67 = .ok (.bipush 40, 2) := by decide +kernel
theorem dX10_cut_69 : decode cX10_cut 69 = .ok (.iload_n 1, 1) := by decide +kernel
theorem dX10_cut_70 : decode cX10_cut 70 = .ok (.imul, 1) := by decide +kernel
theorem dX10_cut_71 : decode cX10_cut 71 = .ok (.iload_n 2, 1) := by decide +kernel
theorem dX10_cut_72 : decode cX10_cut 72 = .ok (.iadd, 1) := by decide +kernel
theorem dX10_cut_73 : decode cX10_cut 73 = .ok (.iaload, 1) := by decide +kernel
theorem dX10_cut_74 : decode cX10_cut 74 = .ok (.ireturn, 1) := by decide +kernel
theorem dX10_cut_75 : decode cX10_cut 75 = .ok (.aload_n 0, 1) := by decide +kernel
theorem dX10_cut_76 : decode cX10_cut 76 = .ok (.iload_n 3, 1) := by decide +kernel
theorem dX10_cut_77 : decode cX10_cut 77 = .ok (.invokevirtual 151, 3) := by decide +kernel
theorem dX10_cut_80 : decode cX10_cut 80 = .ok (.istore 4, 2) := by decide +kernel
theorem dX10_cut_82 : decode cX10_cut 82 = .ok (.iconst 0, 1) := by decide +kernel
theorem dX10_cut_83 : decode cX10_cut 83 = .ok (.ireturn, 1) := by decide +kernel
set_option maxHeartbeats 4000000 in
set_option maxRecDepth 100000 in
theorem wX10_cut_59 {p : Program} {l : Launch} {e : Env} {s : State} {m : MethodId} {args : Array Value} {below : List Frame} {meth : Method} {c : Code} (bs : Nat) (D : va_G) (y : Y3) (n : Nat) (r : Int32 × M2) (Gc : Gx p s m args meth c cX10_cut 5 RX10 bs D y (some .int) 76)  (x1 : Int32) (x2 : Int32) (x3 : Int32) (I : MI) (J : MJ) (H : Heap) (locs : List Loc) (ls : Array Slot) (hP : va_P D vwCl (wl bs y I J) H) (hS : va_S (FA bs) s.heap H locs) (hl : lv_has ls 5 [(0, .ref (bs + 44)), (1, .int x1), (2, .int x2), (3, .int x3)]) (h : fX10_cut_59 n  x1 x2 x3 I J = some r) : W p l e (rmm 4 98) s m args below meth c H locs 0 0 (QI below args s bs D y r) (F0 m 59 ls []) := by
  obtain ⟨hx, hb, hml, hown, hts, hK, hN, hL, hr, hlocks, hcb⟩ := id Gc
  unfold fX10_cut_59 at h
  refine lv_iload_n hx hb dX10_cut_59 rfl (lv_at hl 3 rfl) ?_
  refine lv_if_ne (tgt := 75) hx hb dX10_cut_60 (by decide) (fun c60 => ?_) (fun c60 => ?_)
  · replace h := if_f c60 h
    refine lv_aload_n hx hb dX10_cut_75 rfl (lv_at hl 0 rfl) ?_
    refine lv_iload_n hx hb dX10_cut_76 rfl (lv_at hl 3 rfl) ?_
    obtain ⟨r77, er77, h⟩ := bd_s1 h
    refine c_VI (k := 44) (ci := 10) (As := [.int x3]) (rest := []) hx hb hml hown hts hK hN hL hP hS (cX10_no_ l bs D y hcb n x3 I J r77 er77) ok_X10_no ov_X10_no ml_118 ⟨Nat.le_of_ble_eq_true rfl, Nat.le_of_ble_eq_true rfl⟩ rfl hcb kd_44 hl.1 rfl rfl (Nat.le_of_ble_eq_true rfl) ⟨Nat.zero_le _, Nat.zero_le _⟩ dX10_cut_77 (fun H locs hP hS => ?_)
    obtain ⟨v80, ev80, h⟩ := lt_s1 h
    refine top_i ev80 ?_
    refine lv_istore (lv' := [(4, .int v80), (0, .ref (bs + 44)), (1, .int x1), (2, .int x2), (3, .int x3)]) hx hb dX10_cut_80 hl (by decide) rfl (fun ls hl => ?_)
    refine lv_iconst (v := (0 : Int32)) hx hb dX10_cut_82 (by decide) ?_
    exact r_I hx hb hr hlocks hP hK hN hL hS h dX10_cut_83
  · replace h := if_t c60 h
    refine lv_aload_n hx hb dX10_cut_63 rfl (lv_at hl 0 rfl) ?_
    refine g_R (C := RX10) (T := TX10) (N := 49) (ci := 10) 44 16 52 hx hb hts hown hK hP in_X10 rfl hcb okF_44_16 rfc_44_16 fl_161 dX10_cut_64 ?_
    refine lv_bipush (v := (40 : Int32)) hx hb dX10_cut_67 (by decide) ?_
    refine lv_iload_n hx hb dX10_cut_69 rfl (lv_at hl 1 rfl) ?_
    refine lv_imul hx hb dX10_cut_70 ?_
    refine lv_iload_n hx hb dX10_cut_71 rfl (lv_at hl 2 rfl) ?_
    refine lv_iadd hx hb dX10_cut_72 ?_
    obtain ⟨hi73, h⟩ := if_s1 h
    refine a_I 52 hx hb hK hP hcb aln_52 hi73 dX10_cut_73 ?_
    exact r_I hx hb hr hlocks hP hK hN hL hS h dX10_cut_74
set_option maxHeartbeats 4000000 in
set_option maxRecDepth 100000 in
theorem wX10_cut_29 {p : Program} {l : Launch} {e : Env} {s : State} {m : MethodId} {args : Array Value} {below : List Frame} {meth : Method} {c : Code} (bs : Nat) (D : va_G) (y : Y3) (n : Nat) (r : Int32 × M2) (Gc : Gx p s m args meth c cX10_cut 5 RX10 bs D y (some .int) 76)  (x1 : Int32) (x2 : Int32) (s0 : Int32) (I : MI) (J : MJ) (H : Heap) (locs : List Loc) (ls : Array Slot) (hP : va_P D vwCl (wl bs y I J) H) (hS : va_S (FA bs) s.heap H locs) (hl : lv_has ls 5 [(0, .ref (bs + 44)), (1, .int x1), (2, .int x2)]) (h : fX10_cut_29 n  x1 x2 s0 I J = some r) : W p l e (rmm 4 98) s m args below meth c H locs 0 0 (QI below args s bs D y r) (F0 m 29 ls [.int s0]) := by
  obtain ⟨hx, hb, hml, hown, hts, hK, hN, hL, hr, hlocks, hcb⟩ := id Gc
  unfold fX10_cut_29 at h
  refine lv_istore_n (lv' := [(3, .int s0), (0, .ref (bs + 44)), (1, .int x1), (2, .int x2)]) hx hb dX10_cut_29 rfl hl (by decide) rfl (fun ls hl => ?_)
  refine lv_aload_n hx hb dX10_cut_30 rfl (lv_at hl 1 rfl) ?_
  obtain ⟨r31, er31, h⟩ := bd_s1 h
  refine c_VV (k := 44) (ci := 10) (As := []) (rest := []) hx hb hml hown hts hK hN hL hP hS (cX10_findCuts_ l bs D y hcb n  I J r31 er31) ok_X10_findCuts ov_X10_findCuts ml_128 ⟨Nat.le_of_ble_eq_true rfl, Nat.le_of_ble_eq_true rfl⟩ rfl hcb kd_44 hl.1 rfl rfl (Nat.le_of_ble_eq_true rfl) ⟨Nat.zero_le _, Nat.zero_le _⟩ dX10_cut_31 (fun H locs hP hS => ?_)
  refine lv_iload_n hx hb dX10_cut_34 rfl (lv_at hl 0 rfl) ?_
  refine lv_if_ne (tgt := 59) hx hb dX10_cut_35 (by decide) (fun c35 => ?_) (fun c35 => ?_)
  · replace h := if_f c35 h
    exact wX10_cut_59 bs D y n  r Gc  x1 x2 s0 r31.1 r31.2 _ _ _ hP hS (lv_sub hl [1, 2, 3, 0] rfl) h
  · replace h := if_t c35 h
    refine lv_iload_n hx hb dX10_cut_38 rfl (lv_at hl 3 rfl) ?_
    refine lv_i2l (v := (x2).toInt64) hx hb dX10_cut_39 rfl ?_
    refine lv_lconst (v := (0 : Int64)) hx hb dX10_cut_40 (by decide) ?_
    refine lv_aload_n hx hb dX10_cut_41 rfl (lv_at hl 1 rfl) ?_
    refine g_R (C := RX10) (T := TX10) (N := 49) (ci := 10) 44 17 53 hx hb hts hown hK hP in_X10 rfl hcb okF_44_17 rfc_44_17 fl_162 dX10_cut_42 ?_
    refine lv_iload_n hx hb dX10_cut_45 rfl (lv_at hl 2 rfl) ?_
    obtain ⟨hi46, h⟩ := if_s1 h
    refine a_I 53 hx hb hK hP hcb aln_53 hi46 dX10_cut_46 ?_
    refine lv_iconst (v := (1 : Int32)) hx hb dX10_cut_47 (by decide) ?_
    refine lv_isub hx hb dX10_cut_48 ?_
    refine lv_i2l (v := (((r31.1 53 (x1).toNatClampNeg) - (1 : Int32))).toInt64) hx hb dX10_cut_49 rfl ?_
    obtain ⟨r50, er50, h⟩ := bd_s1 h
    refine c_SI (As := [.long (x2).toInt64, .long (0 : Int64), .long (((r31.1 53 (x1).toNatClampNeg) - (1 : Int32))).toInt64]) (rest := []) hx hb hml hown hts hK hN hL hP hS (cX10_isIn_ l bs D y hcb n (x2).toInt64 (0 : Int64) (((r31.1 53 (x1).toNatClampNeg) - (1 : Int32))).toInt64 r31.1 r31.2 r50 er50) ok_X10_isIn ov_X10_isIn ml_120 ⟨Nat.le_of_ble_eq_true rfl, Nat.le_of_ble_eq_true rfl⟩ hl.1 rfl rfl (Nat.le_of_ble_eq_true rfl) ⟨Nat.zero_le _, Nat.zero_le _⟩ dX10_cut_50 (fun H locs hP hS => ?_)
    refine lv_if_ne (tgt := 59) hx hb dX10_cut_53 (by decide) (fun c53 => ?_) (fun c53 => ?_)
    · replace h := if_f c53 h
      exact wX10_cut_59 bs D y n  r Gc  x1 x2 s0 r50.2.1 r50.2.2 _ _ _ hP hS (lv_sub hl [1, 2, 3, 0] rfl) h
    · replace h := if_t c53 h
      refine lv_bipush (v := (-3 : Int32)) hx hb dX10_cut_56 (by decide) ?_
      refine lv_istore_n (lv' := [(3, .int (-3 : Int32)), (0, .ref (bs + 44)), (1, .int x1), (2, .int x2)]) hx hb dX10_cut_58 rfl hl (by decide) rfl (fun ls hl => ?_)
      exact wX10_cut_59 bs D y n  r Gc  x1 x2 (-3 : Int32) r50.2.1 r50.2.2 _ _ _ hP hS (lv_sub hl [1, 2, 3, 0] rfl) h
set_option maxHeartbeats 4000000 in
set_option maxRecDepth 100000 in
theorem cX10_cut_ (l : Launch) (bs : Nat) (D : va_G) (y : Y3) (hcb : 76 ≤ y.2.2.2) (n : Nat) (x1 : Int32) (x2 : Int32) (I : MI) (J : MJ) (r : Int32 × M2) (h : fX10_cut n x1 x2 I J = some r) : Met l yX10_cut (.code yX10_cut cX10_cut 5 (some .int) :: gtb) (rmm 4 98) (va_Pc [.ref (bs + 44), .int x1, .int x2] (HB bs D y I J)) (QcI bs D y r) 0 0 (FA bs) := by
  refine Met.ofW (cc := cX10_cut) (maxL := 5) (ret := (some .int)) (by decide) rfl ?_
  intro p e s m args below meth c s₁ B hml hv
  obtain ⟨rfl, hP, hK, hN, hL⟩ := hv
  have hx := B.exec
  have hb := B.bytes
  have hr := B.returns
  have hts0 := atoms_spec (ws := .code yX10_cut cX10_cut 5 (some .int) :: gtb) B.pre
  have hts : ∀ w ∈ gtb, w.before [.ref (bs + 44), .int x1, .int x2].toArray s = true := fun w hw => hts0 w (List.mem_cons_of_mem _ hw)
  have hown : s.vm.findClass RX10 = some m.cls := findClass_of_methodNamed B.named
  have hlocks := B.notSynchronized
  have hS : va_S (FA bs) s.heap s.heap [] := va_S.rf
  have Gc : Gx p s m [.ref (bs + 44), .int x1, .int x2].toArray meth c cX10_cut 5 RX10 bs D y (some .int) 76 := ⟨hx, hb, hml, hown, hts, hK, hN, hL, hr, hlocks, hcb⟩
  have hl := lv_entry [.ref (bs + 44), .int x1, .int x2] (n := 5) (Nat.le_of_ble_eq_true rfl)
  rw [lg_entry_eq]
  generalize (lg_sl [.ref (bs + 44), .int x1, .int x2] ++ List.replicate (5 - (lg_sl [.ref (bs + 44), .int x1, .int x2]).length) Slot.unset).toArray = ls at hl ⊢
  have hl : lv_has ls 5 [(0, .ref (bs + 44)), (1, .int x1), (2, .int x2)] := hl
  change W p l e (rmm 4 98) s m [.ref (bs + 44), .int x1, .int x2].toArray below meth c s.heap [] 0 0 (QI below [.ref (bs + 44), .int x1, .int x2].toArray s bs D y r) (F0 m 0 ls [])
  unfold fX10_cut at h
  refine lv_aload_n hx hb dX10_cut_0 rfl (lv_at hl 0 rfl) ?_
  refine lv_iload_n hx hb dX10_cut_1 rfl (lv_at hl 1 rfl) ?_
  obtain ⟨r2, er2, h⟩ := bd_s1 h
  refine c_VI (k := 44) (ci := 10) (As := [.int x1]) (rest := []) hx hb hml hown hts hK hN hL hP hS (cX10_isCell_ l bs D y hcb n x1 I J r2 er2) ok_X10_isCell ov_X10_isCell ml_122 ⟨Nat.le_of_ble_eq_true rfl, Nat.le_of_ble_eq_true rfl⟩ rfl hcb kd_44 hl.1 rfl rfl (Nat.le_of_ble_eq_true rfl) ⟨Nat.zero_le _, Nat.zero_le _⟩ dX10_cut_2 (fun H locs hP hS => ?_)
  refine lv_if_ne (tgt := 13) hx hb dX10_cut_5 (by decide) (fun c5 => ?_) (fun c5 => ?_)
  · replace h := if_f c5 h
    refine lv_aload_n hx hb dX10_cut_13 rfl (lv_at hl 0 rfl) ?_
    refine g_R (C := RX10) (T := TX10) (N := 49) (ci := 10) 44 0 45 hx hb hts hown hK hP in_X10 rfl hcb okF_44_0 rfc_44_0 fl_146 dX10_cut_14 ?_
    refine lv_iload_n hx hb dX10_cut_17 rfl (lv_at hl 1 rfl) ?_
    obtain ⟨hi18, h⟩ := if_s1 h
    refine a_I 45 hx hb hK hP hcb aln_45 hi18 dX10_cut_18 ?_
    refine lv_iconst (v := (2 : Int32)) hx hb dX10_cut_19 (by decide) ?_
    refine lv_icmp_eq (tgt := 28) hx hb dX10_cut_20 (by decide) (fun c20 => ?_) (fun c20 => ?_)
    · replace h := if_t c20 h
      refine lv_iconst (v := (0 : Int32)) hx hb dX10_cut_28 (by decide) ?_
      exact wX10_cut_29 bs D y n  r Gc  x1 x2 (0 : Int32) r2.2.1 r2.2.2 _ _ _ hP hS (lv_sub hl [0, 1, 2] rfl) h
    · replace h := if_f c20 h
      refine lv_bipush (v := (-5 : Int32)) hx hb dX10_cut_23 (by decide) ?_
      refine lv_goto (tgt := 29) hx hb dX10_cut_25 (by decide) ?_
      exact wX10_cut_29 bs D y n  r Gc  x1 x2 (-5 : Int32) r2.2.1 r2.2.2 _ _ _ hP hS (lv_sub hl [0, 1, 2] rfl) h
  · replace h := if_t c5 h
    refine lv_bipush (v := (-3 : Int32)) hx hb dX10_cut_8 (by decide) ?_
    refine lv_goto (tgt := 29) hx hb dX10_cut_10 (by decide) ?_
    exact wX10_cut_29 bs D y n  r Gc  x1 x2 (-3 : Int32) r2.2.1 r2.2.2 _ _ _ hP hS (lv_sub hl [0, 1, 2] rfl) h
theorem dX10_depth_0 : decode cX10_depth 0 = .ok (.aload_n 0, 1) := by decide +kernel
theorem dX10_depth_1 : decode cX10_depth 1 = .ok (.iload_n 1, 1) := by decide +kernel
theorem dX10_depth_2 : decode cX10_depth 2 = .ok (.invokevirtual 172, 3) := by decide +kernel
theorem dX10_depth_5 : decode cX10_depth 5 = .ok (.ifCond .ne 10, 3) := by decide +kernel
theorem dX10_depth_8 : decode cX10_depth 8 = .ok (.aload_n 0, 1) := by decide +kernel
theorem dX10_depth_9 : decode cX10_depth 9 = .ok (.bipush (-3), 2) := by decide +kernel
theorem dX10_depth_11 : decode cX10_depth 11 = .ok (.invokevirtual 151, 3) := by decide +kernel
theorem dX10_depth_14 : decode cX10_depth 14 = .ok (.ireturn, 1) := by decide +kernel
theorem dX10_depth_15 : decode cX10_depth 15 = .ok (.aload_n 0, 1) := by decide +kernel
theorem dX10_depth_16 : decode cX10_depth 16 = .ok (.invokevirtual 200, 3) := by decide +kernel
theorem dX10_depth_19 : decode cX10_depth 19 = .ok (.aload_n 0, 1) := by decide +kernel
theorem dX10_depth_20 : decode cX10_depth 20 = .ok (.getfield 38, 3) := by decide +kernel
theorem dX10_depth_23 : decode cX10_depth 23 = .ok (.iload_n 1, 1) := by decide +kernel
theorem dX10_depth_24 : decode cX10_depth 24 = .ok (.iaload, 1) := by decide +kernel
theorem dX10_depth_25 : decode cX10_depth 25 = .ok (.ireturn, 1) := by decide +kernel
set_option maxHeartbeats 4000000 in
set_option maxRecDepth 100000 in
theorem cX10_depth_ (l : Launch) (bs : Nat) (D : va_G) (y : Y3) (hcb : 76 ≤ y.2.2.2) (n : Nat) (x1 : Int32) (I : MI) (J : MJ) (r : Int32 × M2) (h : fX10_depth n x1 I J = some r) : Met l yX10_depth (.code yX10_depth cX10_depth 2 (some .int) :: gtb) (rmm 4 98) (va_Pc [.ref (bs + 44), .int x1] (HB bs D y I J)) (QcI bs D y r) 0 0 (FA bs) := by
  refine Met.ofW (cc := cX10_depth) (maxL := 2) (ret := (some .int)) (by decide) rfl ?_
  intro p e s m args below meth c s₁ B hml hv
  obtain ⟨rfl, hP, hK, hN, hL⟩ := hv
  have hx := B.exec
  have hb := B.bytes
  have hr := B.returns
  have hts0 := atoms_spec (ws := .code yX10_depth cX10_depth 2 (some .int) :: gtb) B.pre
  have hts : ∀ w ∈ gtb, w.before [.ref (bs + 44), .int x1].toArray s = true := fun w hw => hts0 w (List.mem_cons_of_mem _ hw)
  have hown : s.vm.findClass RX10 = some m.cls := findClass_of_methodNamed B.named
  have hlocks := B.notSynchronized
  have hS : va_S (FA bs) s.heap s.heap [] := va_S.rf
  have Gc : Gx p s m [.ref (bs + 44), .int x1].toArray meth c cX10_depth 2 RX10 bs D y (some .int) 76 := ⟨hx, hb, hml, hown, hts, hK, hN, hL, hr, hlocks, hcb⟩
  have hl := lv_entry [.ref (bs + 44), .int x1] (n := 2) (Nat.le_of_ble_eq_true rfl)
  rw [lg_entry_eq]
  generalize (lg_sl [.ref (bs + 44), .int x1] ++ List.replicate (2 - (lg_sl [.ref (bs + 44), .int x1]).length) Slot.unset).toArray = ls at hl ⊢
  have hl : lv_has ls 2 [(0, .ref (bs + 44)), (1, .int x1)] := hl
  change W p l e (rmm 4 98) s m [.ref (bs + 44), .int x1].toArray below meth c s.heap [] 0 0 (QI below [.ref (bs + 44), .int x1].toArray s bs D y r) (F0 m 0 ls [])
  unfold fX10_depth at h
  refine lv_aload_n hx hb dX10_depth_0 rfl (lv_at hl 0 rfl) ?_
  refine lv_iload_n hx hb dX10_depth_1 rfl (lv_at hl 1 rfl) ?_
  obtain ⟨r2, er2, h⟩ := bd_s1 h
  refine c_VI (k := 44) (ci := 10) (As := [.int x1]) (rest := []) hx hb hml hown hts hK hN hL hP hS (cX10_isCell_ l bs D y hcb n x1 I J r2 er2) ok_X10_isCell ov_X10_isCell ml_122 ⟨Nat.le_of_ble_eq_true rfl, Nat.le_of_ble_eq_true rfl⟩ rfl hcb kd_44 hl.1 rfl rfl (Nat.le_of_ble_eq_true rfl) ⟨Nat.zero_le _, Nat.zero_le _⟩ dX10_depth_2 (fun H locs hP hS => ?_)
  refine lv_if_ne (tgt := 15) hx hb dX10_depth_5 (by decide) (fun c5 => ?_) (fun c5 => ?_)
  · replace h := if_f c5 h
    refine lv_aload_n hx hb dX10_depth_15 rfl (lv_at hl 0 rfl) ?_
    obtain ⟨r16, er16, h⟩ := bd_s1 h
    refine c_VV (k := 44) (ci := 10) (As := []) (rest := []) hx hb hml hown hts hK hN hL hP hS (cX10_findCuts_ l bs D y hcb n  r2.2.1 r2.2.2 r16 er16) ok_X10_findCuts ov_X10_findCuts ml_128 ⟨Nat.le_of_ble_eq_true rfl, Nat.le_of_ble_eq_true rfl⟩ rfl hcb kd_44 hl.1 rfl rfl (Nat.le_of_ble_eq_true rfl) ⟨Nat.zero_le _, Nat.zero_le _⟩ dX10_depth_16 (fun H locs hP hS => ?_)
    refine lv_aload_n hx hb dX10_depth_19 rfl (lv_at hl 0 rfl) ?_
    refine g_R (C := RX10) (T := TX10) (N := 49) (ci := 10) 44 18 54 hx hb hts hown hK hP in_X10 rfl hcb okF_44_18 rfc_44_18 fl_160 dX10_depth_20 ?_
    refine lv_iload_n hx hb dX10_depth_23 rfl (lv_at hl 1 rfl) ?_
    obtain ⟨hi24, h⟩ := if_s1 h
    refine a_I 54 hx hb hK hP hcb aln_54 hi24 dX10_depth_24 ?_
    exact r_I hx hb hr hlocks hP hK hN hL hS h dX10_depth_25
  · replace h := if_t c5 h
    refine lv_aload_n hx hb dX10_depth_8 rfl (lv_at hl 0 rfl) ?_
    refine lv_bipush (v := (-3 : Int32)) hx hb dX10_depth_9 (by decide) ?_
    obtain ⟨r11, er11, h⟩ := bd_s1 h
    refine c_VI (k := 44) (ci := 10) (As := [.int (-3 : Int32)]) (rest := []) hx hb hml hown hts hK hN hL hP hS (cX10_no_ l bs D y hcb n (-3 : Int32) r2.2.1 r2.2.2 r11 er11) ok_X10_no ov_X10_no ml_118 ⟨Nat.le_of_ble_eq_true rfl, Nat.le_of_ble_eq_true rfl⟩ rfl hcb kd_44 hl.1 rfl rfl (Nat.le_of_ble_eq_true rfl) ⟨Nat.zero_le _, Nat.zero_le _⟩ dX10_depth_11 (fun H locs hP hS => ?_)
    exact r_I hx hb hr hlocks hP hK hN hL hS h dX10_depth_14
theorem dX10_isOf_0 : decode cX10_isOf 0 = .ok (.aload_n 0, 1) := by decide +kernel
theorem dX10_isOf_1 : decode cX10_isOf 1 = .ok (.getfield 53, 3) := by decide +kernel
theorem dX10_isOf_4 : decode cX10_isOf 4 = .ok (.iload_n 1, 1) := by decide +kernel
theorem dX10_isOf_5 : decode cX10_isOf 5 = .ok (.iconst 2, 1) := by decide +kernel
theorem dX10_isOf_6 : decode cX10_isOf 6 = .ok (.idiv, 1) := by decide +kernel
theorem dX10_isOf_7 : decode cX10_isOf 7 = .ok (.baload, 1) := by decide +kernel
theorem dX10_isOf_8 : decode cX10_isOf 8 = .ok (.iload_n 1, 1) := by decide +kernel
theorem dX10_isOf_9 : decode cX10_isOf 9 = .ok (.iconst 2, 1) := by decide +kernel
theorem dX10_isOf_10 : decode cX10_isOf 10 = .ok (.irem, 1) := by decide +kernel
theorem dX10_isOf_11 : decode cX10_isOf 11 = .ok (.iconst 1, 1) := by decide +kernel
theorem dX10_isOf_12 : decode cX10_isOf 12 = .ok (.if_icmp .ne 7, 3) := by decide +kernel
theorem dX10_isOf_15 : decode cX10_isOf 15 = .ok (.iconst 1, 1) := by decide +kernel
theorem dX10_isOf_16 : decode cX10_isOf 16 = .ok (.goto 4, 3) := by decide +kernel
theorem dX10_isOf_19 : decode cX10_isOf 19 = .ok (.iconst 0, 1) := by decide +kernel
theorem dX10_isOf_20 : decode cX10_isOf 20 = .ok (.if_icmp .eq 7, 3) := by decide +kernel
theorem dX10_isOf_23 : decode cX10_isOf 23 = .ok (.iconst 1, 1) := by decide +kernel
theorem dX10_isOf_24 : decode cX10_isOf 24 = .ok (.goto 4, 3) := by decide +kernel
theorem dX10_isOf_27 : decode cX10_isOf 27 = .ok (.iconst 0, 1) := by decide +kernel
theorem dX10_isOf_28 : decode cX10_isOf 28 = .ok (.ireturn, 1) := by decide +kernel
set_option maxHeartbeats 4000000 in
set_option maxRecDepth 100000 in
theorem wX10_isOf_20 {p : Program} {l : Launch} {e : Env} {s : State} {m : MethodId} {args : Array Value} {below : List Frame} {meth : Method} {c : Code} (bs : Nat) (D : va_G) (y : Y3) (n : Nat) (r : Int32 × M2) (Gc : Gx p s m args meth c cX10_isOf 2 RX10 bs D y (some .boolean) 76)  (s0 : Int32) (s1 : Int32) (I : MI) (J : MJ) (H : Heap) (locs : List Loc) (ls : Array Slot) (hP : va_P D vwCl (wl bs y I J) H) (hS : va_S (FA bs) s.heap H locs) (hl : lv_has ls 2 []) (h : fX10_isOf_20 n  s0 s1 I J = some r) : W p l e (rmm 0 0) s m args below meth c H locs 0 0 (QI below args s bs D y r) (F0 m 20 ls [.int s1, .int s0]) := by
  obtain ⟨hx, hb, hml, hown, hts, hK, hN, hL, hr, hlocks, hcb⟩ := id Gc
  unfold fX10_isOf_20 at h
  refine lv_icmp_eq (tgt := 27) hx hb dX10_isOf_20 (by decide) (fun c20 => ?_) (fun c20 => ?_)
  · replace h := if_t c20 h
    refine lv_iconst (v := (0 : Int32)) hx hb dX10_isOf_27 (by decide) ?_
    exact r_Z hx hb hr hlocks hP hK hN hL hS (by decide) h dX10_isOf_28
  · replace h := if_f c20 h
    refine lv_iconst (v := (1 : Int32)) hx hb dX10_isOf_23 (by decide) ?_
    refine lv_goto (tgt := 28) hx hb dX10_isOf_24 (by decide) ?_
    exact r_Z hx hb hr hlocks hP hK hN hL hS (by decide) h dX10_isOf_28
set_option maxHeartbeats 4000000 in
set_option maxRecDepth 100000 in
theorem cX10_isOf_ (l : Launch) (bs : Nat) (D : va_G) (y : Y3) (hcb : 76 ≤ y.2.2.2) (n : Nat) (x1 : Int32) (I : MI) (J : MJ) (r : Int32 × M2) (h : fX10_isOf n x1 I J = some r) : Met l yX10_isOf (.code yX10_isOf cX10_isOf 2 (some .boolean) :: gtb) (rmm 0 0) (va_Pc [.ref (bs + 44), .int x1] (HB bs D y I J)) (QcI bs D y r) 0 0 (FA bs) := by
  refine Met.ofW (cc := cX10_isOf) (maxL := 2) (ret := (some .boolean)) (by decide) rfl ?_
  intro p e s m args below meth c s₁ B hml hv
  obtain ⟨rfl, hP, hK, hN, hL⟩ := hv
  have hx := B.exec
  have hb := B.bytes
  have hr := B.returns
  have hts0 := atoms_spec (ws := .code yX10_isOf cX10_isOf 2 (some .boolean) :: gtb) B.pre
  have hts : ∀ w ∈ gtb, w.before [.ref (bs + 44), .int x1].toArray s = true := fun w hw => hts0 w (List.mem_cons_of_mem _ hw)
  have hown : s.vm.findClass RX10 = some m.cls := findClass_of_methodNamed B.named
  have hlocks := B.notSynchronized
  have hS : va_S (FA bs) s.heap s.heap [] := va_S.rf
  have Gc : Gx p s m [.ref (bs + 44), .int x1].toArray meth c cX10_isOf 2 RX10 bs D y (some .boolean) 76 := ⟨hx, hb, hml, hown, hts, hK, hN, hL, hr, hlocks, hcb⟩
  have hl := lv_entry [.ref (bs + 44), .int x1] (n := 2) (Nat.le_of_ble_eq_true rfl)
  rw [lg_entry_eq]
  generalize (lg_sl [.ref (bs + 44), .int x1] ++ List.replicate (2 - (lg_sl [.ref (bs + 44), .int x1]).length) Slot.unset).toArray = ls at hl ⊢
  have hl : lv_has ls 2 [(0, .ref (bs + 44)), (1, .int x1)] := hl
  change W p l e (rmm 0 0) s m [.ref (bs + 44), .int x1].toArray below meth c s.heap [] 0 0 (QI below [.ref (bs + 44), .int x1].toArray s bs D y r) (F0 m 0 ls [])
  unfold fX10_isOf at h
  refine lv_aload_n hx hb dX10_isOf_0 rfl (lv_at hl 0 rfl) ?_
  refine g_R (C := RX10) (T := TX10) (N := 49) (ci := 10) 44 23 59 hx hb hts hown hK hP in_X10 rfl hcb okF_44_23 rfc_44_23 fl_163 dX10_isOf_1 ?_
  refine lv_iload_n hx hb dX10_isOf_4 rfl (lv_at hl 1 rfl) ?_
  refine lv_iconst (v := (2 : Int32)) hx hb dX10_isOf_5 (by decide) ?_
  refine lv_idiv hx hb dX10_isOf_6 (by decide) ?_
  obtain ⟨hi7, h⟩ := if_s1 h
  refine a_Z 59 hx hb hK hP hcb alZ_59 hi7 dX10_isOf_7 ?_
  refine lv_iload_n hx hb dX10_isOf_8 rfl (lv_at hl 1 rfl) ?_
  refine lv_iconst (v := (2 : Int32)) hx hb dX10_isOf_9 (by decide) ?_
  refine lv_irem hx hb dX10_isOf_10 (by decide) ?_
  refine lv_iconst (v := (1 : Int32)) hx hb dX10_isOf_11 (by decide) ?_
  refine lv_icmp_ne (tgt := 19) hx hb dX10_isOf_12 (by decide) (fun c12 => ?_) (fun c12 => ?_)
  · replace h := if_f c12 h
    refine lv_iconst (v := (0 : Int32)) hx hb dX10_isOf_19 (by decide) ?_
    exact wX10_isOf_20 bs D y n  r Gc  (I 59 ((x1 / (2 : Int32))).toNatClampNeg) (0 : Int32) I J _ _ _ hP hS (lv_sub hl [] rfl) h
  · replace h := if_t c12 h
    refine lv_iconst (v := (1 : Int32)) hx hb dX10_isOf_15 (by decide) ?_
    refine lv_goto (tgt := 20) hx hb dX10_isOf_16 (by decide) ?_
    exact wX10_isOf_20 bs D y n  r Gc  (I 59 ((x1 / (2 : Int32))).toNatClampNeg) (1 : Int32) I J _ _ _ hP hS (lv_sub hl [] rfl) h
theorem dX10_findBits_0 : decode cX10_findBits 0 = .ok (.iconst 0, 1) := by decide +kernel
theorem dX10_findBits_1 : decode cX10_findBits 1 = .ok (.istore_n 2, 1) := by decide +kernel
theorem dX10_findBits_2 : decode cX10_findBits 2 = .ok (.iconst 0, 1) := by decide +kernel
theorem dX10_findBits_3 : decode cX10_findBits 3 = .ok (.istore_n 3, 1) := by decide +kernel
theorem dX10_findBits_4 : decode cX10_findBits 4 = .ok (.iload_n 3, 1) := by decide +kernel
theorem dX10_findBits_5 : decode cX10_findBits 5 = .ok (.bipush 16, 2) := by decide +kernel
theorem dX10_findBits_7 : decode cX10_findBits 7 = .ok (.if_icmp .ge 165, 3) := by decide +kernel
theorem dX10_findBits_10 : decode cX10_findBits 10 = .ok (.iconst 0, 1) := by decide +kernel
theorem dX10_findBits_11 : decode cX10_findBits 11 = .ok (.istore 4, 2) := by decide +kernel
theorem dX10_findBits_13 : decode cX10_findBits 13 = .ok (.iload 4, 2) := by decide +kernel
theorem dX10_findBits_15 : decode cX10_findBits 15 = .ok (.iload_n 1, 1) := by decide +kernel
theorem dX10_findBits_16 : decode cX10_findBits 16 = .ok (.if_icmp .gt 131, 3) := by decide +kernel
theorem dX10_findBits_19 : decode cX10_findBits 19 = .ok (.aload_n 0, 1) := by decide +kernel
theorem dX10_findBits_20 : decode cX10_findBits 20 = .ok (.getfield 53, 3) := by decide +kernel
theorem dX10_findBits_23 : decode cX10_findBits 23 = .ok (.iload 4, 2) := by decide +kernel
theorem dX10_findBits_25 : decode cX10_findBits 25 = .ok (.aload_n 0, 1) := by decide +kernel
theorem dX10_findBits_26 : decode cX10_findBits 26 = .ok (.getfield 7, 3) := by decide +kernel
theorem dX10_findBits_29 : decode cX10_findBits 29 = .ok (.iload 4, 2) := by decide +kernel
theorem dX10_findBits_31 : decode cX10_findBits 31 = .ok (.iaload, 1) := by decide +kernel
theorem dX10_findBits_32 : decode cX10_findBits 32 = .ok (.iconst 2, 1) := by decide +kernel
theorem dX10_findBits_33 : decode cX10_findBits 33 = .ok (.if_icmp .ne 42, 3) := by decide +kernel
theorem dX10_findBits_36 : decode cX10_findBits 36 = .ok (.aload_n 0, 1) := by decide +kernel
theorem dX10_findBits_37 : decode cX10_findBits 37 = .ok (.getfield 19, 3) := by decide +kernel
theorem dX10_findBits_40 : decode cX10_findBits 40 = .ok (.iload 4, 2) := by decide +kernel
theorem dX10_findBits_42 : decode cX10_findBits 42 = .ok (.iaload, 1) := by decide +kernel
theorem dX10_findBits_43 : decode cX10_findBits 43 = .ok (.aload_n 0, 1) := by decide +kernel
theorem dX10_findBits_44 : decode cX10_findBits 44 = .ok (.aload_n 0, 1) := by decide +kernel
theorem dX10_findBits_45 : decode cX10_findBits 45 = .ok (.getfield 13, 3) := by decide +kernel
theorem dX10_findBits_48 : decode cX10_findBits 48 = .ok (.iload 4, 2) := by decide +kernel
theorem dX10_findBits_50 : decode cX10_findBits 50 = .ok (.iaload, 1) := by decide +kernel
theorem dX10_findBits_51 : decode cX10_findBits 51 = .ok (.invokevirtual 203, 3) := by decide +kernel
theorem dX10_findBits_54 : decode cX10_findBits 54 = .ok (.aload_n 0, 1) := by decide +kernel
theorem dX10_findBits_55 : decode cX10_findBits 55 = .ok (.aload_n 0, 1) := by decide +kernel
theorem dX10_findBits_56 : decode cX10_findBits 56 = .ok (.getfield 16, 3) := by decide +kernel
theorem dX10_findBits_59 : decode cX10_findBits 59 = .ok (.iload 4, 2) := by decide +kernel
theorem dX10_findBits_61 : decode cX10_findBits 61 = .ok (.iaload, 1) := by decide +kernel
theorem dX10_findBits_62 : decode cX10_findBits 62 = .ok (.invokevirtual 203, 3) := by decide +kernel
theorem dX10_findBits_65 : decode cX10_findBits 65 = .ok (.invokestatic 206, 3) := by decide +kernel
theorem dX10_findBits_68 : decode cX10_findBits 68 = .ok (.ifCond .eq 7, 3) := by decide +kernel
theorem dX10_findBits_71 : decode cX10_findBits 71 = .ok (.iconst 1, 1) := by decide +kernel
theorem dX10_findBits_72 : decode cX10_findBits 72 = .ok (.goto 4, 3) := by decide +kernel
theorem dX10_findBits_75 : decode cX10_findBits 75 = .ok (.iconst 0, 1) := by decide +kernel
theorem dX10_findBits_76 : decode cX10_findBits 76 = .ok (.bastore, 1) := by decide +kernel
theorem dX10_findBits_77 : decode cX10_findBits 77 = .ok (.iconst 0, 1) := by decide +kernel
theorem dX10_findBits_78 : decode cX10_findBits 78 = .ok (.istore 5, 2) := by decide +kernel
theorem dX10_findBits_80 : decode cX10_findBits 80 = .ok (.iload 5, 2) := by decide +kernel
theorem dX10_findBits_82 : decode cX10_findBits 82 = .ok (.aload_n 0, 1) := by decide +kernel
theorem dX10_findBits_83 : decode cX10_findBits 83 = .ok (.getfield 47, 3) := by decide +kernel
theorem dX10_findBits_86 : decode cX10_findBits 86 = .ok (.iload_n 1, 1) := by decide +kernel
theorem dX10_findBits_87 : decode cX10_findBits 87 = .ok (.iaload, 1) := by decide +kernel
theorem dX10_findBits_88 : decode cX10_findBits 88 = .ok (.if_icmp .ge 53, 3) := by decide +kernel
theorem dX10_findBits_91 : decode cX10_findBits 91 = .ok (.iload 4, 2) := by decide +kernel
theorem dX10_findBits_93 : decode cX10_findBits 93 = .ok (.iload_n 1, 1) := by decide +kernel
theorem dX10_findBits_94 : decode cX10_findBits 94 = .ok (.if_icmp .ge 47, 3) := by decide +kernel
theorem dX10_findBits_97 : decode cX10_findBits 97 = .ok (.aload_n 0, 1) := by decide +kernel
theorem dX10_findBits_98 : decode cX10_findBits 98 = .ok (.getfield 44, 3) := by decide +kernel
theorem dX10_findBits_101 : decode cX10_findBits 101 = .ok (.iconst 4, 1) := by decide +kernel
theorem dX10_findBits_102 : decode cX10_findBits 102 = .ok (.iload_n 1, 1) := by decide +kernel
theorem dX10_findBits_103 : decode cX10_findBits 103 = .ok (.imul, 1) := by decide +kernel
theorem dX10_findBits_104 : decode cX10_findBits 104 = .ok (.iload 5, 2) := by decide +kernel
theorem dX10_findBits_106 : decode cX10_findBits 106 = .ok (.iadd, 1) := by decide +kernel
theorem dX10_findBits_107 : decode cX10_findBits 107 = .ok (.iaload, 1) := by decide +kernel
theorem dX10_findBits_108 : decode cX10_findBits 108 = .ok (.iload 4, 2) := by decide +kernel
theorem dX10_findBits_110 : decode cX10_findBits 110 = .ok (.if_icmp .ne 25, 3) := by decide +kernel
theorem dX10_findBits_113 : decode cX10_findBits 113 = .ok (.aload_n 0, 1) := by decide +kernel
theorem dX10_findBits_114 : decode cX10_findBits 114 = .ok (.getfield 53, 3) := by decide +kernel
theorem dX10_findBits_117 : decode cX10_findBits 117 = .ok (.iload 4, 2) := by decide +kernel
theorem dX10_findBits_119 : decode cX10_findBits 119 = .ok (.iload_n 3, 1) := by decide +kernel
theorem dX10_findBits_120 : decode cX10_findBits 120 = .ok (.iload 5, 2) := by decide +kernel
theorem dX10_findBits_122 : decode cX10_findBits 122 = .ok (.ishr, 1) := by decide +kernel
theorem dX10_findBits_123 : decode cX10_findBits 123 = .ok (.iconst 1, 1) := by decide +kernel
theorem dX10_findBits_124 : decode cX10_findBits 124 = .ok (.iand, 1) := by decide +kernel
theorem dX10_findBits_125 : decode cX10_findBits 125 = .ok (.iconst 1, 1) := by decide +kernel
theorem dX10_findBits_126 : decode cX10_findBits 126 = .ok (.if_icmp .ne 7, 3) := by decide +kernel
theorem dX10_findBits_129 : decode cX10_findBits 129 = .ok (.iconst 1, 1) := by decide +kernel
theorem dX10_findBits_130 : decode cX10_findBits 130 = .ok (.goto 4, 3) := by decide +kernel
theorem dX10_findBits_133 : decode cX10_findBits 133 = .ok (.iconst 0, 1) := by decide +kernel
theorem dX10_findBits_134 : decode cX10_findBits 134 = .ok (.bastore, 1) := by decide +kernel
theorem dX10_findBits_135 : decode cX10_findBits 135 = .ok (.iinc 5 1, 3) := by decide +kernel
theorem dX10_findBits_138 : decode cX10_findBits 138 = .ok (.goto (-58), 3) := by decide +kernel
theorem dX10_findBits_141 : decode cX10_findBits 141 = .ok (.iinc 4 1, 3) := by decide +kernel
theorem dX10_findBits_144 : decode cX10_findBits 144 = .ok (.goto (-131), 3) := by decide +kernel
theorem dX10_findBits_147 : decode cX10_findBits 147 = .ok (.iload_n 2, 1) := by decide +kernel
theorem dX10_findBits_148 : decode cX10_findBits 148 = .ok (.aload_n 0, 1) := by decide +kernel
theorem dX10_findBits_149 : decode cX10_findBits 149 = .ok (.getfield 53, 3) := by decide +kernel
theorem dX10_findBits_152 : decode cX10_findBits 152 = .ok (.iload_n 1, 1) := by decide +kernel
theorem dX10_findBits_153 : decode cX10_findBits 153 = .ok (.baload, 1) := by decide +kernel
theorem dX10_findBits_154 : decode cX10_findBits 154 = .ok (.ifCond .eq 9, 3) := by decide +kernel
theorem dX10_findBits_157 : decode cX10_findBits 157 = .ok (.iconst 1, 1) := by decide +kernel
theorem dX10_findBits_158 : decode cX10_findBits 158 = .ok (.iload_n 3, 1) := by decide +kernel
theorem dX10_findBits_159 : decode cX10_findBits 159 = .ok (.ishl, 1) := by decide +kernel
theorem dX10_findBits_160 : decode cX10_findBits 160 = .ok (.goto 4, 3) := by decide +kernel
theorem dX10_findBits_163 : decode cX10_findBits 163 = .ok (.iconst 0, 1) := by decide +kernel
theorem dX10_findBits_164 : decode cX10_findBits 164 = .ok (.ior, 1) := by decide +kernel
theorem dX10_findBits_165 : decode cX10_findBits 165 = .ok (.istore_n 2, 1) := by decide +kernel
theorem dX10_findBits_166 : decode cX10_findBits 166 = .ok (.iinc 3 1, 3) := by decide +kernel
theorem dX10_findBits_169 : decode cX10_findBits 169 = .ok (.goto (-165), 3) := by decide +kernel
theorem dX10_findBits_172 : decode cX10_findBits 172 = .ok (.aload_n 0, 1) := by decide +kernel
theorem dX10_findBits_173 : decode cX10_findBits 173 = .ok (.getfield 50, 3) := by decide +kernel
theorem dX10_findBits_176 : decode cX10_findBits 176 = .ok (.iload_n 1, 1) := by decide +kernel
theorem dX10_findBits_177 : decode cX10_findBits 177 = .ok (.iload_n 2, 1) := by decide +kernel
theorem dX10_findBits_178 : decode cX10_findBits 178 = .ok (.iastore, 1) := by decide +kernel
theorem dX10_findBits_179 : decode cX10_findBits 179 = .ok (.return_, 1) := by decide +kernel
set_option maxHeartbeats 4000000 in
set_option maxRecDepth 100000 in
theorem wX10_findBits_164 {p : Program} {l : Launch} {e : Env} {s : State} {m : MethodId} {args : Array Value} {below : List Frame} {meth : Method} {c : Code} (bs : Nat) (D : va_G) (y : Y3) (n : Nat) (k4_ : Int32 → Int32 → Int32 → MI → MJ → Option (M2)) (r : M2) (Gc : Gx p s m args meth c cX10_findBits 6 RX10 bs D y none 76) (hk4_ : ∀ (x1 : Int32) (x2 : Int32) (x3 : Int32) (I : MI) (J : MJ) (H : Heap) (locs : List Loc) (ls : Array Slot), va_P D vwCl (wl bs y I J) H → va_S (FA bs) s.heap H locs → lv_has ls 6 [(0, .ref (bs + 44)), (1, .int x1), (2, .int x2), (3, .int x3)] → k4_ x1 x2 x3 I J = some r → W p l e (rmm 1 22) s m args below meth c H locs 0 0 (QV below args s bs D y r) (F0 m 4 ls [])) (x1 : Int32) (x3 : Int32) (s0 : Int32) (s1 : Int32) (I : MI) (J : MJ) (H : Heap) (locs : List Loc) (ls : Array Slot) (hP : va_P D vwCl (wl bs y I J) H) (hS : va_S (FA bs) s.heap H locs) (hl : lv_has ls 6 [(0, .ref (bs + 44)), (1, .int x1), (3, .int x3)]) (h : fX10_findBits_164 n k4_ x1 x3 s0 s1 I J = some r) : W p l e (rmm 1 22) s m args below meth c H locs 0 0 (QV below args s bs D y r) (F0 m 164 ls [.int s1, .int s0]) := by
  obtain ⟨hx, hb, hml, hown, hts, hK, hN, hL, hr, hlocks, hcb⟩ := id Gc
  unfold fX10_findBits_164 at h
  refine lv_ior hx hb dX10_findBits_164 ?_
  obtain ⟨v165, ev165, h⟩ := lt_s1 h
  refine top_i ev165 ?_
  refine lv_istore_n (lv' := [(2, .int v165), (0, .ref (bs + 44)), (1, .int x1), (3, .int x3)]) hx hb dX10_findBits_165 rfl hl (by decide) rfl (fun ls hl => ?_)
  refine lv_iinc (v := (x3 + (1 : Int32))) (lv' := [(3, .int (x3 + (1 : Int32))), (2, .int v165), (0, .ref (bs + 44)), (1, .int x1)]) hx hb dX10_findBits_166 hl (k := 3) rfl rfl (by decide) rfl (fun ls hl => ?_)
  refine lv_goto (tgt := 4) hx hb dX10_findBits_169 (by decide) ?_
  exact hk4_ x1 v165 (x3 + (1 : Int32)) I J _ _ _ hP hS (lv_sub hl [2, 3, 1, 0] rfl) h
set_option maxHeartbeats 4000000 in
set_option maxRecDepth 100000 in
theorem wX10_findBits_141 {p : Program} {l : Launch} {e : Env} {s : State} {m : MethodId} {args : Array Value} {below : List Frame} {meth : Method} {c : Code} (bs : Nat) (D : va_G) (y : Y3) (n : Nat) (k4_ : Int32 → Int32 → Int32 → MI → MJ → Option (M2)) (k13_ : Int32 → Int32 → Int32 → Int32 → MI → MJ → Option (M2)) (r : M2) (Gc : Gx p s m args meth c cX10_findBits 6 RX10 bs D y none 76) (hk4_ : ∀ (x1 : Int32) (x2 : Int32) (x3 : Int32) (I : MI) (J : MJ) (H : Heap) (locs : List Loc) (ls : Array Slot), va_P D vwCl (wl bs y I J) H → va_S (FA bs) s.heap H locs → lv_has ls 6 [(0, .ref (bs + 44)), (1, .int x1), (2, .int x2), (3, .int x3)] → k4_ x1 x2 x3 I J = some r → W p l e (rmm 1 22) s m args below meth c H locs 0 0 (QV below args s bs D y r) (F0 m 4 ls [])) (hk13_ : ∀ (x1 : Int32) (x2 : Int32) (x3 : Int32) (x4 : Int32) (I : MI) (J : MJ) (H : Heap) (locs : List Loc) (ls : Array Slot), va_P D vwCl (wl bs y I J) H → va_S (FA bs) s.heap H locs → lv_has ls 6 [(0, .ref (bs + 44)), (1, .int x1), (2, .int x2), (3, .int x3), (4, .int x4)] → k13_ x1 x2 x3 x4 I J = some r → W p l e (rmm 1 22) s m args below meth c H locs 0 0 (QV below args s bs D y r) (F0 m 13 ls [])) (x1 : Int32) (x2 : Int32) (x3 : Int32) (x4 : Int32) (I : MI) (J : MJ) (H : Heap) (locs : List Loc) (ls : Array Slot) (hP : va_P D vwCl (wl bs y I J) H) (hS : va_S (FA bs) s.heap H locs) (hl : lv_has ls 6 [(0, .ref (bs + 44)), (1, .int x1), (2, .int x2), (3, .int x3), (4, .int x4)]) (h : fX10_findBits_141 n k4_ k13_ x1 x2 x3 x4 I J = some r) : W p l e (rmm 1 22) s m args below meth c H locs 0 0 (QV below args s bs D y r) (F0 m 141 ls []) := by
  obtain ⟨hx, hb, hml, hown, hts, hK, hN, hL, hr, hlocks, hcb⟩ := id Gc
  unfold fX10_findBits_141 at h
  refine lv_iinc (v := (x4 + (1 : Int32))) (lv' := [(4, .int (x4 + (1 : Int32))), (0, .ref (bs + 44)), (1, .int x1), (2, .int x2), (3, .int x3)]) hx hb dX10_findBits_141 hl (k := 4) rfl rfl (by decide) rfl (fun ls hl => ?_)
  refine lv_goto (tgt := 13) hx hb dX10_findBits_144 (by decide) ?_
  exact hk13_ x1 x2 x3 (x4 + (1 : Int32)) I J _ _ _ hP hS (lv_sub hl [1, 2, 3, 4, 0] rfl) h
set_option maxHeartbeats 4000000 in
set_option maxRecDepth 100000 in
theorem wX10_findBits_135 {p : Program} {l : Launch} {e : Env} {s : State} {m : MethodId} {args : Array Value} {below : List Frame} {meth : Method} {c : Code} (bs : Nat) (D : va_G) (y : Y3) (n : Nat) (k4_ : Int32 → Int32 → Int32 → MI → MJ → Option (M2)) (k13_ : Int32 → Int32 → Int32 → Int32 → MI → MJ → Option (M2)) (k80_ : Int32 → Int32 → Int32 → Int32 → Int32 → MI → MJ → Option (M2)) (r : M2) (Gc : Gx p s m args meth c cX10_findBits 6 RX10 bs D y none 76) (hk4_ : ∀ (x1 : Int32) (x2 : Int32) (x3 : Int32) (I : MI) (J : MJ) (H : Heap) (locs : List Loc) (ls : Array Slot), va_P D vwCl (wl bs y I J) H → va_S (FA bs) s.heap H locs → lv_has ls 6 [(0, .ref (bs + 44)), (1, .int x1), (2, .int x2), (3, .int x3)] → k4_ x1 x2 x3 I J = some r → W p l e (rmm 1 22) s m args below meth c H locs 0 0 (QV below args s bs D y r) (F0 m 4 ls [])) (hk13_ : ∀ (x1 : Int32) (x2 : Int32) (x3 : Int32) (x4 : Int32) (I : MI) (J : MJ) (H : Heap) (locs : List Loc) (ls : Array Slot), va_P D vwCl (wl bs y I J) H → va_S (FA bs) s.heap H locs → lv_has ls 6 [(0, .ref (bs + 44)), (1, .int x1), (2, .int x2), (3, .int x3), (4, .int x4)] → k13_ x1 x2 x3 x4 I J = some r → W p l e (rmm 1 22) s m args below meth c H locs 0 0 (QV below args s bs D y r) (F0 m 13 ls [])) (hk80_ : ∀ (x1 : Int32) (x2 : Int32) (x3 : Int32) (x4 : Int32) (x5 : Int32) (I : MI) (J : MJ) (H : Heap) (locs : List Loc) (ls : Array Slot), va_P D vwCl (wl bs y I J) H → va_S (FA bs) s.heap H locs → lv_has ls 6 [(0, .ref (bs + 44)), (1, .int x1), (2, .int x2), (3, .int x3), (4, .int x4), (5, .int x5)] → k80_ x1 x2 x3 x4 x5 I J = some r → W p l e (rmm 1 22) s m args below meth c H locs 0 0 (QV below args s bs D y r) (F0 m 80 ls [])) (x1 : Int32) (x2 : Int32) (x3 : Int32) (x4 : Int32) (x5 : Int32) (I : MI) (J : MJ) (H : Heap) (locs : List Loc) (ls : Array Slot) (hP : va_P D vwCl (wl bs y I J) H) (hS : va_S (FA bs) s.heap H locs) (hl : lv_has ls 6 [(0, .ref (bs + 44)), (1, .int x1), (2, .int x2), (3, .int x3), (4, .int x4), (5, .int x5)]) (h : fX10_findBits_135 n k4_ k13_ k80_ x1 x2 x3 x4 x5 I J = some r) : W p l e (rmm 1 22) s m args below meth c H locs 0 0 (QV below args s bs D y r) (F0 m 135 ls []) := by
  obtain ⟨hx, hb, hml, hown, hts, hK, hN, hL, hr, hlocks, hcb⟩ := id Gc
  unfold fX10_findBits_135 at h
  refine lv_iinc (v := (x5 + (1 : Int32))) (lv' := [(5, .int (x5 + (1 : Int32))), (0, .ref (bs + 44)), (1, .int x1), (2, .int x2), (3, .int x3), (4, .int x4)]) hx hb dX10_findBits_135 hl (k := 5) rfl rfl (by decide) rfl (fun ls hl => ?_)
  refine lv_goto (tgt := 80) hx hb dX10_findBits_138 (by decide) ?_
  exact hk80_ x1 x2 x3 x4 (x5 + (1 : Int32)) I J _ _ _ hP hS (lv_sub hl [1, 2, 3, 4, 5, 0] rfl) h
set_option maxHeartbeats 4000000 in
set_option maxRecDepth 100000 in
theorem wX10_findBits_134 {p : Program} {l : Launch} {e : Env} {s : State} {m : MethodId} {args : Array Value} {below : List Frame} {meth : Method} {c : Code} (bs : Nat) (D : va_G) (y : Y3) (n : Nat) (k4_ : Int32 → Int32 → Int32 → MI → MJ → Option (M2)) (k13_ : Int32 → Int32 → Int32 → Int32 → MI → MJ → Option (M2)) (k80_ : Int32 → Int32 → Int32 → Int32 → Int32 → MI → MJ → Option (M2)) (r : M2) (Gc : Gx p s m args meth c cX10_findBits 6 RX10 bs D y none 76) (hk4_ : ∀ (x1 : Int32) (x2 : Int32) (x3 : Int32) (I : MI) (J : MJ) (H : Heap) (locs : List Loc) (ls : Array Slot), va_P D vwCl (wl bs y I J) H → va_S (FA bs) s.heap H locs → lv_has ls 6 [(0, .ref (bs + 44)), (1, .int x1), (2, .int x2), (3, .int x3)] → k4_ x1 x2 x3 I J = some r → W p l e (rmm 1 22) s m args below meth c H locs 0 0 (QV below args s bs D y r) (F0 m 4 ls [])) (hk13_ : ∀ (x1 : Int32) (x2 : Int32) (x3 : Int32) (x4 : Int32) (I : MI) (J : MJ) (H : Heap) (locs : List Loc) (ls : Array Slot), va_P D vwCl (wl bs y I J) H → va_S (FA bs) s.heap H locs → lv_has ls 6 [(0, .ref (bs + 44)), (1, .int x1), (2, .int x2), (3, .int x3), (4, .int x4)] → k13_ x1 x2 x3 x4 I J = some r → W p l e (rmm 1 22) s m args below meth c H locs 0 0 (QV below args s bs D y r) (F0 m 13 ls [])) (hk80_ : ∀ (x1 : Int32) (x2 : Int32) (x3 : Int32) (x4 : Int32) (x5 : Int32) (I : MI) (J : MJ) (H : Heap) (locs : List Loc) (ls : Array Slot), va_P D vwCl (wl bs y I J) H → va_S (FA bs) s.heap H locs → lv_has ls 6 [(0, .ref (bs + 44)), (1, .int x1), (2, .int x2), (3, .int x3), (4, .int x4), (5, .int x5)] → k80_ x1 x2 x3 x4 x5 I J = some r → W p l e (rmm 1 22) s m args below meth c H locs 0 0 (QV below args s bs D y r) (F0 m 80 ls [])) (x1 : Int32) (x2 : Int32) (x3 : Int32) (x4 : Int32) (x5 : Int32) (s1 : Int32) (s2 : Int32) (I : MI) (J : MJ) (H : Heap) (locs : List Loc) (ls : Array Slot) (hP : va_P D vwCl (wl bs y I J) H) (hS : va_S (FA bs) s.heap H locs) (hl : lv_has ls 6 [(0, .ref (bs + 44)), (1, .int x1), (2, .int x2), (3, .int x3), (4, .int x4), (5, .int x5)]) (h : fX10_findBits_134 n k4_ k13_ k80_ x1 x2 x3 x4 x5 s1 s2 I J = some r) : W p l e (rmm 1 22) s m args below meth c H locs 0 0 (QV below args s bs D y r) (F0 m 134 ls [.int s2, .int s1, .ref (bs + 59)]) := by
  obtain ⟨hx, hb, hml, hown, hts, hK, hN, hL, hr, hlocks, hcb⟩ := id Gc
  unfold fX10_findBits_134 at h
  obtain ⟨hi134, h⟩ := if_s1 h
  obtain ⟨I134, eI134, h⟩ := lt_s1 h
  refine t_Z 59 eI134 hx hb hK hP hS hcb alZ_59 hi134 dX10_findBits_134 (fun H locs hP hS => ?_)
  exact wX10_findBits_135 bs D y n k4_ k13_ k80_ r Gc hk4_ hk13_ hk80_ x1 x2 x3 x4 x5 I134 J _ _ _ hP hS (lv_sub hl [0, 1, 2, 3, 4, 5] rfl) h
set_option maxHeartbeats 4000000 in
set_option maxRecDepth 100000 in
theorem wX10_findBits_80 {p : Program} {l : Launch} {e : Env} {s : State} {m : MethodId} {args : Array Value} {below : List Frame} {meth : Method} {c : Code} (bs : Nat) (D : va_G) (y : Y3) (n : Nat) (k4_ : Int32 → Int32 → Int32 → MI → MJ → Option (M2)) (k13_ : Int32 → Int32 → Int32 → Int32 → MI → MJ → Option (M2)) (k80_ : Int32 → Int32 → Int32 → Int32 → Int32 → MI → MJ → Option (M2)) (r : M2) (Gc : Gx p s m args meth c cX10_findBits 6 RX10 bs D y none 76) (hk4_ : ∀ (x1 : Int32) (x2 : Int32) (x3 : Int32) (I : MI) (J : MJ) (H : Heap) (locs : List Loc) (ls : Array Slot), va_P D vwCl (wl bs y I J) H → va_S (FA bs) s.heap H locs → lv_has ls 6 [(0, .ref (bs + 44)), (1, .int x1), (2, .int x2), (3, .int x3)] → k4_ x1 x2 x3 I J = some r → W p l e (rmm 1 22) s m args below meth c H locs 0 0 (QV below args s bs D y r) (F0 m 4 ls [])) (hk13_ : ∀ (x1 : Int32) (x2 : Int32) (x3 : Int32) (x4 : Int32) (I : MI) (J : MJ) (H : Heap) (locs : List Loc) (ls : Array Slot), va_P D vwCl (wl bs y I J) H → va_S (FA bs) s.heap H locs → lv_has ls 6 [(0, .ref (bs + 44)), (1, .int x1), (2, .int x2), (3, .int x3), (4, .int x4)] → k13_ x1 x2 x3 x4 I J = some r → W p l e (rmm 1 22) s m args below meth c H locs 0 0 (QV below args s bs D y r) (F0 m 13 ls [])) (hk80_ : ∀ (x1 : Int32) (x2 : Int32) (x3 : Int32) (x4 : Int32) (x5 : Int32) (I : MI) (J : MJ) (H : Heap) (locs : List Loc) (ls : Array Slot), va_P D vwCl (wl bs y I J) H → va_S (FA bs) s.heap H locs → lv_has ls 6 [(0, .ref (bs + 44)), (1, .int x1), (2, .int x2), (3, .int x3), (4, .int x4), (5, .int x5)] → k80_ x1 x2 x3 x4 x5 I J = some r → W p l e (rmm 1 22) s m args below meth c H locs 0 0 (QV below args s bs D y r) (F0 m 80 ls [])) (x1 : Int32) (x2 : Int32) (x3 : Int32) (x4 : Int32) (x5 : Int32) (I : MI) (J : MJ) (H : Heap) (locs : List Loc) (ls : Array Slot) (hP : va_P D vwCl (wl bs y I J) H) (hS : va_S (FA bs) s.heap H locs) (hl : lv_has ls 6 [(0, .ref (bs + 44)), (1, .int x1), (2, .int x2), (3, .int x3), (4, .int x4), (5, .int x5)]) (h : fX10_findBits_80 n k4_ k13_ k80_ x1 x2 x3 x4 x5 I J = some r) : W p l e (rmm 1 22) s m args below meth c H locs 0 0 (QV below args s bs D y r) (F0 m 80 ls []) := by
  obtain ⟨hx, hb, hml, hown, hts, hK, hN, hL, hr, hlocks, hcb⟩ := id Gc
  unfold fX10_findBits_80 at h
  refine lv_iload hx hb dX10_findBits_80 (lv_at hl 5 rfl) ?_
  refine lv_aload_n hx hb dX10_findBits_82 rfl (lv_at hl 0 rfl) ?_
  refine g_R (C := RX10) (T := TX10) (N := 49) (ci := 10) 44 21 57 hx hb hts hown hK hP in_X10 rfl hcb okF_44_21 rfc_44_21 fl_164 dX10_findBits_83 ?_
  refine lv_iload_n hx hb dX10_findBits_86 rfl (lv_at hl 1 rfl) ?_
  obtain ⟨hi87, h⟩ := if_s1 h
  refine a_I 57 hx hb hK hP hcb aln_57 hi87 dX10_findBits_87 ?_
  refine lv_icmp_ge (tgt := 141) hx hb dX10_findBits_88 (by decide) (fun c88 => ?_) (fun c88 => ?_)
  · replace h := if_t c88 h
    exact wX10_findBits_141 bs D y n k4_ k13_ r Gc hk4_ hk13_ x1 x2 x3 x4 I J _ _ _ hP hS (lv_sub hl [0, 1, 2, 3, 4] rfl) h
  · replace h := if_f c88 h
    refine lv_iload hx hb dX10_findBits_91 (lv_at hl 4 rfl) ?_
    refine lv_iload_n hx hb dX10_findBits_93 rfl (lv_at hl 1 rfl) ?_
    refine lv_icmp_ge (tgt := 141) hx hb dX10_findBits_94 (by decide) (fun c94 => ?_) (fun c94 => ?_)
    · replace h := if_t c94 h
      exact wX10_findBits_141 bs D y n k4_ k13_ r Gc hk4_ hk13_ x1 x2 x3 x4 I J _ _ _ hP hS (lv_sub hl [0, 1, 2, 3, 4] rfl) h
    · replace h := if_f c94 h
      refine lv_aload_n hx hb dX10_findBits_97 rfl (lv_at hl 0 rfl) ?_
      refine g_R (C := RX10) (T := TX10) (N := 49) (ci := 10) 44 20 56 hx hb hts hown hK hP in_X10 rfl hcb okF_44_20 rfc_44_20 fl_165 dX10_findBits_98 ?_
      refine lv_iconst (v := (4 : Int32)) hx hb dX10_findBits_101 (by decide) ?_
      refine lv_iload_n hx hb dX10_findBits_102 rfl (lv_at hl 1 rfl) ?_
      refine lv_imul hx hb dX10_findBits_103 ?_
      refine lv_iload hx hb dX10_findBits_104 (lv_at hl 5 rfl) ?_
      refine lv_iadd hx hb dX10_findBits_106 ?_
      obtain ⟨hi107, h⟩ := if_s1 h
      refine a_I 56 hx hb hK hP hcb aln_56 hi107 dX10_findBits_107 ?_
      refine lv_iload hx hb dX10_findBits_108 (lv_at hl 4 rfl) ?_
      refine lv_icmp_ne (tgt := 135) hx hb dX10_findBits_110 (by decide) (fun c110 => ?_) (fun c110 => ?_)
      · replace h := if_f c110 h
        exact wX10_findBits_135 bs D y n k4_ k13_ k80_ r Gc hk4_ hk13_ hk80_ x1 x2 x3 x4 x5 I J _ _ _ hP hS (lv_sub hl [0, 1, 2, 3, 4, 5] rfl) h
      · replace h := if_t c110 h
        refine lv_aload_n hx hb dX10_findBits_113 rfl (lv_at hl 0 rfl) ?_
        refine g_R (C := RX10) (T := TX10) (N := 49) (ci := 10) 44 23 59 hx hb hts hown hK hP in_X10 rfl hcb okF_44_23 rfc_44_23 fl_163 dX10_findBits_114 ?_
        refine lv_iload hx hb dX10_findBits_117 (lv_at hl 4 rfl) ?_
        refine lv_iload_n hx hb dX10_findBits_119 rfl (lv_at hl 3 rfl) ?_
        refine lv_iload hx hb dX10_findBits_120 (lv_at hl 5 rfl) ?_
        refine lv_ishr hx hb dX10_findBits_122 ?_
        refine lv_iconst (v := (1 : Int32)) hx hb dX10_findBits_123 (by decide) ?_
        refine lv_iand hx hb dX10_findBits_124 ?_
        refine lv_iconst (v := (1 : Int32)) hx hb dX10_findBits_125 (by decide) ?_
        refine lv_icmp_ne (tgt := 133) hx hb dX10_findBits_126 (by decide) (fun c126 => ?_) (fun c126 => ?_)
        · replace h := if_f c126 h
          refine lv_iconst (v := (0 : Int32)) hx hb dX10_findBits_133 (by decide) ?_
          exact wX10_findBits_134 bs D y n k4_ k13_ k80_ r Gc hk4_ hk13_ hk80_ x1 x2 x3 x4 x5 x4 (0 : Int32) I J _ _ _ hP hS (lv_sub hl [0, 1, 2, 3, 4, 5] rfl) h
        · replace h := if_t c126 h
          refine lv_iconst (v := (1 : Int32)) hx hb dX10_findBits_129 (by decide) ?_
          refine lv_goto (tgt := 134) hx hb dX10_findBits_130 (by decide) ?_
          exact wX10_findBits_134 bs D y n k4_ k13_ k80_ r Gc hk4_ hk13_ hk80_ x1 x2 x3 x4 x5 x4 (1 : Int32) I J _ _ _ hP hS (lv_sub hl [0, 1, 2, 3, 4, 5] rfl) h
theorem vX10_findBits_80 {p : Program} {l : Launch} {e : Env} {s : State} {m : MethodId} {args : Array Value} {below : List Frame} {meth : Method} {c : Code} (bs : Nat) (D : va_G) (y : Y3) (n : Nat) (k4_ : Int32 → Int32 → Int32 → MI → MJ → Option (M2)) (k13_ : Int32 → Int32 → Int32 → Int32 → MI → MJ → Option (M2)) (r : M2) (Gc : Gx p s m args meth c cX10_findBits 6 RX10 bs D y none 76) (hk4_ : ∀ (x1 : Int32) (x2 : Int32) (x3 : Int32) (I : MI) (J : MJ) (H : Heap) (locs : List Loc) (ls : Array Slot), va_P D vwCl (wl bs y I J) H → va_S (FA bs) s.heap H locs → lv_has ls 6 [(0, .ref (bs + 44)), (1, .int x1), (2, .int x2), (3, .int x3)] → k4_ x1 x2 x3 I J = some r → W p l e (rmm 1 22) s m args below meth c H locs 0 0 (QV below args s bs D y r) (F0 m 4 ls [])) (hk13_ : ∀ (x1 : Int32) (x2 : Int32) (x3 : Int32) (x4 : Int32) (I : MI) (J : MJ) (H : Heap) (locs : List Loc) (ls : Array Slot), va_P D vwCl (wl bs y I J) H → va_S (FA bs) s.heap H locs → lv_has ls 6 [(0, .ref (bs + 44)), (1, .int x1), (2, .int x2), (3, .int x3), (4, .int x4)] → k13_ x1 x2 x3 x4 I J = some r → W p l e (rmm 1 22) s m args below meth c H locs 0 0 (QV below args s bs D y r) (F0 m 13 ls [])) : ∀ (q : Nat) (x1 : Int32) (x2 : Int32) (x3 : Int32) (x4 : Int32) (x5 : Int32) (I : MI) (J : MJ) (H : Heap) (locs : List Loc) (ls : Array Slot), va_P D vwCl (wl bs y I J) H → va_S (FA bs) s.heap H locs → lv_has ls 6 [(0, .ref (bs + 44)), (1, .int x1), (2, .int x2), (3, .int x3), (4, .int x4), (5, .int x5)] → lX10_findBits_80 n k4_ k13_ q x1 x2 x3 x4 x5 I J = some r → W p l e (rmm 1 22) s m args below meth c H locs 0 0 (QV below args s bs D y r) (F0 m 80 ls []) := by
  intro q
  induction q with
  | zero =>
    intro x1 x2 x3 x4 x5 I J H locs ls hP hS hl h
    have h : (none : Option (M2)) = some r := h
    cases h
  | succ q ih =>
    intro x1 x2 x3 x4 x5 I J H locs ls hP hS hl h
    have h : fX10_findBits_80 n k4_ k13_ (lX10_findBits_80 n k4_ k13_ q) x1 x2 x3 x4 x5 I J = some r := h
    exact wX10_findBits_80 bs D y n k4_ k13_ (lX10_findBits_80 n k4_ k13_ q) r Gc hk4_ hk13_ ih x1 x2 x3 x4 x5 I J H locs ls hP hS hl h
set_option maxHeartbeats 4000000 in
set_option maxRecDepth 100000 in
theorem wX10_findBits_76 {p : Program} {l : Launch} {e : Env} {s : State} {m : MethodId} {args : Array Value} {below : List Frame} {meth : Method} {c : Code} (bs : Nat) (D : va_G) (y : Y3) (n : Nat) (k4_ : Int32 → Int32 → Int32 → MI → MJ → Option (M2)) (k13_ : Int32 → Int32 → Int32 → Int32 → MI → MJ → Option (M2)) (r : M2) (Gc : Gx p s m args meth c cX10_findBits 6 RX10 bs D y none 76) (hk4_ : ∀ (x1 : Int32) (x2 : Int32) (x3 : Int32) (I : MI) (J : MJ) (H : Heap) (locs : List Loc) (ls : Array Slot), va_P D vwCl (wl bs y I J) H → va_S (FA bs) s.heap H locs → lv_has ls 6 [(0, .ref (bs + 44)), (1, .int x1), (2, .int x2), (3, .int x3)] → k4_ x1 x2 x3 I J = some r → W p l e (rmm 1 22) s m args below meth c H locs 0 0 (QV below args s bs D y r) (F0 m 4 ls [])) (hk13_ : ∀ (x1 : Int32) (x2 : Int32) (x3 : Int32) (x4 : Int32) (I : MI) (J : MJ) (H : Heap) (locs : List Loc) (ls : Array Slot), va_P D vwCl (wl bs y I J) H → va_S (FA bs) s.heap H locs → lv_has ls 6 [(0, .ref (bs + 44)), (1, .int x1), (2, .int x2), (3, .int x3), (4, .int x4)] → k13_ x1 x2 x3 x4 I J = some r → W p l e (rmm 1 22) s m args below meth c H locs 0 0 (QV below args s bs D y r) (F0 m 13 ls [])) (x1 : Int32) (x2 : Int32) (x3 : Int32) (x4 : Int32) (s1 : Int32) (s2 : Int32) (I : MI) (J : MJ) (H : Heap) (locs : List Loc) (ls : Array Slot) (hP : va_P D vwCl (wl bs y I J) H) (hS : va_S (FA bs) s.heap H locs) (hl : lv_has ls 6 [(0, .ref (bs + 44)), (1, .int x1), (2, .int x2), (3, .int x3), (4, .int x4)]) (h : fX10_findBits_76 n k4_ k13_ x1 x2 x3 x4 s1 s2 I J = some r) : W p l e (rmm 1 22) s m args below meth c H locs 0 0 (QV below args s bs D y r) (F0 m 76 ls [.int s2, .int s1, .ref (bs + 59)]) := by
  obtain ⟨hx, hb, hml, hown, hts, hK, hN, hL, hr, hlocks, hcb⟩ := id Gc
  unfold fX10_findBits_76 at h
  obtain ⟨hi76, h⟩ := if_s1 h
  obtain ⟨I76, eI76, h⟩ := lt_s1 h
  refine t_Z 59 eI76 hx hb hK hP hS hcb alZ_59 hi76 dX10_findBits_76 (fun H locs hP hS => ?_)
  refine lv_iconst (v := (0 : Int32)) hx hb dX10_findBits_77 (by decide) ?_
  refine lv_istore (lv' := [(5, .int (0 : Int32)), (0, .ref (bs + 44)), (1, .int x1), (2, .int x2), (3, .int x3), (4, .int x4)]) hx hb dX10_findBits_78 hl (by decide) rfl (fun ls hl => ?_)
  exact vX10_findBits_80 bs D y n k4_ k13_ r Gc hk4_ hk13_ n x1 x2 x3 x4 (0 : Int32) I76 J _ _ _ hP hS (lv_sub hl [1, 2, 3, 4, 5, 0] rfl) h
set_option maxHeartbeats 4000000 in
set_option maxRecDepth 100000 in
theorem wX10_findBits_75 {p : Program} {l : Launch} {e : Env} {s : State} {m : MethodId} {args : Array Value} {below : List Frame} {meth : Method} {c : Code} (bs : Nat) (D : va_G) (y : Y3) (n : Nat) (k4_ : Int32 → Int32 → Int32 → MI → MJ → Option (M2)) (k13_ : Int32 → Int32 → Int32 → Int32 → MI → MJ → Option (M2)) (r : M2) (Gc : Gx p s m args meth c cX10_findBits 6 RX10 bs D y none 76) (hk4_ : ∀ (x1 : Int32) (x2 : Int32) (x3 : Int32) (I : MI) (J : MJ) (H : Heap) (locs : List Loc) (ls : Array Slot), va_P D vwCl (wl bs y I J) H → va_S (FA bs) s.heap H locs → lv_has ls 6 [(0, .ref (bs + 44)), (1, .int x1), (2, .int x2), (3, .int x3)] → k4_ x1 x2 x3 I J = some r → W p l e (rmm 1 22) s m args below meth c H locs 0 0 (QV below args s bs D y r) (F0 m 4 ls [])) (hk13_ : ∀ (x1 : Int32) (x2 : Int32) (x3 : Int32) (x4 : Int32) (I : MI) (J : MJ) (H : Heap) (locs : List Loc) (ls : Array Slot), va_P D vwCl (wl bs y I J) H → va_S (FA bs) s.heap H locs → lv_has ls 6 [(0, .ref (bs + 44)), (1, .int x1), (2, .int x2), (3, .int x3), (4, .int x4)] → k13_ x1 x2 x3 x4 I J = some r → W p l e (rmm 1 22) s m args below meth c H locs 0 0 (QV below args s bs D y r) (F0 m 13 ls [])) (x1 : Int32) (x2 : Int32) (x3 : Int32) (x4 : Int32) (s1 : Int32) (I : MI) (J : MJ) (H : Heap) (locs : List Loc) (ls : Array Slot) (hP : va_P D vwCl (wl bs y I J) H) (hS : va_S (FA bs) s.heap H locs) (hl : lv_has ls 6 [(0, .ref (bs + 44)), (1, .int x1), (2, .int x2), (3, .int x3), (4, .int x4)]) (h : fX10_findBits_75 n k4_ k13_ x1 x2 x3 x4 s1 I J = some r) : W p l e (rmm 1 22) s m args below meth c H locs 0 0 (QV below args s bs D y r) (F0 m 75 ls [.int s1, .ref (bs + 59)]) := by
  obtain ⟨hx, hb, hml, hown, hts, hK, hN, hL, hr, hlocks, hcb⟩ := id Gc
  unfold fX10_findBits_75 at h
  refine lv_iconst (v := (0 : Int32)) hx hb dX10_findBits_75 (by decide) ?_
  exact wX10_findBits_76 bs D y n k4_ k13_ r Gc hk4_ hk13_ x1 x2 x3 x4 s1 (0 : Int32) I J _ _ _ hP hS (lv_sub hl [0, 1, 2, 3, 4] rfl) h
set_option maxHeartbeats 4000000 in
set_option maxRecDepth 100000 in
theorem wX10_findBits_13 {p : Program} {l : Launch} {e : Env} {s : State} {m : MethodId} {args : Array Value} {below : List Frame} {meth : Method} {c : Code} (bs : Nat) (D : va_G) (y : Y3) (n : Nat) (k4_ : Int32 → Int32 → Int32 → MI → MJ → Option (M2)) (k13_ : Int32 → Int32 → Int32 → Int32 → MI → MJ → Option (M2)) (r : M2) (Gc : Gx p s m args meth c cX10_findBits 6 RX10 bs D y none 76) (hk4_ : ∀ (x1 : Int32) (x2 : Int32) (x3 : Int32) (I : MI) (J : MJ) (H : Heap) (locs : List Loc) (ls : Array Slot), va_P D vwCl (wl bs y I J) H → va_S (FA bs) s.heap H locs → lv_has ls 6 [(0, .ref (bs + 44)), (1, .int x1), (2, .int x2), (3, .int x3)] → k4_ x1 x2 x3 I J = some r → W p l e (rmm 1 22) s m args below meth c H locs 0 0 (QV below args s bs D y r) (F0 m 4 ls [])) (hk13_ : ∀ (x1 : Int32) (x2 : Int32) (x3 : Int32) (x4 : Int32) (I : MI) (J : MJ) (H : Heap) (locs : List Loc) (ls : Array Slot), va_P D vwCl (wl bs y I J) H → va_S (FA bs) s.heap H locs → lv_has ls 6 [(0, .ref (bs + 44)), (1, .int x1), (2, .int x2), (3, .int x3), (4, .int x4)] → k13_ x1 x2 x3 x4 I J = some r → W p l e (rmm 1 22) s m args below meth c H locs 0 0 (QV below args s bs D y r) (F0 m 13 ls [])) (x1 : Int32) (x2 : Int32) (x3 : Int32) (x4 : Int32) (I : MI) (J : MJ) (H : Heap) (locs : List Loc) (ls : Array Slot) (hP : va_P D vwCl (wl bs y I J) H) (hS : va_S (FA bs) s.heap H locs) (hl : lv_has ls 6 [(0, .ref (bs + 44)), (1, .int x1), (2, .int x2), (3, .int x3), (4, .int x4)]) (h : fX10_findBits_13 n k4_ k13_ x1 x2 x3 x4 I J = some r) : W p l e (rmm 1 22) s m args below meth c H locs 0 0 (QV below args s bs D y r) (F0 m 13 ls []) := by
  obtain ⟨hx, hb, hml, hown, hts, hK, hN, hL, hr, hlocks, hcb⟩ := id Gc
  unfold fX10_findBits_13 at h
  refine lv_iload hx hb dX10_findBits_13 (lv_at hl 4 rfl) ?_
  refine lv_iload_n hx hb dX10_findBits_15 rfl (lv_at hl 1 rfl) ?_
  refine lv_icmp_gt (tgt := 147) hx hb dX10_findBits_16 (by decide) (fun c16 => ?_) (fun c16 => ?_)
  · replace h := if_t c16 h
    refine lv_iload_n hx hb dX10_findBits_147 rfl (lv_at hl 2 rfl) ?_
    refine lv_aload_n hx hb dX10_findBits_148 rfl (lv_at hl 0 rfl) ?_
    refine g_R (C := RX10) (T := TX10) (N := 49) (ci := 10) 44 23 59 hx hb hts hown hK hP in_X10 rfl hcb okF_44_23 rfc_44_23 fl_163 dX10_findBits_149 ?_
    refine lv_iload_n hx hb dX10_findBits_152 rfl (lv_at hl 1 rfl) ?_
    obtain ⟨hi153, h⟩ := if_s1 h
    refine a_Z 59 hx hb hK hP hcb alZ_59 hi153 dX10_findBits_153 ?_
    refine lv_if_eq (tgt := 163) hx hb dX10_findBits_154 (by decide) (fun c154 => ?_) (fun c154 => ?_)
    · replace h := if_t c154 h
      refine lv_iconst (v := (0 : Int32)) hx hb dX10_findBits_163 (by decide) ?_
      exact wX10_findBits_164 bs D y n k4_ r Gc hk4_ x1 x3 x2 (0 : Int32) I J _ _ _ hP hS (lv_sub hl [0, 1, 3] rfl) h
    · replace h := if_f c154 h
      refine lv_iconst (v := (1 : Int32)) hx hb dX10_findBits_157 (by decide) ?_
      refine lv_iload_n hx hb dX10_findBits_158 rfl (lv_at hl 3 rfl) ?_
      refine lv_ishl hx hb dX10_findBits_159 ?_
      refine lv_goto (tgt := 164) hx hb dX10_findBits_160 (by decide) ?_
      exact wX10_findBits_164 bs D y n k4_ r Gc hk4_ x1 x3 x2 ((1 : Int32) <<< (x3 &&& 31)) I J _ _ _ hP hS (lv_sub hl [0, 1, 3] rfl) h
  · replace h := if_f c16 h
    refine lv_aload_n hx hb dX10_findBits_19 rfl (lv_at hl 0 rfl) ?_
    refine g_R (C := RX10) (T := TX10) (N := 49) (ci := 10) 44 23 59 hx hb hts hown hK hP in_X10 rfl hcb okF_44_23 rfc_44_23 fl_163 dX10_findBits_20 ?_
    refine lv_iload hx hb dX10_findBits_23 (lv_at hl 4 rfl) ?_
    refine lv_aload_n hx hb dX10_findBits_25 rfl (lv_at hl 0 rfl) ?_
    refine g_R (C := RX10) (T := TX10) (N := 49) (ci := 10) 44 0 45 hx hb hts hown hK hP in_X10 rfl hcb okF_44_0 rfc_44_0 fl_146 dX10_findBits_26 ?_
    refine lv_iload hx hb dX10_findBits_29 (lv_at hl 4 rfl) ?_
    obtain ⟨hi31, h⟩ := if_s1 h
    refine a_I 45 hx hb hK hP hcb aln_45 hi31 dX10_findBits_31 ?_
    refine lv_iconst (v := (2 : Int32)) hx hb dX10_findBits_32 (by decide) ?_
    refine lv_icmp_ne (tgt := 75) hx hb dX10_findBits_33 (by decide) (fun c33 => ?_) (fun c33 => ?_)
    · replace h := if_f c33 h
      exact wX10_findBits_75 bs D y n k4_ k13_ r Gc hk4_ hk13_ x1 x2 x3 x4 x4 I J _ _ _ hP hS (lv_sub hl [0, 1, 2, 3, 4] rfl) h
    · replace h := if_t c33 h
      refine lv_aload_n hx hb dX10_findBits_36 rfl (lv_at hl 0 rfl) ?_
      refine g_R (C := RX10) (T := TX10) (N := 49) (ci := 10) 44 3 48 hx hb hts hown hK hP in_X10 rfl hcb okF_44_3 rfc_44_3 fl_157 dX10_findBits_37 ?_
      refine lv_iload hx hb dX10_findBits_40 (lv_at hl 4 rfl) ?_
      obtain ⟨hi42, h⟩ := if_s1 h
      refine a_I 48 hx hb hK hP hcb aln_48 hi42 dX10_findBits_42 ?_
      refine lv_aload_n hx hb dX10_findBits_43 rfl (lv_at hl 0 rfl) ?_
      refine lv_aload_n hx hb dX10_findBits_44 rfl (lv_at hl 0 rfl) ?_
      refine g_R (C := RX10) (T := TX10) (N := 49) (ci := 10) 44 1 46 hx hb hts hown hK hP in_X10 rfl hcb okF_44_1 rfc_44_1 fl_153 dX10_findBits_45 ?_
      refine lv_iload hx hb dX10_findBits_48 (lv_at hl 4 rfl) ?_
      obtain ⟨hi50, h⟩ := if_s1 h
      refine a_I 46 hx hb hK hP hcb aln_46 hi50 dX10_findBits_50 ?_
      obtain ⟨r51, er51, h⟩ := bd_s1 h
      refine c_VI (k := 44) (ci := 10) (As := [.int (I 46 (x4).toNatClampNeg)]) (rest := [.int (I 48 (x4).toNatClampNeg), .int x4, .ref (bs + 59)]) hx hb hml hown hts hK hN hL hP hS (cX10_isOf_ l bs D y hcb n (I 46 (x4).toNatClampNeg) I J r51 er51) ok_X10_isOf ov_X10_isOf ml_129 ⟨Nat.le_of_ble_eq_true rfl, Nat.le_of_ble_eq_true rfl⟩ rfl hcb kd_44 hl.1 rfl rfl (Nat.le_of_ble_eq_true rfl) ⟨Nat.zero_le _, Nat.zero_le _⟩ dX10_findBits_51 (fun H locs hP hS => ?_)
      refine lv_aload_n hx hb dX10_findBits_54 rfl (lv_at hl 0 rfl) ?_
      refine lv_aload_n hx hb dX10_findBits_55 rfl (lv_at hl 0 rfl) ?_
      refine g_R (C := RX10) (T := TX10) (N := 49) (ci := 10) 44 2 47 hx hb hts hown hK hP in_X10 rfl hcb okF_44_2 rfc_44_2 fl_154 dX10_findBits_56 ?_
      refine lv_iload hx hb dX10_findBits_59 (lv_at hl 4 rfl) ?_
      obtain ⟨hi61, h⟩ := if_s1 h
      refine a_I 47 hx hb hK hP hcb aln_47 hi61 dX10_findBits_61 ?_
      obtain ⟨r62, er62, h⟩ := bd_s1 h
      refine c_VI (k := 44) (ci := 10) (As := [.int (r51.2.1 47 (x4).toNatClampNeg)]) (rest := [.int r51.1, .int (I 48 (x4).toNatClampNeg), .int x4, .ref (bs + 59)]) hx hb hml hown hts hK hN hL hP hS (cX10_isOf_ l bs D y hcb n (r51.2.1 47 (x4).toNatClampNeg) r51.2.1 r51.2.2 r62 er62) ok_X10_isOf ov_X10_isOf ml_129 ⟨Nat.le_of_ble_eq_true rfl, Nat.le_of_ble_eq_true rfl⟩ rfl hcb kd_44 hl.1 rfl rfl (Nat.le_of_ble_eq_true rfl) ⟨Nat.zero_le _, Nat.zero_le _⟩ dX10_findBits_62 (fun H locs hP hS => ?_)
      obtain ⟨r65, er65, h⟩ := bd_s1 h
      refine c_SI (As := [.int (I 48 (x4).toNatClampNeg), .int r51.1, .int r62.1]) (rest := [.int x4, .ref (bs + 59)]) hx hb hml hown hts hK hN hL hP hS (cX10_gateOf_ l bs D y hcb n (I 48 (x4).toNatClampNeg) r51.1 r62.1 r62.2.1 r62.2.2 r65 er65) ok_X10_gateOf ov_X10_gateOf ml_130 ⟨Nat.le_of_ble_eq_true rfl, Nat.le_of_ble_eq_true rfl⟩ hl.1 rfl rfl (Nat.le_of_ble_eq_true rfl) ⟨Nat.zero_le _, Nat.zero_le _⟩ dX10_findBits_65 (fun H locs hP hS => ?_)
      refine lv_if_eq (tgt := 75) hx hb dX10_findBits_68 (by decide) (fun c68 => ?_) (fun c68 => ?_)
      · replace h := if_t c68 h
        exact wX10_findBits_75 bs D y n k4_ k13_ r Gc hk4_ hk13_ x1 x2 x3 x4 x4 r65.2.1 r65.2.2 _ _ _ hP hS (lv_sub hl [0, 1, 2, 3, 4] rfl) h
      · replace h := if_f c68 h
        refine lv_iconst (v := (1 : Int32)) hx hb dX10_findBits_71 (by decide) ?_
        refine lv_goto (tgt := 76) hx hb dX10_findBits_72 (by decide) ?_
        exact wX10_findBits_76 bs D y n k4_ k13_ r Gc hk4_ hk13_ x1 x2 x3 x4 x4 (1 : Int32) r65.2.1 r65.2.2 _ _ _ hP hS (lv_sub hl [0, 1, 2, 3, 4] rfl) h
theorem vX10_findBits_13 {p : Program} {l : Launch} {e : Env} {s : State} {m : MethodId} {args : Array Value} {below : List Frame} {meth : Method} {c : Code} (bs : Nat) (D : va_G) (y : Y3) (n : Nat) (k4_ : Int32 → Int32 → Int32 → MI → MJ → Option (M2)) (r : M2) (Gc : Gx p s m args meth c cX10_findBits 6 RX10 bs D y none 76) (hk4_ : ∀ (x1 : Int32) (x2 : Int32) (x3 : Int32) (I : MI) (J : MJ) (H : Heap) (locs : List Loc) (ls : Array Slot), va_P D vwCl (wl bs y I J) H → va_S (FA bs) s.heap H locs → lv_has ls 6 [(0, .ref (bs + 44)), (1, .int x1), (2, .int x2), (3, .int x3)] → k4_ x1 x2 x3 I J = some r → W p l e (rmm 1 22) s m args below meth c H locs 0 0 (QV below args s bs D y r) (F0 m 4 ls [])) : ∀ (q : Nat) (x1 : Int32) (x2 : Int32) (x3 : Int32) (x4 : Int32) (I : MI) (J : MJ) (H : Heap) (locs : List Loc) (ls : Array Slot), va_P D vwCl (wl bs y I J) H → va_S (FA bs) s.heap H locs → lv_has ls 6 [(0, .ref (bs + 44)), (1, .int x1), (2, .int x2), (3, .int x3), (4, .int x4)] → lX10_findBits_13 n k4_ q x1 x2 x3 x4 I J = some r → W p l e (rmm 1 22) s m args below meth c H locs 0 0 (QV below args s bs D y r) (F0 m 13 ls []) := by
  intro q
  induction q with
  | zero =>
    intro x1 x2 x3 x4 I J H locs ls hP hS hl h
    have h : (none : Option (M2)) = some r := h
    cases h
  | succ q ih =>
    intro x1 x2 x3 x4 I J H locs ls hP hS hl h
    have h : fX10_findBits_13 n k4_ (lX10_findBits_13 n k4_ q) x1 x2 x3 x4 I J = some r := h
    exact wX10_findBits_13 bs D y n k4_ (lX10_findBits_13 n k4_ q) r Gc hk4_ ih x1 x2 x3 x4 I J H locs ls hP hS hl h
set_option maxHeartbeats 4000000 in
set_option maxRecDepth 100000 in
theorem wX10_findBits_4 {p : Program} {l : Launch} {e : Env} {s : State} {m : MethodId} {args : Array Value} {below : List Frame} {meth : Method} {c : Code} (bs : Nat) (D : va_G) (y : Y3) (n : Nat) (k4_ : Int32 → Int32 → Int32 → MI → MJ → Option (M2)) (r : M2) (Gc : Gx p s m args meth c cX10_findBits 6 RX10 bs D y none 76) (hk4_ : ∀ (x1 : Int32) (x2 : Int32) (x3 : Int32) (I : MI) (J : MJ) (H : Heap) (locs : List Loc) (ls : Array Slot), va_P D vwCl (wl bs y I J) H → va_S (FA bs) s.heap H locs → lv_has ls 6 [(0, .ref (bs + 44)), (1, .int x1), (2, .int x2), (3, .int x3)] → k4_ x1 x2 x3 I J = some r → W p l e (rmm 1 22) s m args below meth c H locs 0 0 (QV below args s bs D y r) (F0 m 4 ls [])) (x1 : Int32) (x2 : Int32) (x3 : Int32) (I : MI) (J : MJ) (H : Heap) (locs : List Loc) (ls : Array Slot) (hP : va_P D vwCl (wl bs y I J) H) (hS : va_S (FA bs) s.heap H locs) (hl : lv_has ls 6 [(0, .ref (bs + 44)), (1, .int x1), (2, .int x2), (3, .int x3)]) (h : fX10_findBits_4 n k4_ x1 x2 x3 I J = some r) : W p l e (rmm 1 22) s m args below meth c H locs 0 0 (QV below args s bs D y r) (F0 m 4 ls []) := by
  obtain ⟨hx, hb, hml, hown, hts, hK, hN, hL, hr, hlocks, hcb⟩ := id Gc
  unfold fX10_findBits_4 at h
  refine lv_iload_n hx hb dX10_findBits_4 rfl (lv_at hl 3 rfl) ?_
  refine lv_bipush (v := (16 : Int32)) hx hb dX10_findBits_5 (by decide) ?_
  refine lv_icmp_ge (tgt := 172) hx hb dX10_findBits_7 (by decide) (fun c7 => ?_) (fun c7 => ?_)
  · replace h := if_t c7 h
    refine lv_aload_n hx hb dX10_findBits_172 rfl (lv_at hl 0 rfl) ?_
    refine g_R (C := RX10) (T := TX10) (N := 49) (ci := 10) 44 22 58 hx hb hts hown hK hP in_X10 rfl hcb okF_44_22 rfc_44_22 fl_166 dX10_findBits_173 ?_
    refine lv_iload_n hx hb dX10_findBits_176 rfl (lv_at hl 1 rfl) ?_
    refine lv_iload_n hx hb dX10_findBits_177 rfl (lv_at hl 2 rfl) ?_
    obtain ⟨hi178, h⟩ := if_s1 h
    obtain ⟨I178, eI178, h⟩ := lt_s1 h
    refine t_I 58 eI178 hx hb hK hP hS hcb aln_58 hi178 dX10_findBits_178 (fun H locs hP hS => ?_)
    exact r_V hx hb hr hlocks hP hK hN hL hS h dX10_findBits_179
  · replace h := if_f c7 h
    refine lv_iconst (v := (0 : Int32)) hx hb dX10_findBits_10 (by decide) ?_
    refine lv_istore (lv' := [(4, .int (0 : Int32)), (0, .ref (bs + 44)), (1, .int x1), (2, .int x2), (3, .int x3)]) hx hb dX10_findBits_11 hl (by decide) rfl (fun ls hl => ?_)
    exact vX10_findBits_13 bs D y n k4_ r Gc hk4_ n x1 x2 x3 (0 : Int32) I J _ _ _ hP hS (lv_sub hl [1, 2, 3, 4, 0] rfl) h
theorem vX10_findBits_4 {p : Program} {l : Launch} {e : Env} {s : State} {m : MethodId} {args : Array Value} {below : List Frame} {meth : Method} {c : Code} (bs : Nat) (D : va_G) (y : Y3) (n : Nat) (r : M2) (Gc : Gx p s m args meth c cX10_findBits 6 RX10 bs D y none 76)  : ∀ (q : Nat) (x1 : Int32) (x2 : Int32) (x3 : Int32) (I : MI) (J : MJ) (H : Heap) (locs : List Loc) (ls : Array Slot), va_P D vwCl (wl bs y I J) H → va_S (FA bs) s.heap H locs → lv_has ls 6 [(0, .ref (bs + 44)), (1, .int x1), (2, .int x2), (3, .int x3)] → lX10_findBits_4 n  q x1 x2 x3 I J = some r → W p l e (rmm 1 22) s m args below meth c H locs 0 0 (QV below args s bs D y r) (F0 m 4 ls []) := by
  intro q
  induction q with
  | zero =>
    intro x1 x2 x3 I J H locs ls hP hS hl h
    have h : (none : Option (M2)) = some r := h
    cases h
  | succ q ih =>
    intro x1 x2 x3 I J H locs ls hP hS hl h
    have h : fX10_findBits_4 n  (lX10_findBits_4 n  q) x1 x2 x3 I J = some r := h
    exact wX10_findBits_4 bs D y n  (lX10_findBits_4 n  q) r Gc  ih x1 x2 x3 I J H locs ls hP hS hl h
set_option maxHeartbeats 4000000 in
set_option maxRecDepth 100000 in
theorem cX10_findBits_ (l : Launch) (bs : Nat) (D : va_G) (y : Y3) (hcb : 76 ≤ y.2.2.2) (n : Nat) (x1 : Int32) (I : MI) (J : MJ) (r : M2) (h : fX10_findBits n x1 I J = some r) : Met l yX10_findBits (.code yX10_findBits cX10_findBits 6 none :: gtb) (rmm 1 22) (va_Pc [.ref (bs + 44), .int x1] (HB bs D y I J)) (QcV bs D y r) 0 0 (FA bs) := by
  refine Met.ofW (cc := cX10_findBits) (maxL := 6) (ret := none) (by decide) rfl ?_
  intro p e s m args below meth c s₁ B hml hv
  obtain ⟨rfl, hP, hK, hN, hL⟩ := hv
  have hx := B.exec
  have hb := B.bytes
  have hr := B.returns
  have hts0 := atoms_spec (ws := .code yX10_findBits cX10_findBits 6 none :: gtb) B.pre
  have hts : ∀ w ∈ gtb, w.before [.ref (bs + 44), .int x1].toArray s = true := fun w hw => hts0 w (List.mem_cons_of_mem _ hw)
  have hown : s.vm.findClass RX10 = some m.cls := findClass_of_methodNamed B.named
  have hlocks := B.notSynchronized
  have hS : va_S (FA bs) s.heap s.heap [] := va_S.rf
  have Gc : Gx p s m [.ref (bs + 44), .int x1].toArray meth c cX10_findBits 6 RX10 bs D y none 76 := ⟨hx, hb, hml, hown, hts, hK, hN, hL, hr, hlocks, hcb⟩
  have hl := lv_entry [.ref (bs + 44), .int x1] (n := 6) (Nat.le_of_ble_eq_true rfl)
  rw [lg_entry_eq]
  generalize (lg_sl [.ref (bs + 44), .int x1] ++ List.replicate (6 - (lg_sl [.ref (bs + 44), .int x1]).length) Slot.unset).toArray = ls at hl ⊢
  have hl : lv_has ls 6 [(0, .ref (bs + 44)), (1, .int x1)] := hl
  change W p l e (rmm 1 22) s m [.ref (bs + 44), .int x1].toArray below meth c s.heap [] 0 0 (QV below [.ref (bs + 44), .int x1].toArray s bs D y r) (F0 m 0 ls [])
  unfold fX10_findBits at h
  refine lv_iconst (v := (0 : Int32)) hx hb dX10_findBits_0 (by decide) ?_
  refine lv_istore_n (lv' := [(2, .int (0 : Int32)), (0, .ref (bs + 44)), (1, .int x1)]) hx hb dX10_findBits_1 rfl hl (by decide) rfl (fun ls hl => ?_)
  refine lv_iconst (v := (0 : Int32)) hx hb dX10_findBits_2 (by decide) ?_
  refine lv_istore_n (lv' := [(3, .int (0 : Int32)), (2, .int (0 : Int32)), (0, .ref (bs + 44)), (1, .int x1)]) hx hb dX10_findBits_3 rfl hl (by decide) rfl (fun ls hl => ?_)
  exact vX10_findBits_4 bs D y n  r Gc  n x1 (0 : Int32) (0 : Int32) I J _ _ _ hP hS (lv_sub hl [2, 3, 1, 0] rfl) h
theorem dX10_tables_0 : decode cX10_tables 0 = .ok (.aload_n 0, 1) := by decide +kernel
theorem dX10_tables_1 : decode cX10_tables 1 = .ok (.invokevirtual 200, 3) := by decide +kernel
theorem dX10_tables_4 : decode cX10_tables 4 = .ok (.iconst 0, 1) := by decide +kernel
theorem dX10_tables_5 : decode cX10_tables 5 = .ok (.istore_n 1, 1) := by decide +kernel
theorem dX10_tables_6 : decode cX10_tables 6 = .ok (.iload_n 1, 1) := by decide +kernel
theorem dX10_tables_7 : decode cX10_tables 7 = .ok (.aload_n 0, 1) := by decide +kernel
theorem dX10_tables_8 : decode cX10_tables 8 = .ok (.getfield 123, 3) := by decide +kernel
theorem dX10_tables_11 : decode cX10_tables 11 = .ok (.if_icmp .ge 16, 3) := by decide +kernel
theorem dX10_tables_14 : decode cX10_tables 14 = .ok (.aload_n 0, 1) := by decide +kernel
theorem dX10_tables_15 : decode cX10_tables 15 = .ok (.getfield 41, 3) := by decide +kernel
theorem dX10_tables_18 : decode cX10_tables 18 = .ok (.iload_n 1, 1) := by decide +kernel
theorem dX10_tables_19 : decode cX10_tables 19 = .ok (.iconst 0, 1) := by decide +kernel
theorem dX10_tables_20 : decode cX10_tables 20 = .ok (.bastore, 1) := by decide +kernel
theorem dX10_tables_21 : decode cX10_tables 21 = .ok (.iinc 1 1, 3) := by decide +kernel
theorem dX10_tables_24 : decode cX10_tables 24 = .ok (.goto (-18), 3) := by decide +kernel
theorem dX10_tables_27 : decode cX10_tables 27 = .ok (.iconst 0, 1) := by decide +kernel
theorem dX10_tables_28 : decode cX10_tables 28 = .ok (.istore_n 1, 1) := by decide +kernel
theorem dX10_tables_29 : decode cX10_tables 29 = .ok (.iload_n 1, 1) := by decide +kernel
theorem dX10_tables_30 : decode cX10_tables 30 = .ok (.aload_n 0, 1) := by decide +kernel
theorem dX10_tables_31 : decode cX10_tables 31 = .ok (.getfield 175, 3) := by decide +kernel
theorem dX10_tables_34 : decode cX10_tables 34 = .ok (.if_icmp .ge 40, 3) := by decide +kernel
theorem dX10_tables_37 : decode cX10_tables 37 = .ok (.aload_n 0, 1) := by decide +kernel
theorem dX10_tables_38 : decode cX10_tables 38 = .ok (.getfield 41, 3) := by decide +kernel
theorem dX10_tables_41 : decode cX10_tables 41 = .ok (.aload_n 0, 1) := by decide +kernel
theorem dX10_tables_42 : decode cX10_tables 42 = .ok (.getfield 26, 3) := by decide +kernel
theorem dX10_tables_45 : decode cX10_tables 45 = .ok (.iload_n 1, 1) := by decide +kernel
theorem dX10_tables_46 : decode cX10_tables 46 = .ok (.iaload, 1) := by decide +kernel
theorem dX10_tables_47 : decode cX10_tables 47 = .ok (.aload_n 0, 1) := by decide +kernel
theorem dX10_tables_48 : decode cX10_tables 48 = .ok (.getfield 7, 3) := by decide +kernel
theorem dX10_tables_51 : decode cX10_tables 51 = .ok (.aload_n 0, 1) := by decide +kernel
theorem dX10_tables_52 : decode cX10_tables 52 = .ok (.getfield 26, 3) := by decide +kernel
theorem dX10_tables_55 : decode cX10_tables 55 = .ok (.iload_n 1, 1) := by decide +kernel
theorem dX10_tables_56 : decode cX10_tables 56 = .ok (.iaload, 1) := by decide +kernel
theorem dX10_tables_57 : decode cX10_tables 57 = .ok (.iaload, 1) := by decide +kernel
theorem dX10_tables_58 : decode cX10_tables 58 = .ok (.iconst 2, 1) := by decide +kernel
theorem dX10_tables_59 : decode cX10_tables 59 = .ok (.if_icmp .ne 7, 3) := by decide +kernel
theorem dX10_tables_62 : decode cX10_tables 62 = .ok (.iconst 1, 1) := by decide +kernel
theorem dX10_tables_63 : decode cX10_tables 63 = .ok (.goto 4, 3) := by decide +kernel
theorem dX10_tables_66 : decode cX10_tables 66 = .ok (.iconst 0, 1) := by decide +kernel
theorem dX10_tables_67 : decode cX10_tables 67 = .ok (.bastore, 1) := by decide +kernel
theorem dX10_tables_68 : decode cX10_tables 68 = .ok (.iinc 1 1, 3) := by decide +kernel
theorem dX10_tables_71 : decode cX10_tables 71 = .ok (.goto (-42), 3) := by decide +kernel
theorem dX10_tables_74 : decode cX10_tables 74 = .ok (.iconst 0, 1) := by decide +kernel
theorem dX10_tables_75 : decode cX10_tables 75 = .ok (.istore_n 1, 1) := by decide +kernel
theorem dX10_tables_76 : decode cX10_tables 76 = .ok (.iload_n 1, 1) := by decide +kernel
theorem dX10_tables_77 : decode cX10_tables 77 = .ok (.aload_n 0, 1) := by decide +kernel
theorem dX10_tables_78 : decode cX10_tables 78 = .ok (.getfield 123, 3) := by decide +kernel
theorem dX10_tables_81 : decode cX10_tables 81 = .ok (.if_icmp .ge 46, 3) := by decide +kernel
theorem dX10_tables_84 : decode cX10_tables 84 = .ok (.aload_n 0, 1) := by decide +kernel
theorem dX10_tables_85 : decode cX10_tables 85 = .ok (.getfield 7, 3) := by decide +kernel
theorem dX10_tables_88 : decode cX10_tables 88 = .ok (.iload_n 1, 1) := by decide +kernel
theorem dX10_tables_89 : decode cX10_tables 89 = .ok (.iaload, 1) := by decide +kernel
theorem dX10_tables_90 : decode cX10_tables 90 = .ok (.iconst 1, 1) := by decide +kernel
theorem dX10_tables_91 : decode cX10_tables 91 = .ok (.if_icmp .ne 30, 3) := by decide +kernel
theorem dX10_tables_94 : decode cX10_tables 94 = .ok (.aload_n 0, 1) := by decide +kernel
theorem dX10_tables_95 : decode cX10_tables 95 = .ok (.getfield 7, 3) := by decide +kernel
theorem dX10_tables_98 : decode cX10_tables 98 = .ok (.aload_n 0, 1) := by decide +kernel
theorem dX10_tables_99 : decode cX10_tables 99 = .ok (.getfield 13, 3) := by decide +kernel
theorem dX10_tables_102 : decode cX10_tables 102 = .ok (.iload_n 1, 1) := by decide +kernel
theorem dX10_tables_103 : decode cX10_tables 103 = .ok (.iaload, 1) := by decide +kernel
theorem dX10_tables_104 : decode cX10_tables 104 = .ok (.iaload, 1) := by decide +kernel
theorem dX10_tables_105 : decode cX10_tables 105 = .ok (.iconst 2, 1) := by decide +kernel
theorem dX10_tables_106 : decode cX10_tables 106 = .ok (.if_icmp .ne 15, 3) := by decide +kernel
theorem dX10_tables_109 : decode cX10_tables 109 = .ok (.aload_n 0, 1) := by decide +kernel
theorem dX10_tables_110 : decode cX10_tables 110 = .ok (.getfield 41, 3) := by decide +kernel
theorem dX10_tables_113 : decode cX10_tables 113 = .ok (.aload_n 0, 1) := by decide +kernel
theorem dX10_tables_114 : decode cX10_tables 114 = .ok (.getfield 13, 3) := by decide +kernel
theorem dX10_tables_117 : decode cX10_tables 117 = .ok (.iload_n 1, 1) := by decide +kernel
theorem dX10_tables_118 : decode cX10_tables 118 = .ok (.iaload, 1) := by decide +kernel
theorem dX10_tables_119 : decode cX10_tables 119 = .ok (.iconst 1, 1) := by decide +kernel
theorem dX10_tables_120 : decode cX10_tables 120 = .ok (.bastore, 1) := by decide +kernel
theorem dX10_tables_121 : decode cX10_tables 121 = .ok (.iinc 1 1, 3) := by decide +kernel
theorem dX10_tables_124 : decode cX10_tables 124 = .ok (.goto (-48), 3) := by decide +kernel
theorem dX10_tables_127 : decode cX10_tables 127 = .ok (.iconst 0, 1) := by decide +kernel
theorem dX10_tables_128 : decode cX10_tables 128 = .ok (.istore_n 1, 1) := by decide +kernel
theorem dX10_tables_129 : decode cX10_tables 129 = .ok (.aload_n 0, 1) := by decide +kernel
theorem dX10_tables_130 : decode cX10_tables 130 = .ok (.getfield 123, 3) := by decide +kernel
theorem dX10_tables_133 : decode cX10_tables 133 = .ok (.iconst 1, 1) := by decide +kernel
theorem dX10_tables_134 : decode cX10_tables 134 = .ok (.isub, 1) := by decide +kernel
theorem dX10_tables_135 : decode cX10_tables 135 = .ok (.istore_n 2, 1) := by decide +kernel
theorem dX10_tables_136 : decode cX10_tables 136 = .ok (.iload_n 2, 1) := by decide +kernel
theorem dX10_tables_137 : decode cX10_tables 137 = .ok (.ifCond .lt 111, 3) := by decide +kernel
theorem dX10_tables_140 : decode cX10_tables 140 = .ok (.aload_n 0, 1) := by decide +kernel
theorem dX10_tables_141 : decode cX10_tables 141 = .ok (.getfield 41, 3) := by decide +kernel
theorem dX10_tables_144 : decode cX10_tables 144 = .ok (.iload_n 2, 1) := by decide +kernel
theorem dX10_tables_145 : decode cX10_tables 145 = .ok (.baload, 1) := by decide +kernel
theorem dX10_tables_146 : decode cX10_tables 146 = .ok (.ifCond .ne 6, 3) := by decide +kernel
theorem dX10_tables_149 : decode cX10_tables 149 = .ok (.goto 93, 3) := by decide +kernel
theorem dX10_tables_152 : decode cX10_tables 152 = .ok (.iinc 1 1, 3) := by decide +kernel
theorem dX10_tables_155 : decode cX10_tables 155 = .ok (.aload_n 0, 1) := by decide +kernel
theorem dX10_tables_156 : decode cX10_tables 156 = .ok (.getfield 47, 3) := by decide +kernel
theorem dX10_tables_159 : decode cX10_tables 159 = .ok (.iload_n 2, 1) := by decide +kernel
theorem dX10_tables_160 : decode cX10_tables 160 = .ok (.iconst 0, 1) := by decide +kernel
theorem dX10_tables_161 : decode cX10_tables 161 = .ok (.iastore, 1) := by decide +kernel
theorem dX10_tables_162 : decode cX10_tables 162 = .ok (.iconst 0, 1) := by decide +kernel
theorem dX10_tables_163 : decode cX10_tables 163 = .ok (.istore_n 3, 1) := by decide +kernel
theorem dX10_tables_164 : decode cX10_tables 164 = .ok (.iload_n 3, 1) := by decide +kernel
theorem dX10_tables_165 : decode cX10_tables 165 = .ok (.iload_n 2, 1) := by decide +kernel
theorem dX10_tables_166 : decode cX10_tables 166 = .ok (.if_icmp .ge 71, 3) := by decide +kernel
theorem dX10_tables_169 : decode cX10_tables 169 = .ok (.aload_n 0, 1) := by decide +kernel
theorem dX10_tables_170 : decode cX10_tables 170 = .ok (.getfield 32, 3) := by decide +kernel
theorem dX10_tables_173 : decode cX10_tables 173 = .ok (.bipush 40, 2) := by decide +kernel
theorem dX10_tables_175 : decode cX10_tables 175 = .ok (.iload_n 2, 1) := by decide +kernel
theorem dX10_tables_176 : decode cX10_tables 176 = .ok (.imul, 1) := by decide +kernel
theorem dX10_tables_177 : decode cX10_tables 177 = .ok (.iaload, 1) := by decide +kernel
theorem dX10_tables_178 : decode cX10_tables 178 = .ok (.iload_n 3, 1) := by decide +kernel
theorem dX10_tables_179 : decode cX10_tables 179 = .ok (.iushr, 1) := by decide +kernel
theorem dX10_tables_180 : decode cX10_tables 180 = .ok (.iconst 1, 1) := by decide +kernel
theorem dX10_tables_181 : decode cX10_tables 181 = .ok (.iand, 1) := by decide +kernel
theorem dX10_tables_182 : decode cX10_tables 182 = .ok (.ifCond .ne 6, 3) := by decide +kernel
theorem dX10_tables_185 : decode cX10_tables 185 = .ok (.goto 46, 3) := by decide +kernel
theorem dX10_tables_188 : decode cX10_tables 188 = .ok (.aload_n 0, 1) := by decide +kernel
theorem dX10_tables_189 : decode cX10_tables 189 = .ok (.getfield 44, 3) := by decide +kernel
theorem dX10_tables_192 : decode cX10_tables 192 = .ok (.iconst 4, 1) := by decide +kernel
theorem dX10_tables_193 : decode cX10_tables 193 = .ok (.iload_n 2, 1) := by decide +kernel
theorem dX10_tables_194 : decode cX10_tables 194 = .ok (.imul, 1) := by decide +kernel
theorem dX10_tables_195 : decode cX10_tables 195 = .ok (.aload_n 0, 1) := by decide +kernel
theorem dX10_tables_196 : decode cX10_tables 196 = .ok (.getfield 47, 3) := by decide +kernel
theorem dX10_tables_199 : decode cX10_tables 199 = .ok (.iload_n 2, 1) := by decide +kernel
theorem dX10_tables_200 : decode cX10_tables 200 = .ok (.iaload, 1) := by decide +kernel
theorem dX10_tables_201 : decode cX10_tables 201 = .ok (.iadd, 1) := by decide +kernel
theorem dX10_tables_202 : decode cX10_tables 202 = .ok (.iload_n 3, 1) := by decide +kernel
theorem dX10_tables_203 : decode cX10_tables 203 = .ok (.iastore, 1) := by decide +kernel
theorem dX10_tables_204 : decode cX10_tables 204 = .ok (.aload_n 0, 1) := by decide +kernel
theorem dX10_tables_205 : decode cX10_tables 205 = .ok (.getfield 47, 3) := by decide +kernel
theorem dX10_tables_208 : decode cX10_tables 208 = .ok (.iload_n 2, 1) := by decide +kernel
theorem dX10_tables_209 : decode cX10_tables 209 = .ok (.dup2, 1) := by decide +kernel
theorem dX10_tables_210 : decode cX10_tables 210 = .ok (.iaload, 1) := by decide +kernel
theorem dX10_tables_211 : decode cX10_tables 211 = .ok (.iconst 1, 1) := by decide +kernel
theorem dX10_tables_212 : decode cX10_tables 212 = .ok (.iadd, 1) := by decide +kernel
theorem dX10_tables_213 : decode cX10_tables 213 = .ok (.iastore, 1) := by decide +kernel
theorem dX10_tables_214 : decode cX10_tables 214 = .ok (.aload_n 0, 1) := by decide +kernel
theorem dX10_tables_215 : decode cX10_tables 215 = .ok (.getfield 7, 3) := by decide +kernel
theorem dX10_tables_218 : decode cX10_tables 218 = .ok (.iload_n 3, 1) := by decide +kernel
theorem dX10_tables_219 : decode cX10_tables 219 = .ok (.iaload, 1) := by decide +kernel
theorem dX10_tables_220 : decode cX10_tables 220 = .ok (.iconst 2, 1) := by decide +kernel
theorem dX10_tables_221 : decode cX10_tables 221 = .ok (.if_icmp .ne 10, 3) := by decide +kernel
theorem dX10_tables_224 : decode cX10_tables 224 = .ok (.aload_n 0, 1) := by decide +kernel
theorem dX10_tables_225 : decode cX10_tables 225 = .ok (.getfield 41, 3) := by decide +kernel
theorem dX10_tables_228 : decode cX10_tables 228 = .ok (.iload_n 3, 1) := by decide +kernel
theorem dX10_tables_229 : decode cX10_tables 229 = .ok (.iconst 1, 1) := by decide +kernel
theorem dX10_tables_230 : decode cX10_tables 230 = .ok (.bastore, 1) := by decide +kernel
theorem dX10_tables_231 : decode cX10_tables 231 = .ok (.iinc 3 1, 3) := by decide +kernel
theorem dX10_tables_234 : decode cX10_tables 234 = .ok (.goto (-70), 3) := by decide +kernel
theorem dX10_tables_237 : decode cX10_tables 237 = .ok (.aload_n 0, 1) := by decide +kernel
theorem dX10_tables_238 : decode cX10_tables 238 = .ok (.iload_n 2, 1) := by decide +kernel
theorem dX10_tables_239 : decode cX10_tables 239 = .ok (.invokevirtual 210, 3) := by decide +kernel
theorem dX10_tables_242 : decode cX10_tables 242 = .ok (.iinc 2 (-1), 3) := by decide +kernel
theorem dX10_tables_245 : decode cX10_tables 245 = .ok (.goto (-109), 3) := by decide +kernel
theorem dX10_tables_248 : decode cX10_tables 248 = .ok (.aload_n 0, 1) := by decide +kernel
theorem dX10_tables_249 : decode cX10_tables 249 = .ok (.iconst 1, 1) := by decide +kernel
theorem dX10_tables_250 : decode cX10_tables 250 = .ok (.putfield 126, 3) := by decide +kernel
theorem dX10_tables_253 : decode cX10_tables 253 = .ok (.iload_n 1, 1) := by decide +kernel
theorem dX10_tables_254 : decode cX10_tables 254 = .ok (.ireturn, 1) := by decide +kernel
set_option maxHeartbeats 4000000 in
set_option maxRecDepth 100000 in
theorem wX10_tables_242 {p : Program} {l : Launch} {e : Env} {s : State} {m : MethodId} {args : Array Value} {below : List Frame} {meth : Method} {c : Code} (bs : Nat) (D : va_G) (y : Y3) (n : Nat) (k136_ : Int32 → Int32 → MI → MJ → Option (Int32 × M2)) (r : Int32 × M2) (Gc : Gx p s m args meth c cX10_tables 4 RX10 bs D y (some .int) 76) (hk136_ : ∀ (x1 : Int32) (x2 : Int32) (I : MI) (J : MJ) (H : Heap) (locs : List Loc) (ls : Array Slot), va_P D vwCl (wl bs y I J) H → va_S (FA bs) s.heap H locs → lv_has ls 4 [(0, .ref (bs + 44)), (1, .int x1), (2, .int x2)] → k136_ x1 x2 I J = some r → W p l e (rmm 4 98) s m args below meth c H locs 0 0 (QI below args s bs D y r) (F0 m 136 ls [])) (x1 : Int32) (x2 : Int32) (I : MI) (J : MJ) (H : Heap) (locs : List Loc) (ls : Array Slot) (hP : va_P D vwCl (wl bs y I J) H) (hS : va_S (FA bs) s.heap H locs) (hl : lv_has ls 4 [(0, .ref (bs + 44)), (1, .int x1), (2, .int x2)]) (h : fX10_tables_242 n k136_ x1 x2 I J = some r) : W p l e (rmm 4 98) s m args below meth c H locs 0 0 (QI below args s bs D y r) (F0 m 242 ls []) := by
  obtain ⟨hx, hb, hml, hown, hts, hK, hN, hL, hr, hlocks, hcb⟩ := id Gc
  unfold fX10_tables_242 at h
  refine lv_iinc (v := (x2 + (-1 : Int32))) (lv' := [(2, .int (x2 + (-1 : Int32))), (0, .ref (bs + 44)), (1, .int x1)]) hx hb dX10_tables_242 hl (k := 2) rfl rfl (by decide) rfl (fun ls hl => ?_)
  refine lv_goto (tgt := 136) hx hb dX10_tables_245 (by decide) ?_
  exact hk136_ x1 (x2 + (-1 : Int32)) I J _ _ _ hP hS (lv_sub hl [1, 2, 0] rfl) h
set_option maxHeartbeats 4000000 in
set_option maxRecDepth 100000 in
theorem wX10_tables_231 {p : Program} {l : Launch} {e : Env} {s : State} {m : MethodId} {args : Array Value} {below : List Frame} {meth : Method} {c : Code} (bs : Nat) (D : va_G) (y : Y3) (n : Nat) (k136_ : Int32 → Int32 → MI → MJ → Option (Int32 × M2)) (k164_ : Int32 → Int32 → Int32 → MI → MJ → Option (Int32 × M2)) (r : Int32 × M2) (Gc : Gx p s m args meth c cX10_tables 4 RX10 bs D y (some .int) 76) (hk136_ : ∀ (x1 : Int32) (x2 : Int32) (I : MI) (J : MJ) (H : Heap) (locs : List Loc) (ls : Array Slot), va_P D vwCl (wl bs y I J) H → va_S (FA bs) s.heap H locs → lv_has ls 4 [(0, .ref (bs + 44)), (1, .int x1), (2, .int x2)] → k136_ x1 x2 I J = some r → W p l e (rmm 4 98) s m args below meth c H locs 0 0 (QI below args s bs D y r) (F0 m 136 ls [])) (hk164_ : ∀ (x1 : Int32) (x2 : Int32) (x3 : Int32) (I : MI) (J : MJ) (H : Heap) (locs : List Loc) (ls : Array Slot), va_P D vwCl (wl bs y I J) H → va_S (FA bs) s.heap H locs → lv_has ls 4 [(0, .ref (bs + 44)), (1, .int x1), (2, .int x2), (3, .int x3)] → k164_ x1 x2 x3 I J = some r → W p l e (rmm 4 98) s m args below meth c H locs 0 0 (QI below args s bs D y r) (F0 m 164 ls [])) (x1 : Int32) (x2 : Int32) (x3 : Int32) (I : MI) (J : MJ) (H : Heap) (locs : List Loc) (ls : Array Slot) (hP : va_P D vwCl (wl bs y I J) H) (hS : va_S (FA bs) s.heap H locs) (hl : lv_has ls 4 [(0, .ref (bs + 44)), (1, .int x1), (2, .int x2), (3, .int x3)]) (h : fX10_tables_231 n k136_ k164_ x1 x2 x3 I J = some r) : W p l e (rmm 4 98) s m args below meth c H locs 0 0 (QI below args s bs D y r) (F0 m 231 ls []) := by
  obtain ⟨hx, hb, hml, hown, hts, hK, hN, hL, hr, hlocks, hcb⟩ := id Gc
  unfold fX10_tables_231 at h
  refine lv_iinc (v := (x3 + (1 : Int32))) (lv' := [(3, .int (x3 + (1 : Int32))), (0, .ref (bs + 44)), (1, .int x1), (2, .int x2)]) hx hb dX10_tables_231 hl (k := 3) rfl rfl (by decide) rfl (fun ls hl => ?_)
  refine lv_goto (tgt := 164) hx hb dX10_tables_234 (by decide) ?_
  exact hk164_ x1 x2 (x3 + (1 : Int32)) I J _ _ _ hP hS (lv_sub hl [1, 2, 3, 0] rfl) h
set_option maxHeartbeats 4000000 in
set_option maxRecDepth 100000 in
theorem wX10_tables_164 {p : Program} {l : Launch} {e : Env} {s : State} {m : MethodId} {args : Array Value} {below : List Frame} {meth : Method} {c : Code} (bs : Nat) (D : va_G) (y : Y3) (n : Nat) (k136_ : Int32 → Int32 → MI → MJ → Option (Int32 × M2)) (k164_ : Int32 → Int32 → Int32 → MI → MJ → Option (Int32 × M2)) (r : Int32 × M2) (Gc : Gx p s m args meth c cX10_tables 4 RX10 bs D y (some .int) 76) (hk136_ : ∀ (x1 : Int32) (x2 : Int32) (I : MI) (J : MJ) (H : Heap) (locs : List Loc) (ls : Array Slot), va_P D vwCl (wl bs y I J) H → va_S (FA bs) s.heap H locs → lv_has ls 4 [(0, .ref (bs + 44)), (1, .int x1), (2, .int x2)] → k136_ x1 x2 I J = some r → W p l e (rmm 4 98) s m args below meth c H locs 0 0 (QI below args s bs D y r) (F0 m 136 ls [])) (hk164_ : ∀ (x1 : Int32) (x2 : Int32) (x3 : Int32) (I : MI) (J : MJ) (H : Heap) (locs : List Loc) (ls : Array Slot), va_P D vwCl (wl bs y I J) H → va_S (FA bs) s.heap H locs → lv_has ls 4 [(0, .ref (bs + 44)), (1, .int x1), (2, .int x2), (3, .int x3)] → k164_ x1 x2 x3 I J = some r → W p l e (rmm 4 98) s m args below meth c H locs 0 0 (QI below args s bs D y r) (F0 m 164 ls [])) (x1 : Int32) (x2 : Int32) (x3 : Int32) (I : MI) (J : MJ) (H : Heap) (locs : List Loc) (ls : Array Slot) (hP : va_P D vwCl (wl bs y I J) H) (hS : va_S (FA bs) s.heap H locs) (hl : lv_has ls 4 [(0, .ref (bs + 44)), (1, .int x1), (2, .int x2), (3, .int x3)]) (h : fX10_tables_164 n k136_ k164_ x1 x2 x3 I J = some r) : W p l e (rmm 4 98) s m args below meth c H locs 0 0 (QI below args s bs D y r) (F0 m 164 ls []) := by
  obtain ⟨hx, hb, hml, hown, hts, hK, hN, hL, hr, hlocks, hcb⟩ := id Gc
  unfold fX10_tables_164 at h
  refine lv_iload_n hx hb dX10_tables_164 rfl (lv_at hl 3 rfl) ?_
  refine lv_iload_n hx hb dX10_tables_165 rfl (lv_at hl 2 rfl) ?_
  refine lv_icmp_ge (tgt := 237) hx hb dX10_tables_166 (by decide) (fun c166 => ?_) (fun c166 => ?_)
  · replace h := if_t c166 h
    refine lv_aload_n hx hb dX10_tables_237 rfl (lv_at hl 0 rfl) ?_
    refine lv_iload_n hx hb dX10_tables_238 rfl (lv_at hl 2 rfl) ?_
    obtain ⟨r239, er239, h⟩ := bd_s1 h
    refine c_VV (k := 44) (ci := 10) (As := [.int x2]) (rest := []) hx hb hml hown hts hK hN hL hP hS (cX10_findBits_ l bs D y hcb n x2 I J r239 er239) ok_X10_findBits ov_X10_findBits ml_131 ⟨Nat.le_of_ble_eq_true rfl, Nat.le_of_ble_eq_true rfl⟩ rfl hcb kd_44 hl.1 rfl rfl (Nat.le_of_ble_eq_true rfl) ⟨Nat.zero_le _, Nat.zero_le _⟩ dX10_tables_239 (fun H locs hP hS => ?_)
    exact wX10_tables_242 bs D y n k136_ r Gc hk136_ x1 x2 r239.1 r239.2 _ _ _ hP hS (lv_sub hl [0, 1, 2] rfl) h
  · replace h := if_f c166 h
    refine lv_aload_n hx hb dX10_tables_169 rfl (lv_at hl 0 rfl) ?_
    refine g_R (C := RX10) (T := TX10) (N := 49) (ci := 10) 44 16 52 hx hb hts hown hK hP in_X10 rfl hcb okF_44_16 rfc_44_16 fl_161 dX10_tables_170 ?_
    refine lv_bipush (v := (40 : Int32)) hx hb dX10_tables_173 (by decide) ?_
    refine lv_iload_n hx hb dX10_tables_175 rfl (lv_at hl 2 rfl) ?_
    refine lv_imul hx hb dX10_tables_176 ?_
    obtain ⟨hi177, h⟩ := if_s1 h
    refine a_I 52 hx hb hK hP hcb aln_52 hi177 dX10_tables_177 ?_
    refine lv_iload_n hx hb dX10_tables_178 rfl (lv_at hl 3 rfl) ?_
    refine lv_iushr (v := (ushrI (I 52 (((40 : Int32) * x2)).toNatClampNeg) x3)) hx hb dX10_tables_179 rfl ?_
    refine lv_iconst (v := (1 : Int32)) hx hb dX10_tables_180 (by decide) ?_
    refine lv_iand hx hb dX10_tables_181 ?_
    refine lv_if_ne (tgt := 188) hx hb dX10_tables_182 (by decide) (fun c182 => ?_) (fun c182 => ?_)
    · replace h := if_f c182 h
      refine lv_aload_n hx hb dX10_tables_188 rfl (lv_at hl 0 rfl) ?_
      refine g_R (C := RX10) (T := TX10) (N := 49) (ci := 10) 44 20 56 hx hb hts hown hK hP in_X10 rfl hcb okF_44_20 rfc_44_20 fl_165 dX10_tables_189 ?_
      refine lv_iconst (v := (4 : Int32)) hx hb dX10_tables_192 (by decide) ?_
      refine lv_iload_n hx hb dX10_tables_193 rfl (lv_at hl 2 rfl) ?_
      refine lv_imul hx hb dX10_tables_194 ?_
      refine lv_aload_n hx hb dX10_tables_195 rfl (lv_at hl 0 rfl) ?_
      refine g_R (C := RX10) (T := TX10) (N := 49) (ci := 10) 44 21 57 hx hb hts hown hK hP in_X10 rfl hcb okF_44_21 rfc_44_21 fl_164 dX10_tables_196 ?_
      refine lv_iload_n hx hb dX10_tables_199 rfl (lv_at hl 2 rfl) ?_
      obtain ⟨hi200, h⟩ := if_s1 h
      refine a_I 57 hx hb hK hP hcb aln_57 hi200 dX10_tables_200 ?_
      refine lv_iadd hx hb dX10_tables_201 ?_
      refine lv_iload_n hx hb dX10_tables_202 rfl (lv_at hl 3 rfl) ?_
      obtain ⟨hi203, h⟩ := if_s1 h
      obtain ⟨I203, eI203, h⟩ := lt_s1 h
      refine t_I 56 eI203 hx hb hK hP hS hcb aln_56 hi203 dX10_tables_203 (fun H locs hP hS => ?_)
      refine lv_aload_n hx hb dX10_tables_204 rfl (lv_at hl 0 rfl) ?_
      refine g_R (C := RX10) (T := TX10) (N := 49) (ci := 10) 44 21 57 hx hb hts hown hK hP in_X10 rfl hcb okF_44_21 rfc_44_21 fl_164 dX10_tables_205 ?_
      refine lv_iload_n hx hb dX10_tables_208 rfl (lv_at hl 2 rfl) ?_
      refine lv_dup2_11 hx hb dX10_tables_209 rfl rfl ?_
      obtain ⟨hi210, h⟩ := if_s1 h
      refine a_I 57 hx hb hK hP hcb aln_57 hi210 dX10_tables_210 ?_
      refine lv_iconst (v := (1 : Int32)) hx hb dX10_tables_211 (by decide) ?_
      refine lv_iadd hx hb dX10_tables_212 ?_
      obtain ⟨hi213, h⟩ := if_s1 h
      obtain ⟨I213, eI213, h⟩ := lt_s1 h
      refine t_I 57 eI213 hx hb hK hP hS hcb aln_57 hi213 dX10_tables_213 (fun H locs hP hS => ?_)
      refine lv_aload_n hx hb dX10_tables_214 rfl (lv_at hl 0 rfl) ?_
      refine g_R (C := RX10) (T := TX10) (N := 49) (ci := 10) 44 0 45 hx hb hts hown hK hP in_X10 rfl hcb okF_44_0 rfc_44_0 fl_146 dX10_tables_215 ?_
      refine lv_iload_n hx hb dX10_tables_218 rfl (lv_at hl 3 rfl) ?_
      obtain ⟨hi219, h⟩ := if_s1 h
      refine a_I 45 hx hb hK hP hcb aln_45 hi219 dX10_tables_219 ?_
      refine lv_iconst (v := (2 : Int32)) hx hb dX10_tables_220 (by decide) ?_
      refine lv_icmp_ne (tgt := 231) hx hb dX10_tables_221 (by decide) (fun c221 => ?_) (fun c221 => ?_)
      · replace h := if_f c221 h
        exact wX10_tables_231 bs D y n k136_ k164_ r Gc hk136_ hk164_ x1 x2 x3 I213 J _ _ _ hP hS (lv_sub hl [0, 1, 2, 3] rfl) h
      · replace h := if_t c221 h
        refine lv_aload_n hx hb dX10_tables_224 rfl (lv_at hl 0 rfl) ?_
        refine g_R (C := RX10) (T := TX10) (N := 49) (ci := 10) 44 19 55 hx hb hts hown hK hP in_X10 rfl hcb okF_44_19 rfc_44_19 fl_167 dX10_tables_225 ?_
        refine lv_iload_n hx hb dX10_tables_228 rfl (lv_at hl 3 rfl) ?_
        refine lv_iconst (v := (1 : Int32)) hx hb dX10_tables_229 (by decide) ?_
        obtain ⟨hi230, h⟩ := if_s1 h
        obtain ⟨I230, eI230, h⟩ := lt_s1 h
        refine t_Z 55 eI230 hx hb hK hP hS hcb alZ_55 hi230 dX10_tables_230 (fun H locs hP hS => ?_)
        exact wX10_tables_231 bs D y n k136_ k164_ r Gc hk136_ hk164_ x1 x2 x3 I230 J _ _ _ hP hS (lv_sub hl [0, 1, 2, 3] rfl) h
    · replace h := if_t c182 h
      refine lv_goto (tgt := 231) hx hb dX10_tables_185 (by decide) ?_
      exact wX10_tables_231 bs D y n k136_ k164_ r Gc hk136_ hk164_ x1 x2 x3 I J _ _ _ hP hS (lv_sub hl [0, 1, 2, 3] rfl) h
theorem vX10_tables_164 {p : Program} {l : Launch} {e : Env} {s : State} {m : MethodId} {args : Array Value} {below : List Frame} {meth : Method} {c : Code} (bs : Nat) (D : va_G) (y : Y3) (n : Nat) (k136_ : Int32 → Int32 → MI → MJ → Option (Int32 × M2)) (r : Int32 × M2) (Gc : Gx p s m args meth c cX10_tables 4 RX10 bs D y (some .int) 76) (hk136_ : ∀ (x1 : Int32) (x2 : Int32) (I : MI) (J : MJ) (H : Heap) (locs : List Loc) (ls : Array Slot), va_P D vwCl (wl bs y I J) H → va_S (FA bs) s.heap H locs → lv_has ls 4 [(0, .ref (bs + 44)), (1, .int x1), (2, .int x2)] → k136_ x1 x2 I J = some r → W p l e (rmm 4 98) s m args below meth c H locs 0 0 (QI below args s bs D y r) (F0 m 136 ls [])) : ∀ (q : Nat) (x1 : Int32) (x2 : Int32) (x3 : Int32) (I : MI) (J : MJ) (H : Heap) (locs : List Loc) (ls : Array Slot), va_P D vwCl (wl bs y I J) H → va_S (FA bs) s.heap H locs → lv_has ls 4 [(0, .ref (bs + 44)), (1, .int x1), (2, .int x2), (3, .int x3)] → lX10_tables_164 n k136_ q x1 x2 x3 I J = some r → W p l e (rmm 4 98) s m args below meth c H locs 0 0 (QI below args s bs D y r) (F0 m 164 ls []) := by
  intro q
  induction q with
  | zero =>
    intro x1 x2 x3 I J H locs ls hP hS hl h
    have h : (none : Option (Int32 × M2)) = some r := h
    cases h
  | succ q ih =>
    intro x1 x2 x3 I J H locs ls hP hS hl h
    have h : fX10_tables_164 n k136_ (lX10_tables_164 n k136_ q) x1 x2 x3 I J = some r := h
    exact wX10_tables_164 bs D y n k136_ (lX10_tables_164 n k136_ q) r Gc hk136_ ih x1 x2 x3 I J H locs ls hP hS hl h
set_option maxHeartbeats 4000000 in
set_option maxRecDepth 100000 in
theorem wX10_tables_136 {p : Program} {l : Launch} {e : Env} {s : State} {m : MethodId} {args : Array Value} {below : List Frame} {meth : Method} {c : Code} (bs : Nat) (D : va_G) (y : Y3) (n : Nat) (k136_ : Int32 → Int32 → MI → MJ → Option (Int32 × M2)) (r : Int32 × M2) (Gc : Gx p s m args meth c cX10_tables 4 RX10 bs D y (some .int) 76) (hk136_ : ∀ (x1 : Int32) (x2 : Int32) (I : MI) (J : MJ) (H : Heap) (locs : List Loc) (ls : Array Slot), va_P D vwCl (wl bs y I J) H → va_S (FA bs) s.heap H locs → lv_has ls 4 [(0, .ref (bs + 44)), (1, .int x1), (2, .int x2)] → k136_ x1 x2 I J = some r → W p l e (rmm 4 98) s m args below meth c H locs 0 0 (QI below args s bs D y r) (F0 m 136 ls [])) (x1 : Int32) (x2 : Int32) (I : MI) (J : MJ) (H : Heap) (locs : List Loc) (ls : Array Slot) (hP : va_P D vwCl (wl bs y I J) H) (hS : va_S (FA bs) s.heap H locs) (hl : lv_has ls 4 [(0, .ref (bs + 44)), (1, .int x1), (2, .int x2)]) (h : fX10_tables_136 n k136_ x1 x2 I J = some r) : W p l e (rmm 4 98) s m args below meth c H locs 0 0 (QI below args s bs D y r) (F0 m 136 ls []) := by
  obtain ⟨hx, hb, hml, hown, hts, hK, hN, hL, hr, hlocks, hcb⟩ := id Gc
  unfold fX10_tables_136 at h
  refine lv_iload_n hx hb dX10_tables_136 rfl (lv_at hl 2 rfl) ?_
  refine lv_if_lt (tgt := 248) hx hb dX10_tables_137 (by decide) (fun c137 => ?_) (fun c137 => ?_)
  · replace h := if_t c137 h
    refine lv_aload_n hx hb dX10_tables_248 rfl (lv_at hl 0 rfl) ?_
    refine lv_iconst (v := (1 : Int32)) hx hb dX10_tables_249 (by decide) ?_
    obtain ⟨I250, eI250, h⟩ := lt_s1 h
    refine s_I (C := RX10) (T := TX10) (N := 49) (ci := 10) (ty := .boolean) 44 11 eI250 tyX10 hx hb hts hown hK hP hS in_X10 tyX10_ok nmX10 rfl hcb okF_44_11 fl_148 rfl (by decide +kernel) (by decide) rfl dX10_tables_250 (fun H locs hP hS => ?_)
    refine lv_iload_n hx hb dX10_tables_253 rfl (lv_at hl 1 rfl) ?_
    exact r_I hx hb hr hlocks hP hK hN hL hS h dX10_tables_254
  · replace h := if_f c137 h
    refine lv_aload_n hx hb dX10_tables_140 rfl (lv_at hl 0 rfl) ?_
    refine g_R (C := RX10) (T := TX10) (N := 49) (ci := 10) 44 19 55 hx hb hts hown hK hP in_X10 rfl hcb okF_44_19 rfc_44_19 fl_167 dX10_tables_141 ?_
    refine lv_iload_n hx hb dX10_tables_144 rfl (lv_at hl 2 rfl) ?_
    obtain ⟨hi145, h⟩ := if_s1 h
    refine a_Z 55 hx hb hK hP hcb alZ_55 hi145 dX10_tables_145 ?_
    refine lv_if_ne (tgt := 152) hx hb dX10_tables_146 (by decide) (fun c146 => ?_) (fun c146 => ?_)
    · replace h := if_f c146 h
      refine lv_iinc (v := (x1 + (1 : Int32))) (lv' := [(1, .int (x1 + (1 : Int32))), (0, .ref (bs + 44)), (2, .int x2)]) hx hb dX10_tables_152 hl (k := 1) rfl rfl (by decide) rfl (fun ls hl => ?_)
      refine lv_aload_n hx hb dX10_tables_155 rfl (lv_at hl 1 rfl) ?_
      refine g_R (C := RX10) (T := TX10) (N := 49) (ci := 10) 44 21 57 hx hb hts hown hK hP in_X10 rfl hcb okF_44_21 rfc_44_21 fl_164 dX10_tables_156 ?_
      refine lv_iload_n hx hb dX10_tables_159 rfl (lv_at hl 2 rfl) ?_
      refine lv_iconst (v := (0 : Int32)) hx hb dX10_tables_160 (by decide) ?_
      obtain ⟨hi161, h⟩ := if_s1 h
      obtain ⟨I161, eI161, h⟩ := lt_s1 h
      refine t_I 57 eI161 hx hb hK hP hS hcb aln_57 hi161 dX10_tables_161 (fun H locs hP hS => ?_)
      refine lv_iconst (v := (0 : Int32)) hx hb dX10_tables_162 (by decide) ?_
      refine lv_istore_n (lv' := [(3, .int (0 : Int32)), (1, .int (x1 + (1 : Int32))), (0, .ref (bs + 44)), (2, .int x2)]) hx hb dX10_tables_163 rfl hl (by decide) rfl (fun ls hl => ?_)
      exact vX10_tables_164 bs D y n k136_ r Gc hk136_ n (x1 + (1 : Int32)) x2 (0 : Int32) I161 J _ _ _ hP hS (lv_sub hl [2, 1, 3, 0] rfl) h
    · replace h := if_t c146 h
      refine lv_goto (tgt := 242) hx hb dX10_tables_149 (by decide) ?_
      exact wX10_tables_242 bs D y n k136_ r Gc hk136_ x1 x2 I J _ _ _ hP hS (lv_sub hl [0, 1, 2] rfl) h
theorem vX10_tables_136 {p : Program} {l : Launch} {e : Env} {s : State} {m : MethodId} {args : Array Value} {below : List Frame} {meth : Method} {c : Code} (bs : Nat) (D : va_G) (y : Y3) (n : Nat) (r : Int32 × M2) (Gc : Gx p s m args meth c cX10_tables 4 RX10 bs D y (some .int) 76)  : ∀ (q : Nat) (x1 : Int32) (x2 : Int32) (I : MI) (J : MJ) (H : Heap) (locs : List Loc) (ls : Array Slot), va_P D vwCl (wl bs y I J) H → va_S (FA bs) s.heap H locs → lv_has ls 4 [(0, .ref (bs + 44)), (1, .int x1), (2, .int x2)] → lX10_tables_136 n  q x1 x2 I J = some r → W p l e (rmm 4 98) s m args below meth c H locs 0 0 (QI below args s bs D y r) (F0 m 136 ls []) := by
  intro q
  induction q with
  | zero =>
    intro x1 x2 I J H locs ls hP hS hl h
    have h : (none : Option (Int32 × M2)) = some r := h
    cases h
  | succ q ih =>
    intro x1 x2 I J H locs ls hP hS hl h
    have h : fX10_tables_136 n  (lX10_tables_136 n  q) x1 x2 I J = some r := h
    exact wX10_tables_136 bs D y n  (lX10_tables_136 n  q) r Gc  ih x1 x2 I J H locs ls hP hS hl h
set_option maxHeartbeats 4000000 in
set_option maxRecDepth 100000 in
theorem wX10_tables_121 {p : Program} {l : Launch} {e : Env} {s : State} {m : MethodId} {args : Array Value} {below : List Frame} {meth : Method} {c : Code} (bs : Nat) (D : va_G) (y : Y3) (n : Nat) (k76_ : Int32 → MI → MJ → Option (Int32 × M2)) (r : Int32 × M2) (Gc : Gx p s m args meth c cX10_tables 4 RX10 bs D y (some .int) 76) (hk76_ : ∀ (x1 : Int32) (I : MI) (J : MJ) (H : Heap) (locs : List Loc) (ls : Array Slot), va_P D vwCl (wl bs y I J) H → va_S (FA bs) s.heap H locs → lv_has ls 4 [(0, .ref (bs + 44)), (1, .int x1)] → k76_ x1 I J = some r → W p l e (rmm 4 98) s m args below meth c H locs 0 0 (QI below args s bs D y r) (F0 m 76 ls [])) (x1 : Int32) (I : MI) (J : MJ) (H : Heap) (locs : List Loc) (ls : Array Slot) (hP : va_P D vwCl (wl bs y I J) H) (hS : va_S (FA bs) s.heap H locs) (hl : lv_has ls 4 [(0, .ref (bs + 44)), (1, .int x1)]) (h : fX10_tables_121 n k76_ x1 I J = some r) : W p l e (rmm 4 98) s m args below meth c H locs 0 0 (QI below args s bs D y r) (F0 m 121 ls []) := by
  obtain ⟨hx, hb, hml, hown, hts, hK, hN, hL, hr, hlocks, hcb⟩ := id Gc
  unfold fX10_tables_121 at h
  refine lv_iinc (v := (x1 + (1 : Int32))) (lv' := [(1, .int (x1 + (1 : Int32))), (0, .ref (bs + 44))]) hx hb dX10_tables_121 hl (k := 1) rfl rfl (by decide) rfl (fun ls hl => ?_)
  refine lv_goto (tgt := 76) hx hb dX10_tables_124 (by decide) ?_
  exact hk76_ (x1 + (1 : Int32)) I J _ _ _ hP hS (lv_sub hl [1, 0] rfl) h
set_option maxHeartbeats 4000000 in
set_option maxRecDepth 100000 in
theorem wX10_tables_76 {p : Program} {l : Launch} {e : Env} {s : State} {m : MethodId} {args : Array Value} {below : List Frame} {meth : Method} {c : Code} (bs : Nat) (D : va_G) (y : Y3) (n : Nat) (k76_ : Int32 → MI → MJ → Option (Int32 × M2)) (r : Int32 × M2) (Gc : Gx p s m args meth c cX10_tables 4 RX10 bs D y (some .int) 76) (hk76_ : ∀ (x1 : Int32) (I : MI) (J : MJ) (H : Heap) (locs : List Loc) (ls : Array Slot), va_P D vwCl (wl bs y I J) H → va_S (FA bs) s.heap H locs → lv_has ls 4 [(0, .ref (bs + 44)), (1, .int x1)] → k76_ x1 I J = some r → W p l e (rmm 4 98) s m args below meth c H locs 0 0 (QI below args s bs D y r) (F0 m 76 ls [])) (x1 : Int32) (I : MI) (J : MJ) (H : Heap) (locs : List Loc) (ls : Array Slot) (hP : va_P D vwCl (wl bs y I J) H) (hS : va_S (FA bs) s.heap H locs) (hl : lv_has ls 4 [(0, .ref (bs + 44)), (1, .int x1)]) (h : fX10_tables_76 n k76_ x1 I J = some r) : W p l e (rmm 4 98) s m args below meth c H locs 0 0 (QI below args s bs D y r) (F0 m 76 ls []) := by
  obtain ⟨hx, hb, hml, hown, hts, hK, hN, hL, hr, hlocks, hcb⟩ := id Gc
  unfold fX10_tables_76 at h
  refine lv_iload_n hx hb dX10_tables_76 rfl (lv_at hl 1 rfl) ?_
  refine lv_aload_n hx hb dX10_tables_77 rfl (lv_at hl 0 rfl) ?_
  refine g_I (C := RX10) (T := TX10) (N := 49) (ci := 10) 44 6 hx hb hts hown hK hP in_X10 rfl hcb okF_44_6 fl_141 dX10_tables_78 ?_
  refine lv_icmp_ge (tgt := 127) hx hb dX10_tables_81 (by decide) (fun c81 => ?_) (fun c81 => ?_)
  · replace h := if_t c81 h
    refine lv_iconst (v := (0 : Int32)) hx hb dX10_tables_127 (by decide) ?_
    refine lv_istore_n (lv' := [(1, .int (0 : Int32)), (0, .ref (bs + 44))]) hx hb dX10_tables_128 rfl hl (by decide) rfl (fun ls hl => ?_)
    refine lv_aload_n hx hb dX10_tables_129 rfl (lv_at hl 1 rfl) ?_
    refine g_I (C := RX10) (T := TX10) (N := 49) (ci := 10) 44 6 hx hb hts hown hK hP in_X10 rfl hcb okF_44_6 fl_141 dX10_tables_130 ?_
    refine lv_iconst (v := (1 : Int32)) hx hb dX10_tables_133 (by decide) ?_
    refine lv_isub hx hb dX10_tables_134 ?_
    obtain ⟨v135, ev135, h⟩ := lt_s1 h
    refine top_i ev135 ?_
    refine lv_istore_n (lv' := [(2, .int v135), (1, .int (0 : Int32)), (0, .ref (bs + 44))]) hx hb dX10_tables_135 rfl hl (by decide) rfl (fun ls hl => ?_)
    exact vX10_tables_136 bs D y n  r Gc  n (0 : Int32) v135 I J _ _ _ hP hS (lv_sub hl [2, 1, 0] rfl) h
  · replace h := if_f c81 h
    refine lv_aload_n hx hb dX10_tables_84 rfl (lv_at hl 0 rfl) ?_
    refine g_R (C := RX10) (T := TX10) (N := 49) (ci := 10) 44 0 45 hx hb hts hown hK hP in_X10 rfl hcb okF_44_0 rfc_44_0 fl_146 dX10_tables_85 ?_
    refine lv_iload_n hx hb dX10_tables_88 rfl (lv_at hl 1 rfl) ?_
    obtain ⟨hi89, h⟩ := if_s1 h
    refine a_I 45 hx hb hK hP hcb aln_45 hi89 dX10_tables_89 ?_
    refine lv_iconst (v := (1 : Int32)) hx hb dX10_tables_90 (by decide) ?_
    refine lv_icmp_ne (tgt := 121) hx hb dX10_tables_91 (by decide) (fun c91 => ?_) (fun c91 => ?_)
    · replace h := if_f c91 h
      exact wX10_tables_121 bs D y n k76_ r Gc hk76_ x1 I J _ _ _ hP hS (lv_sub hl [0, 1] rfl) h
    · replace h := if_t c91 h
      refine lv_aload_n hx hb dX10_tables_94 rfl (lv_at hl 0 rfl) ?_
      refine g_R (C := RX10) (T := TX10) (N := 49) (ci := 10) 44 0 45 hx hb hts hown hK hP in_X10 rfl hcb okF_44_0 rfc_44_0 fl_146 dX10_tables_95 ?_
      refine lv_aload_n hx hb dX10_tables_98 rfl (lv_at hl 0 rfl) ?_
      refine g_R (C := RX10) (T := TX10) (N := 49) (ci := 10) 44 1 46 hx hb hts hown hK hP in_X10 rfl hcb okF_44_1 rfc_44_1 fl_153 dX10_tables_99 ?_
      refine lv_iload_n hx hb dX10_tables_102 rfl (lv_at hl 1 rfl) ?_
      obtain ⟨hi103, h⟩ := if_s1 h
      refine a_I 46 hx hb hK hP hcb aln_46 hi103 dX10_tables_103 ?_
      obtain ⟨hi104, h⟩ := if_s1 h
      refine a_I 45 hx hb hK hP hcb aln_45 hi104 dX10_tables_104 ?_
      refine lv_iconst (v := (2 : Int32)) hx hb dX10_tables_105 (by decide) ?_
      refine lv_icmp_ne (tgt := 121) hx hb dX10_tables_106 (by decide) (fun c106 => ?_) (fun c106 => ?_)
      · replace h := if_f c106 h
        exact wX10_tables_121 bs D y n k76_ r Gc hk76_ x1 I J _ _ _ hP hS (lv_sub hl [0, 1] rfl) h
      · replace h := if_t c106 h
        refine lv_aload_n hx hb dX10_tables_109 rfl (lv_at hl 0 rfl) ?_
        refine g_R (C := RX10) (T := TX10) (N := 49) (ci := 10) 44 19 55 hx hb hts hown hK hP in_X10 rfl hcb okF_44_19 rfc_44_19 fl_167 dX10_tables_110 ?_
        refine lv_aload_n hx hb dX10_tables_113 rfl (lv_at hl 0 rfl) ?_
        refine g_R (C := RX10) (T := TX10) (N := 49) (ci := 10) 44 1 46 hx hb hts hown hK hP in_X10 rfl hcb okF_44_1 rfc_44_1 fl_153 dX10_tables_114 ?_
        refine lv_iload_n hx hb dX10_tables_117 rfl (lv_at hl 1 rfl) ?_
        obtain ⟨hi118, h⟩ := if_s1 h
        refine a_I 46 hx hb hK hP hcb aln_46 hi118 dX10_tables_118 ?_
        refine lv_iconst (v := (1 : Int32)) hx hb dX10_tables_119 (by decide) ?_
        obtain ⟨hi120, h⟩ := if_s1 h
        obtain ⟨I120, eI120, h⟩ := lt_s1 h
        refine t_Z 55 eI120 hx hb hK hP hS hcb alZ_55 hi120 dX10_tables_120 (fun H locs hP hS => ?_)
        exact wX10_tables_121 bs D y n k76_ r Gc hk76_ x1 I120 J _ _ _ hP hS (lv_sub hl [0, 1] rfl) h
theorem vX10_tables_76 {p : Program} {l : Launch} {e : Env} {s : State} {m : MethodId} {args : Array Value} {below : List Frame} {meth : Method} {c : Code} (bs : Nat) (D : va_G) (y : Y3) (n : Nat) (r : Int32 × M2) (Gc : Gx p s m args meth c cX10_tables 4 RX10 bs D y (some .int) 76)  : ∀ (q : Nat) (x1 : Int32) (I : MI) (J : MJ) (H : Heap) (locs : List Loc) (ls : Array Slot), va_P D vwCl (wl bs y I J) H → va_S (FA bs) s.heap H locs → lv_has ls 4 [(0, .ref (bs + 44)), (1, .int x1)] → lX10_tables_76 n  q x1 I J = some r → W p l e (rmm 4 98) s m args below meth c H locs 0 0 (QI below args s bs D y r) (F0 m 76 ls []) := by
  intro q
  induction q with
  | zero =>
    intro x1 I J H locs ls hP hS hl h
    have h : (none : Option (Int32 × M2)) = some r := h
    cases h
  | succ q ih =>
    intro x1 I J H locs ls hP hS hl h
    have h : fX10_tables_76 n  (lX10_tables_76 n  q) x1 I J = some r := h
    exact wX10_tables_76 bs D y n  (lX10_tables_76 n  q) r Gc  ih x1 I J H locs ls hP hS hl h
set_option maxHeartbeats 4000000 in
set_option maxRecDepth 100000 in
theorem wX10_tables_67 {p : Program} {l : Launch} {e : Env} {s : State} {m : MethodId} {args : Array Value} {below : List Frame} {meth : Method} {c : Code} (bs : Nat) (D : va_G) (y : Y3) (n : Nat) (k29_ : Int32 → MI → MJ → Option (Int32 × M2)) (r : Int32 × M2) (Gc : Gx p s m args meth c cX10_tables 4 RX10 bs D y (some .int) 76) (hk29_ : ∀ (x1 : Int32) (I : MI) (J : MJ) (H : Heap) (locs : List Loc) (ls : Array Slot), va_P D vwCl (wl bs y I J) H → va_S (FA bs) s.heap H locs → lv_has ls 4 [(0, .ref (bs + 44)), (1, .int x1)] → k29_ x1 I J = some r → W p l e (rmm 4 98) s m args below meth c H locs 0 0 (QI below args s bs D y r) (F0 m 29 ls [])) (x1 : Int32) (s1 : Int32) (s2 : Int32) (I : MI) (J : MJ) (H : Heap) (locs : List Loc) (ls : Array Slot) (hP : va_P D vwCl (wl bs y I J) H) (hS : va_S (FA bs) s.heap H locs) (hl : lv_has ls 4 [(0, .ref (bs + 44)), (1, .int x1)]) (h : fX10_tables_67 n k29_ x1 s1 s2 I J = some r) : W p l e (rmm 4 98) s m args below meth c H locs 0 0 (QI below args s bs D y r) (F0 m 67 ls [.int s2, .int s1, .ref (bs + 55)]) := by
  obtain ⟨hx, hb, hml, hown, hts, hK, hN, hL, hr, hlocks, hcb⟩ := id Gc
  unfold fX10_tables_67 at h
  obtain ⟨hi67, h⟩ := if_s1 h
  obtain ⟨I67, eI67, h⟩ := lt_s1 h
  refine t_Z 55 eI67 hx hb hK hP hS hcb alZ_55 hi67 dX10_tables_67 (fun H locs hP hS => ?_)
  refine lv_iinc (v := (x1 + (1 : Int32))) (lv' := [(1, .int (x1 + (1 : Int32))), (0, .ref (bs + 44))]) hx hb dX10_tables_68 hl (k := 1) rfl rfl (by decide) rfl (fun ls hl => ?_)
  refine lv_goto (tgt := 29) hx hb dX10_tables_71 (by decide) ?_
  exact hk29_ (x1 + (1 : Int32)) I67 J _ _ _ hP hS (lv_sub hl [1, 0] rfl) h
set_option maxHeartbeats 4000000 in
set_option maxRecDepth 100000 in
theorem wX10_tables_29 {p : Program} {l : Launch} {e : Env} {s : State} {m : MethodId} {args : Array Value} {below : List Frame} {meth : Method} {c : Code} (bs : Nat) (D : va_G) (y : Y3) (n : Nat) (k29_ : Int32 → MI → MJ → Option (Int32 × M2)) (r : Int32 × M2) (Gc : Gx p s m args meth c cX10_tables 4 RX10 bs D y (some .int) 76) (hk29_ : ∀ (x1 : Int32) (I : MI) (J : MJ) (H : Heap) (locs : List Loc) (ls : Array Slot), va_P D vwCl (wl bs y I J) H → va_S (FA bs) s.heap H locs → lv_has ls 4 [(0, .ref (bs + 44)), (1, .int x1)] → k29_ x1 I J = some r → W p l e (rmm 4 98) s m args below meth c H locs 0 0 (QI below args s bs D y r) (F0 m 29 ls [])) (x1 : Int32) (I : MI) (J : MJ) (H : Heap) (locs : List Loc) (ls : Array Slot) (hP : va_P D vwCl (wl bs y I J) H) (hS : va_S (FA bs) s.heap H locs) (hl : lv_has ls 4 [(0, .ref (bs + 44)), (1, .int x1)]) (h : fX10_tables_29 n k29_ x1 I J = some r) : W p l e (rmm 4 98) s m args below meth c H locs 0 0 (QI below args s bs D y r) (F0 m 29 ls []) := by
  obtain ⟨hx, hb, hml, hown, hts, hK, hN, hL, hr, hlocks, hcb⟩ := id Gc
  unfold fX10_tables_29 at h
  refine lv_iload_n hx hb dX10_tables_29 rfl (lv_at hl 1 rfl) ?_
  refine lv_aload_n hx hb dX10_tables_30 rfl (lv_at hl 0 rfl) ?_
  refine g_I (C := RX10) (T := TX10) (N := 49) (ci := 10) 44 9 hx hb hts hown hK hP in_X10 rfl hcb okF_44_9 fl_158 dX10_tables_31 ?_
  refine lv_icmp_ge (tgt := 74) hx hb dX10_tables_34 (by decide) (fun c34 => ?_) (fun c34 => ?_)
  · replace h := if_t c34 h
    refine lv_iconst (v := (0 : Int32)) hx hb dX10_tables_74 (by decide) ?_
    refine lv_istore_n (lv' := [(1, .int (0 : Int32)), (0, .ref (bs + 44))]) hx hb dX10_tables_75 rfl hl (by decide) rfl (fun ls hl => ?_)
    exact vX10_tables_76 bs D y n  r Gc  n (0 : Int32) I J _ _ _ hP hS (lv_sub hl [1, 0] rfl) h
  · replace h := if_f c34 h
    refine lv_aload_n hx hb dX10_tables_37 rfl (lv_at hl 0 rfl) ?_
    refine g_R (C := RX10) (T := TX10) (N := 49) (ci := 10) 44 19 55 hx hb hts hown hK hP in_X10 rfl hcb okF_44_19 rfc_44_19 fl_167 dX10_tables_38 ?_
    refine lv_aload_n hx hb dX10_tables_41 rfl (lv_at hl 0 rfl) ?_
    refine g_R (C := RX10) (T := TX10) (N := 49) (ci := 10) 44 5 50 hx hb hts hown hK hP in_X10 rfl hcb okF_44_5 rfc_44_5 fl_159 dX10_tables_42 ?_
    refine lv_iload_n hx hb dX10_tables_45 rfl (lv_at hl 1 rfl) ?_
    obtain ⟨hi46, h⟩ := if_s1 h
    refine a_I 50 hx hb hK hP hcb aln_50 hi46 dX10_tables_46 ?_
    refine lv_aload_n hx hb dX10_tables_47 rfl (lv_at hl 0 rfl) ?_
    refine g_R (C := RX10) (T := TX10) (N := 49) (ci := 10) 44 0 45 hx hb hts hown hK hP in_X10 rfl hcb okF_44_0 rfc_44_0 fl_146 dX10_tables_48 ?_
    refine lv_aload_n hx hb dX10_tables_51 rfl (lv_at hl 0 rfl) ?_
    refine g_R (C := RX10) (T := TX10) (N := 49) (ci := 10) 44 5 50 hx hb hts hown hK hP in_X10 rfl hcb okF_44_5 rfc_44_5 fl_159 dX10_tables_52 ?_
    refine lv_iload_n hx hb dX10_tables_55 rfl (lv_at hl 1 rfl) ?_
    obtain ⟨hi56, h⟩ := if_s1 h
    refine a_I 50 hx hb hK hP hcb aln_50 hi56 dX10_tables_56 ?_
    obtain ⟨hi57, h⟩ := if_s1 h
    refine a_I 45 hx hb hK hP hcb aln_45 hi57 dX10_tables_57 ?_
    refine lv_iconst (v := (2 : Int32)) hx hb dX10_tables_58 (by decide) ?_
    refine lv_icmp_ne (tgt := 66) hx hb dX10_tables_59 (by decide) (fun c59 => ?_) (fun c59 => ?_)
    · replace h := if_f c59 h
      refine lv_iconst (v := (0 : Int32)) hx hb dX10_tables_66 (by decide) ?_
      exact wX10_tables_67 bs D y n k29_ r Gc hk29_ x1 (I 50 (x1).toNatClampNeg) (0 : Int32) I J _ _ _ hP hS (lv_sub hl [0, 1] rfl) h
    · replace h := if_t c59 h
      refine lv_iconst (v := (1 : Int32)) hx hb dX10_tables_62 (by decide) ?_
      refine lv_goto (tgt := 67) hx hb dX10_tables_63 (by decide) ?_
      exact wX10_tables_67 bs D y n k29_ r Gc hk29_ x1 (I 50 (x1).toNatClampNeg) (1 : Int32) I J _ _ _ hP hS (lv_sub hl [0, 1] rfl) h
theorem vX10_tables_29 {p : Program} {l : Launch} {e : Env} {s : State} {m : MethodId} {args : Array Value} {below : List Frame} {meth : Method} {c : Code} (bs : Nat) (D : va_G) (y : Y3) (n : Nat) (r : Int32 × M2) (Gc : Gx p s m args meth c cX10_tables 4 RX10 bs D y (some .int) 76)  : ∀ (q : Nat) (x1 : Int32) (I : MI) (J : MJ) (H : Heap) (locs : List Loc) (ls : Array Slot), va_P D vwCl (wl bs y I J) H → va_S (FA bs) s.heap H locs → lv_has ls 4 [(0, .ref (bs + 44)), (1, .int x1)] → lX10_tables_29 n  q x1 I J = some r → W p l e (rmm 4 98) s m args below meth c H locs 0 0 (QI below args s bs D y r) (F0 m 29 ls []) := by
  intro q
  induction q with
  | zero =>
    intro x1 I J H locs ls hP hS hl h
    have h : (none : Option (Int32 × M2)) = some r := h
    cases h
  | succ q ih =>
    intro x1 I J H locs ls hP hS hl h
    have h : fX10_tables_29 n  (lX10_tables_29 n  q) x1 I J = some r := h
    exact wX10_tables_29 bs D y n  (lX10_tables_29 n  q) r Gc  ih x1 I J H locs ls hP hS hl h
set_option maxHeartbeats 4000000 in
set_option maxRecDepth 100000 in
theorem wX10_tables_6 {p : Program} {l : Launch} {e : Env} {s : State} {m : MethodId} {args : Array Value} {below : List Frame} {meth : Method} {c : Code} (bs : Nat) (D : va_G) (y : Y3) (n : Nat) (k6_ : Int32 → MI → MJ → Option (Int32 × M2)) (r : Int32 × M2) (Gc : Gx p s m args meth c cX10_tables 4 RX10 bs D y (some .int) 76) (hk6_ : ∀ (x1 : Int32) (I : MI) (J : MJ) (H : Heap) (locs : List Loc) (ls : Array Slot), va_P D vwCl (wl bs y I J) H → va_S (FA bs) s.heap H locs → lv_has ls 4 [(0, .ref (bs + 44)), (1, .int x1)] → k6_ x1 I J = some r → W p l e (rmm 4 98) s m args below meth c H locs 0 0 (QI below args s bs D y r) (F0 m 6 ls [])) (x1 : Int32) (I : MI) (J : MJ) (H : Heap) (locs : List Loc) (ls : Array Slot) (hP : va_P D vwCl (wl bs y I J) H) (hS : va_S (FA bs) s.heap H locs) (hl : lv_has ls 4 [(0, .ref (bs + 44)), (1, .int x1)]) (h : fX10_tables_6 n k6_ x1 I J = some r) : W p l e (rmm 4 98) s m args below meth c H locs 0 0 (QI below args s bs D y r) (F0 m 6 ls []) := by
  obtain ⟨hx, hb, hml, hown, hts, hK, hN, hL, hr, hlocks, hcb⟩ := id Gc
  unfold fX10_tables_6 at h
  refine lv_iload_n hx hb dX10_tables_6 rfl (lv_at hl 1 rfl) ?_
  refine lv_aload_n hx hb dX10_tables_7 rfl (lv_at hl 0 rfl) ?_
  refine g_I (C := RX10) (T := TX10) (N := 49) (ci := 10) 44 6 hx hb hts hown hK hP in_X10 rfl hcb okF_44_6 fl_141 dX10_tables_8 ?_
  refine lv_icmp_ge (tgt := 27) hx hb dX10_tables_11 (by decide) (fun c11 => ?_) (fun c11 => ?_)
  · replace h := if_t c11 h
    refine lv_iconst (v := (0 : Int32)) hx hb dX10_tables_27 (by decide) ?_
    refine lv_istore_n (lv' := [(1, .int (0 : Int32)), (0, .ref (bs + 44))]) hx hb dX10_tables_28 rfl hl (by decide) rfl (fun ls hl => ?_)
    exact vX10_tables_29 bs D y n  r Gc  n (0 : Int32) I J _ _ _ hP hS (lv_sub hl [1, 0] rfl) h
  · replace h := if_f c11 h
    refine lv_aload_n hx hb dX10_tables_14 rfl (lv_at hl 0 rfl) ?_
    refine g_R (C := RX10) (T := TX10) (N := 49) (ci := 10) 44 19 55 hx hb hts hown hK hP in_X10 rfl hcb okF_44_19 rfc_44_19 fl_167 dX10_tables_15 ?_
    refine lv_iload_n hx hb dX10_tables_18 rfl (lv_at hl 1 rfl) ?_
    refine lv_iconst (v := (0 : Int32)) hx hb dX10_tables_19 (by decide) ?_
    obtain ⟨hi20, h⟩ := if_s1 h
    obtain ⟨I20, eI20, h⟩ := lt_s1 h
    refine t_Z 55 eI20 hx hb hK hP hS hcb alZ_55 hi20 dX10_tables_20 (fun H locs hP hS => ?_)
    refine lv_iinc (v := (x1 + (1 : Int32))) (lv' := [(1, .int (x1 + (1 : Int32))), (0, .ref (bs + 44))]) hx hb dX10_tables_21 hl (k := 1) rfl rfl (by decide) rfl (fun ls hl => ?_)
    refine lv_goto (tgt := 6) hx hb dX10_tables_24 (by decide) ?_
    exact hk6_ (x1 + (1 : Int32)) I20 J _ _ _ hP hS (lv_sub hl [1, 0] rfl) h
theorem vX10_tables_6 {p : Program} {l : Launch} {e : Env} {s : State} {m : MethodId} {args : Array Value} {below : List Frame} {meth : Method} {c : Code} (bs : Nat) (D : va_G) (y : Y3) (n : Nat) (r : Int32 × M2) (Gc : Gx p s m args meth c cX10_tables 4 RX10 bs D y (some .int) 76)  : ∀ (q : Nat) (x1 : Int32) (I : MI) (J : MJ) (H : Heap) (locs : List Loc) (ls : Array Slot), va_P D vwCl (wl bs y I J) H → va_S (FA bs) s.heap H locs → lv_has ls 4 [(0, .ref (bs + 44)), (1, .int x1)] → lX10_tables_6 n  q x1 I J = some r → W p l e (rmm 4 98) s m args below meth c H locs 0 0 (QI below args s bs D y r) (F0 m 6 ls []) := by
  intro q
  induction q with
  | zero =>
    intro x1 I J H locs ls hP hS hl h
    have h : (none : Option (Int32 × M2)) = some r := h
    cases h
  | succ q ih =>
    intro x1 I J H locs ls hP hS hl h
    have h : fX10_tables_6 n  (lX10_tables_6 n  q) x1 I J = some r := h
    exact wX10_tables_6 bs D y n  (lX10_tables_6 n  q) r Gc  ih x1 I J H locs ls hP hS hl h
set_option maxHeartbeats 4000000 in
set_option maxRecDepth 100000 in
theorem cX10_tables_ (l : Launch) (bs : Nat) (D : va_G) (y : Y3) (hcb : 76 ≤ y.2.2.2) (n : Nat) (I : MI) (J : MJ) (r : Int32 × M2) (h : fX10_tables n  I J = some r) : Met l yX10_tables (.code yX10_tables cX10_tables 4 (some .int) :: gtb) (rmm 4 98) (va_Pc [.ref (bs + 44)] (HB bs D y I J)) (QcI bs D y r) 0 0 (FA bs) := by
  refine Met.ofW (cc := cX10_tables) (maxL := 4) (ret := (some .int)) (by decide) rfl ?_
  intro p e s m args below meth c s₁ B hml hv
  obtain ⟨rfl, hP, hK, hN, hL⟩ := hv
  have hx := B.exec
  have hb := B.bytes
  have hr := B.returns
  have hts0 := atoms_spec (ws := .code yX10_tables cX10_tables 4 (some .int) :: gtb) B.pre
  have hts : ∀ w ∈ gtb, w.before [.ref (bs + 44)].toArray s = true := fun w hw => hts0 w (List.mem_cons_of_mem _ hw)
  have hown : s.vm.findClass RX10 = some m.cls := findClass_of_methodNamed B.named
  have hlocks := B.notSynchronized
  have hS : va_S (FA bs) s.heap s.heap [] := va_S.rf
  have Gc : Gx p s m [.ref (bs + 44)].toArray meth c cX10_tables 4 RX10 bs D y (some .int) 76 := ⟨hx, hb, hml, hown, hts, hK, hN, hL, hr, hlocks, hcb⟩
  have hl := lv_entry [.ref (bs + 44)] (n := 4) (Nat.le_of_ble_eq_true rfl)
  rw [lg_entry_eq]
  generalize (lg_sl [.ref (bs + 44)] ++ List.replicate (4 - (lg_sl [.ref (bs + 44)]).length) Slot.unset).toArray = ls at hl ⊢
  have hl : lv_has ls 4 [(0, .ref (bs + 44))] := hl
  change W p l e (rmm 4 98) s m [.ref (bs + 44)].toArray below meth c s.heap [] 0 0 (QI below [.ref (bs + 44)].toArray s bs D y r) (F0 m 0 ls [])
  unfold fX10_tables at h
  refine lv_aload_n hx hb dX10_tables_0 rfl (lv_at hl 0 rfl) ?_
  obtain ⟨r1, er1, h⟩ := bd_s1 h
  refine c_VV (k := 44) (ci := 10) (As := []) (rest := []) hx hb hml hown hts hK hN hL hP hS (cX10_findCuts_ l bs D y hcb n  I J r1 er1) ok_X10_findCuts ov_X10_findCuts ml_128 ⟨Nat.le_of_ble_eq_true rfl, Nat.le_of_ble_eq_true rfl⟩ rfl hcb kd_44 hl.1 rfl rfl (Nat.le_of_ble_eq_true rfl) ⟨Nat.zero_le _, Nat.zero_le _⟩ dX10_tables_1 (fun H locs hP hS => ?_)
  refine lv_iconst (v := (0 : Int32)) hx hb dX10_tables_4 (by decide) ?_
  refine lv_istore_n (lv' := [(1, .int (0 : Int32)), (0, .ref (bs + 44))]) hx hb dX10_tables_5 rfl hl (by decide) rfl (fun ls hl => ?_)
  exact vX10_tables_6 bs D y n  r Gc  n (0 : Int32) r1.1 r1.2 _ _ _ hP hS (lv_sub hl [1, 0] rfl) h
