/-! walks: X5_spanOfAll X5_spanOfSome X5_exchangeUnlessLonger X5_tryExchanges X6_begin X6_takeInputs X6_outsOf X6_setKeepers X6_stepNet X6_letterValue X6_tableValue X6_stepCloth X7_askedFor X7_takeLetters X7_reckonBits X7_find -/
theorem dX5_spanOfAll_0 : decode cX5_spanOfAll 0 = .ok (.iconst 0, 1) := by decide +kernel
theorem dX5_spanOfAll_1 : decode cX5_spanOfAll 1 = .ok (.istore_n 2, 1) := by decide +kernel
theorem dX5_spanOfAll_2 : decode cX5_spanOfAll 2 = .ok (.iconst 0, 1) := by decide +kernel
theorem dX5_spanOfAll_3 : decode cX5_spanOfAll 3 = .ok (.istore_n 3, 1) := by decide +kernel
theorem dX5_spanOfAll_4 : decode cX5_spanOfAll 4 = .ok (.iload_n 3, 1) := by decide +kernel
theorem dX5_spanOfAll_5 : decode cX5_spanOfAll 5 = .ok (.aload_n 0, 1) := by decide +kernel
theorem dX5_spanOfAll_6 : decode cX5_spanOfAll 6 = .ok (.getfield 27, 3) := by decide +kernel
theorem dX5_spanOfAll_9 : decode cX5_spanOfAll 9 = .ok (.if_icmp .ge 23, 3) := by decide +kernel
theorem dX5_spanOfAll_12 : decode cX5_spanOfAll 12 = .ok (.iload_n 2, 1) := by decide +kernel
theorem dX5_spanOfAll_13 : decode cX5_spanOfAll 13 = .ok (.aload_n 0, 1) := by decide +kernel
theorem dX5_spanOfAll_14 : decode cX5_spanOfAll 14 = .ok (.aload_n 0, 1) := by decide +kernel
theorem dX5_spanOfAll_15 : decode cX5_spanOfAll 15 = .ok (.getfield 9, 3) := by decide +kernel
theorem dX5_spanOfAll_18 : decode cX5_spanOfAll 18 = .ok (.iload_n 3, 1) := by decide +kernel
theorem dX5_spanOfAll_19 : decode cX5_spanOfAll 19 = .ok (.iaload, 1) := by decide +kernel
theorem dX5_spanOfAll_20 : decode cX5_spanOfAll 20 = .ok (.aload_n 1, 1) := by decide +kernel
theorem dX5_spanOfAll_21 : decode cX5_spanOfAll 21 = .ok (.invokevirtual 92, 3) := by decide +kernel
theorem dX5_spanOfAll_24 : decode cX5_spanOfAll 24 = .ok (.iadd, 1) := by decide +kernel
theorem dX5_spanOfAll_25 : decode cX5_spanOfAll 25 = .ok (.istore_n 2, 1) := by decide +kernel
theorem dX5_spanOfAll_26 : decode cX5_spanOfAll 26 = .ok (.iinc 3 1, 3) := by decide +kernel
theorem dX5_spanOfAll_29 : decode cX5_spanOfAll 29 = .ok (.goto (-25), 3) := by decide +kernel
theorem dX5_spanOfAll_32 : decode cX5_spanOfAll 32 = .ok (.iload_n 2, 1) := by decide +kernel
theorem dX5_spanOfAll_33 : decode cX5_spanOfAll 33 = .ok (.ireturn, 1) := by decide +kernel
set_option maxHeartbeats 4000000 in
set_option maxRecDepth 100000 in
theorem wX5_spanOfAll_4 {p : Program} {l : Launch} {e : Env} {s : State} {m : MethodId} {args : Array Value} {below : List Frame} {meth : Method} {c : Code} (bs : Nat) (D : va_G) (y : Y3) (n : Nat) (k4_ : Int32 → Int32 → MI → MJ → Option (Int32 × M2)) (r : Int32 × M2) (Gc : Gx p s m args meth c cX5_spanOfAll 4 RX5 bs D y (some .int) 44) (hk4_ : ∀ (x2 : Int32) (x3 : Int32) (I : MI) (J : MJ) (H : Heap) (locs : List Loc) (ls : Array Slot), va_P D vwCl (wl bs y I J) H → va_S (FA bs) s.heap H locs → lv_has ls 4 [(0, .ref (bs + 22)), (1, .ref (bs + 16)), (2, .int x2), (3, .int x3)] → k4_ x2 x3 I J = some r → W p l e (rmm 2 52) s m args below meth c H locs 0 0 (QI below args s bs D y r) (F0 m 4 ls [])) (x2 : Int32) (x3 : Int32) (I : MI) (J : MJ) (H : Heap) (locs : List Loc) (ls : Array Slot) (hP : va_P D vwCl (wl bs y I J) H) (hS : va_S (FA bs) s.heap H locs) (hl : lv_has ls 4 [(0, .ref (bs + 22)), (1, .ref (bs + 16)), (2, .int x2), (3, .int x3)]) (h : fX5_spanOfAll_4 n k4_ x2 x3 I J = some r) : W p l e (rmm 2 52) s m args below meth c H locs 0 0 (QI below args s bs D y r) (F0 m 4 ls []) := by
  obtain ⟨hx, hb, hml, hown, hts, hK, hN, hL, hr, hlocks, hcb⟩ := id Gc
  unfold fX5_spanOfAll_4 at h
  refine lv_iload_n hx hb dX5_spanOfAll_4 rfl (lv_at hl 3 rfl) ?_
  refine lv_aload_n hx hb dX5_spanOfAll_5 rfl (lv_at hl 0 rfl) ?_
  refine g_I (C := RX5) (T := TX5) (N := 7) (ci := 5) 22 1 hx hb hts hown hK hP in_X5 rfl hcb okF_22_1 fl_49 dX5_spanOfAll_6 ?_
  refine lv_icmp_ge (tgt := 32) hx hb dX5_spanOfAll_9 (by decide) (fun c9 => ?_) (fun c9 => ?_)
  · replace h := if_t c9 h
    refine lv_iload_n hx hb dX5_spanOfAll_32 rfl (lv_at hl 2 rfl) ?_
    exact r_I hx hb hr hlocks hP hK hN hL hS h dX5_spanOfAll_33
  · replace h := if_f c9 h
    refine lv_iload_n hx hb dX5_spanOfAll_12 rfl (lv_at hl 2 rfl) ?_
    refine lv_aload_n hx hb dX5_spanOfAll_13 rfl (lv_at hl 0 rfl) ?_
    refine lv_aload_n hx hb dX5_spanOfAll_14 rfl (lv_at hl 0 rfl) ?_
    refine g_R (C := RX5) (T := TX5) (N := 7) (ci := 5) 22 2 23 hx hb hts hown hK hP in_X5 rfl hcb okF_22_2 rfc_22_2 fl_48 dX5_spanOfAll_15 ?_
    refine lv_iload_n hx hb dX5_spanOfAll_18 rfl (lv_at hl 3 rfl) ?_
    obtain ⟨hi19, h⟩ := if_s1 h
    refine a_I 23 hx hb hK hP hcb aln_23 hi19 dX5_spanOfAll_19 ?_
    refine lv_aload_n hx hb dX5_spanOfAll_20 rfl (lv_at hl 1 rfl) ?_
    obtain ⟨r21, er21, h⟩ := bd_s1 h
    refine c_VI (k := 22) (ci := 5) (As := [.int (I 23 (x3).toNatClampNeg), .ref (bs + 16)]) (rest := [.int x2]) hx hb hml hown hts hK hN hL hP hS (cX5_spanOf_ l bs D y hcb n (I 23 (x3).toNatClampNeg) I J r21 er21) ok_X5_spanOf ov_X5_spanOf ml_31 ⟨Nat.le_of_ble_eq_true rfl, Nat.le_of_ble_eq_true rfl⟩ rfl hcb kd_22 hl.1 rfl rfl (Nat.le_of_ble_eq_true rfl) ⟨Nat.zero_le _, Nat.zero_le _⟩ dX5_spanOfAll_21 (fun H locs hP hS => ?_)
    refine lv_iadd hx hb dX5_spanOfAll_24 ?_
    obtain ⟨v25, ev25, h⟩ := lt_s1 h
    refine top_i ev25 ?_
    refine lv_istore_n (lv' := [(2, .int v25), (0, .ref (bs + 22)), (1, .ref (bs + 16)), (3, .int x3)]) hx hb dX5_spanOfAll_25 rfl hl (by decide) rfl (fun ls hl => ?_)
    refine lv_iinc (v := (x3 + (1 : Int32))) (lv' := [(3, .int (x3 + (1 : Int32))), (2, .int v25), (0, .ref (bs + 22)), (1, .ref (bs + 16))]) hx hb dX5_spanOfAll_26 hl (k := 3) rfl rfl (by decide) rfl (fun ls hl => ?_)
    refine lv_goto (tgt := 4) hx hb dX5_spanOfAll_29 (by decide) ?_
    exact hk4_ v25 (x3 + (1 : Int32)) r21.2.1 r21.2.2 _ _ _ hP hS (lv_sub hl [2, 3, 1, 0] rfl) h
theorem vX5_spanOfAll_4 {p : Program} {l : Launch} {e : Env} {s : State} {m : MethodId} {args : Array Value} {below : List Frame} {meth : Method} {c : Code} (bs : Nat) (D : va_G) (y : Y3) (n : Nat) (r : Int32 × M2) (Gc : Gx p s m args meth c cX5_spanOfAll 4 RX5 bs D y (some .int) 44)  : ∀ (q : Nat) (x2 : Int32) (x3 : Int32) (I : MI) (J : MJ) (H : Heap) (locs : List Loc) (ls : Array Slot), va_P D vwCl (wl bs y I J) H → va_S (FA bs) s.heap H locs → lv_has ls 4 [(0, .ref (bs + 22)), (1, .ref (bs + 16)), (2, .int x2), (3, .int x3)] → lX5_spanOfAll_4 n  q x2 x3 I J = some r → W p l e (rmm 2 52) s m args below meth c H locs 0 0 (QI below args s bs D y r) (F0 m 4 ls []) := by
  intro q
  induction q with
  | zero =>
    intro x2 x3 I J H locs ls hP hS hl h
    have h : (none : Option (Int32 × M2)) = some r := h
    cases h
  | succ q ih =>
    intro x2 x3 I J H locs ls hP hS hl h
    have h : fX5_spanOfAll_4 n  (lX5_spanOfAll_4 n  q) x2 x3 I J = some r := h
    exact wX5_spanOfAll_4 bs D y n  (lX5_spanOfAll_4 n  q) r Gc  ih x2 x3 I J H locs ls hP hS hl h
set_option maxHeartbeats 4000000 in
set_option maxRecDepth 100000 in
theorem cX5_spanOfAll_ (l : Launch) (bs : Nat) (D : va_G) (y : Y3) (hcb : 44 ≤ y.2.2.2) (n : Nat) (I : MI) (J : MJ) (r : Int32 × M2) (h : fX5_spanOfAll n  I J = some r) : Met l yX5_spanOfAll (.code yX5_spanOfAll cX5_spanOfAll 4 (some .int) :: gtb) (rmm 2 52) (va_Pc [.ref (bs + 22), .ref (bs + 16)] (HB bs D y I J)) (QcI bs D y r) 0 0 (FA bs) := by
  refine Met.ofW (cc := cX5_spanOfAll) (maxL := 4) (ret := (some .int)) (by decide) rfl ?_
  intro p e s m args below meth c s₁ B hml hv
  obtain ⟨rfl, hP, hK, hN, hL⟩ := hv
  have hx := B.exec
  have hb := B.bytes
  have hr := B.returns
  have hts0 := atoms_spec (ws := .code yX5_spanOfAll cX5_spanOfAll 4 (some .int) :: gtb) B.pre
  have hts : ∀ w ∈ gtb, w.before [.ref (bs + 22), .ref (bs + 16)].toArray s = true := fun w hw => hts0 w (List.mem_cons_of_mem _ hw)
  have hown : s.vm.findClass RX5 = some m.cls := findClass_of_methodNamed B.named
  have hlocks := B.notSynchronized
  have hS : va_S (FA bs) s.heap s.heap [] := va_S.rf
  have Gc : Gx p s m [.ref (bs + 22), .ref (bs + 16)].toArray meth c cX5_spanOfAll 4 RX5 bs D y (some .int) 44 := ⟨hx, hb, hml, hown, hts, hK, hN, hL, hr, hlocks, hcb⟩
  have hl := lv_entry [.ref (bs + 22), .ref (bs + 16)] (n := 4) (Nat.le_of_ble_eq_true rfl)
  rw [lg_entry_eq]
  generalize (lg_sl [.ref (bs + 22), .ref (bs + 16)] ++ List.replicate (4 - (lg_sl [.ref (bs + 22), .ref (bs + 16)]).length) Slot.unset).toArray = ls at hl ⊢
  have hl : lv_has ls 4 [(0, .ref (bs + 22)), (1, .ref (bs + 16))] := hl
  change W p l e (rmm 2 52) s m [.ref (bs + 22), .ref (bs + 16)].toArray below meth c s.heap [] 0 0 (QI below [.ref (bs + 22), .ref (bs + 16)].toArray s bs D y r) (F0 m 0 ls [])
  unfold fX5_spanOfAll at h
  refine lv_iconst (v := (0 : Int32)) hx hb dX5_spanOfAll_0 (by decide) ?_
  refine lv_istore_n (lv' := [(2, .int (0 : Int32)), (0, .ref (bs + 22)), (1, .ref (bs + 16))]) hx hb dX5_spanOfAll_1 rfl hl (by decide) rfl (fun ls hl => ?_)
  refine lv_iconst (v := (0 : Int32)) hx hb dX5_spanOfAll_2 (by decide) ?_
  refine lv_istore_n (lv' := [(3, .int (0 : Int32)), (2, .int (0 : Int32)), (0, .ref (bs + 22)), (1, .ref (bs + 16))]) hx hb dX5_spanOfAll_3 rfl hl (by decide) rfl (fun ls hl => ?_)
  exact vX5_spanOfAll_4 bs D y n  r Gc  n (0 : Int32) (0 : Int32) I J _ _ _ hP hS (lv_sub hl [2, 3, 1, 0] rfl) h
theorem dX5_spanOfSome_0 : decode cX5_spanOfSome 0 = .ok (.iconst 0, 1) := by decide +kernel
theorem dX5_spanOfSome_1 : decode cX5_spanOfSome 1 = .ok (.istore_n 3, 1) := by decide +kernel
theorem dX5_spanOfSome_2 : decode cX5_spanOfSome 2 = .ok (.iconst 0, 1) := by decide +kernel
theorem dX5_spanOfSome_3 : decode cX5_spanOfSome 3 = .ok (.istore 4, 2) := by decide +kernel
theorem dX5_spanOfSome_5 : decode cX5_spanOfSome 5 = .ok (.iload 4, 2) := by decide +kernel
theorem dX5_spanOfSome_7 : decode cX5_spanOfSome 7 = .ok (.bipush 32, 2) := by decide +kernel
theorem dX5_spanOfSome_9 : decode cX5_spanOfSome 9 = .ok (.if_icmp .ge 36, 3) := by decide +kernel
theorem dX5_spanOfSome_12 : decode cX5_spanOfSome 12 = .ok (.iload_n 1, 1) := by decide +kernel
theorem dX5_spanOfSome_13 : decode cX5_spanOfSome 13 = .ok (.iload 4, 2) := by decide +kernel
theorem dX5_spanOfSome_15 : decode cX5_spanOfSome 15 = .ok (.iushr, 1) := by decide +kernel
theorem dX5_spanOfSome_16 : decode cX5_spanOfSome 16 = .ok (.ifCond .eq 29, 3) := by decide +kernel
theorem dX5_spanOfSome_19 : decode cX5_spanOfSome 19 = .ok (.iload_n 1, 1) := by decide +kernel
theorem dX5_spanOfSome_20 : decode cX5_spanOfSome 20 = .ok (.i2l, 1) := by decide +kernel
theorem dX5_spanOfSome_21 : decode cX5_spanOfSome 21 = .ok (.iload 4, 2) := by decide +kernel
theorem dX5_spanOfSome_23 : decode cX5_spanOfSome 23 = .ok (.invokestatic 69, 3) := by decide +kernel
theorem dX5_spanOfSome_26 : decode cX5_spanOfSome 26 = .ok (.ifCond .eq 13, 3) := by decide +kernel
theorem dX5_spanOfSome_29 : decode cX5_spanOfSome 29 = .ok (.iload_n 3, 1) := by decide +kernel
theorem dX5_spanOfSome_30 : decode cX5_spanOfSome 30 = .ok (.aload_n 0, 1) := by decide +kernel
theorem dX5_spanOfSome_31 : decode cX5_spanOfSome 31 = .ok (.iload 4, 2) := by decide +kernel
theorem dX5_spanOfSome_33 : decode cX5_spanOfSome 33 = .ok (.aload_n 2, 1) := by decide +kernel
theorem dX5_spanOfSome_34 : decode cX5_spanOfSome 34 = .ok (.invokevirtual 92, 3) := by decide +kernel
theorem dX5_spanOfSome_37 : decode cX5_spanOfSome 37 = .ok (.iadd, 1) := by decide +kernel
theorem dX5_spanOfSome_38 : decode cX5_spanOfSome 38 = .ok (.istore_n 3, 1) := by decide +kernel
theorem dX5_spanOfSome_39 : decode cX5_spanOfSome 39 = .ok (.iinc 4 1, 3) := by decide +kernel
theorem dX5_spanOfSome_42 : decode cX5_spanOfSome 42 = .ok (.goto (-37), 3) := by decide +kernel
theorem dX5_spanOfSome_45 : decode cX5_spanOfSome 45 = .ok (.iload_n 3, 1) := by decide +kernel
theorem dX5_spanOfSome_46 : decode cX5_spanOfSome 46 = .ok (.ireturn, 1) := by decide +kernel
set_option maxHeartbeats 4000000 in
set_option maxRecDepth 100000 in
theorem wX5_spanOfSome_39 {p : Program} {l : Launch} {e : Env} {s : State} {m : MethodId} {args : Array Value} {below : List Frame} {meth : Method} {c : Code} (bs : Nat) (D : va_G) (y : Y3) (n : Nat) (k5_ : Int32 → Int32 → Int32 → MI → MJ → Option (Int32 × M2)) (r : Int32 × M2) (Gc : Gx p s m args meth c cX5_spanOfSome 5 RX5 bs D y (some .int) 44) (hk5_ : ∀ (x1 : Int32) (x3 : Int32) (x4 : Int32) (I : MI) (J : MJ) (H : Heap) (locs : List Loc) (ls : Array Slot), va_P D vwCl (wl bs y I J) H → va_S (FA bs) s.heap H locs → lv_has ls 5 [(0, .ref (bs + 22)), (1, .int x1), (2, .ref (bs + 16)), (3, .int x3), (4, .int x4)] → k5_ x1 x3 x4 I J = some r → W p l e (rmm 2 52) s m args below meth c H locs 0 0 (QI below args s bs D y r) (F0 m 5 ls [])) (x1 : Int32) (x3 : Int32) (x4 : Int32) (I : MI) (J : MJ) (H : Heap) (locs : List Loc) (ls : Array Slot) (hP : va_P D vwCl (wl bs y I J) H) (hS : va_S (FA bs) s.heap H locs) (hl : lv_has ls 5 [(0, .ref (bs + 22)), (1, .int x1), (2, .ref (bs + 16)), (3, .int x3), (4, .int x4)]) (h : fX5_spanOfSome_39 n k5_ x1 x3 x4 I J = some r) : W p l e (rmm 2 52) s m args below meth c H locs 0 0 (QI below args s bs D y r) (F0 m 39 ls []) := by
  obtain ⟨hx, hb, hml, hown, hts, hK, hN, hL, hr, hlocks, hcb⟩ := id Gc
  unfold fX5_spanOfSome_39 at h
  refine lv_iinc (v := (x4 + (1 : Int32))) (lv' := [(4, .int (x4 + (1 : Int32))), (0, .ref (bs + 22)), (1, .int x1), (2, .ref (bs + 16)), (3, .int x3)]) hx hb dX5_spanOfSome_39 hl (k := 4) rfl rfl (by decide) rfl (fun ls hl => ?_)
  refine lv_goto (tgt := 5) hx hb dX5_spanOfSome_42 (by decide) ?_
  exact hk5_ x1 x3 (x4 + (1 : Int32)) I J _ _ _ hP hS (lv_sub hl [1, 2, 3, 4, 0] rfl) h
set_option maxHeartbeats 4000000 in
set_option maxRecDepth 100000 in
theorem wX5_spanOfSome_5 {p : Program} {l : Launch} {e : Env} {s : State} {m : MethodId} {args : Array Value} {below : List Frame} {meth : Method} {c : Code} (bs : Nat) (D : va_G) (y : Y3) (n : Nat) (k5_ : Int32 → Int32 → Int32 → MI → MJ → Option (Int32 × M2)) (r : Int32 × M2) (Gc : Gx p s m args meth c cX5_spanOfSome 5 RX5 bs D y (some .int) 44) (hk5_ : ∀ (x1 : Int32) (x3 : Int32) (x4 : Int32) (I : MI) (J : MJ) (H : Heap) (locs : List Loc) (ls : Array Slot), va_P D vwCl (wl bs y I J) H → va_S (FA bs) s.heap H locs → lv_has ls 5 [(0, .ref (bs + 22)), (1, .int x1), (2, .ref (bs + 16)), (3, .int x3), (4, .int x4)] → k5_ x1 x3 x4 I J = some r → W p l e (rmm 2 52) s m args below meth c H locs 0 0 (QI below args s bs D y r) (F0 m 5 ls [])) (x1 : Int32) (x3 : Int32) (x4 : Int32) (I : MI) (J : MJ) (H : Heap) (locs : List Loc) (ls : Array Slot) (hP : va_P D vwCl (wl bs y I J) H) (hS : va_S (FA bs) s.heap H locs) (hl : lv_has ls 5 [(0, .ref (bs + 22)), (1, .int x1), (2, .ref (bs + 16)), (3, .int x3), (4, .int x4)]) (h : fX5_spanOfSome_5 n k5_ x1 x3 x4 I J = some r) : W p l e (rmm 2 52) s m args below meth c H locs 0 0 (QI below args s bs D y r) (F0 m 5 ls []) := by
  obtain ⟨hx, hb, hml, hown, hts, hK, hN, hL, hr, hlocks, hcb⟩ := id Gc
  unfold fX5_spanOfSome_5 at h
  refine lv_iload hx hb dX5_spanOfSome_5 (lv_at hl 4 rfl) ?_
  refine lv_bipush (v := (32 : Int32)) hx hb dX5_spanOfSome_7 (by decide) ?_
  refine lv_icmp_ge (tgt := 45) hx hb dX5_spanOfSome_9 (by decide) (fun c9 => ?_) (fun c9 => ?_)
  · replace h := if_t c9 h
    refine lv_iload_n hx hb dX5_spanOfSome_45 rfl (lv_at hl 3 rfl) ?_
    exact r_I hx hb hr hlocks hP hK hN hL hS h dX5_spanOfSome_46
  · replace h := if_f c9 h
    refine lv_iload_n hx hb dX5_spanOfSome_12 rfl (lv_at hl 1 rfl) ?_
    refine lv_iload hx hb dX5_spanOfSome_13 (lv_at hl 4 rfl) ?_
    refine lv_iushr (v := (ushrI x1 x4)) hx hb dX5_spanOfSome_15 rfl ?_
    refine lv_if_eq (tgt := 45) hx hb dX5_spanOfSome_16 (by decide) (fun c16 => ?_) (fun c16 => ?_)
    · replace h := if_t c16 h
      refine lv_iload_n hx hb dX5_spanOfSome_45 rfl (lv_at hl 3 rfl) ?_
      exact r_I hx hb hr hlocks hP hK hN hL hS h dX5_spanOfSome_46
    · replace h := if_f c16 h
      refine lv_iload_n hx hb dX5_spanOfSome_19 rfl (lv_at hl 1 rfl) ?_
      refine lv_i2l (v := (x1).toInt64) hx hb dX5_spanOfSome_20 rfl ?_
      refine lv_iload hx hb dX5_spanOfSome_21 (lv_at hl 4 rfl) ?_
      obtain ⟨r23, er23, h⟩ := bd_s1 h
      refine c_NI (As := [.long (x1).toInt64, .int x4]) (rest := []) hx hb hml hown hts hK hN hL hP hS (cX9_hasBit_ l bs D y hcb n (x1).toInt64 x4 I J r23 er23) ok_X9_hasBit ov_X9_hasBit mn_2 ⟨Nat.le_of_ble_eq_true rfl, Nat.le_of_ble_eq_true rfl⟩ hl.1 rfl rfl (Nat.le_of_ble_eq_true rfl) ⟨Nat.zero_le _, Nat.zero_le _⟩ dX5_spanOfSome_23 (fun H locs hP hS => ?_)
      refine lv_if_eq (tgt := 39) hx hb dX5_spanOfSome_26 (by decide) (fun c26 => ?_) (fun c26 => ?_)
      · replace h := if_t c26 h
        exact wX5_spanOfSome_39 bs D y n k5_ r Gc hk5_ x1 x3 x4 r23.2.1 r23.2.2 _ _ _ hP hS (lv_sub hl [0, 1, 2, 3, 4] rfl) h
      · replace h := if_f c26 h
        refine lv_iload_n hx hb dX5_spanOfSome_29 rfl (lv_at hl 3 rfl) ?_
        refine lv_aload_n hx hb dX5_spanOfSome_30 rfl (lv_at hl 0 rfl) ?_
        refine lv_iload hx hb dX5_spanOfSome_31 (lv_at hl 4 rfl) ?_
        refine lv_aload_n hx hb dX5_spanOfSome_33 rfl (lv_at hl 2 rfl) ?_
        obtain ⟨r34, er34, h⟩ := bd_s1 h
        refine c_VI (k := 22) (ci := 5) (As := [.int x4, .ref (bs + 16)]) (rest := [.int x3]) hx hb hml hown hts hK hN hL hP hS (cX5_spanOf_ l bs D y hcb n x4 r23.2.1 r23.2.2 r34 er34) ok_X5_spanOf ov_X5_spanOf ml_31 ⟨Nat.le_of_ble_eq_true rfl, Nat.le_of_ble_eq_true rfl⟩ rfl hcb kd_22 hl.1 rfl rfl (Nat.le_of_ble_eq_true rfl) ⟨Nat.zero_le _, Nat.zero_le _⟩ dX5_spanOfSome_34 (fun H locs hP hS => ?_)
        refine lv_iadd hx hb dX5_spanOfSome_37 ?_
        obtain ⟨v38, ev38, h⟩ := lt_s1 h
        refine top_i ev38 ?_
        refine lv_istore_n (lv' := [(3, .int v38), (0, .ref (bs + 22)), (1, .int x1), (2, .ref (bs + 16)), (4, .int x4)]) hx hb dX5_spanOfSome_38 rfl hl (by decide) rfl (fun ls hl => ?_)
        exact wX5_spanOfSome_39 bs D y n k5_ r Gc hk5_ x1 v38 x4 r34.2.1 r34.2.2 _ _ _ hP hS (lv_sub hl [1, 2, 3, 0, 4] rfl) h
theorem vX5_spanOfSome_5 {p : Program} {l : Launch} {e : Env} {s : State} {m : MethodId} {args : Array Value} {below : List Frame} {meth : Method} {c : Code} (bs : Nat) (D : va_G) (y : Y3) (n : Nat) (r : Int32 × M2) (Gc : Gx p s m args meth c cX5_spanOfSome 5 RX5 bs D y (some .int) 44)  : ∀ (q : Nat) (x1 : Int32) (x3 : Int32) (x4 : Int32) (I : MI) (J : MJ) (H : Heap) (locs : List Loc) (ls : Array Slot), va_P D vwCl (wl bs y I J) H → va_S (FA bs) s.heap H locs → lv_has ls 5 [(0, .ref (bs + 22)), (1, .int x1), (2, .ref (bs + 16)), (3, .int x3), (4, .int x4)] → lX5_spanOfSome_5 n  q x1 x3 x4 I J = some r → W p l e (rmm 2 52) s m args below meth c H locs 0 0 (QI below args s bs D y r) (F0 m 5 ls []) := by
  intro q
  induction q with
  | zero =>
    intro x1 x3 x4 I J H locs ls hP hS hl h
    have h : (none : Option (Int32 × M2)) = some r := h
    cases h
  | succ q ih =>
    intro x1 x3 x4 I J H locs ls hP hS hl h
    have h : fX5_spanOfSome_5 n  (lX5_spanOfSome_5 n  q) x1 x3 x4 I J = some r := h
    exact wX5_spanOfSome_5 bs D y n  (lX5_spanOfSome_5 n  q) r Gc  ih x1 x3 x4 I J H locs ls hP hS hl h
set_option maxHeartbeats 4000000 in
set_option maxRecDepth 100000 in
theorem cX5_spanOfSome_ (l : Launch) (bs : Nat) (D : va_G) (y : Y3) (hcb : 44 ≤ y.2.2.2) (n : Nat) (x1 : Int32) (I : MI) (J : MJ) (r : Int32 × M2) (h : fX5_spanOfSome n x1 I J = some r) : Met l yX5_spanOfSome (.code yX5_spanOfSome cX5_spanOfSome 5 (some .int) :: gtb) (rmm 2 52) (va_Pc [.ref (bs + 22), .int x1, .ref (bs + 16)] (HB bs D y I J)) (QcI bs D y r) 0 0 (FA bs) := by
  refine Met.ofW (cc := cX5_spanOfSome) (maxL := 5) (ret := (some .int)) (by decide) rfl ?_
  intro p e s m args below meth c s₁ B hml hv
  obtain ⟨rfl, hP, hK, hN, hL⟩ := hv
  have hx := B.exec
  have hb := B.bytes
  have hr := B.returns
  have hts0 := atoms_spec (ws := .code yX5_spanOfSome cX5_spanOfSome 5 (some .int) :: gtb) B.pre
  have hts : ∀ w ∈ gtb, w.before [.ref (bs + 22), .int x1, .ref (bs + 16)].toArray s = true := fun w hw => hts0 w (List.mem_cons_of_mem _ hw)
  have hown : s.vm.findClass RX5 = some m.cls := findClass_of_methodNamed B.named
  have hlocks := B.notSynchronized
  have hS : va_S (FA bs) s.heap s.heap [] := va_S.rf
  have Gc : Gx p s m [.ref (bs + 22), .int x1, .ref (bs + 16)].toArray meth c cX5_spanOfSome 5 RX5 bs D y (some .int) 44 := ⟨hx, hb, hml, hown, hts, hK, hN, hL, hr, hlocks, hcb⟩
  have hl := lv_entry [.ref (bs + 22), .int x1, .ref (bs + 16)] (n := 5) (Nat.le_of_ble_eq_true rfl)
  rw [lg_entry_eq]
  generalize (lg_sl [.ref (bs + 22), .int x1, .ref (bs + 16)] ++ List.replicate (5 - (lg_sl [.ref (bs + 22), .int x1, .ref (bs + 16)]).length) Slot.unset).toArray = ls at hl ⊢
  have hl : lv_has ls 5 [(0, .ref (bs + 22)), (1, .int x1), (2, .ref (bs + 16))] := hl
  change W p l e (rmm 2 52) s m [.ref (bs + 22), .int x1, .ref (bs + 16)].toArray below meth c s.heap [] 0 0 (QI below [.ref (bs + 22), .int x1, .ref (bs + 16)].toArray s bs D y r) (F0 m 0 ls [])
  unfold fX5_spanOfSome at h
  refine lv_iconst (v := (0 : Int32)) hx hb dX5_spanOfSome_0 (by decide) ?_
  refine lv_istore_n (lv' := [(3, .int (0 : Int32)), (0, .ref (bs + 22)), (1, .int x1), (2, .ref (bs + 16))]) hx hb dX5_spanOfSome_1 rfl hl (by decide) rfl (fun ls hl => ?_)
  refine lv_iconst (v := (0 : Int32)) hx hb dX5_spanOfSome_2 (by decide) ?_
  refine lv_istore (lv' := [(4, .int (0 : Int32)), (3, .int (0 : Int32)), (0, .ref (bs + 22)), (1, .int x1), (2, .ref (bs + 16))]) hx hb dX5_spanOfSome_3 hl (by decide) rfl (fun ls hl => ?_)
  exact vX5_spanOfSome_5 bs D y n  r Gc  n x1 (0 : Int32) (0 : Int32) I J _ _ _ hP hS (lv_sub hl [2, 3, 4, 1, 0] rfl) h
theorem dX5_exchangeUnlessLonger_0 : decode cX5_exchangeUnlessLonger 0 = .ok (.iconst 1, 1) := by decide +kernel
theorem dX5_exchangeUnlessLonger_1 : decode cX5_exchangeUnlessLonger 1 = .ok (.iload_n 1, 1) := by decide +kernel
theorem dX5_exchangeUnlessLonger_2 : decode cX5_exchangeUnlessLonger 2 = .ok (.ishl, 1) := by decide +kernel
theorem dX5_exchangeUnlessLonger_3 : decode cX5_exchangeUnlessLonger 3 = .ok (.iconst 1, 1) := by decide +kernel
theorem dX5_exchangeUnlessLonger_4 : decode cX5_exchangeUnlessLonger 4 = .ok (.iload_n 2, 1) := by decide +kernel
theorem dX5_exchangeUnlessLonger_5 : decode cX5_exchangeUnlessLonger 5 = .ok (.ishl, 1) := by decide +kernel
theorem dX5_exchangeUnlessLonger_6 : decode cX5_exchangeUnlessLonger 6 = .ok (.ior, 1) := by decide +kernel
theorem dX5_exchangeUnlessLonger_7 : decode cX5_exchangeUnlessLonger 7 = .ok (.aload_n 0, 1) := by decide +kernel
theorem dX5_exchangeUnlessLonger_8 : decode cX5_exchangeUnlessLonger 8 = .ok (.getfield 21, 3) := by decide +kernel
theorem dX5_exchangeUnlessLonger_11 : decode cX5_exchangeUnlessLonger 11 = .ok (.iload_n 1, 1) := by decide +kernel
theorem dX5_exchangeUnlessLonger_12 : decode cX5_exchangeUnlessLonger 12 = .ok (.iaload, 1) := by decide +kernel
theorem dX5_exchangeUnlessLonger_13 : decode cX5_exchangeUnlessLonger 13 = .ok (.ior, 1) := by decide +kernel
theorem dX5_exchangeUnlessLonger_14 : decode cX5_exchangeUnlessLonger 14 = .ok (.aload_n 0, 1) := by decide +kernel
theorem dX5_exchangeUnlessLonger_15 : decode cX5_exchangeUnlessLonger 15 = .ok (.getfield 21, 3) := by decide +kernel
theorem dX5_exchangeUnlessLonger_18 : decode cX5_exchangeUnlessLonger 18 = .ok (.iload_n 2, 1) := by decide +kernel
theorem dX5_exchangeUnlessLonger_19 : decode cX5_exchangeUnlessLonger 19 = .ok (.iaload, 1) := by decide +kernel
theorem dX5_exchangeUnlessLonger_20 : decode cX5_exchangeUnlessLonger 20 = .ok (.ior, 1) := by decide +kernel
theorem dX5_exchangeUnlessLonger_21 : decode cX5_exchangeUnlessLonger 21 = .ok (.istore 4, 2) := by decide +kernel
theorem dX5_exchangeUnlessLonger_23 : decode cX5_exchangeUnlessLonger 23 = .ok (.aload_n 0, 1) := by decide +kernel
theorem dX5_exchangeUnlessLonger_24 : decode cX5_exchangeUnlessLonger 24 = .ok (.iload 4, 2) := by decide +kernel
theorem dX5_exchangeUnlessLonger_26 : decode cX5_exchangeUnlessLonger 26 = .ok (.aload_n 3, 1) := by decide +kernel
theorem dX5_exchangeUnlessLonger_27 : decode cX5_exchangeUnlessLonger 27 = .ok (.invokevirtual 118, 3) := by decide +kernel
theorem dX5_exchangeUnlessLonger_30 : decode cX5_exchangeUnlessLonger 30 = .ok (.istore 5, 2) := by decide +kernel
theorem dX5_exchangeUnlessLonger_32 : decode cX5_exchangeUnlessLonger 32 = .ok (.aload_n 0, 1) := by decide +kernel
theorem dX5_exchangeUnlessLonger_33 : decode cX5_exchangeUnlessLonger 33 = .ok (.iload_n 1, 1) := by decide +kernel
theorem dX5_exchangeUnlessLonger_34 : decode cX5_exchangeUnlessLonger 34 = .ok (.iload_n 2, 1) := by decide +kernel
theorem dX5_exchangeUnlessLonger_35 : decode cX5_exchangeUnlessLonger 35 = .ok (.invokevirtual 121, 3) := by decide +kernel
theorem dX5_exchangeUnlessLonger_38 : decode cX5_exchangeUnlessLonger 38 = .ok (.aload_n 0, 1) := by decide +kernel
theorem dX5_exchangeUnlessLonger_39 : decode cX5_exchangeUnlessLonger 39 = .ok (.iload 4, 2) := by decide +kernel
theorem dX5_exchangeUnlessLonger_41 : decode cX5_exchangeUnlessLonger 41 = .ok (.aload_n 3, 1) := by decide +kernel
theorem dX5_exchangeUnlessLonger_42 : decode cX5_exchangeUnlessLonger 42 = .ok (.invokevirtual 118, 3) := by decide +kernel
theorem dX5_exchangeUnlessLonger_45 : decode cX5_exchangeUnlessLonger 45 = .ok (.iload 5, 2) := by decide +kernel
theorem dX5_exchangeUnlessLonger_47 : decode cX5_exchangeUnlessLonger 47 = .ok (.if_icmp .le 11, 3) := by decide +kernel
theorem dX5_exchangeUnlessLonger_50 : decode cX5_exchangeUnlessLonger 50 = .ok (.aload_n 0, 1) := by decide +kernel
theorem dX5_exchangeUnlessLonger_51 : decode cX5_exchangeUnlessLonger 51 = .ok (.iload_n 1, 1) := by decide +kernel
theorem dX5_exchangeUnlessLonger_52 : decode cX5_exchangeUnlessLonger 52 = .ok (.iload_n 2, 1) := by decide +kernel
theorem dX5_exchangeUnlessLonger_53 : decode cX5_exchangeUnlessLonger 53 = .ok (.invokevirtual 121, 3) := by decide +kernel
theorem dX5_exchangeUnlessLonger_56 : decode cX5_exchangeUnlessLonger 56 = .ok (.iconst 0, 1) := by decide +kernel
theorem dX5_exchangeUnlessLonger_57 : decode cX5_exchangeUnlessLonger 57 = .ok (.ireturn, 1) := by decide +kernel
theorem dX5_exchangeUnlessLonger_58 : decode cX5_exchangeUnlessLonger 58 = .ok (.iconst 1, 1) := by decide +kernel
theorem dX5_exchangeUnlessLonger_59 : decode cX5_exchangeUnlessLonger 59 = .ok (.ireturn, 1) := by decide +kernel
set_option maxHeartbeats 4000000 in
set_option maxRecDepth 100000 in
theorem cX5_exchangeUnlessLonger_ (l : Launch) (bs : Nat) (D : va_G) (y : Y3) (hcb : 44 ≤ y.2.2.2) (n : Nat) (x1 : Int32) (x2 : Int32) (I : MI) (J : MJ) (r : Int32 × M2) (h : fX5_exchangeUnlessLonger n x1 x2 I J = some r) : Met l yX5_exchangeUnlessLonger (.code yX5_exchangeUnlessLonger cX5_exchangeUnlessLonger 6 (some .boolean) :: gtb) (rmm 3 76) (va_Pc [.ref (bs + 22), .int x1, .int x2, .ref (bs + 16)] (HB bs D y I J)) (QcI bs D y r) 0 0 (FA bs) := by
  refine Met.ofW (cc := cX5_exchangeUnlessLonger) (maxL := 6) (ret := (some .boolean)) (by decide) rfl ?_
  intro p e s m args below meth c s₁ B hml hv
  obtain ⟨rfl, hP, hK, hN, hL⟩ := hv
  have hx := B.exec
  have hb := B.bytes
  have hr := B.returns
  have hts0 := atoms_spec (ws := .code yX5_exchangeUnlessLonger cX5_exchangeUnlessLonger 6 (some .boolean) :: gtb) B.pre
  have hts : ∀ w ∈ gtb, w.before [.ref (bs + 22), .int x1, .int x2, .ref (bs + 16)].toArray s = true := fun w hw => hts0 w (List.mem_cons_of_mem _ hw)
  have hown : s.vm.findClass RX5 = some m.cls := findClass_of_methodNamed B.named
  have hlocks := B.notSynchronized
  have hS : va_S (FA bs) s.heap s.heap [] := va_S.rf
  have Gc : Gx p s m [.ref (bs + 22), .int x1, .int x2, .ref (bs + 16)].toArray meth c cX5_exchangeUnlessLonger 6 RX5 bs D y (some .boolean) 44 := ⟨hx, hb, hml, hown, hts, hK, hN, hL, hr, hlocks, hcb⟩
  have hl := lv_entry [.ref (bs + 22), .int x1, .int x2, .ref (bs + 16)] (n := 6) (Nat.le_of_ble_eq_true rfl)
  rw [lg_entry_eq]
  generalize (lg_sl [.ref (bs + 22), .int x1, .int x2, .ref (bs + 16)] ++ List.replicate (6 - (lg_sl [.ref (bs + 22), .int x1, .int x2, .ref (bs + 16)]).length) Slot.unset).toArray = ls at hl ⊢
  have hl : lv_has ls 6 [(0, .ref (bs + 22)), (1, .int x1), (2, .int x2), (3, .ref (bs + 16))] := hl
  change W p l e (rmm 3 76) s m [.ref (bs + 22), .int x1, .int x2, .ref (bs + 16)].toArray below meth c s.heap [] 0 0 (QI below [.ref (bs + 22), .int x1, .int x2, .ref (bs + 16)].toArray s bs D y r) (F0 m 0 ls [])
  unfold fX5_exchangeUnlessLonger at h
  refine lv_iconst (v := (1 : Int32)) hx hb dX5_exchangeUnlessLonger_0 (by decide) ?_
  refine lv_iload_n hx hb dX5_exchangeUnlessLonger_1 rfl (lv_at hl 1 rfl) ?_
  refine lv_ishl hx hb dX5_exchangeUnlessLonger_2 ?_
  refine lv_iconst (v := (1 : Int32)) hx hb dX5_exchangeUnlessLonger_3 (by decide) ?_
  refine lv_iload_n hx hb dX5_exchangeUnlessLonger_4 rfl (lv_at hl 2 rfl) ?_
  refine lv_ishl hx hb dX5_exchangeUnlessLonger_5 ?_
  refine lv_ior hx hb dX5_exchangeUnlessLonger_6 ?_
  refine lv_aload_n hx hb dX5_exchangeUnlessLonger_7 rfl (lv_at hl 0 rfl) ?_
  refine g_R (C := RX5) (T := TX5) (N := 7) (ci := 5) 22 5 26 hx hb hts hown hK hP in_X5 rfl hcb okF_22_5 rfc_22_5 fl_51 dX5_exchangeUnlessLonger_8 ?_
  refine lv_iload_n hx hb dX5_exchangeUnlessLonger_11 rfl (lv_at hl 1 rfl) ?_
  obtain ⟨hi12, h⟩ := if_s1 h
  refine a_I 26 hx hb hK hP hcb aln_26 hi12 dX5_exchangeUnlessLonger_12 ?_
  refine lv_ior hx hb dX5_exchangeUnlessLonger_13 ?_
  refine lv_aload_n hx hb dX5_exchangeUnlessLonger_14 rfl (lv_at hl 0 rfl) ?_
  refine g_R (C := RX5) (T := TX5) (N := 7) (ci := 5) 22 5 26 hx hb hts hown hK hP in_X5 rfl hcb okF_22_5 rfc_22_5 fl_51 dX5_exchangeUnlessLonger_15 ?_
  refine lv_iload_n hx hb dX5_exchangeUnlessLonger_18 rfl (lv_at hl 2 rfl) ?_
  obtain ⟨hi19, h⟩ := if_s1 h
  refine a_I 26 hx hb hK hP hcb aln_26 hi19 dX5_exchangeUnlessLonger_19 ?_
  refine lv_ior hx hb dX5_exchangeUnlessLonger_20 ?_
  obtain ⟨v21, ev21, h⟩ := lt_s1 h
  refine top_i ev21 ?_
  refine lv_istore (lv' := [(4, .int v21), (0, .ref (bs + 22)), (1, .int x1), (2, .int x2), (3, .ref (bs + 16))]) hx hb dX5_exchangeUnlessLonger_21 hl (by decide) rfl (fun ls hl => ?_)
  refine lv_aload_n hx hb dX5_exchangeUnlessLonger_23 rfl (lv_at hl 1 rfl) ?_
  refine lv_iload hx hb dX5_exchangeUnlessLonger_24 (lv_at hl 0 rfl) ?_
  refine lv_aload_n hx hb dX5_exchangeUnlessLonger_26 rfl (lv_at hl 4 rfl) ?_
  obtain ⟨r27, er27, h⟩ := bd_s1 h
  refine c_VI (k := 22) (ci := 5) (As := [.int v21, .ref (bs + 16)]) (rest := []) hx hb hml hown hts hK hN hL hP hS (cX5_spanOfSome_ l bs D y hcb n v21 I J r27 er27) ok_X5_spanOfSome ov_X5_spanOfSome ml_32 ⟨Nat.le_of_ble_eq_true rfl, Nat.le_of_ble_eq_true rfl⟩ rfl hcb kd_22 hl.1 rfl rfl (Nat.le_of_ble_eq_true rfl) ⟨Nat.zero_le _, Nat.zero_le _⟩ dX5_exchangeUnlessLonger_27 (fun H locs hP hS => ?_)
  obtain ⟨v30, ev30, h⟩ := lt_s1 h
  refine top_i ev30 ?_
  refine lv_istore (lv' := [(5, .int v30), (4, .int v21), (0, .ref (bs + 22)), (1, .int x1), (2, .int x2), (3, .ref (bs + 16))]) hx hb dX5_exchangeUnlessLonger_30 hl (by decide) rfl (fun ls hl => ?_)
  refine lv_aload_n hx hb dX5_exchangeUnlessLonger_32 rfl (lv_at hl 2 rfl) ?_
  refine lv_iload_n hx hb dX5_exchangeUnlessLonger_33 rfl (lv_at hl 3 rfl) ?_
  refine lv_iload_n hx hb dX5_exchangeUnlessLonger_34 rfl (lv_at hl 4 rfl) ?_
  obtain ⟨r35, er35, h⟩ := bd_s1 h
  refine c_VV (k := 22) (ci := 5) (As := [.int x1, .int x2]) (rest := []) hx hb hml hown hts hK hN hL hP hS (cX5_exchange_ l bs D y hcb n x1 x2 r27.2.1 r27.2.2 r35 er35) ok_X5_exchange ov_X5_exchange ml_33 ⟨Nat.le_of_ble_eq_true rfl, Nat.le_of_ble_eq_true rfl⟩ rfl hcb kd_22 hl.1 rfl rfl (Nat.le_of_ble_eq_true rfl) ⟨Nat.zero_le _, Nat.zero_le _⟩ dX5_exchangeUnlessLonger_35 (fun H locs hP hS => ?_)
  refine lv_aload_n hx hb dX5_exchangeUnlessLonger_38 rfl (lv_at hl 2 rfl) ?_
  refine lv_iload hx hb dX5_exchangeUnlessLonger_39 (lv_at hl 1 rfl) ?_
  refine lv_aload_n hx hb dX5_exchangeUnlessLonger_41 rfl (lv_at hl 5 rfl) ?_
  obtain ⟨r42, er42, h⟩ := bd_s1 h
  refine c_VI (k := 22) (ci := 5) (As := [.int v21, .ref (bs + 16)]) (rest := []) hx hb hml hown hts hK hN hL hP hS (cX5_spanOfSome_ l bs D y hcb n v21 r35.1 r35.2 r42 er42) ok_X5_spanOfSome ov_X5_spanOfSome ml_32 ⟨Nat.le_of_ble_eq_true rfl, Nat.le_of_ble_eq_true rfl⟩ rfl hcb kd_22 hl.1 rfl rfl (Nat.le_of_ble_eq_true rfl) ⟨Nat.zero_le _, Nat.zero_le _⟩ dX5_exchangeUnlessLonger_42 (fun H locs hP hS => ?_)
  refine lv_iload hx hb dX5_exchangeUnlessLonger_45 (lv_at hl 0 rfl) ?_
  refine lv_icmp_le (tgt := 58) hx hb dX5_exchangeUnlessLonger_47 (by decide) (fun c47 => ?_) (fun c47 => ?_)
  · replace h := if_t c47 h
    refine lv_iconst (v := (1 : Int32)) hx hb dX5_exchangeUnlessLonger_58 (by decide) ?_
    exact r_Z hx hb hr hlocks hP hK hN hL hS (by decide) h dX5_exchangeUnlessLonger_59
  · replace h := if_f c47 h
    refine lv_aload_n hx hb dX5_exchangeUnlessLonger_50 rfl (lv_at hl 2 rfl) ?_
    refine lv_iload_n hx hb dX5_exchangeUnlessLonger_51 rfl (lv_at hl 3 rfl) ?_
    refine lv_iload_n hx hb dX5_exchangeUnlessLonger_52 rfl (lv_at hl 4 rfl) ?_
    obtain ⟨r53, er53, h⟩ := bd_s1 h
    refine c_VV (k := 22) (ci := 5) (As := [.int x1, .int x2]) (rest := []) hx hb hml hown hts hK hN hL hP hS (cX5_exchange_ l bs D y hcb n x1 x2 r42.2.1 r42.2.2 r53 er53) ok_X5_exchange ov_X5_exchange ml_33 ⟨Nat.le_of_ble_eq_true rfl, Nat.le_of_ble_eq_true rfl⟩ rfl hcb kd_22 hl.1 rfl rfl (Nat.le_of_ble_eq_true rfl) ⟨Nat.zero_le _, Nat.zero_le _⟩ dX5_exchangeUnlessLonger_53 (fun H locs hP hS => ?_)
    refine lv_iconst (v := (0 : Int32)) hx hb dX5_exchangeUnlessLonger_56 (by decide) ?_
    exact r_Z hx hb hr hlocks hP hK hN hL hS (by decide) h dX5_exchangeUnlessLonger_57
theorem dX5_tryExchanges_0 : decode cX5_tryExchanges 0 = .ok (.aload_n 0, 1) := by decide +kernel
theorem dX5_tryExchanges_1 : decode cX5_tryExchanges 1 = .ok (.getfield 27, 3) := by decide +kernel
theorem dX5_tryExchanges_4 : decode cX5_tryExchanges 4 = .ok (.ifCond .gt 5, 3) := by decide +kernel
theorem dX5_tryExchanges_7 : decode cX5_tryExchanges 7 = .ok (.iconst 0, 1) := by decide +kernel
theorem dX5_tryExchanges_8 : decode cX5_tryExchanges 8 = .ok (.ireturn, 1) := by decide +kernel
theorem dX5_tryExchanges_9 : decode cX5_tryExchanges 9 = .ok (.iconst 0, 1) := by decide +kernel
theorem dX5_tryExchanges_10 : decode cX5_tryExchanges 10 = .ok (.istore 5, 2) := by decide +kernel
theorem dX5_tryExchanges_12 : decode cX5_tryExchanges 12 = .ok (.lload_n 2, 1) := by decide +kernel
theorem dX5_tryExchanges_13 : decode cX5_tryExchanges 13 = .ok (.lstore 6, 2) := by decide +kernel
theorem dX5_tryExchanges_15 : decode cX5_tryExchanges 15 = .ok (.iconst 0, 1) := by decide +kernel
theorem dX5_tryExchanges_16 : decode cX5_tryExchanges 16 = .ok (.istore 8, 2) := by decide +kernel
theorem dX5_tryExchanges_18 : decode cX5_tryExchanges 18 = .ok (.iload 8, 2) := by decide +kernel
theorem dX5_tryExchanges_20 : decode cX5_tryExchanges 20 = .ok (.iload_n 1, 1) := by decide +kernel
theorem dX5_tryExchanges_21 : decode cX5_tryExchanges 21 = .ok (.if_icmp .ge 87, 3) := by decide +kernel
theorem dX5_tryExchanges_24 : decode cX5_tryExchanges 24 = .ok (.lload 6, 2) := by decide +kernel
theorem dX5_tryExchanges_26 : decode cX5_tryExchanges 26 = .ok (.ldc2_w 110, 3) := by decide +kernel
theorem dX5_tryExchanges_29 : decode cX5_tryExchanges 29 = .ok (.lmul, 1) := by decide +kernel
theorem dX5_tryExchanges_30 : decode cX5_tryExchanges 30 = .ok (.ldc2_w 112, 3) := by decide +kernel
theorem dX5_tryExchanges_33 : decode cX5_tryExchanges 33 = .ok (.ladd, 1) := by decide +kernel
theorem dX5_tryExchanges_34 : decode cX5_tryExchanges 34 = .ok (.lstore 6, 2) := by decide +kernel
theorem dX5_tryExchanges_36 : decode cX5_tryExchanges 36 = .ok (.aload_n 0, 1) := by decide +kernel
theorem dX5_tryExchanges_37 : decode cX5_tryExchanges 37 = .ok (.getfield 9, 3) := by decide +kernel
theorem dX5_tryExchanges_40 : decode cX5_tryExchanges 40 = .ok (.lload 6, 2) := by decide +kernel
theorem dX5_tryExchanges_42 : decode cX5_tryExchanges 42 = .ok (.bipush 33, 2) := by decide +kernel
theorem dX5_tryExchanges_44 : decode cX5_tryExchanges 44 = .ok (.lushr, 1) := by decide +kernel
theorem dX5_tryExchanges_45 : decode cX5_tryExchanges 45 = .ok (.aload_n 0, 1) := by decide +kernel
theorem dX5_tryExchanges_46 : decode cX5_tryExchanges 46 = .ok (.getfield 27, 3) := by decide +kernel
theorem dX5_tryExchanges_49 : decode cX5_tryExchanges 49 = .ok (.i2l, 1) := by decide +kernel
theorem dX5_tryExchanges_50 : decode cX5_tryExchanges 50 = .ok (.lrem, 1) := by decide +kernel
theorem dX5_tryExchanges_51 : decode cX5_tryExchanges 51 = .ok (.l2i, 1) := by decide +kernel
theorem dX5_tryExchanges_52 : decode cX5_tryExchanges 52 = .ok (.iaload, 1) := by decide +kernel
theorem dX5_tryExchanges_53 : decode cX5_tryExchanges 53 = .ok (.istore 9, 2) := by decide +kernel
theorem dX5_tryExchanges_55 : decode cX5_tryExchanges 55 = .ok (.lload 6, 2) := by decide +kernel
theorem dX5_tryExchanges_57 : decode cX5_tryExchanges 57 = .ok (.ldc2_w 110, 3) := by decide +kernel
theorem dX5_tryExchanges_60 : decode cX5_tryExchanges 60 = .ok (.lmul, 1) := by decide +kernel
theorem dX5_tryExchanges_61 : decode cX5_tryExchanges 61 = .ok (.ldc2_w 112, 3) := by decide +kernel
theorem dX5_tryExchanges_64 : decode cX5_tryExchanges 64 = .ok (.ladd, 1) := by decide +kernel
theorem dX5_tryExchanges_65 : decode cX5_tryExchanges 65 = .ok (.lstore 6, 2) := by decide +kernel
theorem dX5_tryExchanges_67 : decode cX5_tryExchanges 67 = .ok (.aload_n 0, 1) := by decide +kernel
theorem dX5_tryExchanges_68 : decode cX5_tryExchanges 68 = .ok (.getfield 9, 3) := by decide +kernel
theorem dX5_tryExchanges_71 : decode cX5_tryExchanges 71 = .ok (.lload 6, 2) := by decide +kernel
theorem dX5_tryExchanges_73 : decode cX5_tryExchanges 73 = .ok (.bipush 33, 2) := by decide +kernel
theorem dX5_tryExchanges_75 : decode cX5_tryExchanges 75 = .ok (.lushr, 1) := by decide +kernel
theorem dX5_tryExchanges_76 : decode cX5_tryExchanges 76 = .ok (.aload_n 0, 1) := by decide +kernel
theorem dX5_tryExchanges_77 : decode cX5_tryExchanges 77 = .ok (.getfield 27, 3) := by decide +kernel
theorem dX5_tryExchanges_80 : decode cX5_tryExchanges 80 = .ok (.i2l, 1) := by decide +kernel
theorem dX5_tryExchanges_81 : decode cX5_tryExchanges 81 = .ok (.lrem, 1) := by decide +kernel
theorem dX5_tryExchanges_82 : decode cX5_tryExchanges 82 = .ok (.l2i, 1) := by decide +kernel
theorem dX5_tryExchanges_83 : decode cX5_tryExchanges 83 = .ok (.iaload, 1) := by decide +kernel
theorem dX5_tryExchanges_84 : decode cX5_tryExchanges 84 = .ok (.istore 10, 2) := by decide +kernel
theorem dX5_tryExchanges_86 : decode cX5_tryExchanges 86 = .ok (.aload_n 0, 1) := by decide +kernel
theorem dX5_tryExchanges_87 : decode cX5_tryExchanges 87 = .ok (.iload 9, 2) := by decide +kernel
theorem dX5_tryExchanges_89 : decode cX5_tryExchanges 89 = .ok (.iload 10, 2) := by decide +kernel
theorem dX5_tryExchanges_91 : decode cX5_tryExchanges 91 = .ok (.aload 4, 2) := by decide +kernel
theorem dX5_tryExchanges_93 : decode cX5_tryExchanges 93 = .ok (.invokevirtual 114, 3) := by decide +kernel
theorem dX5_tryExchanges_96 : decode cX5_tryExchanges 96 = .ok (.ifCond .eq 6, 3) := by decide +kernel
theorem dX5_tryExchanges_99 : decode cX5_tryExchanges 99 = .ok (.iinc 5 1, 3) := by decide +kernel
theorem dX5_tryExchanges_102 : decode cX5_tryExchanges 102 = .ok (.iinc 8 1, 3) := by decide +kernel
theorem dX5_tryExchanges_105 : decode cX5_tryExchanges 105 = .ok (.goto (-87), 3) := by decide +kernel
theorem dX5_tryExchanges_108 : decode cX5_tryExchanges 108 = .ok (.iload 5, 2) := by decide +kernel
theorem dX5_tryExchanges_110 : decode cX5_tryExchanges 110 = .ok (.ireturn, 1) := by decide +kernel
set_option maxHeartbeats 4000000 in
set_option maxRecDepth 100000 in
theorem wX5_tryExchanges_102 {p : Program} {l : Launch} {e : Env} {s : State} {m : MethodId} {args : Array Value} {below : List Frame} {meth : Method} {c : Code} (bs : Nat) (D : va_G) (y : Y3) (n : Nat) (k18_ : Int32 → Int32 → Int64 → Int32 → MI → MJ → Option (Int32 × M2)) (r : Int32 × M2) (Gc : Gx p s m args meth c cX5_tryExchanges 11 RX5 bs D y (some .int) 44) (hk18_ : ∀ (x1 : Int32) (x5 : Int32) (x6 : Int64) (x8 : Int32) (I : MI) (J : MJ) (H : Heap) (locs : List Loc) (ls : Array Slot), va_P D vwCl (wl bs y I J) H → va_S (FA bs) s.heap H locs → lv_has ls 11 [(0, .ref (bs + 22)), (1, .int x1), (4, .ref (bs + 16)), (5, .int x5), (6, .long x6), (8, .int x8)] → k18_ x1 x5 x6 x8 I J = some r → W p l e (rmm 4 101) s m args below meth c H locs 0 0 (QI below args s bs D y r) (F0 m 18 ls [])) (x1 : Int32) (x5 : Int32) (x6 : Int64) (x8 : Int32) (I : MI) (J : MJ) (H : Heap) (locs : List Loc) (ls : Array Slot) (hP : va_P D vwCl (wl bs y I J) H) (hS : va_S (FA bs) s.heap H locs) (hl : lv_has ls 11 [(0, .ref (bs + 22)), (1, .int x1), (4, .ref (bs + 16)), (5, .int x5), (6, .long x6), (8, .int x8)]) (h : fX5_tryExchanges_102 n k18_ x1 x5 x6 x8 I J = some r) : W p l e (rmm 4 101) s m args below meth c H locs 0 0 (QI below args s bs D y r) (F0 m 102 ls []) := by
  obtain ⟨hx, hb, hml, hown, hts, hK, hN, hL, hr, hlocks, hcb⟩ := id Gc
  unfold fX5_tryExchanges_102 at h
  refine lv_iinc (v := (x8 + (1 : Int32))) (lv' := [(8, .int (x8 + (1 : Int32))), (0, .ref (bs + 22)), (1, .int x1), (4, .ref (bs + 16)), (5, .int x5), (6, .long x6)]) hx hb dX5_tryExchanges_102 hl (k := 5) rfl rfl (by decide) rfl (fun ls hl => ?_)
  refine lv_goto (tgt := 18) hx hb dX5_tryExchanges_105 (by decide) ?_
  exact hk18_ x1 x5 x6 (x8 + (1 : Int32)) I J _ _ _ hP hS (lv_sub hl [1, 2, 3, 4, 5, 0] rfl) h
set_option maxHeartbeats 4000000 in
set_option maxRecDepth 100000 in
theorem wX5_tryExchanges_18 {p : Program} {l : Launch} {e : Env} {s : State} {m : MethodId} {args : Array Value} {below : List Frame} {meth : Method} {c : Code} (bs : Nat) (D : va_G) (y : Y3) (n : Nat) (k18_ : Int32 → Int32 → Int64 → Int32 → MI → MJ → Option (Int32 × M2)) (r : Int32 × M2) (Gc : Gx p s m args meth c cX5_tryExchanges 11 RX5 bs D y (some .int) 44) (hk18_ : ∀ (x1 : Int32) (x5 : Int32) (x6 : Int64) (x8 : Int32) (I : MI) (J : MJ) (H : Heap) (locs : List Loc) (ls : Array Slot), va_P D vwCl (wl bs y I J) H → va_S (FA bs) s.heap H locs → lv_has ls 11 [(0, .ref (bs + 22)), (1, .int x1), (4, .ref (bs + 16)), (5, .int x5), (6, .long x6), (8, .int x8)] → k18_ x1 x5 x6 x8 I J = some r → W p l e (rmm 4 101) s m args below meth c H locs 0 0 (QI below args s bs D y r) (F0 m 18 ls [])) (x1 : Int32) (x5 : Int32) (x6 : Int64) (x8 : Int32) (I : MI) (J : MJ) (H : Heap) (locs : List Loc) (ls : Array Slot) (hP : va_P D vwCl (wl bs y I J) H) (hS : va_S (FA bs) s.heap H locs) (hl : lv_has ls 11 [(0, .ref (bs + 22)), (1, .int x1), (4, .ref (bs + 16)), (5, .int x5), (6, .long x6), (8, .int x8)]) (h : fX5_tryExchanges_18 n k18_ x1 x5 x6 x8 I J = some r) : W p l e (rmm 4 101) s m args below meth c H locs 0 0 (QI below args s bs D y r) (F0 m 18 ls []) := by
  obtain ⟨hx, hb, hml, hown, hts, hK, hN, hL, hr, hlocks, hcb⟩ := id Gc
  unfold fX5_tryExchanges_18 at h
  refine lv_iload hx hb dX5_tryExchanges_18 (lv_at hl 5 rfl) ?_
  refine lv_iload_n hx hb dX5_tryExchanges_20 rfl (lv_at hl 1 rfl) ?_
  refine lv_icmp_ge (tgt := 108) hx hb dX5_tryExchanges_21 (by decide) (fun c21 => ?_) (fun c21 => ?_)
  · replace h := if_t c21 h
    refine lv_iload hx hb dX5_tryExchanges_108 (lv_at hl 3 rfl) ?_
    exact r_I hx hb hr hlocks hP hK hN hL hS h dX5_tryExchanges_110
  · replace h := if_f c21 h
    refine lv_lload hx hb dX5_tryExchanges_24 (lv_at hl 4 rfl) ?_
    refine lv_ldc2 hx hb hown (hts _ cl_6) dX5_tryExchanges_26 ?_
    refine lv_lmul hx hb dX5_tryExchanges_29 ?_
    refine lv_ldc2 hx hb hown (hts _ cl_7) dX5_tryExchanges_30 ?_
    refine lv_ladd hx hb dX5_tryExchanges_33 ?_
    obtain ⟨v34, ev34, h⟩ := lt_s1 h
    refine top_j ev34 ?_
    refine lv_lstore (lv' := [(6, .long v34), (0, .ref (bs + 22)), (1, .int x1), (4, .ref (bs + 16)), (5, .int x5), (8, .int x8)]) hx hb dX5_tryExchanges_34 hl (by decide) rfl (fun ls hl => ?_)
    refine lv_aload_n hx hb dX5_tryExchanges_36 rfl (lv_at hl 1 rfl) ?_
    refine g_R (C := RX5) (T := TX5) (N := 7) (ci := 5) 22 2 23 hx hb hts hown hK hP in_X5 rfl hcb okF_22_2 rfc_22_2 fl_48 dX5_tryExchanges_37 ?_
    refine lv_lload hx hb dX5_tryExchanges_40 (lv_at hl 0 rfl) ?_
    refine lv_bipush (v := (33 : Int32)) hx hb dX5_tryExchanges_42 (by decide) ?_
    refine lv_lushr (v := (ushrL v34 (33 : Int32))) hx hb dX5_tryExchanges_44 rfl ?_
    refine lv_aload_n hx hb dX5_tryExchanges_45 rfl (lv_at hl 1 rfl) ?_
    refine g_I (C := RX5) (T := TX5) (N := 7) (ci := 5) 22 1 hx hb hts hown hK hP in_X5 rfl hcb okF_22_1 fl_49 dX5_tryExchanges_46 ?_
    refine lv_i2l (v := ((I 22 1)).toInt64) hx hb dX5_tryExchanges_49 rfl ?_
    obtain ⟨hz50, h⟩ := if_s1 h
    refine lv_lrem hx hb dX5_tryExchanges_50 (of_decide_eq_true hz50) ?_
    refine lv_l2i (v := (((ushrL v34 (33 : Int32)) - (ushrL v34 (33 : Int32)) / ((I 22 1)).toInt64 * ((I 22 1)).toInt64)).toInt32) hx hb dX5_tryExchanges_51 rfl ?_
    obtain ⟨hi52, h⟩ := if_s1 h
    refine a_I 23 hx hb hK hP hcb aln_23 hi52 dX5_tryExchanges_52 ?_
    obtain ⟨v53, ev53, h⟩ := lt_s1 h
    refine top_i ev53 ?_
    refine lv_istore (lv' := [(9, .int v53), (6, .long v34), (0, .ref (bs + 22)), (1, .int x1), (4, .ref (bs + 16)), (5, .int x5), (8, .int x8)]) hx hb dX5_tryExchanges_53 hl (by decide) rfl (fun ls hl => ?_)
    refine lv_lload hx hb dX5_tryExchanges_55 (lv_at hl 1 rfl) ?_
    refine lv_ldc2 hx hb hown (hts _ cl_6) dX5_tryExchanges_57 ?_
    refine lv_lmul hx hb dX5_tryExchanges_60 ?_
    refine lv_ldc2 hx hb hown (hts _ cl_7) dX5_tryExchanges_61 ?_
    refine lv_ladd hx hb dX5_tryExchanges_64 ?_
    obtain ⟨v65, ev65, h⟩ := lt_s1 h
    refine top_j ev65 ?_
    refine lv_lstore (lv' := [(6, .long v65), (9, .int v53), (0, .ref (bs + 22)), (1, .int x1), (4, .ref (bs + 16)), (5, .int x5), (8, .int x8)]) hx hb dX5_tryExchanges_65 hl (by decide) rfl (fun ls hl => ?_)
    refine lv_aload_n hx hb dX5_tryExchanges_67 rfl (lv_at hl 2 rfl) ?_
    refine g_R (C := RX5) (T := TX5) (N := 7) (ci := 5) 22 2 23 hx hb hts hown hK hP in_X5 rfl hcb okF_22_2 rfc_22_2 fl_48 dX5_tryExchanges_68 ?_
    refine lv_lload hx hb dX5_tryExchanges_71 (lv_at hl 0 rfl) ?_
    refine lv_bipush (v := (33 : Int32)) hx hb dX5_tryExchanges_73 (by decide) ?_
    refine lv_lushr (v := (ushrL v65 (33 : Int32))) hx hb dX5_tryExchanges_75 rfl ?_
    refine lv_aload_n hx hb dX5_tryExchanges_76 rfl (lv_at hl 2 rfl) ?_
    refine g_I (C := RX5) (T := TX5) (N := 7) (ci := 5) 22 1 hx hb hts hown hK hP in_X5 rfl hcb okF_22_1 fl_49 dX5_tryExchanges_77 ?_
    refine lv_i2l (v := ((I 22 1)).toInt64) hx hb dX5_tryExchanges_80 rfl ?_
    obtain ⟨hz81, h⟩ := if_s1 h
    refine lv_lrem hx hb dX5_tryExchanges_81 (of_decide_eq_true hz81) ?_
    refine lv_l2i (v := (((ushrL v65 (33 : Int32)) - (ushrL v65 (33 : Int32)) / ((I 22 1)).toInt64 * ((I 22 1)).toInt64)).toInt32) hx hb dX5_tryExchanges_82 rfl ?_
    obtain ⟨hi83, h⟩ := if_s1 h
    refine a_I 23 hx hb hK hP hcb aln_23 hi83 dX5_tryExchanges_83 ?_
    obtain ⟨v84, ev84, h⟩ := lt_s1 h
    refine top_i ev84 ?_
    refine lv_istore (lv' := [(10, .int v84), (6, .long v65), (9, .int v53), (0, .ref (bs + 22)), (1, .int x1), (4, .ref (bs + 16)), (5, .int x5), (8, .int x8)]) hx hb dX5_tryExchanges_84 hl (by decide) rfl (fun ls hl => ?_)
    refine lv_aload_n hx hb dX5_tryExchanges_86 rfl (lv_at hl 3 rfl) ?_
    refine lv_iload hx hb dX5_tryExchanges_87 (lv_at hl 2 rfl) ?_
    refine lv_iload hx hb dX5_tryExchanges_89 (lv_at hl 0 rfl) ?_
    refine lv_aload hx hb dX5_tryExchanges_91 (lv_at hl 5 rfl) ?_
    obtain ⟨r93, er93, h⟩ := bd_s1 h
    refine c_VI (k := 22) (ci := 5) (As := [.int v53, .int v84, .ref (bs + 16)]) (rest := []) hx hb hml hown hts hK hN hL hP hS (cX5_exchangeUnlessLonger_ l bs D y hcb n v53 v84 I J r93 er93) ok_X5_exchangeUnlessLonger ov_X5_exchangeUnlessLonger ml_34 ⟨Nat.le_of_ble_eq_true rfl, Nat.le_of_ble_eq_true rfl⟩ rfl hcb kd_22 hl.1 rfl rfl (Nat.le_of_ble_eq_true rfl) ⟨Nat.zero_le _, Nat.zero_le _⟩ dX5_tryExchanges_93 (fun H locs hP hS => ?_)
    refine lv_if_eq (tgt := 102) hx hb dX5_tryExchanges_96 (by decide) (fun c96 => ?_) (fun c96 => ?_)
    · replace h := if_t c96 h
      exact wX5_tryExchanges_102 bs D y n k18_ r Gc hk18_ x1 x5 v65 x8 r93.2.1 r93.2.2 _ _ _ hP hS (lv_sub hl [3, 4, 5, 6, 1, 7] rfl) h
    · replace h := if_f c96 h
      refine lv_iinc (v := (x5 + (1 : Int32))) (lv' := [(5, .int (x5 + (1 : Int32))), (10, .int v84), (6, .long v65), (9, .int v53), (0, .ref (bs + 22)), (1, .int x1), (4, .ref (bs + 16)), (8, .int x8)]) hx hb dX5_tryExchanges_99 hl (k := 6) rfl rfl (by decide) rfl (fun ls hl => ?_)
      exact wX5_tryExchanges_102 bs D y n k18_ r Gc hk18_ x1 (x5 + (1 : Int32)) v65 x8 r93.2.1 r93.2.2 _ _ _ hP hS (lv_sub hl [4, 5, 6, 0, 2, 7] rfl) h
theorem vX5_tryExchanges_18 {p : Program} {l : Launch} {e : Env} {s : State} {m : MethodId} {args : Array Value} {below : List Frame} {meth : Method} {c : Code} (bs : Nat) (D : va_G) (y : Y3) (n : Nat) (r : Int32 × M2) (Gc : Gx p s m args meth c cX5_tryExchanges 11 RX5 bs D y (some .int) 44)  : ∀ (q : Nat) (x1 : Int32) (x5 : Int32) (x6 : Int64) (x8 : Int32) (I : MI) (J : MJ) (H : Heap) (locs : List Loc) (ls : Array Slot), va_P D vwCl (wl bs y I J) H → va_S (FA bs) s.heap H locs → lv_has ls 11 [(0, .ref (bs + 22)), (1, .int x1), (4, .ref (bs + 16)), (5, .int x5), (6, .long x6), (8, .int x8)] → lX5_tryExchanges_18 n  q x1 x5 x6 x8 I J = some r → W p l e (rmm 4 101) s m args below meth c H locs 0 0 (QI below args s bs D y r) (F0 m 18 ls []) := by
  intro q
  induction q with
  | zero =>
    intro x1 x5 x6 x8 I J H locs ls hP hS hl h
    have h : (none : Option (Int32 × M2)) = some r := h
    cases h
  | succ q ih =>
    intro x1 x5 x6 x8 I J H locs ls hP hS hl h
    have h : fX5_tryExchanges_18 n  (lX5_tryExchanges_18 n  q) x1 x5 x6 x8 I J = some r := h
    exact wX5_tryExchanges_18 bs D y n  (lX5_tryExchanges_18 n  q) r Gc  ih x1 x5 x6 x8 I J H locs ls hP hS hl h
set_option maxHeartbeats 4000000 in
set_option maxRecDepth 100000 in
theorem cX5_tryExchanges_ (l : Launch) (bs : Nat) (D : va_G) (y : Y3) (hcb : 44 ≤ y.2.2.2) (n : Nat) (x1 : Int32) (x2 : Int64) (I : MI) (J : MJ) (r : Int32 × M2) (h : fX5_tryExchanges n x1 x2 I J = some r) : Met l yX5_tryExchanges (.code yX5_tryExchanges cX5_tryExchanges 11 (some .int) :: gtb) (rmm 4 101) (va_Pc [.ref (bs + 22), .int x1, .long x2, .ref (bs + 16)] (HB bs D y I J)) (QcI bs D y r) 0 0 (FA bs) := by
  refine Met.ofW (cc := cX5_tryExchanges) (maxL := 11) (ret := (some .int)) (by decide) rfl ?_
  intro p e s m args below meth c s₁ B hml hv
  obtain ⟨rfl, hP, hK, hN, hL⟩ := hv
  have hx := B.exec
  have hb := B.bytes
  have hr := B.returns
  have hts0 := atoms_spec (ws := .code yX5_tryExchanges cX5_tryExchanges 11 (some .int) :: gtb) B.pre
  have hts : ∀ w ∈ gtb, w.before [.ref (bs + 22), .int x1, .long x2, .ref (bs + 16)].toArray s = true := fun w hw => hts0 w (List.mem_cons_of_mem _ hw)
  have hown : s.vm.findClass RX5 = some m.cls := findClass_of_methodNamed B.named
  have hlocks := B.notSynchronized
  have hS : va_S (FA bs) s.heap s.heap [] := va_S.rf
  have Gc : Gx p s m [.ref (bs + 22), .int x1, .long x2, .ref (bs + 16)].toArray meth c cX5_tryExchanges 11 RX5 bs D y (some .int) 44 := ⟨hx, hb, hml, hown, hts, hK, hN, hL, hr, hlocks, hcb⟩
  have hl := lv_entry [.ref (bs + 22), .int x1, .long x2, .ref (bs + 16)] (n := 11) (Nat.le_of_ble_eq_true rfl)
  rw [lg_entry_eq]
  generalize (lg_sl [.ref (bs + 22), .int x1, .long x2, .ref (bs + 16)] ++ List.replicate (11 - (lg_sl [.ref (bs + 22), .int x1, .long x2, .ref (bs + 16)]).length) Slot.unset).toArray = ls at hl ⊢
  have hl : lv_has ls 11 [(0, .ref (bs + 22)), (1, .int x1), (2, .long x2), (4, .ref (bs + 16))] := hl
  change W p l e (rmm 4 101) s m [.ref (bs + 22), .int x1, .long x2, .ref (bs + 16)].toArray below meth c s.heap [] 0 0 (QI below [.ref (bs + 22), .int x1, .long x2, .ref (bs + 16)].toArray s bs D y r) (F0 m 0 ls [])
  unfold fX5_tryExchanges at h
  refine lv_aload_n hx hb dX5_tryExchanges_0 rfl (lv_at hl 0 rfl) ?_
  refine g_I (C := RX5) (T := TX5) (N := 7) (ci := 5) 22 1 hx hb hts hown hK hP in_X5 rfl hcb okF_22_1 fl_49 dX5_tryExchanges_1 ?_
  refine lv_if_gt (tgt := 9) hx hb dX5_tryExchanges_4 (by decide) (fun c4 => ?_) (fun c4 => ?_)
  · replace h := if_t c4 h
    refine lv_iconst (v := (0 : Int32)) hx hb dX5_tryExchanges_9 (by decide) ?_
    refine lv_istore (lv' := [(5, .int (0 : Int32)), (0, .ref (bs + 22)), (1, .int x1), (2, .long x2), (4, .ref (bs + 16))]) hx hb dX5_tryExchanges_10 hl (by decide) rfl (fun ls hl => ?_)
    refine lv_lload_n hx hb dX5_tryExchanges_12 rfl (lv_at hl 3 rfl) ?_
    refine lv_lstore (lv' := [(6, .long x2), (5, .int (0 : Int32)), (0, .ref (bs + 22)), (1, .int x1), (2, .long x2), (4, .ref (bs + 16))]) hx hb dX5_tryExchanges_13 hl (by decide) rfl (fun ls hl => ?_)
    refine lv_iconst (v := (0 : Int32)) hx hb dX5_tryExchanges_15 (by decide) ?_
    refine lv_istore (lv' := [(8, .int (0 : Int32)), (6, .long x2), (5, .int (0 : Int32)), (0, .ref (bs + 22)), (1, .int x1), (2, .long x2), (4, .ref (bs + 16))]) hx hb dX5_tryExchanges_16 hl (by decide) rfl (fun ls hl => ?_)
    exact vX5_tryExchanges_18 bs D y n  r Gc  n x1 (0 : Int32) x2 (0 : Int32) I J _ _ _ hP hS (lv_sub hl [3, 4, 6, 2, 1, 0] rfl) h
  · replace h := if_f c4 h
    refine lv_iconst (v := (0 : Int32)) hx hb dX5_tryExchanges_7 (by decide) ?_
    exact r_I hx hb hr hlocks hP hK hN hL hS h dX5_tryExchanges_8
theorem dX6_begin_0 : decode cX6_begin 0 = .ok (.aload_n 0, 1) := by decide +kernel
theorem dX6_begin_1 : decode cX6_begin 1 = .ok (.iconst 0, 1) := by decide +kernel
theorem dX6_begin_2 : decode cX6_begin 2 = .ok (.putfield 18, 3) := by decide +kernel
theorem dX6_begin_5 : decode cX6_begin 5 = .ok (.aload_n 0, 1) := by decide +kernel
theorem dX6_begin_6 : decode cX6_begin 6 = .ok (.iconst 0, 1) := by decide +kernel
theorem dX6_begin_7 : decode cX6_begin 7 = .ok (.putfield 22, 3) := by decide +kernel
theorem dX6_begin_10 : decode cX6_begin 10 = .ok (.aload_n 0, 1) := by decide +kernel
theorem dX6_begin_11 : decode cX6_begin 11 = .ok (.iconst 0, 1) := by decide +kernel
theorem dX6_begin_12 : decode cX6_begin 12 = .ok (.putfield 25, 3) := by decide +kernel
theorem dX6_begin_15 : decode cX6_begin 15 = .ok (.aload_n 0, 1) := by decide +kernel
theorem dX6_begin_16 : decode cX6_begin 16 = .ok (.iconst (-1), 1) := by decide +kernel
theorem dX6_begin_17 : decode cX6_begin 17 = .ok (.putfield 28, 3) := by decide +kernel
theorem dX6_begin_20 : decode cX6_begin 20 = .ok (.iconst 0, 1) := by decide +kernel
theorem dX6_begin_21 : decode cX6_begin 21 = .ok (.istore_n 2, 1) := by decide +kernel
theorem dX6_begin_22 : decode cX6_begin 22 = .ok (.iload_n 2, 1) := by decide +kernel
theorem dX6_begin_23 : decode cX6_begin 23 = .ok (.bipush 32, 2) := by decide +kernel
theorem dX6_begin_25 : decode cX6_begin 25 = .ok (.if_icmp .ge 35, 3) := by decide +kernel
theorem dX6_begin_28 : decode cX6_begin 28 = .ok (.aload_n 0, 1) := by decide +kernel
theorem dX6_begin_29 : decode cX6_begin 29 = .ok (.getfield 9, 3) := by decide +kernel
theorem dX6_begin_32 : decode cX6_begin 32 = .ok (.iload_n 2, 1) := by decide +kernel
theorem dX6_begin_33 : decode cX6_begin 33 = .ok (.aload_n 1, 1) := by decide +kernel
theorem dX6_begin_34 : decode cX6_begin 34 = .ok (.getfield 31, 3) := by decide +kernel
theorem dX6_begin_37 : decode cX6_begin 37 = .ok (.iload_n 2, 1) := by decide +kernel
theorem dX6_begin_38 : decode cX6_begin 38 = .ok (.iushr, 1) := by decide +kernel
theorem dX6_begin_39 : decode cX6_begin 39 = .ok (.iconst 1, 1) := by decide +kernel
theorem dX6_begin_40 : decode cX6_begin 40 = .ok (.iand, 1) := by decide +kernel
theorem dX6_begin_41 : decode cX6_begin 41 = .ok (.iastore, 1) := by decide +kernel
theorem dX6_begin_42 : decode cX6_begin 42 = .ok (.aload_n 0, 1) := by decide +kernel
theorem dX6_begin_43 : decode cX6_begin 43 = .ok (.getfield 15, 3) := by decide +kernel
theorem dX6_begin_46 : decode cX6_begin 46 = .ok (.iload_n 2, 1) := by decide +kernel
theorem dX6_begin_47 : decode cX6_begin 47 = .ok (.aload_n 0, 1) := by decide +kernel
theorem dX6_begin_48 : decode cX6_begin 48 = .ok (.getfield 9, 3) := by decide +kernel
theorem dX6_begin_51 : decode cX6_begin 51 = .ok (.iload_n 2, 1) := by decide +kernel
theorem dX6_begin_52 : decode cX6_begin 52 = .ok (.iaload, 1) := by decide +kernel
theorem dX6_begin_53 : decode cX6_begin 53 = .ok (.iastore, 1) := by decide +kernel
theorem dX6_begin_54 : decode cX6_begin 54 = .ok (.iinc 2 1, 3) := by decide +kernel
theorem dX6_begin_57 : decode cX6_begin 57 = .ok (.goto (-35), 3) := by decide +kernel
theorem dX6_begin_60 : decode cX6_begin 60 = .ok (.return_, 1) := by decide +kernel
set_option maxHeartbeats 4000000 in
set_option maxRecDepth 100000 in
theorem wX6_begin_22 {p : Program} {l : Launch} {e : Env} {s : State} {m : MethodId} {args : Array Value} {below : List Frame} {meth : Method} {c : Code} (bs : Nat) (D : va_G) (y : Y3) (n : Nat) (k22_ : Int32 → MI → MJ → Option (M2)) (r : M2) (Gc : Gx p s m args meth c cX6_begin 3 RX6 bs D y none 44) (hk22_ : ∀ (x2 : Int32) (I : MI) (J : MJ) (H : Heap) (locs : List Loc) (ls : Array Slot), va_P D vwCl (wl bs y I J) H → va_S (FA bs) s.heap H locs → lv_has ls 3 [(0, .ref (bs + 38)), (1, .ref (bs + 1)), (2, .int x2)] → k22_ x2 I J = some r → W p l e (rmm 0 0) s m args below meth c H locs 0 0 (QV below args s bs D y r) (F0 m 22 ls [])) (x2 : Int32) (I : MI) (J : MJ) (H : Heap) (locs : List Loc) (ls : Array Slot) (hP : va_P D vwCl (wl bs y I J) H) (hS : va_S (FA bs) s.heap H locs) (hl : lv_has ls 3 [(0, .ref (bs + 38)), (1, .ref (bs + 1)), (2, .int x2)]) (h : fX6_begin_22 n k22_ x2 I J = some r) : W p l e (rmm 0 0) s m args below meth c H locs 0 0 (QV below args s bs D y r) (F0 m 22 ls []) := by
  obtain ⟨hx, hb, hml, hown, hts, hK, hN, hL, hr, hlocks, hcb⟩ := id Gc
  unfold fX6_begin_22 at h
  refine lv_iload_n hx hb dX6_begin_22 rfl (lv_at hl 2 rfl) ?_
  refine lv_bipush (v := (32 : Int32)) hx hb dX6_begin_23 (by decide) ?_
  refine lv_icmp_ge (tgt := 60) hx hb dX6_begin_25 (by decide) (fun c25 => ?_) (fun c25 => ?_)
  · replace h := if_t c25 h
    exact r_V hx hb hr hlocks hP hK hN hL hS h dX6_begin_60
  · replace h := if_f c25 h
    refine lv_aload_n hx hb dX6_begin_28 rfl (lv_at hl 0 rfl) ?_
    refine g_R (C := RX6) (T := TX6) (N := 6) (ci := 6) 38 4 39 hx hb hts hown hK hP in_X6 rfl hcb okF_38_4 rfc_38_4 fl_58 dX6_begin_29 ?_
    refine lv_iload_n hx hb dX6_begin_32 rfl (lv_at hl 2 rfl) ?_
    refine lv_aload_n hx hb dX6_begin_33 rfl (lv_at hl 1 rfl) ?_
    refine g_I (C := RX3) (T := TX3) (N := 11) (ci := 3) 1 10 hx hb hts hown hK hP in_X3 rfl hcb okF_1_10 fl_59 dX6_begin_34 ?_
    refine lv_iload_n hx hb dX6_begin_37 rfl (lv_at hl 2 rfl) ?_
    refine lv_iushr (v := (ushrI (I 1 10) x2)) hx hb dX6_begin_38 rfl ?_
    refine lv_iconst (v := (1 : Int32)) hx hb dX6_begin_39 (by decide) ?_
    refine lv_iand hx hb dX6_begin_40 ?_
    obtain ⟨hi41, h⟩ := if_s1 h
    obtain ⟨I41, eI41, h⟩ := lt_s1 h
    refine t_I 39 eI41 hx hb hK hP hS hcb aln_39 hi41 dX6_begin_41 (fun H locs hP hS => ?_)
    refine lv_aload_n hx hb dX6_begin_42 rfl (lv_at hl 0 rfl) ?_
    refine g_R (C := RX6) (T := TX6) (N := 6) (ci := 6) 38 5 40 hx hb hts hown hK hP in_X6 rfl hcb okF_38_5 rfc_38_5 fl_60 dX6_begin_43 ?_
    refine lv_iload_n hx hb dX6_begin_46 rfl (lv_at hl 2 rfl) ?_
    refine lv_aload_n hx hb dX6_begin_47 rfl (lv_at hl 0 rfl) ?_
    refine g_R (C := RX6) (T := TX6) (N := 6) (ci := 6) 38 4 39 hx hb hts hown hK hP in_X6 rfl hcb okF_38_4 rfc_38_4 fl_58 dX6_begin_48 ?_
    refine lv_iload_n hx hb dX6_begin_51 rfl (lv_at hl 2 rfl) ?_
    obtain ⟨hi52, h⟩ := if_s1 h
    refine a_I 39 hx hb hK hP hcb aln_39 hi52 dX6_begin_52 ?_
    obtain ⟨hi53, h⟩ := if_s1 h
    obtain ⟨I53, eI53, h⟩ := lt_s1 h
    refine t_I 40 eI53 hx hb hK hP hS hcb aln_40 hi53 dX6_begin_53 (fun H locs hP hS => ?_)
    refine lv_iinc (v := (x2 + (1 : Int32))) (lv' := [(2, .int (x2 + (1 : Int32))), (0, .ref (bs + 38)), (1, .ref (bs + 1))]) hx hb dX6_begin_54 hl (k := 2) rfl rfl (by decide) rfl (fun ls hl => ?_)
    refine lv_goto (tgt := 22) hx hb dX6_begin_57 (by decide) ?_
    exact hk22_ (x2 + (1 : Int32)) I53 J _ _ _ hP hS (lv_sub hl [1, 2, 0] rfl) h
theorem vX6_begin_22 {p : Program} {l : Launch} {e : Env} {s : State} {m : MethodId} {args : Array Value} {below : List Frame} {meth : Method} {c : Code} (bs : Nat) (D : va_G) (y : Y3) (n : Nat) (r : M2) (Gc : Gx p s m args meth c cX6_begin 3 RX6 bs D y none 44)  : ∀ (q : Nat) (x2 : Int32) (I : MI) (J : MJ) (H : Heap) (locs : List Loc) (ls : Array Slot), va_P D vwCl (wl bs y I J) H → va_S (FA bs) s.heap H locs → lv_has ls 3 [(0, .ref (bs + 38)), (1, .ref (bs + 1)), (2, .int x2)] → lX6_begin_22 n  q x2 I J = some r → W p l e (rmm 0 0) s m args below meth c H locs 0 0 (QV below args s bs D y r) (F0 m 22 ls []) := by
  intro q
  induction q with
  | zero =>
    intro x2 I J H locs ls hP hS hl h
    have h : (none : Option (M2)) = some r := h
    cases h
  | succ q ih =>
    intro x2 I J H locs ls hP hS hl h
    have h : fX6_begin_22 n  (lX6_begin_22 n  q) x2 I J = some r := h
    exact wX6_begin_22 bs D y n  (lX6_begin_22 n  q) r Gc  ih x2 I J H locs ls hP hS hl h
set_option maxHeartbeats 4000000 in
set_option maxRecDepth 100000 in
theorem cX6_begin_ (l : Launch) (bs : Nat) (D : va_G) (y : Y3) (hcb : 44 ≤ y.2.2.2) (n : Nat) (I : MI) (J : MJ) (r : M2) (h : fX6_begin n  I J = some r) : Met l yX6_begin (.code yX6_begin cX6_begin 3 none :: gtb) (rmm 0 0) (va_Pc [.ref (bs + 38), .ref (bs + 1)] (HB bs D y I J)) (QcV bs D y r) 0 0 (FA bs) := by
  refine Met.ofW (cc := cX6_begin) (maxL := 3) (ret := none) (by decide) rfl ?_
  intro p e s m args below meth c s₁ B hml hv
  obtain ⟨rfl, hP, hK, hN, hL⟩ := hv
  have hx := B.exec
  have hb := B.bytes
  have hr := B.returns
  have hts0 := atoms_spec (ws := .code yX6_begin cX6_begin 3 none :: gtb) B.pre
  have hts : ∀ w ∈ gtb, w.before [.ref (bs + 38), .ref (bs + 1)].toArray s = true := fun w hw => hts0 w (List.mem_cons_of_mem _ hw)
  have hown : s.vm.findClass RX6 = some m.cls := findClass_of_methodNamed B.named
  have hlocks := B.notSynchronized
  have hS : va_S (FA bs) s.heap s.heap [] := va_S.rf
  have Gc : Gx p s m [.ref (bs + 38), .ref (bs + 1)].toArray meth c cX6_begin 3 RX6 bs D y none 44 := ⟨hx, hb, hml, hown, hts, hK, hN, hL, hr, hlocks, hcb⟩
  have hl := lv_entry [.ref (bs + 38), .ref (bs + 1)] (n := 3) (Nat.le_of_ble_eq_true rfl)
  rw [lg_entry_eq]
  generalize (lg_sl [.ref (bs + 38), .ref (bs + 1)] ++ List.replicate (3 - (lg_sl [.ref (bs + 38), .ref (bs + 1)]).length) Slot.unset).toArray = ls at hl ⊢
  have hl : lv_has ls 3 [(0, .ref (bs + 38)), (1, .ref (bs + 1))] := hl
  change W p l e (rmm 0 0) s m [.ref (bs + 38), .ref (bs + 1)].toArray below meth c s.heap [] 0 0 (QV below [.ref (bs + 38), .ref (bs + 1)].toArray s bs D y r) (F0 m 0 ls [])
  unfold fX6_begin at h
  refine lv_aload_n hx hb dX6_begin_0 rfl (lv_at hl 0 rfl) ?_
  refine lv_iconst (v := (0 : Int32)) hx hb dX6_begin_1 (by decide) ?_
  obtain ⟨I2, eI2, h⟩ := lt_s1 h
  refine s_I (C := RX6) (T := TX6) (N := 6) (ci := 6) (ty := .int) 38 0 eI2 tyX6 hx hb hts hown hK hP hS in_X6 tyX6_ok nmX6 rfl hcb okF_38_0 fl_61 rfl (by decide +kernel) rfl rfl dX6_begin_2 (fun H locs hP hS => ?_)
  refine lv_aload_n hx hb dX6_begin_5 rfl (lv_at hl 0 rfl) ?_
  refine lv_iconst (v := (0 : Int32)) hx hb dX6_begin_6 (by decide) ?_
  obtain ⟨I7, eI7, h⟩ := lt_s1 h
  refine s_I (C := RX6) (T := TX6) (N := 6) (ci := 6) (ty := .int) 38 1 eI7 tyX6 hx hb hts hown hK hP hS in_X6 tyX6_ok nmX6 rfl hcb okF_38_1 fl_62 rfl (by decide +kernel) rfl rfl dX6_begin_7 (fun H locs hP hS => ?_)
  refine lv_aload_n hx hb dX6_begin_10 rfl (lv_at hl 0 rfl) ?_
  refine lv_iconst (v := (0 : Int32)) hx hb dX6_begin_11 (by decide) ?_
  obtain ⟨I12, eI12, h⟩ := lt_s1 h
  refine s_I (C := RX6) (T := TX6) (N := 6) (ci := 6) (ty := .int) 38 2 eI12 tyX6 hx hb hts hown hK hP hS in_X6 tyX6_ok nmX6 rfl hcb okF_38_2 fl_63 rfl (by decide +kernel) rfl rfl dX6_begin_12 (fun H locs hP hS => ?_)
  refine lv_aload_n hx hb dX6_begin_15 rfl (lv_at hl 0 rfl) ?_
  refine lv_iconst (v := (-1 : Int32)) hx hb dX6_begin_16 (by decide) ?_
  obtain ⟨I17, eI17, h⟩ := lt_s1 h
  refine s_I (C := RX6) (T := TX6) (N := 6) (ci := 6) (ty := .int) 38 3 eI17 tyX6 hx hb hts hown hK hP hS in_X6 tyX6_ok nmX6 rfl hcb okF_38_3 fl_64 rfl (by decide +kernel) rfl rfl dX6_begin_17 (fun H locs hP hS => ?_)
  refine lv_iconst (v := (0 : Int32)) hx hb dX6_begin_20 (by decide) ?_
  refine lv_istore_n (lv' := [(2, .int (0 : Int32)), (0, .ref (bs + 38)), (1, .ref (bs + 1))]) hx hb dX6_begin_21 rfl hl (by decide) rfl (fun ls hl => ?_)
  exact vX6_begin_22 bs D y n  r Gc  n (0 : Int32) I17 J _ _ _ hP hS (lv_sub hl [1, 2, 0] rfl) h
theorem dX6_takeInputs_0 : decode cX6_takeInputs 0 = .ok (.iload_n 2, 1) := by decide +kernel
theorem dX6_takeInputs_1 : decode cX6_takeInputs 1 = .ok (.istore_n 3, 1) := by decide +kernel
theorem dX6_takeInputs_2 : decode cX6_takeInputs 2 = .ok (.iconst 0, 1) := by decide +kernel
theorem dX6_takeInputs_3 : decode cX6_takeInputs 3 = .ok (.istore 4, 2) := by decide +kernel
theorem dX6_takeInputs_5 : decode cX6_takeInputs 5 = .ok (.iload 4, 2) := by decide +kernel
theorem dX6_takeInputs_7 : decode cX6_takeInputs 7 = .ok (.aload_n 1, 1) := by decide +kernel
theorem dX6_takeInputs_8 : decode cX6_takeInputs 8 = .ok (.getfield 40, 3) := by decide +kernel
theorem dX6_takeInputs_11 : decode cX6_takeInputs 11 = .ok (.if_icmp .ge 49, 3) := by decide +kernel
theorem dX6_takeInputs_14 : decode cX6_takeInputs 14 = .ok (.aload_n 1, 1) := by decide +kernel
theorem dX6_takeInputs_15 : decode cX6_takeInputs 15 = .ok (.getfield 43, 3) := by decide +kernel
theorem dX6_takeInputs_18 : decode cX6_takeInputs 18 = .ok (.iload 4, 2) := by decide +kernel
theorem dX6_takeInputs_20 : decode cX6_takeInputs 20 = .ok (.iaload, 1) := by decide +kernel
theorem dX6_takeInputs_21 : decode cX6_takeInputs 21 = .ok (.ifCond .ne 17, 3) := by decide +kernel
theorem dX6_takeInputs_24 : decode cX6_takeInputs 24 = .ok (.aload_n 0, 1) := by decide +kernel
theorem dX6_takeInputs_25 : decode cX6_takeInputs 25 = .ok (.iload 4, 2) := by decide +kernel
theorem dX6_takeInputs_27 : decode cX6_takeInputs 27 = .ok (.iload_n 3, 1) := by decide +kernel
theorem dX6_takeInputs_28 : decode cX6_takeInputs 28 = .ok (.iconst 1, 1) := by decide +kernel
theorem dX6_takeInputs_29 : decode cX6_takeInputs 29 = .ok (.iand, 1) := by decide +kernel
theorem dX6_takeInputs_30 : decode cX6_takeInputs 30 = .ok (.iastore, 1) := by decide +kernel
theorem dX6_takeInputs_31 : decode cX6_takeInputs 31 = .ok (.iload_n 3, 1) := by decide +kernel
theorem dX6_takeInputs_32 : decode cX6_takeInputs 32 = .ok (.iconst 1, 1) := by decide +kernel
theorem dX6_takeInputs_33 : decode cX6_takeInputs 33 = .ok (.iushr, 1) := by decide +kernel
theorem dX6_takeInputs_34 : decode cX6_takeInputs 34 = .ok (.istore_n 3, 1) := by decide +kernel
theorem dX6_takeInputs_35 : decode cX6_takeInputs 35 = .ok (.goto 19, 3) := by decide +kernel
theorem dX6_takeInputs_38 : decode cX6_takeInputs 38 = .ok (.aload_n 1, 1) := by decide +kernel
theorem dX6_takeInputs_39 : decode cX6_takeInputs 39 = .ok (.getfield 43, 3) := by decide +kernel
theorem dX6_takeInputs_42 : decode cX6_takeInputs 42 = .ok (.iload 4, 2) := by decide +kernel
theorem dX6_takeInputs_44 : decode cX6_takeInputs 44 = .ok (.iaload, 1) := by decide +kernel
theorem dX6_takeInputs_45 : decode cX6_takeInputs 45 = .ok (.iconst 2, 1) := by decide +kernel
theorem dX6_takeInputs_46 : decode cX6_takeInputs 46 = .ok (.if_icmp .ne 8, 3) := by decide +kernel
theorem dX6_takeInputs_49 : decode cX6_takeInputs 49 = .ok (.aload_n 0, 1) := by decide +kernel
theorem dX6_takeInputs_50 : decode cX6_takeInputs 50 = .ok (.iload 4, 2) := by decide +kernel
theorem dX6_takeInputs_52 : decode cX6_takeInputs 52 = .ok (.iconst 0, 1) := by decide +kernel
theorem dX6_takeInputs_53 : decode cX6_takeInputs 53 = .ok (.iastore, 1) := by decide +kernel
theorem dX6_takeInputs_54 : decode cX6_takeInputs 54 = .ok (.iinc 4 1, 3) := by decide +kernel
theorem dX6_takeInputs_57 : decode cX6_takeInputs 57 = .ok (.goto (-52), 3) := by decide +kernel
theorem dX6_takeInputs_60 : decode cX6_takeInputs 60 = .ok (.return_, 1) := by decide +kernel
set_option maxHeartbeats 4000000 in
set_option maxRecDepth 100000 in
theorem wX6_takeInputs_54 {p : Program} {l : Launch} {e : Env} {s : State} {m : MethodId} {args : Array Value} {below : List Frame} {meth : Method} {c : Code} (bs : Nat) (D : va_G) (y : Y3) (n : Nat) (k5_ : Nat → Int32 → Int32 → MI → MJ → Option (M2)) (r : M2) (Gc : Gx p s m args meth c cX6_takeInputs 5 RX6 bs D y none 44) (hk5_ : ∀ (k0 : Nat) (x3 : Int32) (x4 : Int32) (I : MI) (J : MJ) (H : Heap) (locs : List Loc) (ls : Array Slot), va_P D vwCl (wl bs y I J) H → va_S (FA bs) s.heap H locs → lv_has ls 5 [(0, .ref (bs + k0)), (1, .ref (bs + 1)), (3, .int x3), (4, .int x4)] → k5_ k0 x3 x4 I J = some r → W p l e (rmm 0 0) s m args below meth c H locs 0 0 (QV below args s bs D y r) (F0 m 5 ls [])) (k0 : Nat) (x3 : Int32) (x4 : Int32) (I : MI) (J : MJ) (H : Heap) (locs : List Loc) (ls : Array Slot) (hP : va_P D vwCl (wl bs y I J) H) (hS : va_S (FA bs) s.heap H locs) (hl : lv_has ls 5 [(0, .ref (bs + k0)), (1, .ref (bs + 1)), (3, .int x3), (4, .int x4)]) (h : fX6_takeInputs_54 n k5_ k0 x3 x4 I J = some r) : W p l e (rmm 0 0) s m args below meth c H locs 0 0 (QV below args s bs D y r) (F0 m 54 ls []) := by
  obtain ⟨hx, hb, hml, hown, hts, hK, hN, hL, hr, hlocks, hcb⟩ := id Gc
  unfold fX6_takeInputs_54 at h
  refine lv_iinc (v := (x4 + (1 : Int32))) (lv' := [(4, .int (x4 + (1 : Int32))), (0, .ref (bs + k0)), (1, .ref (bs + 1)), (3, .int x3)]) hx hb dX6_takeInputs_54 hl (k := 3) rfl rfl (by decide) rfl (fun ls hl => ?_)
  refine lv_goto (tgt := 5) hx hb dX6_takeInputs_57 (by decide) ?_
  exact hk5_ k0 x3 (x4 + (1 : Int32)) I J _ _ _ hP hS (lv_sub hl [1, 2, 3, 0] rfl) h
set_option maxHeartbeats 4000000 in
set_option maxRecDepth 100000 in
theorem wX6_takeInputs_5 {p : Program} {l : Launch} {e : Env} {s : State} {m : MethodId} {args : Array Value} {below : List Frame} {meth : Method} {c : Code} (bs : Nat) (D : va_G) (y : Y3) (n : Nat) (k5_ : Nat → Int32 → Int32 → MI → MJ → Option (M2)) (r : M2) (Gc : Gx p s m args meth c cX6_takeInputs 5 RX6 bs D y none 44) (hk5_ : ∀ (k0 : Nat) (x3 : Int32) (x4 : Int32) (I : MI) (J : MJ) (H : Heap) (locs : List Loc) (ls : Array Slot), va_P D vwCl (wl bs y I J) H → va_S (FA bs) s.heap H locs → lv_has ls 5 [(0, .ref (bs + k0)), (1, .ref (bs + 1)), (3, .int x3), (4, .int x4)] → k5_ k0 x3 x4 I J = some r → W p l e (rmm 0 0) s m args below meth c H locs 0 0 (QV below args s bs D y r) (F0 m 5 ls [])) (k0 : Nat) (x3 : Int32) (x4 : Int32) (I : MI) (J : MJ) (H : Heap) (locs : List Loc) (ls : Array Slot) (hP : va_P D vwCl (wl bs y I J) H) (hS : va_S (FA bs) s.heap H locs) (hl : lv_has ls 5 [(0, .ref (bs + k0)), (1, .ref (bs + 1)), (3, .int x3), (4, .int x4)]) (h : fX6_takeInputs_5 n k5_ k0 x3 x4 I J = some r) : W p l e (rmm 0 0) s m args below meth c H locs 0 0 (QV below args s bs D y r) (F0 m 5 ls []) := by
  obtain ⟨hx, hb, hml, hown, hts, hK, hN, hL, hr, hlocks, hcb⟩ := id Gc
  unfold fX6_takeInputs_5 at h
  refine lv_iload hx hb dX6_takeInputs_5 (lv_at hl 3 rfl) ?_
  refine lv_aload_n hx hb dX6_takeInputs_7 rfl (lv_at hl 1 rfl) ?_
  refine g_I (C := RX3) (T := TX3) (N := 11) (ci := 3) 1 5 hx hb hts hown hK hP in_X3 rfl hcb okF_1_5 fl_65 dX6_takeInputs_8 ?_
  refine lv_icmp_ge (tgt := 60) hx hb dX6_takeInputs_11 (by decide) (fun c11 => ?_) (fun c11 => ?_)
  · replace h := if_t c11 h
    exact r_V hx hb hr hlocks hP hK hN hL hS h dX6_takeInputs_60
  · replace h := if_f c11 h
    refine lv_aload_n hx hb dX6_takeInputs_14 rfl (lv_at hl 1 rfl) ?_
    refine g_R (C := RX3) (T := TX3) (N := 11) (ci := 3) 1 0 2 hx hb hts hown hK hP in_X3 rfl hcb okF_1_0 rfc_1_0 fl_66 dX6_takeInputs_15 ?_
    refine lv_iload hx hb dX6_takeInputs_18 (lv_at hl 3 rfl) ?_
    obtain ⟨hi20, h⟩ := if_s1 h
    refine a_I 2 hx hb hK hP hcb aln_2 hi20 dX6_takeInputs_20 ?_
    refine lv_if_ne (tgt := 38) hx hb dX6_takeInputs_21 (by decide) (fun c21 => ?_) (fun c21 => ?_)
    · replace h := if_f c21 h
      refine lv_aload_n hx hb dX6_takeInputs_38 rfl (lv_at hl 1 rfl) ?_
      refine g_R (C := RX3) (T := TX3) (N := 11) (ci := 3) 1 0 2 hx hb hts hown hK hP in_X3 rfl hcb okF_1_0 rfc_1_0 fl_66 dX6_takeInputs_39 ?_
      refine lv_iload hx hb dX6_takeInputs_42 (lv_at hl 3 rfl) ?_
      obtain ⟨hi44, h⟩ := if_s1 h
      refine a_I 2 hx hb hK hP hcb aln_2 hi44 dX6_takeInputs_44 ?_
      refine lv_iconst (v := (2 : Int32)) hx hb dX6_takeInputs_45 (by decide) ?_
      refine lv_icmp_ne (tgt := 54) hx hb dX6_takeInputs_46 (by decide) (fun c46 => ?_) (fun c46 => ?_)
      · replace h := if_f c46 h
        exact wX6_takeInputs_54 bs D y n k5_ r Gc hk5_ k0 x3 x4 I J _ _ _ hP hS (lv_sub hl [0, 1, 2, 3] rfl) h
      · replace h := if_t c46 h
        refine lv_aload_n hx hb dX6_takeInputs_49 rfl (lv_at hl 0 rfl) ?_
        refine lv_iload hx hb dX6_takeInputs_50 (lv_at hl 3 rfl) ?_
        refine lv_iconst (v := (0 : Int32)) hx hb dX6_takeInputs_52 (by decide) ?_
        obtain ⟨hi53, h⟩ := if_s1 h
        obtain ⟨I53, eI53, h⟩ := lt_s1 h
        refine t_I k0 eI53 hx hb hK hP hS hcb rfl hi53 dX6_takeInputs_53 (fun H locs hP hS => ?_)
        exact wX6_takeInputs_54 bs D y n k5_ r Gc hk5_ k0 x3 x4 I53 J _ _ _ hP hS (lv_sub hl [0, 1, 2, 3] rfl) h
    · replace h := if_t c21 h
      refine lv_aload_n hx hb dX6_takeInputs_24 rfl (lv_at hl 0 rfl) ?_
      refine lv_iload hx hb dX6_takeInputs_25 (lv_at hl 3 rfl) ?_
      refine lv_iload_n hx hb dX6_takeInputs_27 rfl (lv_at hl 2 rfl) ?_
      refine lv_iconst (v := (1 : Int32)) hx hb dX6_takeInputs_28 (by decide) ?_
      refine lv_iand hx hb dX6_takeInputs_29 ?_
      obtain ⟨hi30, h⟩ := if_s1 h
      obtain ⟨I30, eI30, h⟩ := lt_s1 h
      refine t_I k0 eI30 hx hb hK hP hS hcb rfl hi30 dX6_takeInputs_30 (fun H locs hP hS => ?_)
      refine lv_iload_n hx hb dX6_takeInputs_31 rfl (lv_at hl 2 rfl) ?_
      refine lv_iconst (v := (1 : Int32)) hx hb dX6_takeInputs_32 (by decide) ?_
      refine lv_iushr (v := (ushrI x3 (1 : Int32))) hx hb dX6_takeInputs_33 rfl ?_
      obtain ⟨v34, ev34, h⟩ := lt_s1 h
      refine top_i ev34 ?_
      refine lv_istore_n (lv' := [(3, .int v34), (0, .ref (bs + k0)), (1, .ref (bs + 1)), (4, .int x4)]) hx hb dX6_takeInputs_34 rfl hl (by decide) rfl (fun ls hl => ?_)
      refine lv_goto (tgt := 54) hx hb dX6_takeInputs_35 (by decide) ?_
      exact wX6_takeInputs_54 bs D y n k5_ r Gc hk5_ k0 v34 x4 I30 J _ _ _ hP hS (lv_sub hl [1, 2, 0, 3] rfl) h
theorem vX6_takeInputs_5 {p : Program} {l : Launch} {e : Env} {s : State} {m : MethodId} {args : Array Value} {below : List Frame} {meth : Method} {c : Code} (bs : Nat) (D : va_G) (y : Y3) (n : Nat) (r : M2) (Gc : Gx p s m args meth c cX6_takeInputs 5 RX6 bs D y none 44)  : ∀ (q : Nat) (k0 : Nat) (x3 : Int32) (x4 : Int32) (I : MI) (J : MJ) (H : Heap) (locs : List Loc) (ls : Array Slot), va_P D vwCl (wl bs y I J) H → va_S (FA bs) s.heap H locs → lv_has ls 5 [(0, .ref (bs + k0)), (1, .ref (bs + 1)), (3, .int x3), (4, .int x4)] → lX6_takeInputs_5 n  q k0 x3 x4 I J = some r → W p l e (rmm 0 0) s m args below meth c H locs 0 0 (QV below args s bs D y r) (F0 m 5 ls []) := by
  intro q
  induction q with
  | zero =>
    intro k0 x3 x4 I J H locs ls hP hS hl h
    have h : (none : Option (M2)) = some r := h
    cases h
  | succ q ih =>
    intro k0 x3 x4 I J H locs ls hP hS hl h
    have h : fX6_takeInputs_5 n  (lX6_takeInputs_5 n  q) k0 x3 x4 I J = some r := h
    exact wX6_takeInputs_5 bs D y n  (lX6_takeInputs_5 n  q) r Gc  ih k0 x3 x4 I J H locs ls hP hS hl h
set_option maxHeartbeats 4000000 in
set_option maxRecDepth 100000 in
theorem cX6_takeInputs_ (l : Launch) (bs : Nat) (D : va_G) (y : Y3) (hcb : 44 ≤ y.2.2.2) (n : Nat) (k0 : Nat) (x2 : Int32) (I : MI) (J : MJ) (r : M2) (h : fX6_takeInputs n k0 x2 I J = some r) : Met l yX6_takeInputs (.code yX6_takeInputs cX6_takeInputs 5 none :: gtb) (rmm 0 0) (va_Pc [.ref (bs + k0), .ref (bs + 1), .int x2] (HB bs D y I J)) (QcV bs D y r) 0 0 (FA bs) := by
  refine Met.ofW (cc := cX6_takeInputs) (maxL := 5) (ret := none) (by decide) rfl ?_
  intro p e s m args below meth c s₁ B hml hv
  obtain ⟨rfl, hP, hK, hN, hL⟩ := hv
  have hx := B.exec
  have hb := B.bytes
  have hr := B.returns
  have hts0 := atoms_spec (ws := .code yX6_takeInputs cX6_takeInputs 5 none :: gtb) B.pre
  have hts : ∀ w ∈ gtb, w.before [.ref (bs + k0), .ref (bs + 1), .int x2].toArray s = true := fun w hw => hts0 w (List.mem_cons_of_mem _ hw)
  have hown : s.vm.findClass RX6 = some m.cls := findClass_of_methodNamed B.named
  have hlocks := B.notSynchronized
  have hS : va_S (FA bs) s.heap s.heap [] := va_S.rf
  have Gc : Gx p s m [.ref (bs + k0), .ref (bs + 1), .int x2].toArray meth c cX6_takeInputs 5 RX6 bs D y none 44 := ⟨hx, hb, hml, hown, hts, hK, hN, hL, hr, hlocks, hcb⟩
  have hl := lv_entry [.ref (bs + k0), .ref (bs + 1), .int x2] (n := 5) (Nat.le_of_ble_eq_true rfl)
  rw [lg_entry_eq]
  generalize (lg_sl [.ref (bs + k0), .ref (bs + 1), .int x2] ++ List.replicate (5 - (lg_sl [.ref (bs + k0), .ref (bs + 1), .int x2]).length) Slot.unset).toArray = ls at hl ⊢
  have hl : lv_has ls 5 [(0, .ref (bs + k0)), (1, .ref (bs + 1)), (2, .int x2)] := hl
  change W p l e (rmm 0 0) s m [.ref (bs + k0), .ref (bs + 1), .int x2].toArray below meth c s.heap [] 0 0 (QV below [.ref (bs + k0), .ref (bs + 1), .int x2].toArray s bs D y r) (F0 m 0 ls [])
  unfold fX6_takeInputs at h
  refine lv_iload_n hx hb dX6_takeInputs_0 rfl (lv_at hl 2 rfl) ?_
  refine lv_istore_n (lv' := [(3, .int x2), (0, .ref (bs + k0)), (1, .ref (bs + 1)), (2, .int x2)]) hx hb dX6_takeInputs_1 rfl hl (by decide) rfl (fun ls hl => ?_)
  refine lv_iconst (v := (0 : Int32)) hx hb dX6_takeInputs_2 (by decide) ?_
  refine lv_istore (lv' := [(4, .int (0 : Int32)), (3, .int x2), (0, .ref (bs + k0)), (1, .ref (bs + 1)), (2, .int x2)]) hx hb dX6_takeInputs_3 hl (by decide) rfl (fun ls hl => ?_)
  exact vX6_takeInputs_5 bs D y n  r Gc  n k0 x2 (0 : Int32) I J _ _ _ hP hS (lv_sub hl [2, 3, 1, 0] rfl) h
theorem dX6_outsOf_0 : decode cX6_outsOf 0 = .ok (.iconst 0, 1) := by decide +kernel
theorem dX6_outsOf_1 : decode cX6_outsOf 1 = .ok (.istore_n 2, 1) := by decide +kernel
theorem dX6_outsOf_2 : decode cX6_outsOf 2 = .ok (.iconst 0, 1) := by decide +kernel
theorem dX6_outsOf_3 : decode cX6_outsOf 3 = .ok (.istore_n 3, 1) := by decide +kernel
theorem dX6_outsOf_4 : decode cX6_outsOf 4 = .ok (.iload_n 3, 1) := by decide +kernel
theorem dX6_outsOf_5 : decode cX6_outsOf 5 = .ok (.aload_n 1, 1) := by decide +kernel
theorem dX6_outsOf_6 : decode cX6_outsOf 6 = .ok (.getfield 94, 3) := by decide +kernel
theorem dX6_outsOf_9 : decode cX6_outsOf 9 = .ok (.if_icmp .ge 24, 3) := by decide +kernel
theorem dX6_outsOf_12 : decode cX6_outsOf 12 = .ok (.iload_n 2, 1) := by decide +kernel
theorem dX6_outsOf_13 : decode cX6_outsOf 13 = .ok (.aload_n 0, 1) := by decide +kernel
theorem dX6_outsOf_14 : decode cX6_outsOf 14 = .ok (.aload_n 1, 1) := by decide +kernel
theorem dX6_outsOf_15 : decode cX6_outsOf 15 = .ok (.getfield 97, 3) := by decide +kernel
theorem dX6_outsOf_18 : decode cX6_outsOf 18 = .ok (.iload_n 3, 1) := by decide +kernel
theorem dX6_outsOf_19 : decode cX6_outsOf 19 = .ok (.iaload, 1) := by decide +kernel
theorem dX6_outsOf_20 : decode cX6_outsOf 20 = .ok (.iaload, 1) := by decide +kernel
theorem dX6_outsOf_21 : decode cX6_outsOf 21 = .ok (.iconst 1, 1) := by decide +kernel
theorem dX6_outsOf_22 : decode cX6_outsOf 22 = .ok (.iand, 1) := by decide +kernel
theorem dX6_outsOf_23 : decode cX6_outsOf 23 = .ok (.iload_n 3, 1) := by decide +kernel
theorem dX6_outsOf_24 : decode cX6_outsOf 24 = .ok (.ishl, 1) := by decide +kernel
theorem dX6_outsOf_25 : decode cX6_outsOf 25 = .ok (.ior, 1) := by decide +kernel
theorem dX6_outsOf_26 : decode cX6_outsOf 26 = .ok (.istore_n 2, 1) := by decide +kernel
theorem dX6_outsOf_27 : decode cX6_outsOf 27 = .ok (.iinc 3 1, 3) := by decide +kernel
theorem dX6_outsOf_30 : decode cX6_outsOf 30 = .ok (.goto (-26), 3) := by decide +kernel
theorem dX6_outsOf_33 : decode cX6_outsOf 33 = .ok (.iload_n 2, 1) := by decide +kernel
theorem dX6_outsOf_34 : decode cX6_outsOf 34 = .ok (.ireturn, 1) := by decide +kernel
set_option maxHeartbeats 4000000 in
set_option maxRecDepth 100000 in
theorem wX6_outsOf_4 {p : Program} {l : Launch} {e : Env} {s : State} {m : MethodId} {args : Array Value} {below : List Frame} {meth : Method} {c : Code} (bs : Nat) (D : va_G) (y : Y3) (n : Nat) (k4_ : Nat → Int32 → Int32 → MI → MJ → Option (Int32 × M2)) (r : Int32 × M2) (Gc : Gx p s m args meth c cX6_outsOf 4 RX6 bs D y (some .int) 44) (hk4_ : ∀ (k0 : Nat) (x2 : Int32) (x3 : Int32) (I : MI) (J : MJ) (H : Heap) (locs : List Loc) (ls : Array Slot), va_P D vwCl (wl bs y I J) H → va_S (FA bs) s.heap H locs → lv_has ls 4 [(0, .ref (bs + k0)), (1, .ref (bs + 1)), (2, .int x2), (3, .int x3)] → k4_ k0 x2 x3 I J = some r → W p l e (rmm 0 0) s m args below meth c H locs 0 0 (QI below args s bs D y r) (F0 m 4 ls [])) (k0 : Nat) (x2 : Int32) (x3 : Int32) (I : MI) (J : MJ) (H : Heap) (locs : List Loc) (ls : Array Slot) (hP : va_P D vwCl (wl bs y I J) H) (hS : va_S (FA bs) s.heap H locs) (hl : lv_has ls 4 [(0, .ref (bs + k0)), (1, .ref (bs + 1)), (2, .int x2), (3, .int x3)]) (h : fX6_outsOf_4 n k4_ k0 x2 x3 I J = some r) : W p l e (rmm 0 0) s m args below meth c H locs 0 0 (QI below args s bs D y r) (F0 m 4 ls []) := by
  obtain ⟨hx, hb, hml, hown, hts, hK, hN, hL, hr, hlocks, hcb⟩ := id Gc
  unfold fX6_outsOf_4 at h
  refine lv_iload_n hx hb dX6_outsOf_4 rfl (lv_at hl 3 rfl) ?_
  refine lv_aload_n hx hb dX6_outsOf_5 rfl (lv_at hl 1 rfl) ?_
  refine g_I (C := RX3) (T := TX3) (N := 11) (ci := 3) 1 8 hx hb hts hown hK hP in_X3 rfl hcb okF_1_8 fl_67 dX6_outsOf_6 ?_
  refine lv_icmp_ge (tgt := 33) hx hb dX6_outsOf_9 (by decide) (fun c9 => ?_) (fun c9 => ?_)
  · replace h := if_t c9 h
    refine lv_iload_n hx hb dX6_outsOf_33 rfl (lv_at hl 2 rfl) ?_
    exact r_I hx hb hr hlocks hP hK hN hL hS h dX6_outsOf_34
  · replace h := if_f c9 h
    refine lv_iload_n hx hb dX6_outsOf_12 rfl (lv_at hl 2 rfl) ?_
    refine lv_aload_n hx hb dX6_outsOf_13 rfl (lv_at hl 0 rfl) ?_
    refine lv_aload_n hx hb dX6_outsOf_14 rfl (lv_at hl 1 rfl) ?_
    refine g_R (C := RX3) (T := TX3) (N := 11) (ci := 3) 1 4 6 hx hb hts hown hK hP in_X3 rfl hcb okF_1_4 rfc_1_4 fl_68 dX6_outsOf_15 ?_
    refine lv_iload_n hx hb dX6_outsOf_18 rfl (lv_at hl 3 rfl) ?_
    obtain ⟨hi19, h⟩ := if_s1 h
    refine a_I 6 hx hb hK hP hcb aln_6 hi19 dX6_outsOf_19 ?_
    obtain ⟨hi20, h⟩ := if_s1 h
    refine a_I k0 hx hb hK hP hcb rfl hi20 dX6_outsOf_20 ?_
    refine lv_iconst (v := (1 : Int32)) hx hb dX6_outsOf_21 (by decide) ?_
    refine lv_iand hx hb dX6_outsOf_22 ?_
    refine lv_iload_n hx hb dX6_outsOf_23 rfl (lv_at hl 3 rfl) ?_
    refine lv_ishl hx hb dX6_outsOf_24 ?_
    refine lv_ior hx hb dX6_outsOf_25 ?_
    obtain ⟨v26, ev26, h⟩ := lt_s1 h
    refine top_i ev26 ?_
    refine lv_istore_n (lv' := [(2, .int v26), (0, .ref (bs + k0)), (1, .ref (bs + 1)), (3, .int x3)]) hx hb dX6_outsOf_26 rfl hl (by decide) rfl (fun ls hl => ?_)
    refine lv_iinc (v := (x3 + (1 : Int32))) (lv' := [(3, .int (x3 + (1 : Int32))), (2, .int v26), (0, .ref (bs + k0)), (1, .ref (bs + 1))]) hx hb dX6_outsOf_27 hl (k := 3) rfl rfl (by decide) rfl (fun ls hl => ?_)
    refine lv_goto (tgt := 4) hx hb dX6_outsOf_30 (by decide) ?_
    exact hk4_ k0 v26 (x3 + (1 : Int32)) I J _ _ _ hP hS (lv_sub hl [2, 3, 1, 0] rfl) h
theorem vX6_outsOf_4 {p : Program} {l : Launch} {e : Env} {s : State} {m : MethodId} {args : Array Value} {below : List Frame} {meth : Method} {c : Code} (bs : Nat) (D : va_G) (y : Y3) (n : Nat) (r : Int32 × M2) (Gc : Gx p s m args meth c cX6_outsOf 4 RX6 bs D y (some .int) 44)  : ∀ (q : Nat) (k0 : Nat) (x2 : Int32) (x3 : Int32) (I : MI) (J : MJ) (H : Heap) (locs : List Loc) (ls : Array Slot), va_P D vwCl (wl bs y I J) H → va_S (FA bs) s.heap H locs → lv_has ls 4 [(0, .ref (bs + k0)), (1, .ref (bs + 1)), (2, .int x2), (3, .int x3)] → lX6_outsOf_4 n  q k0 x2 x3 I J = some r → W p l e (rmm 0 0) s m args below meth c H locs 0 0 (QI below args s bs D y r) (F0 m 4 ls []) := by
  intro q
  induction q with
  | zero =>
    intro k0 x2 x3 I J H locs ls hP hS hl h
    have h : (none : Option (Int32 × M2)) = some r := h
    cases h
  | succ q ih =>
    intro k0 x2 x3 I J H locs ls hP hS hl h
    have h : fX6_outsOf_4 n  (lX6_outsOf_4 n  q) k0 x2 x3 I J = some r := h
    exact wX6_outsOf_4 bs D y n  (lX6_outsOf_4 n  q) r Gc  ih k0 x2 x3 I J H locs ls hP hS hl h
set_option maxHeartbeats 4000000 in
set_option maxRecDepth 100000 in
theorem cX6_outsOf_ (l : Launch) (bs : Nat) (D : va_G) (y : Y3) (hcb : 44 ≤ y.2.2.2) (n : Nat) (k0 : Nat) (I : MI) (J : MJ) (r : Int32 × M2) (h : fX6_outsOf n k0 I J = some r) : Met l yX6_outsOf (.code yX6_outsOf cX6_outsOf 4 (some .int) :: gtb) (rmm 0 0) (va_Pc [.ref (bs + k0), .ref (bs + 1)] (HB bs D y I J)) (QcI bs D y r) 0 0 (FA bs) := by
  refine Met.ofW (cc := cX6_outsOf) (maxL := 4) (ret := (some .int)) (by decide) rfl ?_
  intro p e s m args below meth c s₁ B hml hv
  obtain ⟨rfl, hP, hK, hN, hL⟩ := hv
  have hx := B.exec
  have hb := B.bytes
  have hr := B.returns
  have hts0 := atoms_spec (ws := .code yX6_outsOf cX6_outsOf 4 (some .int) :: gtb) B.pre
  have hts : ∀ w ∈ gtb, w.before [.ref (bs + k0), .ref (bs + 1)].toArray s = true := fun w hw => hts0 w (List.mem_cons_of_mem _ hw)
  have hown : s.vm.findClass RX6 = some m.cls := findClass_of_methodNamed B.named
  have hlocks := B.notSynchronized
  have hS : va_S (FA bs) s.heap s.heap [] := va_S.rf
  have Gc : Gx p s m [.ref (bs + k0), .ref (bs + 1)].toArray meth c cX6_outsOf 4 RX6 bs D y (some .int) 44 := ⟨hx, hb, hml, hown, hts, hK, hN, hL, hr, hlocks, hcb⟩
  have hl := lv_entry [.ref (bs + k0), .ref (bs + 1)] (n := 4) (Nat.le_of_ble_eq_true rfl)
  rw [lg_entry_eq]
  generalize (lg_sl [.ref (bs + k0), .ref (bs + 1)] ++ List.replicate (4 - (lg_sl [.ref (bs + k0), .ref (bs + 1)]).length) Slot.unset).toArray = ls at hl ⊢
  have hl : lv_has ls 4 [(0, .ref (bs + k0)), (1, .ref (bs + 1))] := hl
  change W p l e (rmm 0 0) s m [.ref (bs + k0), .ref (bs + 1)].toArray below meth c s.heap [] 0 0 (QI below [.ref (bs + k0), .ref (bs + 1)].toArray s bs D y r) (F0 m 0 ls [])
  unfold fX6_outsOf at h
  refine lv_iconst (v := (0 : Int32)) hx hb dX6_outsOf_0 (by decide) ?_
  refine lv_istore_n (lv' := [(2, .int (0 : Int32)), (0, .ref (bs + k0)), (1, .ref (bs + 1))]) hx hb dX6_outsOf_1 rfl hl (by decide) rfl (fun ls hl => ?_)
  refine lv_iconst (v := (0 : Int32)) hx hb dX6_outsOf_2 (by decide) ?_
  refine lv_istore_n (lv' := [(3, .int (0 : Int32)), (2, .int (0 : Int32)), (0, .ref (bs + k0)), (1, .ref (bs + 1))]) hx hb dX6_outsOf_3 rfl hl (by decide) rfl (fun ls hl => ?_)
  exact vX6_outsOf_4 bs D y n  r Gc  n k0 (0 : Int32) (0 : Int32) I J _ _ _ hP hS (lv_sub hl [2, 3, 1, 0] rfl) h
theorem dX6_setKeepers_0 : decode cX6_setKeepers 0 = .ok (.iconst 0, 1) := by decide +kernel
theorem dX6_setKeepers_1 : decode cX6_setKeepers 1 = .ok (.istore_n 3, 1) := by decide +kernel
theorem dX6_setKeepers_2 : decode cX6_setKeepers 2 = .ok (.iload_n 3, 1) := by decide +kernel
theorem dX6_setKeepers_3 : decode cX6_setKeepers 3 = .ok (.aload_n 1, 1) := by decide +kernel
theorem dX6_setKeepers_4 : decode cX6_setKeepers 4 = .ok (.getfield 40, 3) := by decide +kernel
theorem dX6_setKeepers_7 : decode cX6_setKeepers 7 = .ok (.if_icmp .ge 27, 3) := by decide +kernel
theorem dX6_setKeepers_10 : decode cX6_setKeepers 10 = .ok (.aload_n 1, 1) := by decide +kernel
theorem dX6_setKeepers_11 : decode cX6_setKeepers 11 = .ok (.getfield 43, 3) := by decide +kernel
theorem dX6_setKeepers_14 : decode cX6_setKeepers 14 = .ok (.iload_n 3, 1) := by decide +kernel
theorem dX6_setKeepers_15 : decode cX6_setKeepers 15 = .ok (.iaload, 1) := by decide +kernel
theorem dX6_setKeepers_16 : decode cX6_setKeepers 16 = .ok (.iconst 1, 1) := by decide +kernel
theorem dX6_setKeepers_17 : decode cX6_setKeepers 17 = .ok (.if_icmp .ne 11, 3) := by decide +kernel
theorem dX6_setKeepers_20 : decode cX6_setKeepers 20 = .ok (.aload_n 0, 1) := by decide +kernel
theorem dX6_setKeepers_21 : decode cX6_setKeepers 21 = .ok (.iload_n 3, 1) := by decide +kernel
theorem dX6_setKeepers_22 : decode cX6_setKeepers 22 = .ok (.iload_n 2, 1) := by decide +kernel
theorem dX6_setKeepers_23 : decode cX6_setKeepers 23 = .ok (.iload_n 3, 1) := by decide +kernel
theorem dX6_setKeepers_24 : decode cX6_setKeepers 24 = .ok (.iushr, 1) := by decide +kernel
theorem dX6_setKeepers_25 : decode cX6_setKeepers 25 = .ok (.iconst 1, 1) := by decide +kernel
theorem dX6_setKeepers_26 : decode cX6_setKeepers 26 = .ok (.iand, 1) := by decide +kernel
theorem dX6_setKeepers_27 : decode cX6_setKeepers 27 = .ok (.iastore, 1) := by decide +kernel
theorem dX6_setKeepers_28 : decode cX6_setKeepers 28 = .ok (.iinc 3 1, 3) := by decide +kernel
theorem dX6_setKeepers_31 : decode cX6_setKeepers 31 = .ok (.goto (-29), 3) := by decide +kernel
theorem dX6_setKeepers_34 : decode cX6_setKeepers 34 = .ok (.return_, 1) := by decide +kernel
set_option maxHeartbeats 4000000 in
set_option maxRecDepth 100000 in
theorem wX6_setKeepers_28 {p : Program} {l : Launch} {e : Env} {s : State} {m : MethodId} {args : Array Value} {below : List Frame} {meth : Method} {c : Code} (bs : Nat) (D : va_G) (y : Y3) (n : Nat) (k2_ : Nat → Int32 → Int32 → MI → MJ → Option (M2)) (r : M2) (Gc : Gx p s m args meth c cX6_setKeepers 4 RX6 bs D y none 44) (hk2_ : ∀ (k0 : Nat) (x2 : Int32) (x3 : Int32) (I : MI) (J : MJ) (H : Heap) (locs : List Loc) (ls : Array Slot), va_P D vwCl (wl bs y I J) H → va_S (FA bs) s.heap H locs → lv_has ls 4 [(0, .ref (bs + k0)), (1, .ref (bs + 1)), (2, .int x2), (3, .int x3)] → k2_ k0 x2 x3 I J = some r → W p l e (rmm 0 0) s m args below meth c H locs 0 0 (QV below args s bs D y r) (F0 m 2 ls [])) (k0 : Nat) (x2 : Int32) (x3 : Int32) (I : MI) (J : MJ) (H : Heap) (locs : List Loc) (ls : Array Slot) (hP : va_P D vwCl (wl bs y I J) H) (hS : va_S (FA bs) s.heap H locs) (hl : lv_has ls 4 [(0, .ref (bs + k0)), (1, .ref (bs + 1)), (2, .int x2), (3, .int x3)]) (h : fX6_setKeepers_28 n k2_ k0 x2 x3 I J = some r) : W p l e (rmm 0 0) s m args below meth c H locs 0 0 (QV below args s bs D y r) (F0 m 28 ls []) := by
  obtain ⟨hx, hb, hml, hown, hts, hK, hN, hL, hr, hlocks, hcb⟩ := id Gc
  unfold fX6_setKeepers_28 at h
  refine lv_iinc (v := (x3 + (1 : Int32))) (lv' := [(3, .int (x3 + (1 : Int32))), (0, .ref (bs + k0)), (1, .ref (bs + 1)), (2, .int x2)]) hx hb dX6_setKeepers_28 hl (k := 3) rfl rfl (by decide) rfl (fun ls hl => ?_)
  refine lv_goto (tgt := 2) hx hb dX6_setKeepers_31 (by decide) ?_
  exact hk2_ k0 x2 (x3 + (1 : Int32)) I J _ _ _ hP hS (lv_sub hl [1, 2, 3, 0] rfl) h
set_option maxHeartbeats 4000000 in
set_option maxRecDepth 100000 in
theorem wX6_setKeepers_2 {p : Program} {l : Launch} {e : Env} {s : State} {m : MethodId} {args : Array Value} {below : List Frame} {meth : Method} {c : Code} (bs : Nat) (D : va_G) (y : Y3) (n : Nat) (k2_ : Nat → Int32 → Int32 → MI → MJ → Option (M2)) (r : M2) (Gc : Gx p s m args meth c cX6_setKeepers 4 RX6 bs D y none 44) (hk2_ : ∀ (k0 : Nat) (x2 : Int32) (x3 : Int32) (I : MI) (J : MJ) (H : Heap) (locs : List Loc) (ls : Array Slot), va_P D vwCl (wl bs y I J) H → va_S (FA bs) s.heap H locs → lv_has ls 4 [(0, .ref (bs + k0)), (1, .ref (bs + 1)), (2, .int x2), (3, .int x3)] → k2_ k0 x2 x3 I J = some r → W p l e (rmm 0 0) s m args below meth c H locs 0 0 (QV below args s bs D y r) (F0 m 2 ls [])) (k0 : Nat) (x2 : Int32) (x3 : Int32) (I : MI) (J : MJ) (H : Heap) (locs : List Loc) (ls : Array Slot) (hP : va_P D vwCl (wl bs y I J) H) (hS : va_S (FA bs) s.heap H locs) (hl : lv_has ls 4 [(0, .ref (bs + k0)), (1, .ref (bs + 1)), (2, .int x2), (3, .int x3)]) (h : fX6_setKeepers_2 n k2_ k0 x2 x3 I J = some r) : W p l e (rmm 0 0) s m args below meth c H locs 0 0 (QV below args s bs D y r) (F0 m 2 ls []) := by
  obtain ⟨hx, hb, hml, hown, hts, hK, hN, hL, hr, hlocks, hcb⟩ := id Gc
  unfold fX6_setKeepers_2 at h
  refine lv_iload_n hx hb dX6_setKeepers_2 rfl (lv_at hl 3 rfl) ?_
  refine lv_aload_n hx hb dX6_setKeepers_3 rfl (lv_at hl 1 rfl) ?_
  refine g_I (C := RX3) (T := TX3) (N := 11) (ci := 3) 1 5 hx hb hts hown hK hP in_X3 rfl hcb okF_1_5 fl_65 dX6_setKeepers_4 ?_
  refine lv_icmp_ge (tgt := 34) hx hb dX6_setKeepers_7 (by decide) (fun c7 => ?_) (fun c7 => ?_)
  · replace h := if_t c7 h
    exact r_V hx hb hr hlocks hP hK hN hL hS h dX6_setKeepers_34
  · replace h := if_f c7 h
    refine lv_aload_n hx hb dX6_setKeepers_10 rfl (lv_at hl 1 rfl) ?_
    refine g_R (C := RX3) (T := TX3) (N := 11) (ci := 3) 1 0 2 hx hb hts hown hK hP in_X3 rfl hcb okF_1_0 rfc_1_0 fl_66 dX6_setKeepers_11 ?_
    refine lv_iload_n hx hb dX6_setKeepers_14 rfl (lv_at hl 3 rfl) ?_
    obtain ⟨hi15, h⟩ := if_s1 h
    refine a_I 2 hx hb hK hP hcb aln_2 hi15 dX6_setKeepers_15 ?_
    refine lv_iconst (v := (1 : Int32)) hx hb dX6_setKeepers_16 (by decide) ?_
    refine lv_icmp_ne (tgt := 28) hx hb dX6_setKeepers_17 (by decide) (fun c17 => ?_) (fun c17 => ?_)
    · replace h := if_f c17 h
      exact wX6_setKeepers_28 bs D y n k2_ r Gc hk2_ k0 x2 x3 I J _ _ _ hP hS (lv_sub hl [0, 1, 2, 3] rfl) h
    · replace h := if_t c17 h
      refine lv_aload_n hx hb dX6_setKeepers_20 rfl (lv_at hl 0 rfl) ?_
      refine lv_iload_n hx hb dX6_setKeepers_21 rfl (lv_at hl 3 rfl) ?_
      refine lv_iload_n hx hb dX6_setKeepers_22 rfl (lv_at hl 2 rfl) ?_
      refine lv_iload_n hx hb dX6_setKeepers_23 rfl (lv_at hl 3 rfl) ?_
      refine lv_iushr (v := (ushrI x2 x3)) hx hb dX6_setKeepers_24 rfl ?_
      refine lv_iconst (v := (1 : Int32)) hx hb dX6_setKeepers_25 (by decide) ?_
      refine lv_iand hx hb dX6_setKeepers_26 ?_
      obtain ⟨hi27, h⟩ := if_s1 h
      obtain ⟨I27, eI27, h⟩ := lt_s1 h
      refine t_I k0 eI27 hx hb hK hP hS hcb rfl hi27 dX6_setKeepers_27 (fun H locs hP hS => ?_)
      exact wX6_setKeepers_28 bs D y n k2_ r Gc hk2_ k0 x2 x3 I27 J _ _ _ hP hS (lv_sub hl [0, 1, 2, 3] rfl) h
theorem vX6_setKeepers_2 {p : Program} {l : Launch} {e : Env} {s : State} {m : MethodId} {args : Array Value} {below : List Frame} {meth : Method} {c : Code} (bs : Nat) (D : va_G) (y : Y3) (n : Nat) (r : M2) (Gc : Gx p s m args meth c cX6_setKeepers 4 RX6 bs D y none 44)  : ∀ (q : Nat) (k0 : Nat) (x2 : Int32) (x3 : Int32) (I : MI) (J : MJ) (H : Heap) (locs : List Loc) (ls : Array Slot), va_P D vwCl (wl bs y I J) H → va_S (FA bs) s.heap H locs → lv_has ls 4 [(0, .ref (bs + k0)), (1, .ref (bs + 1)), (2, .int x2), (3, .int x3)] → lX6_setKeepers_2 n  q k0 x2 x3 I J = some r → W p l e (rmm 0 0) s m args below meth c H locs 0 0 (QV below args s bs D y r) (F0 m 2 ls []) := by
  intro q
  induction q with
  | zero =>
    intro k0 x2 x3 I J H locs ls hP hS hl h
    have h : (none : Option (M2)) = some r := h
    cases h
  | succ q ih =>
    intro k0 x2 x3 I J H locs ls hP hS hl h
    have h : fX6_setKeepers_2 n  (lX6_setKeepers_2 n  q) k0 x2 x3 I J = some r := h
    exact wX6_setKeepers_2 bs D y n  (lX6_setKeepers_2 n  q) r Gc  ih k0 x2 x3 I J H locs ls hP hS hl h
set_option maxHeartbeats 4000000 in
set_option maxRecDepth 100000 in
theorem cX6_setKeepers_ (l : Launch) (bs : Nat) (D : va_G) (y : Y3) (hcb : 44 ≤ y.2.2.2) (n : Nat) (k0 : Nat) (x2 : Int32) (I : MI) (J : MJ) (r : M2) (h : fX6_setKeepers n k0 x2 I J = some r) : Met l yX6_setKeepers (.code yX6_setKeepers cX6_setKeepers 4 none :: gtb) (rmm 0 0) (va_Pc [.ref (bs + k0), .ref (bs + 1), .int x2] (HB bs D y I J)) (QcV bs D y r) 0 0 (FA bs) := by
  refine Met.ofW (cc := cX6_setKeepers) (maxL := 4) (ret := none) (by decide) rfl ?_
  intro p e s m args below meth c s₁ B hml hv
  obtain ⟨rfl, hP, hK, hN, hL⟩ := hv
  have hx := B.exec
  have hb := B.bytes
  have hr := B.returns
  have hts0 := atoms_spec (ws := .code yX6_setKeepers cX6_setKeepers 4 none :: gtb) B.pre
  have hts : ∀ w ∈ gtb, w.before [.ref (bs + k0), .ref (bs + 1), .int x2].toArray s = true := fun w hw => hts0 w (List.mem_cons_of_mem _ hw)
  have hown : s.vm.findClass RX6 = some m.cls := findClass_of_methodNamed B.named
  have hlocks := B.notSynchronized
  have hS : va_S (FA bs) s.heap s.heap [] := va_S.rf
  have Gc : Gx p s m [.ref (bs + k0), .ref (bs + 1), .int x2].toArray meth c cX6_setKeepers 4 RX6 bs D y none 44 := ⟨hx, hb, hml, hown, hts, hK, hN, hL, hr, hlocks, hcb⟩
  have hl := lv_entry [.ref (bs + k0), .ref (bs + 1), .int x2] (n := 4) (Nat.le_of_ble_eq_true rfl)
  rw [lg_entry_eq]
  generalize (lg_sl [.ref (bs + k0), .ref (bs + 1), .int x2] ++ List.replicate (4 - (lg_sl [.ref (bs + k0), .ref (bs + 1), .int x2]).length) Slot.unset).toArray = ls at hl ⊢
  have hl : lv_has ls 4 [(0, .ref (bs + k0)), (1, .ref (bs + 1)), (2, .int x2)] := hl
  change W p l e (rmm 0 0) s m [.ref (bs + k0), .ref (bs + 1), .int x2].toArray below meth c s.heap [] 0 0 (QV below [.ref (bs + k0), .ref (bs + 1), .int x2].toArray s bs D y r) (F0 m 0 ls [])
  unfold fX6_setKeepers at h
  refine lv_iconst (v := (0 : Int32)) hx hb dX6_setKeepers_0 (by decide) ?_
  refine lv_istore_n (lv' := [(3, .int (0 : Int32)), (0, .ref (bs + k0)), (1, .ref (bs + 1)), (2, .int x2)]) hx hb dX6_setKeepers_1 rfl hl (by decide) rfl (fun ls hl => ?_)
  exact vX6_setKeepers_2 bs D y n  r Gc  n k0 x2 (0 : Int32) I J _ _ _ hP hS (lv_sub hl [1, 2, 3, 0] rfl) h
theorem dX6_stepNet_0 : decode cX6_stepNet 0 = .ok (.aload_n 0, 1) := by decide +kernel
theorem dX6_stepNet_1 : decode cX6_stepNet 1 = .ok (.getfield 9, 3) := by decide +kernel
theorem dX6_stepNet_4 : decode cX6_stepNet 4 = .ok (.aload_n 1, 1) := by decide +kernel
theorem dX6_stepNet_5 : decode cX6_stepNet 5 = .ok (.iload_n 2, 1) := by decide +kernel
theorem dX6_stepNet_6 : decode cX6_stepNet 6 = .ok (.invokestatic 36, 3) := by decide +kernel
theorem dX6_stepNet_9 : decode cX6_stepNet 9 = .ok (.iconst 0, 1) := by decide +kernel
theorem dX6_stepNet_10 : decode cX6_stepNet 10 = .ok (.istore_n 3, 1) := by decide +kernel
theorem dX6_stepNet_11 : decode cX6_stepNet 11 = .ok (.iload_n 3, 1) := by decide +kernel
theorem dX6_stepNet_12 : decode cX6_stepNet 12 = .ok (.aload_n 1, 1) := by decide +kernel
theorem dX6_stepNet_13 : decode cX6_stepNet 13 = .ok (.getfield 40, 3) := by decide +kernel
theorem dX6_stepNet_16 : decode cX6_stepNet 16 = .ok (.if_icmp .ge 34, 3) := by decide +kernel
theorem dX6_stepNet_19 : decode cX6_stepNet 19 = .ok (.aload_n 1, 1) := by decide +kernel
theorem dX6_stepNet_20 : decode cX6_stepNet 20 = .ok (.getfield 43, 3) := by decide +kernel
theorem dX6_stepNet_23 : decode cX6_stepNet 23 = .ok (.iload_n 3, 1) := by decide +kernel
theorem dX6_stepNet_24 : decode cX6_stepNet 24 = .ok (.iaload, 1) := by decide +kernel
theorem dX6_stepNet_25 : decode cX6_stepNet 25 = .ok (.iconst 2, 1) := by decide +kernel
theorem dX6_stepNet_26 : decode cX6_stepNet 26 = .ok (.if_icmp .ne 18, 3) := by decide +kernel
theorem dX6_stepNet_29 : decode cX6_stepNet 29 = .ok (.aload_n 0, 1) := by decide +kernel
theorem dX6_stepNet_30 : decode cX6_stepNet 30 = .ok (.getfield 9, 3) := by decide +kernel
theorem dX6_stepNet_33 : decode cX6_stepNet 33 = .ok (.iload_n 3, 1) := by decide +kernel
theorem dX6_stepNet_34 : decode cX6_stepNet 34 = .ok (.aload_n 1, 1) := by decide +kernel
theorem dX6_stepNet_35 : decode cX6_stepNet 35 = .ok (.iload_n 3, 1) := by decide +kernel
theorem dX6_stepNet_36 : decode cX6_stepNet 36 = .ok (.aload_n 0, 1) := by decide +kernel
theorem dX6_stepNet_37 : decode cX6_stepNet 37 = .ok (.getfield 9, 3) := by decide +kernel
theorem dX6_stepNet_40 : decode cX6_stepNet 40 = .ok (.invokevirtual 46, 3) := by decide +kernel
theorem dX6_stepNet_43 : decode cX6_stepNet 43 = .ok (.iastore, 1) := by decide +kernel
theorem dX6_stepNet_44 : decode cX6_stepNet 44 = .ok (.iinc 3 1, 3) := by decide +kernel
theorem dX6_stepNet_47 : decode cX6_stepNet 47 = .ok (.goto (-36), 3) := by decide +kernel
theorem dX6_stepNet_50 : decode cX6_stepNet 50 = .ok (.aload_n 0, 1) := by decide +kernel
theorem dX6_stepNet_51 : decode cX6_stepNet 51 = .ok (.aload_n 0, 1) := by decide +kernel
theorem dX6_stepNet_52 : decode cX6_stepNet 52 = .ok (.getfield 9, 3) := by decide +kernel
theorem dX6_stepNet_55 : decode cX6_stepNet 55 = .ok (.aload_n 1, 1) := by decide +kernel
theorem dX6_stepNet_56 : decode cX6_stepNet 56 = .ok (.invokestatic 50, 3) := by decide +kernel
theorem dX6_stepNet_59 : decode cX6_stepNet 59 = .ok (.putfield 22, 3) := by decide +kernel
theorem dX6_stepNet_62 : decode cX6_stepNet 62 = .ok (.iconst 0, 1) := by decide +kernel
theorem dX6_stepNet_63 : decode cX6_stepNet 63 = .ok (.istore_n 3, 1) := by decide +kernel
theorem dX6_stepNet_64 : decode cX6_stepNet 64 = .ok (.iconst 0, 1) := by decide +kernel
theorem dX6_stepNet_65 : decode cX6_stepNet 65 = .ok (.istore 4, 2) := by decide +kernel
theorem dX6_stepNet_67 : decode cX6_stepNet 67 = .ok (.iload 4, 2) := by decide +kernel
theorem dX6_stepNet_69 : decode cX6_stepNet 69 = .ok (.aload_n 1, 1) := by decide +kernel
theorem dX6_stepNet_70 : decode cX6_stepNet 70 = .ok (.getfield 40, 3) := by decide +kernel
theorem dX6_stepNet_73 : decode cX6_stepNet 73 = .ok (.if_icmp .ge 47, 3) := by decide +kernel
theorem dX6_stepNet_76 : decode cX6_stepNet 76 = .ok (.aload_n 1, 1) := by decide +kernel
theorem dX6_stepNet_77 : decode cX6_stepNet 77 = .ok (.getfield 43, 3) := by decide +kernel
theorem dX6_stepNet_80 : decode cX6_stepNet 80 = .ok (.iload 4, 2) := by decide +kernel
theorem dX6_stepNet_82 : decode cX6_stepNet 82 = .ok (.iaload, 1) := by decide +kernel
theorem dX6_stepNet_83 : decode cX6_stepNet 83 = .ok (.iconst 1, 1) := by decide +kernel
theorem dX6_stepNet_84 : decode cX6_stepNet 84 = .ok (.if_icmp .ne 30, 3) := by decide +kernel
theorem dX6_stepNet_87 : decode cX6_stepNet 87 = .ok (.aload_n 0, 1) := by decide +kernel
theorem dX6_stepNet_88 : decode cX6_stepNet 88 = .ok (.getfield 9, 3) := by decide +kernel
theorem dX6_stepNet_91 : decode cX6_stepNet 91 = .ok (.aload_n 1, 1) := by decide +kernel
theorem dX6_stepNet_92 : decode cX6_stepNet 92 = .ok (.getfield 54, 3) := by decide +kernel
theorem dX6_stepNet_95 : decode cX6_stepNet 95 = .ok (.iload 4, 2) := by decide +kernel
theorem dX6_stepNet_97 : decode cX6_stepNet 97 = .ok (.iaload, 1) := by decide +kernel
theorem dX6_stepNet_98 : decode cX6_stepNet 98 = .ok (.iaload, 1) := by decide +kernel
theorem dX6_stepNet_99 : decode cX6_stepNet 99 = .ok (.i2l, 1) := by decide +kernel
theorem dX6_stepNet_100 : decode cX6_stepNet 100 = .ok (.iconst 0, 1) := by decide +kernel
theorem dX6_stepNet_101 : decode cX6_stepNet 101 = .ok (.invokestatic 57, 3) := by decide +kernel
theorem dX6_stepNet_104 : decode cX6_stepNet 104 = .ok (.ifCond .eq 10, 3) := by decide +kernel
theorem dX6_stepNet_107 : decode cX6_stepNet 107 = .ok (.iload_n 3, 1) := by decide +kernel
theorem dX6_stepNet_108 : decode cX6_stepNet 108 = .ok (.iconst 1, 1) := by decide +kernel
theorem dX6_stepNet_109 : decode cX6_stepNet 109 = .ok (.iload 4, 2) := by decide +kernel
theorem dX6_stepNet_111 : decode cX6_stepNet 111 = .ok (.ishl, 1) := by decide +kernel
theorem dX6_stepNet_112 : decode cX6_stepNet 112 = .ok (.ior, 1) := by decide +kernel
theorem dX6_stepNet_113 : decode cX6_stepNet 113 = .ok (.istore_n 3, 1) := by decide +kernel
theorem dX6_stepNet_114 : decode cX6_stepNet 114 = .ok (.iinc 4 1, 3) := by decide +kernel
theorem dX6_stepNet_117 : decode cX6_stepNet 117 = .ok (.goto (-50), 3) := by decide +kernel
theorem dX6_stepNet_120 : decode cX6_stepNet 120 = .ok (.aload_n 0, 1) := by decide +kernel
theorem dX6_stepNet_121 : decode cX6_stepNet 121 = .ok (.getfield 9, 3) := by decide +kernel
theorem dX6_stepNet_124 : decode cX6_stepNet 124 = .ok (.aload_n 1, 1) := by decide +kernel
theorem dX6_stepNet_125 : decode cX6_stepNet 125 = .ok (.iload_n 3, 1) := by decide +kernel
theorem dX6_stepNet_126 : decode cX6_stepNet 126 = .ok (.invokestatic 61, 3) := by decide +kernel
theorem dX6_stepNet_129 : decode cX6_stepNet 129 = .ok (.aload_n 0, 1) := by decide +kernel
theorem dX6_stepNet_130 : decode cX6_stepNet 130 = .ok (.dup, 1) := by decide +kernel
theorem dX6_stepNet_131 : decode cX6_stepNet 131 = .ok (.getfield 18, 3) := by decide +kernel
theorem dX6_stepNet_134 : decode cX6_stepNet 134 = .ok (.iconst 1, 1) := by decide +kernel
theorem dX6_stepNet_135 : decode cX6_stepNet 135 = .ok (.iadd, 1) := by decide +kernel
theorem dX6_stepNet_136 : decode cX6_stepNet 136 = .ok (.putfield 18, 3) := by decide +kernel
theorem dX6_stepNet_139 : decode cX6_stepNet 139 = .ok (.return_, 1) := by decide +kernel
set_option maxHeartbeats 4000000 in
set_option maxRecDepth 100000 in
theorem wX6_stepNet_114 {p : Program} {l : Launch} {e : Env} {s : State} {m : MethodId} {args : Array Value} {below : List Frame} {meth : Method} {c : Code} (bs : Nat) (D : va_G) (y : Y3) (n : Nat) (k67_ : Int32 → Int32 → MI → MJ → Option (M2)) (r : M2) (Gc : Gx p s m args meth c cX6_stepNet 5 RX6 bs D y none 44) (hk67_ : ∀ (x3 : Int32) (x4 : Int32) (I : MI) (J : MJ) (H : Heap) (locs : List Loc) (ls : Array Slot), va_P D vwCl (wl bs y I J) H → va_S (FA bs) s.heap H locs → lv_has ls 5 [(0, .ref (bs + 38)), (1, .ref (bs + 1)), (3, .int x3), (4, .int x4)] → k67_ x3 x4 I J = some r → W p l e (rmm 2 46) s m args below meth c H locs 0 0 (QV below args s bs D y r) (F0 m 67 ls [])) (x3 : Int32) (x4 : Int32) (I : MI) (J : MJ) (H : Heap) (locs : List Loc) (ls : Array Slot) (hP : va_P D vwCl (wl bs y I J) H) (hS : va_S (FA bs) s.heap H locs) (hl : lv_has ls 5 [(0, .ref (bs + 38)), (1, .ref (bs + 1)), (3, .int x3), (4, .int x4)]) (h : fX6_stepNet_114 n k67_ x3 x4 I J = some r) : W p l e (rmm 2 46) s m args below meth c H locs 0 0 (QV below args s bs D y r) (F0 m 114 ls []) := by
  obtain ⟨hx, hb, hml, hown, hts, hK, hN, hL, hr, hlocks, hcb⟩ := id Gc
  unfold fX6_stepNet_114 at h
  refine lv_iinc (v := (x4 + (1 : Int32))) (lv' := [(4, .int (x4 + (1 : Int32))), (0, .ref (bs + 38)), (1, .ref (bs + 1)), (3, .int x3)]) hx hb dX6_stepNet_114 hl (k := 3) rfl rfl (by decide) rfl (fun ls hl => ?_)
  refine lv_goto (tgt := 67) hx hb dX6_stepNet_117 (by decide) ?_
  exact hk67_ x3 (x4 + (1 : Int32)) I J _ _ _ hP hS (lv_sub hl [1, 2, 3, 0] rfl) h
set_option maxHeartbeats 4000000 in
set_option maxRecDepth 100000 in
theorem wX6_stepNet_67 {p : Program} {l : Launch} {e : Env} {s : State} {m : MethodId} {args : Array Value} {below : List Frame} {meth : Method} {c : Code} (bs : Nat) (D : va_G) (y : Y3) (n : Nat) (k67_ : Int32 → Int32 → MI → MJ → Option (M2)) (r : M2) (Gc : Gx p s m args meth c cX6_stepNet 5 RX6 bs D y none 44) (hk67_ : ∀ (x3 : Int32) (x4 : Int32) (I : MI) (J : MJ) (H : Heap) (locs : List Loc) (ls : Array Slot), va_P D vwCl (wl bs y I J) H → va_S (FA bs) s.heap H locs → lv_has ls 5 [(0, .ref (bs + 38)), (1, .ref (bs + 1)), (3, .int x3), (4, .int x4)] → k67_ x3 x4 I J = some r → W p l e (rmm 2 46) s m args below meth c H locs 0 0 (QV below args s bs D y r) (F0 m 67 ls [])) (x3 : Int32) (x4 : Int32) (I : MI) (J : MJ) (H : Heap) (locs : List Loc) (ls : Array Slot) (hP : va_P D vwCl (wl bs y I J) H) (hS : va_S (FA bs) s.heap H locs) (hl : lv_has ls 5 [(0, .ref (bs + 38)), (1, .ref (bs + 1)), (3, .int x3), (4, .int x4)]) (h : fX6_stepNet_67 n k67_ x3 x4 I J = some r) : W p l e (rmm 2 46) s m args below meth c H locs 0 0 (QV below args s bs D y r) (F0 m 67 ls []) := by
  obtain ⟨hx, hb, hml, hown, hts, hK, hN, hL, hr, hlocks, hcb⟩ := id Gc
  unfold fX6_stepNet_67 at h
  refine lv_iload hx hb dX6_stepNet_67 (lv_at hl 3 rfl) ?_
  refine lv_aload_n hx hb dX6_stepNet_69 rfl (lv_at hl 1 rfl) ?_
  refine g_I (C := RX3) (T := TX3) (N := 11) (ci := 3) 1 5 hx hb hts hown hK hP in_X3 rfl hcb okF_1_5 fl_65 dX6_stepNet_70 ?_
  refine lv_icmp_ge (tgt := 120) hx hb dX6_stepNet_73 (by decide) (fun c73 => ?_) (fun c73 => ?_)
  · replace h := if_t c73 h
    refine lv_aload_n hx hb dX6_stepNet_120 rfl (lv_at hl 0 rfl) ?_
    refine g_R (C := RX6) (T := TX6) (N := 6) (ci := 6) 38 4 39 hx hb hts hown hK hP in_X6 rfl hcb okF_38_4 rfc_38_4 fl_58 dX6_stepNet_121 ?_
    refine lv_aload_n hx hb dX6_stepNet_124 rfl (lv_at hl 1 rfl) ?_
    refine lv_iload_n hx hb dX6_stepNet_125 rfl (lv_at hl 2 rfl) ?_
    obtain ⟨r126, er126, h⟩ := bd_s1 h
    refine c_SV (As := [.ref (bs + 39), .ref (bs + 1), .int x3]) (rest := []) hx hb hml hown hts hK hN hL hP hS (cX6_setKeepers_ l bs D y hcb n 39 x3 I J r126 er126) ok_X6_setKeepers ov_X6_setKeepers ml_35 ⟨Nat.le_of_ble_eq_true rfl, Nat.le_of_ble_eq_true rfl⟩ hl.1 rfl rfl (Nat.le_of_ble_eq_true rfl) ⟨Nat.zero_le _, Nat.zero_le _⟩ dX6_stepNet_126 (fun H locs hP hS => ?_)
    refine lv_aload_n hx hb dX6_stepNet_129 rfl (lv_at hl 0 rfl) ?_
    refine lv_dup hx hb dX6_stepNet_130 rfl ?_
    refine g_I (C := RX6) (T := TX6) (N := 6) (ci := 6) 38 0 hx hb hts hown hK hP in_X6 rfl hcb okF_38_0 fl_61 dX6_stepNet_131 ?_
    refine lv_iconst (v := (1 : Int32)) hx hb dX6_stepNet_134 (by decide) ?_
    refine lv_iadd hx hb dX6_stepNet_135 ?_
    obtain ⟨I136, eI136, h⟩ := lt_s1 h
    refine s_I (C := RX6) (T := TX6) (N := 6) (ci := 6) (ty := .int) 38 0 eI136 tyX6 hx hb hts hown hK hP hS in_X6 tyX6_ok nmX6 rfl hcb okF_38_0 fl_61 rfl (by decide +kernel) rfl rfl dX6_stepNet_136 (fun H locs hP hS => ?_)
    exact r_V hx hb hr hlocks hP hK hN hL hS h dX6_stepNet_139
  · replace h := if_f c73 h
    refine lv_aload_n hx hb dX6_stepNet_76 rfl (lv_at hl 1 rfl) ?_
    refine g_R (C := RX3) (T := TX3) (N := 11) (ci := 3) 1 0 2 hx hb hts hown hK hP in_X3 rfl hcb okF_1_0 rfc_1_0 fl_66 dX6_stepNet_77 ?_
    refine lv_iload hx hb dX6_stepNet_80 (lv_at hl 3 rfl) ?_
    obtain ⟨hi82, h⟩ := if_s1 h
    refine a_I 2 hx hb hK hP hcb aln_2 hi82 dX6_stepNet_82 ?_
    refine lv_iconst (v := (1 : Int32)) hx hb dX6_stepNet_83 (by decide) ?_
    refine lv_icmp_ne (tgt := 114) hx hb dX6_stepNet_84 (by decide) (fun c84 => ?_) (fun c84 => ?_)
    · replace h := if_f c84 h
      exact wX6_stepNet_114 bs D y n k67_ r Gc hk67_ x3 x4 I J _ _ _ hP hS (lv_sub hl [0, 1, 2, 3] rfl) h
    · replace h := if_t c84 h
      refine lv_aload_n hx hb dX6_stepNet_87 rfl (lv_at hl 0 rfl) ?_
      refine g_R (C := RX6) (T := TX6) (N := 6) (ci := 6) 38 4 39 hx hb hts hown hK hP in_X6 rfl hcb okF_38_4 rfc_38_4 fl_58 dX6_stepNet_88 ?_
      refine lv_aload_n hx hb dX6_stepNet_91 rfl (lv_at hl 1 rfl) ?_
      refine g_R (C := RX3) (T := TX3) (N := 11) (ci := 3) 1 1 3 hx hb hts hown hK hP in_X3 rfl hcb okF_1_1 rfc_1_1 fl_69 dX6_stepNet_92 ?_
      refine lv_iload hx hb dX6_stepNet_95 (lv_at hl 3 rfl) ?_
      obtain ⟨hi97, h⟩ := if_s1 h
      refine a_I 3 hx hb hK hP hcb aln_3 hi97 dX6_stepNet_97 ?_
      obtain ⟨hi98, h⟩ := if_s1 h
      refine a_I 39 hx hb hK hP hcb aln_39 hi98 dX6_stepNet_98 ?_
      refine lv_i2l (v := ((I 39 ((I 3 (x4).toNatClampNeg)).toNatClampNeg)).toInt64) hx hb dX6_stepNet_99 rfl ?_
      refine lv_iconst (v := (0 : Int32)) hx hb dX6_stepNet_100 (by decide) ?_
      obtain ⟨r101, er101, h⟩ := bd_s1 h
      refine c_NI (As := [.long ((I 39 ((I 3 (x4).toNatClampNeg)).toNatClampNeg)).toInt64, .int (0 : Int32)]) (rest := []) hx hb hml hown hts hK hN hL hP hS (cX9_hasBit_ l bs D y hcb n ((I 39 ((I 3 (x4).toNatClampNeg)).toNatClampNeg)).toInt64 (0 : Int32) I J r101 er101) ok_X9_hasBit ov_X9_hasBit mn_3 ⟨Nat.le_of_ble_eq_true rfl, Nat.le_of_ble_eq_true rfl⟩ hl.1 rfl rfl (Nat.le_of_ble_eq_true rfl) ⟨Nat.zero_le _, Nat.zero_le _⟩ dX6_stepNet_101 (fun H locs hP hS => ?_)
      refine lv_if_eq (tgt := 114) hx hb dX6_stepNet_104 (by decide) (fun c104 => ?_) (fun c104 => ?_)
      · replace h := if_t c104 h
        exact wX6_stepNet_114 bs D y n k67_ r Gc hk67_ x3 x4 r101.2.1 r101.2.2 _ _ _ hP hS (lv_sub hl [0, 1, 2, 3] rfl) h
      · replace h := if_f c104 h
        refine lv_iload_n hx hb dX6_stepNet_107 rfl (lv_at hl 2 rfl) ?_
        refine lv_iconst (v := (1 : Int32)) hx hb dX6_stepNet_108 (by decide) ?_
        refine lv_iload hx hb dX6_stepNet_109 (lv_at hl 3 rfl) ?_
        refine lv_ishl hx hb dX6_stepNet_111 ?_
        refine lv_ior hx hb dX6_stepNet_112 ?_
        obtain ⟨v113, ev113, h⟩ := lt_s1 h
        refine top_i ev113 ?_
        refine lv_istore_n (lv' := [(3, .int v113), (0, .ref (bs + 38)), (1, .ref (bs + 1)), (4, .int x4)]) hx hb dX6_stepNet_113 rfl hl (by decide) rfl (fun ls hl => ?_)
        exact wX6_stepNet_114 bs D y n k67_ r Gc hk67_ v113 x4 r101.2.1 r101.2.2 _ _ _ hP hS (lv_sub hl [1, 2, 0, 3] rfl) h
theorem vX6_stepNet_67 {p : Program} {l : Launch} {e : Env} {s : State} {m : MethodId} {args : Array Value} {below : List Frame} {meth : Method} {c : Code} (bs : Nat) (D : va_G) (y : Y3) (n : Nat) (r : M2) (Gc : Gx p s m args meth c cX6_stepNet 5 RX6 bs D y none 44)  : ∀ (q : Nat) (x3 : Int32) (x4 : Int32) (I : MI) (J : MJ) (H : Heap) (locs : List Loc) (ls : Array Slot), va_P D vwCl (wl bs y I J) H → va_S (FA bs) s.heap H locs → lv_has ls 5 [(0, .ref (bs + 38)), (1, .ref (bs + 1)), (3, .int x3), (4, .int x4)] → lX6_stepNet_67 n  q x3 x4 I J = some r → W p l e (rmm 2 46) s m args below meth c H locs 0 0 (QV below args s bs D y r) (F0 m 67 ls []) := by
  intro q
  induction q with
  | zero =>
    intro x3 x4 I J H locs ls hP hS hl h
    have h : (none : Option (M2)) = some r := h
    cases h
  | succ q ih =>
    intro x3 x4 I J H locs ls hP hS hl h
    have h : fX6_stepNet_67 n  (lX6_stepNet_67 n  q) x3 x4 I J = some r := h
    exact wX6_stepNet_67 bs D y n  (lX6_stepNet_67 n  q) r Gc  ih x3 x4 I J H locs ls hP hS hl h
set_option maxHeartbeats 4000000 in
set_option maxRecDepth 100000 in
theorem wX6_stepNet_44 {p : Program} {l : Launch} {e : Env} {s : State} {m : MethodId} {args : Array Value} {below : List Frame} {meth : Method} {c : Code} (bs : Nat) (D : va_G) (y : Y3) (n : Nat) (k11_ : Int32 → MI → MJ → Option (M2)) (r : M2) (Gc : Gx p s m args meth c cX6_stepNet 5 RX6 bs D y none 44) (hk11_ : ∀ (x3 : Int32) (I : MI) (J : MJ) (H : Heap) (locs : List Loc) (ls : Array Slot), va_P D vwCl (wl bs y I J) H → va_S (FA bs) s.heap H locs → lv_has ls 5 [(0, .ref (bs + 38)), (1, .ref (bs + 1)), (3, .int x3)] → k11_ x3 I J = some r → W p l e (rmm 2 46) s m args below meth c H locs 0 0 (QV below args s bs D y r) (F0 m 11 ls [])) (x3 : Int32) (I : MI) (J : MJ) (H : Heap) (locs : List Loc) (ls : Array Slot) (hP : va_P D vwCl (wl bs y I J) H) (hS : va_S (FA bs) s.heap H locs) (hl : lv_has ls 5 [(0, .ref (bs + 38)), (1, .ref (bs + 1)), (3, .int x3)]) (h : fX6_stepNet_44 n k11_ x3 I J = some r) : W p l e (rmm 2 46) s m args below meth c H locs 0 0 (QV below args s bs D y r) (F0 m 44 ls []) := by
  obtain ⟨hx, hb, hml, hown, hts, hK, hN, hL, hr, hlocks, hcb⟩ := id Gc
  unfold fX6_stepNet_44 at h
  refine lv_iinc (v := (x3 + (1 : Int32))) (lv' := [(3, .int (x3 + (1 : Int32))), (0, .ref (bs + 38)), (1, .ref (bs + 1))]) hx hb dX6_stepNet_44 hl (k := 2) rfl rfl (by decide) rfl (fun ls hl => ?_)
  refine lv_goto (tgt := 11) hx hb dX6_stepNet_47 (by decide) ?_
  exact hk11_ (x3 + (1 : Int32)) I J _ _ _ hP hS (lv_sub hl [1, 2, 0] rfl) h
set_option maxHeartbeats 4000000 in
set_option maxRecDepth 100000 in
theorem wX6_stepNet_11 {p : Program} {l : Launch} {e : Env} {s : State} {m : MethodId} {args : Array Value} {below : List Frame} {meth : Method} {c : Code} (bs : Nat) (D : va_G) (y : Y3) (n : Nat) (k11_ : Int32 → MI → MJ → Option (M2)) (r : M2) (Gc : Gx p s m args meth c cX6_stepNet 5 RX6 bs D y none 44) (hk11_ : ∀ (x3 : Int32) (I : MI) (J : MJ) (H : Heap) (locs : List Loc) (ls : Array Slot), va_P D vwCl (wl bs y I J) H → va_S (FA bs) s.heap H locs → lv_has ls 5 [(0, .ref (bs + 38)), (1, .ref (bs + 1)), (3, .int x3)] → k11_ x3 I J = some r → W p l e (rmm 2 46) s m args below meth c H locs 0 0 (QV below args s bs D y r) (F0 m 11 ls [])) (x3 : Int32) (I : MI) (J : MJ) (H : Heap) (locs : List Loc) (ls : Array Slot) (hP : va_P D vwCl (wl bs y I J) H) (hS : va_S (FA bs) s.heap H locs) (hl : lv_has ls 5 [(0, .ref (bs + 38)), (1, .ref (bs + 1)), (3, .int x3)]) (h : fX6_stepNet_11 n k11_ x3 I J = some r) : W p l e (rmm 2 46) s m args below meth c H locs 0 0 (QV below args s bs D y r) (F0 m 11 ls []) := by
  obtain ⟨hx, hb, hml, hown, hts, hK, hN, hL, hr, hlocks, hcb⟩ := id Gc
  unfold fX6_stepNet_11 at h
  refine lv_iload_n hx hb dX6_stepNet_11 rfl (lv_at hl 2 rfl) ?_
  refine lv_aload_n hx hb dX6_stepNet_12 rfl (lv_at hl 1 rfl) ?_
  refine g_I (C := RX3) (T := TX3) (N := 11) (ci := 3) 1 5 hx hb hts hown hK hP in_X3 rfl hcb okF_1_5 fl_65 dX6_stepNet_13 ?_
  refine lv_icmp_ge (tgt := 50) hx hb dX6_stepNet_16 (by decide) (fun c16 => ?_) (fun c16 => ?_)
  · replace h := if_t c16 h
    refine lv_aload_n hx hb dX6_stepNet_50 rfl (lv_at hl 0 rfl) ?_
    refine lv_aload_n hx hb dX6_stepNet_51 rfl (lv_at hl 0 rfl) ?_
    refine g_R (C := RX6) (T := TX6) (N := 6) (ci := 6) 38 4 39 hx hb hts hown hK hP in_X6 rfl hcb okF_38_4 rfc_38_4 fl_58 dX6_stepNet_52 ?_
    refine lv_aload_n hx hb dX6_stepNet_55 rfl (lv_at hl 1 rfl) ?_
    obtain ⟨r56, er56, h⟩ := bd_s1 h
    refine c_SI (As := [.ref (bs + 39), .ref (bs + 1)]) (rest := [.ref (bs + 38)]) hx hb hml hown hts hK hN hL hP hS (cX6_outsOf_ l bs D y hcb n 39 I J r56 er56) ok_X6_outsOf ov_X6_outsOf ml_36 ⟨Nat.le_of_ble_eq_true rfl, Nat.le_of_ble_eq_true rfl⟩ hl.1 rfl rfl (Nat.le_of_ble_eq_true rfl) ⟨Nat.zero_le _, Nat.zero_le _⟩ dX6_stepNet_56 (fun H locs hP hS => ?_)
    obtain ⟨I59, eI59, h⟩ := lt_s1 h
    refine s_I (C := RX6) (T := TX6) (N := 6) (ci := 6) (ty := .int) 38 1 eI59 tyX6 hx hb hts hown hK hP hS in_X6 tyX6_ok nmX6 rfl hcb okF_38_1 fl_62 rfl (by decide +kernel) rfl rfl dX6_stepNet_59 (fun H locs hP hS => ?_)
    refine lv_iconst (v := (0 : Int32)) hx hb dX6_stepNet_62 (by decide) ?_
    refine lv_istore_n (lv' := [(3, .int (0 : Int32)), (0, .ref (bs + 38)), (1, .ref (bs + 1))]) hx hb dX6_stepNet_63 rfl hl (by decide) rfl (fun ls hl => ?_)
    refine lv_iconst (v := (0 : Int32)) hx hb dX6_stepNet_64 (by decide) ?_
    refine lv_istore (lv' := [(4, .int (0 : Int32)), (3, .int (0 : Int32)), (0, .ref (bs + 38)), (1, .ref (bs + 1))]) hx hb dX6_stepNet_65 hl (by decide) rfl (fun ls hl => ?_)
    exact vX6_stepNet_67 bs D y n  r Gc  n (0 : Int32) (0 : Int32) I59 r56.2.2 _ _ _ hP hS (lv_sub hl [2, 3, 1, 0] rfl) h
  · replace h := if_f c16 h
    refine lv_aload_n hx hb dX6_stepNet_19 rfl (lv_at hl 1 rfl) ?_
    refine g_R (C := RX3) (T := TX3) (N := 11) (ci := 3) 1 0 2 hx hb hts hown hK hP in_X3 rfl hcb okF_1_0 rfc_1_0 fl_66 dX6_stepNet_20 ?_
    refine lv_iload_n hx hb dX6_stepNet_23 rfl (lv_at hl 2 rfl) ?_
    obtain ⟨hi24, h⟩ := if_s1 h
    refine a_I 2 hx hb hK hP hcb aln_2 hi24 dX6_stepNet_24 ?_
    refine lv_iconst (v := (2 : Int32)) hx hb dX6_stepNet_25 (by decide) ?_
    refine lv_icmp_ne (tgt := 44) hx hb dX6_stepNet_26 (by decide) (fun c26 => ?_) (fun c26 => ?_)
    · replace h := if_f c26 h
      exact wX6_stepNet_44 bs D y n k11_ r Gc hk11_ x3 I J _ _ _ hP hS (lv_sub hl [0, 1, 2] rfl) h
    · replace h := if_t c26 h
      refine lv_aload_n hx hb dX6_stepNet_29 rfl (lv_at hl 0 rfl) ?_
      refine g_R (C := RX6) (T := TX6) (N := 6) (ci := 6) 38 4 39 hx hb hts hown hK hP in_X6 rfl hcb okF_38_4 rfc_38_4 fl_58 dX6_stepNet_30 ?_
      refine lv_iload_n hx hb dX6_stepNet_33 rfl (lv_at hl 2 rfl) ?_
      refine lv_aload_n hx hb dX6_stepNet_34 rfl (lv_at hl 1 rfl) ?_
      refine lv_iload_n hx hb dX6_stepNet_35 rfl (lv_at hl 2 rfl) ?_
      refine lv_aload_n hx hb dX6_stepNet_36 rfl (lv_at hl 0 rfl) ?_
      refine g_R (C := RX6) (T := TX6) (N := 6) (ci := 6) 38 4 39 hx hb hts hown hK hP in_X6 rfl hcb okF_38_4 rfc_38_4 fl_58 dX6_stepNet_37 ?_
      obtain ⟨r40, er40, h⟩ := bd_s1 h
      refine c_VI (k := 1) (ci := 3) (As := [.int x3, .ref (bs + 39)]) (rest := [.int x3, .ref (bs + 39)]) hx hb hml hown hts hK hN hL hP hS (cX3_reckon_ l bs D y hcb n x3 39 I J r40 er40) ok_X3_reckon ov_X3_reckon ml_37 ⟨Nat.le_of_ble_eq_true rfl, Nat.le_of_ble_eq_true rfl⟩ rfl hcb kd_1 hl.1 rfl rfl (Nat.le_of_ble_eq_true rfl) ⟨Nat.zero_le _, Nat.zero_le _⟩ dX6_stepNet_40 (fun H locs hP hS => ?_)
      obtain ⟨hi43, h⟩ := if_s1 h
      obtain ⟨I43, eI43, h⟩ := lt_s1 h
      refine t_I 39 eI43 hx hb hK hP hS hcb aln_39 hi43 dX6_stepNet_43 (fun H locs hP hS => ?_)
      exact wX6_stepNet_44 bs D y n k11_ r Gc hk11_ x3 I43 r40.2.2 _ _ _ hP hS (lv_sub hl [0, 1, 2] rfl) h
theorem vX6_stepNet_11 {p : Program} {l : Launch} {e : Env} {s : State} {m : MethodId} {args : Array Value} {below : List Frame} {meth : Method} {c : Code} (bs : Nat) (D : va_G) (y : Y3) (n : Nat) (r : M2) (Gc : Gx p s m args meth c cX6_stepNet 5 RX6 bs D y none 44)  : ∀ (q : Nat) (x3 : Int32) (I : MI) (J : MJ) (H : Heap) (locs : List Loc) (ls : Array Slot), va_P D vwCl (wl bs y I J) H → va_S (FA bs) s.heap H locs → lv_has ls 5 [(0, .ref (bs + 38)), (1, .ref (bs + 1)), (3, .int x3)] → lX6_stepNet_11 n  q x3 I J = some r → W p l e (rmm 2 46) s m args below meth c H locs 0 0 (QV below args s bs D y r) (F0 m 11 ls []) := by
  intro q
  induction q with
  | zero =>
    intro x3 I J H locs ls hP hS hl h
    have h : (none : Option (M2)) = some r := h
    cases h
  | succ q ih =>
    intro x3 I J H locs ls hP hS hl h
    have h : fX6_stepNet_11 n  (lX6_stepNet_11 n  q) x3 I J = some r := h
    exact wX6_stepNet_11 bs D y n  (lX6_stepNet_11 n  q) r Gc  ih x3 I J H locs ls hP hS hl h
set_option maxHeartbeats 4000000 in
set_option maxRecDepth 100000 in
theorem cX6_stepNet_ (l : Launch) (bs : Nat) (D : va_G) (y : Y3) (hcb : 44 ≤ y.2.2.2) (n : Nat) (x2 : Int32) (I : MI) (J : MJ) (r : M2) (h : fX6_stepNet n x2 I J = some r) : Met l yX6_stepNet (.code yX6_stepNet cX6_stepNet 5 none :: gtb) (rmm 2 46) (va_Pc [.ref (bs + 38), .ref (bs + 1), .int x2] (HB bs D y I J)) (QcV bs D y r) 0 0 (FA bs) := by
  refine Met.ofW (cc := cX6_stepNet) (maxL := 5) (ret := none) (by decide) rfl ?_
  intro p e s m args below meth c s₁ B hml hv
  obtain ⟨rfl, hP, hK, hN, hL⟩ := hv
  have hx := B.exec
  have hb := B.bytes
  have hr := B.returns
  have hts0 := atoms_spec (ws := .code yX6_stepNet cX6_stepNet 5 none :: gtb) B.pre
  have hts : ∀ w ∈ gtb, w.before [.ref (bs + 38), .ref (bs + 1), .int x2].toArray s = true := fun w hw => hts0 w (List.mem_cons_of_mem _ hw)
  have hown : s.vm.findClass RX6 = some m.cls := findClass_of_methodNamed B.named
  have hlocks := B.notSynchronized
  have hS : va_S (FA bs) s.heap s.heap [] := va_S.rf
  have Gc : Gx p s m [.ref (bs + 38), .ref (bs + 1), .int x2].toArray meth c cX6_stepNet 5 RX6 bs D y none 44 := ⟨hx, hb, hml, hown, hts, hK, hN, hL, hr, hlocks, hcb⟩
  have hl := lv_entry [.ref (bs + 38), .ref (bs + 1), .int x2] (n := 5) (Nat.le_of_ble_eq_true rfl)
  rw [lg_entry_eq]
  generalize (lg_sl [.ref (bs + 38), .ref (bs + 1), .int x2] ++ List.replicate (5 - (lg_sl [.ref (bs + 38), .ref (bs + 1), .int x2]).length) Slot.unset).toArray = ls at hl ⊢
  have hl : lv_has ls 5 [(0, .ref (bs + 38)), (1, .ref (bs + 1)), (2, .int x2)] := hl
  change W p l e (rmm 2 46) s m [.ref (bs + 38), .ref (bs + 1), .int x2].toArray below meth c s.heap [] 0 0 (QV below [.ref (bs + 38), .ref (bs + 1), .int x2].toArray s bs D y r) (F0 m 0 ls [])
  unfold fX6_stepNet at h
  refine lv_aload_n hx hb dX6_stepNet_0 rfl (lv_at hl 0 rfl) ?_
  refine g_R (C := RX6) (T := TX6) (N := 6) (ci := 6) 38 4 39 hx hb hts hown hK hP in_X6 rfl hcb okF_38_4 rfc_38_4 fl_58 dX6_stepNet_1 ?_
  refine lv_aload_n hx hb dX6_stepNet_4 rfl (lv_at hl 1 rfl) ?_
  refine lv_iload_n hx hb dX6_stepNet_5 rfl (lv_at hl 2 rfl) ?_
  obtain ⟨r6, er6, h⟩ := bd_s1 h
  refine c_SV (As := [.ref (bs + 39), .ref (bs + 1), .int x2]) (rest := []) hx hb hml hown hts hK hN hL hP hS (cX6_takeInputs_ l bs D y hcb n 39 x2 I J r6 er6) ok_X6_takeInputs ov_X6_takeInputs ml_38 ⟨Nat.le_of_ble_eq_true rfl, Nat.le_of_ble_eq_true rfl⟩ hl.1 rfl rfl (Nat.le_of_ble_eq_true rfl) ⟨Nat.zero_le _, Nat.zero_le _⟩ dX6_stepNet_6 (fun H locs hP hS => ?_)
  refine lv_iconst (v := (0 : Int32)) hx hb dX6_stepNet_9 (by decide) ?_
  refine lv_istore_n (lv' := [(3, .int (0 : Int32)), (0, .ref (bs + 38)), (1, .ref (bs + 1)), (2, .int x2)]) hx hb dX6_stepNet_10 rfl hl (by decide) rfl (fun ls hl => ?_)
  exact vX6_stepNet_11 bs D y n  r Gc  n (0 : Int32) r6.1 r6.2 _ _ _ hP hS (lv_sub hl [1, 2, 0] rfl) h
theorem dX6_letterValue_0 : decode cX6_letterValue 0 = .ok (.aload_n 2, 1) := by decide +kernel
theorem dX6_letterValue_1 : decode cX6_letterValue 1 = .ok (.iload_n 1, 1) := by decide +kernel
theorem dX6_letterValue_2 : decode cX6_letterValue 2 = .ok (.invokevirtual 91, 3) := by decide +kernel
theorem dX6_letterValue_5 : decode cX6_letterValue 5 = .ok (.ifCond .eq 14, 3) := by decide +kernel
theorem dX6_letterValue_8 : decode cX6_letterValue 8 = .ok (.aload_n 0, 1) := by decide +kernel
theorem dX6_letterValue_9 : decode cX6_letterValue 9 = .ok (.getfield 15, 3) := by decide +kernel
theorem dX6_letterValue_12 : decode cX6_letterValue 12 = .ok (.iload_n 1, 1) := by decide +kernel
theorem dX6_letterValue_13 : decode cX6_letterValue 13 = .ok (.iaload, 1) := by decide +kernel
theorem dX6_letterValue_14 : decode cX6_letterValue 14 = .ok (.iconst 1, 1) := by decide +kernel
theorem dX6_letterValue_15 : decode cX6_letterValue 15 = .ok (.iand, 1) := by decide +kernel
theorem dX6_letterValue_16 : decode cX6_letterValue 16 = .ok (.goto 4, 3) := by decide +kernel
theorem dX6_letterValue_19 : decode cX6_letterValue 19 = .ok (.iconst 0, 1) := by decide +kernel
theorem dX6_letterValue_20 : decode cX6_letterValue 20 = .ok (.ireturn, 1) := by decide +kernel
set_option maxHeartbeats 4000000 in
set_option maxRecDepth 100000 in
theorem cX6_letterValue_ (l : Launch) (bs : Nat) (D : va_G) (y : Y3) (hcb : 44 ≤ y.2.2.2) (n : Nat) (x1 : Int32) (I : MI) (J : MJ) (r : Int32 × M2) (h : fX6_letterValue n x1 I J = some r) : Met l yX6_letterValue (.code yX6_letterValue cX6_letterValue 3 (some .int) :: gtb) (rmm 1 21) (va_Pc [.ref (bs + 38), .int x1, .ref (bs + 1)] (HB bs D y I J)) (QcI bs D y r) 0 0 (FA bs) := by
  refine Met.ofW (cc := cX6_letterValue) (maxL := 3) (ret := (some .int)) (by decide) rfl ?_
  intro p e s m args below meth c s₁ B hml hv
  obtain ⟨rfl, hP, hK, hN, hL⟩ := hv
  have hx := B.exec
  have hb := B.bytes
  have hr := B.returns
  have hts0 := atoms_spec (ws := .code yX6_letterValue cX6_letterValue 3 (some .int) :: gtb) B.pre
  have hts : ∀ w ∈ gtb, w.before [.ref (bs + 38), .int x1, .ref (bs + 1)].toArray s = true := fun w hw => hts0 w (List.mem_cons_of_mem _ hw)
  have hown : s.vm.findClass RX6 = some m.cls := findClass_of_methodNamed B.named
  have hlocks := B.notSynchronized
  have hS : va_S (FA bs) s.heap s.heap [] := va_S.rf
  have Gc : Gx p s m [.ref (bs + 38), .int x1, .ref (bs + 1)].toArray meth c cX6_letterValue 3 RX6 bs D y (some .int) 44 := ⟨hx, hb, hml, hown, hts, hK, hN, hL, hr, hlocks, hcb⟩
  have hl := lv_entry [.ref (bs + 38), .int x1, .ref (bs + 1)] (n := 3) (Nat.le_of_ble_eq_true rfl)
  rw [lg_entry_eq]
  generalize (lg_sl [.ref (bs + 38), .int x1, .ref (bs + 1)] ++ List.replicate (3 - (lg_sl [.ref (bs + 38), .int x1, .ref (bs + 1)]).length) Slot.unset).toArray = ls at hl ⊢
  have hl : lv_has ls 3 [(0, .ref (bs + 38)), (1, .int x1), (2, .ref (bs + 1))] := hl
  change W p l e (rmm 1 21) s m [.ref (bs + 38), .int x1, .ref (bs + 1)].toArray below meth c s.heap [] 0 0 (QI below [.ref (bs + 38), .int x1, .ref (bs + 1)].toArray s bs D y r) (F0 m 0 ls [])
  unfold fX6_letterValue at h
  refine lv_aload_n hx hb dX6_letterValue_0 rfl (lv_at hl 2 rfl) ?_
  refine lv_iload_n hx hb dX6_letterValue_1 rfl (lv_at hl 1 rfl) ?_
  obtain ⟨r2, er2, h⟩ := bd_s1 h
  refine c_VI (k := 1) (ci := 3) (As := [.int x1]) (rest := []) hx hb hml hown hts hK hN hL hP hS (cX3_has_ l bs D y hcb n x1 I J r2 er2) ok_X3_has ov_X3_has ml_39 ⟨Nat.le_of_ble_eq_true rfl, Nat.le_of_ble_eq_true rfl⟩ rfl hcb kd_1 hl.1 rfl rfl (Nat.le_of_ble_eq_true rfl) ⟨Nat.zero_le _, Nat.zero_le _⟩ dX6_letterValue_2 (fun H locs hP hS => ?_)
  refine lv_if_eq (tgt := 19) hx hb dX6_letterValue_5 (by decide) (fun c5 => ?_) (fun c5 => ?_)
  · replace h := if_t c5 h
    refine lv_iconst (v := (0 : Int32)) hx hb dX6_letterValue_19 (by decide) ?_
    exact r_I hx hb hr hlocks hP hK hN hL hS h dX6_letterValue_20
  · replace h := if_f c5 h
    refine lv_aload_n hx hb dX6_letterValue_8 rfl (lv_at hl 0 rfl) ?_
    refine g_R (C := RX6) (T := TX6) (N := 6) (ci := 6) 38 5 40 hx hb hts hown hK hP in_X6 rfl hcb okF_38_5 rfc_38_5 fl_60 dX6_letterValue_9 ?_
    refine lv_iload_n hx hb dX6_letterValue_12 rfl (lv_at hl 1 rfl) ?_
    obtain ⟨hi13, h⟩ := if_s1 h
    refine a_I 40 hx hb hK hP hcb aln_40 hi13 dX6_letterValue_13 ?_
    refine lv_iconst (v := (1 : Int32)) hx hb dX6_letterValue_14 (by decide) ?_
    refine lv_iand hx hb dX6_letterValue_15 ?_
    refine lv_goto (tgt := 20) hx hb dX6_letterValue_16 (by decide) ?_
    exact r_I hx hb hr hlocks hP hK hN hL hS h dX6_letterValue_20
theorem dX6_tableValue_0 : decode cX6_tableValue 0 = .ok (.iconst 0, 1) := by decide +kernel
theorem dX6_tableValue_1 : decode cX6_tableValue 1 = .ok (.istore 5, 2) := by decide +kernel
theorem dX6_tableValue_3 : decode cX6_tableValue 3 = .ok (.iconst 0, 1) := by decide +kernel
theorem dX6_tableValue_4 : decode cX6_tableValue 4 = .ok (.istore 6, 2) := by decide +kernel
theorem dX6_tableValue_6 : decode cX6_tableValue 6 = .ok (.iload 6, 2) := by decide +kernel
theorem dX6_tableValue_8 : decode cX6_tableValue 8 = .ok (.aload_n 3, 1) := by decide +kernel
theorem dX6_tableValue_9 : decode cX6_tableValue 9 = .ok (.getfield 84, 3) := by decide +kernel
theorem dX6_tableValue_12 : decode cX6_tableValue 12 = .ok (.iload_n 1, 1) := by decide +kernel
theorem dX6_tableValue_13 : decode cX6_tableValue 13 = .ok (.iaload, 1) := by decide +kernel
theorem dX6_tableValue_14 : decode cX6_tableValue 14 = .ok (.if_icmp .ge 30, 3) := by decide +kernel
theorem dX6_tableValue_17 : decode cX6_tableValue 17 = .ok (.iload 5, 2) := by decide +kernel
theorem dX6_tableValue_19 : decode cX6_tableValue 19 = .ok (.aload_n 0, 1) := by decide +kernel
theorem dX6_tableValue_20 : decode cX6_tableValue 20 = .ok (.aload 4, 2) := by decide +kernel
theorem dX6_tableValue_22 : decode cX6_tableValue 22 = .ok (.iload_n 1, 1) := by decide +kernel
theorem dX6_tableValue_23 : decode cX6_tableValue 23 = .ok (.iload 6, 2) := by decide +kernel
theorem dX6_tableValue_25 : decode cX6_tableValue 25 = .ok (.invokevirtual 74, 3) := by decide +kernel
theorem dX6_tableValue_28 : decode cX6_tableValue 28 = .ok (.aload_n 2, 1) := by decide +kernel
theorem dX6_tableValue_29 : decode cX6_tableValue 29 = .ok (.invokevirtual 80, 3) := by decide +kernel
theorem dX6_tableValue_32 : decode cX6_tableValue 32 = .ok (.iload 6, 2) := by decide +kernel
theorem dX6_tableValue_34 : decode cX6_tableValue 34 = .ok (.ishl, 1) := by decide +kernel
theorem dX6_tableValue_35 : decode cX6_tableValue 35 = .ok (.ior, 1) := by decide +kernel
theorem dX6_tableValue_36 : decode cX6_tableValue 36 = .ok (.istore 5, 2) := by decide +kernel
theorem dX6_tableValue_38 : decode cX6_tableValue 38 = .ok (.iinc 6 1, 3) := by decide +kernel
theorem dX6_tableValue_41 : decode cX6_tableValue 41 = .ok (.goto (-35), 3) := by decide +kernel
theorem dX6_tableValue_44 : decode cX6_tableValue 44 = .ok (.aload 4, 2) := by decide +kernel
theorem dX6_tableValue_46 : decode cX6_tableValue 46 = .ok (.iload_n 1, 1) := by decide +kernel
theorem dX6_tableValue_47 : decode cX6_tableValue 47 = .ok (.aload_n 3, 1) := by decide +kernel
theorem dX6_tableValue_48 : decode cX6_tableValue 48 = .ok (.invokevirtual 87, 3) := by decide +kernel
theorem dX6_tableValue_51 : decode cX6_tableValue 51 = .ok (.iload 5, 2) := by decide +kernel
theorem dX6_tableValue_53 : decode cX6_tableValue 53 = .ok (.iushr, 1) := by decide +kernel
theorem dX6_tableValue_54 : decode cX6_tableValue 54 = .ok (.iconst 1, 1) := by decide +kernel
theorem dX6_tableValue_55 : decode cX6_tableValue 55 = .ok (.iand, 1) := by decide +kernel
theorem dX6_tableValue_56 : decode cX6_tableValue 56 = .ok (.ireturn, 1) := by decide +kernel
set_option maxHeartbeats 4000000 in
set_option maxRecDepth 100000 in
theorem wX6_tableValue_6 {p : Program} {l : Launch} {e : Env} {s : State} {m : MethodId} {args : Array Value} {below : List Frame} {meth : Method} {c : Code} (bs : Nat) (D : va_G) (y : Y3) (n : Nat) (k6_ : Int32 → Int32 → Int32 → MI → MJ → Option (Int32 × M2)) (r : Int32 × M2) (Gc : Gx p s m args meth c cX6_tableValue 7 RX6 bs D y (some .int) 44) (hk6_ : ∀ (x1 : Int32) (x5 : Int32) (x6 : Int32) (I : MI) (J : MJ) (H : Heap) (locs : List Loc) (ls : Array Slot), va_P D vwCl (wl bs y I J) H → va_S (FA bs) s.heap H locs → lv_has ls 7 [(0, .ref (bs + 38)), (1, .int x1), (2, .ref (bs + 1)), (3, .ref (bs + 11)), (4, .ref (bs + 34)), (5, .int x5), (6, .int x6)] → k6_ x1 x5 x6 I J = some r → W p l e (rmm 2 43) s m args below meth c H locs 0 0 (QI below args s bs D y r) (F0 m 6 ls [])) (x1 : Int32) (x5 : Int32) (x6 : Int32) (I : MI) (J : MJ) (H : Heap) (locs : List Loc) (ls : Array Slot) (hP : va_P D vwCl (wl bs y I J) H) (hS : va_S (FA bs) s.heap H locs) (hl : lv_has ls 7 [(0, .ref (bs + 38)), (1, .int x1), (2, .ref (bs + 1)), (3, .ref (bs + 11)), (4, .ref (bs + 34)), (5, .int x5), (6, .int x6)]) (h : fX6_tableValue_6 n k6_ x1 x5 x6 I J = some r) : W p l e (rmm 2 43) s m args below meth c H locs 0 0 (QI below args s bs D y r) (F0 m 6 ls []) := by
  obtain ⟨hx, hb, hml, hown, hts, hK, hN, hL, hr, hlocks, hcb⟩ := id Gc
  unfold fX6_tableValue_6 at h
  refine lv_iload hx hb dX6_tableValue_6 (lv_at hl 6 rfl) ?_
  refine lv_aload_n hx hb dX6_tableValue_8 rfl (lv_at hl 3 rfl) ?_
  refine g_R (C := RX7) (T := TX7) (N := 7) (ci := 7) 11 2 12 hx hb hts hown hK hP in_X7 rfl hcb okF_11_2 rfc_11_2 fl_70 dX6_tableValue_9 ?_
  refine lv_iload_n hx hb dX6_tableValue_12 rfl (lv_at hl 1 rfl) ?_
  obtain ⟨hi13, h⟩ := if_s1 h
  refine a_I 12 hx hb hK hP hcb aln_12 hi13 dX6_tableValue_13 ?_
  refine lv_icmp_ge (tgt := 44) hx hb dX6_tableValue_14 (by decide) (fun c14 => ?_) (fun c14 => ?_)
  · replace h := if_t c14 h
    refine lv_aload hx hb dX6_tableValue_44 (lv_at hl 4 rfl) ?_
    refine lv_iload_n hx hb dX6_tableValue_46 rfl (lv_at hl 1 rfl) ?_
    refine lv_aload_n hx hb dX6_tableValue_47 rfl (lv_at hl 3 rfl) ?_
    obtain ⟨r48, er48, h⟩ := bd_s1 h
    refine c_VI (k := 34) (ci := 1) (As := [.int x1, .ref (bs + 11)]) (rest := []) hx hb hml hown hts hK hN hL hP hS (cX1_bitsThere_ l bs D y hcb n x1 I J r48 er48) ok_X1_bitsThere ov_X1_bitsThere ml_40 ⟨Nat.le_of_ble_eq_true rfl, Nat.le_of_ble_eq_true rfl⟩ rfl hcb kd_34 hl.1 rfl rfl (Nat.le_of_ble_eq_true rfl) ⟨Nat.zero_le _, Nat.zero_le _⟩ dX6_tableValue_48 (fun H locs hP hS => ?_)
    refine lv_iload hx hb dX6_tableValue_51 (lv_at hl 5 rfl) ?_
    refine lv_iushr (v := (ushrI r48.1 x5)) hx hb dX6_tableValue_53 rfl ?_
    refine lv_iconst (v := (1 : Int32)) hx hb dX6_tableValue_54 (by decide) ?_
    refine lv_iand hx hb dX6_tableValue_55 ?_
    exact r_I hx hb hr hlocks hP hK hN hL hS h dX6_tableValue_56
  · replace h := if_f c14 h
    refine lv_iload hx hb dX6_tableValue_17 (lv_at hl 5 rfl) ?_
    refine lv_aload_n hx hb dX6_tableValue_19 rfl (lv_at hl 0 rfl) ?_
    refine lv_aload hx hb dX6_tableValue_20 (lv_at hl 4 rfl) ?_
    refine lv_iload_n hx hb dX6_tableValue_22 rfl (lv_at hl 1 rfl) ?_
    refine lv_iload hx hb dX6_tableValue_23 (lv_at hl 6 rfl) ?_
    obtain ⟨r25, er25, h⟩ := bd_s1 h
    refine c_VI (k := 34) (ci := 1) (As := [.int x1, .int x6]) (rest := [.ref (bs + 38), .int x5]) hx hb hml hown hts hK hN hL hP hS (cX1_letterThere_ l bs D y hcb n x1 x6 I J r25 er25) ok_X1_letterThere ov_X1_letterThere ml_41 ⟨Nat.le_of_ble_eq_true rfl, Nat.le_of_ble_eq_true rfl⟩ rfl hcb kd_34 hl.1 rfl rfl (Nat.le_of_ble_eq_true rfl) ⟨Nat.zero_le _, Nat.zero_le _⟩ dX6_tableValue_25 (fun H locs hP hS => ?_)
    refine lv_aload_n hx hb dX6_tableValue_28 rfl (lv_at hl 2 rfl) ?_
    obtain ⟨r29, er29, h⟩ := bd_s1 h
    refine c_VI (k := 38) (ci := 6) (As := [.int r25.1, .ref (bs + 1)]) (rest := [.int x5]) hx hb hml hown hts hK hN hL hP hS (cX6_letterValue_ l bs D y hcb n r25.1 r25.2.1 r25.2.2 r29 er29) ok_X6_letterValue ov_X6_letterValue ml_42 ⟨Nat.le_of_ble_eq_true rfl, Nat.le_of_ble_eq_true rfl⟩ rfl hcb kd_38 hl.1 rfl rfl (Nat.le_of_ble_eq_true rfl) ⟨Nat.zero_le _, Nat.zero_le _⟩ dX6_tableValue_29 (fun H locs hP hS => ?_)
    refine lv_iload hx hb dX6_tableValue_32 (lv_at hl 6 rfl) ?_
    refine lv_ishl hx hb dX6_tableValue_34 ?_
    refine lv_ior hx hb dX6_tableValue_35 ?_
    obtain ⟨v36, ev36, h⟩ := lt_s1 h
    refine top_i ev36 ?_
    refine lv_istore (lv' := [(5, .int v36), (0, .ref (bs + 38)), (1, .int x1), (2, .ref (bs + 1)), (3, .ref (bs + 11)), (4, .ref (bs + 34)), (6, .int x6)]) hx hb dX6_tableValue_36 hl (by decide) rfl (fun ls hl => ?_)
    refine lv_iinc (v := (x6 + (1 : Int32))) (lv' := [(6, .int (x6 + (1 : Int32))), (5, .int v36), (0, .ref (bs + 38)), (1, .int x1), (2, .ref (bs + 1)), (3, .ref (bs + 11)), (4, .ref (bs + 34))]) hx hb dX6_tableValue_38 hl (k := 6) rfl rfl (by decide) rfl (fun ls hl => ?_)
    refine lv_goto (tgt := 6) hx hb dX6_tableValue_41 (by decide) ?_
    exact hk6_ x1 v36 (x6 + (1 : Int32)) r29.2.1 r29.2.2 _ _ _ hP hS (lv_sub hl [2, 3, 4, 5, 6, 1, 0] rfl) h
theorem vX6_tableValue_6 {p : Program} {l : Launch} {e : Env} {s : State} {m : MethodId} {args : Array Value} {below : List Frame} {meth : Method} {c : Code} (bs : Nat) (D : va_G) (y : Y3) (n : Nat) (r : Int32 × M2) (Gc : Gx p s m args meth c cX6_tableValue 7 RX6 bs D y (some .int) 44)  : ∀ (q : Nat) (x1 : Int32) (x5 : Int32) (x6 : Int32) (I : MI) (J : MJ) (H : Heap) (locs : List Loc) (ls : Array Slot), va_P D vwCl (wl bs y I J) H → va_S (FA bs) s.heap H locs → lv_has ls 7 [(0, .ref (bs + 38)), (1, .int x1), (2, .ref (bs + 1)), (3, .ref (bs + 11)), (4, .ref (bs + 34)), (5, .int x5), (6, .int x6)] → lX6_tableValue_6 n  q x1 x5 x6 I J = some r → W p l e (rmm 2 43) s m args below meth c H locs 0 0 (QI below args s bs D y r) (F0 m 6 ls []) := by
  intro q
  induction q with
  | zero =>
    intro x1 x5 x6 I J H locs ls hP hS hl h
    have h : (none : Option (Int32 × M2)) = some r := h
    cases h
  | succ q ih =>
    intro x1 x5 x6 I J H locs ls hP hS hl h
    have h : fX6_tableValue_6 n  (lX6_tableValue_6 n  q) x1 x5 x6 I J = some r := h
    exact wX6_tableValue_6 bs D y n  (lX6_tableValue_6 n  q) r Gc  ih x1 x5 x6 I J H locs ls hP hS hl h
set_option maxHeartbeats 4000000 in
set_option maxRecDepth 100000 in
theorem cX6_tableValue_ (l : Launch) (bs : Nat) (D : va_G) (y : Y3) (hcb : 44 ≤ y.2.2.2) (n : Nat) (x1 : Int32) (I : MI) (J : MJ) (r : Int32 × M2) (h : fX6_tableValue n x1 I J = some r) : Met l yX6_tableValue (.code yX6_tableValue cX6_tableValue 7 (some .int) :: gtb) (rmm 2 43) (va_Pc [.ref (bs + 38), .int x1, .ref (bs + 1), .ref (bs + 11), .ref (bs + 34)] (HB bs D y I J)) (QcI bs D y r) 0 0 (FA bs) := by
  refine Met.ofW (cc := cX6_tableValue) (maxL := 7) (ret := (some .int)) (by decide) rfl ?_
  intro p e s m args below meth c s₁ B hml hv
  obtain ⟨rfl, hP, hK, hN, hL⟩ := hv
  have hx := B.exec
  have hb := B.bytes
  have hr := B.returns
  have hts0 := atoms_spec (ws := .code yX6_tableValue cX6_tableValue 7 (some .int) :: gtb) B.pre
  have hts : ∀ w ∈ gtb, w.before [.ref (bs + 38), .int x1, .ref (bs + 1), .ref (bs + 11), .ref (bs + 34)].toArray s = true := fun w hw => hts0 w (List.mem_cons_of_mem _ hw)
  have hown : s.vm.findClass RX6 = some m.cls := findClass_of_methodNamed B.named
  have hlocks := B.notSynchronized
  have hS : va_S (FA bs) s.heap s.heap [] := va_S.rf
  have Gc : Gx p s m [.ref (bs + 38), .int x1, .ref (bs + 1), .ref (bs + 11), .ref (bs + 34)].toArray meth c cX6_tableValue 7 RX6 bs D y (some .int) 44 := ⟨hx, hb, hml, hown, hts, hK, hN, hL, hr, hlocks, hcb⟩
  have hl := lv_entry [.ref (bs + 38), .int x1, .ref (bs + 1), .ref (bs + 11), .ref (bs + 34)] (n := 7) (Nat.le_of_ble_eq_true rfl)
  rw [lg_entry_eq]
  generalize (lg_sl [.ref (bs + 38), .int x1, .ref (bs + 1), .ref (bs + 11), .ref (bs + 34)] ++ List.replicate (7 - (lg_sl [.ref (bs + 38), .int x1, .ref (bs + 1), .ref (bs + 11), .ref (bs + 34)]).length) Slot.unset).toArray = ls at hl ⊢
  have hl : lv_has ls 7 [(0, .ref (bs + 38)), (1, .int x1), (2, .ref (bs + 1)), (3, .ref (bs + 11)), (4, .ref (bs + 34))] := hl
  change W p l e (rmm 2 43) s m [.ref (bs + 38), .int x1, .ref (bs + 1), .ref (bs + 11), .ref (bs + 34)].toArray below meth c s.heap [] 0 0 (QI below [.ref (bs + 38), .int x1, .ref (bs + 1), .ref (bs + 11), .ref (bs + 34)].toArray s bs D y r) (F0 m 0 ls [])
  unfold fX6_tableValue at h
  refine lv_iconst (v := (0 : Int32)) hx hb dX6_tableValue_0 (by decide) ?_
  refine lv_istore (lv' := [(5, .int (0 : Int32)), (0, .ref (bs + 38)), (1, .int x1), (2, .ref (bs + 1)), (3, .ref (bs + 11)), (4, .ref (bs + 34))]) hx hb dX6_tableValue_1 hl (by decide) rfl (fun ls hl => ?_)
  refine lv_iconst (v := (0 : Int32)) hx hb dX6_tableValue_3 (by decide) ?_
  refine lv_istore (lv' := [(6, .int (0 : Int32)), (5, .int (0 : Int32)), (0, .ref (bs + 38)), (1, .int x1), (2, .ref (bs + 1)), (3, .ref (bs + 11)), (4, .ref (bs + 34))]) hx hb dX6_tableValue_4 hl (by decide) rfl (fun ls hl => ?_)
  exact vX6_tableValue_6 bs D y n  r Gc  n x1 (0 : Int32) (0 : Int32) I J _ _ _ hP hS (lv_sub hl [2, 3, 4, 5, 6, 1, 0] rfl) h
theorem dX6_stepCloth_0 : decode cX6_stepCloth 0 = .ok (.aload_n 0, 1) := by decide +kernel
theorem dX6_stepCloth_1 : decode cX6_stepCloth 1 = .ok (.getfield 15, 3) := by decide +kernel
theorem dX6_stepCloth_4 : decode cX6_stepCloth 4 = .ok (.aload_n 1, 1) := by decide +kernel
theorem dX6_stepCloth_5 : decode cX6_stepCloth 5 = .ok (.iload 4, 2) := by decide +kernel
theorem dX6_stepCloth_7 : decode cX6_stepCloth 7 = .ok (.invokestatic 36, 3) := by decide +kernel
theorem dX6_stepCloth_10 : decode cX6_stepCloth 10 = .ok (.iconst 0, 1) := by decide +kernel
theorem dX6_stepCloth_11 : decode cX6_stepCloth 11 = .ok (.istore 5, 2) := by decide +kernel
theorem dX6_stepCloth_13 : decode cX6_stepCloth 13 = .ok (.iload 5, 2) := by decide +kernel
theorem dX6_stepCloth_15 : decode cX6_stepCloth 15 = .ok (.aload_n 1, 1) := by decide +kernel
theorem dX6_stepCloth_16 : decode cX6_stepCloth 16 = .ok (.getfield 40, 3) := by decide +kernel
theorem dX6_stepCloth_19 : decode cX6_stepCloth 19 = .ok (.if_icmp .ge 34, 3) := by decide +kernel
theorem dX6_stepCloth_22 : decode cX6_stepCloth 22 = .ok (.aload_n 2, 1) := by decide +kernel
theorem dX6_stepCloth_23 : decode cX6_stepCloth 23 = .ok (.iload 5, 2) := by decide +kernel
theorem dX6_stepCloth_25 : decode cX6_stepCloth 25 = .ok (.invokevirtual 64, 3) := by decide +kernel
theorem dX6_stepCloth_28 : decode cX6_stepCloth 28 = .ok (.ifCond .eq 19, 3) := by decide +kernel
theorem dX6_stepCloth_31 : decode cX6_stepCloth 31 = .ok (.aload_n 0, 1) := by decide +kernel
theorem dX6_stepCloth_32 : decode cX6_stepCloth 32 = .ok (.getfield 15, 3) := by decide +kernel
theorem dX6_stepCloth_35 : decode cX6_stepCloth 35 = .ok (.iload 5, 2) := by decide +kernel
theorem dX6_stepCloth_37 : decode cX6_stepCloth 37 = .ok (.aload_n 0, 1) := by decide +kernel
theorem dX6_stepCloth_38 : decode cX6_stepCloth 38 = .ok (.iload 5, 2) := by decide +kernel
theorem dX6_stepCloth_40 : decode cX6_stepCloth 40 = .ok (.aload_n 1, 1) := by decide +kernel
theorem dX6_stepCloth_41 : decode cX6_stepCloth 41 = .ok (.aload_n 2, 1) := by decide +kernel
theorem dX6_stepCloth_42 : decode cX6_stepCloth 42 = .ok (.aload_n 3, 1) := by decide +kernel
theorem dX6_stepCloth_43 : decode cX6_stepCloth 43 = .ok (.invokevirtual 70, 3) := by decide +kernel
theorem dX6_stepCloth_46 : decode cX6_stepCloth 46 = .ok (.iastore, 1) := by decide +kernel
theorem dX6_stepCloth_47 : decode cX6_stepCloth 47 = .ok (.iinc 5 1, 3) := by decide +kernel
theorem dX6_stepCloth_50 : decode cX6_stepCloth 50 = .ok (.goto (-37), 3) := by decide +kernel
theorem dX6_stepCloth_53 : decode cX6_stepCloth 53 = .ok (.aload_n 0, 1) := by decide +kernel
theorem dX6_stepCloth_54 : decode cX6_stepCloth 54 = .ok (.aload_n 0, 1) := by decide +kernel
theorem dX6_stepCloth_55 : decode cX6_stepCloth 55 = .ok (.getfield 15, 3) := by decide +kernel
theorem dX6_stepCloth_58 : decode cX6_stepCloth 58 = .ok (.aload_n 1, 1) := by decide +kernel
theorem dX6_stepCloth_59 : decode cX6_stepCloth 59 = .ok (.invokestatic 50, 3) := by decide +kernel
theorem dX6_stepCloth_62 : decode cX6_stepCloth 62 = .ok (.putfield 25, 3) := by decide +kernel
theorem dX6_stepCloth_65 : decode cX6_stepCloth 65 = .ok (.iconst 0, 1) := by decide +kernel
theorem dX6_stepCloth_66 : decode cX6_stepCloth 66 = .ok (.istore 5, 2) := by decide +kernel
theorem dX6_stepCloth_68 : decode cX6_stepCloth 68 = .ok (.iconst 0, 1) := by decide +kernel
theorem dX6_stepCloth_69 : decode cX6_stepCloth 69 = .ok (.istore 6, 2) := by decide +kernel
theorem dX6_stepCloth_71 : decode cX6_stepCloth 71 = .ok (.iload 6, 2) := by decide +kernel
theorem dX6_stepCloth_73 : decode cX6_stepCloth 73 = .ok (.aload_n 1, 1) := by decide +kernel
theorem dX6_stepCloth_74 : decode cX6_stepCloth 74 = .ok (.getfield 40, 3) := by decide +kernel
theorem dX6_stepCloth_77 : decode cX6_stepCloth 77 = .ok (.if_icmp .ge 40, 3) := by decide +kernel
theorem dX6_stepCloth_80 : decode cX6_stepCloth 80 = .ok (.aload_n 1, 1) := by decide +kernel
theorem dX6_stepCloth_81 : decode cX6_stepCloth 81 = .ok (.getfield 43, 3) := by decide +kernel
theorem dX6_stepCloth_84 : decode cX6_stepCloth 84 = .ok (.iload 6, 2) := by decide +kernel
theorem dX6_stepCloth_86 : decode cX6_stepCloth 86 = .ok (.iaload, 1) := by decide +kernel
theorem dX6_stepCloth_87 : decode cX6_stepCloth 87 = .ok (.iconst 1, 1) := by decide +kernel
theorem dX6_stepCloth_88 : decode cX6_stepCloth 88 = .ok (.if_icmp .ne 23, 3) := by decide +kernel
theorem dX6_stepCloth_91 : decode cX6_stepCloth 91 = .ok (.iload 5, 2) := by decide +kernel
theorem dX6_stepCloth_93 : decode cX6_stepCloth 93 = .ok (.aload_n 0, 1) := by decide +kernel
theorem dX6_stepCloth_94 : decode cX6_stepCloth 94 = .ok (.aload_n 3, 1) := by decide +kernel
theorem dX6_stepCloth_95 : decode cX6_stepCloth 95 = .ok (.iload 6, 2) := by decide +kernel
theorem dX6_stepCloth_97 : decode cX6_stepCloth 97 = .ok (.iconst 0, 1) := by decide +kernel
theorem dX6_stepCloth_98 : decode cX6_stepCloth 98 = .ok (.invokevirtual 74, 3) := by decide +kernel
theorem dX6_stepCloth_101 : decode cX6_stepCloth 101 = .ok (.aload_n 1, 1) := by decide +kernel
theorem dX6_stepCloth_102 : decode cX6_stepCloth 102 = .ok (.invokevirtual 80, 3) := by decide +kernel
theorem dX6_stepCloth_105 : decode cX6_stepCloth 105 = .ok (.iload 6, 2) := by decide +kernel
theorem dX6_stepCloth_107 : decode cX6_stepCloth 107 = .ok (.ishl, 1) := by decide +kernel
theorem dX6_stepCloth_108 : decode cX6_stepCloth 108 = .ok (.ior, 1) := by decide +kernel
theorem dX6_stepCloth_109 : decode cX6_stepCloth 109 = .ok (.istore 5, 2) := by decide +kernel
theorem dX6_stepCloth_111 : decode cX6_stepCloth 111 = .ok (.iinc 6 1, 3) := by decide +kernel
theorem dX6_stepCloth_114 : decode cX6_stepCloth 114 = .ok (.goto (-43), 3) := by decide +kernel
theorem dX6_stepCloth_117 : decode cX6_stepCloth 117 = .ok (.aload_n 0, 1) := by decide +kernel
theorem dX6_stepCloth_118 : decode cX6_stepCloth 118 = .ok (.getfield 15, 3) := by decide +kernel
theorem dX6_stepCloth_121 : decode cX6_stepCloth 121 = .ok (.aload_n 1, 1) := by decide +kernel
theorem dX6_stepCloth_122 : decode cX6_stepCloth 122 = .ok (.iload 5, 2) := by decide +kernel
theorem dX6_stepCloth_124 : decode cX6_stepCloth 124 = .ok (.invokestatic 61, 3) := by decide +kernel
theorem dX6_stepCloth_127 : decode cX6_stepCloth 127 = .ok (.aload_n 0, 1) := by decide +kernel
theorem dX6_stepCloth_128 : decode cX6_stepCloth 128 = .ok (.getfield 28, 3) := by decide +kernel
theorem dX6_stepCloth_131 : decode cX6_stepCloth 131 = .ok (.iconst (-1), 1) := by decide +kernel
theorem dX6_stepCloth_132 : decode cX6_stepCloth 132 = .ok (.if_icmp .ne 22, 3) := by decide +kernel
theorem dX6_stepCloth_135 : decode cX6_stepCloth 135 = .ok (.aload_n 0, 1) := by decide +kernel
theorem dX6_stepCloth_136 : decode cX6_stepCloth 136 = .ok (.getfield 25, 3) := by decide +kernel
theorem dX6_stepCloth_139 : decode cX6_stepCloth 139 = .ok (.aload_n 0, 1) := by decide +kernel
theorem dX6_stepCloth_140 : decode cX6_stepCloth 140 = .ok (.getfield 22, 3) := by decide +kernel
theorem dX6_stepCloth_143 : decode cX6_stepCloth 143 = .ok (.if_icmp .eq 11, 3) := by decide +kernel
theorem dX6_stepCloth_146 : decode cX6_stepCloth 146 = .ok (.aload_n 0, 1) := by decide +kernel
theorem dX6_stepCloth_147 : decode cX6_stepCloth 147 = .ok (.aload_n 0, 1) := by decide +kernel
theorem dX6_stepCloth_148 : decode cX6_stepCloth 148 = .ok (.getfield 18, 3) := by decide +kernel
theorem dX6_stepCloth_151 : decode cX6_stepCloth 151 = .ok (.putfield 28, 3) := by decide +kernel
theorem dX6_stepCloth_154 : decode cX6_stepCloth 154 = .ok (.return_, 1) := by decide +kernel
set_option maxHeartbeats 4000000 in
set_option maxRecDepth 100000 in
theorem wX6_stepCloth_111 {p : Program} {l : Launch} {e : Env} {s : State} {m : MethodId} {args : Array Value} {below : List Frame} {meth : Method} {c : Code} (bs : Nat) (D : va_G) (y : Y3) (n : Nat) (k71_ : Int32 → Int32 → MI → MJ → Option (M2)) (r : M2) (Gc : Gx p s m args meth c cX6_stepCloth 7 RX6 bs D y none 44) (hk71_ : ∀ (x5 : Int32) (x6 : Int32) (I : MI) (J : MJ) (H : Heap) (locs : List Loc) (ls : Array Slot), va_P D vwCl (wl bs y I J) H → va_S (FA bs) s.heap H locs → lv_has ls 7 [(0, .ref (bs + 38)), (1, .ref (bs + 1)), (3, .ref (bs + 34)), (5, .int x5), (6, .int x6)] → k71_ x5 x6 I J = some r → W p l e (rmm 3 69) s m args below meth c H locs 0 0 (QV below args s bs D y r) (F0 m 71 ls [])) (x5 : Int32) (x6 : Int32) (I : MI) (J : MJ) (H : Heap) (locs : List Loc) (ls : Array Slot) (hP : va_P D vwCl (wl bs y I J) H) (hS : va_S (FA bs) s.heap H locs) (hl : lv_has ls 7 [(0, .ref (bs + 38)), (1, .ref (bs + 1)), (3, .ref (bs + 34)), (5, .int x5), (6, .int x6)]) (h : fX6_stepCloth_111 n k71_ x5 x6 I J = some r) : W p l e (rmm 3 69) s m args below meth c H locs 0 0 (QV below args s bs D y r) (F0 m 111 ls []) := by
  obtain ⟨hx, hb, hml, hown, hts, hK, hN, hL, hr, hlocks, hcb⟩ := id Gc
  unfold fX6_stepCloth_111 at h
  refine lv_iinc (v := (x6 + (1 : Int32))) (lv' := [(6, .int (x6 + (1 : Int32))), (0, .ref (bs + 38)), (1, .ref (bs + 1)), (3, .ref (bs + 34)), (5, .int x5)]) hx hb dX6_stepCloth_111 hl (k := 4) rfl rfl (by decide) rfl (fun ls hl => ?_)
  refine lv_goto (tgt := 71) hx hb dX6_stepCloth_114 (by decide) ?_
  exact hk71_ x5 (x6 + (1 : Int32)) I J _ _ _ hP hS (lv_sub hl [1, 2, 3, 4, 0] rfl) h
set_option maxHeartbeats 4000000 in
set_option maxRecDepth 100000 in
theorem wX6_stepCloth_71 {p : Program} {l : Launch} {e : Env} {s : State} {m : MethodId} {args : Array Value} {below : List Frame} {meth : Method} {c : Code} (bs : Nat) (D : va_G) (y : Y3) (n : Nat) (k71_ : Int32 → Int32 → MI → MJ → Option (M2)) (r : M2) (Gc : Gx p s m args meth c cX6_stepCloth 7 RX6 bs D y none 44) (hk71_ : ∀ (x5 : Int32) (x6 : Int32) (I : MI) (J : MJ) (H : Heap) (locs : List Loc) (ls : Array Slot), va_P D vwCl (wl bs y I J) H → va_S (FA bs) s.heap H locs → lv_has ls 7 [(0, .ref (bs + 38)), (1, .ref (bs + 1)), (3, .ref (bs + 34)), (5, .int x5), (6, .int x6)] → k71_ x5 x6 I J = some r → W p l e (rmm 3 69) s m args below meth c H locs 0 0 (QV below args s bs D y r) (F0 m 71 ls [])) (x5 : Int32) (x6 : Int32) (I : MI) (J : MJ) (H : Heap) (locs : List Loc) (ls : Array Slot) (hP : va_P D vwCl (wl bs y I J) H) (hS : va_S (FA bs) s.heap H locs) (hl : lv_has ls 7 [(0, .ref (bs + 38)), (1, .ref (bs + 1)), (3, .ref (bs + 34)), (5, .int x5), (6, .int x6)]) (h : fX6_stepCloth_71 n k71_ x5 x6 I J = some r) : W p l e (rmm 3 69) s m args below meth c H locs 0 0 (QV below args s bs D y r) (F0 m 71 ls []) := by
  obtain ⟨hx, hb, hml, hown, hts, hK, hN, hL, hr, hlocks, hcb⟩ := id Gc
  unfold fX6_stepCloth_71 at h
  refine lv_iload hx hb dX6_stepCloth_71 (lv_at hl 4 rfl) ?_
  refine lv_aload_n hx hb dX6_stepCloth_73 rfl (lv_at hl 1 rfl) ?_
  refine g_I (C := RX3) (T := TX3) (N := 11) (ci := 3) 1 5 hx hb hts hown hK hP in_X3 rfl hcb okF_1_5 fl_65 dX6_stepCloth_74 ?_
  refine lv_icmp_ge (tgt := 117) hx hb dX6_stepCloth_77 (by decide) (fun c77 => ?_) (fun c77 => ?_)
  · replace h := if_t c77 h
    refine lv_aload_n hx hb dX6_stepCloth_117 rfl (lv_at hl 0 rfl) ?_
    refine g_R (C := RX6) (T := TX6) (N := 6) (ci := 6) 38 5 40 hx hb hts hown hK hP in_X6 rfl hcb okF_38_5 rfc_38_5 fl_60 dX6_stepCloth_118 ?_
    refine lv_aload_n hx hb dX6_stepCloth_121 rfl (lv_at hl 1 rfl) ?_
    refine lv_iload hx hb dX6_stepCloth_122 (lv_at hl 3 rfl) ?_
    obtain ⟨r124, er124, h⟩ := bd_s1 h
    refine c_SV (As := [.ref (bs + 40), .ref (bs + 1), .int x5]) (rest := []) hx hb hml hown hts hK hN hL hP hS (cX6_setKeepers_ l bs D y hcb n 40 x5 I J r124 er124) ok_X6_setKeepers ov_X6_setKeepers ml_35 ⟨Nat.le_of_ble_eq_true rfl, Nat.le_of_ble_eq_true rfl⟩ hl.1 rfl rfl (Nat.le_of_ble_eq_true rfl) ⟨Nat.zero_le _, Nat.zero_le _⟩ dX6_stepCloth_124 (fun H locs hP hS => ?_)
    refine lv_aload_n hx hb dX6_stepCloth_127 rfl (lv_at hl 0 rfl) ?_
    refine g_I (C := RX6) (T := TX6) (N := 6) (ci := 6) 38 3 hx hb hts hown hK hP in_X6 rfl hcb okF_38_3 fl_64 dX6_stepCloth_128 ?_
    refine lv_iconst (v := (-1 : Int32)) hx hb dX6_stepCloth_131 (by decide) ?_
    refine lv_icmp_ne (tgt := 154) hx hb dX6_stepCloth_132 (by decide) (fun c132 => ?_) (fun c132 => ?_)
    · replace h := if_f c132 h
      exact r_V hx hb hr hlocks hP hK hN hL hS h dX6_stepCloth_154
    · replace h := if_t c132 h
      refine lv_aload_n hx hb dX6_stepCloth_135 rfl (lv_at hl 0 rfl) ?_
      refine g_I (C := RX6) (T := TX6) (N := 6) (ci := 6) 38 2 hx hb hts hown hK hP in_X6 rfl hcb okF_38_2 fl_63 dX6_stepCloth_136 ?_
      refine lv_aload_n hx hb dX6_stepCloth_139 rfl (lv_at hl 0 rfl) ?_
      refine g_I (C := RX6) (T := TX6) (N := 6) (ci := 6) 38 1 hx hb hts hown hK hP in_X6 rfl hcb okF_38_1 fl_62 dX6_stepCloth_140 ?_
      refine lv_icmp_eq (tgt := 154) hx hb dX6_stepCloth_143 (by decide) (fun c143 => ?_) (fun c143 => ?_)
      · replace h := if_t c143 h
        exact r_V hx hb hr hlocks hP hK hN hL hS h dX6_stepCloth_154
      · replace h := if_f c143 h
        refine lv_aload_n hx hb dX6_stepCloth_146 rfl (lv_at hl 0 rfl) ?_
        refine lv_aload_n hx hb dX6_stepCloth_147 rfl (lv_at hl 0 rfl) ?_
        refine g_I (C := RX6) (T := TX6) (N := 6) (ci := 6) 38 0 hx hb hts hown hK hP in_X6 rfl hcb okF_38_0 fl_61 dX6_stepCloth_148 ?_
        obtain ⟨I151, eI151, h⟩ := lt_s1 h
        refine s_I (C := RX6) (T := TX6) (N := 6) (ci := 6) (ty := .int) 38 3 eI151 tyX6 hx hb hts hown hK hP hS in_X6 tyX6_ok nmX6 rfl hcb okF_38_3 fl_64 rfl (by decide +kernel) rfl rfl dX6_stepCloth_151 (fun H locs hP hS => ?_)
        exact r_V hx hb hr hlocks hP hK hN hL hS h dX6_stepCloth_154
  · replace h := if_f c77 h
    refine lv_aload_n hx hb dX6_stepCloth_80 rfl (lv_at hl 1 rfl) ?_
    refine g_R (C := RX3) (T := TX3) (N := 11) (ci := 3) 1 0 2 hx hb hts hown hK hP in_X3 rfl hcb okF_1_0 rfc_1_0 fl_66 dX6_stepCloth_81 ?_
    refine lv_iload hx hb dX6_stepCloth_84 (lv_at hl 4 rfl) ?_
    obtain ⟨hi86, h⟩ := if_s1 h
    refine a_I 2 hx hb hK hP hcb aln_2 hi86 dX6_stepCloth_86 ?_
    refine lv_iconst (v := (1 : Int32)) hx hb dX6_stepCloth_87 (by decide) ?_
    refine lv_icmp_ne (tgt := 111) hx hb dX6_stepCloth_88 (by decide) (fun c88 => ?_) (fun c88 => ?_)
    · replace h := if_f c88 h
      exact wX6_stepCloth_111 bs D y n k71_ r Gc hk71_ x5 x6 I J _ _ _ hP hS (lv_sub hl [0, 1, 2, 3, 4] rfl) h
    · replace h := if_t c88 h
      refine lv_iload hx hb dX6_stepCloth_91 (lv_at hl 3 rfl) ?_
      refine lv_aload_n hx hb dX6_stepCloth_93 rfl (lv_at hl 0 rfl) ?_
      refine lv_aload_n hx hb dX6_stepCloth_94 rfl (lv_at hl 2 rfl) ?_
      refine lv_iload hx hb dX6_stepCloth_95 (lv_at hl 4 rfl) ?_
      refine lv_iconst (v := (0 : Int32)) hx hb dX6_stepCloth_97 (by decide) ?_
      obtain ⟨r98, er98, h⟩ := bd_s1 h
      refine c_VI (k := 34) (ci := 1) (As := [.int x6, .int (0 : Int32)]) (rest := [.ref (bs + 38), .int x5]) hx hb hml hown hts hK hN hL hP hS (cX1_letterThere_ l bs D y hcb n x6 (0 : Int32) I J r98 er98) ok_X1_letterThere ov_X1_letterThere ml_41 ⟨Nat.le_of_ble_eq_true rfl, Nat.le_of_ble_eq_true rfl⟩ rfl hcb kd_34 hl.1 rfl rfl (Nat.le_of_ble_eq_true rfl) ⟨Nat.zero_le _, Nat.zero_le _⟩ dX6_stepCloth_98 (fun H locs hP hS => ?_)
      refine lv_aload_n hx hb dX6_stepCloth_101 rfl (lv_at hl 1 rfl) ?_
      obtain ⟨r102, er102, h⟩ := bd_s1 h
      refine c_VI (k := 38) (ci := 6) (As := [.int r98.1, .ref (bs + 1)]) (rest := [.int x5]) hx hb hml hown hts hK hN hL hP hS (cX6_letterValue_ l bs D y hcb n r98.1 r98.2.1 r98.2.2 r102 er102) ok_X6_letterValue ov_X6_letterValue ml_42 ⟨Nat.le_of_ble_eq_true rfl, Nat.le_of_ble_eq_true rfl⟩ rfl hcb kd_38 hl.1 rfl rfl (Nat.le_of_ble_eq_true rfl) ⟨Nat.zero_le _, Nat.zero_le _⟩ dX6_stepCloth_102 (fun H locs hP hS => ?_)
      refine lv_iload hx hb dX6_stepCloth_105 (lv_at hl 4 rfl) ?_
      refine lv_ishl hx hb dX6_stepCloth_107 ?_
      refine lv_ior hx hb dX6_stepCloth_108 ?_
      obtain ⟨v109, ev109, h⟩ := lt_s1 h
      refine top_i ev109 ?_
      refine lv_istore (lv' := [(5, .int v109), (0, .ref (bs + 38)), (1, .ref (bs + 1)), (3, .ref (bs + 34)), (6, .int x6)]) hx hb dX6_stepCloth_109 hl (by decide) rfl (fun ls hl => ?_)
      exact wX6_stepCloth_111 bs D y n k71_ r Gc hk71_ v109 x6 r102.2.1 r102.2.2 _ _ _ hP hS (lv_sub hl [1, 2, 3, 0, 4] rfl) h
theorem vX6_stepCloth_71 {p : Program} {l : Launch} {e : Env} {s : State} {m : MethodId} {args : Array Value} {below : List Frame} {meth : Method} {c : Code} (bs : Nat) (D : va_G) (y : Y3) (n : Nat) (r : M2) (Gc : Gx p s m args meth c cX6_stepCloth 7 RX6 bs D y none 44)  : ∀ (q : Nat) (x5 : Int32) (x6 : Int32) (I : MI) (J : MJ) (H : Heap) (locs : List Loc) (ls : Array Slot), va_P D vwCl (wl bs y I J) H → va_S (FA bs) s.heap H locs → lv_has ls 7 [(0, .ref (bs + 38)), (1, .ref (bs + 1)), (3, .ref (bs + 34)), (5, .int x5), (6, .int x6)] → lX6_stepCloth_71 n  q x5 x6 I J = some r → W p l e (rmm 3 69) s m args below meth c H locs 0 0 (QV below args s bs D y r) (F0 m 71 ls []) := by
  intro q
  induction q with
  | zero =>
    intro x5 x6 I J H locs ls hP hS hl h
    have h : (none : Option (M2)) = some r := h
    cases h
  | succ q ih =>
    intro x5 x6 I J H locs ls hP hS hl h
    have h : fX6_stepCloth_71 n  (lX6_stepCloth_71 n  q) x5 x6 I J = some r := h
    exact wX6_stepCloth_71 bs D y n  (lX6_stepCloth_71 n  q) r Gc  ih x5 x6 I J H locs ls hP hS hl h
set_option maxHeartbeats 4000000 in
set_option maxRecDepth 100000 in
theorem wX6_stepCloth_47 {p : Program} {l : Launch} {e : Env} {s : State} {m : MethodId} {args : Array Value} {below : List Frame} {meth : Method} {c : Code} (bs : Nat) (D : va_G) (y : Y3) (n : Nat) (k13_ : Int32 → MI → MJ → Option (M2)) (r : M2) (Gc : Gx p s m args meth c cX6_stepCloth 7 RX6 bs D y none 44) (hk13_ : ∀ (x5 : Int32) (I : MI) (J : MJ) (H : Heap) (locs : List Loc) (ls : Array Slot), va_P D vwCl (wl bs y I J) H → va_S (FA bs) s.heap H locs → lv_has ls 7 [(0, .ref (bs + 38)), (1, .ref (bs + 1)), (2, .ref (bs + 11)), (3, .ref (bs + 34)), (5, .int x5)] → k13_ x5 I J = some r → W p l e (rmm 3 69) s m args below meth c H locs 0 0 (QV below args s bs D y r) (F0 m 13 ls [])) (x5 : Int32) (I : MI) (J : MJ) (H : Heap) (locs : List Loc) (ls : Array Slot) (hP : va_P D vwCl (wl bs y I J) H) (hS : va_S (FA bs) s.heap H locs) (hl : lv_has ls 7 [(0, .ref (bs + 38)), (1, .ref (bs + 1)), (2, .ref (bs + 11)), (3, .ref (bs + 34)), (5, .int x5)]) (h : fX6_stepCloth_47 n k13_ x5 I J = some r) : W p l e (rmm 3 69) s m args below meth c H locs 0 0 (QV below args s bs D y r) (F0 m 47 ls []) := by
  obtain ⟨hx, hb, hml, hown, hts, hK, hN, hL, hr, hlocks, hcb⟩ := id Gc
  unfold fX6_stepCloth_47 at h
  refine lv_iinc (v := (x5 + (1 : Int32))) (lv' := [(5, .int (x5 + (1 : Int32))), (0, .ref (bs + 38)), (1, .ref (bs + 1)), (2, .ref (bs + 11)), (3, .ref (bs + 34))]) hx hb dX6_stepCloth_47 hl (k := 4) rfl rfl (by decide) rfl (fun ls hl => ?_)
  refine lv_goto (tgt := 13) hx hb dX6_stepCloth_50 (by decide) ?_
  exact hk13_ (x5 + (1 : Int32)) I J _ _ _ hP hS (lv_sub hl [1, 2, 3, 4, 0] rfl) h
set_option maxHeartbeats 4000000 in
set_option maxRecDepth 100000 in
theorem wX6_stepCloth_13 {p : Program} {l : Launch} {e : Env} {s : State} {m : MethodId} {args : Array Value} {below : List Frame} {meth : Method} {c : Code} (bs : Nat) (D : va_G) (y : Y3) (n : Nat) (k13_ : Int32 → MI → MJ → Option (M2)) (r : M2) (Gc : Gx p s m args meth c cX6_stepCloth 7 RX6 bs D y none 44) (hk13_ : ∀ (x5 : Int32) (I : MI) (J : MJ) (H : Heap) (locs : List Loc) (ls : Array Slot), va_P D vwCl (wl bs y I J) H → va_S (FA bs) s.heap H locs → lv_has ls 7 [(0, .ref (bs + 38)), (1, .ref (bs + 1)), (2, .ref (bs + 11)), (3, .ref (bs + 34)), (5, .int x5)] → k13_ x5 I J = some r → W p l e (rmm 3 69) s m args below meth c H locs 0 0 (QV below args s bs D y r) (F0 m 13 ls [])) (x5 : Int32) (I : MI) (J : MJ) (H : Heap) (locs : List Loc) (ls : Array Slot) (hP : va_P D vwCl (wl bs y I J) H) (hS : va_S (FA bs) s.heap H locs) (hl : lv_has ls 7 [(0, .ref (bs + 38)), (1, .ref (bs + 1)), (2, .ref (bs + 11)), (3, .ref (bs + 34)), (5, .int x5)]) (h : fX6_stepCloth_13 n k13_ x5 I J = some r) : W p l e (rmm 3 69) s m args below meth c H locs 0 0 (QV below args s bs D y r) (F0 m 13 ls []) := by
  obtain ⟨hx, hb, hml, hown, hts, hK, hN, hL, hr, hlocks, hcb⟩ := id Gc
  unfold fX6_stepCloth_13 at h
  refine lv_iload hx hb dX6_stepCloth_13 (lv_at hl 4 rfl) ?_
  refine lv_aload_n hx hb dX6_stepCloth_15 rfl (lv_at hl 1 rfl) ?_
  refine g_I (C := RX3) (T := TX3) (N := 11) (ci := 3) 1 5 hx hb hts hown hK hP in_X3 rfl hcb okF_1_5 fl_65 dX6_stepCloth_16 ?_
  refine lv_icmp_ge (tgt := 53) hx hb dX6_stepCloth_19 (by decide) (fun c19 => ?_) (fun c19 => ?_)
  · replace h := if_t c19 h
    refine lv_aload_n hx hb dX6_stepCloth_53 rfl (lv_at hl 0 rfl) ?_
    refine lv_aload_n hx hb dX6_stepCloth_54 rfl (lv_at hl 0 rfl) ?_
    refine g_R (C := RX6) (T := TX6) (N := 6) (ci := 6) 38 5 40 hx hb hts hown hK hP in_X6 rfl hcb okF_38_5 rfc_38_5 fl_60 dX6_stepCloth_55 ?_
    refine lv_aload_n hx hb dX6_stepCloth_58 rfl (lv_at hl 1 rfl) ?_
    obtain ⟨r59, er59, h⟩ := bd_s1 h
    refine c_SI (As := [.ref (bs + 40), .ref (bs + 1)]) (rest := [.ref (bs + 38)]) hx hb hml hown hts hK hN hL hP hS (cX6_outsOf_ l bs D y hcb n 40 I J r59 er59) ok_X6_outsOf ov_X6_outsOf ml_36 ⟨Nat.le_of_ble_eq_true rfl, Nat.le_of_ble_eq_true rfl⟩ hl.1 rfl rfl (Nat.le_of_ble_eq_true rfl) ⟨Nat.zero_le _, Nat.zero_le _⟩ dX6_stepCloth_59 (fun H locs hP hS => ?_)
    obtain ⟨I62, eI62, h⟩ := lt_s1 h
    refine s_I (C := RX6) (T := TX6) (N := 6) (ci := 6) (ty := .int) 38 2 eI62 tyX6 hx hb hts hown hK hP hS in_X6 tyX6_ok nmX6 rfl hcb okF_38_2 fl_63 rfl (by decide +kernel) rfl rfl dX6_stepCloth_62 (fun H locs hP hS => ?_)
    refine lv_iconst (v := (0 : Int32)) hx hb dX6_stepCloth_65 (by decide) ?_
    refine lv_istore (lv' := [(5, .int (0 : Int32)), (0, .ref (bs + 38)), (1, .ref (bs + 1)), (2, .ref (bs + 11)), (3, .ref (bs + 34))]) hx hb dX6_stepCloth_66 hl (by decide) rfl (fun ls hl => ?_)
    refine lv_iconst (v := (0 : Int32)) hx hb dX6_stepCloth_68 (by decide) ?_
    refine lv_istore (lv' := [(6, .int (0 : Int32)), (5, .int (0 : Int32)), (0, .ref (bs + 38)), (1, .ref (bs + 1)), (2, .ref (bs + 11)), (3, .ref (bs + 34))]) hx hb dX6_stepCloth_69 hl (by decide) rfl (fun ls hl => ?_)
    exact vX6_stepCloth_71 bs D y n  r Gc  n (0 : Int32) (0 : Int32) I62 r59.2.2 _ _ _ hP hS (lv_sub hl [2, 3, 5, 1, 0] rfl) h
  · replace h := if_f c19 h
    refine lv_aload_n hx hb dX6_stepCloth_22 rfl (lv_at hl 2 rfl) ?_
    refine lv_iload hx hb dX6_stepCloth_23 (lv_at hl 4 rfl) ?_
    obtain ⟨r25, er25, h⟩ := bd_s1 h
    refine c_VI (k := 11) (ci := 7) (As := [.int x5]) (rest := []) hx hb hml hown hts hK hN hL hP hS (cX7_isTable_ l bs D y hcb n x5 I J r25 er25) ok_X7_isTable ov_X7_isTable ml_43 ⟨Nat.le_of_ble_eq_true rfl, Nat.le_of_ble_eq_true rfl⟩ rfl hcb kd_11 hl.1 rfl rfl (Nat.le_of_ble_eq_true rfl) ⟨Nat.zero_le _, Nat.zero_le _⟩ dX6_stepCloth_25 (fun H locs hP hS => ?_)
    refine lv_if_eq (tgt := 47) hx hb dX6_stepCloth_28 (by decide) (fun c28 => ?_) (fun c28 => ?_)
    · replace h := if_t c28 h
      exact wX6_stepCloth_47 bs D y n k13_ r Gc hk13_ x5 r25.2.1 r25.2.2 _ _ _ hP hS (lv_sub hl [0, 1, 2, 3, 4] rfl) h
    · replace h := if_f c28 h
      refine lv_aload_n hx hb dX6_stepCloth_31 rfl (lv_at hl 0 rfl) ?_
      refine g_R (C := RX6) (T := TX6) (N := 6) (ci := 6) 38 5 40 hx hb hts hown hK hP in_X6 rfl hcb okF_38_5 rfc_38_5 fl_60 dX6_stepCloth_32 ?_
      refine lv_iload hx hb dX6_stepCloth_35 (lv_at hl 4 rfl) ?_
      refine lv_aload_n hx hb dX6_stepCloth_37 rfl (lv_at hl 0 rfl) ?_
      refine lv_iload hx hb dX6_stepCloth_38 (lv_at hl 4 rfl) ?_
      refine lv_aload_n hx hb dX6_stepCloth_40 rfl (lv_at hl 1 rfl) ?_
      refine lv_aload_n hx hb dX6_stepCloth_41 rfl (lv_at hl 2 rfl) ?_
      refine lv_aload_n hx hb dX6_stepCloth_42 rfl (lv_at hl 3 rfl) ?_
      obtain ⟨r43, er43, h⟩ := bd_s1 h
      refine c_VI (k := 38) (ci := 6) (As := [.int x5, .ref (bs + 1), .ref (bs + 11), .ref (bs + 34)]) (rest := [.int x5, .ref (bs + 40)]) hx hb hml hown hts hK hN hL hP hS (cX6_tableValue_ l bs D y hcb n x5 r25.2.1 r25.2.2 r43 er43) ok_X6_tableValue ov_X6_tableValue ml_44 ⟨Nat.le_of_ble_eq_true rfl, Nat.le_of_ble_eq_true rfl⟩ rfl hcb kd_38 hl.1 rfl rfl (Nat.le_of_ble_eq_true rfl) ⟨Nat.zero_le _, Nat.zero_le _⟩ dX6_stepCloth_43 (fun H locs hP hS => ?_)
      obtain ⟨hi46, h⟩ := if_s1 h
      obtain ⟨I46, eI46, h⟩ := lt_s1 h
      refine t_I 40 eI46 hx hb hK hP hS hcb aln_40 hi46 dX6_stepCloth_46 (fun H locs hP hS => ?_)
      exact wX6_stepCloth_47 bs D y n k13_ r Gc hk13_ x5 I46 r43.2.2 _ _ _ hP hS (lv_sub hl [0, 1, 2, 3, 4] rfl) h
theorem vX6_stepCloth_13 {p : Program} {l : Launch} {e : Env} {s : State} {m : MethodId} {args : Array Value} {below : List Frame} {meth : Method} {c : Code} (bs : Nat) (D : va_G) (y : Y3) (n : Nat) (r : M2) (Gc : Gx p s m args meth c cX6_stepCloth 7 RX6 bs D y none 44)  : ∀ (q : Nat) (x5 : Int32) (I : MI) (J : MJ) (H : Heap) (locs : List Loc) (ls : Array Slot), va_P D vwCl (wl bs y I J) H → va_S (FA bs) s.heap H locs → lv_has ls 7 [(0, .ref (bs + 38)), (1, .ref (bs + 1)), (2, .ref (bs + 11)), (3, .ref (bs + 34)), (5, .int x5)] → lX6_stepCloth_13 n  q x5 I J = some r → W p l e (rmm 3 69) s m args below meth c H locs 0 0 (QV below args s bs D y r) (F0 m 13 ls []) := by
  intro q
  induction q with
  | zero =>
    intro x5 I J H locs ls hP hS hl h
    have h : (none : Option (M2)) = some r := h
    cases h
  | succ q ih =>
    intro x5 I J H locs ls hP hS hl h
    have h : fX6_stepCloth_13 n  (lX6_stepCloth_13 n  q) x5 I J = some r := h
    exact wX6_stepCloth_13 bs D y n  (lX6_stepCloth_13 n  q) r Gc  ih x5 I J H locs ls hP hS hl h
set_option maxHeartbeats 4000000 in
set_option maxRecDepth 100000 in
theorem cX6_stepCloth_ (l : Launch) (bs : Nat) (D : va_G) (y : Y3) (hcb : 44 ≤ y.2.2.2) (n : Nat) (x4 : Int32) (I : MI) (J : MJ) (r : M2) (h : fX6_stepCloth n x4 I J = some r) : Met l yX6_stepCloth (.code yX6_stepCloth cX6_stepCloth 7 none :: gtb) (rmm 3 69) (va_Pc [.ref (bs + 38), .ref (bs + 1), .ref (bs + 11), .ref (bs + 34), .int x4] (HB bs D y I J)) (QcV bs D y r) 0 0 (FA bs) := by
  refine Met.ofW (cc := cX6_stepCloth) (maxL := 7) (ret := none) (by decide) rfl ?_
  intro p e s m args below meth c s₁ B hml hv
  obtain ⟨rfl, hP, hK, hN, hL⟩ := hv
  have hx := B.exec
  have hb := B.bytes
  have hr := B.returns
  have hts0 := atoms_spec (ws := .code yX6_stepCloth cX6_stepCloth 7 none :: gtb) B.pre
  have hts : ∀ w ∈ gtb, w.before [.ref (bs + 38), .ref (bs + 1), .ref (bs + 11), .ref (bs + 34), .int x4].toArray s = true := fun w hw => hts0 w (List.mem_cons_of_mem _ hw)
  have hown : s.vm.findClass RX6 = some m.cls := findClass_of_methodNamed B.named
  have hlocks := B.notSynchronized
  have hS : va_S (FA bs) s.heap s.heap [] := va_S.rf
  have Gc : Gx p s m [.ref (bs + 38), .ref (bs + 1), .ref (bs + 11), .ref (bs + 34), .int x4].toArray meth c cX6_stepCloth 7 RX6 bs D y none 44 := ⟨hx, hb, hml, hown, hts, hK, hN, hL, hr, hlocks, hcb⟩
  have hl := lv_entry [.ref (bs + 38), .ref (bs + 1), .ref (bs + 11), .ref (bs + 34), .int x4] (n := 7) (Nat.le_of_ble_eq_true rfl)
  rw [lg_entry_eq]
  generalize (lg_sl [.ref (bs + 38), .ref (bs + 1), .ref (bs + 11), .ref (bs + 34), .int x4] ++ List.replicate (7 - (lg_sl [.ref (bs + 38), .ref (bs + 1), .ref (bs + 11), .ref (bs + 34), .int x4]).length) Slot.unset).toArray = ls at hl ⊢
  have hl : lv_has ls 7 [(0, .ref (bs + 38)), (1, .ref (bs + 1)), (2, .ref (bs + 11)), (3, .ref (bs + 34)), (4, .int x4)] := hl
  change W p l e (rmm 3 69) s m [.ref (bs + 38), .ref (bs + 1), .ref (bs + 11), .ref (bs + 34), .int x4].toArray below meth c s.heap [] 0 0 (QV below [.ref (bs + 38), .ref (bs + 1), .ref (bs + 11), .ref (bs + 34), .int x4].toArray s bs D y r) (F0 m 0 ls [])
  unfold fX6_stepCloth at h
  refine lv_aload_n hx hb dX6_stepCloth_0 rfl (lv_at hl 0 rfl) ?_
  refine g_R (C := RX6) (T := TX6) (N := 6) (ci := 6) 38 5 40 hx hb hts hown hK hP in_X6 rfl hcb okF_38_5 rfc_38_5 fl_60 dX6_stepCloth_1 ?_
  refine lv_aload_n hx hb dX6_stepCloth_4 rfl (lv_at hl 1 rfl) ?_
  refine lv_iload hx hb dX6_stepCloth_5 (lv_at hl 4 rfl) ?_
  obtain ⟨r7, er7, h⟩ := bd_s1 h
  refine c_SV (As := [.ref (bs + 40), .ref (bs + 1), .int x4]) (rest := []) hx hb hml hown hts hK hN hL hP hS (cX6_takeInputs_ l bs D y hcb n 40 x4 I J r7 er7) ok_X6_takeInputs ov_X6_takeInputs ml_38 ⟨Nat.le_of_ble_eq_true rfl, Nat.le_of_ble_eq_true rfl⟩ hl.1 rfl rfl (Nat.le_of_ble_eq_true rfl) ⟨Nat.zero_le _, Nat.zero_le _⟩ dX6_stepCloth_7 (fun H locs hP hS => ?_)
  refine lv_iconst (v := (0 : Int32)) hx hb dX6_stepCloth_10 (by decide) ?_
  refine lv_istore (lv' := [(5, .int (0 : Int32)), (0, .ref (bs + 38)), (1, .ref (bs + 1)), (2, .ref (bs + 11)), (3, .ref (bs + 34)), (4, .int x4)]) hx hb dX6_stepCloth_11 hl (by decide) rfl (fun ls hl => ?_)
  exact vX6_stepCloth_13 bs D y n  r Gc  n (0 : Int32) r7.1 r7.2 _ _ _ hP hS (lv_sub hl [1, 2, 3, 4, 0] rfl) h
theorem dX7_askedFor_0 : decode cX7_askedFor 0 = .ok (.iconst 0, 1) := by decide +kernel
theorem dX7_askedFor_1 : decode cX7_askedFor 1 = .ok (.istore_n 1, 1) := by decide +kernel
theorem dX7_askedFor_2 : decode cX7_askedFor 2 = .ok (.iconst 0, 1) := by decide +kernel
theorem dX7_askedFor_3 : decode cX7_askedFor 3 = .ok (.istore_n 2, 1) := by decide +kernel
theorem dX7_askedFor_4 : decode cX7_askedFor 4 = .ok (.iload_n 2, 1) := by decide +kernel
theorem dX7_askedFor_5 : decode cX7_askedFor 5 = .ok (.aload_n 0, 1) := by decide +kernel
theorem dX7_askedFor_6 : decode cX7_askedFor 6 = .ok (.getfield 69, 3) := by decide +kernel
theorem dX7_askedFor_9 : decode cX7_askedFor 9 = .ok (.if_icmp .ge 20, 3) := by decide +kernel
theorem dX7_askedFor_12 : decode cX7_askedFor 12 = .ok (.iload_n 1, 1) := by decide +kernel
theorem dX7_askedFor_13 : decode cX7_askedFor 13 = .ok (.iconst 1, 1) := by decide +kernel
theorem dX7_askedFor_14 : decode cX7_askedFor 14 = .ok (.aload_n 0, 1) := by decide +kernel
theorem dX7_askedFor_15 : decode cX7_askedFor 15 = .ok (.getfield 72, 3) := by decide +kernel
theorem dX7_askedFor_18 : decode cX7_askedFor 18 = .ok (.iload_n 2, 1) := by decide +kernel
theorem dX7_askedFor_19 : decode cX7_askedFor 19 = .ok (.iaload, 1) := by decide +kernel
theorem dX7_askedFor_20 : decode cX7_askedFor 20 = .ok (.ishl, 1) := by decide +kernel
theorem dX7_askedFor_21 : decode cX7_askedFor 21 = .ok (.ior, 1) := by decide +kernel
theorem dX7_askedFor_22 : decode cX7_askedFor 22 = .ok (.istore_n 1, 1) := by decide +kernel
theorem dX7_askedFor_23 : decode cX7_askedFor 23 = .ok (.iinc 2 1, 3) := by decide +kernel
theorem dX7_askedFor_26 : decode cX7_askedFor 26 = .ok (.goto (-22), 3) := by decide +kernel
theorem dX7_askedFor_29 : decode cX7_askedFor 29 = .ok (.iconst 0, 1) := by decide +kernel
theorem dX7_askedFor_30 : decode cX7_askedFor 30 = .ok (.istore_n 2, 1) := by decide +kernel
theorem dX7_askedFor_31 : decode cX7_askedFor 31 = .ok (.iload_n 2, 1) := by decide +kernel
theorem dX7_askedFor_32 : decode cX7_askedFor 32 = .ok (.aload_n 0, 1) := by decide +kernel
theorem dX7_askedFor_33 : decode cX7_askedFor 33 = .ok (.getfield 39, 3) := by decide +kernel
theorem dX7_askedFor_36 : decode cX7_askedFor 36 = .ok (.if_icmp .ge 30, 3) := by decide +kernel
theorem dX7_askedFor_39 : decode cX7_askedFor 39 = .ok (.aload_n 0, 1) := by decide +kernel
theorem dX7_askedFor_40 : decode cX7_askedFor 40 = .ok (.getfield 75, 3) := by decide +kernel
theorem dX7_askedFor_43 : decode cX7_askedFor 43 = .ok (.iload_n 2, 1) := by decide +kernel
theorem dX7_askedFor_44 : decode cX7_askedFor 44 = .ok (.iaload, 1) := by decide +kernel
theorem dX7_askedFor_45 : decode cX7_askedFor 45 = .ok (.iconst 1, 1) := by decide +kernel
theorem dX7_askedFor_46 : decode cX7_askedFor 46 = .ok (.if_icmp .ne 14, 3) := by decide +kernel
theorem dX7_askedFor_49 : decode cX7_askedFor 49 = .ok (.iload_n 1, 1) := by decide +kernel
theorem dX7_askedFor_50 : decode cX7_askedFor 50 = .ok (.iconst 1, 1) := by decide +kernel
theorem dX7_askedFor_51 : decode cX7_askedFor 51 = .ok (.aload_n 0, 1) := by decide +kernel
theorem dX7_askedFor_52 : decode cX7_askedFor 52 = .ok (.getfield 78, 3) := by decide +kernel
theorem dX7_askedFor_55 : decode cX7_askedFor 55 = .ok (.iload_n 2, 1) := by decide +kernel
theorem dX7_askedFor_56 : decode cX7_askedFor 56 = .ok (.iaload, 1) := by decide +kernel
theorem dX7_askedFor_57 : decode cX7_askedFor 57 = .ok (.ishl, 1) := by decide +kernel
theorem dX7_askedFor_58 : decode cX7_askedFor 58 = .ok (.ior, 1) := by decide +kernel
theorem dX7_askedFor_59 : decode cX7_askedFor 59 = .ok (.istore_n 1, 1) := by decide +kernel
theorem dX7_askedFor_60 : decode cX7_askedFor 60 = .ok (.iinc 2 1, 3) := by decide +kernel
theorem dX7_askedFor_63 : decode cX7_askedFor 63 = .ok (.goto (-32), 3) := by decide +kernel
theorem dX7_askedFor_66 : decode cX7_askedFor 66 = .ok (.iload_n 1, 1) := by decide +kernel
theorem dX7_askedFor_67 : decode cX7_askedFor 67 = .ok (.aload_n 0, 1) := by decide +kernel
theorem dX7_askedFor_68 : decode cX7_askedFor 68 = .ok (.getfield 54, 3) := by decide +kernel
theorem dX7_askedFor_71 : decode cX7_askedFor 71 = .ok (.iand, 1) := by decide +kernel
theorem dX7_askedFor_72 : decode cX7_askedFor 72 = .ok (.ireturn, 1) := by decide +kernel
set_option maxHeartbeats 4000000 in
set_option maxRecDepth 100000 in
theorem wX7_askedFor_60 {p : Program} {l : Launch} {e : Env} {s : State} {m : MethodId} {args : Array Value} {below : List Frame} {meth : Method} {c : Code} (bs : Nat) (D : va_G) (y : Y3) (n : Nat) (k31_ : Int32 → Int32 → MI → MJ → Option (Int32 × M2)) (r : Int32 × M2) (Gc : Gx p s m args meth c cX7_askedFor 3 RX7 bs D y (some .int) 44) (hk31_ : ∀ (x1 : Int32) (x2 : Int32) (I : MI) (J : MJ) (H : Heap) (locs : List Loc) (ls : Array Slot), va_P D vwCl (wl bs y I J) H → va_S (FA bs) s.heap H locs → lv_has ls 3 [(0, .ref (bs + 1)), (1, .int x1), (2, .int x2)] → k31_ x1 x2 I J = some r → W p l e (rmm 0 0) s m args below meth c H locs 0 0 (QI below args s bs D y r) (F0 m 31 ls [])) (x1 : Int32) (x2 : Int32) (I : MI) (J : MJ) (H : Heap) (locs : List Loc) (ls : Array Slot) (hP : va_P D vwCl (wl bs y I J) H) (hS : va_S (FA bs) s.heap H locs) (hl : lv_has ls 3 [(0, .ref (bs + 1)), (1, .int x1), (2, .int x2)]) (h : fX7_askedFor_60 n k31_ x1 x2 I J = some r) : W p l e (rmm 0 0) s m args below meth c H locs 0 0 (QI below args s bs D y r) (F0 m 60 ls []) := by
  obtain ⟨hx, hb, hml, hown, hts, hK, hN, hL, hr, hlocks, hcb⟩ := id Gc
  unfold fX7_askedFor_60 at h
  refine lv_iinc (v := (x2 + (1 : Int32))) (lv' := [(2, .int (x2 + (1 : Int32))), (0, .ref (bs + 1)), (1, .int x1)]) hx hb dX7_askedFor_60 hl (k := 2) rfl rfl (by decide) rfl (fun ls hl => ?_)
  refine lv_goto (tgt := 31) hx hb dX7_askedFor_63 (by decide) ?_
  exact hk31_ x1 (x2 + (1 : Int32)) I J _ _ _ hP hS (lv_sub hl [1, 2, 0] rfl) h
set_option maxHeartbeats 4000000 in
set_option maxRecDepth 100000 in
theorem wX7_askedFor_31 {p : Program} {l : Launch} {e : Env} {s : State} {m : MethodId} {args : Array Value} {below : List Frame} {meth : Method} {c : Code} (bs : Nat) (D : va_G) (y : Y3) (n : Nat) (k31_ : Int32 → Int32 → MI → MJ → Option (Int32 × M2)) (r : Int32 × M2) (Gc : Gx p s m args meth c cX7_askedFor 3 RX7 bs D y (some .int) 44) (hk31_ : ∀ (x1 : Int32) (x2 : Int32) (I : MI) (J : MJ) (H : Heap) (locs : List Loc) (ls : Array Slot), va_P D vwCl (wl bs y I J) H → va_S (FA bs) s.heap H locs → lv_has ls 3 [(0, .ref (bs + 1)), (1, .int x1), (2, .int x2)] → k31_ x1 x2 I J = some r → W p l e (rmm 0 0) s m args below meth c H locs 0 0 (QI below args s bs D y r) (F0 m 31 ls [])) (x1 : Int32) (x2 : Int32) (I : MI) (J : MJ) (H : Heap) (locs : List Loc) (ls : Array Slot) (hP : va_P D vwCl (wl bs y I J) H) (hS : va_S (FA bs) s.heap H locs) (hl : lv_has ls 3 [(0, .ref (bs + 1)), (1, .int x1), (2, .int x2)]) (h : fX7_askedFor_31 n k31_ x1 x2 I J = some r) : W p l e (rmm 0 0) s m args below meth c H locs 0 0 (QI below args s bs D y r) (F0 m 31 ls []) := by
  obtain ⟨hx, hb, hml, hown, hts, hK, hN, hL, hr, hlocks, hcb⟩ := id Gc
  unfold fX7_askedFor_31 at h
  refine lv_iload_n hx hb dX7_askedFor_31 rfl (lv_at hl 2 rfl) ?_
  refine lv_aload_n hx hb dX7_askedFor_32 rfl (lv_at hl 0 rfl) ?_
  refine g_I (C := RX3) (T := TX3) (N := 11) (ci := 3) 1 5 hx hb hts hown hK hP in_X3 rfl hcb okF_1_5 fl_71 dX7_askedFor_33 ?_
  refine lv_icmp_ge (tgt := 66) hx hb dX7_askedFor_36 (by decide) (fun c36 => ?_) (fun c36 => ?_)
  · replace h := if_t c36 h
    refine lv_iload_n hx hb dX7_askedFor_66 rfl (lv_at hl 1 rfl) ?_
    refine lv_aload_n hx hb dX7_askedFor_67 rfl (lv_at hl 0 rfl) ?_
    refine g_I (C := RX3) (T := TX3) (N := 11) (ci := 3) 1 9 hx hb hts hown hK hP in_X3 rfl hcb okF_1_9 fl_72 dX7_askedFor_68 ?_
    refine lv_iand hx hb dX7_askedFor_71 ?_
    exact r_I hx hb hr hlocks hP hK hN hL hS h dX7_askedFor_72
  · replace h := if_f c36 h
    refine lv_aload_n hx hb dX7_askedFor_39 rfl (lv_at hl 0 rfl) ?_
    refine g_R (C := RX3) (T := TX3) (N := 11) (ci := 3) 1 0 2 hx hb hts hown hK hP in_X3 rfl hcb okF_1_0 rfc_1_0 fl_73 dX7_askedFor_40 ?_
    refine lv_iload_n hx hb dX7_askedFor_43 rfl (lv_at hl 2 rfl) ?_
    obtain ⟨hi44, h⟩ := if_s1 h
    refine a_I 2 hx hb hK hP hcb aln_2 hi44 dX7_askedFor_44 ?_
    refine lv_iconst (v := (1 : Int32)) hx hb dX7_askedFor_45 (by decide) ?_
    refine lv_icmp_ne (tgt := 60) hx hb dX7_askedFor_46 (by decide) (fun c46 => ?_) (fun c46 => ?_)
    · replace h := if_f c46 h
      exact wX7_askedFor_60 bs D y n k31_ r Gc hk31_ x1 x2 I J _ _ _ hP hS (lv_sub hl [0, 1, 2] rfl) h
    · replace h := if_t c46 h
      refine lv_iload_n hx hb dX7_askedFor_49 rfl (lv_at hl 1 rfl) ?_
      refine lv_iconst (v := (1 : Int32)) hx hb dX7_askedFor_50 (by decide) ?_
      refine lv_aload_n hx hb dX7_askedFor_51 rfl (lv_at hl 0 rfl) ?_
      refine g_R (C := RX3) (T := TX3) (N := 11) (ci := 3) 1 1 3 hx hb hts hown hK hP in_X3 rfl hcb okF_1_1 rfc_1_1 fl_74 dX7_askedFor_52 ?_
      refine lv_iload_n hx hb dX7_askedFor_55 rfl (lv_at hl 2 rfl) ?_
      obtain ⟨hi56, h⟩ := if_s1 h
      refine a_I 3 hx hb hK hP hcb aln_3 hi56 dX7_askedFor_56 ?_
      refine lv_ishl hx hb dX7_askedFor_57 ?_
      refine lv_ior hx hb dX7_askedFor_58 ?_
      obtain ⟨v59, ev59, h⟩ := lt_s1 h
      refine top_i ev59 ?_
      refine lv_istore_n (lv' := [(1, .int v59), (0, .ref (bs + 1)), (2, .int x2)]) hx hb dX7_askedFor_59 rfl hl (by decide) rfl (fun ls hl => ?_)
      exact wX7_askedFor_60 bs D y n k31_ r Gc hk31_ v59 x2 I J _ _ _ hP hS (lv_sub hl [1, 0, 2] rfl) h
theorem vX7_askedFor_31 {p : Program} {l : Launch} {e : Env} {s : State} {m : MethodId} {args : Array Value} {below : List Frame} {meth : Method} {c : Code} (bs : Nat) (D : va_G) (y : Y3) (n : Nat) (r : Int32 × M2) (Gc : Gx p s m args meth c cX7_askedFor 3 RX7 bs D y (some .int) 44)  : ∀ (q : Nat) (x1 : Int32) (x2 : Int32) (I : MI) (J : MJ) (H : Heap) (locs : List Loc) (ls : Array Slot), va_P D vwCl (wl bs y I J) H → va_S (FA bs) s.heap H locs → lv_has ls 3 [(0, .ref (bs + 1)), (1, .int x1), (2, .int x2)] → lX7_askedFor_31 n  q x1 x2 I J = some r → W p l e (rmm 0 0) s m args below meth c H locs 0 0 (QI below args s bs D y r) (F0 m 31 ls []) := by
  intro q
  induction q with
  | zero =>
    intro x1 x2 I J H locs ls hP hS hl h
    have h : (none : Option (Int32 × M2)) = some r := h
    cases h
  | succ q ih =>
    intro x1 x2 I J H locs ls hP hS hl h
    have h : fX7_askedFor_31 n  (lX7_askedFor_31 n  q) x1 x2 I J = some r := h
    exact wX7_askedFor_31 bs D y n  (lX7_askedFor_31 n  q) r Gc  ih x1 x2 I J H locs ls hP hS hl h
set_option maxHeartbeats 4000000 in
set_option maxRecDepth 100000 in
theorem wX7_askedFor_4 {p : Program} {l : Launch} {e : Env} {s : State} {m : MethodId} {args : Array Value} {below : List Frame} {meth : Method} {c : Code} (bs : Nat) (D : va_G) (y : Y3) (n : Nat) (k4_ : Int32 → Int32 → MI → MJ → Option (Int32 × M2)) (r : Int32 × M2) (Gc : Gx p s m args meth c cX7_askedFor 3 RX7 bs D y (some .int) 44) (hk4_ : ∀ (x1 : Int32) (x2 : Int32) (I : MI) (J : MJ) (H : Heap) (locs : List Loc) (ls : Array Slot), va_P D vwCl (wl bs y I J) H → va_S (FA bs) s.heap H locs → lv_has ls 3 [(0, .ref (bs + 1)), (1, .int x1), (2, .int x2)] → k4_ x1 x2 I J = some r → W p l e (rmm 0 0) s m args below meth c H locs 0 0 (QI below args s bs D y r) (F0 m 4 ls [])) (x1 : Int32) (x2 : Int32) (I : MI) (J : MJ) (H : Heap) (locs : List Loc) (ls : Array Slot) (hP : va_P D vwCl (wl bs y I J) H) (hS : va_S (FA bs) s.heap H locs) (hl : lv_has ls 3 [(0, .ref (bs + 1)), (1, .int x1), (2, .int x2)]) (h : fX7_askedFor_4 n k4_ x1 x2 I J = some r) : W p l e (rmm 0 0) s m args below meth c H locs 0 0 (QI below args s bs D y r) (F0 m 4 ls []) := by
  obtain ⟨hx, hb, hml, hown, hts, hK, hN, hL, hr, hlocks, hcb⟩ := id Gc
  unfold fX7_askedFor_4 at h
  refine lv_iload_n hx hb dX7_askedFor_4 rfl (lv_at hl 2 rfl) ?_
  refine lv_aload_n hx hb dX7_askedFor_5 rfl (lv_at hl 0 rfl) ?_
  refine g_I (C := RX3) (T := TX3) (N := 11) (ci := 3) 1 8 hx hb hts hown hK hP in_X3 rfl hcb okF_1_8 fl_75 dX7_askedFor_6 ?_
  refine lv_icmp_ge (tgt := 29) hx hb dX7_askedFor_9 (by decide) (fun c9 => ?_) (fun c9 => ?_)
  · replace h := if_t c9 h
    refine lv_iconst (v := (0 : Int32)) hx hb dX7_askedFor_29 (by decide) ?_
    refine lv_istore_n (lv' := [(2, .int (0 : Int32)), (0, .ref (bs + 1)), (1, .int x1)]) hx hb dX7_askedFor_30 rfl hl (by decide) rfl (fun ls hl => ?_)
    exact vX7_askedFor_31 bs D y n  r Gc  n x1 (0 : Int32) I J _ _ _ hP hS (lv_sub hl [1, 2, 0] rfl) h
  · replace h := if_f c9 h
    refine lv_iload_n hx hb dX7_askedFor_12 rfl (lv_at hl 1 rfl) ?_
    refine lv_iconst (v := (1 : Int32)) hx hb dX7_askedFor_13 (by decide) ?_
    refine lv_aload_n hx hb dX7_askedFor_14 rfl (lv_at hl 0 rfl) ?_
    refine g_R (C := RX3) (T := TX3) (N := 11) (ci := 3) 1 4 6 hx hb hts hown hK hP in_X3 rfl hcb okF_1_4 rfc_1_4 fl_76 dX7_askedFor_15 ?_
    refine lv_iload_n hx hb dX7_askedFor_18 rfl (lv_at hl 2 rfl) ?_
    obtain ⟨hi19, h⟩ := if_s1 h
    refine a_I 6 hx hb hK hP hcb aln_6 hi19 dX7_askedFor_19 ?_
    refine lv_ishl hx hb dX7_askedFor_20 ?_
    refine lv_ior hx hb dX7_askedFor_21 ?_
    obtain ⟨v22, ev22, h⟩ := lt_s1 h
    refine top_i ev22 ?_
    refine lv_istore_n (lv' := [(1, .int v22), (0, .ref (bs + 1)), (2, .int x2)]) hx hb dX7_askedFor_22 rfl hl (by decide) rfl (fun ls hl => ?_)
    refine lv_iinc (v := (x2 + (1 : Int32))) (lv' := [(2, .int (x2 + (1 : Int32))), (1, .int v22), (0, .ref (bs + 1))]) hx hb dX7_askedFor_23 hl (k := 2) rfl rfl (by decide) rfl (fun ls hl => ?_)
    refine lv_goto (tgt := 4) hx hb dX7_askedFor_26 (by decide) ?_
    exact hk4_ v22 (x2 + (1 : Int32)) I J _ _ _ hP hS (lv_sub hl [2, 1, 0] rfl) h
theorem vX7_askedFor_4 {p : Program} {l : Launch} {e : Env} {s : State} {m : MethodId} {args : Array Value} {below : List Frame} {meth : Method} {c : Code} (bs : Nat) (D : va_G) (y : Y3) (n : Nat) (r : Int32 × M2) (Gc : Gx p s m args meth c cX7_askedFor 3 RX7 bs D y (some .int) 44)  : ∀ (q : Nat) (x1 : Int32) (x2 : Int32) (I : MI) (J : MJ) (H : Heap) (locs : List Loc) (ls : Array Slot), va_P D vwCl (wl bs y I J) H → va_S (FA bs) s.heap H locs → lv_has ls 3 [(0, .ref (bs + 1)), (1, .int x1), (2, .int x2)] → lX7_askedFor_4 n  q x1 x2 I J = some r → W p l e (rmm 0 0) s m args below meth c H locs 0 0 (QI below args s bs D y r) (F0 m 4 ls []) := by
  intro q
  induction q with
  | zero =>
    intro x1 x2 I J H locs ls hP hS hl h
    have h : (none : Option (Int32 × M2)) = some r := h
    cases h
  | succ q ih =>
    intro x1 x2 I J H locs ls hP hS hl h
    have h : fX7_askedFor_4 n  (lX7_askedFor_4 n  q) x1 x2 I J = some r := h
    exact wX7_askedFor_4 bs D y n  (lX7_askedFor_4 n  q) r Gc  ih x1 x2 I J H locs ls hP hS hl h
set_option maxHeartbeats 4000000 in
set_option maxRecDepth 100000 in
theorem cX7_askedFor_ (l : Launch) (bs : Nat) (D : va_G) (y : Y3) (hcb : 44 ≤ y.2.2.2) (n : Nat) (I : MI) (J : MJ) (r : Int32 × M2) (h : fX7_askedFor n  I J = some r) : Met l yX7_askedFor (.code yX7_askedFor cX7_askedFor 3 (some .int) :: gtb) (rmm 0 0) (va_Pc [.ref (bs + 1)] (HB bs D y I J)) (QcI bs D y r) 0 0 (FA bs) := by
  refine Met.ofW (cc := cX7_askedFor) (maxL := 3) (ret := (some .int)) (by decide) rfl ?_
  intro p e s m args below meth c s₁ B hml hv
  obtain ⟨rfl, hP, hK, hN, hL⟩ := hv
  have hx := B.exec
  have hb := B.bytes
  have hr := B.returns
  have hts0 := atoms_spec (ws := .code yX7_askedFor cX7_askedFor 3 (some .int) :: gtb) B.pre
  have hts : ∀ w ∈ gtb, w.before [.ref (bs + 1)].toArray s = true := fun w hw => hts0 w (List.mem_cons_of_mem _ hw)
  have hown : s.vm.findClass RX7 = some m.cls := findClass_of_methodNamed B.named
  have hlocks := B.notSynchronized
  have hS : va_S (FA bs) s.heap s.heap [] := va_S.rf
  have Gc : Gx p s m [.ref (bs + 1)].toArray meth c cX7_askedFor 3 RX7 bs D y (some .int) 44 := ⟨hx, hb, hml, hown, hts, hK, hN, hL, hr, hlocks, hcb⟩
  have hl := lv_entry [.ref (bs + 1)] (n := 3) (Nat.le_of_ble_eq_true rfl)
  rw [lg_entry_eq]
  generalize (lg_sl [.ref (bs + 1)] ++ List.replicate (3 - (lg_sl [.ref (bs + 1)]).length) Slot.unset).toArray = ls at hl ⊢
  have hl : lv_has ls 3 [(0, .ref (bs + 1))] := hl
  change W p l e (rmm 0 0) s m [.ref (bs + 1)].toArray below meth c s.heap [] 0 0 (QI below [.ref (bs + 1)].toArray s bs D y r) (F0 m 0 ls [])
  unfold fX7_askedFor at h
  refine lv_iconst (v := (0 : Int32)) hx hb dX7_askedFor_0 (by decide) ?_
  refine lv_istore_n (lv' := [(1, .int (0 : Int32)), (0, .ref (bs + 1))]) hx hb dX7_askedFor_1 rfl hl (by decide) rfl (fun ls hl => ?_)
  refine lv_iconst (v := (0 : Int32)) hx hb dX7_askedFor_2 (by decide) ?_
  refine lv_istore_n (lv' := [(2, .int (0 : Int32)), (1, .int (0 : Int32)), (0, .ref (bs + 1))]) hx hb dX7_askedFor_3 rfl hl (by decide) rfl (fun ls hl => ?_)
  exact vX7_askedFor_4 bs D y n  r Gc  n (0 : Int32) (0 : Int32) I J _ _ _ hP hS (lv_sub hl [2, 1, 0] rfl) h
theorem dX7_takeLetters_0 : decode cX7_takeLetters 0 = .ok (.iconst 0, 1) := by decide +kernel
theorem dX7_takeLetters_1 : decode cX7_takeLetters 1 = .ok (.istore_n 3, 1) := by decide +kernel
theorem dX7_takeLetters_2 : decode cX7_takeLetters 2 = .ok (.iconst 0, 1) := by decide +kernel
theorem dX7_takeLetters_3 : decode cX7_takeLetters 3 = .ok (.istore 4, 2) := by decide +kernel
theorem dX7_takeLetters_5 : decode cX7_takeLetters 5 = .ok (.iload 4, 2) := by decide +kernel
theorem dX7_takeLetters_7 : decode cX7_takeLetters 7 = .ok (.iload_n 1, 1) := by decide +kernel
theorem dX7_takeLetters_8 : decode cX7_takeLetters 8 = .ok (.if_icmp .ge 39, 3) := by decide +kernel
theorem dX7_takeLetters_11 : decode cX7_takeLetters 11 = .ok (.iload_n 3, 1) := by decide +kernel
theorem dX7_takeLetters_12 : decode cX7_takeLetters 12 = .ok (.iconst 4, 1) := by decide +kernel
theorem dX7_takeLetters_13 : decode cX7_takeLetters 13 = .ok (.if_icmp .ge 34, 3) := by decide +kernel
theorem dX7_takeLetters_16 : decode cX7_takeLetters 16 = .ok (.iload_n 2, 1) := by decide +kernel
theorem dX7_takeLetters_17 : decode cX7_takeLetters 17 = .ok (.i2l, 1) := by decide +kernel
theorem dX7_takeLetters_18 : decode cX7_takeLetters 18 = .ok (.iload 4, 2) := by decide +kernel
theorem dX7_takeLetters_20 : decode cX7_takeLetters 20 = .ok (.invokestatic 28, 3) := by decide +kernel
theorem dX7_takeLetters_23 : decode cX7_takeLetters 23 = .ok (.ifCond .eq 18, 3) := by decide +kernel
theorem dX7_takeLetters_26 : decode cX7_takeLetters 26 = .ok (.aload_n 0, 1) := by decide +kernel
theorem dX7_takeLetters_27 : decode cX7_takeLetters 27 = .ok (.getfield 18, 3) := by decide +kernel
theorem dX7_takeLetters_30 : decode cX7_takeLetters 30 = .ok (.iload_n 1, 1) := by decide +kernel
theorem dX7_takeLetters_31 : decode cX7_takeLetters 31 = .ok (.iconst 4, 1) := by decide +kernel
theorem dX7_takeLetters_32 : decode cX7_takeLetters 32 = .ok (.imul, 1) := by decide +kernel
theorem dX7_takeLetters_33 : decode cX7_takeLetters 33 = .ok (.iload_n 3, 1) := by decide +kernel
theorem dX7_takeLetters_34 : decode cX7_takeLetters 34 = .ok (.iadd, 1) := by decide +kernel
theorem dX7_takeLetters_35 : decode cX7_takeLetters 35 = .ok (.iload 4, 2) := by decide +kernel
theorem dX7_takeLetters_37 : decode cX7_takeLetters 37 = .ok (.iastore, 1) := by decide +kernel
theorem dX7_takeLetters_38 : decode cX7_takeLetters 38 = .ok (.iinc 3 1, 3) := by decide +kernel
theorem dX7_takeLetters_41 : decode cX7_takeLetters 41 = .ok (.iinc 4 1, 3) := by decide +kernel
theorem dX7_takeLetters_44 : decode cX7_takeLetters 44 = .ok (.goto (-39), 3) := by decide +kernel
theorem dX7_takeLetters_47 : decode cX7_takeLetters 47 = .ok (.aload_n 0, 1) := by decide +kernel
theorem dX7_takeLetters_48 : decode cX7_takeLetters 48 = .ok (.getfield 9, 3) := by decide +kernel
theorem dX7_takeLetters_51 : decode cX7_takeLetters 51 = .ok (.iload_n 1, 1) := by decide +kernel
theorem dX7_takeLetters_52 : decode cX7_takeLetters 52 = .ok (.iload_n 3, 1) := by decide +kernel
theorem dX7_takeLetters_53 : decode cX7_takeLetters 53 = .ok (.iastore, 1) := by decide +kernel
theorem dX7_takeLetters_54 : decode cX7_takeLetters 54 = .ok (.return_, 1) := by decide +kernel
set_option maxHeartbeats 4000000 in
set_option maxRecDepth 100000 in
theorem wX7_takeLetters_47 {p : Program} {l : Launch} {e : Env} {s : State} {m : MethodId} {args : Array Value} {below : List Frame} {meth : Method} {c : Code} (bs : Nat) (D : va_G) (y : Y3) (n : Nat) (r : M2) (Gc : Gx p s m args meth c cX7_takeLetters 5 RX7 bs D y none 44)  (x1 : Int32) (x3 : Int32) (I : MI) (J : MJ) (H : Heap) (locs : List Loc) (ls : Array Slot) (hP : va_P D vwCl (wl bs y I J) H) (hS : va_S (FA bs) s.heap H locs) (hl : lv_has ls 5 [(0, .ref (bs + 11)), (1, .int x1), (3, .int x3)]) (h : fX7_takeLetters_47 n  x1 x3 I J = some r) : W p l e (rmm 1 22) s m args below meth c H locs 0 0 (QV below args s bs D y r) (F0 m 47 ls []) := by
  obtain ⟨hx, hb, hml, hown, hts, hK, hN, hL, hr, hlocks, hcb⟩ := id Gc
  unfold fX7_takeLetters_47 at h
  refine lv_aload_n hx hb dX7_takeLetters_47 rfl (lv_at hl 0 rfl) ?_
  refine g_R (C := RX7) (T := TX7) (N := 7) (ci := 7) 11 2 12 hx hb hts hown hK hP in_X7 rfl hcb okF_11_2 rfc_11_2 fl_5 dX7_takeLetters_48 ?_
  refine lv_iload_n hx hb dX7_takeLetters_51 rfl (lv_at hl 1 rfl) ?_
  refine lv_iload_n hx hb dX7_takeLetters_52 rfl (lv_at hl 2 rfl) ?_
  obtain ⟨hi53, h⟩ := if_s1 h
  obtain ⟨I53, eI53, h⟩ := lt_s1 h
  refine t_I 12 eI53 hx hb hK hP hS hcb aln_12 hi53 dX7_takeLetters_53 (fun H locs hP hS => ?_)
  exact r_V hx hb hr hlocks hP hK hN hL hS h dX7_takeLetters_54
set_option maxHeartbeats 4000000 in
set_option maxRecDepth 100000 in
theorem wX7_takeLetters_41 {p : Program} {l : Launch} {e : Env} {s : State} {m : MethodId} {args : Array Value} {below : List Frame} {meth : Method} {c : Code} (bs : Nat) (D : va_G) (y : Y3) (n : Nat) (k5_ : Int32 → Int32 → Int32 → Int32 → MI → MJ → Option (M2)) (r : M2) (Gc : Gx p s m args meth c cX7_takeLetters 5 RX7 bs D y none 44) (hk5_ : ∀ (x1 : Int32) (x2 : Int32) (x3 : Int32) (x4 : Int32) (I : MI) (J : MJ) (H : Heap) (locs : List Loc) (ls : Array Slot), va_P D vwCl (wl bs y I J) H → va_S (FA bs) s.heap H locs → lv_has ls 5 [(0, .ref (bs + 11)), (1, .int x1), (2, .int x2), (3, .int x3), (4, .int x4)] → k5_ x1 x2 x3 x4 I J = some r → W p l e (rmm 1 22) s m args below meth c H locs 0 0 (QV below args s bs D y r) (F0 m 5 ls [])) (x1 : Int32) (x2 : Int32) (x3 : Int32) (x4 : Int32) (I : MI) (J : MJ) (H : Heap) (locs : List Loc) (ls : Array Slot) (hP : va_P D vwCl (wl bs y I J) H) (hS : va_S (FA bs) s.heap H locs) (hl : lv_has ls 5 [(0, .ref (bs + 11)), (1, .int x1), (2, .int x2), (3, .int x3), (4, .int x4)]) (h : fX7_takeLetters_41 n k5_ x1 x2 x3 x4 I J = some r) : W p l e (rmm 1 22) s m args below meth c H locs 0 0 (QV below args s bs D y r) (F0 m 41 ls []) := by
  obtain ⟨hx, hb, hml, hown, hts, hK, hN, hL, hr, hlocks, hcb⟩ := id Gc
  unfold fX7_takeLetters_41 at h
  refine lv_iinc (v := (x4 + (1 : Int32))) (lv' := [(4, .int (x4 + (1 : Int32))), (0, .ref (bs + 11)), (1, .int x1), (2, .int x2), (3, .int x3)]) hx hb dX7_takeLetters_41 hl (k := 4) rfl rfl (by decide) rfl (fun ls hl => ?_)
  refine lv_goto (tgt := 5) hx hb dX7_takeLetters_44 (by decide) ?_
  exact hk5_ x1 x2 x3 (x4 + (1 : Int32)) I J _ _ _ hP hS (lv_sub hl [1, 2, 3, 4, 0] rfl) h
set_option maxHeartbeats 4000000 in
set_option maxRecDepth 100000 in
theorem wX7_takeLetters_5 {p : Program} {l : Launch} {e : Env} {s : State} {m : MethodId} {args : Array Value} {below : List Frame} {meth : Method} {c : Code} (bs : Nat) (D : va_G) (y : Y3) (n : Nat) (k5_ : Int32 → Int32 → Int32 → Int32 → MI → MJ → Option (M2)) (r : M2) (Gc : Gx p s m args meth c cX7_takeLetters 5 RX7 bs D y none 44) (hk5_ : ∀ (x1 : Int32) (x2 : Int32) (x3 : Int32) (x4 : Int32) (I : MI) (J : MJ) (H : Heap) (locs : List Loc) (ls : Array Slot), va_P D vwCl (wl bs y I J) H → va_S (FA bs) s.heap H locs → lv_has ls 5 [(0, .ref (bs + 11)), (1, .int x1), (2, .int x2), (3, .int x3), (4, .int x4)] → k5_ x1 x2 x3 x4 I J = some r → W p l e (rmm 1 22) s m args below meth c H locs 0 0 (QV below args s bs D y r) (F0 m 5 ls [])) (x1 : Int32) (x2 : Int32) (x3 : Int32) (x4 : Int32) (I : MI) (J : MJ) (H : Heap) (locs : List Loc) (ls : Array Slot) (hP : va_P D vwCl (wl bs y I J) H) (hS : va_S (FA bs) s.heap H locs) (hl : lv_has ls 5 [(0, .ref (bs + 11)), (1, .int x1), (2, .int x2), (3, .int x3), (4, .int x4)]) (h : fX7_takeLetters_5 n k5_ x1 x2 x3 x4 I J = some r) : W p l e (rmm 1 22) s m args below meth c H locs 0 0 (QV below args s bs D y r) (F0 m 5 ls []) := by
  obtain ⟨hx, hb, hml, hown, hts, hK, hN, hL, hr, hlocks, hcb⟩ := id Gc
  unfold fX7_takeLetters_5 at h
  refine lv_iload hx hb dX7_takeLetters_5 (lv_at hl 4 rfl) ?_
  refine lv_iload_n hx hb dX7_takeLetters_7 rfl (lv_at hl 1 rfl) ?_
  refine lv_icmp_ge (tgt := 47) hx hb dX7_takeLetters_8 (by decide) (fun c8 => ?_) (fun c8 => ?_)
  · replace h := if_t c8 h
    exact wX7_takeLetters_47 bs D y n  r Gc  x1 x3 I J _ _ _ hP hS (lv_sub hl [0, 1, 3] rfl) h
  · replace h := if_f c8 h
    refine lv_iload_n hx hb dX7_takeLetters_11 rfl (lv_at hl 3 rfl) ?_
    refine lv_iconst (v := (4 : Int32)) hx hb dX7_takeLetters_12 (by decide) ?_
    refine lv_icmp_ge (tgt := 47) hx hb dX7_takeLetters_13 (by decide) (fun c13 => ?_) (fun c13 => ?_)
    · replace h := if_t c13 h
      exact wX7_takeLetters_47 bs D y n  r Gc  x1 x3 I J _ _ _ hP hS (lv_sub hl [0, 1, 3] rfl) h
    · replace h := if_f c13 h
      refine lv_iload_n hx hb dX7_takeLetters_16 rfl (lv_at hl 2 rfl) ?_
      refine lv_i2l (v := (x2).toInt64) hx hb dX7_takeLetters_17 rfl ?_
      refine lv_iload hx hb dX7_takeLetters_18 (lv_at hl 4 rfl) ?_
      obtain ⟨r20, er20, h⟩ := bd_s1 h
      refine c_NI (As := [.long (x2).toInt64, .int x4]) (rest := []) hx hb hml hown hts hK hN hL hP hS (cX9_hasBit_ l bs D y hcb n (x2).toInt64 x4 I J r20 er20) ok_X9_hasBit ov_X9_hasBit mn_0 ⟨Nat.le_of_ble_eq_true rfl, Nat.le_of_ble_eq_true rfl⟩ hl.1 rfl rfl (Nat.le_of_ble_eq_true rfl) ⟨Nat.zero_le _, Nat.zero_le _⟩ dX7_takeLetters_20 (fun H locs hP hS => ?_)
      refine lv_if_eq (tgt := 41) hx hb dX7_takeLetters_23 (by decide) (fun c23 => ?_) (fun c23 => ?_)
      · replace h := if_t c23 h
        exact wX7_takeLetters_41 bs D y n k5_ r Gc hk5_ x1 x2 x3 x4 r20.2.1 r20.2.2 _ _ _ hP hS (lv_sub hl [0, 1, 2, 3, 4] rfl) h
      · replace h := if_f c23 h
        refine lv_aload_n hx hb dX7_takeLetters_26 rfl (lv_at hl 0 rfl) ?_
        refine g_R (C := RX7) (T := TX7) (N := 7) (ci := 7) 11 4 14 hx hb hts hown hK hP in_X7 rfl hcb okF_11_4 rfc_11_4 fl_6 dX7_takeLetters_27 ?_
        refine lv_iload_n hx hb dX7_takeLetters_30 rfl (lv_at hl 1 rfl) ?_
        refine lv_iconst (v := (4 : Int32)) hx hb dX7_takeLetters_31 (by decide) ?_
        refine lv_imul hx hb dX7_takeLetters_32 ?_
        refine lv_iload_n hx hb dX7_takeLetters_33 rfl (lv_at hl 3 rfl) ?_
        refine lv_iadd hx hb dX7_takeLetters_34 ?_
        refine lv_iload hx hb dX7_takeLetters_35 (lv_at hl 4 rfl) ?_
        obtain ⟨hi37, h⟩ := if_s1 h
        obtain ⟨I37, eI37, h⟩ := lt_s1 h
        refine t_I 14 eI37 hx hb hK hP hS hcb aln_14 hi37 dX7_takeLetters_37 (fun H locs hP hS => ?_)
        refine lv_iinc (v := (x3 + (1 : Int32))) (lv' := [(3, .int (x3 + (1 : Int32))), (0, .ref (bs + 11)), (1, .int x1), (2, .int x2), (4, .int x4)]) hx hb dX7_takeLetters_38 hl (k := 3) rfl rfl (by decide) rfl (fun ls hl => ?_)
        exact wX7_takeLetters_41 bs D y n k5_ r Gc hk5_ x1 x2 (x3 + (1 : Int32)) x4 I37 r20.2.2 _ _ _ hP hS (lv_sub hl [1, 2, 3, 0, 4] rfl) h
theorem vX7_takeLetters_5 {p : Program} {l : Launch} {e : Env} {s : State} {m : MethodId} {args : Array Value} {below : List Frame} {meth : Method} {c : Code} (bs : Nat) (D : va_G) (y : Y3) (n : Nat) (r : M2) (Gc : Gx p s m args meth c cX7_takeLetters 5 RX7 bs D y none 44)  : ∀ (q : Nat) (x1 : Int32) (x2 : Int32) (x3 : Int32) (x4 : Int32) (I : MI) (J : MJ) (H : Heap) (locs : List Loc) (ls : Array Slot), va_P D vwCl (wl bs y I J) H → va_S (FA bs) s.heap H locs → lv_has ls 5 [(0, .ref (bs + 11)), (1, .int x1), (2, .int x2), (3, .int x3), (4, .int x4)] → lX7_takeLetters_5 n  q x1 x2 x3 x4 I J = some r → W p l e (rmm 1 22) s m args below meth c H locs 0 0 (QV below args s bs D y r) (F0 m 5 ls []) := by
  intro q
  induction q with
  | zero =>
    intro x1 x2 x3 x4 I J H locs ls hP hS hl h
    have h : (none : Option (M2)) = some r := h
    cases h
  | succ q ih =>
    intro x1 x2 x3 x4 I J H locs ls hP hS hl h
    have h : fX7_takeLetters_5 n  (lX7_takeLetters_5 n  q) x1 x2 x3 x4 I J = some r := h
    exact wX7_takeLetters_5 bs D y n  (lX7_takeLetters_5 n  q) r Gc  ih x1 x2 x3 x4 I J H locs ls hP hS hl h
set_option maxHeartbeats 4000000 in
set_option maxRecDepth 100000 in
theorem cX7_takeLetters_ (l : Launch) (bs : Nat) (D : va_G) (y : Y3) (hcb : 44 ≤ y.2.2.2) (n : Nat) (x1 : Int32) (x2 : Int32) (I : MI) (J : MJ) (r : M2) (h : fX7_takeLetters n x1 x2 I J = some r) : Met l yX7_takeLetters (.code yX7_takeLetters cX7_takeLetters 5 none :: gtb) (rmm 1 22) (va_Pc [.ref (bs + 11), .int x1, .int x2] (HB bs D y I J)) (QcV bs D y r) 0 0 (FA bs) := by
  refine Met.ofW (cc := cX7_takeLetters) (maxL := 5) (ret := none) (by decide) rfl ?_
  intro p e s m args below meth c s₁ B hml hv
  obtain ⟨rfl, hP, hK, hN, hL⟩ := hv
  have hx := B.exec
  have hb := B.bytes
  have hr := B.returns
  have hts0 := atoms_spec (ws := .code yX7_takeLetters cX7_takeLetters 5 none :: gtb) B.pre
  have hts : ∀ w ∈ gtb, w.before [.ref (bs + 11), .int x1, .int x2].toArray s = true := fun w hw => hts0 w (List.mem_cons_of_mem _ hw)
  have hown : s.vm.findClass RX7 = some m.cls := findClass_of_methodNamed B.named
  have hlocks := B.notSynchronized
  have hS : va_S (FA bs) s.heap s.heap [] := va_S.rf
  have Gc : Gx p s m [.ref (bs + 11), .int x1, .int x2].toArray meth c cX7_takeLetters 5 RX7 bs D y none 44 := ⟨hx, hb, hml, hown, hts, hK, hN, hL, hr, hlocks, hcb⟩
  have hl := lv_entry [.ref (bs + 11), .int x1, .int x2] (n := 5) (Nat.le_of_ble_eq_true rfl)
  rw [lg_entry_eq]
  generalize (lg_sl [.ref (bs + 11), .int x1, .int x2] ++ List.replicate (5 - (lg_sl [.ref (bs + 11), .int x1, .int x2]).length) Slot.unset).toArray = ls at hl ⊢
  have hl : lv_has ls 5 [(0, .ref (bs + 11)), (1, .int x1), (2, .int x2)] := hl
  change W p l e (rmm 1 22) s m [.ref (bs + 11), .int x1, .int x2].toArray below meth c s.heap [] 0 0 (QV below [.ref (bs + 11), .int x1, .int x2].toArray s bs D y r) (F0 m 0 ls [])
  unfold fX7_takeLetters at h
  refine lv_iconst (v := (0 : Int32)) hx hb dX7_takeLetters_0 (by decide) ?_
  refine lv_istore_n (lv' := [(3, .int (0 : Int32)), (0, .ref (bs + 11)), (1, .int x1), (2, .int x2)]) hx hb dX7_takeLetters_1 rfl hl (by decide) rfl (fun ls hl => ?_)
  refine lv_iconst (v := (0 : Int32)) hx hb dX7_takeLetters_2 (by decide) ?_
  refine lv_istore (lv' := [(4, .int (0 : Int32)), (3, .int (0 : Int32)), (0, .ref (bs + 11)), (1, .int x1), (2, .int x2)]) hx hb dX7_takeLetters_3 hl (by decide) rfl (fun ls hl => ?_)
  exact vX7_takeLetters_5 bs D y n  r Gc  n x1 x2 (0 : Int32) (0 : Int32) I J _ _ _ hP hS (lv_sub hl [2, 3, 4, 1, 0] rfl) h
theorem dX7_reckonBits_0 : decode cX7_reckonBits 0 = .ok (.iconst 0, 1) := by decide +kernel
theorem dX7_reckonBits_1 : decode cX7_reckonBits 1 = .ok (.istore 4, 2) := by decide +kernel
theorem dX7_reckonBits_3 : decode cX7_reckonBits 3 = .ok (.iconst 0, 1) := by decide +kernel
theorem dX7_reckonBits_4 : decode cX7_reckonBits 4 = .ok (.istore 5, 2) := by decide +kernel
theorem dX7_reckonBits_6 : decode cX7_reckonBits 6 = .ok (.iload 5, 2) := by decide +kernel
theorem dX7_reckonBits_8 : decode cX7_reckonBits 8 = .ok (.iload_n 1, 1) := by decide +kernel
theorem dX7_reckonBits_9 : decode cX7_reckonBits 9 = .ok (.if_icmp .gt 76, 3) := by decide +kernel
theorem dX7_reckonBits_12 : decode cX7_reckonBits 12 = .ok (.iload_n 2, 1) := by decide +kernel
theorem dX7_reckonBits_13 : decode cX7_reckonBits 13 = .ok (.i2l, 1) := by decide +kernel
theorem dX7_reckonBits_14 : decode cX7_reckonBits 14 = .ok (.iload 5, 2) := by decide +kernel
theorem dX7_reckonBits_16 : decode cX7_reckonBits 16 = .ok (.invokestatic 28, 3) := by decide +kernel
theorem dX7_reckonBits_19 : decode cX7_reckonBits 19 = .ok (.ifCond .eq 28, 3) := by decide +kernel
theorem dX7_reckonBits_22 : decode cX7_reckonBits 22 = .ok (.iload 4, 2) := by decide +kernel
theorem dX7_reckonBits_24 : decode cX7_reckonBits 24 = .ok (.iconst 4, 1) := by decide +kernel
theorem dX7_reckonBits_25 : decode cX7_reckonBits 25 = .ok (.if_icmp .ge 22, 3) := by decide +kernel
theorem dX7_reckonBits_28 : decode cX7_reckonBits 28 = .ok (.aload_n 0, 1) := by decide +kernel
theorem dX7_reckonBits_29 : decode cX7_reckonBits 29 = .ok (.getfield 21, 3) := by decide +kernel
theorem dX7_reckonBits_32 : decode cX7_reckonBits 32 = .ok (.iload 5, 2) := by decide +kernel
theorem dX7_reckonBits_34 : decode cX7_reckonBits 34 = .ok (.getstatic 81, 3) := by decide +kernel
theorem dX7_reckonBits_37 : decode cX7_reckonBits 37 = .ok (.iload 4, 2) := by decide +kernel
theorem dX7_reckonBits_39 : decode cX7_reckonBits 39 = .ok (.iaload, 1) := by decide +kernel
theorem dX7_reckonBits_40 : decode cX7_reckonBits 40 = .ok (.iastore, 1) := by decide +kernel
theorem dX7_reckonBits_41 : decode cX7_reckonBits 41 = .ok (.iinc 4 1, 3) := by decide +kernel
theorem dX7_reckonBits_44 : decode cX7_reckonBits 44 = .ok (.goto 35, 3) := by decide +kernel
theorem dX7_reckonBits_47 : decode cX7_reckonBits 47 = .ok (.aload_n 0, 1) := by decide +kernel
theorem dX7_reckonBits_48 : decode cX7_reckonBits 48 = .ok (.getfield 21, 3) := by decide +kernel
theorem dX7_reckonBits_51 : decode cX7_reckonBits 51 = .ok (.iload 5, 2) := by decide +kernel
theorem dX7_reckonBits_53 : decode cX7_reckonBits 53 = .ok (.aload_n 3, 1) := by decide +kernel
theorem dX7_reckonBits_54 : decode cX7_reckonBits 54 = .ok (.getfield 75, 3) := by decide +kernel
theorem dX7_reckonBits_57 : decode cX7_reckonBits 57 = .ok (.iload 5, 2) := by decide +kernel
theorem dX7_reckonBits_59 : decode cX7_reckonBits 59 = .ok (.iaload, 1) := by decide +kernel
theorem dX7_reckonBits_60 : decode cX7_reckonBits 60 = .ok (.iconst 2, 1) := by decide +kernel
theorem dX7_reckonBits_61 : decode cX7_reckonBits 61 = .ok (.if_icmp .ne 16, 3) := by decide +kernel
theorem dX7_reckonBits_64 : decode cX7_reckonBits 64 = .ok (.aload_n 3, 1) := by decide +kernel
theorem dX7_reckonBits_65 : decode cX7_reckonBits 65 = .ok (.iload 5, 2) := by decide +kernel
theorem dX7_reckonBits_67 : decode cX7_reckonBits 67 = .ok (.aload_n 0, 1) := by decide +kernel
theorem dX7_reckonBits_68 : decode cX7_reckonBits 68 = .ok (.getfield 21, 3) := by decide +kernel
theorem dX7_reckonBits_71 : decode cX7_reckonBits 71 = .ok (.invokevirtual 84, 3) := by decide +kernel
theorem dX7_reckonBits_74 : decode cX7_reckonBits 74 = .ok (.goto 4, 3) := by decide +kernel
theorem dX7_reckonBits_77 : decode cX7_reckonBits 77 = .ok (.iconst 0, 1) := by decide +kernel
theorem dX7_reckonBits_78 : decode cX7_reckonBits 78 = .ok (.iastore, 1) := by decide +kernel
theorem dX7_reckonBits_79 : decode cX7_reckonBits 79 = .ok (.iinc 5 1, 3) := by decide +kernel
theorem dX7_reckonBits_82 : decode cX7_reckonBits 82 = .ok (.goto (-76), 3) := by decide +kernel
theorem dX7_reckonBits_85 : decode cX7_reckonBits 85 = .ok (.aload_n 0, 1) := by decide +kernel
theorem dX7_reckonBits_86 : decode cX7_reckonBits 86 = .ok (.getfield 21, 3) := by decide +kernel
theorem dX7_reckonBits_89 : decode cX7_reckonBits 89 = .ok (.iload_n 1, 1) := by decide +kernel
theorem dX7_reckonBits_90 : decode cX7_reckonBits 90 = .ok (.iaload, 1) := by decide +kernel
theorem dX7_reckonBits_91 : decode cX7_reckonBits 91 = .ok (.ldc 88, 2) := by decide +kernel
theorem dX7_reckonBits_93 : decode cX7_reckonBits 93 = .ok (.iand, 1) := by decide +kernel
theorem dX7_reckonBits_94 : decode cX7_reckonBits 94 = .ok (.ireturn, 1) := by decide +kernel
set_option maxHeartbeats 4000000 in
set_option maxRecDepth 100000 in
theorem wX7_reckonBits_79 {p : Program} {l : Launch} {e : Env} {s : State} {m : MethodId} {args : Array Value} {below : List Frame} {meth : Method} {c : Code} (bs : Nat) (D : va_G) (y : Y3) (n : Nat) (k6_ : Int32 → Int32 → Int32 → Int32 → MI → MJ → Option (Int32 × M2)) (r : Int32 × M2) (Gc : Gx p s m args meth c cX7_reckonBits 6 RX7 bs D y (some .int) 44) (hk6_ : ∀ (x1 : Int32) (x2 : Int32) (x4 : Int32) (x5 : Int32) (I : MI) (J : MJ) (H : Heap) (locs : List Loc) (ls : Array Slot), va_P D vwCl (wl bs y I J) H → va_S (FA bs) s.heap H locs → lv_has ls 6 [(0, .ref (bs + 11)), (1, .int x1), (2, .int x2), (3, .ref (bs + 1)), (4, .int x4), (5, .int x5)] → k6_ x1 x2 x4 x5 I J = some r → W p l e (rmm 2 46) s m args below meth c H locs 0 0 (QI below args s bs D y r) (F0 m 6 ls [])) (x1 : Int32) (x2 : Int32) (x4 : Int32) (x5 : Int32) (I : MI) (J : MJ) (H : Heap) (locs : List Loc) (ls : Array Slot) (hP : va_P D vwCl (wl bs y I J) H) (hS : va_S (FA bs) s.heap H locs) (hl : lv_has ls 6 [(0, .ref (bs + 11)), (1, .int x1), (2, .int x2), (3, .ref (bs + 1)), (4, .int x4), (5, .int x5)]) (h : fX7_reckonBits_79 n k6_ x1 x2 x4 x5 I J = some r) : W p l e (rmm 2 46) s m args below meth c H locs 0 0 (QI below args s bs D y r) (F0 m 79 ls []) := by
  obtain ⟨hx, hb, hml, hown, hts, hK, hN, hL, hr, hlocks, hcb⟩ := id Gc
  unfold fX7_reckonBits_79 at h
  refine lv_iinc (v := (x5 + (1 : Int32))) (lv' := [(5, .int (x5 + (1 : Int32))), (0, .ref (bs + 11)), (1, .int x1), (2, .int x2), (3, .ref (bs + 1)), (4, .int x4)]) hx hb dX7_reckonBits_79 hl (k := 5) rfl rfl (by decide) rfl (fun ls hl => ?_)
  refine lv_goto (tgt := 6) hx hb dX7_reckonBits_82 (by decide) ?_
  exact hk6_ x1 x2 x4 (x5 + (1 : Int32)) I J _ _ _ hP hS (lv_sub hl [1, 2, 3, 4, 5, 0] rfl) h
set_option maxHeartbeats 4000000 in
set_option maxRecDepth 100000 in
theorem wX7_reckonBits_78 {p : Program} {l : Launch} {e : Env} {s : State} {m : MethodId} {args : Array Value} {below : List Frame} {meth : Method} {c : Code} (bs : Nat) (D : va_G) (y : Y3) (n : Nat) (k6_ : Int32 → Int32 → Int32 → Int32 → MI → MJ → Option (Int32 × M2)) (r : Int32 × M2) (Gc : Gx p s m args meth c cX7_reckonBits 6 RX7 bs D y (some .int) 44) (hk6_ : ∀ (x1 : Int32) (x2 : Int32) (x4 : Int32) (x5 : Int32) (I : MI) (J : MJ) (H : Heap) (locs : List Loc) (ls : Array Slot), va_P D vwCl (wl bs y I J) H → va_S (FA bs) s.heap H locs → lv_has ls 6 [(0, .ref (bs + 11)), (1, .int x1), (2, .int x2), (3, .ref (bs + 1)), (4, .int x4), (5, .int x5)] → k6_ x1 x2 x4 x5 I J = some r → W p l e (rmm 2 46) s m args below meth c H locs 0 0 (QI below args s bs D y r) (F0 m 6 ls [])) (x1 : Int32) (x2 : Int32) (x4 : Int32) (x5 : Int32) (s1 : Int32) (s2 : Int32) (I : MI) (J : MJ) (H : Heap) (locs : List Loc) (ls : Array Slot) (hP : va_P D vwCl (wl bs y I J) H) (hS : va_S (FA bs) s.heap H locs) (hl : lv_has ls 6 [(0, .ref (bs + 11)), (1, .int x1), (2, .int x2), (3, .ref (bs + 1)), (4, .int x4), (5, .int x5)]) (h : fX7_reckonBits_78 n k6_ x1 x2 x4 x5 s1 s2 I J = some r) : W p l e (rmm 2 46) s m args below meth c H locs 0 0 (QI below args s bs D y r) (F0 m 78 ls [.int s2, .int s1, .ref (bs + 15)]) := by
  obtain ⟨hx, hb, hml, hown, hts, hK, hN, hL, hr, hlocks, hcb⟩ := id Gc
  unfold fX7_reckonBits_78 at h
  obtain ⟨hi78, h⟩ := if_s1 h
  obtain ⟨I78, eI78, h⟩ := lt_s1 h
  refine t_I 15 eI78 hx hb hK hP hS hcb aln_15 hi78 dX7_reckonBits_78 (fun H locs hP hS => ?_)
  exact wX7_reckonBits_79 bs D y n k6_ r Gc hk6_ x1 x2 x4 x5 I78 J _ _ _ hP hS (lv_sub hl [0, 1, 2, 3, 4, 5] rfl) h
set_option maxHeartbeats 4000000 in
set_option maxRecDepth 100000 in
theorem wX7_reckonBits_47 {p : Program} {l : Launch} {e : Env} {s : State} {m : MethodId} {args : Array Value} {below : List Frame} {meth : Method} {c : Code} (bs : Nat) (D : va_G) (y : Y3) (n : Nat) (k6_ : Int32 → Int32 → Int32 → Int32 → MI → MJ → Option (Int32 × M2)) (r : Int32 × M2) (Gc : Gx p s m args meth c cX7_reckonBits 6 RX7 bs D y (some .int) 44) (hk6_ : ∀ (x1 : Int32) (x2 : Int32) (x4 : Int32) (x5 : Int32) (I : MI) (J : MJ) (H : Heap) (locs : List Loc) (ls : Array Slot), va_P D vwCl (wl bs y I J) H → va_S (FA bs) s.heap H locs → lv_has ls 6 [(0, .ref (bs + 11)), (1, .int x1), (2, .int x2), (3, .ref (bs + 1)), (4, .int x4), (5, .int x5)] → k6_ x1 x2 x4 x5 I J = some r → W p l e (rmm 2 46) s m args below meth c H locs 0 0 (QI below args s bs D y r) (F0 m 6 ls [])) (x1 : Int32) (x2 : Int32) (x4 : Int32) (x5 : Int32) (I : MI) (J : MJ) (H : Heap) (locs : List Loc) (ls : Array Slot) (hP : va_P D vwCl (wl bs y I J) H) (hS : va_S (FA bs) s.heap H locs) (hl : lv_has ls 6 [(0, .ref (bs + 11)), (1, .int x1), (2, .int x2), (3, .ref (bs + 1)), (4, .int x4), (5, .int x5)]) (h : fX7_reckonBits_47 n k6_ x1 x2 x4 x5 I J = some r) : W p l e (rmm 2 46) s m args below meth c H locs 0 0 (QI below args s bs D y r) (F0 m 47 ls []) := by
  obtain ⟨hx, hb, hml, hown, hts, hK, hN, hL, hr, hlocks, hcb⟩ := id Gc
  unfold fX7_reckonBits_47 at h
  refine lv_aload_n hx hb dX7_reckonBits_47 rfl (lv_at hl 0 rfl) ?_
  refine g_R (C := RX7) (T := TX7) (N := 7) (ci := 7) 11 5 15 hx hb hts hown hK hP in_X7 rfl hcb okF_11_5 rfc_11_5 fl_77 dX7_reckonBits_48 ?_
  refine lv_iload hx hb dX7_reckonBits_51 (lv_at hl 5 rfl) ?_
  refine lv_aload_n hx hb dX7_reckonBits_53 rfl (lv_at hl 3 rfl) ?_
  refine g_R (C := RX3) (T := TX3) (N := 11) (ci := 3) 1 0 2 hx hb hts hown hK hP in_X3 rfl hcb okF_1_0 rfc_1_0 fl_73 dX7_reckonBits_54 ?_
  refine lv_iload hx hb dX7_reckonBits_57 (lv_at hl 5 rfl) ?_
  obtain ⟨hi59, h⟩ := if_s1 h
  refine a_I 2 hx hb hK hP hcb aln_2 hi59 dX7_reckonBits_59 ?_
  refine lv_iconst (v := (2 : Int32)) hx hb dX7_reckonBits_60 (by decide) ?_
  refine lv_icmp_ne (tgt := 77) hx hb dX7_reckonBits_61 (by decide) (fun c61 => ?_) (fun c61 => ?_)
  · replace h := if_f c61 h
    refine lv_iconst (v := (0 : Int32)) hx hb dX7_reckonBits_77 (by decide) ?_
    exact wX7_reckonBits_78 bs D y n k6_ r Gc hk6_ x1 x2 x4 x5 x5 (0 : Int32) I J _ _ _ hP hS (lv_sub hl [0, 1, 2, 3, 4, 5] rfl) h
  · replace h := if_t c61 h
    refine lv_aload_n hx hb dX7_reckonBits_64 rfl (lv_at hl 3 rfl) ?_
    refine lv_iload hx hb dX7_reckonBits_65 (lv_at hl 5 rfl) ?_
    refine lv_aload_n hx hb dX7_reckonBits_67 rfl (lv_at hl 0 rfl) ?_
    refine g_R (C := RX7) (T := TX7) (N := 7) (ci := 7) 11 5 15 hx hb hts hown hK hP in_X7 rfl hcb okF_11_5 rfc_11_5 fl_77 dX7_reckonBits_68 ?_
    obtain ⟨r71, er71, h⟩ := bd_s1 h
    refine c_VI (k := 1) (ci := 3) (As := [.int x5, .ref (bs + 15)]) (rest := [.int x5, .ref (bs + 15)]) hx hb hml hown hts hK hN hL hP hS (cX3_reckon_ l bs D y hcb n x5 15 I J r71 er71) ok_X3_reckon ov_X3_reckon ml_45 ⟨Nat.le_of_ble_eq_true rfl, Nat.le_of_ble_eq_true rfl⟩ rfl hcb kd_1 hl.1 rfl rfl (Nat.le_of_ble_eq_true rfl) ⟨Nat.zero_le _, Nat.zero_le _⟩ dX7_reckonBits_71 (fun H locs hP hS => ?_)
    refine lv_goto (tgt := 78) hx hb dX7_reckonBits_74 (by decide) ?_
    exact wX7_reckonBits_78 bs D y n k6_ r Gc hk6_ x1 x2 x4 x5 x5 r71.1 r71.2.1 r71.2.2 _ _ _ hP hS (lv_sub hl [0, 1, 2, 3, 4, 5] rfl) h
set_option maxHeartbeats 4000000 in
set_option maxRecDepth 100000 in
theorem wX7_reckonBits_6 {p : Program} {l : Launch} {e : Env} {s : State} {m : MethodId} {args : Array Value} {below : List Frame} {meth : Method} {c : Code} (bs : Nat) (D : va_G) (y : Y3) (n : Nat) (k6_ : Int32 → Int32 → Int32 → Int32 → MI → MJ → Option (Int32 × M2)) (r : Int32 × M2) (Gc : Gx p s m args meth c cX7_reckonBits 6 RX7 bs D y (some .int) 44) (hk6_ : ∀ (x1 : Int32) (x2 : Int32) (x4 : Int32) (x5 : Int32) (I : MI) (J : MJ) (H : Heap) (locs : List Loc) (ls : Array Slot), va_P D vwCl (wl bs y I J) H → va_S (FA bs) s.heap H locs → lv_has ls 6 [(0, .ref (bs + 11)), (1, .int x1), (2, .int x2), (3, .ref (bs + 1)), (4, .int x4), (5, .int x5)] → k6_ x1 x2 x4 x5 I J = some r → W p l e (rmm 2 46) s m args below meth c H locs 0 0 (QI below args s bs D y r) (F0 m 6 ls [])) (x1 : Int32) (x2 : Int32) (x4 : Int32) (x5 : Int32) (I : MI) (J : MJ) (H : Heap) (locs : List Loc) (ls : Array Slot) (hP : va_P D vwCl (wl bs y I J) H) (hS : va_S (FA bs) s.heap H locs) (hl : lv_has ls 6 [(0, .ref (bs + 11)), (1, .int x1), (2, .int x2), (3, .ref (bs + 1)), (4, .int x4), (5, .int x5)]) (h : fX7_reckonBits_6 n k6_ x1 x2 x4 x5 I J = some r) : W p l e (rmm 2 46) s m args below meth c H locs 0 0 (QI below args s bs D y r) (F0 m 6 ls []) := by
  obtain ⟨hx, hb, hml, hown, hts, hK, hN, hL, hr, hlocks, hcb⟩ := id Gc
  unfold fX7_reckonBits_6 at h
  refine lv_iload hx hb dX7_reckonBits_6 (lv_at hl 5 rfl) ?_
  refine lv_iload_n hx hb dX7_reckonBits_8 rfl (lv_at hl 1 rfl) ?_
  refine lv_icmp_gt (tgt := 85) hx hb dX7_reckonBits_9 (by decide) (fun c9 => ?_) (fun c9 => ?_)
  · replace h := if_t c9 h
    refine lv_aload_n hx hb dX7_reckonBits_85 rfl (lv_at hl 0 rfl) ?_
    refine g_R (C := RX7) (T := TX7) (N := 7) (ci := 7) 11 5 15 hx hb hts hown hK hP in_X7 rfl hcb okF_11_5 rfc_11_5 fl_77 dX7_reckonBits_86 ?_
    refine lv_iload_n hx hb dX7_reckonBits_89 rfl (lv_at hl 1 rfl) ?_
    obtain ⟨hi90, h⟩ := if_s1 h
    refine a_I 15 hx hb hK hP hcb aln_15 hi90 dX7_reckonBits_90 ?_
    refine lv_ldc hx hb hown (hts _ ci_0) dX7_reckonBits_91 ?_
    refine lv_iand hx hb dX7_reckonBits_93 ?_
    exact r_I hx hb hr hlocks hP hK hN hL hS h dX7_reckonBits_94
  · replace h := if_f c9 h
    refine lv_iload_n hx hb dX7_reckonBits_12 rfl (lv_at hl 2 rfl) ?_
    refine lv_i2l (v := (x2).toInt64) hx hb dX7_reckonBits_13 rfl ?_
    refine lv_iload hx hb dX7_reckonBits_14 (lv_at hl 5 rfl) ?_
    obtain ⟨r16, er16, h⟩ := bd_s1 h
    refine c_NI (As := [.long (x2).toInt64, .int x5]) (rest := []) hx hb hml hown hts hK hN hL hP hS (cX9_hasBit_ l bs D y hcb n (x2).toInt64 x5 I J r16 er16) ok_X9_hasBit ov_X9_hasBit mn_0 ⟨Nat.le_of_ble_eq_true rfl, Nat.le_of_ble_eq_true rfl⟩ hl.1 rfl rfl (Nat.le_of_ble_eq_true rfl) ⟨Nat.zero_le _, Nat.zero_le _⟩ dX7_reckonBits_16 (fun H locs hP hS => ?_)
    refine lv_if_eq (tgt := 47) hx hb dX7_reckonBits_19 (by decide) (fun c19 => ?_) (fun c19 => ?_)
    · replace h := if_t c19 h
      exact wX7_reckonBits_47 bs D y n k6_ r Gc hk6_ x1 x2 x4 x5 r16.2.1 r16.2.2 _ _ _ hP hS (lv_sub hl [0, 1, 2, 3, 4, 5] rfl) h
    · replace h := if_f c19 h
      refine lv_iload hx hb dX7_reckonBits_22 (lv_at hl 4 rfl) ?_
      refine lv_iconst (v := (4 : Int32)) hx hb dX7_reckonBits_24 (by decide) ?_
      refine lv_icmp_ge (tgt := 47) hx hb dX7_reckonBits_25 (by decide) (fun c25 => ?_) (fun c25 => ?_)
      · replace h := if_t c25 h
        exact wX7_reckonBits_47 bs D y n k6_ r Gc hk6_ x1 x2 x4 x5 r16.2.1 r16.2.2 _ _ _ hP hS (lv_sub hl [0, 1, 2, 3, 4, 5] rfl) h
      · replace h := if_f c25 h
        refine lv_aload_n hx hb dX7_reckonBits_28 rfl (lv_at hl 0 rfl) ?_
        refine g_R (C := RX7) (T := TX7) (N := 7) (ci := 7) 11 5 15 hx hb hts hown hK hP in_X7 rfl hcb okF_11_5 rfc_11_5 fl_77 dX7_reckonBits_29 ?_
        refine lv_iload hx hb dX7_reckonBits_32 (lv_at hl 5 rfl) ?_
        obtain ⟨lba, lbZ, lbT⟩ := id hL
        refine va_gets (C := "ClothMaker$Tables") (n := "LETTER_BITS") (d := "[I") hx hb lbZ hS hown (hts _ fl_78) (fun _ h9 => h9) dX7_reckonBits_34 ?_
        refine lv_iload hx hb dX7_reckonBits_37 (lv_at hl 4 rfl) ?_
        obtain ⟨hi39, h⟩ := if_s1 h
        refine va_ti hx hb lbT hS (inb_in hi39) rfl dX7_reckonBits_39 ?_
        obtain ⟨hi40, h⟩ := if_s1 h
        obtain ⟨I40, eI40, h⟩ := lt_s1 h
        refine t_I 15 eI40 hx hb hK hP hS hcb aln_15 hi40 dX7_reckonBits_40 (fun H locs hP hS => ?_)
        refine lv_iinc (v := (x4 + (1 : Int32))) (lv' := [(4, .int (x4 + (1 : Int32))), (0, .ref (bs + 11)), (1, .int x1), (2, .int x2), (3, .ref (bs + 1)), (5, .int x5)]) hx hb dX7_reckonBits_41 hl (k := 4) rfl rfl (by decide) rfl (fun ls hl => ?_)
        refine lv_goto (tgt := 79) hx hb dX7_reckonBits_44 (by decide) ?_
        exact wX7_reckonBits_79 bs D y n k6_ r Gc hk6_ x1 x2 (x4 + (1 : Int32)) x5 I40 r16.2.2 _ _ _ hP hS (lv_sub hl [1, 2, 3, 4, 0, 5] rfl) h
theorem vX7_reckonBits_6 {p : Program} {l : Launch} {e : Env} {s : State} {m : MethodId} {args : Array Value} {below : List Frame} {meth : Method} {c : Code} (bs : Nat) (D : va_G) (y : Y3) (n : Nat) (r : Int32 × M2) (Gc : Gx p s m args meth c cX7_reckonBits 6 RX7 bs D y (some .int) 44)  : ∀ (q : Nat) (x1 : Int32) (x2 : Int32) (x4 : Int32) (x5 : Int32) (I : MI) (J : MJ) (H : Heap) (locs : List Loc) (ls : Array Slot), va_P D vwCl (wl bs y I J) H → va_S (FA bs) s.heap H locs → lv_has ls 6 [(0, .ref (bs + 11)), (1, .int x1), (2, .int x2), (3, .ref (bs + 1)), (4, .int x4), (5, .int x5)] → lX7_reckonBits_6 n  q x1 x2 x4 x5 I J = some r → W p l e (rmm 2 46) s m args below meth c H locs 0 0 (QI below args s bs D y r) (F0 m 6 ls []) := by
  intro q
  induction q with
  | zero =>
    intro x1 x2 x4 x5 I J H locs ls hP hS hl h
    have h : (none : Option (Int32 × M2)) = some r := h
    cases h
  | succ q ih =>
    intro x1 x2 x4 x5 I J H locs ls hP hS hl h
    have h : fX7_reckonBits_6 n  (lX7_reckonBits_6 n  q) x1 x2 x4 x5 I J = some r := h
    exact wX7_reckonBits_6 bs D y n  (lX7_reckonBits_6 n  q) r Gc  ih x1 x2 x4 x5 I J H locs ls hP hS hl h
set_option maxHeartbeats 4000000 in
set_option maxRecDepth 100000 in
theorem cX7_reckonBits_ (l : Launch) (bs : Nat) (D : va_G) (y : Y3) (hcb : 44 ≤ y.2.2.2) (n : Nat) (x1 : Int32) (x2 : Int32) (I : MI) (J : MJ) (r : Int32 × M2) (h : fX7_reckonBits n x1 x2 I J = some r) : Met l yX7_reckonBits (.code yX7_reckonBits cX7_reckonBits 6 (some .int) :: gtb) (rmm 2 46) (va_Pc [.ref (bs + 11), .int x1, .int x2, .ref (bs + 1)] (HB bs D y I J)) (QcI bs D y r) 0 0 (FA bs) := by
  refine Met.ofW (cc := cX7_reckonBits) (maxL := 6) (ret := (some .int)) (by decide) rfl ?_
  intro p e s m args below meth c s₁ B hml hv
  obtain ⟨rfl, hP, hK, hN, hL⟩ := hv
  have hx := B.exec
  have hb := B.bytes
  have hr := B.returns
  have hts0 := atoms_spec (ws := .code yX7_reckonBits cX7_reckonBits 6 (some .int) :: gtb) B.pre
  have hts : ∀ w ∈ gtb, w.before [.ref (bs + 11), .int x1, .int x2, .ref (bs + 1)].toArray s = true := fun w hw => hts0 w (List.mem_cons_of_mem _ hw)
  have hown : s.vm.findClass RX7 = some m.cls := findClass_of_methodNamed B.named
  have hlocks := B.notSynchronized
  have hS : va_S (FA bs) s.heap s.heap [] := va_S.rf
  have Gc : Gx p s m [.ref (bs + 11), .int x1, .int x2, .ref (bs + 1)].toArray meth c cX7_reckonBits 6 RX7 bs D y (some .int) 44 := ⟨hx, hb, hml, hown, hts, hK, hN, hL, hr, hlocks, hcb⟩
  have hl := lv_entry [.ref (bs + 11), .int x1, .int x2, .ref (bs + 1)] (n := 6) (Nat.le_of_ble_eq_true rfl)
  rw [lg_entry_eq]
  generalize (lg_sl [.ref (bs + 11), .int x1, .int x2, .ref (bs + 1)] ++ List.replicate (6 - (lg_sl [.ref (bs + 11), .int x1, .int x2, .ref (bs + 1)]).length) Slot.unset).toArray = ls at hl ⊢
  have hl : lv_has ls 6 [(0, .ref (bs + 11)), (1, .int x1), (2, .int x2), (3, .ref (bs + 1))] := hl
  change W p l e (rmm 2 46) s m [.ref (bs + 11), .int x1, .int x2, .ref (bs + 1)].toArray below meth c s.heap [] 0 0 (QI below [.ref (bs + 11), .int x1, .int x2, .ref (bs + 1)].toArray s bs D y r) (F0 m 0 ls [])
  unfold fX7_reckonBits at h
  refine lv_iconst (v := (0 : Int32)) hx hb dX7_reckonBits_0 (by decide) ?_
  refine lv_istore (lv' := [(4, .int (0 : Int32)), (0, .ref (bs + 11)), (1, .int x1), (2, .int x2), (3, .ref (bs + 1))]) hx hb dX7_reckonBits_1 hl (by decide) rfl (fun ls hl => ?_)
  refine lv_iconst (v := (0 : Int32)) hx hb dX7_reckonBits_3 (by decide) ?_
  refine lv_istore (lv' := [(5, .int (0 : Int32)), (4, .int (0 : Int32)), (0, .ref (bs + 11)), (1, .int x1), (2, .int x2), (3, .ref (bs + 1))]) hx hb dX7_reckonBits_4 hl (by decide) rfl (fun ls hl => ?_)
  exact vX7_reckonBits_6 bs D y n  r Gc  n x1 x2 (0 : Int32) (0 : Int32) I J _ _ _ hP hS (lv_sub hl [2, 3, 4, 5, 1, 0] rfl) h
theorem dX7_find_0 : decode cX7_find 0 = .ok (.aload_n 0, 1) := by decide +kernel
theorem dX7_find_1 : decode cX7_find 1 = .ok (.aload_n 1, 1) := by decide +kernel
theorem dX7_find_2 : decode cX7_find 2 = .ok (.invokestatic 32, 3) := by decide +kernel
theorem dX7_find_5 : decode cX7_find 5 = .ok (.putfield 24, 3) := by decide +kernel
theorem dX7_find_8 : decode cX7_find 8 = .ok (.aload_n 0, 1) := by decide +kernel
theorem dX7_find_9 : decode cX7_find 9 = .ok (.iconst 0, 1) := by decide +kernel
theorem dX7_find_10 : decode cX7_find 10 = .ok (.putfield 36, 3) := by decide +kernel
theorem dX7_find_13 : decode cX7_find 13 = .ok (.aload_n 1, 1) := by decide +kernel
theorem dX7_find_14 : decode cX7_find 14 = .ok (.getfield 39, 3) := by decide +kernel
theorem dX7_find_17 : decode cX7_find 17 = .ok (.iconst 1, 1) := by decide +kernel
theorem dX7_find_18 : decode cX7_find 18 = .ok (.isub, 1) := by decide +kernel
theorem dX7_find_19 : decode cX7_find 19 = .ok (.istore_n 3, 1) := by decide +kernel
theorem dX7_find_20 : decode cX7_find 20 = .ok (.iload_n 3, 1) := by decide +kernel
theorem dX7_find_21 : decode cX7_find 21 = .ok (.ifCond .lt 72, 3) := by decide +kernel
theorem dX7_find_24 : decode cX7_find 24 = .ok (.aload_n 0, 1) := by decide +kernel
theorem dX7_find_25 : decode cX7_find 25 = .ok (.iload_n 3, 1) := by decide +kernel
theorem dX7_find_26 : decode cX7_find 26 = .ok (.invokevirtual 44, 3) := by decide +kernel
theorem dX7_find_29 : decode cX7_find 29 = .ok (.ifCond .eq 58, 3) := by decide +kernel
theorem dX7_find_32 : decode cX7_find 32 = .ok (.aload_n 2, 1) := by decide +kernel
theorem dX7_find_33 : decode cX7_find 33 = .ok (.iload_n 3, 1) := by decide +kernel
theorem dX7_find_34 : decode cX7_find 34 = .ok (.iconst 0, 1) := by decide +kernel
theorem dX7_find_35 : decode cX7_find 35 = .ok (.invokevirtual 48, 3) := by decide +kernel
theorem dX7_find_38 : decode cX7_find 38 = .ok (.istore 4, 2) := by decide +kernel
theorem dX7_find_40 : decode cX7_find 40 = .ok (.aload_n 0, 1) := by decide +kernel
theorem dX7_find_41 : decode cX7_find 41 = .ok (.dup, 1) := by decide +kernel
theorem dX7_find_42 : decode cX7_find 42 = .ok (.getfield 24, 3) := by decide +kernel
theorem dX7_find_45 : decode cX7_find 45 = .ok (.iload 4, 2) := by decide +kernel
theorem dX7_find_47 : decode cX7_find 47 = .ok (.aload_n 1, 1) := by decide +kernel
theorem dX7_find_48 : decode cX7_find 48 = .ok (.getfield 54, 3) := by decide +kernel
theorem dX7_find_51 : decode cX7_find 51 = .ok (.iand, 1) := by decide +kernel
theorem dX7_find_52 : decode cX7_find 52 = .ok (.ior, 1) := by decide +kernel
theorem dX7_find_53 : decode cX7_find 53 = .ok (.putfield 24, 3) := by decide +kernel
theorem dX7_find_56 : decode cX7_find 56 = .ok (.aload_n 0, 1) := by decide +kernel
theorem dX7_find_57 : decode cX7_find 57 = .ok (.iload_n 3, 1) := by decide +kernel
theorem dX7_find_58 : decode cX7_find 58 = .ok (.iload 4, 2) := by decide +kernel
theorem dX7_find_60 : decode cX7_find 60 = .ok (.invokevirtual 57, 3) := by decide +kernel
theorem dX7_find_63 : decode cX7_find 63 = .ok (.aload_n 0, 1) := by decide +kernel
theorem dX7_find_64 : decode cX7_find 64 = .ok (.getfield 15, 3) := by decide +kernel
theorem dX7_find_67 : decode cX7_find 67 = .ok (.iload_n 3, 1) := by decide +kernel
theorem dX7_find_68 : decode cX7_find 68 = .ok (.aload_n 0, 1) := by decide +kernel
theorem dX7_find_69 : decode cX7_find 69 = .ok (.iload_n 3, 1) := by decide +kernel
theorem dX7_find_70 : decode cX7_find 70 = .ok (.iload 4, 2) := by decide +kernel
theorem dX7_find_72 : decode cX7_find 72 = .ok (.aload_n 1, 1) := by decide +kernel
theorem dX7_find_73 : decode cX7_find 73 = .ok (.invokevirtual 61, 3) := by decide +kernel
theorem dX7_find_76 : decode cX7_find 76 = .ok (.iastore, 1) := by decide +kernel
theorem dX7_find_77 : decode cX7_find 77 = .ok (.aload_n 0, 1) := by decide +kernel
theorem dX7_find_78 : decode cX7_find 78 = .ok (.dup, 1) := by decide +kernel
theorem dX7_find_79 : decode cX7_find 79 = .ok (.getfield 36, 3) := by decide +kernel
theorem dX7_find_82 : decode cX7_find 82 = .ok (.iconst 1, 1) := by decide +kernel
theorem dX7_find_83 : decode cX7_find 83 = .ok (.iadd, 1) := by decide +kernel
theorem dX7_find_84 : decode cX7_find 84 = .ok (.putfield 36, 3) := by decide +kernel
theorem dX7_find_87 : decode cX7_find 87 = .ok (.iinc 3 (-1), 3) := by decide +kernel
theorem dX7_find_90 : decode cX7_find 90 = .ok (.goto (-70), 3) := by decide +kernel
theorem dX7_find_93 : decode cX7_find 93 = .ok (.aload_n 0, 1) := by decide +kernel
theorem dX7_find_94 : decode cX7_find 94 = .ok (.iconst 1, 1) := by decide +kernel
theorem dX7_find_95 : decode cX7_find 95 = .ok (.putfield 65, 3) := by decide +kernel
theorem dX7_find_98 : decode cX7_find 98 = .ok (.return_, 1) := by decide +kernel
set_option maxHeartbeats 4000000 in
set_option maxRecDepth 100000 in
theorem wX7_find_87 {p : Program} {l : Launch} {e : Env} {s : State} {m : MethodId} {args : Array Value} {below : List Frame} {meth : Method} {c : Code} (bs : Nat) (D : va_G) (y : Y3) (n : Nat) (k20_ : Int32 → MI → MJ → Option (M2)) (r : M2) (Gc : Gx p s m args meth c cX7_find 5 RX7 bs D y none 44) (hk20_ : ∀ (x3 : Int32) (I : MI) (J : MJ) (H : Heap) (locs : List Loc) (ls : Array Slot), va_P D vwCl (wl bs y I J) H → va_S (FA bs) s.heap H locs → lv_has ls 5 [(0, .ref (bs + 11)), (1, .ref (bs + 1)), (2, .ref (bs + 7)), (3, .int x3)] → k20_ x3 I J = some r → W p l e (rmm 3 71) s m args below meth c H locs 0 0 (QV below args s bs D y r) (F0 m 20 ls [])) (x3 : Int32) (I : MI) (J : MJ) (H : Heap) (locs : List Loc) (ls : Array Slot) (hP : va_P D vwCl (wl bs y I J) H) (hS : va_S (FA bs) s.heap H locs) (hl : lv_has ls 5 [(0, .ref (bs + 11)), (1, .ref (bs + 1)), (2, .ref (bs + 7)), (3, .int x3)]) (h : fX7_find_87 n k20_ x3 I J = some r) : W p l e (rmm 3 71) s m args below meth c H locs 0 0 (QV below args s bs D y r) (F0 m 87 ls []) := by
  obtain ⟨hx, hb, hml, hown, hts, hK, hN, hL, hr, hlocks, hcb⟩ := id Gc
  unfold fX7_find_87 at h
  refine lv_iinc (v := (x3 + (-1 : Int32))) (lv' := [(3, .int (x3 + (-1 : Int32))), (0, .ref (bs + 11)), (1, .ref (bs + 1)), (2, .ref (bs + 7))]) hx hb dX7_find_87 hl (k := 3) rfl rfl (by decide) rfl (fun ls hl => ?_)
  refine lv_goto (tgt := 20) hx hb dX7_find_90 (by decide) ?_
  exact hk20_ (x3 + (-1 : Int32)) I J _ _ _ hP hS (lv_sub hl [1, 2, 3, 0] rfl) h
set_option maxHeartbeats 4000000 in
set_option maxRecDepth 100000 in
theorem wX7_find_20 {p : Program} {l : Launch} {e : Env} {s : State} {m : MethodId} {args : Array Value} {below : List Frame} {meth : Method} {c : Code} (bs : Nat) (D : va_G) (y : Y3) (n : Nat) (k20_ : Int32 → MI → MJ → Option (M2)) (r : M2) (Gc : Gx p s m args meth c cX7_find 5 RX7 bs D y none 44) (hk20_ : ∀ (x3 : Int32) (I : MI) (J : MJ) (H : Heap) (locs : List Loc) (ls : Array Slot), va_P D vwCl (wl bs y I J) H → va_S (FA bs) s.heap H locs → lv_has ls 5 [(0, .ref (bs + 11)), (1, .ref (bs + 1)), (2, .ref (bs + 7)), (3, .int x3)] → k20_ x3 I J = some r → W p l e (rmm 3 71) s m args below meth c H locs 0 0 (QV below args s bs D y r) (F0 m 20 ls [])) (x3 : Int32) (I : MI) (J : MJ) (H : Heap) (locs : List Loc) (ls : Array Slot) (hP : va_P D vwCl (wl bs y I J) H) (hS : va_S (FA bs) s.heap H locs) (hl : lv_has ls 5 [(0, .ref (bs + 11)), (1, .ref (bs + 1)), (2, .ref (bs + 7)), (3, .int x3)]) (h : fX7_find_20 n k20_ x3 I J = some r) : W p l e (rmm 3 71) s m args below meth c H locs 0 0 (QV below args s bs D y r) (F0 m 20 ls []) := by
  obtain ⟨hx, hb, hml, hown, hts, hK, hN, hL, hr, hlocks, hcb⟩ := id Gc
  unfold fX7_find_20 at h
  refine lv_iload_n hx hb dX7_find_20 rfl (lv_at hl 3 rfl) ?_
  refine lv_if_lt (tgt := 93) hx hb dX7_find_21 (by decide) (fun c21 => ?_) (fun c21 => ?_)
  · replace h := if_t c21 h
    refine lv_aload_n hx hb dX7_find_93 rfl (lv_at hl 0 rfl) ?_
    refine lv_iconst (v := (1 : Int32)) hx hb dX7_find_94 (by decide) ?_
    obtain ⟨I95, eI95, h⟩ := lt_s1 h
    refine s_I (C := RX7) (T := TX7) (N := 7) (ci := 7) (ty := .boolean) 11 0 eI95 tyX7 hx hb hts hown hK hP hS in_X7 tyX7_ok nmX7 rfl hcb okF_11_0 fl_79 rfl (by decide +kernel) (by decide) rfl dX7_find_95 (fun H locs hP hS => ?_)
    exact r_V hx hb hr hlocks hP hK hN hL hS h dX7_find_98
  · replace h := if_f c21 h
    refine lv_aload_n hx hb dX7_find_24 rfl (lv_at hl 0 rfl) ?_
    refine lv_iload_n hx hb dX7_find_25 rfl (lv_at hl 3 rfl) ?_
    obtain ⟨r26, er26, h⟩ := bd_s1 h
    refine c_VI (k := 11) (ci := 7) (As := [.int x3]) (rest := []) hx hb hml hown hts hK hN hL hP hS (cX7_isTable_ l bs D y hcb n x3 I J r26 er26) ok_X7_isTable ov_X7_isTable ml_46 ⟨Nat.le_of_ble_eq_true rfl, Nat.le_of_ble_eq_true rfl⟩ rfl hcb kd_11 hl.1 rfl rfl (Nat.le_of_ble_eq_true rfl) ⟨Nat.zero_le _, Nat.zero_le _⟩ dX7_find_26 (fun H locs hP hS => ?_)
    refine lv_if_eq (tgt := 87) hx hb dX7_find_29 (by decide) (fun c29 => ?_) (fun c29 => ?_)
    · replace h := if_t c29 h
      exact wX7_find_87 bs D y n k20_ r Gc hk20_ x3 r26.2.1 r26.2.2 _ _ _ hP hS (lv_sub hl [0, 1, 2, 3] rfl) h
    · replace h := if_f c29 h
      refine lv_aload_n hx hb dX7_find_32 rfl (lv_at hl 2 rfl) ?_
      refine lv_iload_n hx hb dX7_find_33 rfl (lv_at hl 3 rfl) ?_
      refine lv_iconst (v := (0 : Int32)) hx hb dX7_find_34 (by decide) ?_
      obtain ⟨r35, er35, h⟩ := bd_s1 h
      refine c_VI (k := 7) (ci := 0) (As := [.int x3, .int (0 : Int32)]) (rest := []) hx hb hml hown hts hK hN hL hP hS (cX0_members_ l bs D y hcb n x3 (0 : Int32) r26.2.1 r26.2.2 r35 er35) ok_X0_members ov_X0_members ml_47 ⟨Nat.le_of_ble_eq_true rfl, Nat.le_of_ble_eq_true rfl⟩ rfl hcb kd_7 hl.1 rfl rfl (Nat.le_of_ble_eq_true rfl) ⟨Nat.zero_le _, Nat.zero_le _⟩ dX7_find_35 (fun H locs hP hS => ?_)
      obtain ⟨v38, ev38, h⟩ := lt_s1 h
      refine top_i ev38 ?_
      refine lv_istore (lv' := [(4, .int v38), (0, .ref (bs + 11)), (1, .ref (bs + 1)), (2, .ref (bs + 7)), (3, .int x3)]) hx hb dX7_find_38 hl (by decide) rfl (fun ls hl => ?_)
      refine lv_aload_n hx hb dX7_find_40 rfl (lv_at hl 1 rfl) ?_
      refine lv_dup hx hb dX7_find_41 rfl ?_
      refine g_I (C := RX7) (T := TX7) (N := 7) (ci := 7) 11 6 hx hb hts hown hK hP in_X7 rfl hcb okF_11_6 fl_18 dX7_find_42 ?_
      refine lv_iload hx hb dX7_find_45 (lv_at hl 0 rfl) ?_
      refine lv_aload_n hx hb dX7_find_47 rfl (lv_at hl 2 rfl) ?_
      refine g_I (C := RX3) (T := TX3) (N := 11) (ci := 3) 1 9 hx hb hts hown hK hP in_X3 rfl hcb okF_1_9 fl_72 dX7_find_48 ?_
      refine lv_iand hx hb dX7_find_51 ?_
      refine lv_ior hx hb dX7_find_52 ?_
      obtain ⟨I53, eI53, h⟩ := lt_s1 h
      refine s_I (C := RX7) (T := TX7) (N := 7) (ci := 7) (ty := .int) 11 6 eI53 tyX7 hx hb hts hown hK hP hS in_X7 tyX7_ok nmX7 rfl hcb okF_11_6 fl_18 rfl (by decide +kernel) rfl rfl dX7_find_53 (fun H locs hP hS => ?_)
      refine lv_aload_n hx hb dX7_find_56 rfl (lv_at hl 1 rfl) ?_
      refine lv_iload_n hx hb dX7_find_57 rfl (lv_at hl 4 rfl) ?_
      refine lv_iload hx hb dX7_find_58 (lv_at hl 0 rfl) ?_
      obtain ⟨r60, er60, h⟩ := bd_s1 h
      refine c_VV (k := 11) (ci := 7) (As := [.int x3, .int v38]) (rest := []) hx hb hml hown hts hK hN hL hP hS (cX7_takeLetters_ l bs D y hcb n x3 v38 I53 r35.2.2 r60 er60) ok_X7_takeLetters ov_X7_takeLetters ml_48 ⟨Nat.le_of_ble_eq_true rfl, Nat.le_of_ble_eq_true rfl⟩ rfl hcb kd_11 hl.1 rfl rfl (Nat.le_of_ble_eq_true rfl) ⟨Nat.zero_le _, Nat.zero_le _⟩ dX7_find_60 (fun H locs hP hS => ?_)
      refine lv_aload_n hx hb dX7_find_63 rfl (lv_at hl 1 rfl) ?_
      refine g_R (C := RX7) (T := TX7) (N := 7) (ci := 7) 11 3 13 hx hb hts hown hK hP in_X7 rfl hcb okF_11_3 rfc_11_3 fl_80 dX7_find_64 ?_
      refine lv_iload_n hx hb dX7_find_67 rfl (lv_at hl 4 rfl) ?_
      refine lv_aload_n hx hb dX7_find_68 rfl (lv_at hl 1 rfl) ?_
      refine lv_iload_n hx hb dX7_find_69 rfl (lv_at hl 4 rfl) ?_
      refine lv_iload hx hb dX7_find_70 (lv_at hl 0 rfl) ?_
      refine lv_aload_n hx hb dX7_find_72 rfl (lv_at hl 2 rfl) ?_
      obtain ⟨r73, er73, h⟩ := bd_s1 h
      refine c_VI (k := 11) (ci := 7) (As := [.int x3, .int v38, .ref (bs + 1)]) (rest := [.int x3, .ref (bs + 13)]) hx hb hml hown hts hK hN hL hP hS (cX7_reckonBits_ l bs D y hcb n x3 v38 r60.1 r60.2 r73 er73) ok_X7_reckonBits ov_X7_reckonBits ml_49 ⟨Nat.le_of_ble_eq_true rfl, Nat.le_of_ble_eq_true rfl⟩ rfl hcb kd_11 hl.1 rfl rfl (Nat.le_of_ble_eq_true rfl) ⟨Nat.zero_le _, Nat.zero_le _⟩ dX7_find_73 (fun H locs hP hS => ?_)
      obtain ⟨hi76, h⟩ := if_s1 h
      obtain ⟨I76, eI76, h⟩ := lt_s1 h
      refine t_I 13 eI76 hx hb hK hP hS hcb aln_13 hi76 dX7_find_76 (fun H locs hP hS => ?_)
      refine lv_aload_n hx hb dX7_find_77 rfl (lv_at hl 1 rfl) ?_
      refine lv_dup hx hb dX7_find_78 rfl ?_
      refine g_I (C := RX7) (T := TX7) (N := 7) (ci := 7) 11 1 hx hb hts hown hK hP in_X7 rfl hcb okF_11_1 fl_81 dX7_find_79 ?_
      refine lv_iconst (v := (1 : Int32)) hx hb dX7_find_82 (by decide) ?_
      refine lv_iadd hx hb dX7_find_83 ?_
      obtain ⟨I84, eI84, h⟩ := lt_s1 h
      refine s_I (C := RX7) (T := TX7) (N := 7) (ci := 7) (ty := .int) 11 1 eI84 tyX7 hx hb hts hown hK hP hS in_X7 tyX7_ok nmX7 rfl hcb okF_11_1 fl_81 rfl (by decide +kernel) rfl rfl dX7_find_84 (fun H locs hP hS => ?_)
      exact wX7_find_87 bs D y n k20_ r Gc hk20_ x3 I84 r73.2.2 _ _ _ hP hS (lv_sub hl [1, 2, 3, 4] rfl) h
theorem vX7_find_20 {p : Program} {l : Launch} {e : Env} {s : State} {m : MethodId} {args : Array Value} {below : List Frame} {meth : Method} {c : Code} (bs : Nat) (D : va_G) (y : Y3) (n : Nat) (r : M2) (Gc : Gx p s m args meth c cX7_find 5 RX7 bs D y none 44)  : ∀ (q : Nat) (x3 : Int32) (I : MI) (J : MJ) (H : Heap) (locs : List Loc) (ls : Array Slot), va_P D vwCl (wl bs y I J) H → va_S (FA bs) s.heap H locs → lv_has ls 5 [(0, .ref (bs + 11)), (1, .ref (bs + 1)), (2, .ref (bs + 7)), (3, .int x3)] → lX7_find_20 n  q x3 I J = some r → W p l e (rmm 3 71) s m args below meth c H locs 0 0 (QV below args s bs D y r) (F0 m 20 ls []) := by
  intro q
  induction q with
  | zero =>
    intro x3 I J H locs ls hP hS hl h
    have h : (none : Option (M2)) = some r := h
    cases h
  | succ q ih =>
    intro x3 I J H locs ls hP hS hl h
    have h : fX7_find_20 n  (lX7_find_20 n  q) x3 I J = some r := h
    exact wX7_find_20 bs D y n  (lX7_find_20 n  q) r Gc  ih x3 I J H locs ls hP hS hl h
set_option maxHeartbeats 4000000 in
set_option maxRecDepth 100000 in
theorem cX7_find_ (l : Launch) (bs : Nat) (D : va_G) (y : Y3) (hcb : 44 ≤ y.2.2.2) (n : Nat) (I : MI) (J : MJ) (r : M2) (h : fX7_find n  I J = some r) : Met l yX7_find (.code yX7_find cX7_find 5 none :: gtb) (rmm 3 71) (va_Pc [.ref (bs + 11), .ref (bs + 1), .ref (bs + 7)] (HB bs D y I J)) (QcV bs D y r) 0 0 (FA bs) := by
  refine Met.ofW (cc := cX7_find) (maxL := 5) (ret := none) (by decide) rfl ?_
  intro p e s m args below meth c s₁ B hml hv
  obtain ⟨rfl, hP, hK, hN, hL⟩ := hv
  have hx := B.exec
  have hb := B.bytes
  have hr := B.returns
  have hts0 := atoms_spec (ws := .code yX7_find cX7_find 5 none :: gtb) B.pre
  have hts : ∀ w ∈ gtb, w.before [.ref (bs + 11), .ref (bs + 1), .ref (bs + 7)].toArray s = true := fun w hw => hts0 w (List.mem_cons_of_mem _ hw)
  have hown : s.vm.findClass RX7 = some m.cls := findClass_of_methodNamed B.named
  have hlocks := B.notSynchronized
  have hS : va_S (FA bs) s.heap s.heap [] := va_S.rf
  have Gc : Gx p s m [.ref (bs + 11), .ref (bs + 1), .ref (bs + 7)].toArray meth c cX7_find 5 RX7 bs D y none 44 := ⟨hx, hb, hml, hown, hts, hK, hN, hL, hr, hlocks, hcb⟩
  have hl := lv_entry [.ref (bs + 11), .ref (bs + 1), .ref (bs + 7)] (n := 5) (Nat.le_of_ble_eq_true rfl)
  rw [lg_entry_eq]
  generalize (lg_sl [.ref (bs + 11), .ref (bs + 1), .ref (bs + 7)] ++ List.replicate (5 - (lg_sl [.ref (bs + 11), .ref (bs + 1), .ref (bs + 7)]).length) Slot.unset).toArray = ls at hl ⊢
  have hl : lv_has ls 5 [(0, .ref (bs + 11)), (1, .ref (bs + 1)), (2, .ref (bs + 7))] := hl
  change W p l e (rmm 3 71) s m [.ref (bs + 11), .ref (bs + 1), .ref (bs + 7)].toArray below meth c s.heap [] 0 0 (QV below [.ref (bs + 11), .ref (bs + 1), .ref (bs + 7)].toArray s bs D y r) (F0 m 0 ls [])
  unfold fX7_find at h
  refine lv_aload_n hx hb dX7_find_0 rfl (lv_at hl 0 rfl) ?_
  refine lv_aload_n hx hb dX7_find_1 rfl (lv_at hl 1 rfl) ?_
  obtain ⟨r2, er2, h⟩ := bd_s1 h
  refine c_SI (As := [.ref (bs + 1)]) (rest := [.ref (bs + 11)]) hx hb hml hown hts hK hN hL hP hS (cX7_askedFor_ l bs D y hcb n  I J r2 er2) ok_X7_askedFor ov_X7_askedFor ml_50 ⟨Nat.le_of_ble_eq_true rfl, Nat.le_of_ble_eq_true rfl⟩ hl.1 rfl rfl (Nat.le_of_ble_eq_true rfl) ⟨Nat.zero_le _, Nat.zero_le _⟩ dX7_find_2 (fun H locs hP hS => ?_)
  obtain ⟨I5, eI5, h⟩ := lt_s1 h
  refine s_I (C := RX7) (T := TX7) (N := 7) (ci := 7) (ty := .int) 11 6 eI5 tyX7 hx hb hts hown hK hP hS in_X7 tyX7_ok nmX7 rfl hcb okF_11_6 fl_18 rfl (by decide +kernel) rfl rfl dX7_find_5 (fun H locs hP hS => ?_)
  refine lv_aload_n hx hb dX7_find_8 rfl (lv_at hl 0 rfl) ?_
  refine lv_iconst (v := (0 : Int32)) hx hb dX7_find_9 (by decide) ?_
  obtain ⟨I10, eI10, h⟩ := lt_s1 h
  refine s_I (C := RX7) (T := TX7) (N := 7) (ci := 7) (ty := .int) 11 1 eI10 tyX7 hx hb hts hown hK hP hS in_X7 tyX7_ok nmX7 rfl hcb okF_11_1 fl_81 rfl (by decide +kernel) rfl rfl dX7_find_10 (fun H locs hP hS => ?_)
  refine lv_aload_n hx hb dX7_find_13 rfl (lv_at hl 1 rfl) ?_
  refine g_I (C := RX3) (T := TX3) (N := 11) (ci := 3) 1 5 hx hb hts hown hK hP in_X3 rfl hcb okF_1_5 fl_71 dX7_find_14 ?_
  refine lv_iconst (v := (1 : Int32)) hx hb dX7_find_17 (by decide) ?_
  refine lv_isub hx hb dX7_find_18 ?_
  obtain ⟨v19, ev19, h⟩ := lt_s1 h
  refine top_i ev19 ?_
  refine lv_istore_n (lv' := [(3, .int v19), (0, .ref (bs + 11)), (1, .ref (bs + 1)), (2, .ref (bs + 7))]) hx hb dX7_find_19 rfl hl (by decide) rfl (fun ls hl => ?_)
  exact vX7_find_20 bs D y n  r Gc  n v19 I10 r2.2.2 _ _ _ hP hS (lv_sub hl [1, 2, 3, 0] rfl) h
