/-! walks: X10_outsOf X10_clockNet X10_letterIs X10_clockCloth X10_clock X10_told X10_lay X10_tear X10_row X10_copy X10_status -/
theorem dX10_outsOf_0 : decode cX10_outsOf 0 = .ok (.iconst 0, 1) := by decide +kernel
theorem dX10_outsOf_1 : decode cX10_outsOf 1 = .ok (.istore_n 2, 1) := by decide +kernel
theorem dX10_outsOf_2 : decode cX10_outsOf 2 = .ok (.iconst 0, 1) := by decide +kernel
theorem dX10_outsOf_3 : decode cX10_outsOf 3 = .ok (.istore_n 3, 1) := by decide +kernel
theorem dX10_outsOf_4 : decode cX10_outsOf 4 = .ok (.iload_n 3, 1) := by decide +kernel
theorem dX10_outsOf_5 : decode cX10_outsOf 5 = .ok (.aload_n 0, 1) := by decide +kernel
theorem dX10_outsOf_6 : decode cX10_outsOf 6 = .ok (.getfield 175, 3) := by decide +kernel
theorem dX10_outsOf_9 : decode cX10_outsOf 9 = .ok (.if_icmp .ge 54, 3) := by decide +kernel
theorem dX10_outsOf_12 : decode cX10_outsOf 12 = .ok (.iload_n 2, 1) := by decide +kernel
theorem dX10_outsOf_13 : decode cX10_outsOf 13 = .ok (.iload_n 1, 1) := by decide +kernel
theorem dX10_outsOf_14 : decode cX10_outsOf 14 = .ok (.ifCond .eq 20, 3) := by decide +kernel
theorem dX10_outsOf_17 : decode cX10_outsOf 17 = .ok (.aload_n 0, 1) := by decide +kernel
theorem dX10_outsOf_18 : decode cX10_outsOf 18 = .ok (.getfield 105, 3) := by decide +kernel
theorem dX10_outsOf_21 : decode cX10_outsOf 21 = .ok (.aload_n 0, 1) := by decide +kernel
theorem dX10_outsOf_22 : decode cX10_outsOf 22 = .ok (.getfield 26, 3) := by decide +kernel
theorem dX10_outsOf_25 : decode cX10_outsOf 25 = .ok (.iload_n 3, 1) := by decide +kernel
theorem dX10_outsOf_26 : decode cX10_outsOf 26 = .ok (.iaload, 1) := by decide +kernel
theorem dX10_outsOf_27 : decode cX10_outsOf 27 = .ok (.baload, 1) := by decide +kernel
theorem dX10_outsOf_28 : decode cX10_outsOf 28 = .ok (.ifCond .eq 26, 3) := by decide +kernel
theorem dX10_outsOf_31 : decode cX10_outsOf 31 = .ok (.goto 17, 3) := by decide +kernel
theorem dX10_outsOf_34 : decode cX10_outsOf 34 = .ok (.aload_n 0, 1) := by decide +kernel
theorem dX10_outsOf_35 : decode cX10_outsOf 35 = .ok (.getfield 102, 3) := by decide +kernel
theorem dX10_outsOf_38 : decode cX10_outsOf 38 = .ok (.aload_n 0, 1) := by decide +kernel
theorem dX10_outsOf_39 : decode cX10_outsOf 39 = .ok (.getfield 26, 3) := by decide +kernel
theorem dX10_outsOf_42 : decode cX10_outsOf 42 = .ok (.iload_n 3, 1) := by decide +kernel
theorem dX10_outsOf_43 : decode cX10_outsOf 43 = .ok (.iaload, 1) := by decide +kernel
theorem dX10_outsOf_44 : decode cX10_outsOf 44 = .ok (.baload, 1) := by decide +kernel
theorem dX10_outsOf_45 : decode cX10_outsOf 45 = .ok (.ifCond .eq 9, 3) := by decide +kernel
theorem dX10_outsOf_48 : decode cX10_outsOf 48 = .ok (.iconst 1, 1) := by decide +kernel
theorem dX10_outsOf_49 : decode cX10_outsOf 49 = .ok (.iload_n 3, 1) := by decide +kernel
theorem dX10_outsOf_50 : decode cX10_outsOf 50 = .ok (.ishl, 1) := by decide +kernel
theorem dX10_outsOf_51 : decode cX10_outsOf 51 = .ok (.goto 4, 3) := by decide +kernel
theorem dX10_outsOf_54 : decode cX10_outsOf 54 = .ok (.iconst 0, 1) := by decide +kernel
theorem dX10_outsOf_55 : decode cX10_outsOf 55 = .ok (.ior, 1) := by decide +kernel
theorem dX10_outsOf_56 : decode cX10_outsOf 56 = .ok (.istore_n 2, 1) := by decide +kernel
theorem dX10_outsOf_57 : decode cX10_outsOf 57 = .ok (.iinc 3 1, 3) := by decide +kernel
theorem dX10_outsOf_60 : decode cX10_outsOf 60 = .ok (.goto (-56), 3) := by decide +kernel
theorem dX10_outsOf_63 : decode cX10_outsOf 63 = .ok (.iload_n 2, 1) := by decide +kernel
theorem dX10_outsOf_64 : decode cX10_outsOf 64 = .ok (.ireturn, 1) := by decide +kernel
set_option maxHeartbeats 4000000 in
set_option maxRecDepth 100000 in
theorem wX10_outsOf_55 {p : Program} {l : Launch} {e : Env} {s : State} {m : MethodId} {args : Array Value} {below : List Frame} {meth : Method} {c : Code} (bs : Nat) (D : va_G) (y : Y3) (n : Nat) (k4_ : Int32 → Int32 → Int32 → MI → MJ → Option (Int32 × M2)) (r : Int32 × M2) (Gc : Gx p s m args meth c cX10_outsOf 4 RX10 bs D y (some .int) 76) (hk4_ : ∀ (x1 : Int32) (x2 : Int32) (x3 : Int32) (I : MI) (J : MJ) (H : Heap) (locs : List Loc) (ls : Array Slot), va_P D vwCl (wl bs y I J) H → va_S (FA bs) s.heap H locs → lv_has ls 4 [(0, .ref (bs + 44)), (1, .int x1), (2, .int x2), (3, .int x3)] → k4_ x1 x2 x3 I J = some r → W p l e (rmm 0 0) s m args below meth c H locs 0 0 (QI below args s bs D y r) (F0 m 4 ls [])) (x1 : Int32) (x3 : Int32) (s0 : Int32) (s1 : Int32) (I : MI) (J : MJ) (H : Heap) (locs : List Loc) (ls : Array Slot) (hP : va_P D vwCl (wl bs y I J) H) (hS : va_S (FA bs) s.heap H locs) (hl : lv_has ls 4 [(0, .ref (bs + 44)), (1, .int x1), (3, .int x3)]) (h : fX10_outsOf_55 n k4_ x1 x3 s0 s1 I J = some r) : W p l e (rmm 0 0) s m args below meth c H locs 0 0 (QI below args s bs D y r) (F0 m 55 ls [.int s1, .int s0]) := by
  obtain ⟨hx, hb, hml, hown, hts, hK, hN, hL, hr, hlocks, hcb⟩ := id Gc
  unfold fX10_outsOf_55 at h
  refine lv_ior hx hb dX10_outsOf_55 ?_
  obtain ⟨v56, ev56, h⟩ := lt_s1 h
  refine top_i ev56 ?_
  refine lv_istore_n (lv' := [(2, .int v56), (0, .ref (bs + 44)), (1, .int x1), (3, .int x3)]) hx hb dX10_outsOf_56 rfl hl (by decide) rfl (fun ls hl => ?_)
  refine lv_iinc (v := (x3 + (1 : Int32))) (lv' := [(3, .int (x3 + (1 : Int32))), (2, .int v56), (0, .ref (bs + 44)), (1, .int x1)]) hx hb dX10_outsOf_57 hl (k := 3) rfl rfl (by decide) rfl (fun ls hl => ?_)
  refine lv_goto (tgt := 4) hx hb dX10_outsOf_60 (by decide) ?_
  exact hk4_ x1 v56 (x3 + (1 : Int32)) I J _ _ _ hP hS (lv_sub hl [2, 3, 1, 0] rfl) h
set_option maxHeartbeats 4000000 in
set_option maxRecDepth 100000 in
theorem wX10_outsOf_54 {p : Program} {l : Launch} {e : Env} {s : State} {m : MethodId} {args : Array Value} {below : List Frame} {meth : Method} {c : Code} (bs : Nat) (D : va_G) (y : Y3) (n : Nat) (k4_ : Int32 → Int32 → Int32 → MI → MJ → Option (Int32 × M2)) (r : Int32 × M2) (Gc : Gx p s m args meth c cX10_outsOf 4 RX10 bs D y (some .int) 76) (hk4_ : ∀ (x1 : Int32) (x2 : Int32) (x3 : Int32) (I : MI) (J : MJ) (H : Heap) (locs : List Loc) (ls : Array Slot), va_P D vwCl (wl bs y I J) H → va_S (FA bs) s.heap H locs → lv_has ls 4 [(0, .ref (bs + 44)), (1, .int x1), (2, .int x2), (3, .int x3)] → k4_ x1 x2 x3 I J = some r → W p l e (rmm 0 0) s m args below meth c H locs 0 0 (QI below args s bs D y r) (F0 m 4 ls [])) (x1 : Int32) (x3 : Int32) (s0 : Int32) (I : MI) (J : MJ) (H : Heap) (locs : List Loc) (ls : Array Slot) (hP : va_P D vwCl (wl bs y I J) H) (hS : va_S (FA bs) s.heap H locs) (hl : lv_has ls 4 [(0, .ref (bs + 44)), (1, .int x1), (3, .int x3)]) (h : fX10_outsOf_54 n k4_ x1 x3 s0 I J = some r) : W p l e (rmm 0 0) s m args below meth c H locs 0 0 (QI below args s bs D y r) (F0 m 54 ls [.int s0]) := by
  obtain ⟨hx, hb, hml, hown, hts, hK, hN, hL, hr, hlocks, hcb⟩ := id Gc
  unfold fX10_outsOf_54 at h
  refine lv_iconst (v := (0 : Int32)) hx hb dX10_outsOf_54 (by decide) ?_
  exact wX10_outsOf_55 bs D y n k4_ r Gc hk4_ x1 x3 s0 (0 : Int32) I J _ _ _ hP hS (lv_sub hl [0, 1, 2] rfl) h
set_option maxHeartbeats 4000000 in
set_option maxRecDepth 100000 in
theorem wX10_outsOf_48 {p : Program} {l : Launch} {e : Env} {s : State} {m : MethodId} {args : Array Value} {below : List Frame} {meth : Method} {c : Code} (bs : Nat) (D : va_G) (y : Y3) (n : Nat) (k4_ : Int32 → Int32 → Int32 → MI → MJ → Option (Int32 × M2)) (r : Int32 × M2) (Gc : Gx p s m args meth c cX10_outsOf 4 RX10 bs D y (some .int) 76) (hk4_ : ∀ (x1 : Int32) (x2 : Int32) (x3 : Int32) (I : MI) (J : MJ) (H : Heap) (locs : List Loc) (ls : Array Slot), va_P D vwCl (wl bs y I J) H → va_S (FA bs) s.heap H locs → lv_has ls 4 [(0, .ref (bs + 44)), (1, .int x1), (2, .int x2), (3, .int x3)] → k4_ x1 x2 x3 I J = some r → W p l e (rmm 0 0) s m args below meth c H locs 0 0 (QI below args s bs D y r) (F0 m 4 ls [])) (x1 : Int32) (x3 : Int32) (s0 : Int32) (I : MI) (J : MJ) (H : Heap) (locs : List Loc) (ls : Array Slot) (hP : va_P D vwCl (wl bs y I J) H) (hS : va_S (FA bs) s.heap H locs) (hl : lv_has ls 4 [(0, .ref (bs + 44)), (1, .int x1), (3, .int x3)]) (h : fX10_outsOf_48 n k4_ x1 x3 s0 I J = some r) : W p l e (rmm 0 0) s m args below meth c H locs 0 0 (QI below args s bs D y r) (F0 m 48 ls [.int s0]) := by
  obtain ⟨hx, hb, hml, hown, hts, hK, hN, hL, hr, hlocks, hcb⟩ := id Gc
  unfold fX10_outsOf_48 at h
  refine lv_iconst (v := (1 : Int32)) hx hb dX10_outsOf_48 (by decide) ?_
  refine lv_iload_n hx hb dX10_outsOf_49 rfl (lv_at hl 2 rfl) ?_
  refine lv_ishl hx hb dX10_outsOf_50 ?_
  refine lv_goto (tgt := 55) hx hb dX10_outsOf_51 (by decide) ?_
  exact wX10_outsOf_55 bs D y n k4_ r Gc hk4_ x1 x3 s0 ((1 : Int32) <<< (x3 &&& 31)) I J _ _ _ hP hS (lv_sub hl [0, 1, 2] rfl) h
set_option maxHeartbeats 4000000 in
set_option maxRecDepth 100000 in
theorem wX10_outsOf_4 {p : Program} {l : Launch} {e : Env} {s : State} {m : MethodId} {args : Array Value} {below : List Frame} {meth : Method} {c : Code} (bs : Nat) (D : va_G) (y : Y3) (n : Nat) (k4_ : Int32 → Int32 → Int32 → MI → MJ → Option (Int32 × M2)) (r : Int32 × M2) (Gc : Gx p s m args meth c cX10_outsOf 4 RX10 bs D y (some .int) 76) (hk4_ : ∀ (x1 : Int32) (x2 : Int32) (x3 : Int32) (I : MI) (J : MJ) (H : Heap) (locs : List Loc) (ls : Array Slot), va_P D vwCl (wl bs y I J) H → va_S (FA bs) s.heap H locs → lv_has ls 4 [(0, .ref (bs + 44)), (1, .int x1), (2, .int x2), (3, .int x3)] → k4_ x1 x2 x3 I J = some r → W p l e (rmm 0 0) s m args below meth c H locs 0 0 (QI below args s bs D y r) (F0 m 4 ls [])) (x1 : Int32) (x2 : Int32) (x3 : Int32) (I : MI) (J : MJ) (H : Heap) (locs : List Loc) (ls : Array Slot) (hP : va_P D vwCl (wl bs y I J) H) (hS : va_S (FA bs) s.heap H locs) (hl : lv_has ls 4 [(0, .ref (bs + 44)), (1, .int x1), (2, .int x2), (3, .int x3)]) (h : fX10_outsOf_4 n k4_ x1 x2 x3 I J = some r) : W p l e (rmm 0 0) s m args below meth c H locs 0 0 (QI below args s bs D y r) (F0 m 4 ls []) := by
  obtain ⟨hx, hb, hml, hown, hts, hK, hN, hL, hr, hlocks, hcb⟩ := id Gc
  unfold fX10_outsOf_4 at h
  refine lv_iload_n hx hb dX10_outsOf_4 rfl (lv_at hl 3 rfl) ?_
  refine lv_aload_n hx hb dX10_outsOf_5 rfl (lv_at hl 0 rfl) ?_
  refine g_I (C := RX10) (T := TX10) (N := 49) (ci := 10) 44 9 hx hb hts hown hK hP in_X10 rfl hcb okF_44_9 fl_158 dX10_outsOf_6 ?_
  refine lv_icmp_ge (tgt := 63) hx hb dX10_outsOf_9 (by decide) (fun c9 => ?_) (fun c9 => ?_)
  · replace h := if_t c9 h
    refine lv_iload_n hx hb dX10_outsOf_63 rfl (lv_at hl 2 rfl) ?_
    exact r_I hx hb hr hlocks hP hK hN hL hS h dX10_outsOf_64
  · replace h := if_f c9 h
    refine lv_iload_n hx hb dX10_outsOf_12 rfl (lv_at hl 2 rfl) ?_
    refine lv_iload_n hx hb dX10_outsOf_13 rfl (lv_at hl 1 rfl) ?_
    refine lv_if_eq (tgt := 34) hx hb dX10_outsOf_14 (by decide) (fun c14 => ?_) (fun c14 => ?_)
    · replace h := if_t c14 h
      refine lv_aload_n hx hb dX10_outsOf_34 rfl (lv_at hl 0 rfl) ?_
      refine g_R (C := RX10) (T := TX10) (N := 49) (ci := 10) 44 39 71 hx hb hts hown hK hP in_X10 rfl hcb okF_44_39 rfc_44_39 fl_143 dX10_outsOf_35 ?_
      refine lv_aload_n hx hb dX10_outsOf_38 rfl (lv_at hl 0 rfl) ?_
      refine g_R (C := RX10) (T := TX10) (N := 49) (ci := 10) 44 5 50 hx hb hts hown hK hP in_X10 rfl hcb okF_44_5 rfc_44_5 fl_159 dX10_outsOf_39 ?_
      refine lv_iload_n hx hb dX10_outsOf_42 rfl (lv_at hl 3 rfl) ?_
      obtain ⟨hi43, h⟩ := if_s1 h
      refine a_I 50 hx hb hK hP hcb aln_50 hi43 dX10_outsOf_43 ?_
      obtain ⟨hi44, h⟩ := if_s1 h
      refine a_Z 71 hx hb hK hP hcb alZ_71 hi44 dX10_outsOf_44 ?_
      refine lv_if_eq (tgt := 54) hx hb dX10_outsOf_45 (by decide) (fun c45 => ?_) (fun c45 => ?_)
      · replace h := if_t c45 h
        exact wX10_outsOf_54 bs D y n k4_ r Gc hk4_ x1 x3 x2 I J _ _ _ hP hS (lv_sub hl [0, 1, 3] rfl) h
      · replace h := if_f c45 h
        exact wX10_outsOf_48 bs D y n k4_ r Gc hk4_ x1 x3 x2 I J _ _ _ hP hS (lv_sub hl [0, 1, 3] rfl) h
    · replace h := if_f c14 h
      refine lv_aload_n hx hb dX10_outsOf_17 rfl (lv_at hl 0 rfl) ?_
      refine g_R (C := RX10) (T := TX10) (N := 49) (ci := 10) 44 40 72 hx hb hts hown hK hP in_X10 rfl hcb okF_44_40 rfc_44_40 fl_142 dX10_outsOf_18 ?_
      refine lv_aload_n hx hb dX10_outsOf_21 rfl (lv_at hl 0 rfl) ?_
      refine g_R (C := RX10) (T := TX10) (N := 49) (ci := 10) 44 5 50 hx hb hts hown hK hP in_X10 rfl hcb okF_44_5 rfc_44_5 fl_159 dX10_outsOf_22 ?_
      refine lv_iload_n hx hb dX10_outsOf_25 rfl (lv_at hl 3 rfl) ?_
      obtain ⟨hi26, h⟩ := if_s1 h
      refine a_I 50 hx hb hK hP hcb aln_50 hi26 dX10_outsOf_26 ?_
      obtain ⟨hi27, h⟩ := if_s1 h
      refine a_Z 72 hx hb hK hP hcb alZ_72 hi27 dX10_outsOf_27 ?_
      refine lv_if_eq (tgt := 54) hx hb dX10_outsOf_28 (by decide) (fun c28 => ?_) (fun c28 => ?_)
      · replace h := if_t c28 h
        exact wX10_outsOf_54 bs D y n k4_ r Gc hk4_ x1 x3 x2 I J _ _ _ hP hS (lv_sub hl [0, 1, 3] rfl) h
      · replace h := if_f c28 h
        refine lv_goto (tgt := 48) hx hb dX10_outsOf_31 (by decide) ?_
        exact wX10_outsOf_48 bs D y n k4_ r Gc hk4_ x1 x3 x2 I J _ _ _ hP hS (lv_sub hl [0, 1, 3] rfl) h
theorem vX10_outsOf_4 {p : Program} {l : Launch} {e : Env} {s : State} {m : MethodId} {args : Array Value} {below : List Frame} {meth : Method} {c : Code} (bs : Nat) (D : va_G) (y : Y3) (n : Nat) (r : Int32 × M2) (Gc : Gx p s m args meth c cX10_outsOf 4 RX10 bs D y (some .int) 76)  : ∀ (q : Nat) (x1 : Int32) (x2 : Int32) (x3 : Int32) (I : MI) (J : MJ) (H : Heap) (locs : List Loc) (ls : Array Slot), va_P D vwCl (wl bs y I J) H → va_S (FA bs) s.heap H locs → lv_has ls 4 [(0, .ref (bs + 44)), (1, .int x1), (2, .int x2), (3, .int x3)] → lX10_outsOf_4 n  q x1 x2 x3 I J = some r → W p l e (rmm 0 0) s m args below meth c H locs 0 0 (QI below args s bs D y r) (F0 m 4 ls []) := by
  intro q
  induction q with
  | zero =>
    intro x1 x2 x3 I J H locs ls hP hS hl h
    have h : (none : Option (Int32 × M2)) = some r := h
    cases h
  | succ q ih =>
    intro x1 x2 x3 I J H locs ls hP hS hl h
    have h : fX10_outsOf_4 n  (lX10_outsOf_4 n  q) x1 x2 x3 I J = some r := h
    exact wX10_outsOf_4 bs D y n  (lX10_outsOf_4 n  q) r Gc  ih x1 x2 x3 I J H locs ls hP hS hl h
set_option maxHeartbeats 4000000 in
set_option maxRecDepth 100000 in
theorem cX10_outsOf_ (l : Launch) (bs : Nat) (D : va_G) (y : Y3) (hcb : 76 ≤ y.2.2.2) (n : Nat) (x1 : Int32) (I : MI) (J : MJ) (r : Int32 × M2) (h : fX10_outsOf n x1 I J = some r) : Met l yX10_outsOf (.code yX10_outsOf cX10_outsOf 4 (some .int) :: gtb) (rmm 0 0) (va_Pc [.ref (bs + 44), .int x1] (HB bs D y I J)) (QcI bs D y r) 0 0 (FA bs) := by
  refine Met.ofW (cc := cX10_outsOf) (maxL := 4) (ret := (some .int)) (by decide) rfl ?_
  intro p e s m args below meth c s₁ B hml hv
  obtain ⟨rfl, hP, hK, hN, hL⟩ := hv
  have hx := B.exec
  have hb := B.bytes
  have hr := B.returns
  have hts0 := atoms_spec (ws := .code yX10_outsOf cX10_outsOf 4 (some .int) :: gtb) B.pre
  have hts : ∀ w ∈ gtb, w.before [.ref (bs + 44), .int x1].toArray s = true := fun w hw => hts0 w (List.mem_cons_of_mem _ hw)
  have hown : s.vm.findClass RX10 = some m.cls := findClass_of_methodNamed B.named
  have hlocks := B.notSynchronized
  have hS : va_S (FA bs) s.heap s.heap [] := va_S.rf
  have Gc : Gx p s m [.ref (bs + 44), .int x1].toArray meth c cX10_outsOf 4 RX10 bs D y (some .int) 76 := ⟨hx, hb, hml, hown, hts, hK, hN, hL, hr, hlocks, hcb⟩
  have hl := lv_entry [.ref (bs + 44), .int x1] (n := 4) (Nat.le_of_ble_eq_true rfl)
  rw [lg_entry_eq]
  generalize (lg_sl [.ref (bs + 44), .int x1] ++ List.replicate (4 - (lg_sl [.ref (bs + 44), .int x1]).length) Slot.unset).toArray = ls at hl ⊢
  have hl : lv_has ls 4 [(0, .ref (bs + 44)), (1, .int x1)] := hl
  change W p l e (rmm 0 0) s m [.ref (bs + 44), .int x1].toArray below meth c s.heap [] 0 0 (QI below [.ref (bs + 44), .int x1].toArray s bs D y r) (F0 m 0 ls [])
  unfold fX10_outsOf at h
  refine lv_iconst (v := (0 : Int32)) hx hb dX10_outsOf_0 (by decide) ?_
  refine lv_istore_n (lv' := [(2, .int (0 : Int32)), (0, .ref (bs + 44)), (1, .int x1)]) hx hb dX10_outsOf_1 rfl hl (by decide) rfl (fun ls hl => ?_)
  refine lv_iconst (v := (0 : Int32)) hx hb dX10_outsOf_2 (by decide) ?_
  refine lv_istore_n (lv' := [(3, .int (0 : Int32)), (2, .int (0 : Int32)), (0, .ref (bs + 44)), (1, .int x1)]) hx hb dX10_outsOf_3 rfl hl (by decide) rfl (fun ls hl => ?_)
  exact vX10_outsOf_4 bs D y n  r Gc  n x1 (0 : Int32) (0 : Int32) I J _ _ _ hP hS (lv_sub hl [2, 3, 1, 0] rfl) h
theorem dX10_clockNet_0 : decode cX10_clockNet 0 = .ok (.iconst 0, 1) := by decide +kernel
theorem dX10_clockNet_1 : decode cX10_clockNet 1 = .ok (.istore_n 1, 1) := by decide +kernel
theorem dX10_clockNet_2 : decode cX10_clockNet 2 = .ok (.iload_n 1, 1) := by decide +kernel
theorem dX10_clockNet_3 : decode cX10_clockNet 3 = .ok (.aload_n 0, 1) := by decide +kernel
theorem dX10_clockNet_4 : decode cX10_clockNet 4 = .ok (.getfield 123, 3) := by decide +kernel
theorem dX10_clockNet_7 : decode cX10_clockNet 7 = .ok (.if_icmp .ge 54, 3) := by decide +kernel
theorem dX10_clockNet_10 : decode cX10_clockNet 10 = .ok (.aload_n 0, 1) := by decide +kernel
theorem dX10_clockNet_11 : decode cX10_clockNet 11 = .ok (.getfield 7, 3) := by decide +kernel
theorem dX10_clockNet_14 : decode cX10_clockNet 14 = .ok (.iload_n 1, 1) := by decide +kernel
theorem dX10_clockNet_15 : decode cX10_clockNet 15 = .ok (.iaload, 1) := by decide +kernel
theorem dX10_clockNet_16 : decode cX10_clockNet 16 = .ok (.iconst 2, 1) := by decide +kernel
theorem dX10_clockNet_17 : decode cX10_clockNet 17 = .ok (.if_icmp .ne 38, 3) := by decide +kernel
theorem dX10_clockNet_20 : decode cX10_clockNet 20 = .ok (.aload_n 0, 1) := by decide +kernel
theorem dX10_clockNet_21 : decode cX10_clockNet 21 = .ok (.getfield 102, 3) := by decide +kernel
theorem dX10_clockNet_24 : decode cX10_clockNet 24 = .ok (.iload_n 1, 1) := by decide +kernel
theorem dX10_clockNet_25 : decode cX10_clockNet 25 = .ok (.aload_n 0, 1) := by decide +kernel
theorem dX10_clockNet_26 : decode cX10_clockNet 26 = .ok (.getfield 19, 3) := by decide +kernel
theorem dX10_clockNet_29 : decode cX10_clockNet 29 = .ok (.iload_n 1, 1) := by decide +kernel
theorem dX10_clockNet_30 : decode cX10_clockNet 30 = .ok (.iaload, 1) := by decide +kernel
theorem dX10_clockNet_31 : decode cX10_clockNet 31 = .ok (.aload_n 0, 1) := by decide +kernel
theorem dX10_clockNet_32 : decode cX10_clockNet 32 = .ok (.aload_n 0, 1) := by decide +kernel
theorem dX10_clockNet_33 : decode cX10_clockNet 33 = .ok (.getfield 13, 3) := by decide +kernel
theorem dX10_clockNet_36 : decode cX10_clockNet 36 = .ok (.iload_n 1, 1) := by decide +kernel
theorem dX10_clockNet_37 : decode cX10_clockNet 37 = .ok (.iaload, 1) := by decide +kernel
theorem dX10_clockNet_38 : decode cX10_clockNet 38 = .ok (.invokevirtual 328, 3) := by decide +kernel
theorem dX10_clockNet_41 : decode cX10_clockNet 41 = .ok (.aload_n 0, 1) := by decide +kernel
theorem dX10_clockNet_42 : decode cX10_clockNet 42 = .ok (.aload_n 0, 1) := by decide +kernel
theorem dX10_clockNet_43 : decode cX10_clockNet 43 = .ok (.getfield 16, 3) := by decide +kernel
theorem dX10_clockNet_46 : decode cX10_clockNet 46 = .ok (.iload_n 1, 1) := by decide +kernel
theorem dX10_clockNet_47 : decode cX10_clockNet 47 = .ok (.iaload, 1) := by decide +kernel
theorem dX10_clockNet_48 : decode cX10_clockNet 48 = .ok (.invokevirtual 328, 3) := by decide +kernel
theorem dX10_clockNet_51 : decode cX10_clockNet 51 = .ok (.invokestatic 206, 3) := by decide +kernel
theorem dX10_clockNet_54 : decode cX10_clockNet 54 = .ok (.bastore, 1) := by decide +kernel
theorem dX10_clockNet_55 : decode cX10_clockNet 55 = .ok (.iinc 1 1, 3) := by decide +kernel
theorem dX10_clockNet_58 : decode cX10_clockNet 58 = .ok (.goto (-56), 3) := by decide +kernel
theorem dX10_clockNet_61 : decode cX10_clockNet 61 = .ok (.aload_n 0, 1) := by decide +kernel
theorem dX10_clockNet_62 : decode cX10_clockNet 62 = .ok (.aload_n 0, 1) := by decide +kernel
theorem dX10_clockNet_63 : decode cX10_clockNet 63 = .ok (.iconst 0, 1) := by decide +kernel
theorem dX10_clockNet_64 : decode cX10_clockNet 64 = .ok (.invokevirtual 331, 3) := by decide +kernel
theorem dX10_clockNet_67 : decode cX10_clockNet 67 = .ok (.putfield 335, 3) := by decide +kernel
theorem dX10_clockNet_70 : decode cX10_clockNet 70 = .ok (.iconst 0, 1) := by decide +kernel
theorem dX10_clockNet_71 : decode cX10_clockNet 71 = .ok (.istore_n 1, 1) := by decide +kernel
theorem dX10_clockNet_72 : decode cX10_clockNet 72 = .ok (.iload_n 1, 1) := by decide +kernel
theorem dX10_clockNet_73 : decode cX10_clockNet 73 = .ok (.aload_n 0, 1) := by decide +kernel
theorem dX10_clockNet_74 : decode cX10_clockNet 74 = .ok (.getfield 123, 3) := by decide +kernel
theorem dX10_clockNet_77 : decode cX10_clockNet 77 = .ok (.if_icmp .ge 44, 3) := by decide +kernel
theorem dX10_clockNet_80 : decode cX10_clockNet 80 = .ok (.aload_n 0, 1) := by decide +kernel
theorem dX10_clockNet_81 : decode cX10_clockNet 81 = .ok (.getfield 108, 3) := by decide +kernel
theorem dX10_clockNet_84 : decode cX10_clockNet 84 = .ok (.iload_n 1, 1) := by decide +kernel
theorem dX10_clockNet_85 : decode cX10_clockNet 85 = .ok (.aload_n 0, 1) := by decide +kernel
theorem dX10_clockNet_86 : decode cX10_clockNet 86 = .ok (.getfield 7, 3) := by decide +kernel
theorem dX10_clockNet_89 : decode cX10_clockNet 89 = .ok (.iload_n 1, 1) := by decide +kernel
theorem dX10_clockNet_90 : decode cX10_clockNet 90 = .ok (.iaload, 1) := by decide +kernel
theorem dX10_clockNet_91 : decode cX10_clockNet 91 = .ok (.iconst 1, 1) := by decide +kernel
theorem dX10_clockNet_92 : decode cX10_clockNet 92 = .ok (.if_icmp .ne 21, 3) := by decide +kernel
theorem dX10_clockNet_95 : decode cX10_clockNet 95 = .ok (.aload_n 0, 1) := by decide +kernel
theorem dX10_clockNet_96 : decode cX10_clockNet 96 = .ok (.getfield 102, 3) := by decide +kernel
theorem dX10_clockNet_99 : decode cX10_clockNet 99 = .ok (.aload_n 0, 1) := by decide +kernel
theorem dX10_clockNet_100 : decode cX10_clockNet 100 = .ok (.getfield 13, 3) := by decide +kernel
theorem dX10_clockNet_103 : decode cX10_clockNet 103 = .ok (.iload_n 1, 1) := by decide +kernel
theorem dX10_clockNet_104 : decode cX10_clockNet 104 = .ok (.iaload, 1) := by decide +kernel
theorem dX10_clockNet_105 : decode cX10_clockNet 105 = .ok (.baload, 1) := by decide +kernel
theorem dX10_clockNet_106 : decode cX10_clockNet 106 = .ok (.ifCond .eq 7, 3) := by decide +kernel
theorem dX10_clockNet_109 : decode cX10_clockNet 109 = .ok (.iconst 1, 1) := by decide +kernel
theorem dX10_clockNet_110 : decode cX10_clockNet 110 = .ok (.goto 4, 3) := by decide +kernel
theorem dX10_clockNet_113 : decode cX10_clockNet 113 = .ok (.iconst 0, 1) := by decide +kernel
theorem dX10_clockNet_114 : decode cX10_clockNet 114 = .ok (.bastore, 1) := by decide +kernel
theorem dX10_clockNet_115 : decode cX10_clockNet 115 = .ok (.iinc 1 1, 3) := by decide +kernel
theorem dX10_clockNet_118 : decode cX10_clockNet 118 = .ok (.goto (-46), 3) := by decide +kernel
theorem dX10_clockNet_121 : decode cX10_clockNet 121 = .ok (.iconst 0, 1) := by decide +kernel
theorem dX10_clockNet_122 : decode cX10_clockNet 122 = .ok (.istore_n 1, 1) := by decide +kernel
theorem dX10_clockNet_123 : decode cX10_clockNet 123 = .ok (.iload_n 1, 1) := by decide +kernel
theorem dX10_clockNet_124 : decode cX10_clockNet 124 = .ok (.aload_n 0, 1) := by decide +kernel
theorem dX10_clockNet_125 : decode cX10_clockNet 125 = .ok (.getfield 123, 3) := by decide +kernel
theorem dX10_clockNet_128 : decode cX10_clockNet 128 = .ok (.if_icmp .ge 31, 3) := by decide +kernel
theorem dX10_clockNet_131 : decode cX10_clockNet 131 = .ok (.aload_n 0, 1) := by decide +kernel
theorem dX10_clockNet_132 : decode cX10_clockNet 132 = .ok (.getfield 7, 3) := by decide +kernel
theorem dX10_clockNet_135 : decode cX10_clockNet 135 = .ok (.iload_n 1, 1) := by decide +kernel
theorem dX10_clockNet_136 : decode cX10_clockNet 136 = .ok (.iaload, 1) := by decide +kernel
theorem dX10_clockNet_137 : decode cX10_clockNet 137 = .ok (.iconst 1, 1) := by decide +kernel
theorem dX10_clockNet_138 : decode cX10_clockNet 138 = .ok (.if_icmp .ne 15, 3) := by decide +kernel
theorem dX10_clockNet_141 : decode cX10_clockNet 141 = .ok (.aload_n 0, 1) := by decide +kernel
theorem dX10_clockNet_142 : decode cX10_clockNet 142 = .ok (.getfield 102, 3) := by decide +kernel
theorem dX10_clockNet_145 : decode cX10_clockNet 145 = .ok (.iload_n 1, 1) := by decide +kernel
theorem dX10_clockNet_146 : decode cX10_clockNet 146 = .ok (.aload_n 0, 1) := by decide +kernel
theorem dX10_clockNet_147 : decode cX10_clockNet 147 = .ok (.getfield 108, 3) := by decide +kernel
theorem dX10_clockNet_150 : decode cX10_clockNet 150 = .ok (.iload_n 1, 1) := by decide +kernel
theorem dX10_clockNet_151 : decode cX10_clockNet 151 = .ok (.baload, 1) := by decide +kernel
theorem dX10_clockNet_152 : decode cX10_clockNet 152 = .ok (.bastore, 1) := by decide +kernel
theorem dX10_clockNet_153 : decode cX10_clockNet 153 = .ok (.iinc 1 1, 3) := by decide +kernel
theorem dX10_clockNet_156 : decode cX10_clockNet 156 = .ok (.goto (-33), 3) := by decide +kernel
theorem dX10_clockNet_159 : decode cX10_clockNet 159 = .ok (.return_, 1) := by decide +kernel
set_option maxHeartbeats 4000000 in
set_option maxRecDepth 100000 in
theorem wX10_clockNet_153 {p : Program} {l : Launch} {e : Env} {s : State} {m : MethodId} {args : Array Value} {below : List Frame} {meth : Method} {c : Code} (bs : Nat) (D : va_G) (y : Y3) (n : Nat) (k123_ : Int32 → MI → MJ → Option (M2)) (r : M2) (Gc : Gx p s m args meth c cX10_clockNet 2 RX10 bs D y none 76) (hk123_ : ∀ (x1 : Int32) (I : MI) (J : MJ) (H : Heap) (locs : List Loc) (ls : Array Slot), va_P D vwCl (wl bs y I J) H → va_S (FA bs) s.heap H locs → lv_has ls 2 [(0, .ref (bs + 44)), (1, .int x1)] → k123_ x1 I J = some r → W p l e (rmm 1 23) s m args below meth c H locs 0 0 (QV below args s bs D y r) (F0 m 123 ls [])) (x1 : Int32) (I : MI) (J : MJ) (H : Heap) (locs : List Loc) (ls : Array Slot) (hP : va_P D vwCl (wl bs y I J) H) (hS : va_S (FA bs) s.heap H locs) (hl : lv_has ls 2 [(0, .ref (bs + 44)), (1, .int x1)]) (h : fX10_clockNet_153 n k123_ x1 I J = some r) : W p l e (rmm 1 23) s m args below meth c H locs 0 0 (QV below args s bs D y r) (F0 m 153 ls []) := by
  obtain ⟨hx, hb, hml, hown, hts, hK, hN, hL, hr, hlocks, hcb⟩ := id Gc
  unfold fX10_clockNet_153 at h
  refine lv_iinc (v := (x1 + (1 : Int32))) (lv' := [(1, .int (x1 + (1 : Int32))), (0, .ref (bs + 44))]) hx hb dX10_clockNet_153 hl (k := 1) rfl rfl (by decide) rfl (fun ls hl => ?_)
  refine lv_goto (tgt := 123) hx hb dX10_clockNet_156 (by decide) ?_
  exact hk123_ (x1 + (1 : Int32)) I J _ _ _ hP hS (lv_sub hl [1, 0] rfl) h
set_option maxHeartbeats 4000000 in
set_option maxRecDepth 100000 in
theorem wX10_clockNet_123 {p : Program} {l : Launch} {e : Env} {s : State} {m : MethodId} {args : Array Value} {below : List Frame} {meth : Method} {c : Code} (bs : Nat) (D : va_G) (y : Y3) (n : Nat) (k123_ : Int32 → MI → MJ → Option (M2)) (r : M2) (Gc : Gx p s m args meth c cX10_clockNet 2 RX10 bs D y none 76) (hk123_ : ∀ (x1 : Int32) (I : MI) (J : MJ) (H : Heap) (locs : List Loc) (ls : Array Slot), va_P D vwCl (wl bs y I J) H → va_S (FA bs) s.heap H locs → lv_has ls 2 [(0, .ref (bs + 44)), (1, .int x1)] → k123_ x1 I J = some r → W p l e (rmm 1 23) s m args below meth c H locs 0 0 (QV below args s bs D y r) (F0 m 123 ls [])) (x1 : Int32) (I : MI) (J : MJ) (H : Heap) (locs : List Loc) (ls : Array Slot) (hP : va_P D vwCl (wl bs y I J) H) (hS : va_S (FA bs) s.heap H locs) (hl : lv_has ls 2 [(0, .ref (bs + 44)), (1, .int x1)]) (h : fX10_clockNet_123 n k123_ x1 I J = some r) : W p l e (rmm 1 23) s m args below meth c H locs 0 0 (QV below args s bs D y r) (F0 m 123 ls []) := by
  obtain ⟨hx, hb, hml, hown, hts, hK, hN, hL, hr, hlocks, hcb⟩ := id Gc
  unfold fX10_clockNet_123 at h
  refine lv_iload_n hx hb dX10_clockNet_123 rfl (lv_at hl 1 rfl) ?_
  refine lv_aload_n hx hb dX10_clockNet_124 rfl (lv_at hl 0 rfl) ?_
  refine g_I (C := RX10) (T := TX10) (N := 49) (ci := 10) 44 6 hx hb hts hown hK hP in_X10 rfl hcb okF_44_6 fl_141 dX10_clockNet_125 ?_
  refine lv_icmp_ge (tgt := 159) hx hb dX10_clockNet_128 (by decide) (fun c128 => ?_) (fun c128 => ?_)
  · replace h := if_t c128 h
    exact r_V hx hb hr hlocks hP hK hN hL hS h dX10_clockNet_159
  · replace h := if_f c128 h
    refine lv_aload_n hx hb dX10_clockNet_131 rfl (lv_at hl 0 rfl) ?_
    refine g_R (C := RX10) (T := TX10) (N := 49) (ci := 10) 44 0 45 hx hb hts hown hK hP in_X10 rfl hcb okF_44_0 rfc_44_0 fl_146 dX10_clockNet_132 ?_
    refine lv_iload_n hx hb dX10_clockNet_135 rfl (lv_at hl 1 rfl) ?_
    obtain ⟨hi136, h⟩ := if_s1 h
    refine a_I 45 hx hb hK hP hcb aln_45 hi136 dX10_clockNet_136 ?_
    refine lv_iconst (v := (1 : Int32)) hx hb dX10_clockNet_137 (by decide) ?_
    refine lv_icmp_ne (tgt := 153) hx hb dX10_clockNet_138 (by decide) (fun c138 => ?_) (fun c138 => ?_)
    · replace h := if_f c138 h
      exact wX10_clockNet_153 bs D y n k123_ r Gc hk123_ x1 I J _ _ _ hP hS (lv_sub hl [0, 1] rfl) h
    · replace h := if_t c138 h
      refine lv_aload_n hx hb dX10_clockNet_141 rfl (lv_at hl 0 rfl) ?_
      refine g_R (C := RX10) (T := TX10) (N := 49) (ci := 10) 44 39 71 hx hb hts hown hK hP in_X10 rfl hcb okF_44_39 rfc_44_39 fl_143 dX10_clockNet_142 ?_
      refine lv_iload_n hx hb dX10_clockNet_145 rfl (lv_at hl 1 rfl) ?_
      refine lv_aload_n hx hb dX10_clockNet_146 rfl (lv_at hl 0 rfl) ?_
      refine g_R (C := RX10) (T := TX10) (N := 49) (ci := 10) 44 41 73 hx hb hts hown hK hP in_X10 rfl hcb okF_44_41 rfc_44_41 fl_183 dX10_clockNet_147 ?_
      refine lv_iload_n hx hb dX10_clockNet_150 rfl (lv_at hl 1 rfl) ?_
      obtain ⟨hi151, h⟩ := if_s1 h
      refine a_Z 73 hx hb hK hP hcb alZ_73 hi151 dX10_clockNet_151 ?_
      obtain ⟨hi152, h⟩ := if_s1 h
      obtain ⟨I152, eI152, h⟩ := lt_s1 h
      refine t_Z 71 eI152 hx hb hK hP hS hcb alZ_71 hi152 dX10_clockNet_152 (fun H locs hP hS => ?_)
      exact wX10_clockNet_153 bs D y n k123_ r Gc hk123_ x1 I152 J _ _ _ hP hS (lv_sub hl [0, 1] rfl) h
theorem vX10_clockNet_123 {p : Program} {l : Launch} {e : Env} {s : State} {m : MethodId} {args : Array Value} {below : List Frame} {meth : Method} {c : Code} (bs : Nat) (D : va_G) (y : Y3) (n : Nat) (r : M2) (Gc : Gx p s m args meth c cX10_clockNet 2 RX10 bs D y none 76)  : ∀ (q : Nat) (x1 : Int32) (I : MI) (J : MJ) (H : Heap) (locs : List Loc) (ls : Array Slot), va_P D vwCl (wl bs y I J) H → va_S (FA bs) s.heap H locs → lv_has ls 2 [(0, .ref (bs + 44)), (1, .int x1)] → lX10_clockNet_123 n  q x1 I J = some r → W p l e (rmm 1 23) s m args below meth c H locs 0 0 (QV below args s bs D y r) (F0 m 123 ls []) := by
  intro q
  induction q with
  | zero =>
    intro x1 I J H locs ls hP hS hl h
    have h : (none : Option (M2)) = some r := h
    cases h
  | succ q ih =>
    intro x1 I J H locs ls hP hS hl h
    have h : fX10_clockNet_123 n  (lX10_clockNet_123 n  q) x1 I J = some r := h
    exact wX10_clockNet_123 bs D y n  (lX10_clockNet_123 n  q) r Gc  ih x1 I J H locs ls hP hS hl h
set_option maxHeartbeats 4000000 in
set_option maxRecDepth 100000 in
theorem wX10_clockNet_114 {p : Program} {l : Launch} {e : Env} {s : State} {m : MethodId} {args : Array Value} {below : List Frame} {meth : Method} {c : Code} (bs : Nat) (D : va_G) (y : Y3) (n : Nat) (k72_ : Int32 → MI → MJ → Option (M2)) (r : M2) (Gc : Gx p s m args meth c cX10_clockNet 2 RX10 bs D y none 76) (hk72_ : ∀ (x1 : Int32) (I : MI) (J : MJ) (H : Heap) (locs : List Loc) (ls : Array Slot), va_P D vwCl (wl bs y I J) H → va_S (FA bs) s.heap H locs → lv_has ls 2 [(0, .ref (bs + 44)), (1, .int x1)] → k72_ x1 I J = some r → W p l e (rmm 1 23) s m args below meth c H locs 0 0 (QV below args s bs D y r) (F0 m 72 ls [])) (x1 : Int32) (s1 : Int32) (s2 : Int32) (I : MI) (J : MJ) (H : Heap) (locs : List Loc) (ls : Array Slot) (hP : va_P D vwCl (wl bs y I J) H) (hS : va_S (FA bs) s.heap H locs) (hl : lv_has ls 2 [(0, .ref (bs + 44)), (1, .int x1)]) (h : fX10_clockNet_114 n k72_ x1 s1 s2 I J = some r) : W p l e (rmm 1 23) s m args below meth c H locs 0 0 (QV below args s bs D y r) (F0 m 114 ls [.int s2, .int s1, .ref (bs + 73)]) := by
  obtain ⟨hx, hb, hml, hown, hts, hK, hN, hL, hr, hlocks, hcb⟩ := id Gc
  unfold fX10_clockNet_114 at h
  obtain ⟨hi114, h⟩ := if_s1 h
  obtain ⟨I114, eI114, h⟩ := lt_s1 h
  refine t_Z 73 eI114 hx hb hK hP hS hcb alZ_73 hi114 dX10_clockNet_114 (fun H locs hP hS => ?_)
  refine lv_iinc (v := (x1 + (1 : Int32))) (lv' := [(1, .int (x1 + (1 : Int32))), (0, .ref (bs + 44))]) hx hb dX10_clockNet_115 hl (k := 1) rfl rfl (by decide) rfl (fun ls hl => ?_)
  refine lv_goto (tgt := 72) hx hb dX10_clockNet_118 (by decide) ?_
  exact hk72_ (x1 + (1 : Int32)) I114 J _ _ _ hP hS (lv_sub hl [1, 0] rfl) h
set_option maxHeartbeats 4000000 in
set_option maxRecDepth 100000 in
theorem wX10_clockNet_113 {p : Program} {l : Launch} {e : Env} {s : State} {m : MethodId} {args : Array Value} {below : List Frame} {meth : Method} {c : Code} (bs : Nat) (D : va_G) (y : Y3) (n : Nat) (k72_ : Int32 → MI → MJ → Option (M2)) (r : M2) (Gc : Gx p s m args meth c cX10_clockNet 2 RX10 bs D y none 76) (hk72_ : ∀ (x1 : Int32) (I : MI) (J : MJ) (H : Heap) (locs : List Loc) (ls : Array Slot), va_P D vwCl (wl bs y I J) H → va_S (FA bs) s.heap H locs → lv_has ls 2 [(0, .ref (bs + 44)), (1, .int x1)] → k72_ x1 I J = some r → W p l e (rmm 1 23) s m args below meth c H locs 0 0 (QV below args s bs D y r) (F0 m 72 ls [])) (x1 : Int32) (s1 : Int32) (I : MI) (J : MJ) (H : Heap) (locs : List Loc) (ls : Array Slot) (hP : va_P D vwCl (wl bs y I J) H) (hS : va_S (FA bs) s.heap H locs) (hl : lv_has ls 2 [(0, .ref (bs + 44)), (1, .int x1)]) (h : fX10_clockNet_113 n k72_ x1 s1 I J = some r) : W p l e (rmm 1 23) s m args below meth c H locs 0 0 (QV below args s bs D y r) (F0 m 113 ls [.int s1, .ref (bs + 73)]) := by
  obtain ⟨hx, hb, hml, hown, hts, hK, hN, hL, hr, hlocks, hcb⟩ := id Gc
  unfold fX10_clockNet_113 at h
  refine lv_iconst (v := (0 : Int32)) hx hb dX10_clockNet_113 (by decide) ?_
  exact wX10_clockNet_114 bs D y n k72_ r Gc hk72_ x1 s1 (0 : Int32) I J _ _ _ hP hS (lv_sub hl [0, 1] rfl) h
set_option maxHeartbeats 4000000 in
set_option maxRecDepth 100000 in
theorem wX10_clockNet_72 {p : Program} {l : Launch} {e : Env} {s : State} {m : MethodId} {args : Array Value} {below : List Frame} {meth : Method} {c : Code} (bs : Nat) (D : va_G) (y : Y3) (n : Nat) (k72_ : Int32 → MI → MJ → Option (M2)) (r : M2) (Gc : Gx p s m args meth c cX10_clockNet 2 RX10 bs D y none 76) (hk72_ : ∀ (x1 : Int32) (I : MI) (J : MJ) (H : Heap) (locs : List Loc) (ls : Array Slot), va_P D vwCl (wl bs y I J) H → va_S (FA bs) s.heap H locs → lv_has ls 2 [(0, .ref (bs + 44)), (1, .int x1)] → k72_ x1 I J = some r → W p l e (rmm 1 23) s m args below meth c H locs 0 0 (QV below args s bs D y r) (F0 m 72 ls [])) (x1 : Int32) (I : MI) (J : MJ) (H : Heap) (locs : List Loc) (ls : Array Slot) (hP : va_P D vwCl (wl bs y I J) H) (hS : va_S (FA bs) s.heap H locs) (hl : lv_has ls 2 [(0, .ref (bs + 44)), (1, .int x1)]) (h : fX10_clockNet_72 n k72_ x1 I J = some r) : W p l e (rmm 1 23) s m args below meth c H locs 0 0 (QV below args s bs D y r) (F0 m 72 ls []) := by
  obtain ⟨hx, hb, hml, hown, hts, hK, hN, hL, hr, hlocks, hcb⟩ := id Gc
  unfold fX10_clockNet_72 at h
  refine lv_iload_n hx hb dX10_clockNet_72 rfl (lv_at hl 1 rfl) ?_
  refine lv_aload_n hx hb dX10_clockNet_73 rfl (lv_at hl 0 rfl) ?_
  refine g_I (C := RX10) (T := TX10) (N := 49) (ci := 10) 44 6 hx hb hts hown hK hP in_X10 rfl hcb okF_44_6 fl_141 dX10_clockNet_74 ?_
  refine lv_icmp_ge (tgt := 121) hx hb dX10_clockNet_77 (by decide) (fun c77 => ?_) (fun c77 => ?_)
  · replace h := if_t c77 h
    refine lv_iconst (v := (0 : Int32)) hx hb dX10_clockNet_121 (by decide) ?_
    refine lv_istore_n (lv' := [(1, .int (0 : Int32)), (0, .ref (bs + 44))]) hx hb dX10_clockNet_122 rfl hl (by decide) rfl (fun ls hl => ?_)
    exact vX10_clockNet_123 bs D y n  r Gc  n (0 : Int32) I J _ _ _ hP hS (lv_sub hl [1, 0] rfl) h
  · replace h := if_f c77 h
    refine lv_aload_n hx hb dX10_clockNet_80 rfl (lv_at hl 0 rfl) ?_
    refine g_R (C := RX10) (T := TX10) (N := 49) (ci := 10) 44 41 73 hx hb hts hown hK hP in_X10 rfl hcb okF_44_41 rfc_44_41 fl_183 dX10_clockNet_81 ?_
    refine lv_iload_n hx hb dX10_clockNet_84 rfl (lv_at hl 1 rfl) ?_
    refine lv_aload_n hx hb dX10_clockNet_85 rfl (lv_at hl 0 rfl) ?_
    refine g_R (C := RX10) (T := TX10) (N := 49) (ci := 10) 44 0 45 hx hb hts hown hK hP in_X10 rfl hcb okF_44_0 rfc_44_0 fl_146 dX10_clockNet_86 ?_
    refine lv_iload_n hx hb dX10_clockNet_89 rfl (lv_at hl 1 rfl) ?_
    obtain ⟨hi90, h⟩ := if_s1 h
    refine a_I 45 hx hb hK hP hcb aln_45 hi90 dX10_clockNet_90 ?_
    refine lv_iconst (v := (1 : Int32)) hx hb dX10_clockNet_91 (by decide) ?_
    refine lv_icmp_ne (tgt := 113) hx hb dX10_clockNet_92 (by decide) (fun c92 => ?_) (fun c92 => ?_)
    · replace h := if_f c92 h
      exact wX10_clockNet_113 bs D y n k72_ r Gc hk72_ x1 x1 I J _ _ _ hP hS (lv_sub hl [0, 1] rfl) h
    · replace h := if_t c92 h
      refine lv_aload_n hx hb dX10_clockNet_95 rfl (lv_at hl 0 rfl) ?_
      refine g_R (C := RX10) (T := TX10) (N := 49) (ci := 10) 44 39 71 hx hb hts hown hK hP in_X10 rfl hcb okF_44_39 rfc_44_39 fl_143 dX10_clockNet_96 ?_
      refine lv_aload_n hx hb dX10_clockNet_99 rfl (lv_at hl 0 rfl) ?_
      refine g_R (C := RX10) (T := TX10) (N := 49) (ci := 10) 44 1 46 hx hb hts hown hK hP in_X10 rfl hcb okF_44_1 rfc_44_1 fl_153 dX10_clockNet_100 ?_
      refine lv_iload_n hx hb dX10_clockNet_103 rfl (lv_at hl 1 rfl) ?_
      obtain ⟨hi104, h⟩ := if_s1 h
      refine a_I 46 hx hb hK hP hcb aln_46 hi104 dX10_clockNet_104 ?_
      obtain ⟨hi105, h⟩ := if_s1 h
      refine a_Z 71 hx hb hK hP hcb alZ_71 hi105 dX10_clockNet_105 ?_
      refine lv_if_eq (tgt := 113) hx hb dX10_clockNet_106 (by decide) (fun c106 => ?_) (fun c106 => ?_)
      · replace h := if_t c106 h
        exact wX10_clockNet_113 bs D y n k72_ r Gc hk72_ x1 x1 I J _ _ _ hP hS (lv_sub hl [0, 1] rfl) h
      · replace h := if_f c106 h
        refine lv_iconst (v := (1 : Int32)) hx hb dX10_clockNet_109 (by decide) ?_
        refine lv_goto (tgt := 114) hx hb dX10_clockNet_110 (by decide) ?_
        exact wX10_clockNet_114 bs D y n k72_ r Gc hk72_ x1 x1 (1 : Int32) I J _ _ _ hP hS (lv_sub hl [0, 1] rfl) h
theorem vX10_clockNet_72 {p : Program} {l : Launch} {e : Env} {s : State} {m : MethodId} {args : Array Value} {below : List Frame} {meth : Method} {c : Code} (bs : Nat) (D : va_G) (y : Y3) (n : Nat) (r : M2) (Gc : Gx p s m args meth c cX10_clockNet 2 RX10 bs D y none 76)  : ∀ (q : Nat) (x1 : Int32) (I : MI) (J : MJ) (H : Heap) (locs : List Loc) (ls : Array Slot), va_P D vwCl (wl bs y I J) H → va_S (FA bs) s.heap H locs → lv_has ls 2 [(0, .ref (bs + 44)), (1, .int x1)] → lX10_clockNet_72 n  q x1 I J = some r → W p l e (rmm 1 23) s m args below meth c H locs 0 0 (QV below args s bs D y r) (F0 m 72 ls []) := by
  intro q
  induction q with
  | zero =>
    intro x1 I J H locs ls hP hS hl h
    have h : (none : Option (M2)) = some r := h
    cases h
  | succ q ih =>
    intro x1 I J H locs ls hP hS hl h
    have h : fX10_clockNet_72 n  (lX10_clockNet_72 n  q) x1 I J = some r := h
    exact wX10_clockNet_72 bs D y n  (lX10_clockNet_72 n  q) r Gc  ih x1 I J H locs ls hP hS hl h
set_option maxHeartbeats 4000000 in
set_option maxRecDepth 100000 in
theorem wX10_clockNet_55 {p : Program} {l : Launch} {e : Env} {s : State} {m : MethodId} {args : Array Value} {below : List Frame} {meth : Method} {c : Code} (bs : Nat) (D : va_G) (y : Y3) (n : Nat) (k2_ : Int32 → MI → MJ → Option (M2)) (r : M2) (Gc : Gx p s m args meth c cX10_clockNet 2 RX10 bs D y none 76) (hk2_ : ∀ (x1 : Int32) (I : MI) (J : MJ) (H : Heap) (locs : List Loc) (ls : Array Slot), va_P D vwCl (wl bs y I J) H → va_S (FA bs) s.heap H locs → lv_has ls 2 [(0, .ref (bs + 44)), (1, .int x1)] → k2_ x1 I J = some r → W p l e (rmm 1 23) s m args below meth c H locs 0 0 (QV below args s bs D y r) (F0 m 2 ls [])) (x1 : Int32) (I : MI) (J : MJ) (H : Heap) (locs : List Loc) (ls : Array Slot) (hP : va_P D vwCl (wl bs y I J) H) (hS : va_S (FA bs) s.heap H locs) (hl : lv_has ls 2 [(0, .ref (bs + 44)), (1, .int x1)]) (h : fX10_clockNet_55 n k2_ x1 I J = some r) : W p l e (rmm 1 23) s m args below meth c H locs 0 0 (QV below args s bs D y r) (F0 m 55 ls []) := by
  obtain ⟨hx, hb, hml, hown, hts, hK, hN, hL, hr, hlocks, hcb⟩ := id Gc
  unfold fX10_clockNet_55 at h
  refine lv_iinc (v := (x1 + (1 : Int32))) (lv' := [(1, .int (x1 + (1 : Int32))), (0, .ref (bs + 44))]) hx hb dX10_clockNet_55 hl (k := 1) rfl rfl (by decide) rfl (fun ls hl => ?_)
  refine lv_goto (tgt := 2) hx hb dX10_clockNet_58 (by decide) ?_
  exact hk2_ (x1 + (1 : Int32)) I J _ _ _ hP hS (lv_sub hl [1, 0] rfl) h
set_option maxHeartbeats 4000000 in
set_option maxRecDepth 100000 in
theorem wX10_clockNet_2 {p : Program} {l : Launch} {e : Env} {s : State} {m : MethodId} {args : Array Value} {below : List Frame} {meth : Method} {c : Code} (bs : Nat) (D : va_G) (y : Y3) (n : Nat) (k2_ : Int32 → MI → MJ → Option (M2)) (r : M2) (Gc : Gx p s m args meth c cX10_clockNet 2 RX10 bs D y none 76) (hk2_ : ∀ (x1 : Int32) (I : MI) (J : MJ) (H : Heap) (locs : List Loc) (ls : Array Slot), va_P D vwCl (wl bs y I J) H → va_S (FA bs) s.heap H locs → lv_has ls 2 [(0, .ref (bs + 44)), (1, .int x1)] → k2_ x1 I J = some r → W p l e (rmm 1 23) s m args below meth c H locs 0 0 (QV below args s bs D y r) (F0 m 2 ls [])) (x1 : Int32) (I : MI) (J : MJ) (H : Heap) (locs : List Loc) (ls : Array Slot) (hP : va_P D vwCl (wl bs y I J) H) (hS : va_S (FA bs) s.heap H locs) (hl : lv_has ls 2 [(0, .ref (bs + 44)), (1, .int x1)]) (h : fX10_clockNet_2 n k2_ x1 I J = some r) : W p l e (rmm 1 23) s m args below meth c H locs 0 0 (QV below args s bs D y r) (F0 m 2 ls []) := by
  obtain ⟨hx, hb, hml, hown, hts, hK, hN, hL, hr, hlocks, hcb⟩ := id Gc
  unfold fX10_clockNet_2 at h
  refine lv_iload_n hx hb dX10_clockNet_2 rfl (lv_at hl 1 rfl) ?_
  refine lv_aload_n hx hb dX10_clockNet_3 rfl (lv_at hl 0 rfl) ?_
  refine g_I (C := RX10) (T := TX10) (N := 49) (ci := 10) 44 6 hx hb hts hown hK hP in_X10 rfl hcb okF_44_6 fl_141 dX10_clockNet_4 ?_
  refine lv_icmp_ge (tgt := 61) hx hb dX10_clockNet_7 (by decide) (fun c7 => ?_) (fun c7 => ?_)
  · replace h := if_t c7 h
    refine lv_aload_n hx hb dX10_clockNet_61 rfl (lv_at hl 0 rfl) ?_
    refine lv_aload_n hx hb dX10_clockNet_62 rfl (lv_at hl 0 rfl) ?_
    refine lv_iconst (v := (0 : Int32)) hx hb dX10_clockNet_63 (by decide) ?_
    obtain ⟨r64, er64, h⟩ := bd_s1 h
    refine c_VI (k := 44) (ci := 10) (As := [.int (0 : Int32)]) (rest := [.ref (bs + 44)]) hx hb hml hown hts hK hN hL hP hS (cX10_outsOf_ l bs D y hcb n (0 : Int32) I J r64 er64) ok_X10_outsOf ov_X10_outsOf ml_163 ⟨Nat.le_of_ble_eq_true rfl, Nat.le_of_ble_eq_true rfl⟩ rfl hcb kd_44 hl.1 rfl rfl (Nat.le_of_ble_eq_true rfl) ⟨Nat.zero_le _, Nat.zero_le _⟩ dX10_clockNet_64 (fun H locs hP hS => ?_)
    obtain ⟨I67, eI67, h⟩ := lt_s1 h
    refine s_I (C := RX10) (T := TX10) (N := 49) (ci := 10) (ty := .int) 44 43 eI67 tyX10 hx hb hts hown hK hP hS in_X10 tyX10_ok nmX10 rfl hcb okF_44_43 fl_184 rfl (by decide +kernel) rfl rfl dX10_clockNet_67 (fun H locs hP hS => ?_)
    refine lv_iconst (v := (0 : Int32)) hx hb dX10_clockNet_70 (by decide) ?_
    refine lv_istore_n (lv' := [(1, .int (0 : Int32)), (0, .ref (bs + 44))]) hx hb dX10_clockNet_71 rfl hl (by decide) rfl (fun ls hl => ?_)
    exact vX10_clockNet_72 bs D y n  r Gc  n (0 : Int32) I67 r64.2.2 _ _ _ hP hS (lv_sub hl [1, 0] rfl) h
  · replace h := if_f c7 h
    refine lv_aload_n hx hb dX10_clockNet_10 rfl (lv_at hl 0 rfl) ?_
    refine g_R (C := RX10) (T := TX10) (N := 49) (ci := 10) 44 0 45 hx hb hts hown hK hP in_X10 rfl hcb okF_44_0 rfc_44_0 fl_146 dX10_clockNet_11 ?_
    refine lv_iload_n hx hb dX10_clockNet_14 rfl (lv_at hl 1 rfl) ?_
    obtain ⟨hi15, h⟩ := if_s1 h
    refine a_I 45 hx hb hK hP hcb aln_45 hi15 dX10_clockNet_15 ?_
    refine lv_iconst (v := (2 : Int32)) hx hb dX10_clockNet_16 (by decide) ?_
    refine lv_icmp_ne (tgt := 55) hx hb dX10_clockNet_17 (by decide) (fun c17 => ?_) (fun c17 => ?_)
    · replace h := if_f c17 h
      exact wX10_clockNet_55 bs D y n k2_ r Gc hk2_ x1 I J _ _ _ hP hS (lv_sub hl [0, 1] rfl) h
    · replace h := if_t c17 h
      refine lv_aload_n hx hb dX10_clockNet_20 rfl (lv_at hl 0 rfl) ?_
      refine g_R (C := RX10) (T := TX10) (N := 49) (ci := 10) 44 39 71 hx hb hts hown hK hP in_X10 rfl hcb okF_44_39 rfc_44_39 fl_143 dX10_clockNet_21 ?_
      refine lv_iload_n hx hb dX10_clockNet_24 rfl (lv_at hl 1 rfl) ?_
      refine lv_aload_n hx hb dX10_clockNet_25 rfl (lv_at hl 0 rfl) ?_
      refine g_R (C := RX10) (T := TX10) (N := 49) (ci := 10) 44 3 48 hx hb hts hown hK hP in_X10 rfl hcb okF_44_3 rfc_44_3 fl_157 dX10_clockNet_26 ?_
      refine lv_iload_n hx hb dX10_clockNet_29 rfl (lv_at hl 1 rfl) ?_
      obtain ⟨hi30, h⟩ := if_s1 h
      refine a_I 48 hx hb hK hP hcb aln_48 hi30 dX10_clockNet_30 ?_
      refine lv_aload_n hx hb dX10_clockNet_31 rfl (lv_at hl 0 rfl) ?_
      refine lv_aload_n hx hb dX10_clockNet_32 rfl (lv_at hl 0 rfl) ?_
      refine g_R (C := RX10) (T := TX10) (N := 49) (ci := 10) 44 1 46 hx hb hts hown hK hP in_X10 rfl hcb okF_44_1 rfc_44_1 fl_153 dX10_clockNet_33 ?_
      refine lv_iload_n hx hb dX10_clockNet_36 rfl (lv_at hl 1 rfl) ?_
      obtain ⟨hi37, h⟩ := if_s1 h
      refine a_I 46 hx hb hK hP hcb aln_46 hi37 dX10_clockNet_37 ?_
      obtain ⟨r38, er38, h⟩ := bd_s1 h
      refine c_VI (k := 44) (ci := 10) (As := [.int (I 46 (x1).toNatClampNeg)]) (rest := [.int (I 48 (x1).toNatClampNeg), .int x1, .ref (bs + 71)]) hx hb hml hown hts hK hN hL hP hS (cX10_netIs_ l bs D y hcb n (I 46 (x1).toNatClampNeg) I J r38 er38) ok_X10_netIs ov_X10_netIs ml_164 ⟨Nat.le_of_ble_eq_true rfl, Nat.le_of_ble_eq_true rfl⟩ rfl hcb kd_44 hl.1 rfl rfl (Nat.le_of_ble_eq_true rfl) ⟨Nat.zero_le _, Nat.zero_le _⟩ dX10_clockNet_38 (fun H locs hP hS => ?_)
      refine lv_aload_n hx hb dX10_clockNet_41 rfl (lv_at hl 0 rfl) ?_
      refine lv_aload_n hx hb dX10_clockNet_42 rfl (lv_at hl 0 rfl) ?_
      refine g_R (C := RX10) (T := TX10) (N := 49) (ci := 10) 44 2 47 hx hb hts hown hK hP in_X10 rfl hcb okF_44_2 rfc_44_2 fl_154 dX10_clockNet_43 ?_
      refine lv_iload_n hx hb dX10_clockNet_46 rfl (lv_at hl 1 rfl) ?_
      obtain ⟨hi47, h⟩ := if_s1 h
      refine a_I 47 hx hb hK hP hcb aln_47 hi47 dX10_clockNet_47 ?_
      obtain ⟨r48, er48, h⟩ := bd_s1 h
      refine c_VI (k := 44) (ci := 10) (As := [.int (r38.2.1 47 (x1).toNatClampNeg)]) (rest := [.int r38.1, .int (I 48 (x1).toNatClampNeg), .int x1, .ref (bs + 71)]) hx hb hml hown hts hK hN hL hP hS (cX10_netIs_ l bs D y hcb n (r38.2.1 47 (x1).toNatClampNeg) r38.2.1 r38.2.2 r48 er48) ok_X10_netIs ov_X10_netIs ml_164 ⟨Nat.le_of_ble_eq_true rfl, Nat.le_of_ble_eq_true rfl⟩ rfl hcb kd_44 hl.1 rfl rfl (Nat.le_of_ble_eq_true rfl) ⟨Nat.zero_le _, Nat.zero_le _⟩ dX10_clockNet_48 (fun H locs hP hS => ?_)
      obtain ⟨r51, er51, h⟩ := bd_s1 h
      refine c_SI (As := [.int (I 48 (x1).toNatClampNeg), .int r38.1, .int r48.1]) (rest := [.int x1, .ref (bs + 71)]) hx hb hml hown hts hK hN hL hP hS (cX10_gateOf_ l bs D y hcb n (I 48 (x1).toNatClampNeg) r38.1 r48.1 r48.2.1 r48.2.2 r51 er51) ok_X10_gateOf ov_X10_gateOf ml_130 ⟨Nat.le_of_ble_eq_true rfl, Nat.le_of_ble_eq_true rfl⟩ hl.1 rfl rfl (Nat.le_of_ble_eq_true rfl) ⟨Nat.zero_le _, Nat.zero_le _⟩ dX10_clockNet_51 (fun H locs hP hS => ?_)
      obtain ⟨hi54, h⟩ := if_s1 h
      obtain ⟨I54, eI54, h⟩ := lt_s1 h
      refine t_Z 71 eI54 hx hb hK hP hS hcb alZ_71 hi54 dX10_clockNet_54 (fun H locs hP hS => ?_)
      exact wX10_clockNet_55 bs D y n k2_ r Gc hk2_ x1 I54 r51.2.2 _ _ _ hP hS (lv_sub hl [0, 1] rfl) h
theorem vX10_clockNet_2 {p : Program} {l : Launch} {e : Env} {s : State} {m : MethodId} {args : Array Value} {below : List Frame} {meth : Method} {c : Code} (bs : Nat) (D : va_G) (y : Y3) (n : Nat) (r : M2) (Gc : Gx p s m args meth c cX10_clockNet 2 RX10 bs D y none 76)  : ∀ (q : Nat) (x1 : Int32) (I : MI) (J : MJ) (H : Heap) (locs : List Loc) (ls : Array Slot), va_P D vwCl (wl bs y I J) H → va_S (FA bs) s.heap H locs → lv_has ls 2 [(0, .ref (bs + 44)), (1, .int x1)] → lX10_clockNet_2 n  q x1 I J = some r → W p l e (rmm 1 23) s m args below meth c H locs 0 0 (QV below args s bs D y r) (F0 m 2 ls []) := by
  intro q
  induction q with
  | zero =>
    intro x1 I J H locs ls hP hS hl h
    have h : (none : Option (M2)) = some r := h
    cases h
  | succ q ih =>
    intro x1 I J H locs ls hP hS hl h
    have h : fX10_clockNet_2 n  (lX10_clockNet_2 n  q) x1 I J = some r := h
    exact wX10_clockNet_2 bs D y n  (lX10_clockNet_2 n  q) r Gc  ih x1 I J H locs ls hP hS hl h
set_option maxHeartbeats 4000000 in
set_option maxRecDepth 100000 in
theorem cX10_clockNet_ (l : Launch) (bs : Nat) (D : va_G) (y : Y3) (hcb : 76 ≤ y.2.2.2) (n : Nat) (I : MI) (J : MJ) (r : M2) (h : fX10_clockNet n  I J = some r) : Met l yX10_clockNet (.code yX10_clockNet cX10_clockNet 2 none :: gtb) (rmm 1 23) (va_Pc [.ref (bs + 44)] (HB bs D y I J)) (QcV bs D y r) 0 0 (FA bs) := by
  refine Met.ofW (cc := cX10_clockNet) (maxL := 2) (ret := none) (by decide) rfl ?_
  intro p e s m args below meth c s₁ B hml hv
  obtain ⟨rfl, hP, hK, hN, hL⟩ := hv
  have hx := B.exec
  have hb := B.bytes
  have hr := B.returns
  have hts0 := atoms_spec (ws := .code yX10_clockNet cX10_clockNet 2 none :: gtb) B.pre
  have hts : ∀ w ∈ gtb, w.before [.ref (bs + 44)].toArray s = true := fun w hw => hts0 w (List.mem_cons_of_mem _ hw)
  have hown : s.vm.findClass RX10 = some m.cls := findClass_of_methodNamed B.named
  have hlocks := B.notSynchronized
  have hS : va_S (FA bs) s.heap s.heap [] := va_S.rf
  have Gc : Gx p s m [.ref (bs + 44)].toArray meth c cX10_clockNet 2 RX10 bs D y none 76 := ⟨hx, hb, hml, hown, hts, hK, hN, hL, hr, hlocks, hcb⟩
  have hl := lv_entry [.ref (bs + 44)] (n := 2) (Nat.le_of_ble_eq_true rfl)
  rw [lg_entry_eq]
  generalize (lg_sl [.ref (bs + 44)] ++ List.replicate (2 - (lg_sl [.ref (bs + 44)]).length) Slot.unset).toArray = ls at hl ⊢
  have hl : lv_has ls 2 [(0, .ref (bs + 44))] := hl
  change W p l e (rmm 1 23) s m [.ref (bs + 44)].toArray below meth c s.heap [] 0 0 (QV below [.ref (bs + 44)].toArray s bs D y r) (F0 m 0 ls [])
  unfold fX10_clockNet at h
  refine lv_iconst (v := (0 : Int32)) hx hb dX10_clockNet_0 (by decide) ?_
  refine lv_istore_n (lv' := [(1, .int (0 : Int32)), (0, .ref (bs + 44))]) hx hb dX10_clockNet_1 rfl hl (by decide) rfl (fun ls hl => ?_)
  exact vX10_clockNet_2 bs D y n  r Gc  n (0 : Int32) I J _ _ _ hP hS (lv_sub hl [1, 0] rfl) h
theorem dX10_letterIs_0 : decode cX10_letterIs 0 = .ok (.iload_n 1, 1) := by decide +kernel
theorem dX10_letterIs_1 : decode cX10_letterIs 1 = .ok (.aload_n 0, 1) := by decide +kernel
theorem dX10_letterIs_2 : decode cX10_letterIs 2 = .ok (.getfield 123, 3) := by decide +kernel
theorem dX10_letterIs_5 : decode cX10_letterIs 5 = .ok (.if_icmp .ge 11, 3) := by decide +kernel
theorem dX10_letterIs_8 : decode cX10_letterIs 8 = .ok (.aload_n 0, 1) := by decide +kernel
theorem dX10_letterIs_9 : decode cX10_letterIs 9 = .ok (.iload_n 1, 1) := by decide +kernel
theorem dX10_letterIs_10 : decode cX10_letterIs 10 = .ok (.invokevirtual 236, 3) := by decide +kernel
theorem dX10_letterIs_13 : decode cX10_letterIs 13 = .ok (.ifCond .ne 5, 3) := by decide +kernel
theorem dX10_letterIs_16 : decode cX10_letterIs 16 = .ok (.iconst 0, 1) := by decide +kernel
theorem dX10_letterIs_17 : decode cX10_letterIs 17 = .ok (.ireturn, 1) := by decide +kernel
theorem dX10_letterIs_18 : decode cX10_letterIs 18 = .ok (.aload_n 0, 1) := by decide +kernel
theorem dX10_letterIs_19 : decode cX10_letterIs 19 = .ok (.getfield 7, 3) := by decide +kernel
theorem dX10_letterIs_22 : decode cX10_letterIs 22 = .ok (.iload_n 1, 1) := by decide +kernel
theorem dX10_letterIs_23 : decode cX10_letterIs 23 = .ok (.iaload, 1) := by decide +kernel
theorem dX10_letterIs_24 : decode cX10_letterIs 24 = .ok (.iconst 2, 1) := by decide +kernel
theorem dX10_letterIs_25 : decode cX10_letterIs 25 = .ok (.if_icmp .ne 8, 3) := by decide +kernel
theorem dX10_letterIs_28 : decode cX10_letterIs 28 = .ok (.iload_n 1, 1) := by decide +kernel
theorem dX10_letterIs_29 : decode cX10_letterIs 29 = .ok (.iload_n 2, 1) := by decide +kernel
theorem dX10_letterIs_30 : decode cX10_letterIs 30 = .ok (.if_icmp .ge 16, 3) := by decide +kernel
theorem dX10_letterIs_33 : decode cX10_letterIs 33 = .ok (.aload_n 0, 1) := by decide +kernel
theorem dX10_letterIs_34 : decode cX10_letterIs 34 = .ok (.getfield 105, 3) := by decide +kernel
theorem dX10_letterIs_37 : decode cX10_letterIs 37 = .ok (.iload_n 1, 1) := by decide +kernel
theorem dX10_letterIs_38 : decode cX10_letterIs 38 = .ok (.baload, 1) := by decide +kernel
theorem dX10_letterIs_39 : decode cX10_letterIs 39 = .ok (.ifCond .eq 7, 3) := by decide +kernel
theorem dX10_letterIs_42 : decode cX10_letterIs 42 = .ok (.iconst 1, 1) := by decide +kernel
theorem dX10_letterIs_43 : decode cX10_letterIs 43 = .ok (.goto 4, 3) := by decide +kernel
theorem dX10_letterIs_46 : decode cX10_letterIs 46 = .ok (.iconst 0, 1) := by decide +kernel
theorem dX10_letterIs_47 : decode cX10_letterIs 47 = .ok (.ireturn, 1) := by decide +kernel
set_option maxHeartbeats 4000000 in
set_option maxRecDepth 100000 in
theorem wX10_letterIs_33 {p : Program} {l : Launch} {e : Env} {s : State} {m : MethodId} {args : Array Value} {below : List Frame} {meth : Method} {c : Code} (bs : Nat) (D : va_G) (y : Y3) (n : Nat) (r : Int32 × M2) (Gc : Gx p s m args meth c cX10_letterIs 3 RX10 bs D y (some .boolean) 76)  (x1 : Int32) (I : MI) (J : MJ) (H : Heap) (locs : List Loc) (ls : Array Slot) (hP : va_P D vwCl (wl bs y I J) H) (hS : va_S (FA bs) s.heap H locs) (hl : lv_has ls 3 [(0, .ref (bs + 44)), (1, .int x1)]) (h : fX10_letterIs_33 n  x1 I J = some r) : W p l e (rmm 1 21) s m args below meth c H locs 0 0 (QI below args s bs D y r) (F0 m 33 ls []) := by
  obtain ⟨hx, hb, hml, hown, hts, hK, hN, hL, hr, hlocks, hcb⟩ := id Gc
  unfold fX10_letterIs_33 at h
  refine lv_aload_n hx hb dX10_letterIs_33 rfl (lv_at hl 0 rfl) ?_
  refine g_R (C := RX10) (T := TX10) (N := 49) (ci := 10) 44 40 72 hx hb hts hown hK hP in_X10 rfl hcb okF_44_40 rfc_44_40 fl_142 dX10_letterIs_34 ?_
  refine lv_iload_n hx hb dX10_letterIs_37 rfl (lv_at hl 1 rfl) ?_
  obtain ⟨hi38, h⟩ := if_s1 h
  refine a_Z 72 hx hb hK hP hcb alZ_72 hi38 dX10_letterIs_38 ?_
  refine lv_if_eq (tgt := 46) hx hb dX10_letterIs_39 (by decide) (fun c39 => ?_) (fun c39 => ?_)
  · replace h := if_t c39 h
    refine lv_iconst (v := (0 : Int32)) hx hb dX10_letterIs_46 (by decide) ?_
    exact r_Z hx hb hr hlocks hP hK hN hL hS (by decide) h dX10_letterIs_47
  · replace h := if_f c39 h
    refine lv_iconst (v := (1 : Int32)) hx hb dX10_letterIs_42 (by decide) ?_
    refine lv_goto (tgt := 47) hx hb dX10_letterIs_43 (by decide) ?_
    exact r_Z hx hb hr hlocks hP hK hN hL hS (by decide) h dX10_letterIs_47
set_option maxHeartbeats 4000000 in
set_option maxRecDepth 100000 in
theorem cX10_letterIs_ (l : Launch) (bs : Nat) (D : va_G) (y : Y3) (hcb : 76 ≤ y.2.2.2) (n : Nat) (x1 : Int32) (x2 : Int32) (I : MI) (J : MJ) (r : Int32 × M2) (h : fX10_letterIs n x1 x2 I J = some r) : Met l yX10_letterIs (.code yX10_letterIs cX10_letterIs 3 (some .boolean) :: gtb) (rmm 1 21) (va_Pc [.ref (bs + 44), .int x1, .int x2] (HB bs D y I J)) (QcI bs D y r) 0 0 (FA bs) := by
  refine Met.ofW (cc := cX10_letterIs) (maxL := 3) (ret := (some .boolean)) (by decide) rfl ?_
  intro p e s m args below meth c s₁ B hml hv
  obtain ⟨rfl, hP, hK, hN, hL⟩ := hv
  have hx := B.exec
  have hb := B.bytes
  have hr := B.returns
  have hts0 := atoms_spec (ws := .code yX10_letterIs cX10_letterIs 3 (some .boolean) :: gtb) B.pre
  have hts : ∀ w ∈ gtb, w.before [.ref (bs + 44), .int x1, .int x2].toArray s = true := fun w hw => hts0 w (List.mem_cons_of_mem _ hw)
  have hown : s.vm.findClass RX10 = some m.cls := findClass_of_methodNamed B.named
  have hlocks := B.notSynchronized
  have hS : va_S (FA bs) s.heap s.heap [] := va_S.rf
  have Gc : Gx p s m [.ref (bs + 44), .int x1, .int x2].toArray meth c cX10_letterIs 3 RX10 bs D y (some .boolean) 76 := ⟨hx, hb, hml, hown, hts, hK, hN, hL, hr, hlocks, hcb⟩
  have hl := lv_entry [.ref (bs + 44), .int x1, .int x2] (n := 3) (Nat.le_of_ble_eq_true rfl)
  rw [lg_entry_eq]
  generalize (lg_sl [.ref (bs + 44), .int x1, .int x2] ++ List.replicate (3 - (lg_sl [.ref (bs + 44), .int x1, .int x2]).length) Slot.unset).toArray = ls at hl ⊢
  have hl : lv_has ls 3 [(0, .ref (bs + 44)), (1, .int x1), (2, .int x2)] := hl
  change W p l e (rmm 1 21) s m [.ref (bs + 44), .int x1, .int x2].toArray below meth c s.heap [] 0 0 (QI below [.ref (bs + 44), .int x1, .int x2].toArray s bs D y r) (F0 m 0 ls [])
  unfold fX10_letterIs at h
  refine lv_iload_n hx hb dX10_letterIs_0 rfl (lv_at hl 1 rfl) ?_
  refine lv_aload_n hx hb dX10_letterIs_1 rfl (lv_at hl 0 rfl) ?_
  refine g_I (C := RX10) (T := TX10) (N := 49) (ci := 10) 44 6 hx hb hts hown hK hP in_X10 rfl hcb okF_44_6 fl_141 dX10_letterIs_2 ?_
  refine lv_icmp_ge (tgt := 16) hx hb dX10_letterIs_5 (by decide) (fun c5 => ?_) (fun c5 => ?_)
  · replace h := if_t c5 h
    refine lv_iconst (v := (0 : Int32)) hx hb dX10_letterIs_16 (by decide) ?_
    exact r_Z hx hb hr hlocks hP hK hN hL hS (by decide) h dX10_letterIs_17
  · replace h := if_f c5 h
    refine lv_aload_n hx hb dX10_letterIs_8 rfl (lv_at hl 0 rfl) ?_
    refine lv_iload_n hx hb dX10_letterIs_9 rfl (lv_at hl 1 rfl) ?_
    obtain ⟨r10, er10, h⟩ := bd_s1 h
    refine c_VI (k := 44) (ci := 10) (As := [.int x1]) (rest := []) hx hb hml hown hts hK hN hL hP hS (cX10_isThing_ l bs D y hcb n x1 I J r10 er10) ok_X10_isThing ov_X10_isThing ml_137 ⟨Nat.le_of_ble_eq_true rfl, Nat.le_of_ble_eq_true rfl⟩ rfl hcb kd_44 hl.1 rfl rfl (Nat.le_of_ble_eq_true rfl) ⟨Nat.zero_le _, Nat.zero_le _⟩ dX10_letterIs_10 (fun H locs hP hS => ?_)
    refine lv_if_ne (tgt := 18) hx hb dX10_letterIs_13 (by decide) (fun c13 => ?_) (fun c13 => ?_)
    · replace h := if_f c13 h
      refine lv_aload_n hx hb dX10_letterIs_18 rfl (lv_at hl 0 rfl) ?_
      refine g_R (C := RX10) (T := TX10) (N := 49) (ci := 10) 44 0 45 hx hb hts hown hK hP in_X10 rfl hcb okF_44_0 rfc_44_0 fl_146 dX10_letterIs_19 ?_
      refine lv_iload_n hx hb dX10_letterIs_22 rfl (lv_at hl 1 rfl) ?_
      obtain ⟨hi23, h⟩ := if_s1 h
      refine a_I 45 hx hb hK hP hcb aln_45 hi23 dX10_letterIs_23 ?_
      refine lv_iconst (v := (2 : Int32)) hx hb dX10_letterIs_24 (by decide) ?_
      refine lv_icmp_ne (tgt := 33) hx hb dX10_letterIs_25 (by decide) (fun c25 => ?_) (fun c25 => ?_)
      · replace h := if_f c25 h
        exact wX10_letterIs_33 bs D y n  r Gc  x1 r10.2.1 r10.2.2 _ _ _ hP hS (lv_sub hl [0, 1] rfl) h
      · replace h := if_t c25 h
        refine lv_iload_n hx hb dX10_letterIs_28 rfl (lv_at hl 1 rfl) ?_
        refine lv_iload_n hx hb dX10_letterIs_29 rfl (lv_at hl 2 rfl) ?_
        refine lv_icmp_ge (tgt := 46) hx hb dX10_letterIs_30 (by decide) (fun c30 => ?_) (fun c30 => ?_)
        · replace h := if_t c30 h
          refine lv_iconst (v := (0 : Int32)) hx hb dX10_letterIs_46 (by decide) ?_
          exact r_Z hx hb hr hlocks hP hK hN hL hS (by decide) h dX10_letterIs_47
        · replace h := if_f c30 h
          exact wX10_letterIs_33 bs D y n  r Gc  x1 r10.2.1 r10.2.2 _ _ _ hP hS (lv_sub hl [0, 1] rfl) h
    · replace h := if_t c13 h
      refine lv_iconst (v := (0 : Int32)) hx hb dX10_letterIs_16 (by decide) ?_
      exact r_Z hx hb hr hlocks hP hK hN hL hS (by decide) h dX10_letterIs_17
theorem dX10_clockCloth_0 : decode cX10_clockCloth 0 = .ok (.iconst 0, 1) := by decide +kernel
theorem dX10_clockCloth_1 : decode cX10_clockCloth 1 = .ok (.istore_n 1, 1) := by decide +kernel
theorem dX10_clockCloth_2 : decode cX10_clockCloth 2 = .ok (.iload_n 1, 1) := by decide +kernel
theorem dX10_clockCloth_3 : decode cX10_clockCloth 3 = .ok (.aload_n 0, 1) := by decide +kernel
theorem dX10_clockCloth_4 : decode cX10_clockCloth 4 = .ok (.getfield 123, 3) := by decide +kernel
theorem dX10_clockCloth_7 : decode cX10_clockCloth 7 = .ok (.if_icmp .ge 108, 3) := by decide +kernel
theorem dX10_clockCloth_10 : decode cX10_clockCloth 10 = .ok (.aload_n 0, 1) := by decide +kernel
theorem dX10_clockCloth_11 : decode cX10_clockCloth 11 = .ok (.getfield 7, 3) := by decide +kernel
theorem dX10_clockCloth_14 : decode cX10_clockCloth 14 = .ok (.iload_n 1, 1) := by decide +kernel
theorem dX10_clockCloth_15 : decode cX10_clockCloth 15 = .ok (.iaload, 1) := by decide +kernel
theorem dX10_clockCloth_16 : decode cX10_clockCloth 16 = .ok (.iconst 2, 1) := by decide +kernel
theorem dX10_clockCloth_17 : decode cX10_clockCloth 17 = .ok (.if_icmp .ne 92, 3) := by decide +kernel
theorem dX10_clockCloth_20 : decode cX10_clockCloth 20 = .ok (.aload_n 0, 1) := by decide +kernel
theorem dX10_clockCloth_21 : decode cX10_clockCloth 21 = .ok (.getfield 41, 3) := by decide +kernel
theorem dX10_clockCloth_24 : decode cX10_clockCloth 24 = .ok (.iload_n 1, 1) := by decide +kernel
theorem dX10_clockCloth_25 : decode cX10_clockCloth 25 = .ok (.baload, 1) := by decide +kernel
theorem dX10_clockCloth_26 : decode cX10_clockCloth 26 = .ok (.ifCond .ne 6, 3) := by decide +kernel
theorem dX10_clockCloth_29 : decode cX10_clockCloth 29 = .ok (.goto 80, 3) := by decide +kernel
theorem dX10_clockCloth_32 : decode cX10_clockCloth 32 = .ok (.iconst 0, 1) := by decide +kernel
theorem dX10_clockCloth_33 : decode cX10_clockCloth 33 = .ok (.istore_n 2, 1) := by decide +kernel
theorem dX10_clockCloth_34 : decode cX10_clockCloth 34 = .ok (.iconst 0, 1) := by decide +kernel
theorem dX10_clockCloth_35 : decode cX10_clockCloth 35 = .ok (.istore_n 3, 1) := by decide +kernel
theorem dX10_clockCloth_36 : decode cX10_clockCloth 36 = .ok (.iload_n 3, 1) := by decide +kernel
theorem dX10_clockCloth_37 : decode cX10_clockCloth 37 = .ok (.aload_n 0, 1) := by decide +kernel
theorem dX10_clockCloth_38 : decode cX10_clockCloth 38 = .ok (.getfield 47, 3) := by decide +kernel
theorem dX10_clockCloth_41 : decode cX10_clockCloth 41 = .ok (.iload_n 1, 1) := by decide +kernel
theorem dX10_clockCloth_42 : decode cX10_clockCloth 42 = .ok (.iaload, 1) := by decide +kernel
theorem dX10_clockCloth_43 : decode cX10_clockCloth 43 = .ok (.if_icmp .ge 42, 3) := by decide +kernel
theorem dX10_clockCloth_46 : decode cX10_clockCloth 46 = .ok (.iload_n 2, 1) := by decide +kernel
theorem dX10_clockCloth_47 : decode cX10_clockCloth 47 = .ok (.aload_n 0, 1) := by decide +kernel
theorem dX10_clockCloth_48 : decode cX10_clockCloth 48 = .ok (.aload_n 0, 1) := by decide +kernel
theorem dX10_clockCloth_49 : decode cX10_clockCloth 49 = .ok (.getfield 93, 3) := by decide +kernel
theorem dX10_clockCloth_52 : decode cX10_clockCloth 52 = .ok (.aload_n 0, 1) := by decide +kernel
theorem dX10_clockCloth_53 : decode cX10_clockCloth 53 = .ok (.getfield 99, 3) := by decide +kernel
theorem dX10_clockCloth_56 : decode cX10_clockCloth 56 = .ok (.iload_n 1, 1) := by decide +kernel
theorem dX10_clockCloth_57 : decode cX10_clockCloth 57 = .ok (.iaload, 1) := by decide +kernel
theorem dX10_clockCloth_58 : decode cX10_clockCloth 58 = .ok (.iconst 3, 1) := by decide +kernel
theorem dX10_clockCloth_59 : decode cX10_clockCloth 59 = .ok (.iadd, 1) := by decide +kernel
theorem dX10_clockCloth_60 : decode cX10_clockCloth 60 = .ok (.iload_n 3, 1) := by decide +kernel
theorem dX10_clockCloth_61 : decode cX10_clockCloth 61 = .ok (.iadd, 1) := by decide +kernel
theorem dX10_clockCloth_62 : decode cX10_clockCloth 62 = .ok (.iaload, 1) := by decide +kernel
theorem dX10_clockCloth_63 : decode cX10_clockCloth 63 = .ok (.iload_n 1, 1) := by decide +kernel
theorem dX10_clockCloth_64 : decode cX10_clockCloth 64 = .ok (.invokevirtual 338, 3) := by decide +kernel
theorem dX10_clockCloth_67 : decode cX10_clockCloth 67 = .ok (.ifCond .eq 9, 3) := by decide +kernel
theorem dX10_clockCloth_70 : decode cX10_clockCloth 70 = .ok (.iconst 1, 1) := by decide +kernel
theorem dX10_clockCloth_71 : decode cX10_clockCloth 71 = .ok (.iload_n 3, 1) := by decide +kernel
theorem dX10_clockCloth_72 : decode cX10_clockCloth 72 = .ok (.ishl, 1) := by decide +kernel
theorem dX10_clockCloth_73 : decode cX10_clockCloth 73 = .ok (.goto 4, 3) := by decide +kernel
theorem dX10_clockCloth_76 : decode cX10_clockCloth 76 = .ok (.iconst 0, 1) := by decide +kernel
theorem dX10_clockCloth_77 : decode cX10_clockCloth 77 = .ok (.ior, 1) := by decide +kernel
theorem dX10_clockCloth_78 : decode cX10_clockCloth 78 = .ok (.istore_n 2, 1) := by decide +kernel
theorem dX10_clockCloth_79 : decode cX10_clockCloth 79 = .ok (.iinc 3 1, 3) := by decide +kernel
theorem dX10_clockCloth_82 : decode cX10_clockCloth 82 = .ok (.goto (-46), 3) := by decide +kernel
theorem dX10_clockCloth_85 : decode cX10_clockCloth 85 = .ok (.aload_n 0, 1) := by decide +kernel
theorem dX10_clockCloth_86 : decode cX10_clockCloth 86 = .ok (.getfield 105, 3) := by decide +kernel
theorem dX10_clockCloth_89 : decode cX10_clockCloth 89 = .ok (.iload_n 1, 1) := by decide +kernel
theorem dX10_clockCloth_90 : decode cX10_clockCloth 90 = .ok (.aload_n 0, 1) := by decide +kernel
theorem dX10_clockCloth_91 : decode cX10_clockCloth 91 = .ok (.iload_n 1, 1) := by decide +kernel
theorem dX10_clockCloth_92 : decode cX10_clockCloth 92 = .ok (.invokevirtual 322, 3) := by decide +kernel
theorem dX10_clockCloth_95 : decode cX10_clockCloth 95 = .ok (.iload_n 2, 1) := by decide +kernel
theorem dX10_clockCloth_96 : decode cX10_clockCloth 96 = .ok (.ishr, 1) := by decide +kernel
theorem dX10_clockCloth_97 : decode cX10_clockCloth 97 = .ok (.iconst 1, 1) := by decide +kernel
theorem dX10_clockCloth_98 : decode cX10_clockCloth 98 = .ok (.iand, 1) := by decide +kernel
theorem dX10_clockCloth_99 : decode cX10_clockCloth 99 = .ok (.iconst 1, 1) := by decide +kernel
theorem dX10_clockCloth_100 : decode cX10_clockCloth 100 = .ok (.if_icmp .ne 7, 3) := by decide +kernel
theorem dX10_clockCloth_103 : decode cX10_clockCloth 103 = .ok (.iconst 1, 1) := by decide +kernel
theorem dX10_clockCloth_104 : decode cX10_clockCloth 104 = .ok (.goto 4, 3) := by decide +kernel
theorem dX10_clockCloth_107 : decode cX10_clockCloth 107 = .ok (.iconst 0, 1) := by decide +kernel
theorem dX10_clockCloth_108 : decode cX10_clockCloth 108 = .ok (.bastore, 1) := by decide +kernel
theorem dX10_clockCloth_109 : decode cX10_clockCloth 109 = .ok (.iinc 1 1, 3) := by decide +kernel
theorem dX10_clockCloth_112 : decode cX10_clockCloth 112 = .ok (.goto (-110), 3) := by decide +kernel
theorem dX10_clockCloth_115 : decode cX10_clockCloth 115 = .ok (.aload_n 0, 1) := by decide +kernel
theorem dX10_clockCloth_116 : decode cX10_clockCloth 116 = .ok (.aload_n 0, 1) := by decide +kernel
theorem dX10_clockCloth_117 : decode cX10_clockCloth 117 = .ok (.iconst 1, 1) := by decide +kernel
theorem dX10_clockCloth_118 : decode cX10_clockCloth 118 = .ok (.invokevirtual 331, 3) := by decide +kernel
theorem dX10_clockCloth_121 : decode cX10_clockCloth 121 = .ok (.putfield 341, 3) := by decide +kernel
theorem dX10_clockCloth_124 : decode cX10_clockCloth 124 = .ok (.iconst 0, 1) := by decide +kernel
theorem dX10_clockCloth_125 : decode cX10_clockCloth 125 = .ok (.istore_n 1, 1) := by decide +kernel
theorem dX10_clockCloth_126 : decode cX10_clockCloth 126 = .ok (.iload_n 1, 1) := by decide +kernel
theorem dX10_clockCloth_127 : decode cX10_clockCloth 127 = .ok (.aload_n 0, 1) := by decide +kernel
theorem dX10_clockCloth_128 : decode cX10_clockCloth 128 = .ok (.getfield 123, 3) := by decide +kernel
theorem dX10_clockCloth_131 : decode cX10_clockCloth 131 = .ok (.if_icmp .ge 52, 3) := by decide +kernel
theorem dX10_clockCloth_134 : decode cX10_clockCloth 134 = .ok (.aload_n 0, 1) := by decide +kernel
theorem dX10_clockCloth_135 : decode cX10_clockCloth 135 = .ok (.getfield 108, 3) := by decide +kernel
theorem dX10_clockCloth_138 : decode cX10_clockCloth 138 = .ok (.iload_n 1, 1) := by decide +kernel
theorem dX10_clockCloth_139 : decode cX10_clockCloth 139 = .ok (.aload_n 0, 1) := by decide +kernel
theorem dX10_clockCloth_140 : decode cX10_clockCloth 140 = .ok (.getfield 7, 3) := by decide +kernel
theorem dX10_clockCloth_143 : decode cX10_clockCloth 143 = .ok (.iload_n 1, 1) := by decide +kernel
theorem dX10_clockCloth_144 : decode cX10_clockCloth 144 = .ok (.iaload, 1) := by decide +kernel
theorem dX10_clockCloth_145 : decode cX10_clockCloth 145 = .ok (.iconst 1, 1) := by decide +kernel
theorem dX10_clockCloth_146 : decode cX10_clockCloth 146 = .ok (.if_icmp .ne 29, 3) := by decide +kernel
theorem dX10_clockCloth_149 : decode cX10_clockCloth 149 = .ok (.aload_n 0, 1) := by decide +kernel
theorem dX10_clockCloth_150 : decode cX10_clockCloth 150 = .ok (.aload_n 0, 1) := by decide +kernel
theorem dX10_clockCloth_151 : decode cX10_clockCloth 151 = .ok (.getfield 93, 3) := by decide +kernel
theorem dX10_clockCloth_154 : decode cX10_clockCloth 154 = .ok (.aload_n 0, 1) := by decide +kernel
theorem dX10_clockCloth_155 : decode cX10_clockCloth 155 = .ok (.getfield 99, 3) := by decide +kernel
theorem dX10_clockCloth_158 : decode cX10_clockCloth 158 = .ok (.iload_n 1, 1) := by decide +kernel
theorem dX10_clockCloth_159 : decode cX10_clockCloth 159 = .ok (.iaload, 1) := by decide +kernel
theorem dX10_clockCloth_160 : decode cX10_clockCloth 160 = .ok (.iconst 3, 1) := by decide +kernel
theorem dX10_clockCloth_161 : decode cX10_clockCloth 161 = .ok (.iadd, 1) := by decide +kernel
theorem dX10_clockCloth_162 : decode cX10_clockCloth 162 = .ok (.iaload, 1) := by decide +kernel
theorem dX10_clockCloth_163 : decode cX10_clockCloth 163 = .ok (.bipush 32, 2) := by decide +kernel
theorem dX10_clockCloth_165 : decode cX10_clockCloth 165 = .ok (.invokevirtual 338, 3) := by decide +kernel
theorem dX10_clockCloth_168 : decode cX10_clockCloth 168 = .ok (.ifCond .eq 7, 3) := by decide +kernel
theorem dX10_clockCloth_171 : decode cX10_clockCloth 171 = .ok (.iconst 1, 1) := by decide +kernel
theorem dX10_clockCloth_172 : decode cX10_clockCloth 172 = .ok (.goto 4, 3) := by decide +kernel
theorem dX10_clockCloth_175 : decode cX10_clockCloth 175 = .ok (.iconst 0, 1) := by decide +kernel
theorem dX10_clockCloth_176 : decode cX10_clockCloth 176 = .ok (.bastore, 1) := by decide +kernel
theorem dX10_clockCloth_177 : decode cX10_clockCloth 177 = .ok (.iinc 1 1, 3) := by decide +kernel
theorem dX10_clockCloth_180 : decode cX10_clockCloth 180 = .ok (.goto (-54), 3) := by decide +kernel
theorem dX10_clockCloth_183 : decode cX10_clockCloth 183 = .ok (.iconst 0, 1) := by decide +kernel
theorem dX10_clockCloth_184 : decode cX10_clockCloth 184 = .ok (.istore_n 1, 1) := by decide +kernel
theorem dX10_clockCloth_185 : decode cX10_clockCloth 185 = .ok (.iload_n 1, 1) := by decide +kernel
theorem dX10_clockCloth_186 : decode cX10_clockCloth 186 = .ok (.aload_n 0, 1) := by decide +kernel
theorem dX10_clockCloth_187 : decode cX10_clockCloth 187 = .ok (.getfield 123, 3) := by decide +kernel
theorem dX10_clockCloth_190 : decode cX10_clockCloth 190 = .ok (.if_icmp .ge 31, 3) := by decide +kernel
theorem dX10_clockCloth_193 : decode cX10_clockCloth 193 = .ok (.aload_n 0, 1) := by decide +kernel
theorem dX10_clockCloth_194 : decode cX10_clockCloth 194 = .ok (.getfield 7, 3) := by decide +kernel
theorem dX10_clockCloth_197 : decode cX10_clockCloth 197 = .ok (.iload_n 1, 1) := by decide +kernel
theorem dX10_clockCloth_198 : decode cX10_clockCloth 198 = .ok (.iaload, 1) := by decide +kernel
theorem dX10_clockCloth_199 : decode cX10_clockCloth 199 = .ok (.iconst 1, 1) := by decide +kernel
theorem dX10_clockCloth_200 : decode cX10_clockCloth 200 = .ok (.if_icmp .ne 15, 3) := by decide +kernel
theorem dX10_clockCloth_203 : decode cX10_clockCloth 203 = .ok (.aload_n 0, 1) := by decide +kernel
theorem dX10_clockCloth_204 : decode cX10_clockCloth 204 = .ok (.getfield 105, 3) := by decide +kernel
theorem dX10_clockCloth_207 : decode cX10_clockCloth 207 = .ok (.iload_n 1, 1) := by decide +kernel
theorem dX10_clockCloth_208 : decode cX10_clockCloth 208 = .ok (.aload_n 0, 1) := by decide +kernel
theorem dX10_clockCloth_209 : decode cX10_clockCloth 209 = .ok (.getfield 108, 3) := by decide +kernel
theorem dX10_clockCloth_212 : decode cX10_clockCloth 212 = .ok (.iload_n 1, 1) := by decide +kernel
theorem dX10_clockCloth_213 : decode cX10_clockCloth 213 = .ok (.baload, 1) := by decide +kernel
theorem dX10_clockCloth_214 : decode cX10_clockCloth 214 = .ok (.bastore, 1) := by decide +kernel
theorem dX10_clockCloth_215 : decode cX10_clockCloth 215 = .ok (.iinc 1 1, 3) := by decide +kernel
theorem dX10_clockCloth_218 : decode cX10_clockCloth 218 = .ok (.goto (-33), 3) := by decide +kernel
theorem dX10_clockCloth_221 : decode cX10_clockCloth 221 = .ok (.return_, 1) := by decide +kernel
set_option maxHeartbeats 4000000 in
set_option maxRecDepth 100000 in
theorem wX10_clockCloth_215 {p : Program} {l : Launch} {e : Env} {s : State} {m : MethodId} {args : Array Value} {below : List Frame} {meth : Method} {c : Code} (bs : Nat) (D : va_G) (y : Y3) (n : Nat) (k185_ : Int32 → MI → MJ → Option (M2)) (r : M2) (Gc : Gx p s m args meth c cX10_clockCloth 4 RX10 bs D y none 76) (hk185_ : ∀ (x1 : Int32) (I : MI) (J : MJ) (H : Heap) (locs : List Loc) (ls : Array Slot), va_P D vwCl (wl bs y I J) H → va_S (FA bs) s.heap H locs → lv_has ls 4 [(0, .ref (bs + 44)), (1, .int x1)] → k185_ x1 I J = some r → W p l e (rmm 2 43) s m args below meth c H locs 0 0 (QV below args s bs D y r) (F0 m 185 ls [])) (x1 : Int32) (I : MI) (J : MJ) (H : Heap) (locs : List Loc) (ls : Array Slot) (hP : va_P D vwCl (wl bs y I J) H) (hS : va_S (FA bs) s.heap H locs) (hl : lv_has ls 4 [(0, .ref (bs + 44)), (1, .int x1)]) (h : fX10_clockCloth_215 n k185_ x1 I J = some r) : W p l e (rmm 2 43) s m args below meth c H locs 0 0 (QV below args s bs D y r) (F0 m 215 ls []) := by
  obtain ⟨hx, hb, hml, hown, hts, hK, hN, hL, hr, hlocks, hcb⟩ := id Gc
  unfold fX10_clockCloth_215 at h
  refine lv_iinc (v := (x1 + (1 : Int32))) (lv' := [(1, .int (x1 + (1 : Int32))), (0, .ref (bs + 44))]) hx hb dX10_clockCloth_215 hl (k := 1) rfl rfl (by decide) rfl (fun ls hl => ?_)
  refine lv_goto (tgt := 185) hx hb dX10_clockCloth_218 (by decide) ?_
  exact hk185_ (x1 + (1 : Int32)) I J _ _ _ hP hS (lv_sub hl [1, 0] rfl) h
set_option maxHeartbeats 4000000 in
set_option maxRecDepth 100000 in
theorem wX10_clockCloth_185 {p : Program} {l : Launch} {e : Env} {s : State} {m : MethodId} {args : Array Value} {below : List Frame} {meth : Method} {c : Code} (bs : Nat) (D : va_G) (y : Y3) (n : Nat) (k185_ : Int32 → MI → MJ → Option (M2)) (r : M2) (Gc : Gx p s m args meth c cX10_clockCloth 4 RX10 bs D y none 76) (hk185_ : ∀ (x1 : Int32) (I : MI) (J : MJ) (H : Heap) (locs : List Loc) (ls : Array Slot), va_P D vwCl (wl bs y I J) H → va_S (FA bs) s.heap H locs → lv_has ls 4 [(0, .ref (bs + 44)), (1, .int x1)] → k185_ x1 I J = some r → W p l e (rmm 2 43) s m args below meth c H locs 0 0 (QV below args s bs D y r) (F0 m 185 ls [])) (x1 : Int32) (I : MI) (J : MJ) (H : Heap) (locs : List Loc) (ls : Array Slot) (hP : va_P D vwCl (wl bs y I J) H) (hS : va_S (FA bs) s.heap H locs) (hl : lv_has ls 4 [(0, .ref (bs + 44)), (1, .int x1)]) (h : fX10_clockCloth_185 n k185_ x1 I J = some r) : W p l e (rmm 2 43) s m args below meth c H locs 0 0 (QV below args s bs D y r) (F0 m 185 ls []) := by
  obtain ⟨hx, hb, hml, hown, hts, hK, hN, hL, hr, hlocks, hcb⟩ := id Gc
  unfold fX10_clockCloth_185 at h
  refine lv_iload_n hx hb dX10_clockCloth_185 rfl (lv_at hl 1 rfl) ?_
  refine lv_aload_n hx hb dX10_clockCloth_186 rfl (lv_at hl 0 rfl) ?_
  refine g_I (C := RX10) (T := TX10) (N := 49) (ci := 10) 44 6 hx hb hts hown hK hP in_X10 rfl hcb okF_44_6 fl_141 dX10_clockCloth_187 ?_
  refine lv_icmp_ge (tgt := 221) hx hb dX10_clockCloth_190 (by decide) (fun c190 => ?_) (fun c190 => ?_)
  · replace h := if_t c190 h
    exact r_V hx hb hr hlocks hP hK hN hL hS h dX10_clockCloth_221
  · replace h := if_f c190 h
    refine lv_aload_n hx hb dX10_clockCloth_193 rfl (lv_at hl 0 rfl) ?_
    refine g_R (C := RX10) (T := TX10) (N := 49) (ci := 10) 44 0 45 hx hb hts hown hK hP in_X10 rfl hcb okF_44_0 rfc_44_0 fl_146 dX10_clockCloth_194 ?_
    refine lv_iload_n hx hb dX10_clockCloth_197 rfl (lv_at hl 1 rfl) ?_
    obtain ⟨hi198, h⟩ := if_s1 h
    refine a_I 45 hx hb hK hP hcb aln_45 hi198 dX10_clockCloth_198 ?_
    refine lv_iconst (v := (1 : Int32)) hx hb dX10_clockCloth_199 (by decide) ?_
    refine lv_icmp_ne (tgt := 215) hx hb dX10_clockCloth_200 (by decide) (fun c200 => ?_) (fun c200 => ?_)
    · replace h := if_f c200 h
      exact wX10_clockCloth_215 bs D y n k185_ r Gc hk185_ x1 I J _ _ _ hP hS (lv_sub hl [0, 1] rfl) h
    · replace h := if_t c200 h
      refine lv_aload_n hx hb dX10_clockCloth_203 rfl (lv_at hl 0 rfl) ?_
      refine g_R (C := RX10) (T := TX10) (N := 49) (ci := 10) 44 40 72 hx hb hts hown hK hP in_X10 rfl hcb okF_44_40 rfc_44_40 fl_142 dX10_clockCloth_204 ?_
      refine lv_iload_n hx hb dX10_clockCloth_207 rfl (lv_at hl 1 rfl) ?_
      refine lv_aload_n hx hb dX10_clockCloth_208 rfl (lv_at hl 0 rfl) ?_
      refine g_R (C := RX10) (T := TX10) (N := 49) (ci := 10) 44 41 73 hx hb hts hown hK hP in_X10 rfl hcb okF_44_41 rfc_44_41 fl_183 dX10_clockCloth_209 ?_
      refine lv_iload_n hx hb dX10_clockCloth_212 rfl (lv_at hl 1 rfl) ?_
      obtain ⟨hi213, h⟩ := if_s1 h
      refine a_Z 73 hx hb hK hP hcb alZ_73 hi213 dX10_clockCloth_213 ?_
      obtain ⟨hi214, h⟩ := if_s1 h
      obtain ⟨I214, eI214, h⟩ := lt_s1 h
      refine t_Z 72 eI214 hx hb hK hP hS hcb alZ_72 hi214 dX10_clockCloth_214 (fun H locs hP hS => ?_)
      exact wX10_clockCloth_215 bs D y n k185_ r Gc hk185_ x1 I214 J _ _ _ hP hS (lv_sub hl [0, 1] rfl) h
theorem vX10_clockCloth_185 {p : Program} {l : Launch} {e : Env} {s : State} {m : MethodId} {args : Array Value} {below : List Frame} {meth : Method} {c : Code} (bs : Nat) (D : va_G) (y : Y3) (n : Nat) (r : M2) (Gc : Gx p s m args meth c cX10_clockCloth 4 RX10 bs D y none 76)  : ∀ (q : Nat) (x1 : Int32) (I : MI) (J : MJ) (H : Heap) (locs : List Loc) (ls : Array Slot), va_P D vwCl (wl bs y I J) H → va_S (FA bs) s.heap H locs → lv_has ls 4 [(0, .ref (bs + 44)), (1, .int x1)] → lX10_clockCloth_185 n  q x1 I J = some r → W p l e (rmm 2 43) s m args below meth c H locs 0 0 (QV below args s bs D y r) (F0 m 185 ls []) := by
  intro q
  induction q with
  | zero =>
    intro x1 I J H locs ls hP hS hl h
    have h : (none : Option (M2)) = some r := h
    cases h
  | succ q ih =>
    intro x1 I J H locs ls hP hS hl h
    have h : fX10_clockCloth_185 n  (lX10_clockCloth_185 n  q) x1 I J = some r := h
    exact wX10_clockCloth_185 bs D y n  (lX10_clockCloth_185 n  q) r Gc  ih x1 I J H locs ls hP hS hl h
set_option maxHeartbeats 4000000 in
set_option maxRecDepth 100000 in
theorem wX10_clockCloth_176 {p : Program} {l : Launch} {e : Env} {s : State} {m : MethodId} {args : Array Value} {below : List Frame} {meth : Method} {c : Code} (bs : Nat) (D : va_G) (y : Y3) (n : Nat) (k126_ : Int32 → MI → MJ → Option (M2)) (r : M2) (Gc : Gx p s m args meth c cX10_clockCloth 4 RX10 bs D y none 76) (hk126_ : ∀ (x1 : Int32) (I : MI) (J : MJ) (H : Heap) (locs : List Loc) (ls : Array Slot), va_P D vwCl (wl bs y I J) H → va_S (FA bs) s.heap H locs → lv_has ls 4 [(0, .ref (bs + 44)), (1, .int x1)] → k126_ x1 I J = some r → W p l e (rmm 2 43) s m args below meth c H locs 0 0 (QV below args s bs D y r) (F0 m 126 ls [])) (x1 : Int32) (s1 : Int32) (s2 : Int32) (I : MI) (J : MJ) (H : Heap) (locs : List Loc) (ls : Array Slot) (hP : va_P D vwCl (wl bs y I J) H) (hS : va_S (FA bs) s.heap H locs) (hl : lv_has ls 4 [(0, .ref (bs + 44)), (1, .int x1)]) (h : fX10_clockCloth_176 n k126_ x1 s1 s2 I J = some r) : W p l e (rmm 2 43) s m args below meth c H locs 0 0 (QV below args s bs D y r) (F0 m 176 ls [.int s2, .int s1, .ref (bs + 73)]) := by
  obtain ⟨hx, hb, hml, hown, hts, hK, hN, hL, hr, hlocks, hcb⟩ := id Gc
  unfold fX10_clockCloth_176 at h
  obtain ⟨hi176, h⟩ := if_s1 h
  obtain ⟨I176, eI176, h⟩ := lt_s1 h
  refine t_Z 73 eI176 hx hb hK hP hS hcb alZ_73 hi176 dX10_clockCloth_176 (fun H locs hP hS => ?_)
  refine lv_iinc (v := (x1 + (1 : Int32))) (lv' := [(1, .int (x1 + (1 : Int32))), (0, .ref (bs + 44))]) hx hb dX10_clockCloth_177 hl (k := 1) rfl rfl (by decide) rfl (fun ls hl => ?_)
  refine lv_goto (tgt := 126) hx hb dX10_clockCloth_180 (by decide) ?_
  exact hk126_ (x1 + (1 : Int32)) I176 J _ _ _ hP hS (lv_sub hl [1, 0] rfl) h
set_option maxHeartbeats 4000000 in
set_option maxRecDepth 100000 in
theorem wX10_clockCloth_175 {p : Program} {l : Launch} {e : Env} {s : State} {m : MethodId} {args : Array Value} {below : List Frame} {meth : Method} {c : Code} (bs : Nat) (D : va_G) (y : Y3) (n : Nat) (k126_ : Int32 → MI → MJ → Option (M2)) (r : M2) (Gc : Gx p s m args meth c cX10_clockCloth 4 RX10 bs D y none 76) (hk126_ : ∀ (x1 : Int32) (I : MI) (J : MJ) (H : Heap) (locs : List Loc) (ls : Array Slot), va_P D vwCl (wl bs y I J) H → va_S (FA bs) s.heap H locs → lv_has ls 4 [(0, .ref (bs + 44)), (1, .int x1)] → k126_ x1 I J = some r → W p l e (rmm 2 43) s m args below meth c H locs 0 0 (QV below args s bs D y r) (F0 m 126 ls [])) (x1 : Int32) (s1 : Int32) (I : MI) (J : MJ) (H : Heap) (locs : List Loc) (ls : Array Slot) (hP : va_P D vwCl (wl bs y I J) H) (hS : va_S (FA bs) s.heap H locs) (hl : lv_has ls 4 [(0, .ref (bs + 44)), (1, .int x1)]) (h : fX10_clockCloth_175 n k126_ x1 s1 I J = some r) : W p l e (rmm 2 43) s m args below meth c H locs 0 0 (QV below args s bs D y r) (F0 m 175 ls [.int s1, .ref (bs + 73)]) := by
  obtain ⟨hx, hb, hml, hown, hts, hK, hN, hL, hr, hlocks, hcb⟩ := id Gc
  unfold fX10_clockCloth_175 at h
  refine lv_iconst (v := (0 : Int32)) hx hb dX10_clockCloth_175 (by decide) ?_
  exact wX10_clockCloth_176 bs D y n k126_ r Gc hk126_ x1 s1 (0 : Int32) I J _ _ _ hP hS (lv_sub hl [0, 1] rfl) h
set_option maxHeartbeats 4000000 in
set_option maxRecDepth 100000 in
theorem wX10_clockCloth_126 {p : Program} {l : Launch} {e : Env} {s : State} {m : MethodId} {args : Array Value} {below : List Frame} {meth : Method} {c : Code} (bs : Nat) (D : va_G) (y : Y3) (n : Nat) (k126_ : Int32 → MI → MJ → Option (M2)) (r : M2) (Gc : Gx p s m args meth c cX10_clockCloth 4 RX10 bs D y none 76) (hk126_ : ∀ (x1 : Int32) (I : MI) (J : MJ) (H : Heap) (locs : List Loc) (ls : Array Slot), va_P D vwCl (wl bs y I J) H → va_S (FA bs) s.heap H locs → lv_has ls 4 [(0, .ref (bs + 44)), (1, .int x1)] → k126_ x1 I J = some r → W p l e (rmm 2 43) s m args below meth c H locs 0 0 (QV below args s bs D y r) (F0 m 126 ls [])) (x1 : Int32) (I : MI) (J : MJ) (H : Heap) (locs : List Loc) (ls : Array Slot) (hP : va_P D vwCl (wl bs y I J) H) (hS : va_S (FA bs) s.heap H locs) (hl : lv_has ls 4 [(0, .ref (bs + 44)), (1, .int x1)]) (h : fX10_clockCloth_126 n k126_ x1 I J = some r) : W p l e (rmm 2 43) s m args below meth c H locs 0 0 (QV below args s bs D y r) (F0 m 126 ls []) := by
  obtain ⟨hx, hb, hml, hown, hts, hK, hN, hL, hr, hlocks, hcb⟩ := id Gc
  unfold fX10_clockCloth_126 at h
  refine lv_iload_n hx hb dX10_clockCloth_126 rfl (lv_at hl 1 rfl) ?_
  refine lv_aload_n hx hb dX10_clockCloth_127 rfl (lv_at hl 0 rfl) ?_
  refine g_I (C := RX10) (T := TX10) (N := 49) (ci := 10) 44 6 hx hb hts hown hK hP in_X10 rfl hcb okF_44_6 fl_141 dX10_clockCloth_128 ?_
  refine lv_icmp_ge (tgt := 183) hx hb dX10_clockCloth_131 (by decide) (fun c131 => ?_) (fun c131 => ?_)
  · replace h := if_t c131 h
    refine lv_iconst (v := (0 : Int32)) hx hb dX10_clockCloth_183 (by decide) ?_
    refine lv_istore_n (lv' := [(1, .int (0 : Int32)), (0, .ref (bs + 44))]) hx hb dX10_clockCloth_184 rfl hl (by decide) rfl (fun ls hl => ?_)
    exact vX10_clockCloth_185 bs D y n  r Gc  n (0 : Int32) I J _ _ _ hP hS (lv_sub hl [1, 0] rfl) h
  · replace h := if_f c131 h
    refine lv_aload_n hx hb dX10_clockCloth_134 rfl (lv_at hl 0 rfl) ?_
    refine g_R (C := RX10) (T := TX10) (N := 49) (ci := 10) 44 41 73 hx hb hts hown hK hP in_X10 rfl hcb okF_44_41 rfc_44_41 fl_183 dX10_clockCloth_135 ?_
    refine lv_iload_n hx hb dX10_clockCloth_138 rfl (lv_at hl 1 rfl) ?_
    refine lv_aload_n hx hb dX10_clockCloth_139 rfl (lv_at hl 0 rfl) ?_
    refine g_R (C := RX10) (T := TX10) (N := 49) (ci := 10) 44 0 45 hx hb hts hown hK hP in_X10 rfl hcb okF_44_0 rfc_44_0 fl_146 dX10_clockCloth_140 ?_
    refine lv_iload_n hx hb dX10_clockCloth_143 rfl (lv_at hl 1 rfl) ?_
    obtain ⟨hi144, h⟩ := if_s1 h
    refine a_I 45 hx hb hK hP hcb aln_45 hi144 dX10_clockCloth_144 ?_
    refine lv_iconst (v := (1 : Int32)) hx hb dX10_clockCloth_145 (by decide) ?_
    refine lv_icmp_ne (tgt := 175) hx hb dX10_clockCloth_146 (by decide) (fun c146 => ?_) (fun c146 => ?_)
    · replace h := if_f c146 h
      exact wX10_clockCloth_175 bs D y n k126_ r Gc hk126_ x1 x1 I J _ _ _ hP hS (lv_sub hl [0, 1] rfl) h
    · replace h := if_t c146 h
      refine lv_aload_n hx hb dX10_clockCloth_149 rfl (lv_at hl 0 rfl) ?_
      refine lv_aload_n hx hb dX10_clockCloth_150 rfl (lv_at hl 0 rfl) ?_
      refine g_R (C := RX10) (T := TX10) (N := 49) (ci := 10) 44 36 68 hx hb hts hown hK hP in_X10 rfl hcb okF_44_36 rfc_44_36 fl_180 dX10_clockCloth_151 ?_
      refine lv_aload_n hx hb dX10_clockCloth_154 rfl (lv_at hl 0 rfl) ?_
      refine g_R (C := RX10) (T := TX10) (N := 49) (ci := 10) 44 38 70 hx hb hts hown hK hP in_X10 rfl hcb okF_44_38 rfc_44_38 fl_182 dX10_clockCloth_155 ?_
      refine lv_iload_n hx hb dX10_clockCloth_158 rfl (lv_at hl 1 rfl) ?_
      obtain ⟨hi159, h⟩ := if_s1 h
      refine a_I 70 hx hb hK hP hcb aln_70 hi159 dX10_clockCloth_159 ?_
      refine lv_iconst (v := (3 : Int32)) hx hb dX10_clockCloth_160 (by decide) ?_
      refine lv_iadd hx hb dX10_clockCloth_161 ?_
      obtain ⟨hi162, h⟩ := if_s1 h
      refine a_I 68 hx hb hK hP hcb aln_68 hi162 dX10_clockCloth_162 ?_
      refine lv_bipush (v := (32 : Int32)) hx hb dX10_clockCloth_163 (by decide) ?_
      obtain ⟨r165, er165, h⟩ := bd_s1 h
      refine c_VI (k := 44) (ci := 10) (As := [.int (I 68 (((I 70 (x1).toNatClampNeg) + (3 : Int32))).toNatClampNeg), .int (32 : Int32)]) (rest := [.int x1, .ref (bs + 73)]) hx hb hml hown hts hK hN hL hP hS (cX10_letterIs_ l bs D y hcb n (I 68 (((I 70 (x1).toNatClampNeg) + (3 : Int32))).toNatClampNeg) (32 : Int32) I J r165 er165) ok_X10_letterIs ov_X10_letterIs ml_165 ⟨Nat.le_of_ble_eq_true rfl, Nat.le_of_ble_eq_true rfl⟩ rfl hcb kd_44 hl.1 rfl rfl (Nat.le_of_ble_eq_true rfl) ⟨Nat.zero_le _, Nat.zero_le _⟩ dX10_clockCloth_165 (fun H locs hP hS => ?_)
      refine lv_if_eq (tgt := 175) hx hb dX10_clockCloth_168 (by decide) (fun c168 => ?_) (fun c168 => ?_)
      · replace h := if_t c168 h
        exact wX10_clockCloth_175 bs D y n k126_ r Gc hk126_ x1 x1 r165.2.1 r165.2.2 _ _ _ hP hS (lv_sub hl [0, 1] rfl) h
      · replace h := if_f c168 h
        refine lv_iconst (v := (1 : Int32)) hx hb dX10_clockCloth_171 (by decide) ?_
        refine lv_goto (tgt := 176) hx hb dX10_clockCloth_172 (by decide) ?_
        exact wX10_clockCloth_176 bs D y n k126_ r Gc hk126_ x1 x1 (1 : Int32) r165.2.1 r165.2.2 _ _ _ hP hS (lv_sub hl [0, 1] rfl) h
theorem vX10_clockCloth_126 {p : Program} {l : Launch} {e : Env} {s : State} {m : MethodId} {args : Array Value} {below : List Frame} {meth : Method} {c : Code} (bs : Nat) (D : va_G) (y : Y3) (n : Nat) (r : M2) (Gc : Gx p s m args meth c cX10_clockCloth 4 RX10 bs D y none 76)  : ∀ (q : Nat) (x1 : Int32) (I : MI) (J : MJ) (H : Heap) (locs : List Loc) (ls : Array Slot), va_P D vwCl (wl bs y I J) H → va_S (FA bs) s.heap H locs → lv_has ls 4 [(0, .ref (bs + 44)), (1, .int x1)] → lX10_clockCloth_126 n  q x1 I J = some r → W p l e (rmm 2 43) s m args below meth c H locs 0 0 (QV below args s bs D y r) (F0 m 126 ls []) := by
  intro q
  induction q with
  | zero =>
    intro x1 I J H locs ls hP hS hl h
    have h : (none : Option (M2)) = some r := h
    cases h
  | succ q ih =>
    intro x1 I J H locs ls hP hS hl h
    have h : fX10_clockCloth_126 n  (lX10_clockCloth_126 n  q) x1 I J = some r := h
    exact wX10_clockCloth_126 bs D y n  (lX10_clockCloth_126 n  q) r Gc  ih x1 I J H locs ls hP hS hl h
set_option maxHeartbeats 4000000 in
set_option maxRecDepth 100000 in
theorem wX10_clockCloth_109 {p : Program} {l : Launch} {e : Env} {s : State} {m : MethodId} {args : Array Value} {below : List Frame} {meth : Method} {c : Code} (bs : Nat) (D : va_G) (y : Y3) (n : Nat) (k2_ : Int32 → MI → MJ → Option (M2)) (r : M2) (Gc : Gx p s m args meth c cX10_clockCloth 4 RX10 bs D y none 76) (hk2_ : ∀ (x1 : Int32) (I : MI) (J : MJ) (H : Heap) (locs : List Loc) (ls : Array Slot), va_P D vwCl (wl bs y I J) H → va_S (FA bs) s.heap H locs → lv_has ls 4 [(0, .ref (bs + 44)), (1, .int x1)] → k2_ x1 I J = some r → W p l e (rmm 2 43) s m args below meth c H locs 0 0 (QV below args s bs D y r) (F0 m 2 ls [])) (x1 : Int32) (I : MI) (J : MJ) (H : Heap) (locs : List Loc) (ls : Array Slot) (hP : va_P D vwCl (wl bs y I J) H) (hS : va_S (FA bs) s.heap H locs) (hl : lv_has ls 4 [(0, .ref (bs + 44)), (1, .int x1)]) (h : fX10_clockCloth_109 n k2_ x1 I J = some r) : W p l e (rmm 2 43) s m args below meth c H locs 0 0 (QV below args s bs D y r) (F0 m 109 ls []) := by
  obtain ⟨hx, hb, hml, hown, hts, hK, hN, hL, hr, hlocks, hcb⟩ := id Gc
  unfold fX10_clockCloth_109 at h
  refine lv_iinc (v := (x1 + (1 : Int32))) (lv' := [(1, .int (x1 + (1 : Int32))), (0, .ref (bs + 44))]) hx hb dX10_clockCloth_109 hl (k := 1) rfl rfl (by decide) rfl (fun ls hl => ?_)
  refine lv_goto (tgt := 2) hx hb dX10_clockCloth_112 (by decide) ?_
  exact hk2_ (x1 + (1 : Int32)) I J _ _ _ hP hS (lv_sub hl [1, 0] rfl) h
set_option maxHeartbeats 4000000 in
set_option maxRecDepth 100000 in
theorem wX10_clockCloth_108 {p : Program} {l : Launch} {e : Env} {s : State} {m : MethodId} {args : Array Value} {below : List Frame} {meth : Method} {c : Code} (bs : Nat) (D : va_G) (y : Y3) (n : Nat) (k2_ : Int32 → MI → MJ → Option (M2)) (r : M2) (Gc : Gx p s m args meth c cX10_clockCloth 4 RX10 bs D y none 76) (hk2_ : ∀ (x1 : Int32) (I : MI) (J : MJ) (H : Heap) (locs : List Loc) (ls : Array Slot), va_P D vwCl (wl bs y I J) H → va_S (FA bs) s.heap H locs → lv_has ls 4 [(0, .ref (bs + 44)), (1, .int x1)] → k2_ x1 I J = some r → W p l e (rmm 2 43) s m args below meth c H locs 0 0 (QV below args s bs D y r) (F0 m 2 ls [])) (x1 : Int32) (s1 : Int32) (s2 : Int32) (I : MI) (J : MJ) (H : Heap) (locs : List Loc) (ls : Array Slot) (hP : va_P D vwCl (wl bs y I J) H) (hS : va_S (FA bs) s.heap H locs) (hl : lv_has ls 4 [(0, .ref (bs + 44)), (1, .int x1)]) (h : fX10_clockCloth_108 n k2_ x1 s1 s2 I J = some r) : W p l e (rmm 2 43) s m args below meth c H locs 0 0 (QV below args s bs D y r) (F0 m 108 ls [.int s2, .int s1, .ref (bs + 72)]) := by
  obtain ⟨hx, hb, hml, hown, hts, hK, hN, hL, hr, hlocks, hcb⟩ := id Gc
  unfold fX10_clockCloth_108 at h
  obtain ⟨hi108, h⟩ := if_s1 h
  obtain ⟨I108, eI108, h⟩ := lt_s1 h
  refine t_Z 72 eI108 hx hb hK hP hS hcb alZ_72 hi108 dX10_clockCloth_108 (fun H locs hP hS => ?_)
  exact wX10_clockCloth_109 bs D y n k2_ r Gc hk2_ x1 I108 J _ _ _ hP hS (lv_sub hl [0, 1] rfl) h
set_option maxHeartbeats 4000000 in
set_option maxRecDepth 100000 in
theorem wX10_clockCloth_77 {p : Program} {l : Launch} {e : Env} {s : State} {m : MethodId} {args : Array Value} {below : List Frame} {meth : Method} {c : Code} (bs : Nat) (D : va_G) (y : Y3) (n : Nat) (k2_ : Int32 → MI → MJ → Option (M2)) (k36_ : Int32 → Int32 → Int32 → MI → MJ → Option (M2)) (r : M2) (Gc : Gx p s m args meth c cX10_clockCloth 4 RX10 bs D y none 76) (hk2_ : ∀ (x1 : Int32) (I : MI) (J : MJ) (H : Heap) (locs : List Loc) (ls : Array Slot), va_P D vwCl (wl bs y I J) H → va_S (FA bs) s.heap H locs → lv_has ls 4 [(0, .ref (bs + 44)), (1, .int x1)] → k2_ x1 I J = some r → W p l e (rmm 2 43) s m args below meth c H locs 0 0 (QV below args s bs D y r) (F0 m 2 ls [])) (hk36_ : ∀ (x1 : Int32) (x2 : Int32) (x3 : Int32) (I : MI) (J : MJ) (H : Heap) (locs : List Loc) (ls : Array Slot), va_P D vwCl (wl bs y I J) H → va_S (FA bs) s.heap H locs → lv_has ls 4 [(0, .ref (bs + 44)), (1, .int x1), (2, .int x2), (3, .int x3)] → k36_ x1 x2 x3 I J = some r → W p l e (rmm 2 43) s m args below meth c H locs 0 0 (QV below args s bs D y r) (F0 m 36 ls [])) (x1 : Int32) (x3 : Int32) (s0 : Int32) (s1 : Int32) (I : MI) (J : MJ) (H : Heap) (locs : List Loc) (ls : Array Slot) (hP : va_P D vwCl (wl bs y I J) H) (hS : va_S (FA bs) s.heap H locs) (hl : lv_has ls 4 [(0, .ref (bs + 44)), (1, .int x1), (3, .int x3)]) (h : fX10_clockCloth_77 n k2_ k36_ x1 x3 s0 s1 I J = some r) : W p l e (rmm 2 43) s m args below meth c H locs 0 0 (QV below args s bs D y r) (F0 m 77 ls [.int s1, .int s0]) := by
  obtain ⟨hx, hb, hml, hown, hts, hK, hN, hL, hr, hlocks, hcb⟩ := id Gc
  unfold fX10_clockCloth_77 at h
  refine lv_ior hx hb dX10_clockCloth_77 ?_
  obtain ⟨v78, ev78, h⟩ := lt_s1 h
  refine top_i ev78 ?_
  refine lv_istore_n (lv' := [(2, .int v78), (0, .ref (bs + 44)), (1, .int x1), (3, .int x3)]) hx hb dX10_clockCloth_78 rfl hl (by decide) rfl (fun ls hl => ?_)
  refine lv_iinc (v := (x3 + (1 : Int32))) (lv' := [(3, .int (x3 + (1 : Int32))), (2, .int v78), (0, .ref (bs + 44)), (1, .int x1)]) hx hb dX10_clockCloth_79 hl (k := 3) rfl rfl (by decide) rfl (fun ls hl => ?_)
  refine lv_goto (tgt := 36) hx hb dX10_clockCloth_82 (by decide) ?_
  exact hk36_ x1 v78 (x3 + (1 : Int32)) I J _ _ _ hP hS (lv_sub hl [2, 3, 1, 0] rfl) h
set_option maxHeartbeats 4000000 in
set_option maxRecDepth 100000 in
theorem wX10_clockCloth_36 {p : Program} {l : Launch} {e : Env} {s : State} {m : MethodId} {args : Array Value} {below : List Frame} {meth : Method} {c : Code} (bs : Nat) (D : va_G) (y : Y3) (n : Nat) (k2_ : Int32 → MI → MJ → Option (M2)) (k36_ : Int32 → Int32 → Int32 → MI → MJ → Option (M2)) (r : M2) (Gc : Gx p s m args meth c cX10_clockCloth 4 RX10 bs D y none 76) (hk2_ : ∀ (x1 : Int32) (I : MI) (J : MJ) (H : Heap) (locs : List Loc) (ls : Array Slot), va_P D vwCl (wl bs y I J) H → va_S (FA bs) s.heap H locs → lv_has ls 4 [(0, .ref (bs + 44)), (1, .int x1)] → k2_ x1 I J = some r → W p l e (rmm 2 43) s m args below meth c H locs 0 0 (QV below args s bs D y r) (F0 m 2 ls [])) (hk36_ : ∀ (x1 : Int32) (x2 : Int32) (x3 : Int32) (I : MI) (J : MJ) (H : Heap) (locs : List Loc) (ls : Array Slot), va_P D vwCl (wl bs y I J) H → va_S (FA bs) s.heap H locs → lv_has ls 4 [(0, .ref (bs + 44)), (1, .int x1), (2, .int x2), (3, .int x3)] → k36_ x1 x2 x3 I J = some r → W p l e (rmm 2 43) s m args below meth c H locs 0 0 (QV below args s bs D y r) (F0 m 36 ls [])) (x1 : Int32) (x2 : Int32) (x3 : Int32) (I : MI) (J : MJ) (H : Heap) (locs : List Loc) (ls : Array Slot) (hP : va_P D vwCl (wl bs y I J) H) (hS : va_S (FA bs) s.heap H locs) (hl : lv_has ls 4 [(0, .ref (bs + 44)), (1, .int x1), (2, .int x2), (3, .int x3)]) (h : fX10_clockCloth_36 n k2_ k36_ x1 x2 x3 I J = some r) : W p l e (rmm 2 43) s m args below meth c H locs 0 0 (QV below args s bs D y r) (F0 m 36 ls []) := by
  obtain ⟨hx, hb, hml, hown, hts, hK, hN, hL, hr, hlocks, hcb⟩ := id Gc
  unfold fX10_clockCloth_36 at h
  refine lv_iload_n hx hb dX10_clockCloth_36 rfl (lv_at hl 3 rfl) ?_
  refine lv_aload_n hx hb dX10_clockCloth_37 rfl (lv_at hl 0 rfl) ?_
  refine g_R (C := RX10) (T := TX10) (N := 49) (ci := 10) 44 21 57 hx hb hts hown hK hP in_X10 rfl hcb okF_44_21 rfc_44_21 fl_164 dX10_clockCloth_38 ?_
  refine lv_iload_n hx hb dX10_clockCloth_41 rfl (lv_at hl 1 rfl) ?_
  obtain ⟨hi42, h⟩ := if_s1 h
  refine a_I 57 hx hb hK hP hcb aln_57 hi42 dX10_clockCloth_42 ?_
  refine lv_icmp_ge (tgt := 85) hx hb dX10_clockCloth_43 (by decide) (fun c43 => ?_) (fun c43 => ?_)
  · replace h := if_t c43 h
    refine lv_aload_n hx hb dX10_clockCloth_85 rfl (lv_at hl 0 rfl) ?_
    refine g_R (C := RX10) (T := TX10) (N := 49) (ci := 10) 44 40 72 hx hb hts hown hK hP in_X10 rfl hcb okF_44_40 rfc_44_40 fl_142 dX10_clockCloth_86 ?_
    refine lv_iload_n hx hb dX10_clockCloth_89 rfl (lv_at hl 1 rfl) ?_
    refine lv_aload_n hx hb dX10_clockCloth_90 rfl (lv_at hl 0 rfl) ?_
    refine lv_iload_n hx hb dX10_clockCloth_91 rfl (lv_at hl 1 rfl) ?_
    obtain ⟨r92, er92, h⟩ := bd_s1 h
    refine c_VI (k := 44) (ci := 10) (As := [.int x1]) (rest := [.int x1, .ref (bs + 72)]) hx hb hml hown hts hK hN hL hP hS (cX10_bitsThere_ l bs D y hcb n x1 I J r92 er92) ok_X10_bitsThere ov_X10_bitsThere ml_162 ⟨Nat.le_of_ble_eq_true rfl, Nat.le_of_ble_eq_true rfl⟩ rfl hcb kd_44 hl.1 rfl rfl (Nat.le_of_ble_eq_true rfl) ⟨Nat.zero_le _, Nat.zero_le _⟩ dX10_clockCloth_92 (fun H locs hP hS => ?_)
    refine lv_iload_n hx hb dX10_clockCloth_95 rfl (lv_at hl 2 rfl) ?_
    refine lv_ishr hx hb dX10_clockCloth_96 ?_
    refine lv_iconst (v := (1 : Int32)) hx hb dX10_clockCloth_97 (by decide) ?_
    refine lv_iand hx hb dX10_clockCloth_98 ?_
    refine lv_iconst (v := (1 : Int32)) hx hb dX10_clockCloth_99 (by decide) ?_
    refine lv_icmp_ne (tgt := 107) hx hb dX10_clockCloth_100 (by decide) (fun c100 => ?_) (fun c100 => ?_)
    · replace h := if_f c100 h
      refine lv_iconst (v := (0 : Int32)) hx hb dX10_clockCloth_107 (by decide) ?_
      exact wX10_clockCloth_108 bs D y n k2_ r Gc hk2_ x1 x1 (0 : Int32) r92.2.1 r92.2.2 _ _ _ hP hS (lv_sub hl [0, 1] rfl) h
    · replace h := if_t c100 h
      refine lv_iconst (v := (1 : Int32)) hx hb dX10_clockCloth_103 (by decide) ?_
      refine lv_goto (tgt := 108) hx hb dX10_clockCloth_104 (by decide) ?_
      exact wX10_clockCloth_108 bs D y n k2_ r Gc hk2_ x1 x1 (1 : Int32) r92.2.1 r92.2.2 _ _ _ hP hS (lv_sub hl [0, 1] rfl) h
  · replace h := if_f c43 h
    refine lv_iload_n hx hb dX10_clockCloth_46 rfl (lv_at hl 2 rfl) ?_
    refine lv_aload_n hx hb dX10_clockCloth_47 rfl (lv_at hl 0 rfl) ?_
    refine lv_aload_n hx hb dX10_clockCloth_48 rfl (lv_at hl 0 rfl) ?_
    refine g_R (C := RX10) (T := TX10) (N := 49) (ci := 10) 44 36 68 hx hb hts hown hK hP in_X10 rfl hcb okF_44_36 rfc_44_36 fl_180 dX10_clockCloth_49 ?_
    refine lv_aload_n hx hb dX10_clockCloth_52 rfl (lv_at hl 0 rfl) ?_
    refine g_R (C := RX10) (T := TX10) (N := 49) (ci := 10) 44 38 70 hx hb hts hown hK hP in_X10 rfl hcb okF_44_38 rfc_44_38 fl_182 dX10_clockCloth_53 ?_
    refine lv_iload_n hx hb dX10_clockCloth_56 rfl (lv_at hl 1 rfl) ?_
    obtain ⟨hi57, h⟩ := if_s1 h
    refine a_I 70 hx hb hK hP hcb aln_70 hi57 dX10_clockCloth_57 ?_
    refine lv_iconst (v := (3 : Int32)) hx hb dX10_clockCloth_58 (by decide) ?_
    refine lv_iadd hx hb dX10_clockCloth_59 ?_
    refine lv_iload_n hx hb dX10_clockCloth_60 rfl (lv_at hl 3 rfl) ?_
    refine lv_iadd hx hb dX10_clockCloth_61 ?_
    obtain ⟨hi62, h⟩ := if_s1 h
    refine a_I 68 hx hb hK hP hcb aln_68 hi62 dX10_clockCloth_62 ?_
    refine lv_iload_n hx hb dX10_clockCloth_63 rfl (lv_at hl 1 rfl) ?_
    obtain ⟨r64, er64, h⟩ := bd_s1 h
    refine c_VI (k := 44) (ci := 10) (As := [.int (I 68 ((((I 70 (x1).toNatClampNeg) + (3 : Int32)) + x3)).toNatClampNeg), .int x1]) (rest := [.int x2]) hx hb hml hown hts hK hN hL hP hS (cX10_letterIs_ l bs D y hcb n (I 68 ((((I 70 (x1).toNatClampNeg) + (3 : Int32)) + x3)).toNatClampNeg) x1 I J r64 er64) ok_X10_letterIs ov_X10_letterIs ml_165 ⟨Nat.le_of_ble_eq_true rfl, Nat.le_of_ble_eq_true rfl⟩ rfl hcb kd_44 hl.1 rfl rfl (Nat.le_of_ble_eq_true rfl) ⟨Nat.zero_le _, Nat.zero_le _⟩ dX10_clockCloth_64 (fun H locs hP hS => ?_)
    refine lv_if_eq (tgt := 76) hx hb dX10_clockCloth_67 (by decide) (fun c67 => ?_) (fun c67 => ?_)
    · replace h := if_t c67 h
      refine lv_iconst (v := (0 : Int32)) hx hb dX10_clockCloth_76 (by decide) ?_
      exact wX10_clockCloth_77 bs D y n k2_ k36_ r Gc hk2_ hk36_ x1 x3 x2 (0 : Int32) r64.2.1 r64.2.2 _ _ _ hP hS (lv_sub hl [0, 1, 3] rfl) h
    · replace h := if_f c67 h
      refine lv_iconst (v := (1 : Int32)) hx hb dX10_clockCloth_70 (by decide) ?_
      refine lv_iload_n hx hb dX10_clockCloth_71 rfl (lv_at hl 3 rfl) ?_
      refine lv_ishl hx hb dX10_clockCloth_72 ?_
      refine lv_goto (tgt := 77) hx hb dX10_clockCloth_73 (by decide) ?_
      exact wX10_clockCloth_77 bs D y n k2_ k36_ r Gc hk2_ hk36_ x1 x3 x2 ((1 : Int32) <<< (x3 &&& 31)) r64.2.1 r64.2.2 _ _ _ hP hS (lv_sub hl [0, 1, 3] rfl) h
theorem vX10_clockCloth_36 {p : Program} {l : Launch} {e : Env} {s : State} {m : MethodId} {args : Array Value} {below : List Frame} {meth : Method} {c : Code} (bs : Nat) (D : va_G) (y : Y3) (n : Nat) (k2_ : Int32 → MI → MJ → Option (M2)) (r : M2) (Gc : Gx p s m args meth c cX10_clockCloth 4 RX10 bs D y none 76) (hk2_ : ∀ (x1 : Int32) (I : MI) (J : MJ) (H : Heap) (locs : List Loc) (ls : Array Slot), va_P D vwCl (wl bs y I J) H → va_S (FA bs) s.heap H locs → lv_has ls 4 [(0, .ref (bs + 44)), (1, .int x1)] → k2_ x1 I J = some r → W p l e (rmm 2 43) s m args below meth c H locs 0 0 (QV below args s bs D y r) (F0 m 2 ls [])) : ∀ (q : Nat) (x1 : Int32) (x2 : Int32) (x3 : Int32) (I : MI) (J : MJ) (H : Heap) (locs : List Loc) (ls : Array Slot), va_P D vwCl (wl bs y I J) H → va_S (FA bs) s.heap H locs → lv_has ls 4 [(0, .ref (bs + 44)), (1, .int x1), (2, .int x2), (3, .int x3)] → lX10_clockCloth_36 n k2_ q x1 x2 x3 I J = some r → W p l e (rmm 2 43) s m args below meth c H locs 0 0 (QV below args s bs D y r) (F0 m 36 ls []) := by
  intro q
  induction q with
  | zero =>
    intro x1 x2 x3 I J H locs ls hP hS hl h
    have h : (none : Option (M2)) = some r := h
    cases h
  | succ q ih =>
    intro x1 x2 x3 I J H locs ls hP hS hl h
    have h : fX10_clockCloth_36 n k2_ (lX10_clockCloth_36 n k2_ q) x1 x2 x3 I J = some r := h
    exact wX10_clockCloth_36 bs D y n k2_ (lX10_clockCloth_36 n k2_ q) r Gc hk2_ ih x1 x2 x3 I J H locs ls hP hS hl h
set_option maxHeartbeats 4000000 in
set_option maxRecDepth 100000 in
theorem wX10_clockCloth_2 {p : Program} {l : Launch} {e : Env} {s : State} {m : MethodId} {args : Array Value} {below : List Frame} {meth : Method} {c : Code} (bs : Nat) (D : va_G) (y : Y3) (n : Nat) (k2_ : Int32 → MI → MJ → Option (M2)) (r : M2) (Gc : Gx p s m args meth c cX10_clockCloth 4 RX10 bs D y none 76) (hk2_ : ∀ (x1 : Int32) (I : MI) (J : MJ) (H : Heap) (locs : List Loc) (ls : Array Slot), va_P D vwCl (wl bs y I J) H → va_S (FA bs) s.heap H locs → lv_has ls 4 [(0, .ref (bs + 44)), (1, .int x1)] → k2_ x1 I J = some r → W p l e (rmm 2 43) s m args below meth c H locs 0 0 (QV below args s bs D y r) (F0 m 2 ls [])) (x1 : Int32) (I : MI) (J : MJ) (H : Heap) (locs : List Loc) (ls : Array Slot) (hP : va_P D vwCl (wl bs y I J) H) (hS : va_S (FA bs) s.heap H locs) (hl : lv_has ls 4 [(0, .ref (bs + 44)), (1, .int x1)]) (h : fX10_clockCloth_2 n k2_ x1 I J = some r) : W p l e (rmm 2 43) s m args below meth c H locs 0 0 (QV below args s bs D y r) (F0 m 2 ls []) := by
  obtain ⟨hx, hb, hml, hown, hts, hK, hN, hL, hr, hlocks, hcb⟩ := id Gc
  unfold fX10_clockCloth_2 at h
  refine lv_iload_n hx hb dX10_clockCloth_2 rfl (lv_at hl 1 rfl) ?_
  refine lv_aload_n hx hb dX10_clockCloth_3 rfl (lv_at hl 0 rfl) ?_
  refine g_I (C := RX10) (T := TX10) (N := 49) (ci := 10) 44 6 hx hb hts hown hK hP in_X10 rfl hcb okF_44_6 fl_141 dX10_clockCloth_4 ?_
  refine lv_icmp_ge (tgt := 115) hx hb dX10_clockCloth_7 (by decide) (fun c7 => ?_) (fun c7 => ?_)
  · replace h := if_t c7 h
    refine lv_aload_n hx hb dX10_clockCloth_115 rfl (lv_at hl 0 rfl) ?_
    refine lv_aload_n hx hb dX10_clockCloth_116 rfl (lv_at hl 0 rfl) ?_
    refine lv_iconst (v := (1 : Int32)) hx hb dX10_clockCloth_117 (by decide) ?_
    obtain ⟨r118, er118, h⟩ := bd_s1 h
    refine c_VI (k := 44) (ci := 10) (As := [.int (1 : Int32)]) (rest := [.ref (bs + 44)]) hx hb hml hown hts hK hN hL hP hS (cX10_outsOf_ l bs D y hcb n (1 : Int32) I J r118 er118) ok_X10_outsOf ov_X10_outsOf ml_163 ⟨Nat.le_of_ble_eq_true rfl, Nat.le_of_ble_eq_true rfl⟩ rfl hcb kd_44 hl.1 rfl rfl (Nat.le_of_ble_eq_true rfl) ⟨Nat.zero_le _, Nat.zero_le _⟩ dX10_clockCloth_118 (fun H locs hP hS => ?_)
    obtain ⟨I121, eI121, h⟩ := lt_s1 h
    refine s_I (C := RX10) (T := TX10) (N := 49) (ci := 10) (ty := .int) 44 44 eI121 tyX10 hx hb hts hown hK hP hS in_X10 tyX10_ok nmX10 rfl hcb okF_44_44 fl_185 rfl (by decide +kernel) rfl rfl dX10_clockCloth_121 (fun H locs hP hS => ?_)
    refine lv_iconst (v := (0 : Int32)) hx hb dX10_clockCloth_124 (by decide) ?_
    refine lv_istore_n (lv' := [(1, .int (0 : Int32)), (0, .ref (bs + 44))]) hx hb dX10_clockCloth_125 rfl hl (by decide) rfl (fun ls hl => ?_)
    exact vX10_clockCloth_126 bs D y n  r Gc  n (0 : Int32) I121 r118.2.2 _ _ _ hP hS (lv_sub hl [1, 0] rfl) h
  · replace h := if_f c7 h
    refine lv_aload_n hx hb dX10_clockCloth_10 rfl (lv_at hl 0 rfl) ?_
    refine g_R (C := RX10) (T := TX10) (N := 49) (ci := 10) 44 0 45 hx hb hts hown hK hP in_X10 rfl hcb okF_44_0 rfc_44_0 fl_146 dX10_clockCloth_11 ?_
    refine lv_iload_n hx hb dX10_clockCloth_14 rfl (lv_at hl 1 rfl) ?_
    obtain ⟨hi15, h⟩ := if_s1 h
    refine a_I 45 hx hb hK hP hcb aln_45 hi15 dX10_clockCloth_15 ?_
    refine lv_iconst (v := (2 : Int32)) hx hb dX10_clockCloth_16 (by decide) ?_
    refine lv_icmp_ne (tgt := 109) hx hb dX10_clockCloth_17 (by decide) (fun c17 => ?_) (fun c17 => ?_)
    · replace h := if_f c17 h
      exact wX10_clockCloth_109 bs D y n k2_ r Gc hk2_ x1 I J _ _ _ hP hS (lv_sub hl [0, 1] rfl) h
    · replace h := if_t c17 h
      refine lv_aload_n hx hb dX10_clockCloth_20 rfl (lv_at hl 0 rfl) ?_
      refine g_R (C := RX10) (T := TX10) (N := 49) (ci := 10) 44 19 55 hx hb hts hown hK hP in_X10 rfl hcb okF_44_19 rfc_44_19 fl_167 dX10_clockCloth_21 ?_
      refine lv_iload_n hx hb dX10_clockCloth_24 rfl (lv_at hl 1 rfl) ?_
      obtain ⟨hi25, h⟩ := if_s1 h
      refine a_Z 55 hx hb hK hP hcb alZ_55 hi25 dX10_clockCloth_25 ?_
      refine lv_if_ne (tgt := 32) hx hb dX10_clockCloth_26 (by decide) (fun c26 => ?_) (fun c26 => ?_)
      · replace h := if_f c26 h
        refine lv_iconst (v := (0 : Int32)) hx hb dX10_clockCloth_32 (by decide) ?_
        refine lv_istore_n (lv' := [(2, .int (0 : Int32)), (0, .ref (bs + 44)), (1, .int x1)]) hx hb dX10_clockCloth_33 rfl hl (by decide) rfl (fun ls hl => ?_)
        refine lv_iconst (v := (0 : Int32)) hx hb dX10_clockCloth_34 (by decide) ?_
        refine lv_istore_n (lv' := [(3, .int (0 : Int32)), (2, .int (0 : Int32)), (0, .ref (bs + 44)), (1, .int x1)]) hx hb dX10_clockCloth_35 rfl hl (by decide) rfl (fun ls hl => ?_)
        exact vX10_clockCloth_36 bs D y n k2_ r Gc hk2_ n x1 (0 : Int32) (0 : Int32) I J _ _ _ hP hS (lv_sub hl [2, 3, 1, 0] rfl) h
      · replace h := if_t c26 h
        refine lv_goto (tgt := 109) hx hb dX10_clockCloth_29 (by decide) ?_
        exact wX10_clockCloth_109 bs D y n k2_ r Gc hk2_ x1 I J _ _ _ hP hS (lv_sub hl [0, 1] rfl) h
theorem vX10_clockCloth_2 {p : Program} {l : Launch} {e : Env} {s : State} {m : MethodId} {args : Array Value} {below : List Frame} {meth : Method} {c : Code} (bs : Nat) (D : va_G) (y : Y3) (n : Nat) (r : M2) (Gc : Gx p s m args meth c cX10_clockCloth 4 RX10 bs D y none 76)  : ∀ (q : Nat) (x1 : Int32) (I : MI) (J : MJ) (H : Heap) (locs : List Loc) (ls : Array Slot), va_P D vwCl (wl bs y I J) H → va_S (FA bs) s.heap H locs → lv_has ls 4 [(0, .ref (bs + 44)), (1, .int x1)] → lX10_clockCloth_2 n  q x1 I J = some r → W p l e (rmm 2 43) s m args below meth c H locs 0 0 (QV below args s bs D y r) (F0 m 2 ls []) := by
  intro q
  induction q with
  | zero =>
    intro x1 I J H locs ls hP hS hl h
    have h : (none : Option (M2)) = some r := h
    cases h
  | succ q ih =>
    intro x1 I J H locs ls hP hS hl h
    have h : fX10_clockCloth_2 n  (lX10_clockCloth_2 n  q) x1 I J = some r := h
    exact wX10_clockCloth_2 bs D y n  (lX10_clockCloth_2 n  q) r Gc  ih x1 I J H locs ls hP hS hl h
set_option maxHeartbeats 4000000 in
set_option maxRecDepth 100000 in
theorem cX10_clockCloth_ (l : Launch) (bs : Nat) (D : va_G) (y : Y3) (hcb : 76 ≤ y.2.2.2) (n : Nat) (I : MI) (J : MJ) (r : M2) (h : fX10_clockCloth n  I J = some r) : Met l yX10_clockCloth (.code yX10_clockCloth cX10_clockCloth 4 none :: gtb) (rmm 2 43) (va_Pc [.ref (bs + 44)] (HB bs D y I J)) (QcV bs D y r) 0 0 (FA bs) := by
  refine Met.ofW (cc := cX10_clockCloth) (maxL := 4) (ret := none) (by decide) rfl ?_
  intro p e s m args below meth c s₁ B hml hv
  obtain ⟨rfl, hP, hK, hN, hL⟩ := hv
  have hx := B.exec
  have hb := B.bytes
  have hr := B.returns
  have hts0 := atoms_spec (ws := .code yX10_clockCloth cX10_clockCloth 4 none :: gtb) B.pre
  have hts : ∀ w ∈ gtb, w.before [.ref (bs + 44)].toArray s = true := fun w hw => hts0 w (List.mem_cons_of_mem _ hw)
  have hown : s.vm.findClass RX10 = some m.cls := findClass_of_methodNamed B.named
  have hlocks := B.notSynchronized
  have hS : va_S (FA bs) s.heap s.heap [] := va_S.rf
  have Gc : Gx p s m [.ref (bs + 44)].toArray meth c cX10_clockCloth 4 RX10 bs D y none 76 := ⟨hx, hb, hml, hown, hts, hK, hN, hL, hr, hlocks, hcb⟩
  have hl := lv_entry [.ref (bs + 44)] (n := 4) (Nat.le_of_ble_eq_true rfl)
  rw [lg_entry_eq]
  generalize (lg_sl [.ref (bs + 44)] ++ List.replicate (4 - (lg_sl [.ref (bs + 44)]).length) Slot.unset).toArray = ls at hl ⊢
  have hl : lv_has ls 4 [(0, .ref (bs + 44))] := hl
  change W p l e (rmm 2 43) s m [.ref (bs + 44)].toArray below meth c s.heap [] 0 0 (QV below [.ref (bs + 44)].toArray s bs D y r) (F0 m 0 ls [])
  unfold fX10_clockCloth at h
  refine lv_iconst (v := (0 : Int32)) hx hb dX10_clockCloth_0 (by decide) ?_
  refine lv_istore_n (lv' := [(1, .int (0 : Int32)), (0, .ref (bs + 44))]) hx hb dX10_clockCloth_1 rfl hl (by decide) rfl (fun ls hl => ?_)
  exact vX10_clockCloth_2 bs D y n  r Gc  n (0 : Int32) I J _ _ _ hP hS (lv_sub hl [1, 0] rfl) h
theorem dX10_clock_0 : decode cX10_clock 0 = .ok (.iload_n 1, 1) := by decide +kernel
theorem dX10_clock_1 : decode cX10_clock 1 = .ok (.i2l, 1) := by decide +kernel
theorem dX10_clock_2 : decode cX10_clock 2 = .ok (.lconst 0, 1) := by decide +kernel
theorem dX10_clock_3 : decode cX10_clock 3 = .ok (.iconst 1, 1) := by decide +kernel
theorem dX10_clock_4 : decode cX10_clock 4 = .ok (.aload_n 0, 1) := by decide +kernel
theorem dX10_clock_5 : decode cX10_clock 5 = .ok (.getfield 148, 3) := by decide +kernel
theorem dX10_clock_8 : decode cX10_clock 8 = .ok (.ishl, 1) := by decide +kernel
theorem dX10_clock_9 : decode cX10_clock 9 = .ok (.iconst 1, 1) := by decide +kernel
theorem dX10_clock_10 : decode cX10_clock 10 = .ok (.isub, 1) := by decide +kernel
theorem dX10_clock_11 : decode cX10_clock 11 = .ok (.i2l, 1) := by decide +kernel
theorem dX10_clock_12 : decode cX10_clock 12 = .ok (.invokestatic 164, 3) := by decide +kernel
theorem dX10_clock_15 : decode cX10_clock 15 = .ok (.ifCond .ne 10, 3) := by decide +kernel
theorem dX10_clock_18 : decode cX10_clock 18 = .ok (.aload_n 0, 1) := by decide +kernel
theorem dX10_clock_19 : decode cX10_clock 19 = .ok (.bipush (-3), 2) := by decide +kernel
theorem dX10_clock_21 : decode cX10_clock 21 = .ok (.invokevirtual 151, 3) := by decide +kernel
theorem dX10_clock_24 : decode cX10_clock 24 = .ok (.ireturn, 1) := by decide +kernel
theorem dX10_clock_25 : decode cX10_clock 25 = .ok (.iconst 0, 1) := by decide +kernel
theorem dX10_clock_26 : decode cX10_clock 26 = .ok (.istore_n 2, 1) := by decide +kernel
theorem dX10_clock_27 : decode cX10_clock 27 = .ok (.iconst 0, 1) := by decide +kernel
theorem dX10_clock_28 : decode cX10_clock 28 = .ok (.istore_n 3, 1) := by decide +kernel
theorem dX10_clock_29 : decode cX10_clock 29 = .ok (.iload_n 3, 1) := by decide +kernel
theorem dX10_clock_30 : decode cX10_clock 30 = .ok (.aload_n 0, 1) := by decide +kernel
theorem dX10_clock_31 : decode cX10_clock 31 = .ok (.getfield 123, 3) := by decide +kernel
theorem dX10_clock_34 : decode cX10_clock 34 = .ok (.if_icmp .ge 56, 3) := by decide +kernel
theorem dX10_clock_37 : decode cX10_clock 37 = .ok (.aload_n 0, 1) := by decide +kernel
theorem dX10_clock_38 : decode cX10_clock 38 = .ok (.getfield 7, 3) := by decide +kernel
theorem dX10_clock_41 : decode cX10_clock 41 = .ok (.iload_n 3, 1) := by decide +kernel
theorem dX10_clock_42 : decode cX10_clock 42 = .ok (.iaload, 1) := by decide +kernel
theorem dX10_clock_43 : decode cX10_clock 43 = .ok (.ifCond .eq 6, 3) := by decide +kernel
theorem dX10_clock_46 : decode cX10_clock 46 = .ok (.goto 38, 3) := by decide +kernel
theorem dX10_clock_49 : decode cX10_clock 49 = .ok (.aload_n 0, 1) := by decide +kernel
theorem dX10_clock_50 : decode cX10_clock 50 = .ok (.getfield 102, 3) := by decide +kernel
theorem dX10_clock_53 : decode cX10_clock 53 = .ok (.iload_n 3, 1) := by decide +kernel
theorem dX10_clock_54 : decode cX10_clock 54 = .ok (.iload_n 1, 1) := by decide +kernel
theorem dX10_clock_55 : decode cX10_clock 55 = .ok (.iload_n 2, 1) := by decide +kernel
theorem dX10_clock_56 : decode cX10_clock 56 = .ok (.ishr, 1) := by decide +kernel
theorem dX10_clock_57 : decode cX10_clock 57 = .ok (.iconst 1, 1) := by decide +kernel
theorem dX10_clock_58 : decode cX10_clock 58 = .ok (.iand, 1) := by decide +kernel
theorem dX10_clock_59 : decode cX10_clock 59 = .ok (.iconst 1, 1) := by decide +kernel
theorem dX10_clock_60 : decode cX10_clock 60 = .ok (.if_icmp .ne 7, 3) := by decide +kernel
theorem dX10_clock_63 : decode cX10_clock 63 = .ok (.iconst 1, 1) := by decide +kernel
theorem dX10_clock_64 : decode cX10_clock 64 = .ok (.goto 4, 3) := by decide +kernel
theorem dX10_clock_67 : decode cX10_clock 67 = .ok (.iconst 0, 1) := by decide +kernel
theorem dX10_clock_68 : decode cX10_clock 68 = .ok (.bastore, 1) := by decide +kernel
theorem dX10_clock_69 : decode cX10_clock 69 = .ok (.aload_n 0, 1) := by decide +kernel
theorem dX10_clock_70 : decode cX10_clock 70 = .ok (.getfield 105, 3) := by decide +kernel
theorem dX10_clock_73 : decode cX10_clock 73 = .ok (.iload_n 3, 1) := by decide +kernel
theorem dX10_clock_74 : decode cX10_clock 74 = .ok (.aload_n 0, 1) := by decide +kernel
theorem dX10_clock_75 : decode cX10_clock 75 = .ok (.getfield 102, 3) := by decide +kernel
theorem dX10_clock_78 : decode cX10_clock 78 = .ok (.iload_n 3, 1) := by decide +kernel
theorem dX10_clock_79 : decode cX10_clock 79 = .ok (.baload, 1) := by decide +kernel
theorem dX10_clock_80 : decode cX10_clock 80 = .ok (.bastore, 1) := by decide +kernel
theorem dX10_clock_81 : decode cX10_clock 81 = .ok (.iinc 2 1, 3) := by decide +kernel
theorem dX10_clock_84 : decode cX10_clock 84 = .ok (.iinc 3 1, 3) := by decide +kernel
theorem dX10_clock_87 : decode cX10_clock 87 = .ok (.goto (-58), 3) := by decide +kernel
theorem dX10_clock_90 : decode cX10_clock 90 = .ok (.aload_n 0, 1) := by decide +kernel
theorem dX10_clock_91 : decode cX10_clock 91 = .ok (.dup, 1) := by decide +kernel
theorem dX10_clock_92 : decode cX10_clock 92 = .ok (.getfield 325, 3) := by decide +kernel
theorem dX10_clock_95 : decode cX10_clock 95 = .ok (.iconst 1, 1) := by decide +kernel
theorem dX10_clock_96 : decode cX10_clock 96 = .ok (.iadd, 1) := by decide +kernel
theorem dX10_clock_97 : decode cX10_clock 97 = .ok (.putfield 325, 3) := by decide +kernel
theorem dX10_clock_100 : decode cX10_clock 100 = .ok (.aload_n 0, 1) := by decide +kernel
theorem dX10_clock_101 : decode cX10_clock 101 = .ok (.invokevirtual 344, 3) := by decide +kernel
theorem dX10_clock_104 : decode cX10_clock 104 = .ok (.aload_n 0, 1) := by decide +kernel
theorem dX10_clock_105 : decode cX10_clock 105 = .ok (.getfield 136, 3) := by decide +kernel
theorem dX10_clock_108 : decode cX10_clock 108 = .ok (.ifCond .eq 33, 3) := by decide +kernel
theorem dX10_clock_111 : decode cX10_clock 111 = .ok (.aload_n 0, 1) := by decide +kernel
theorem dX10_clock_112 : decode cX10_clock 112 = .ok (.invokevirtual 347, 3) := by decide +kernel
theorem dX10_clock_115 : decode cX10_clock 115 = .ok (.aload_n 0, 1) := by decide +kernel
theorem dX10_clock_116 : decode cX10_clock 116 = .ok (.getfield 111, 3) := by decide +kernel
theorem dX10_clock_119 : decode cX10_clock 119 = .ok (.ifCond .ge 22, 3) := by decide +kernel
theorem dX10_clock_122 : decode cX10_clock 122 = .ok (.aload_n 0, 1) := by decide +kernel
theorem dX10_clock_123 : decode cX10_clock 123 = .ok (.getfield 335, 3) := by decide +kernel
theorem dX10_clock_126 : decode cX10_clock 126 = .ok (.aload_n 0, 1) := by decide +kernel
theorem dX10_clock_127 : decode cX10_clock 127 = .ok (.getfield 341, 3) := by decide +kernel
theorem dX10_clock_130 : decode cX10_clock 130 = .ok (.if_icmp .eq 11, 3) := by decide +kernel
theorem dX10_clock_133 : decode cX10_clock 133 = .ok (.aload_n 0, 1) := by decide +kernel
theorem dX10_clock_134 : decode cX10_clock 134 = .ok (.aload_n 0, 1) := by decide +kernel
theorem dX10_clock_135 : decode cX10_clock 135 = .ok (.getfield 325, 3) := by decide +kernel
theorem dX10_clock_138 : decode cX10_clock 138 = .ok (.putfield 111, 3) := by decide +kernel
theorem dX10_clock_141 : decode cX10_clock 141 = .ok (.aload_n 0, 1) := by decide +kernel
theorem dX10_clock_142 : decode cX10_clock 142 = .ok (.getfield 335, 3) := by decide +kernel
theorem dX10_clock_145 : decode cX10_clock 145 = .ok (.ireturn, 1) := by decide +kernel
set_option maxHeartbeats 4000000 in
set_option maxRecDepth 100000 in
theorem wX10_clock_84 {p : Program} {l : Launch} {e : Env} {s : State} {m : MethodId} {args : Array Value} {below : List Frame} {meth : Method} {c : Code} (bs : Nat) (D : va_G) (y : Y3) (n : Nat) (k29_ : Int32 → Int32 → Int32 → MI → MJ → Option (Int32 × M2)) (r : Int32 × M2) (Gc : Gx p s m args meth c cX10_clock 4 RX10 bs D y (some .int) 76) (hk29_ : ∀ (x1 : Int32) (x2 : Int32) (x3 : Int32) (I : MI) (J : MJ) (H : Heap) (locs : List Loc) (ls : Array Slot), va_P D vwCl (wl bs y I J) H → va_S (FA bs) s.heap H locs → lv_has ls 4 [(0, .ref (bs + 44)), (1, .int x1), (2, .int x2), (3, .int x3)] → k29_ x1 x2 x3 I J = some r → W p l e (rmm 3 66) s m args below meth c H locs 0 0 (QI below args s bs D y r) (F0 m 29 ls [])) (x1 : Int32) (x2 : Int32) (x3 : Int32) (I : MI) (J : MJ) (H : Heap) (locs : List Loc) (ls : Array Slot) (hP : va_P D vwCl (wl bs y I J) H) (hS : va_S (FA bs) s.heap H locs) (hl : lv_has ls 4 [(0, .ref (bs + 44)), (1, .int x1), (2, .int x2), (3, .int x3)]) (h : fX10_clock_84 n k29_ x1 x2 x3 I J = some r) : W p l e (rmm 3 66) s m args below meth c H locs 0 0 (QI below args s bs D y r) (F0 m 84 ls []) := by
  obtain ⟨hx, hb, hml, hown, hts, hK, hN, hL, hr, hlocks, hcb⟩ := id Gc
  unfold fX10_clock_84 at h
  refine lv_iinc (v := (x3 + (1 : Int32))) (lv' := [(3, .int (x3 + (1 : Int32))), (0, .ref (bs + 44)), (1, .int x1), (2, .int x2)]) hx hb dX10_clock_84 hl (k := 3) rfl rfl (by decide) rfl (fun ls hl => ?_)
  refine lv_goto (tgt := 29) hx hb dX10_clock_87 (by decide) ?_
  exact hk29_ x1 x2 (x3 + (1 : Int32)) I J _ _ _ hP hS (lv_sub hl [1, 2, 3, 0] rfl) h
set_option maxHeartbeats 4000000 in
set_option maxRecDepth 100000 in
theorem wX10_clock_68 {p : Program} {l : Launch} {e : Env} {s : State} {m : MethodId} {args : Array Value} {below : List Frame} {meth : Method} {c : Code} (bs : Nat) (D : va_G) (y : Y3) (n : Nat) (k29_ : Int32 → Int32 → Int32 → MI → MJ → Option (Int32 × M2)) (r : Int32 × M2) (Gc : Gx p s m args meth c cX10_clock 4 RX10 bs D y (some .int) 76) (hk29_ : ∀ (x1 : Int32) (x2 : Int32) (x3 : Int32) (I : MI) (J : MJ) (H : Heap) (locs : List Loc) (ls : Array Slot), va_P D vwCl (wl bs y I J) H → va_S (FA bs) s.heap H locs → lv_has ls 4 [(0, .ref (bs + 44)), (1, .int x1), (2, .int x2), (3, .int x3)] → k29_ x1 x2 x3 I J = some r → W p l e (rmm 3 66) s m args below meth c H locs 0 0 (QI below args s bs D y r) (F0 m 29 ls [])) (x1 : Int32) (x2 : Int32) (x3 : Int32) (s1 : Int32) (s2 : Int32) (I : MI) (J : MJ) (H : Heap) (locs : List Loc) (ls : Array Slot) (hP : va_P D vwCl (wl bs y I J) H) (hS : va_S (FA bs) s.heap H locs) (hl : lv_has ls 4 [(0, .ref (bs + 44)), (1, .int x1), (2, .int x2), (3, .int x3)]) (h : fX10_clock_68 n k29_ x1 x2 x3 s1 s2 I J = some r) : W p l e (rmm 3 66) s m args below meth c H locs 0 0 (QI below args s bs D y r) (F0 m 68 ls [.int s2, .int s1, .ref (bs + 71)]) := by
  obtain ⟨hx, hb, hml, hown, hts, hK, hN, hL, hr, hlocks, hcb⟩ := id Gc
  unfold fX10_clock_68 at h
  obtain ⟨hi68, h⟩ := if_s1 h
  obtain ⟨I68, eI68, h⟩ := lt_s1 h
  refine t_Z 71 eI68 hx hb hK hP hS hcb alZ_71 hi68 dX10_clock_68 (fun H locs hP hS => ?_)
  refine lv_aload_n hx hb dX10_clock_69 rfl (lv_at hl 0 rfl) ?_
  refine g_R (C := RX10) (T := TX10) (N := 49) (ci := 10) 44 40 72 hx hb hts hown hK hP in_X10 rfl hcb okF_44_40 rfc_44_40 fl_142 dX10_clock_70 ?_
  refine lv_iload_n hx hb dX10_clock_73 rfl (lv_at hl 3 rfl) ?_
  refine lv_aload_n hx hb dX10_clock_74 rfl (lv_at hl 0 rfl) ?_
  refine g_R (C := RX10) (T := TX10) (N := 49) (ci := 10) 44 39 71 hx hb hts hown hK hP in_X10 rfl hcb okF_44_39 rfc_44_39 fl_143 dX10_clock_75 ?_
  refine lv_iload_n hx hb dX10_clock_78 rfl (lv_at hl 3 rfl) ?_
  obtain ⟨hi79, h⟩ := if_s1 h
  refine a_Z 71 hx hb hK hP hcb alZ_71 hi79 dX10_clock_79 ?_
  obtain ⟨hi80, h⟩ := if_s1 h
  obtain ⟨I80, eI80, h⟩ := lt_s1 h
  refine t_Z 72 eI80 hx hb hK hP hS hcb alZ_72 hi80 dX10_clock_80 (fun H locs hP hS => ?_)
  refine lv_iinc (v := (x2 + (1 : Int32))) (lv' := [(2, .int (x2 + (1 : Int32))), (0, .ref (bs + 44)), (1, .int x1), (3, .int x3)]) hx hb dX10_clock_81 hl (k := 2) rfl rfl (by decide) rfl (fun ls hl => ?_)
  exact wX10_clock_84 bs D y n k29_ r Gc hk29_ x1 (x2 + (1 : Int32)) x3 I80 J _ _ _ hP hS (lv_sub hl [1, 2, 0, 3] rfl) h
set_option maxHeartbeats 4000000 in
set_option maxRecDepth 100000 in
theorem wX10_clock_29 {p : Program} {l : Launch} {e : Env} {s : State} {m : MethodId} {args : Array Value} {below : List Frame} {meth : Method} {c : Code} (bs : Nat) (D : va_G) (y : Y3) (n : Nat) (k29_ : Int32 → Int32 → Int32 → MI → MJ → Option (Int32 × M2)) (r : Int32 × M2) (Gc : Gx p s m args meth c cX10_clock 4 RX10 bs D y (some .int) 76) (hk29_ : ∀ (x1 : Int32) (x2 : Int32) (x3 : Int32) (I : MI) (J : MJ) (H : Heap) (locs : List Loc) (ls : Array Slot), va_P D vwCl (wl bs y I J) H → va_S (FA bs) s.heap H locs → lv_has ls 4 [(0, .ref (bs + 44)), (1, .int x1), (2, .int x2), (3, .int x3)] → k29_ x1 x2 x3 I J = some r → W p l e (rmm 3 66) s m args below meth c H locs 0 0 (QI below args s bs D y r) (F0 m 29 ls [])) (x1 : Int32) (x2 : Int32) (x3 : Int32) (I : MI) (J : MJ) (H : Heap) (locs : List Loc) (ls : Array Slot) (hP : va_P D vwCl (wl bs y I J) H) (hS : va_S (FA bs) s.heap H locs) (hl : lv_has ls 4 [(0, .ref (bs + 44)), (1, .int x1), (2, .int x2), (3, .int x3)]) (h : fX10_clock_29 n k29_ x1 x2 x3 I J = some r) : W p l e (rmm 3 66) s m args below meth c H locs 0 0 (QI below args s bs D y r) (F0 m 29 ls []) := by
  obtain ⟨hx, hb, hml, hown, hts, hK, hN, hL, hr, hlocks, hcb⟩ := id Gc
  unfold fX10_clock_29 at h
  refine lv_iload_n hx hb dX10_clock_29 rfl (lv_at hl 3 rfl) ?_
  refine lv_aload_n hx hb dX10_clock_30 rfl (lv_at hl 0 rfl) ?_
  refine g_I (C := RX10) (T := TX10) (N := 49) (ci := 10) 44 6 hx hb hts hown hK hP in_X10 rfl hcb okF_44_6 fl_141 dX10_clock_31 ?_
  refine lv_icmp_ge (tgt := 90) hx hb dX10_clock_34 (by decide) (fun c34 => ?_) (fun c34 => ?_)
  · replace h := if_t c34 h
    refine lv_aload_n hx hb dX10_clock_90 rfl (lv_at hl 0 rfl) ?_
    refine lv_dup hx hb dX10_clock_91 rfl ?_
    refine g_I (C := RX10) (T := TX10) (N := 49) (ci := 10) 44 42 hx hb hts hown hK hP in_X10 rfl hcb okF_44_42 fl_144 dX10_clock_92 ?_
    refine lv_iconst (v := (1 : Int32)) hx hb dX10_clock_95 (by decide) ?_
    refine lv_iadd hx hb dX10_clock_96 ?_
    obtain ⟨I97, eI97, h⟩ := lt_s1 h
    refine s_I (C := RX10) (T := TX10) (N := 49) (ci := 10) (ty := .int) 44 42 eI97 tyX10 hx hb hts hown hK hP hS in_X10 tyX10_ok nmX10 rfl hcb okF_44_42 fl_144 rfl (by decide +kernel) rfl rfl dX10_clock_97 (fun H locs hP hS => ?_)
    refine lv_aload_n hx hb dX10_clock_100 rfl (lv_at hl 0 rfl) ?_
    obtain ⟨r101, er101, h⟩ := bd_s1 h
    refine c_VV (k := 44) (ci := 10) (As := []) (rest := []) hx hb hml hown hts hK hN hL hP hS (cX10_clockNet_ l bs D y hcb n  I97 J r101 er101) ok_X10_clockNet ov_X10_clockNet ml_166 ⟨Nat.le_of_ble_eq_true rfl, Nat.le_of_ble_eq_true rfl⟩ rfl hcb kd_44 hl.1 rfl rfl (Nat.le_of_ble_eq_true rfl) ⟨Nat.zero_le _, Nat.zero_le _⟩ dX10_clock_101 (fun H locs hP hS => ?_)
    refine lv_aload_n hx hb dX10_clock_104 rfl (lv_at hl 0 rfl) ?_
    refine g_I (C := RX10) (T := TX10) (N := 49) (ci := 10) 44 14 hx hb hts hown hK hP in_X10 rfl hcb okF_44_14 fl_151 dX10_clock_105 ?_
    refine lv_if_eq (tgt := 141) hx hb dX10_clock_108 (by decide) (fun c108 => ?_) (fun c108 => ?_)
    · replace h := if_t c108 h
      refine lv_aload_n hx hb dX10_clock_141 rfl (lv_at hl 0 rfl) ?_
      refine g_I (C := RX10) (T := TX10) (N := 49) (ci := 10) 44 43 hx hb hts hown hK hP in_X10 rfl hcb okF_44_43 fl_184 dX10_clock_142 ?_
      exact r_I hx hb hr hlocks hP hK hN hL hS h dX10_clock_145
    · replace h := if_f c108 h
      refine lv_aload_n hx hb dX10_clock_111 rfl (lv_at hl 0 rfl) ?_
      obtain ⟨r112, er112, h⟩ := bd_s1 h
      refine c_VV (k := 44) (ci := 10) (As := []) (rest := []) hx hb hml hown hts hK hN hL hP hS (cX10_clockCloth_ l bs D y hcb n  r101.1 r101.2 r112 er112) ok_X10_clockCloth ov_X10_clockCloth ml_167 ⟨Nat.le_of_ble_eq_true rfl, Nat.le_of_ble_eq_true rfl⟩ rfl hcb kd_44 hl.1 rfl rfl (Nat.le_of_ble_eq_true rfl) ⟨Nat.zero_le _, Nat.zero_le _⟩ dX10_clock_112 (fun H locs hP hS => ?_)
      refine lv_aload_n hx hb dX10_clock_115 rfl (lv_at hl 0 rfl) ?_
      refine g_I (C := RX10) (T := TX10) (N := 49) (ci := 10) 44 45 hx hb hts hown hK hP in_X10 rfl hcb okF_44_45 fl_145 dX10_clock_116 ?_
      refine lv_if_ge (tgt := 141) hx hb dX10_clock_119 (by decide) (fun c119 => ?_) (fun c119 => ?_)
      · replace h := if_t c119 h
        refine lv_aload_n hx hb dX10_clock_141 rfl (lv_at hl 0 rfl) ?_
        refine g_I (C := RX10) (T := TX10) (N := 49) (ci := 10) 44 43 hx hb hts hown hK hP in_X10 rfl hcb okF_44_43 fl_184 dX10_clock_142 ?_
        exact r_I hx hb hr hlocks hP hK hN hL hS h dX10_clock_145
      · replace h := if_f c119 h
        refine lv_aload_n hx hb dX10_clock_122 rfl (lv_at hl 0 rfl) ?_
        refine g_I (C := RX10) (T := TX10) (N := 49) (ci := 10) 44 43 hx hb hts hown hK hP in_X10 rfl hcb okF_44_43 fl_184 dX10_clock_123 ?_
        refine lv_aload_n hx hb dX10_clock_126 rfl (lv_at hl 0 rfl) ?_
        refine g_I (C := RX10) (T := TX10) (N := 49) (ci := 10) 44 44 hx hb hts hown hK hP in_X10 rfl hcb okF_44_44 fl_185 dX10_clock_127 ?_
        refine lv_icmp_eq (tgt := 141) hx hb dX10_clock_130 (by decide) (fun c130 => ?_) (fun c130 => ?_)
        · replace h := if_t c130 h
          refine lv_aload_n hx hb dX10_clock_141 rfl (lv_at hl 0 rfl) ?_
          refine g_I (C := RX10) (T := TX10) (N := 49) (ci := 10) 44 43 hx hb hts hown hK hP in_X10 rfl hcb okF_44_43 fl_184 dX10_clock_142 ?_
          exact r_I hx hb hr hlocks hP hK hN hL hS h dX10_clock_145
        · replace h := if_f c130 h
          refine lv_aload_n hx hb dX10_clock_133 rfl (lv_at hl 0 rfl) ?_
          refine lv_aload_n hx hb dX10_clock_134 rfl (lv_at hl 0 rfl) ?_
          refine g_I (C := RX10) (T := TX10) (N := 49) (ci := 10) 44 42 hx hb hts hown hK hP in_X10 rfl hcb okF_44_42 fl_144 dX10_clock_135 ?_
          obtain ⟨I138, eI138, h⟩ := lt_s1 h
          refine s_I (C := RX10) (T := TX10) (N := 49) (ci := 10) (ty := .int) 44 45 eI138 tyX10 hx hb hts hown hK hP hS in_X10 tyX10_ok nmX10 rfl hcb okF_44_45 fl_145 rfl (by decide +kernel) rfl rfl dX10_clock_138 (fun H locs hP hS => ?_)
          refine lv_aload_n hx hb dX10_clock_141 rfl (lv_at hl 0 rfl) ?_
          refine g_I (C := RX10) (T := TX10) (N := 49) (ci := 10) 44 43 hx hb hts hown hK hP in_X10 rfl hcb okF_44_43 fl_184 dX10_clock_142 ?_
          exact r_I hx hb hr hlocks hP hK hN hL hS h dX10_clock_145
  · replace h := if_f c34 h
    refine lv_aload_n hx hb dX10_clock_37 rfl (lv_at hl 0 rfl) ?_
    refine g_R (C := RX10) (T := TX10) (N := 49) (ci := 10) 44 0 45 hx hb hts hown hK hP in_X10 rfl hcb okF_44_0 rfc_44_0 fl_146 dX10_clock_38 ?_
    refine lv_iload_n hx hb dX10_clock_41 rfl (lv_at hl 3 rfl) ?_
    obtain ⟨hi42, h⟩ := if_s1 h
    refine a_I 45 hx hb hK hP hcb aln_45 hi42 dX10_clock_42 ?_
    refine lv_if_eq (tgt := 49) hx hb dX10_clock_43 (by decide) (fun c43 => ?_) (fun c43 => ?_)
    · replace h := if_t c43 h
      refine lv_aload_n hx hb dX10_clock_49 rfl (lv_at hl 0 rfl) ?_
      refine g_R (C := RX10) (T := TX10) (N := 49) (ci := 10) 44 39 71 hx hb hts hown hK hP in_X10 rfl hcb okF_44_39 rfc_44_39 fl_143 dX10_clock_50 ?_
      refine lv_iload_n hx hb dX10_clock_53 rfl (lv_at hl 3 rfl) ?_
      refine lv_iload_n hx hb dX10_clock_54 rfl (lv_at hl 1 rfl) ?_
      refine lv_iload_n hx hb dX10_clock_55 rfl (lv_at hl 2 rfl) ?_
      refine lv_ishr hx hb dX10_clock_56 ?_
      refine lv_iconst (v := (1 : Int32)) hx hb dX10_clock_57 (by decide) ?_
      refine lv_iand hx hb dX10_clock_58 ?_
      refine lv_iconst (v := (1 : Int32)) hx hb dX10_clock_59 (by decide) ?_
      refine lv_icmp_ne (tgt := 67) hx hb dX10_clock_60 (by decide) (fun c60 => ?_) (fun c60 => ?_)
      · replace h := if_f c60 h
        refine lv_iconst (v := (0 : Int32)) hx hb dX10_clock_67 (by decide) ?_
        exact wX10_clock_68 bs D y n k29_ r Gc hk29_ x1 x2 x3 x3 (0 : Int32) I J _ _ _ hP hS (lv_sub hl [0, 1, 2, 3] rfl) h
      · replace h := if_t c60 h
        refine lv_iconst (v := (1 : Int32)) hx hb dX10_clock_63 (by decide) ?_
        refine lv_goto (tgt := 68) hx hb dX10_clock_64 (by decide) ?_
        exact wX10_clock_68 bs D y n k29_ r Gc hk29_ x1 x2 x3 x3 (1 : Int32) I J _ _ _ hP hS (lv_sub hl [0, 1, 2, 3] rfl) h
    · replace h := if_f c43 h
      refine lv_goto (tgt := 84) hx hb dX10_clock_46 (by decide) ?_
      exact wX10_clock_84 bs D y n k29_ r Gc hk29_ x1 x2 x3 I J _ _ _ hP hS (lv_sub hl [0, 1, 2, 3] rfl) h
theorem vX10_clock_29 {p : Program} {l : Launch} {e : Env} {s : State} {m : MethodId} {args : Array Value} {below : List Frame} {meth : Method} {c : Code} (bs : Nat) (D : va_G) (y : Y3) (n : Nat) (r : Int32 × M2) (Gc : Gx p s m args meth c cX10_clock 4 RX10 bs D y (some .int) 76)  : ∀ (q : Nat) (x1 : Int32) (x2 : Int32) (x3 : Int32) (I : MI) (J : MJ) (H : Heap) (locs : List Loc) (ls : Array Slot), va_P D vwCl (wl bs y I J) H → va_S (FA bs) s.heap H locs → lv_has ls 4 [(0, .ref (bs + 44)), (1, .int x1), (2, .int x2), (3, .int x3)] → lX10_clock_29 n  q x1 x2 x3 I J = some r → W p l e (rmm 3 66) s m args below meth c H locs 0 0 (QI below args s bs D y r) (F0 m 29 ls []) := by
  intro q
  induction q with
  | zero =>
    intro x1 x2 x3 I J H locs ls hP hS hl h
    have h : (none : Option (Int32 × M2)) = some r := h
    cases h
  | succ q ih =>
    intro x1 x2 x3 I J H locs ls hP hS hl h
    have h : fX10_clock_29 n  (lX10_clock_29 n  q) x1 x2 x3 I J = some r := h
    exact wX10_clock_29 bs D y n  (lX10_clock_29 n  q) r Gc  ih x1 x2 x3 I J H locs ls hP hS hl h
set_option maxHeartbeats 4000000 in
set_option maxRecDepth 100000 in
theorem cX10_clock_ (l : Launch) (bs : Nat) (D : va_G) (y : Y3) (hcb : 76 ≤ y.2.2.2) (n : Nat) (x1 : Int32) (I : MI) (J : MJ) (r : Int32 × M2) (h : fX10_clock n x1 I J = some r) : Met l yX10_clock (.code yX10_clock cX10_clock 4 (some .int) :: gtb) (rmm 3 66) (va_Pc [.ref (bs + 44), .int x1] (HB bs D y I J)) (QcI bs D y r) 0 0 (FA bs) := by
  refine Met.ofW (cc := cX10_clock) (maxL := 4) (ret := (some .int)) (by decide) rfl ?_
  intro p e s m args below meth c s₁ B hml hv
  obtain ⟨rfl, hP, hK, hN, hL⟩ := hv
  have hx := B.exec
  have hb := B.bytes
  have hr := B.returns
  have hts0 := atoms_spec (ws := .code yX10_clock cX10_clock 4 (some .int) :: gtb) B.pre
  have hts : ∀ w ∈ gtb, w.before [.ref (bs + 44), .int x1].toArray s = true := fun w hw => hts0 w (List.mem_cons_of_mem _ hw)
  have hown : s.vm.findClass RX10 = some m.cls := findClass_of_methodNamed B.named
  have hlocks := B.notSynchronized
  have hS : va_S (FA bs) s.heap s.heap [] := va_S.rf
  have Gc : Gx p s m [.ref (bs + 44), .int x1].toArray meth c cX10_clock 4 RX10 bs D y (some .int) 76 := ⟨hx, hb, hml, hown, hts, hK, hN, hL, hr, hlocks, hcb⟩
  have hl := lv_entry [.ref (bs + 44), .int x1] (n := 4) (Nat.le_of_ble_eq_true rfl)
  rw [lg_entry_eq]
  generalize (lg_sl [.ref (bs + 44), .int x1] ++ List.replicate (4 - (lg_sl [.ref (bs + 44), .int x1]).length) Slot.unset).toArray = ls at hl ⊢
  have hl : lv_has ls 4 [(0, .ref (bs + 44)), (1, .int x1)] := hl
  change W p l e (rmm 3 66) s m [.ref (bs + 44), .int x1].toArray below meth c s.heap [] 0 0 (QI below [.ref (bs + 44), .int x1].toArray s bs D y r) (F0 m 0 ls [])
  unfold fX10_clock at h
  refine lv_iload_n hx hb dX10_clock_0 rfl (lv_at hl 1 rfl) ?_
  refine lv_i2l (v := (x1).toInt64) hx hb dX10_clock_1 rfl ?_
  refine lv_lconst (v := (0 : Int64)) hx hb dX10_clock_2 (by decide) ?_
  refine lv_iconst (v := (1 : Int32)) hx hb dX10_clock_3 (by decide) ?_
  refine lv_aload_n hx hb dX10_clock_4 rfl (lv_at hl 0 rfl) ?_
  refine g_I (C := RX10) (T := TX10) (N := 49) (ci := 10) 44 7 hx hb hts hown hK hP in_X10 rfl hcb okF_44_7 fl_155 dX10_clock_5 ?_
  refine lv_ishl hx hb dX10_clock_8 ?_
  refine lv_iconst (v := (1 : Int32)) hx hb dX10_clock_9 (by decide) ?_
  refine lv_isub hx hb dX10_clock_10 ?_
  refine lv_i2l (v := ((((1 : Int32) <<< ((I 44 7) &&& 31)) - (1 : Int32))).toInt64) hx hb dX10_clock_11 rfl ?_
  obtain ⟨r12, er12, h⟩ := bd_s1 h
  refine c_SI (As := [.long (x1).toInt64, .long (0 : Int64), .long ((((1 : Int32) <<< ((I 44 7) &&& 31)) - (1 : Int32))).toInt64]) (rest := []) hx hb hml hown hts hK hN hL hP hS (cX10_isIn_ l bs D y hcb n (x1).toInt64 (0 : Int64) ((((1 : Int32) <<< ((I 44 7) &&& 31)) - (1 : Int32))).toInt64 I J r12 er12) ok_X10_isIn ov_X10_isIn ml_120 ⟨Nat.le_of_ble_eq_true rfl, Nat.le_of_ble_eq_true rfl⟩ hl.1 rfl rfl (Nat.le_of_ble_eq_true rfl) ⟨Nat.zero_le _, Nat.zero_le _⟩ dX10_clock_12 (fun H locs hP hS => ?_)
  refine lv_if_ne (tgt := 25) hx hb dX10_clock_15 (by decide) (fun c15 => ?_) (fun c15 => ?_)
  · replace h := if_f c15 h
    refine lv_iconst (v := (0 : Int32)) hx hb dX10_clock_25 (by decide) ?_
    refine lv_istore_n (lv' := [(2, .int (0 : Int32)), (0, .ref (bs + 44)), (1, .int x1)]) hx hb dX10_clock_26 rfl hl (by decide) rfl (fun ls hl => ?_)
    refine lv_iconst (v := (0 : Int32)) hx hb dX10_clock_27 (by decide) ?_
    refine lv_istore_n (lv' := [(3, .int (0 : Int32)), (2, .int (0 : Int32)), (0, .ref (bs + 44)), (1, .int x1)]) hx hb dX10_clock_28 rfl hl (by decide) rfl (fun ls hl => ?_)
    exact vX10_clock_29 bs D y n  r Gc  n x1 (0 : Int32) (0 : Int32) r12.2.1 r12.2.2 _ _ _ hP hS (lv_sub hl [2, 3, 1, 0] rfl) h
  · replace h := if_t c15 h
    refine lv_aload_n hx hb dX10_clock_18 rfl (lv_at hl 0 rfl) ?_
    refine lv_bipush (v := (-3 : Int32)) hx hb dX10_clock_19 (by decide) ?_
    obtain ⟨r21, er21, h⟩ := bd_s1 h
    refine c_VI (k := 44) (ci := 10) (As := [.int (-3 : Int32)]) (rest := []) hx hb hml hown hts hK hN hL hP hS (cX10_no_ l bs D y hcb n (-3 : Int32) r12.2.1 r12.2.2 r21 er21) ok_X10_no ov_X10_no ml_118 ⟨Nat.le_of_ble_eq_true rfl, Nat.le_of_ble_eq_true rfl⟩ rfl hcb kd_44 hl.1 rfl rfl (Nat.le_of_ble_eq_true rfl) ⟨Nat.zero_le _, Nat.zero_le _⟩ dX10_clock_21 (fun H locs hP hS => ?_)
    exact r_I hx hb hr hlocks hP hK hN hL hS h dX10_clock_24
theorem dX10_told_0 : decode cX10_told 0 = .ok (.iload_n 1, 1) := by decide +kernel
theorem dX10_told_1 : decode cX10_told 1 = .ok (.i2l, 1) := by decide +kernel
theorem dX10_told_2 : decode cX10_told 2 = .ok (.lconst 0, 1) := by decide +kernel
theorem dX10_told_3 : decode cX10_told 3 = .ok (.ldc2_w 178, 3) := by decide +kernel
theorem dX10_told_6 : decode cX10_told 6 = .ok (.invokestatic 164, 3) := by decide +kernel
theorem dX10_told_9 : decode cX10_told 9 = .ok (.ifCond .ne 10, 3) := by decide +kernel
theorem dX10_told_12 : decode cX10_told 12 = .ok (.aload_n 0, 1) := by decide +kernel
theorem dX10_told_13 : decode cX10_told 13 = .ok (.bipush (-7), 2) := by decide +kernel
theorem dX10_told_15 : decode cX10_told 15 = .ok (.invokevirtual 151, 3) := by decide +kernel
theorem dX10_told_18 : decode cX10_told 18 = .ok (.ireturn, 1) := by decide +kernel
theorem dX10_told_19 : decode cX10_told 19 = .ok (.iload_n 1, 1) := by decide +kernel
theorem dX10_told_20 : decode cX10_told 20 = .ok (.iconst 2, 1) := by decide +kernel
theorem dX10_told_21 : decode cX10_told 21 = .ok (.if_icmp .ge 10, 3) := by decide +kernel
theorem dX10_told_24 : decode cX10_told 24 = .ok (.aload_n 0, 1) := by decide +kernel
theorem dX10_told_25 : decode cX10_told 25 = .ok (.getfield 325, 3) := by decide +kernel
theorem dX10_told_28 : decode cX10_told 28 = .ok (.ifCond .eq 17, 3) := by decide +kernel
theorem dX10_told_31 : decode cX10_told 31 = .ok (.iload_n 1, 1) := by decide +kernel
theorem dX10_told_32 : decode cX10_told 32 = .ok (.iconst 2, 1) := by decide +kernel
theorem dX10_told_33 : decode cX10_told 33 = .ok (.irem, 1) := by decide +kernel
theorem dX10_told_34 : decode cX10_told 34 = .ok (.iconst 1, 1) := by decide +kernel
theorem dX10_told_35 : decode cX10_told 35 = .ok (.if_icmp .ne 17, 3) := by decide +kernel
theorem dX10_told_38 : decode cX10_told 38 = .ok (.aload_n 0, 1) := by decide +kernel
theorem dX10_told_39 : decode cX10_told 39 = .ok (.getfield 136, 3) := by decide +kernel
theorem dX10_told_42 : decode cX10_told 42 = .ok (.ifCond .ne 10, 3) := by decide +kernel
theorem dX10_told_45 : decode cX10_told 45 = .ok (.aload_n 0, 1) := by decide +kernel
theorem dX10_told_46 : decode cX10_told 46 = .ok (.bipush (-2), 2) := by decide +kernel
theorem dX10_told_48 : decode cX10_told 48 = .ok (.invokevirtual 151, 3) := by decide +kernel
theorem dX10_told_51 : decode cX10_told 51 = .ok (.ireturn, 1) := by decide +kernel
theorem dX10_told_52 : decode cX10_told 52 = .ok (.iload_n 1, 1) := by decide +kernel
theorem dX10_told_53 : decode cX10_told 53 = .ok (.ifCond .ne 10, 3) := by decide +kernel
theorem dX10_told_56 : decode cX10_told 56 = .ok (.aload_n 0, 1) := by decide +kernel
theorem dX10_told_57 : decode cX10_told 57 = .ok (.getfield 335, 3) := by decide +kernel
theorem dX10_told_60 : decode cX10_told 60 = .ok (.goto 31, 3) := by decide +kernel
theorem dX10_told_63 : decode cX10_told 63 = .ok (.iload_n 1, 1) := by decide +kernel
theorem dX10_told_64 : decode cX10_told 64 = .ok (.iconst 1, 1) := by decide +kernel
theorem dX10_told_65 : decode cX10_told 65 = .ok (.if_icmp .ne 10, 3) := by decide +kernel
theorem dX10_told_68 : decode cX10_told 68 = .ok (.aload_n 0, 1) := by decide +kernel
theorem dX10_told_69 : decode cX10_told 69 = .ok (.getfield 341, 3) := by decide +kernel
theorem dX10_told_72 : decode cX10_told 72 = .ok (.goto 19, 3) := by decide +kernel
theorem dX10_told_75 : decode cX10_told 75 = .ok (.iload_n 1, 1) := by decide +kernel
theorem dX10_told_76 : decode cX10_told 76 = .ok (.iconst 2, 1) := by decide +kernel
theorem dX10_told_77 : decode cX10_told 77 = .ok (.if_icmp .ne 10, 3) := by decide +kernel
theorem dX10_told_80 : decode cX10_told 80 = .ok (.aload_n 0, 1) := by decide +kernel
theorem dX10_told_81 : decode cX10_told 81 = .ok (.getfield 325, 3) := by decide +kernel
theorem dX10_told_84 : decode cX10_told 84 = .ok (.goto 7, 3) := by decide +kernel
theorem dX10_told_87 : decode cX10_told 87 = .ok (.aload_n 0, 1) := by decide +kernel
theorem dX10_told_88 : decode cX10_told 88 = .ok (.getfield 111, 3) := by decide +kernel
theorem dX10_told_91 : decode cX10_told 91 = .ok (.ireturn, 1) := by decide +kernel
set_option maxHeartbeats 4000000 in
set_option maxRecDepth 100000 in
theorem wX10_told_52 {p : Program} {l : Launch} {e : Env} {s : State} {m : MethodId} {args : Array Value} {below : List Frame} {meth : Method} {c : Code} (bs : Nat) (D : va_G) (y : Y3) (n : Nat) (r : Int32 × M2) (Gc : Gx p s m args meth c cX10_told 2 RX10 bs D y (some .int) 76)  (x1 : Int32) (I : MI) (J : MJ) (H : Heap) (locs : List Loc) (ls : Array Slot) (hP : va_P D vwCl (wl bs y I J) H) (hS : va_S (FA bs) s.heap H locs) (hl : lv_has ls 2 [(0, .ref (bs + 44)), (1, .int x1)]) (h : fX10_told_52 n  x1 I J = some r) : W p l e (rmm 1 25) s m args below meth c H locs 0 0 (QI below args s bs D y r) (F0 m 52 ls []) := by
  obtain ⟨hx, hb, hml, hown, hts, hK, hN, hL, hr, hlocks, hcb⟩ := id Gc
  unfold fX10_told_52 at h
  refine lv_iload_n hx hb dX10_told_52 rfl (lv_at hl 1 rfl) ?_
  refine lv_if_ne (tgt := 63) hx hb dX10_told_53 (by decide) (fun c53 => ?_) (fun c53 => ?_)
  · replace h := if_f c53 h
    refine lv_iload_n hx hb dX10_told_63 rfl (lv_at hl 1 rfl) ?_
    refine lv_iconst (v := (1 : Int32)) hx hb dX10_told_64 (by decide) ?_
    refine lv_icmp_ne (tgt := 75) hx hb dX10_told_65 (by decide) (fun c65 => ?_) (fun c65 => ?_)
    · replace h := if_f c65 h
      refine lv_iload_n hx hb dX10_told_75 rfl (lv_at hl 1 rfl) ?_
      refine lv_iconst (v := (2 : Int32)) hx hb dX10_told_76 (by decide) ?_
      refine lv_icmp_ne (tgt := 87) hx hb dX10_told_77 (by decide) (fun c77 => ?_) (fun c77 => ?_)
      · replace h := if_f c77 h
        refine lv_aload_n hx hb dX10_told_87 rfl (lv_at hl 0 rfl) ?_
        refine g_I (C := RX10) (T := TX10) (N := 49) (ci := 10) 44 45 hx hb hts hown hK hP in_X10 rfl hcb okF_44_45 fl_145 dX10_told_88 ?_
        exact r_I hx hb hr hlocks hP hK hN hL hS h dX10_told_91
      · replace h := if_t c77 h
        refine lv_aload_n hx hb dX10_told_80 rfl (lv_at hl 0 rfl) ?_
        refine g_I (C := RX10) (T := TX10) (N := 49) (ci := 10) 44 42 hx hb hts hown hK hP in_X10 rfl hcb okF_44_42 fl_144 dX10_told_81 ?_
        refine lv_goto (tgt := 91) hx hb dX10_told_84 (by decide) ?_
        exact r_I hx hb hr hlocks hP hK hN hL hS h dX10_told_91
    · replace h := if_t c65 h
      refine lv_aload_n hx hb dX10_told_68 rfl (lv_at hl 0 rfl) ?_
      refine g_I (C := RX10) (T := TX10) (N := 49) (ci := 10) 44 44 hx hb hts hown hK hP in_X10 rfl hcb okF_44_44 fl_185 dX10_told_69 ?_
      refine lv_goto (tgt := 91) hx hb dX10_told_72 (by decide) ?_
      exact r_I hx hb hr hlocks hP hK hN hL hS h dX10_told_91
  · replace h := if_t c53 h
    refine lv_aload_n hx hb dX10_told_56 rfl (lv_at hl 0 rfl) ?_
    refine g_I (C := RX10) (T := TX10) (N := 49) (ci := 10) 44 43 hx hb hts hown hK hP in_X10 rfl hcb okF_44_43 fl_184 dX10_told_57 ?_
    refine lv_goto (tgt := 91) hx hb dX10_told_60 (by decide) ?_
    exact r_I hx hb hr hlocks hP hK hN hL hS h dX10_told_91
set_option maxHeartbeats 4000000 in
set_option maxRecDepth 100000 in
theorem wX10_told_45 {p : Program} {l : Launch} {e : Env} {s : State} {m : MethodId} {args : Array Value} {below : List Frame} {meth : Method} {c : Code} (bs : Nat) (D : va_G) (y : Y3) (n : Nat) (r : Int32 × M2) (Gc : Gx p s m args meth c cX10_told 2 RX10 bs D y (some .int) 76)  (I : MI) (J : MJ) (H : Heap) (locs : List Loc) (ls : Array Slot) (hP : va_P D vwCl (wl bs y I J) H) (hS : va_S (FA bs) s.heap H locs) (hl : lv_has ls 2 [(0, .ref (bs + 44))]) (h : fX10_told_45 n   I J = some r) : W p l e (rmm 1 25) s m args below meth c H locs 0 0 (QI below args s bs D y r) (F0 m 45 ls []) := by
  obtain ⟨hx, hb, hml, hown, hts, hK, hN, hL, hr, hlocks, hcb⟩ := id Gc
  unfold fX10_told_45 at h
  refine lv_aload_n hx hb dX10_told_45 rfl (lv_at hl 0 rfl) ?_
  refine lv_bipush (v := (-2 : Int32)) hx hb dX10_told_46 (by decide) ?_
  obtain ⟨r48, er48, h⟩ := bd_s1 h
  refine c_VI (k := 44) (ci := 10) (As := [.int (-2 : Int32)]) (rest := []) hx hb hml hown hts hK hN hL hP hS (cX10_no_ l bs D y hcb n (-2 : Int32) I J r48 er48) ok_X10_no ov_X10_no ml_118 ⟨Nat.le_of_ble_eq_true rfl, Nat.le_of_ble_eq_true rfl⟩ rfl hcb kd_44 hl.1 rfl rfl (Nat.le_of_ble_eq_true rfl) ⟨Nat.zero_le _, Nat.zero_le _⟩ dX10_told_48 (fun H locs hP hS => ?_)
  exact r_I hx hb hr hlocks hP hK hN hL hS h dX10_told_51
set_option maxHeartbeats 4000000 in
set_option maxRecDepth 100000 in
theorem wX10_told_31 {p : Program} {l : Launch} {e : Env} {s : State} {m : MethodId} {args : Array Value} {below : List Frame} {meth : Method} {c : Code} (bs : Nat) (D : va_G) (y : Y3) (n : Nat) (r : Int32 × M2) (Gc : Gx p s m args meth c cX10_told 2 RX10 bs D y (some .int) 76)  (x1 : Int32) (I : MI) (J : MJ) (H : Heap) (locs : List Loc) (ls : Array Slot) (hP : va_P D vwCl (wl bs y I J) H) (hS : va_S (FA bs) s.heap H locs) (hl : lv_has ls 2 [(0, .ref (bs + 44)), (1, .int x1)]) (h : fX10_told_31 n  x1 I J = some r) : W p l e (rmm 1 25) s m args below meth c H locs 0 0 (QI below args s bs D y r) (F0 m 31 ls []) := by
  obtain ⟨hx, hb, hml, hown, hts, hK, hN, hL, hr, hlocks, hcb⟩ := id Gc
  unfold fX10_told_31 at h
  refine lv_iload_n hx hb dX10_told_31 rfl (lv_at hl 1 rfl) ?_
  refine lv_iconst (v := (2 : Int32)) hx hb dX10_told_32 (by decide) ?_
  refine lv_irem hx hb dX10_told_33 (by decide) ?_
  refine lv_iconst (v := (1 : Int32)) hx hb dX10_told_34 (by decide) ?_
  refine lv_icmp_ne (tgt := 52) hx hb dX10_told_35 (by decide) (fun c35 => ?_) (fun c35 => ?_)
  · replace h := if_f c35 h
    exact wX10_told_52 bs D y n  r Gc  x1 I J _ _ _ hP hS (lv_sub hl [0, 1] rfl) h
  · replace h := if_t c35 h
    refine lv_aload_n hx hb dX10_told_38 rfl (lv_at hl 0 rfl) ?_
    refine g_I (C := RX10) (T := TX10) (N := 49) (ci := 10) 44 14 hx hb hts hown hK hP in_X10 rfl hcb okF_44_14 fl_151 dX10_told_39 ?_
    refine lv_if_ne (tgt := 52) hx hb dX10_told_42 (by decide) (fun c42 => ?_) (fun c42 => ?_)
    · replace h := if_f c42 h
      exact wX10_told_52 bs D y n  r Gc  x1 I J _ _ _ hP hS (lv_sub hl [0, 1] rfl) h
    · replace h := if_t c42 h
      exact wX10_told_45 bs D y n  r Gc   I J _ _ _ hP hS (lv_sub hl [0] rfl) h
set_option maxHeartbeats 4000000 in
set_option maxRecDepth 100000 in
theorem cX10_told_ (l : Launch) (bs : Nat) (D : va_G) (y : Y3) (hcb : 76 ≤ y.2.2.2) (n : Nat) (x1 : Int32) (I : MI) (J : MJ) (r : Int32 × M2) (h : fX10_told n x1 I J = some r) : Met l yX10_told (.code yX10_told cX10_told 2 (some .int) :: gtb) (rmm 1 25) (va_Pc [.ref (bs + 44), .int x1] (HB bs D y I J)) (QcI bs D y r) 0 0 (FA bs) := by
  refine Met.ofW (cc := cX10_told) (maxL := 2) (ret := (some .int)) (by decide) rfl ?_
  intro p e s m args below meth c s₁ B hml hv
  obtain ⟨rfl, hP, hK, hN, hL⟩ := hv
  have hx := B.exec
  have hb := B.bytes
  have hr := B.returns
  have hts0 := atoms_spec (ws := .code yX10_told cX10_told 2 (some .int) :: gtb) B.pre
  have hts : ∀ w ∈ gtb, w.before [.ref (bs + 44), .int x1].toArray s = true := fun w hw => hts0 w (List.mem_cons_of_mem _ hw)
  have hown : s.vm.findClass RX10 = some m.cls := findClass_of_methodNamed B.named
  have hlocks := B.notSynchronized
  have hS : va_S (FA bs) s.heap s.heap [] := va_S.rf
  have Gc : Gx p s m [.ref (bs + 44), .int x1].toArray meth c cX10_told 2 RX10 bs D y (some .int) 76 := ⟨hx, hb, hml, hown, hts, hK, hN, hL, hr, hlocks, hcb⟩
  have hl := lv_entry [.ref (bs + 44), .int x1] (n := 2) (Nat.le_of_ble_eq_true rfl)
  rw [lg_entry_eq]
  generalize (lg_sl [.ref (bs + 44), .int x1] ++ List.replicate (2 - (lg_sl [.ref (bs + 44), .int x1]).length) Slot.unset).toArray = ls at hl ⊢
  have hl : lv_has ls 2 [(0, .ref (bs + 44)), (1, .int x1)] := hl
  change W p l e (rmm 1 25) s m [.ref (bs + 44), .int x1].toArray below meth c s.heap [] 0 0 (QI below [.ref (bs + 44), .int x1].toArray s bs D y r) (F0 m 0 ls [])
  unfold fX10_told at h
  refine lv_iload_n hx hb dX10_told_0 rfl (lv_at hl 1 rfl) ?_
  refine lv_i2l (v := (x1).toInt64) hx hb dX10_told_1 rfl ?_
  refine lv_lconst (v := (0 : Int64)) hx hb dX10_told_2 (by decide) ?_
  refine lv_ldc2 hx hb hown (hts _ cl_10) dX10_told_3 ?_
  obtain ⟨r6, er6, h⟩ := bd_s1 h
  refine c_SI (As := [.long (x1).toInt64, .long (0 : Int64), .long (3 : Int64)]) (rest := []) hx hb hml hown hts hK hN hL hP hS (cX10_isIn_ l bs D y hcb n (x1).toInt64 (0 : Int64) (3 : Int64) I J r6 er6) ok_X10_isIn ov_X10_isIn ml_120 ⟨Nat.le_of_ble_eq_true rfl, Nat.le_of_ble_eq_true rfl⟩ hl.1 rfl rfl (Nat.le_of_ble_eq_true rfl) ⟨Nat.zero_le _, Nat.zero_le _⟩ dX10_told_6 (fun H locs hP hS => ?_)
  refine lv_if_ne (tgt := 19) hx hb dX10_told_9 (by decide) (fun c9 => ?_) (fun c9 => ?_)
  · replace h := if_f c9 h
    refine lv_iload_n hx hb dX10_told_19 rfl (lv_at hl 1 rfl) ?_
    refine lv_iconst (v := (2 : Int32)) hx hb dX10_told_20 (by decide) ?_
    refine lv_icmp_ge (tgt := 31) hx hb dX10_told_21 (by decide) (fun c21 => ?_) (fun c21 => ?_)
    · replace h := if_t c21 h
      exact wX10_told_31 bs D y n  r Gc  x1 r6.2.1 r6.2.2 _ _ _ hP hS (lv_sub hl [0, 1] rfl) h
    · replace h := if_f c21 h
      refine lv_aload_n hx hb dX10_told_24 rfl (lv_at hl 0 rfl) ?_
      refine g_I (C := RX10) (T := TX10) (N := 49) (ci := 10) 44 42 hx hb hts hown hK hP in_X10 rfl hcb okF_44_42 fl_144 dX10_told_25 ?_
      refine lv_if_eq (tgt := 45) hx hb dX10_told_28 (by decide) (fun c28 => ?_) (fun c28 => ?_)
      · replace h := if_t c28 h
        exact wX10_told_45 bs D y n  r Gc   r6.2.1 r6.2.2 _ _ _ hP hS (lv_sub hl [0] rfl) h
      · replace h := if_f c28 h
        exact wX10_told_31 bs D y n  r Gc  x1 r6.2.1 r6.2.2 _ _ _ hP hS (lv_sub hl [0, 1] rfl) h
  · replace h := if_t c9 h
    refine lv_aload_n hx hb dX10_told_12 rfl (lv_at hl 0 rfl) ?_
    refine lv_bipush (v := (-7 : Int32)) hx hb dX10_told_13 (by decide) ?_
    obtain ⟨r15, er15, h⟩ := bd_s1 h
    refine c_VI (k := 44) (ci := 10) (As := [.int (-7 : Int32)]) (rest := []) hx hb hml hown hts hK hN hL hP hS (cX10_no_ l bs D y hcb n (-7 : Int32) r6.2.1 r6.2.2 r15 er15) ok_X10_no ov_X10_no ml_118 ⟨Nat.le_of_ble_eq_true rfl, Nat.le_of_ble_eq_true rfl⟩ rfl hcb kd_44 hl.1 rfl rfl (Nat.le_of_ble_eq_true rfl) ⟨Nat.zero_le _, Nat.zero_le _⟩ dX10_told_15 (fun H locs hP hS => ?_)
    exact r_I hx hb hr hlocks hP hK hN hL hS h dX10_told_18
theorem dX10_lay_0 : decode cX10_lay 0 = .ok (.aload_n 0, 1) := by decide +kernel
theorem dX10_lay_1 : decode cX10_lay 1 = .ok (.iload_n 1, 1) := by decide +kernel
theorem dX10_lay_2 : decode cX10_lay 2 = .ok (.invokevirtual 233, 3) := by decide +kernel
theorem dX10_lay_5 : decode cX10_lay 5 = .ok (.ifCond .ne 10, 3) := by decide +kernel
theorem dX10_lay_8 : decode cX10_lay 8 = .ok (.aload_n 0, 1) := by decide +kernel
theorem dX10_lay_9 : decode cX10_lay 9 = .ok (.bipush (-3), 2) := by decide +kernel
theorem dX10_lay_11 : decode cX10_lay 11 = .ok (.invokevirtual 151, 3) := by decide +kernel
theorem dX10_lay_14 : decode cX10_lay 14 = .ok (.ireturn, 1) := by decide +kernel
theorem dX10_lay_15 : decode cX10_lay 15 = .ok (.aload_n 0, 1) := by decide +kernel
theorem dX10_lay_16 : decode cX10_lay 16 = .ok (.getfield 136, 3) := by decide +kernel
theorem dX10_lay_19 : decode cX10_lay 19 = .ok (.ifCond .ne 10, 3) := by decide +kernel
theorem dX10_lay_22 : decode cX10_lay 22 = .ok (.aload_n 0, 1) := by decide +kernel
theorem dX10_lay_23 : decode cX10_lay 23 = .ok (.bipush (-2), 2) := by decide +kernel
theorem dX10_lay_25 : decode cX10_lay 25 = .ok (.invokevirtual 151, 3) := by decide +kernel
theorem dX10_lay_28 : decode cX10_lay 28 = .ok (.ireturn, 1) := by decide +kernel
theorem dX10_lay_29 : decode cX10_lay 29 = .ok (.aload_n 0, 1) := by decide +kernel
theorem dX10_lay_30 : decode cX10_lay 30 = .ok (.aload_n 0, 1) := by decide +kernel
theorem dX10_lay_31 : decode cX10_lay 31 = .ok (.getfield 96, 3) := by decide +kernel
theorem dX10_lay_34 : decode cX10_lay 34 = .ok (.iload_n 1, 1) := by decide +kernel
theorem dX10_lay_35 : decode cX10_lay 35 = .ok (.iaload, 1) := by decide +kernel
theorem dX10_lay_36 : decode cX10_lay 36 = .ok (.putfield 120, 3) := by decide +kernel
theorem dX10_lay_39 : decode cX10_lay 39 = .ok (.iconst 0, 1) := by decide +kernel
theorem dX10_lay_40 : decode cX10_lay 40 = .ok (.istore_n 2, 1) := by decide +kernel
theorem dX10_lay_41 : decode cX10_lay 41 = .ok (.iload_n 2, 1) := by decide +kernel
theorem dX10_lay_42 : decode cX10_lay 42 = .ok (.aload_n 0, 1) := by decide +kernel
theorem dX10_lay_43 : decode cX10_lay 43 = .ok (.getfield 120, 3) := by decide +kernel
theorem dX10_lay_46 : decode cX10_lay 46 = .ok (.if_icmp .ge 26, 3) := by decide +kernel
theorem dX10_lay_49 : decode cX10_lay 49 = .ok (.aload_n 0, 1) := by decide +kernel
theorem dX10_lay_50 : decode cX10_lay 50 = .ok (.getfield 114, 3) := by decide +kernel
theorem dX10_lay_53 : decode cX10_lay 53 = .ok (.iload_n 2, 1) := by decide +kernel
theorem dX10_lay_54 : decode cX10_lay 54 = .ok (.aload_n 0, 1) := by decide +kernel
theorem dX10_lay_55 : decode cX10_lay 55 = .ok (.getfield 93, 3) := by decide +kernel
theorem dX10_lay_58 : decode cX10_lay 58 = .ok (.bipush 40, 2) := by decide +kernel
theorem dX10_lay_60 : decode cX10_lay 60 = .ok (.iload_n 1, 1) := by decide +kernel
theorem dX10_lay_61 : decode cX10_lay 61 = .ok (.imul, 1) := by decide +kernel
theorem dX10_lay_62 : decode cX10_lay 62 = .ok (.iload_n 2, 1) := by decide +kernel
theorem dX10_lay_63 : decode cX10_lay 63 = .ok (.iadd, 1) := by decide +kernel
theorem dX10_lay_64 : decode cX10_lay 64 = .ok (.iaload, 1) := by decide +kernel
theorem dX10_lay_65 : decode cX10_lay 65 = .ok (.iastore, 1) := by decide +kernel
theorem dX10_lay_66 : decode cX10_lay 66 = .ok (.iinc 2 1, 3) := by decide +kernel
theorem dX10_lay_69 : decode cX10_lay 69 = .ok (.goto (-28), 3) := by decide +kernel
theorem dX10_lay_72 : decode cX10_lay 72 = .ok (.aload_n 0, 1) := by decide +kernel
theorem dX10_lay_73 : decode cX10_lay 73 = .ok (.getfield 120, 3) := by decide +kernel
theorem dX10_lay_76 : decode cX10_lay 76 = .ok (.ireturn, 1) := by decide +kernel
set_option maxHeartbeats 4000000 in
set_option maxRecDepth 100000 in
theorem wX10_lay_41 {p : Program} {l : Launch} {e : Env} {s : State} {m : MethodId} {args : Array Value} {below : List Frame} {meth : Method} {c : Code} (bs : Nat) (D : va_G) (y : Y3) (n : Nat) (k41_ : Int32 → Int32 → MI → MJ → Option (Int32 × M2)) (r : Int32 × M2) (Gc : Gx p s m args meth c cX10_lay 3 RX10 bs D y (some .int) 76) (hk41_ : ∀ (x1 : Int32) (x2 : Int32) (I : MI) (J : MJ) (H : Heap) (locs : List Loc) (ls : Array Slot), va_P D vwCl (wl bs y I J) H → va_S (FA bs) s.heap H locs → lv_has ls 3 [(0, .ref (bs + 44)), (1, .int x1), (2, .int x2)] → k41_ x1 x2 I J = some r → W p l e (rmm 2 41) s m args below meth c H locs 0 0 (QI below args s bs D y r) (F0 m 41 ls [])) (x1 : Int32) (x2 : Int32) (I : MI) (J : MJ) (H : Heap) (locs : List Loc) (ls : Array Slot) (hP : va_P D vwCl (wl bs y I J) H) (hS : va_S (FA bs) s.heap H locs) (hl : lv_has ls 3 [(0, .ref (bs + 44)), (1, .int x1), (2, .int x2)]) (h : fX10_lay_41 n k41_ x1 x2 I J = some r) : W p l e (rmm 2 41) s m args below meth c H locs 0 0 (QI below args s bs D y r) (F0 m 41 ls []) := by
  obtain ⟨hx, hb, hml, hown, hts, hK, hN, hL, hr, hlocks, hcb⟩ := id Gc
  unfold fX10_lay_41 at h
  refine lv_iload_n hx hb dX10_lay_41 rfl (lv_at hl 2 rfl) ?_
  refine lv_aload_n hx hb dX10_lay_42 rfl (lv_at hl 0 rfl) ?_
  refine g_I (C := RX10) (T := TX10) (N := 49) (ci := 10) 44 48 hx hb hts hown hK hP in_X10 rfl hcb okF_44_48 fl_186 dX10_lay_43 ?_
  refine lv_icmp_ge (tgt := 72) hx hb dX10_lay_46 (by decide) (fun c46 => ?_) (fun c46 => ?_)
  · replace h := if_t c46 h
    refine lv_aload_n hx hb dX10_lay_72 rfl (lv_at hl 0 rfl) ?_
    refine g_I (C := RX10) (T := TX10) (N := 49) (ci := 10) 44 48 hx hb hts hown hK hP in_X10 rfl hcb okF_44_48 fl_186 dX10_lay_73 ?_
    exact r_I hx hb hr hlocks hP hK hN hL hS h dX10_lay_76
  · replace h := if_f c46 h
    refine lv_aload_n hx hb dX10_lay_49 rfl (lv_at hl 0 rfl) ?_
    refine g_R (C := RX10) (T := TX10) (N := 49) (ci := 10) 44 46 74 hx hb hts hown hK hP in_X10 rfl hcb okF_44_46 rfc_44_46 fl_187 dX10_lay_50 ?_
    refine lv_iload_n hx hb dX10_lay_53 rfl (lv_at hl 2 rfl) ?_
    refine lv_aload_n hx hb dX10_lay_54 rfl (lv_at hl 0 rfl) ?_
    refine g_R (C := RX10) (T := TX10) (N := 49) (ci := 10) 44 36 68 hx hb hts hown hK hP in_X10 rfl hcb okF_44_36 rfc_44_36 fl_180 dX10_lay_55 ?_
    refine lv_bipush (v := (40 : Int32)) hx hb dX10_lay_58 (by decide) ?_
    refine lv_iload_n hx hb dX10_lay_60 rfl (lv_at hl 1 rfl) ?_
    refine lv_imul hx hb dX10_lay_61 ?_
    refine lv_iload_n hx hb dX10_lay_62 rfl (lv_at hl 2 rfl) ?_
    refine lv_iadd hx hb dX10_lay_63 ?_
    obtain ⟨hi64, h⟩ := if_s1 h
    refine a_I 68 hx hb hK hP hcb aln_68 hi64 dX10_lay_64 ?_
    obtain ⟨hi65, h⟩ := if_s1 h
    obtain ⟨I65, eI65, h⟩ := lt_s1 h
    refine t_I 74 eI65 hx hb hK hP hS hcb aln_74 hi65 dX10_lay_65 (fun H locs hP hS => ?_)
    refine lv_iinc (v := (x2 + (1 : Int32))) (lv' := [(2, .int (x2 + (1 : Int32))), (0, .ref (bs + 44)), (1, .int x1)]) hx hb dX10_lay_66 hl (k := 2) rfl rfl (by decide) rfl (fun ls hl => ?_)
    refine lv_goto (tgt := 41) hx hb dX10_lay_69 (by decide) ?_
    exact hk41_ x1 (x2 + (1 : Int32)) I65 J _ _ _ hP hS (lv_sub hl [1, 2, 0] rfl) h
theorem vX10_lay_41 {p : Program} {l : Launch} {e : Env} {s : State} {m : MethodId} {args : Array Value} {below : List Frame} {meth : Method} {c : Code} (bs : Nat) (D : va_G) (y : Y3) (n : Nat) (r : Int32 × M2) (Gc : Gx p s m args meth c cX10_lay 3 RX10 bs D y (some .int) 76)  : ∀ (q : Nat) (x1 : Int32) (x2 : Int32) (I : MI) (J : MJ) (H : Heap) (locs : List Loc) (ls : Array Slot), va_P D vwCl (wl bs y I J) H → va_S (FA bs) s.heap H locs → lv_has ls 3 [(0, .ref (bs + 44)), (1, .int x1), (2, .int x2)] → lX10_lay_41 n  q x1 x2 I J = some r → W p l e (rmm 2 41) s m args below meth c H locs 0 0 (QI below args s bs D y r) (F0 m 41 ls []) := by
  intro q
  induction q with
  | zero =>
    intro x1 x2 I J H locs ls hP hS hl h
    have h : (none : Option (Int32 × M2)) = some r := h
    cases h
  | succ q ih =>
    intro x1 x2 I J H locs ls hP hS hl h
    have h : fX10_lay_41 n  (lX10_lay_41 n  q) x1 x2 I J = some r := h
    exact wX10_lay_41 bs D y n  (lX10_lay_41 n  q) r Gc  ih x1 x2 I J H locs ls hP hS hl h
set_option maxHeartbeats 4000000 in
set_option maxRecDepth 100000 in
theorem cX10_lay_ (l : Launch) (bs : Nat) (D : va_G) (y : Y3) (hcb : 76 ≤ y.2.2.2) (n : Nat) (x1 : Int32) (I : MI) (J : MJ) (r : Int32 × M2) (h : fX10_lay n x1 I J = some r) : Met l yX10_lay (.code yX10_lay cX10_lay 3 (some .int) :: gtb) (rmm 2 41) (va_Pc [.ref (bs + 44), .int x1] (HB bs D y I J)) (QcI bs D y r) 0 0 (FA bs) := by
  refine Met.ofW (cc := cX10_lay) (maxL := 3) (ret := (some .int)) (by decide) rfl ?_
  intro p e s m args below meth c s₁ B hml hv
  obtain ⟨rfl, hP, hK, hN, hL⟩ := hv
  have hx := B.exec
  have hb := B.bytes
  have hr := B.returns
  have hts0 := atoms_spec (ws := .code yX10_lay cX10_lay 3 (some .int) :: gtb) B.pre
  have hts : ∀ w ∈ gtb, w.before [.ref (bs + 44), .int x1].toArray s = true := fun w hw => hts0 w (List.mem_cons_of_mem _ hw)
  have hown : s.vm.findClass RX10 = some m.cls := findClass_of_methodNamed B.named
  have hlocks := B.notSynchronized
  have hS : va_S (FA bs) s.heap s.heap [] := va_S.rf
  have Gc : Gx p s m [.ref (bs + 44), .int x1].toArray meth c cX10_lay 3 RX10 bs D y (some .int) 76 := ⟨hx, hb, hml, hown, hts, hK, hN, hL, hr, hlocks, hcb⟩
  have hl := lv_entry [.ref (bs + 44), .int x1] (n := 3) (Nat.le_of_ble_eq_true rfl)
  rw [lg_entry_eq]
  generalize (lg_sl [.ref (bs + 44), .int x1] ++ List.replicate (3 - (lg_sl [.ref (bs + 44), .int x1]).length) Slot.unset).toArray = ls at hl ⊢
  have hl : lv_has ls 3 [(0, .ref (bs + 44)), (1, .int x1)] := hl
  change W p l e (rmm 2 41) s m [.ref (bs + 44), .int x1].toArray below meth c s.heap [] 0 0 (QI below [.ref (bs + 44), .int x1].toArray s bs D y r) (F0 m 0 ls [])
  unfold fX10_lay at h
  refine lv_aload_n hx hb dX10_lay_0 rfl (lv_at hl 0 rfl) ?_
  refine lv_iload_n hx hb dX10_lay_1 rfl (lv_at hl 1 rfl) ?_
  obtain ⟨r2, er2, h⟩ := bd_s1 h
  refine c_VI (k := 44) (ci := 10) (As := [.int x1]) (rest := []) hx hb hml hown hts hK hN hL hP hS (cX10_isTile_ l bs D y hcb n x1 I J r2 er2) ok_X10_isTile ov_X10_isTile ml_136 ⟨Nat.le_of_ble_eq_true rfl, Nat.le_of_ble_eq_true rfl⟩ rfl hcb kd_44 hl.1 rfl rfl (Nat.le_of_ble_eq_true rfl) ⟨Nat.zero_le _, Nat.zero_le _⟩ dX10_lay_2 (fun H locs hP hS => ?_)
  refine lv_if_ne (tgt := 15) hx hb dX10_lay_5 (by decide) (fun c5 => ?_) (fun c5 => ?_)
  · replace h := if_f c5 h
    refine lv_aload_n hx hb dX10_lay_15 rfl (lv_at hl 0 rfl) ?_
    refine g_I (C := RX10) (T := TX10) (N := 49) (ci := 10) 44 14 hx hb hts hown hK hP in_X10 rfl hcb okF_44_14 fl_151 dX10_lay_16 ?_
    refine lv_if_ne (tgt := 29) hx hb dX10_lay_19 (by decide) (fun c19 => ?_) (fun c19 => ?_)
    · replace h := if_f c19 h
      refine lv_aload_n hx hb dX10_lay_29 rfl (lv_at hl 0 rfl) ?_
      refine lv_aload_n hx hb dX10_lay_30 rfl (lv_at hl 0 rfl) ?_
      refine g_R (C := RX10) (T := TX10) (N := 49) (ci := 10) 44 37 69 hx hb hts hown hK hP in_X10 rfl hcb okF_44_37 rfc_44_37 fl_181 dX10_lay_31 ?_
      refine lv_iload_n hx hb dX10_lay_34 rfl (lv_at hl 1 rfl) ?_
      obtain ⟨hi35, h⟩ := if_s1 h
      refine a_I 69 hx hb hK hP hcb aln_69 hi35 dX10_lay_35 ?_
      obtain ⟨I36, eI36, h⟩ := lt_s1 h
      refine s_I (C := RX10) (T := TX10) (N := 49) (ci := 10) (ty := .int) 44 48 eI36 tyX10 hx hb hts hown hK hP hS in_X10 tyX10_ok nmX10 rfl hcb okF_44_48 fl_186 rfl (by decide +kernel) rfl rfl dX10_lay_36 (fun H locs hP hS => ?_)
      refine lv_iconst (v := (0 : Int32)) hx hb dX10_lay_39 (by decide) ?_
      refine lv_istore_n (lv' := [(2, .int (0 : Int32)), (0, .ref (bs + 44)), (1, .int x1)]) hx hb dX10_lay_40 rfl hl (by decide) rfl (fun ls hl => ?_)
      exact vX10_lay_41 bs D y n  r Gc  n x1 (0 : Int32) I36 r2.2.2 _ _ _ hP hS (lv_sub hl [1, 2, 0] rfl) h
    · replace h := if_t c19 h
      refine lv_aload_n hx hb dX10_lay_22 rfl (lv_at hl 0 rfl) ?_
      refine lv_bipush (v := (-2 : Int32)) hx hb dX10_lay_23 (by decide) ?_
      obtain ⟨r25, er25, h⟩ := bd_s1 h
      refine c_VI (k := 44) (ci := 10) (As := [.int (-2 : Int32)]) (rest := []) hx hb hml hown hts hK hN hL hP hS (cX10_no_ l bs D y hcb n (-2 : Int32) r2.2.1 r2.2.2 r25 er25) ok_X10_no ov_X10_no ml_118 ⟨Nat.le_of_ble_eq_true rfl, Nat.le_of_ble_eq_true rfl⟩ rfl hcb kd_44 hl.1 rfl rfl (Nat.le_of_ble_eq_true rfl) ⟨Nat.zero_le _, Nat.zero_le _⟩ dX10_lay_25 (fun H locs hP hS => ?_)
      exact r_I hx hb hr hlocks hP hK hN hL hS h dX10_lay_28
  · replace h := if_t c5 h
    refine lv_aload_n hx hb dX10_lay_8 rfl (lv_at hl 0 rfl) ?_
    refine lv_bipush (v := (-3 : Int32)) hx hb dX10_lay_9 (by decide) ?_
    obtain ⟨r11, er11, h⟩ := bd_s1 h
    refine c_VI (k := 44) (ci := 10) (As := [.int (-3 : Int32)]) (rest := []) hx hb hml hown hts hK hN hL hP hS (cX10_no_ l bs D y hcb n (-3 : Int32) r2.2.1 r2.2.2 r11 er11) ok_X10_no ov_X10_no ml_118 ⟨Nat.le_of_ble_eq_true rfl, Nat.le_of_ble_eq_true rfl⟩ rfl hcb kd_44 hl.1 rfl rfl (Nat.le_of_ble_eq_true rfl) ⟨Nat.zero_le _, Nat.zero_le _⟩ dX10_lay_11 (fun H locs hP hS => ?_)
    exact r_I hx hb hr hlocks hP hK hN hL hS h dX10_lay_14
theorem dX10_tear_0 : decode cX10_tear 0 = .ok (.aload_n 0, 1) := by decide +kernel
theorem dX10_tear_1 : decode cX10_tear 1 = .ok (.getfield 120, 3) := by decide +kernel
theorem dX10_tear_4 : decode cX10_tear 4 = .ok (.ifCond .lt 7, 3) := by decide +kernel
theorem dX10_tear_7 : decode cX10_tear 7 = .ok (.iconst 1, 1) := by decide +kernel
theorem dX10_tear_8 : decode cX10_tear 8 = .ok (.goto 4, 3) := by decide +kernel
theorem dX10_tear_11 : decode cX10_tear 11 = .ok (.iconst 0, 1) := by decide +kernel
theorem dX10_tear_12 : decode cX10_tear 12 = .ok (.istore_n 1, 1) := by decide +kernel
theorem dX10_tear_13 : decode cX10_tear 13 = .ok (.aload_n 0, 1) := by decide +kernel
theorem dX10_tear_14 : decode cX10_tear 14 = .ok (.iconst (-1), 1) := by decide +kernel
theorem dX10_tear_15 : decode cX10_tear 15 = .ok (.putfield 120, 3) := by decide +kernel
theorem dX10_tear_18 : decode cX10_tear 18 = .ok (.iload_n 1, 1) := by decide +kernel
theorem dX10_tear_19 : decode cX10_tear 19 = .ok (.ireturn, 1) := by decide +kernel
set_option maxHeartbeats 4000000 in
set_option maxRecDepth 100000 in
theorem wX10_tear_12 {p : Program} {l : Launch} {e : Env} {s : State} {m : MethodId} {args : Array Value} {below : List Frame} {meth : Method} {c : Code} (bs : Nat) (D : va_G) (y : Y3) (n : Nat) (r : Int32 × M2) (Gc : Gx p s m args meth c cX10_tear 2 RX10 bs D y (some .int) 76)  (s0 : Int32) (I : MI) (J : MJ) (H : Heap) (locs : List Loc) (ls : Array Slot) (hP : va_P D vwCl (wl bs y I J) H) (hS : va_S (FA bs) s.heap H locs) (hl : lv_has ls 2 [(0, .ref (bs + 44))]) (h : fX10_tear_12 n  s0 I J = some r) : W p l e (rmm 0 0) s m args below meth c H locs 0 0 (QI below args s bs D y r) (F0 m 12 ls [.int s0]) := by
  obtain ⟨hx, hb, hml, hown, hts, hK, hN, hL, hr, hlocks, hcb⟩ := id Gc
  unfold fX10_tear_12 at h
  refine lv_istore_n (lv' := [(1, .int s0), (0, .ref (bs + 44))]) hx hb dX10_tear_12 rfl hl (by decide) rfl (fun ls hl => ?_)
  refine lv_aload_n hx hb dX10_tear_13 rfl (lv_at hl 1 rfl) ?_
  refine lv_iconst (v := (-1 : Int32)) hx hb dX10_tear_14 (by decide) ?_
  obtain ⟨I15, eI15, h⟩ := lt_s1 h
  refine s_I (C := RX10) (T := TX10) (N := 49) (ci := 10) (ty := .int) 44 48 eI15 tyX10 hx hb hts hown hK hP hS in_X10 tyX10_ok nmX10 rfl hcb okF_44_48 fl_186 rfl (by decide +kernel) rfl rfl dX10_tear_15 (fun H locs hP hS => ?_)
  refine lv_iload_n hx hb dX10_tear_18 rfl (lv_at hl 0 rfl) ?_
  exact r_I hx hb hr hlocks hP hK hN hL hS h dX10_tear_19
set_option maxHeartbeats 4000000 in
set_option maxRecDepth 100000 in
theorem cX10_tear_ (l : Launch) (bs : Nat) (D : va_G) (y : Y3) (hcb : 76 ≤ y.2.2.2) (n : Nat) (I : MI) (J : MJ) (r : Int32 × M2) (h : fX10_tear n  I J = some r) : Met l yX10_tear (.code yX10_tear cX10_tear 2 (some .int) :: gtb) (rmm 0 0) (va_Pc [.ref (bs + 44)] (HB bs D y I J)) (QcI bs D y r) 0 0 (FA bs) := by
  refine Met.ofW (cc := cX10_tear) (maxL := 2) (ret := (some .int)) (by decide) rfl ?_
  intro p e s m args below meth c s₁ B hml hv
  obtain ⟨rfl, hP, hK, hN, hL⟩ := hv
  have hx := B.exec
  have hb := B.bytes
  have hr := B.returns
  have hts0 := atoms_spec (ws := .code yX10_tear cX10_tear 2 (some .int) :: gtb) B.pre
  have hts : ∀ w ∈ gtb, w.before [.ref (bs + 44)].toArray s = true := fun w hw => hts0 w (List.mem_cons_of_mem _ hw)
  have hown : s.vm.findClass RX10 = some m.cls := findClass_of_methodNamed B.named
  have hlocks := B.notSynchronized
  have hS : va_S (FA bs) s.heap s.heap [] := va_S.rf
  have Gc : Gx p s m [.ref (bs + 44)].toArray meth c cX10_tear 2 RX10 bs D y (some .int) 76 := ⟨hx, hb, hml, hown, hts, hK, hN, hL, hr, hlocks, hcb⟩
  have hl := lv_entry [.ref (bs + 44)] (n := 2) (Nat.le_of_ble_eq_true rfl)
  rw [lg_entry_eq]
  generalize (lg_sl [.ref (bs + 44)] ++ List.replicate (2 - (lg_sl [.ref (bs + 44)]).length) Slot.unset).toArray = ls at hl ⊢
  have hl : lv_has ls 2 [(0, .ref (bs + 44))] := hl
  change W p l e (rmm 0 0) s m [.ref (bs + 44)].toArray below meth c s.heap [] 0 0 (QI below [.ref (bs + 44)].toArray s bs D y r) (F0 m 0 ls [])
  unfold fX10_tear at h
  refine lv_aload_n hx hb dX10_tear_0 rfl (lv_at hl 0 rfl) ?_
  refine g_I (C := RX10) (T := TX10) (N := 49) (ci := 10) 44 48 hx hb hts hown hK hP in_X10 rfl hcb okF_44_48 fl_186 dX10_tear_1 ?_
  refine lv_if_lt (tgt := 11) hx hb dX10_tear_4 (by decide) (fun c4 => ?_) (fun c4 => ?_)
  · replace h := if_t c4 h
    refine lv_iconst (v := (0 : Int32)) hx hb dX10_tear_11 (by decide) ?_
    exact wX10_tear_12 bs D y n  r Gc  (0 : Int32) I J _ _ _ hP hS (lv_sub hl [0] rfl) h
  · replace h := if_f c4 h
    refine lv_iconst (v := (1 : Int32)) hx hb dX10_tear_7 (by decide) ?_
    refine lv_goto (tgt := 12) hx hb dX10_tear_8 (by decide) ?_
    exact wX10_tear_12 bs D y n  r Gc  (1 : Int32) I J _ _ _ hP hS (lv_sub hl [0] rfl) h
theorem dX10_row_0 : decode cX10_row 0 = .ok (.aload_n 0, 1) := by decide +kernel
theorem dX10_row_1 : decode cX10_row 1 = .ok (.getfield 120, 3) := by decide +kernel
theorem dX10_row_4 : decode cX10_row 4 = .ok (.ifCond .ge 10, 3) := by decide +kernel
theorem dX10_row_7 : decode cX10_row 7 = .ok (.aload_n 0, 1) := by decide +kernel
theorem dX10_row_8 : decode cX10_row 8 = .ok (.bipush (-2), 2) := by decide +kernel
theorem dX10_row_10 : decode cX10_row 10 = .ok (.invokevirtual 151, 3) := by decide +kernel
theorem dX10_row_13 : decode cX10_row 13 = .ok (.ireturn, 1) := by decide +kernel
theorem dX10_row_14 : decode cX10_row 14 = .ok (.iload_n 1, 1) := by decide +kernel
theorem dX10_row_15 : decode cX10_row 15 = .ok (.i2l, 1) := by decide +kernel
theorem dX10_row_16 : decode cX10_row 16 = .ok (.lconst 0, 1) := by decide +kernel
theorem dX10_row_17 : decode cX10_row 17 = .ok (.aload_n 0, 1) := by decide +kernel
theorem dX10_row_18 : decode cX10_row 18 = .ok (.getfield 120, 3) := by decide +kernel
theorem dX10_row_21 : decode cX10_row 21 = .ok (.iconst 1, 1) := by decide +kernel
theorem dX10_row_22 : decode cX10_row 22 = .ok (.isub, 1) := by decide +kernel
theorem dX10_row_23 : decode cX10_row 23 = .ok (.i2l, 1) := by decide +kernel
theorem dX10_row_24 : decode cX10_row 24 = .ok (.invokestatic 164, 3) := by decide +kernel
theorem dX10_row_27 : decode cX10_row 27 = .ok (.ifCond .eq 12, 3) := by decide +kernel
theorem dX10_row_30 : decode cX10_row 30 = .ok (.aload_n 0, 1) := by decide +kernel
theorem dX10_row_31 : decode cX10_row 31 = .ok (.getfield 114, 3) := by decide +kernel
theorem dX10_row_34 : decode cX10_row 34 = .ok (.iload_n 1, 1) := by decide +kernel
theorem dX10_row_35 : decode cX10_row 35 = .ok (.iaload, 1) := by decide +kernel
theorem dX10_row_36 : decode cX10_row 36 = .ok (.goto 9, 3) := by decide +kernel
theorem dX10_row_39 : decode cX10_row 39 = .ok (.aload_n 0, 1) := by decide +kernel
theorem dX10_row_40 : decode cX10_row 40 = .ok (.bipush (-3), 2) := by decide +kernel
theorem dX10_row_42 : decode cX10_row 42 = .ok (.invokevirtual 151, 3) := by decide +kernel
theorem dX10_row_45 : decode cX10_row 45 = .ok (.ireturn, 1) := by decide +kernel
set_option maxHeartbeats 4000000 in
set_option maxRecDepth 100000 in
theorem cX10_row_ (l : Launch) (bs : Nat) (D : va_G) (y : Y3) (hcb : 76 ≤ y.2.2.2) (n : Nat) (x1 : Int32) (I : MI) (J : MJ) (r : Int32 × M2) (h : fX10_row n x1 I J = some r) : Met l yX10_row (.code yX10_row cX10_row 2 (some .int) :: gtb) (rmm 1 25) (va_Pc [.ref (bs + 44), .int x1] (HB bs D y I J)) (QcI bs D y r) 0 0 (FA bs) := by
  refine Met.ofW (cc := cX10_row) (maxL := 2) (ret := (some .int)) (by decide) rfl ?_
  intro p e s m args below meth c s₁ B hml hv
  obtain ⟨rfl, hP, hK, hN, hL⟩ := hv
  have hx := B.exec
  have hb := B.bytes
  have hr := B.returns
  have hts0 := atoms_spec (ws := .code yX10_row cX10_row 2 (some .int) :: gtb) B.pre
  have hts : ∀ w ∈ gtb, w.before [.ref (bs + 44), .int x1].toArray s = true := fun w hw => hts0 w (List.mem_cons_of_mem _ hw)
  have hown : s.vm.findClass RX10 = some m.cls := findClass_of_methodNamed B.named
  have hlocks := B.notSynchronized
  have hS : va_S (FA bs) s.heap s.heap [] := va_S.rf
  have Gc : Gx p s m [.ref (bs + 44), .int x1].toArray meth c cX10_row 2 RX10 bs D y (some .int) 76 := ⟨hx, hb, hml, hown, hts, hK, hN, hL, hr, hlocks, hcb⟩
  have hl := lv_entry [.ref (bs + 44), .int x1] (n := 2) (Nat.le_of_ble_eq_true rfl)
  rw [lg_entry_eq]
  generalize (lg_sl [.ref (bs + 44), .int x1] ++ List.replicate (2 - (lg_sl [.ref (bs + 44), .int x1]).length) Slot.unset).toArray = ls at hl ⊢
  have hl : lv_has ls 2 [(0, .ref (bs + 44)), (1, .int x1)] := hl
  change W p l e (rmm 1 25) s m [.ref (bs + 44), .int x1].toArray below meth c s.heap [] 0 0 (QI below [.ref (bs + 44), .int x1].toArray s bs D y r) (F0 m 0 ls [])
  unfold fX10_row at h
  refine lv_aload_n hx hb dX10_row_0 rfl (lv_at hl 0 rfl) ?_
  refine g_I (C := RX10) (T := TX10) (N := 49) (ci := 10) 44 48 hx hb hts hown hK hP in_X10 rfl hcb okF_44_48 fl_186 dX10_row_1 ?_
  refine lv_if_ge (tgt := 14) hx hb dX10_row_4 (by decide) (fun c4 => ?_) (fun c4 => ?_)
  · replace h := if_t c4 h
    refine lv_iload_n hx hb dX10_row_14 rfl (lv_at hl 1 rfl) ?_
    refine lv_i2l (v := (x1).toInt64) hx hb dX10_row_15 rfl ?_
    refine lv_lconst (v := (0 : Int64)) hx hb dX10_row_16 (by decide) ?_
    refine lv_aload_n hx hb dX10_row_17 rfl (lv_at hl 0 rfl) ?_
    refine g_I (C := RX10) (T := TX10) (N := 49) (ci := 10) 44 48 hx hb hts hown hK hP in_X10 rfl hcb okF_44_48 fl_186 dX10_row_18 ?_
    refine lv_iconst (v := (1 : Int32)) hx hb dX10_row_21 (by decide) ?_
    refine lv_isub hx hb dX10_row_22 ?_
    refine lv_i2l (v := (((I 44 48) - (1 : Int32))).toInt64) hx hb dX10_row_23 rfl ?_
    obtain ⟨r24, er24, h⟩ := bd_s1 h
    refine c_SI (As := [.long (x1).toInt64, .long (0 : Int64), .long (((I 44 48) - (1 : Int32))).toInt64]) (rest := []) hx hb hml hown hts hK hN hL hP hS (cX10_isIn_ l bs D y hcb n (x1).toInt64 (0 : Int64) (((I 44 48) - (1 : Int32))).toInt64 I J r24 er24) ok_X10_isIn ov_X10_isIn ml_120 ⟨Nat.le_of_ble_eq_true rfl, Nat.le_of_ble_eq_true rfl⟩ hl.1 rfl rfl (Nat.le_of_ble_eq_true rfl) ⟨Nat.zero_le _, Nat.zero_le _⟩ dX10_row_24 (fun H locs hP hS => ?_)
    refine lv_if_eq (tgt := 39) hx hb dX10_row_27 (by decide) (fun c27 => ?_) (fun c27 => ?_)
    · replace h := if_t c27 h
      refine lv_aload_n hx hb dX10_row_39 rfl (lv_at hl 0 rfl) ?_
      refine lv_bipush (v := (-3 : Int32)) hx hb dX10_row_40 (by decide) ?_
      obtain ⟨r42, er42, h⟩ := bd_s1 h
      refine c_VI (k := 44) (ci := 10) (As := [.int (-3 : Int32)]) (rest := []) hx hb hml hown hts hK hN hL hP hS (cX10_no_ l bs D y hcb n (-3 : Int32) r24.2.1 r24.2.2 r42 er42) ok_X10_no ov_X10_no ml_118 ⟨Nat.le_of_ble_eq_true rfl, Nat.le_of_ble_eq_true rfl⟩ rfl hcb kd_44 hl.1 rfl rfl (Nat.le_of_ble_eq_true rfl) ⟨Nat.zero_le _, Nat.zero_le _⟩ dX10_row_42 (fun H locs hP hS => ?_)
      exact r_I hx hb hr hlocks hP hK hN hL hS h dX10_row_45
    · replace h := if_f c27 h
      refine lv_aload_n hx hb dX10_row_30 rfl (lv_at hl 0 rfl) ?_
      refine g_R (C := RX10) (T := TX10) (N := 49) (ci := 10) 44 46 74 hx hb hts hown hK hP in_X10 rfl hcb okF_44_46 rfc_44_46 fl_187 dX10_row_31 ?_
      refine lv_iload_n hx hb dX10_row_34 rfl (lv_at hl 1 rfl) ?_
      obtain ⟨hi35, h⟩ := if_s1 h
      refine a_I 74 hx hb hK hP hcb aln_74 hi35 dX10_row_35 ?_
      refine lv_goto (tgt := 45) hx hb dX10_row_36 (by decide) ?_
      exact r_I hx hb hr hlocks hP hK hN hL hS h dX10_row_45
  · replace h := if_f c4 h
    refine lv_aload_n hx hb dX10_row_7 rfl (lv_at hl 0 rfl) ?_
    refine lv_bipush (v := (-2 : Int32)) hx hb dX10_row_8 (by decide) ?_
    obtain ⟨r10, er10, h⟩ := bd_s1 h
    refine c_VI (k := 44) (ci := 10) (As := [.int (-2 : Int32)]) (rest := []) hx hb hml hown hts hK hN hL hP hS (cX10_no_ l bs D y hcb n (-2 : Int32) I J r10 er10) ok_X10_no ov_X10_no ml_118 ⟨Nat.le_of_ble_eq_true rfl, Nat.le_of_ble_eq_true rfl⟩ rfl hcb kd_44 hl.1 rfl rfl (Nat.le_of_ble_eq_true rfl) ⟨Nat.zero_le _, Nat.zero_le _⟩ dX10_row_10 (fun H locs hP hS => ?_)
    exact r_I hx hb hr hlocks hP hK hN hL hS h dX10_row_13
theorem dX10_copy_0 : decode cX10_copy 0 = .ok (.aload_n 0, 1) := by decide +kernel
theorem dX10_copy_1 : decode cX10_copy 1 = .ok (.getfield 120, 3) := by decide +kernel
theorem dX10_copy_4 : decode cX10_copy 4 = .ok (.ifCond .ge 10, 3) := by decide +kernel
theorem dX10_copy_7 : decode cX10_copy 7 = .ok (.aload_n 0, 1) := by decide +kernel
theorem dX10_copy_8 : decode cX10_copy 8 = .ok (.bipush (-2), 2) := by decide +kernel
theorem dX10_copy_10 : decode cX10_copy 10 = .ok (.invokevirtual 151, 3) := by decide +kernel
theorem dX10_copy_13 : decode cX10_copy 13 = .ok (.ireturn, 1) := by decide +kernel
theorem dX10_copy_14 : decode cX10_copy 14 = .ok (.iload_n 3, 1) := by decide +kernel
theorem dX10_copy_15 : decode cX10_copy 15 = .ok (.ifCond .ge 10, 3) := by decide +kernel
theorem dX10_copy_18 : decode cX10_copy 18 = .ok (.aload_n 0, 1) := by decide +kernel
theorem dX10_copy_19 : decode cX10_copy 19 = .ok (.bipush (-4), 2) := by decide +kernel
theorem dX10_copy_21 : decode cX10_copy 21 = .ok (.invokevirtual 151, 3) := by decide +kernel
theorem dX10_copy_24 : decode cX10_copy 24 = .ok (.ireturn, 1) := by decide +kernel
theorem dX10_copy_25 : decode cX10_copy 25 = .ok (.iload_n 1, 1) := by decide +kernel
theorem dX10_copy_26 : decode cX10_copy 26 = .ok (.ifCond .lt 35, 3) := by decide +kernel
theorem dX10_copy_29 : decode cX10_copy 29 = .ok (.iload_n 2, 1) := by decide +kernel
theorem dX10_copy_30 : decode cX10_copy 30 = .ok (.ifCond .lt 31, 3) := by decide +kernel
theorem dX10_copy_33 : decode cX10_copy 33 = .ok (.iload_n 1, 1) := by decide +kernel
theorem dX10_copy_34 : decode cX10_copy 34 = .ok (.i2l, 1) := by decide +kernel
theorem dX10_copy_35 : decode cX10_copy 35 = .ok (.iload_n 3, 1) := by decide +kernel
theorem dX10_copy_36 : decode cX10_copy 36 = .ok (.i2l, 1) := by decide +kernel
theorem dX10_copy_37 : decode cX10_copy 37 = .ok (.ladd, 1) := by decide +kernel
theorem dX10_copy_38 : decode cX10_copy 38 = .ok (.aload_n 0, 1) := by decide +kernel
theorem dX10_copy_39 : decode cX10_copy 39 = .ok (.getfield 120, 3) := by decide +kernel
theorem dX10_copy_42 : decode cX10_copy 42 = .ok (.i2l, 1) := by decide +kernel
theorem dX10_copy_43 : decode cX10_copy 43 = .ok (.lcmp, 1) := by decide +kernel
theorem dX10_copy_44 : decode cX10_copy 44 = .ok (.ifCond .gt 17, 3) := by decide +kernel
theorem dX10_copy_47 : decode cX10_copy 47 = .ok (.iload_n 2, 1) := by decide +kernel
theorem dX10_copy_48 : decode cX10_copy 48 = .ok (.i2l, 1) := by decide +kernel
theorem dX10_copy_49 : decode cX10_copy 49 = .ok (.iload_n 3, 1) := by decide +kernel
theorem dX10_copy_50 : decode cX10_copy 50 = .ok (.i2l, 1) := by decide +kernel
theorem dX10_copy_51 : decode cX10_copy 51 = .ok (.ladd, 1) := by decide +kernel
theorem dX10_copy_52 : decode cX10_copy 52 = .ok (.aload_n 0, 1) := by decide +kernel
theorem dX10_copy_53 : decode cX10_copy 53 = .ok (.getfield 120, 3) := by decide +kernel
theorem dX10_copy_56 : decode cX10_copy 56 = .ok (.i2l, 1) := by decide +kernel
theorem dX10_copy_57 : decode cX10_copy 57 = .ok (.lcmp, 1) := by decide +kernel
theorem dX10_copy_58 : decode cX10_copy 58 = .ok (.ifCond .le 10, 3) := by decide +kernel
theorem dX10_copy_61 : decode cX10_copy 61 = .ok (.aload_n 0, 1) := by decide +kernel
theorem dX10_copy_62 : decode cX10_copy 62 = .ok (.bipush (-6), 2) := by decide +kernel
theorem dX10_copy_64 : decode cX10_copy 64 = .ok (.invokevirtual 151, 3) := by decide +kernel
theorem dX10_copy_67 : decode cX10_copy 67 = .ok (.ireturn, 1) := by decide +kernel
theorem dX10_copy_68 : decode cX10_copy 68 = .ok (.iconst 0, 1) := by decide +kernel
theorem dX10_copy_69 : decode cX10_copy 69 = .ok (.istore 4, 2) := by decide +kernel
theorem dX10_copy_71 : decode cX10_copy 71 = .ok (.iload 4, 2) := by decide +kernel
theorem dX10_copy_73 : decode cX10_copy 73 = .ok (.iload_n 3, 1) := by decide +kernel
theorem dX10_copy_74 : decode cX10_copy 74 = .ok (.if_icmp .ge 25, 3) := by decide +kernel
theorem dX10_copy_77 : decode cX10_copy 77 = .ok (.aload_n 0, 1) := by decide +kernel
theorem dX10_copy_78 : decode cX10_copy 78 = .ok (.getfield 117, 3) := by decide +kernel
theorem dX10_copy_81 : decode cX10_copy 81 = .ok (.iload 4, 2) := by decide +kernel
theorem dX10_copy_83 : decode cX10_copy 83 = .ok (.aload_n 0, 1) := by decide +kernel
theorem dX10_copy_84 : decode cX10_copy 84 = .ok (.getfield 114, 3) := by decide +kernel
theorem dX10_copy_87 : decode cX10_copy 87 = .ok (.iload_n 1, 1) := by decide +kernel
theorem dX10_copy_88 : decode cX10_copy 88 = .ok (.iload 4, 2) := by decide +kernel
theorem dX10_copy_90 : decode cX10_copy 90 = .ok (.iadd, 1) := by decide +kernel
theorem dX10_copy_91 : decode cX10_copy 91 = .ok (.iaload, 1) := by decide +kernel
theorem dX10_copy_92 : decode cX10_copy 92 = .ok (.iastore, 1) := by decide +kernel
theorem dX10_copy_93 : decode cX10_copy 93 = .ok (.iinc 4 1, 3) := by decide +kernel
theorem dX10_copy_96 : decode cX10_copy 96 = .ok (.goto (-25), 3) := by decide +kernel
theorem dX10_copy_99 : decode cX10_copy 99 = .ok (.iconst 0, 1) := by decide +kernel
theorem dX10_copy_100 : decode cX10_copy 100 = .ok (.istore 4, 2) := by decide +kernel
theorem dX10_copy_102 : decode cX10_copy 102 = .ok (.iload 4, 2) := by decide +kernel
theorem dX10_copy_104 : decode cX10_copy 104 = .ok (.iload_n 3, 1) := by decide +kernel
theorem dX10_copy_105 : decode cX10_copy 105 = .ok (.if_icmp .ge 25, 3) := by decide +kernel
theorem dX10_copy_108 : decode cX10_copy 108 = .ok (.aload_n 0, 1) := by decide +kernel
theorem dX10_copy_109 : decode cX10_copy 109 = .ok (.getfield 114, 3) := by decide +kernel
theorem dX10_copy_112 : decode cX10_copy 112 = .ok (.iload_n 2, 1) := by decide +kernel
theorem dX10_copy_113 : decode cX10_copy 113 = .ok (.iload 4, 2) := by decide +kernel
theorem dX10_copy_115 : decode cX10_copy 115 = .ok (.iadd, 1) := by decide +kernel
theorem dX10_copy_116 : decode cX10_copy 116 = .ok (.aload_n 0, 1) := by decide +kernel
theorem dX10_copy_117 : decode cX10_copy 117 = .ok (.getfield 117, 3) := by decide +kernel
theorem dX10_copy_120 : decode cX10_copy 120 = .ok (.iload 4, 2) := by decide +kernel
theorem dX10_copy_122 : decode cX10_copy 122 = .ok (.iaload, 1) := by decide +kernel
theorem dX10_copy_123 : decode cX10_copy 123 = .ok (.iastore, 1) := by decide +kernel
theorem dX10_copy_124 : decode cX10_copy 124 = .ok (.iinc 4 1, 3) := by decide +kernel
theorem dX10_copy_127 : decode cX10_copy 127 = .ok (.goto (-25), 3) := by decide +kernel
theorem dX10_copy_130 : decode cX10_copy 130 = .ok (.iload_n 3, 1) := by decide +kernel
theorem dX10_copy_131 : decode cX10_copy 131 = .ok (.ireturn, 1) := by decide +kernel
set_option maxHeartbeats 4000000 in
set_option maxRecDepth 100000 in
theorem wX10_copy_102 {p : Program} {l : Launch} {e : Env} {s : State} {m : MethodId} {args : Array Value} {below : List Frame} {meth : Method} {c : Code} (bs : Nat) (D : va_G) (y : Y3) (n : Nat) (k102_ : Int32 → Int32 → Int32 → MI → MJ → Option (Int32 × M2)) (r : Int32 × M2) (Gc : Gx p s m args meth c cX10_copy 5 RX10 bs D y (some .int) 76) (hk102_ : ∀ (x2 : Int32) (x3 : Int32) (x4 : Int32) (I : MI) (J : MJ) (H : Heap) (locs : List Loc) (ls : Array Slot), va_P D vwCl (wl bs y I J) H → va_S (FA bs) s.heap H locs → lv_has ls 5 [(0, .ref (bs + 44)), (2, .int x2), (3, .int x3), (4, .int x4)] → k102_ x2 x3 x4 I J = some r → W p l e (rmm 1 21) s m args below meth c H locs 0 0 (QI below args s bs D y r) (F0 m 102 ls [])) (x2 : Int32) (x3 : Int32) (x4 : Int32) (I : MI) (J : MJ) (H : Heap) (locs : List Loc) (ls : Array Slot) (hP : va_P D vwCl (wl bs y I J) H) (hS : va_S (FA bs) s.heap H locs) (hl : lv_has ls 5 [(0, .ref (bs + 44)), (2, .int x2), (3, .int x3), (4, .int x4)]) (h : fX10_copy_102 n k102_ x2 x3 x4 I J = some r) : W p l e (rmm 1 21) s m args below meth c H locs 0 0 (QI below args s bs D y r) (F0 m 102 ls []) := by
  obtain ⟨hx, hb, hml, hown, hts, hK, hN, hL, hr, hlocks, hcb⟩ := id Gc
  unfold fX10_copy_102 at h
  refine lv_iload hx hb dX10_copy_102 (lv_at hl 3 rfl) ?_
  refine lv_iload_n hx hb dX10_copy_104 rfl (lv_at hl 2 rfl) ?_
  refine lv_icmp_ge (tgt := 130) hx hb dX10_copy_105 (by decide) (fun c105 => ?_) (fun c105 => ?_)
  · replace h := if_t c105 h
    refine lv_iload_n hx hb dX10_copy_130 rfl (lv_at hl 2 rfl) ?_
    exact r_I hx hb hr hlocks hP hK hN hL hS h dX10_copy_131
  · replace h := if_f c105 h
    refine lv_aload_n hx hb dX10_copy_108 rfl (lv_at hl 0 rfl) ?_
    refine g_R (C := RX10) (T := TX10) (N := 49) (ci := 10) 44 46 74 hx hb hts hown hK hP in_X10 rfl hcb okF_44_46 rfc_44_46 fl_187 dX10_copy_109 ?_
    refine lv_iload_n hx hb dX10_copy_112 rfl (lv_at hl 1 rfl) ?_
    refine lv_iload hx hb dX10_copy_113 (lv_at hl 3 rfl) ?_
    refine lv_iadd hx hb dX10_copy_115 ?_
    refine lv_aload_n hx hb dX10_copy_116 rfl (lv_at hl 0 rfl) ?_
    refine g_R (C := RX10) (T := TX10) (N := 49) (ci := 10) 44 47 75 hx hb hts hown hK hP in_X10 rfl hcb okF_44_47 rfc_44_47 fl_188 dX10_copy_117 ?_
    refine lv_iload hx hb dX10_copy_120 (lv_at hl 3 rfl) ?_
    obtain ⟨hi122, h⟩ := if_s1 h
    refine a_I 75 hx hb hK hP hcb aln_75 hi122 dX10_copy_122 ?_
    obtain ⟨hi123, h⟩ := if_s1 h
    obtain ⟨I123, eI123, h⟩ := lt_s1 h
    refine t_I 74 eI123 hx hb hK hP hS hcb aln_74 hi123 dX10_copy_123 (fun H locs hP hS => ?_)
    refine lv_iinc (v := (x4 + (1 : Int32))) (lv' := [(4, .int (x4 + (1 : Int32))), (0, .ref (bs + 44)), (2, .int x2), (3, .int x3)]) hx hb dX10_copy_124 hl (k := 3) rfl rfl (by decide) rfl (fun ls hl => ?_)
    refine lv_goto (tgt := 102) hx hb dX10_copy_127 (by decide) ?_
    exact hk102_ x2 x3 (x4 + (1 : Int32)) I123 J _ _ _ hP hS (lv_sub hl [1, 2, 3, 0] rfl) h
theorem vX10_copy_102 {p : Program} {l : Launch} {e : Env} {s : State} {m : MethodId} {args : Array Value} {below : List Frame} {meth : Method} {c : Code} (bs : Nat) (D : va_G) (y : Y3) (n : Nat) (r : Int32 × M2) (Gc : Gx p s m args meth c cX10_copy 5 RX10 bs D y (some .int) 76)  : ∀ (q : Nat) (x2 : Int32) (x3 : Int32) (x4 : Int32) (I : MI) (J : MJ) (H : Heap) (locs : List Loc) (ls : Array Slot), va_P D vwCl (wl bs y I J) H → va_S (FA bs) s.heap H locs → lv_has ls 5 [(0, .ref (bs + 44)), (2, .int x2), (3, .int x3), (4, .int x4)] → lX10_copy_102 n  q x2 x3 x4 I J = some r → W p l e (rmm 1 21) s m args below meth c H locs 0 0 (QI below args s bs D y r) (F0 m 102 ls []) := by
  intro q
  induction q with
  | zero =>
    intro x2 x3 x4 I J H locs ls hP hS hl h
    have h : (none : Option (Int32 × M2)) = some r := h
    cases h
  | succ q ih =>
    intro x2 x3 x4 I J H locs ls hP hS hl h
    have h : fX10_copy_102 n  (lX10_copy_102 n  q) x2 x3 x4 I J = some r := h
    exact wX10_copy_102 bs D y n  (lX10_copy_102 n  q) r Gc  ih x2 x3 x4 I J H locs ls hP hS hl h
set_option maxHeartbeats 4000000 in
set_option maxRecDepth 100000 in
theorem wX10_copy_71 {p : Program} {l : Launch} {e : Env} {s : State} {m : MethodId} {args : Array Value} {below : List Frame} {meth : Method} {c : Code} (bs : Nat) (D : va_G) (y : Y3) (n : Nat) (k71_ : Int32 → Int32 → Int32 → Int32 → MI → MJ → Option (Int32 × M2)) (r : Int32 × M2) (Gc : Gx p s m args meth c cX10_copy 5 RX10 bs D y (some .int) 76) (hk71_ : ∀ (x1 : Int32) (x2 : Int32) (x3 : Int32) (x4 : Int32) (I : MI) (J : MJ) (H : Heap) (locs : List Loc) (ls : Array Slot), va_P D vwCl (wl bs y I J) H → va_S (FA bs) s.heap H locs → lv_has ls 5 [(0, .ref (bs + 44)), (1, .int x1), (2, .int x2), (3, .int x3), (4, .int x4)] → k71_ x1 x2 x3 x4 I J = some r → W p l e (rmm 1 21) s m args below meth c H locs 0 0 (QI below args s bs D y r) (F0 m 71 ls [])) (x1 : Int32) (x2 : Int32) (x3 : Int32) (x4 : Int32) (I : MI) (J : MJ) (H : Heap) (locs : List Loc) (ls : Array Slot) (hP : va_P D vwCl (wl bs y I J) H) (hS : va_S (FA bs) s.heap H locs) (hl : lv_has ls 5 [(0, .ref (bs + 44)), (1, .int x1), (2, .int x2), (3, .int x3), (4, .int x4)]) (h : fX10_copy_71 n k71_ x1 x2 x3 x4 I J = some r) : W p l e (rmm 1 21) s m args below meth c H locs 0 0 (QI below args s bs D y r) (F0 m 71 ls []) := by
  obtain ⟨hx, hb, hml, hown, hts, hK, hN, hL, hr, hlocks, hcb⟩ := id Gc
  unfold fX10_copy_71 at h
  refine lv_iload hx hb dX10_copy_71 (lv_at hl 4 rfl) ?_
  refine lv_iload_n hx hb dX10_copy_73 rfl (lv_at hl 3 rfl) ?_
  refine lv_icmp_ge (tgt := 99) hx hb dX10_copy_74 (by decide) (fun c74 => ?_) (fun c74 => ?_)
  · replace h := if_t c74 h
    refine lv_iconst (v := (0 : Int32)) hx hb dX10_copy_99 (by decide) ?_
    refine lv_istore (lv' := [(4, .int (0 : Int32)), (0, .ref (bs + 44)), (1, .int x1), (2, .int x2), (3, .int x3)]) hx hb dX10_copy_100 hl (by decide) rfl (fun ls hl => ?_)
    exact vX10_copy_102 bs D y n  r Gc  n x2 x3 (0 : Int32) I J _ _ _ hP hS (lv_sub hl [1, 3, 4, 0] rfl) h
  · replace h := if_f c74 h
    refine lv_aload_n hx hb dX10_copy_77 rfl (lv_at hl 0 rfl) ?_
    refine g_R (C := RX10) (T := TX10) (N := 49) (ci := 10) 44 47 75 hx hb hts hown hK hP in_X10 rfl hcb okF_44_47 rfc_44_47 fl_188 dX10_copy_78 ?_
    refine lv_iload hx hb dX10_copy_81 (lv_at hl 4 rfl) ?_
    refine lv_aload_n hx hb dX10_copy_83 rfl (lv_at hl 0 rfl) ?_
    refine g_R (C := RX10) (T := TX10) (N := 49) (ci := 10) 44 46 74 hx hb hts hown hK hP in_X10 rfl hcb okF_44_46 rfc_44_46 fl_187 dX10_copy_84 ?_
    refine lv_iload_n hx hb dX10_copy_87 rfl (lv_at hl 1 rfl) ?_
    refine lv_iload hx hb dX10_copy_88 (lv_at hl 4 rfl) ?_
    refine lv_iadd hx hb dX10_copy_90 ?_
    obtain ⟨hi91, h⟩ := if_s1 h
    refine a_I 74 hx hb hK hP hcb aln_74 hi91 dX10_copy_91 ?_
    obtain ⟨hi92, h⟩ := if_s1 h
    obtain ⟨I92, eI92, h⟩ := lt_s1 h
    refine t_I 75 eI92 hx hb hK hP hS hcb aln_75 hi92 dX10_copy_92 (fun H locs hP hS => ?_)
    refine lv_iinc (v := (x4 + (1 : Int32))) (lv' := [(4, .int (x4 + (1 : Int32))), (0, .ref (bs + 44)), (1, .int x1), (2, .int x2), (3, .int x3)]) hx hb dX10_copy_93 hl (k := 4) rfl rfl (by decide) rfl (fun ls hl => ?_)
    refine lv_goto (tgt := 71) hx hb dX10_copy_96 (by decide) ?_
    exact hk71_ x1 x2 x3 (x4 + (1 : Int32)) I92 J _ _ _ hP hS (lv_sub hl [1, 2, 3, 4, 0] rfl) h
theorem vX10_copy_71 {p : Program} {l : Launch} {e : Env} {s : State} {m : MethodId} {args : Array Value} {below : List Frame} {meth : Method} {c : Code} (bs : Nat) (D : va_G) (y : Y3) (n : Nat) (r : Int32 × M2) (Gc : Gx p s m args meth c cX10_copy 5 RX10 bs D y (some .int) 76)  : ∀ (q : Nat) (x1 : Int32) (x2 : Int32) (x3 : Int32) (x4 : Int32) (I : MI) (J : MJ) (H : Heap) (locs : List Loc) (ls : Array Slot), va_P D vwCl (wl bs y I J) H → va_S (FA bs) s.heap H locs → lv_has ls 5 [(0, .ref (bs + 44)), (1, .int x1), (2, .int x2), (3, .int x3), (4, .int x4)] → lX10_copy_71 n  q x1 x2 x3 x4 I J = some r → W p l e (rmm 1 21) s m args below meth c H locs 0 0 (QI below args s bs D y r) (F0 m 71 ls []) := by
  intro q
  induction q with
  | zero =>
    intro x1 x2 x3 x4 I J H locs ls hP hS hl h
    have h : (none : Option (Int32 × M2)) = some r := h
    cases h
  | succ q ih =>
    intro x1 x2 x3 x4 I J H locs ls hP hS hl h
    have h : fX10_copy_71 n  (lX10_copy_71 n  q) x1 x2 x3 x4 I J = some r := h
    exact wX10_copy_71 bs D y n  (lX10_copy_71 n  q) r Gc  ih x1 x2 x3 x4 I J H locs ls hP hS hl h
set_option maxHeartbeats 4000000 in
set_option maxRecDepth 100000 in
theorem wX10_copy_61 {p : Program} {l : Launch} {e : Env} {s : State} {m : MethodId} {args : Array Value} {below : List Frame} {meth : Method} {c : Code} (bs : Nat) (D : va_G) (y : Y3) (n : Nat) (r : Int32 × M2) (Gc : Gx p s m args meth c cX10_copy 5 RX10 bs D y (some .int) 76)  (I : MI) (J : MJ) (H : Heap) (locs : List Loc) (ls : Array Slot) (hP : va_P D vwCl (wl bs y I J) H) (hS : va_S (FA bs) s.heap H locs) (hl : lv_has ls 5 [(0, .ref (bs + 44))]) (h : fX10_copy_61 n   I J = some r) : W p l e (rmm 1 21) s m args below meth c H locs 0 0 (QI below args s bs D y r) (F0 m 61 ls []) := by
  obtain ⟨hx, hb, hml, hown, hts, hK, hN, hL, hr, hlocks, hcb⟩ := id Gc
  unfold fX10_copy_61 at h
  refine lv_aload_n hx hb dX10_copy_61 rfl (lv_at hl 0 rfl) ?_
  refine lv_bipush (v := (-6 : Int32)) hx hb dX10_copy_62 (by decide) ?_
  obtain ⟨r64, er64, h⟩ := bd_s1 h
  refine c_VI (k := 44) (ci := 10) (As := [.int (-6 : Int32)]) (rest := []) hx hb hml hown hts hK hN hL hP hS (cX10_no_ l bs D y hcb n (-6 : Int32) I J r64 er64) ok_X10_no ov_X10_no ml_118 ⟨Nat.le_of_ble_eq_true rfl, Nat.le_of_ble_eq_true rfl⟩ rfl hcb kd_44 hl.1 rfl rfl (Nat.le_of_ble_eq_true rfl) ⟨Nat.zero_le _, Nat.zero_le _⟩ dX10_copy_64 (fun H locs hP hS => ?_)
  exact r_I hx hb hr hlocks hP hK hN hL hS h dX10_copy_67
set_option maxHeartbeats 4000000 in
set_option maxRecDepth 100000 in
theorem cX10_copy_ (l : Launch) (bs : Nat) (D : va_G) (y : Y3) (hcb : 76 ≤ y.2.2.2) (n : Nat) (x1 : Int32) (x2 : Int32) (x3 : Int32) (I : MI) (J : MJ) (r : Int32 × M2) (h : fX10_copy n x1 x2 x3 I J = some r) : Met l yX10_copy (.code yX10_copy cX10_copy 5 (some .int) :: gtb) (rmm 1 21) (va_Pc [.ref (bs + 44), .int x1, .int x2, .int x3] (HB bs D y I J)) (QcI bs D y r) 0 0 (FA bs) := by
  refine Met.ofW (cc := cX10_copy) (maxL := 5) (ret := (some .int)) (by decide) rfl ?_
  intro p e s m args below meth c s₁ B hml hv
  obtain ⟨rfl, hP, hK, hN, hL⟩ := hv
  have hx := B.exec
  have hb := B.bytes
  have hr := B.returns
  have hts0 := atoms_spec (ws := .code yX10_copy cX10_copy 5 (some .int) :: gtb) B.pre
  have hts : ∀ w ∈ gtb, w.before [.ref (bs + 44), .int x1, .int x2, .int x3].toArray s = true := fun w hw => hts0 w (List.mem_cons_of_mem _ hw)
  have hown : s.vm.findClass RX10 = some m.cls := findClass_of_methodNamed B.named
  have hlocks := B.notSynchronized
  have hS : va_S (FA bs) s.heap s.heap [] := va_S.rf
  have Gc : Gx p s m [.ref (bs + 44), .int x1, .int x2, .int x3].toArray meth c cX10_copy 5 RX10 bs D y (some .int) 76 := ⟨hx, hb, hml, hown, hts, hK, hN, hL, hr, hlocks, hcb⟩
  have hl := lv_entry [.ref (bs + 44), .int x1, .int x2, .int x3] (n := 5) (Nat.le_of_ble_eq_true rfl)
  rw [lg_entry_eq]
  generalize (lg_sl [.ref (bs + 44), .int x1, .int x2, .int x3] ++ List.replicate (5 - (lg_sl [.ref (bs + 44), .int x1, .int x2, .int x3]).length) Slot.unset).toArray = ls at hl ⊢
  have hl : lv_has ls 5 [(0, .ref (bs + 44)), (1, .int x1), (2, .int x2), (3, .int x3)] := hl
  change W p l e (rmm 1 21) s m [.ref (bs + 44), .int x1, .int x2, .int x3].toArray below meth c s.heap [] 0 0 (QI below [.ref (bs + 44), .int x1, .int x2, .int x3].toArray s bs D y r) (F0 m 0 ls [])
  unfold fX10_copy at h
  refine lv_aload_n hx hb dX10_copy_0 rfl (lv_at hl 0 rfl) ?_
  refine g_I (C := RX10) (T := TX10) (N := 49) (ci := 10) 44 48 hx hb hts hown hK hP in_X10 rfl hcb okF_44_48 fl_186 dX10_copy_1 ?_
  refine lv_if_ge (tgt := 14) hx hb dX10_copy_4 (by decide) (fun c4 => ?_) (fun c4 => ?_)
  · replace h := if_t c4 h
    refine lv_iload_n hx hb dX10_copy_14 rfl (lv_at hl 3 rfl) ?_
    refine lv_if_ge (tgt := 25) hx hb dX10_copy_15 (by decide) (fun c15 => ?_) (fun c15 => ?_)
    · replace h := if_t c15 h
      refine lv_iload_n hx hb dX10_copy_25 rfl (lv_at hl 1 rfl) ?_
      refine lv_if_lt (tgt := 61) hx hb dX10_copy_26 (by decide) (fun c26 => ?_) (fun c26 => ?_)
      · replace h := if_t c26 h
        exact wX10_copy_61 bs D y n  r Gc   I J _ _ _ hP hS (lv_sub hl [0] rfl) h
      · replace h := if_f c26 h
        refine lv_iload_n hx hb dX10_copy_29 rfl (lv_at hl 2 rfl) ?_
        refine lv_if_lt (tgt := 61) hx hb dX10_copy_30 (by decide) (fun c30 => ?_) (fun c30 => ?_)
        · replace h := if_t c30 h
          exact wX10_copy_61 bs D y n  r Gc   I J _ _ _ hP hS (lv_sub hl [0] rfl) h
        · replace h := if_f c30 h
          refine lv_iload_n hx hb dX10_copy_33 rfl (lv_at hl 1 rfl) ?_
          refine lv_i2l (v := (x1).toInt64) hx hb dX10_copy_34 rfl ?_
          refine lv_iload_n hx hb dX10_copy_35 rfl (lv_at hl 3 rfl) ?_
          refine lv_i2l (v := (x3).toInt64) hx hb dX10_copy_36 rfl ?_
          refine lv_ladd hx hb dX10_copy_37 ?_
          refine lv_aload_n hx hb dX10_copy_38 rfl (lv_at hl 0 rfl) ?_
          refine g_I (C := RX10) (T := TX10) (N := 49) (ci := 10) 44 48 hx hb hts hown hK hP in_X10 rfl hcb okF_44_48 fl_186 dX10_copy_39 ?_
          refine lv_i2l (v := ((I 44 48)).toInt64) hx hb dX10_copy_42 rfl ?_
          refine W.lcmp hx hb dX10_copy_43 ?_
          refine lv_if_gt (tgt := 61) hx hb dX10_copy_44 (by decide) (fun c44 => ?_) (fun c44 => ?_)
          · replace h := if_t c44 h
            exact wX10_copy_61 bs D y n  r Gc   I J _ _ _ hP hS (lv_sub hl [0] rfl) h
          · replace h := if_f c44 h
            refine lv_iload_n hx hb dX10_copy_47 rfl (lv_at hl 2 rfl) ?_
            refine lv_i2l (v := (x2).toInt64) hx hb dX10_copy_48 rfl ?_
            refine lv_iload_n hx hb dX10_copy_49 rfl (lv_at hl 3 rfl) ?_
            refine lv_i2l (v := (x3).toInt64) hx hb dX10_copy_50 rfl ?_
            refine lv_ladd hx hb dX10_copy_51 ?_
            refine lv_aload_n hx hb dX10_copy_52 rfl (lv_at hl 0 rfl) ?_
            refine g_I (C := RX10) (T := TX10) (N := 49) (ci := 10) 44 48 hx hb hts hown hK hP in_X10 rfl hcb okF_44_48 fl_186 dX10_copy_53 ?_
            refine lv_i2l (v := ((I 44 48)).toInt64) hx hb dX10_copy_56 rfl ?_
            refine W.lcmp hx hb dX10_copy_57 ?_
            refine lv_if_le (tgt := 68) hx hb dX10_copy_58 (by decide) (fun c58 => ?_) (fun c58 => ?_)
            · replace h := if_t c58 h
              refine lv_iconst (v := (0 : Int32)) hx hb dX10_copy_68 (by decide) ?_
              refine lv_istore (lv' := [(4, .int (0 : Int32)), (0, .ref (bs + 44)), (1, .int x1), (2, .int x2), (3, .int x3)]) hx hb dX10_copy_69 hl (by decide) rfl (fun ls hl => ?_)
              exact vX10_copy_71 bs D y n  r Gc  n x1 x2 x3 (0 : Int32) I J _ _ _ hP hS (lv_sub hl [1, 2, 3, 4, 0] rfl) h
            · replace h := if_f c58 h
              exact wX10_copy_61 bs D y n  r Gc   I J _ _ _ hP hS (lv_sub hl [0] rfl) h
    · replace h := if_f c15 h
      refine lv_aload_n hx hb dX10_copy_18 rfl (lv_at hl 0 rfl) ?_
      refine lv_bipush (v := (-4 : Int32)) hx hb dX10_copy_19 (by decide) ?_
      obtain ⟨r21, er21, h⟩ := bd_s1 h
      refine c_VI (k := 44) (ci := 10) (As := [.int (-4 : Int32)]) (rest := []) hx hb hml hown hts hK hN hL hP hS (cX10_no_ l bs D y hcb n (-4 : Int32) I J r21 er21) ok_X10_no ov_X10_no ml_118 ⟨Nat.le_of_ble_eq_true rfl, Nat.le_of_ble_eq_true rfl⟩ rfl hcb kd_44 hl.1 rfl rfl (Nat.le_of_ble_eq_true rfl) ⟨Nat.zero_le _, Nat.zero_le _⟩ dX10_copy_21 (fun H locs hP hS => ?_)
      exact r_I hx hb hr hlocks hP hK hN hL hS h dX10_copy_24
  · replace h := if_f c4 h
    refine lv_aload_n hx hb dX10_copy_7 rfl (lv_at hl 0 rfl) ?_
    refine lv_bipush (v := (-2 : Int32)) hx hb dX10_copy_8 (by decide) ?_
    obtain ⟨r10, er10, h⟩ := bd_s1 h
    refine c_VI (k := 44) (ci := 10) (As := [.int (-2 : Int32)]) (rest := []) hx hb hml hown hts hK hN hL hP hS (cX10_no_ l bs D y hcb n (-2 : Int32) I J r10 er10) ok_X10_no ov_X10_no ml_118 ⟨Nat.le_of_ble_eq_true rfl, Nat.le_of_ble_eq_true rfl⟩ rfl hcb kd_44 hl.1 rfl rfl (Nat.le_of_ble_eq_true rfl) ⟨Nat.zero_le _, Nat.zero_le _⟩ dX10_copy_10 (fun H locs hP hS => ?_)
    exact r_I hx hb hr hlocks hP hK hN hL hS h dX10_copy_13
theorem dX10_status_0 : decode cX10_status 0 = .ok (.iload_n 1, 1) := by decide +kernel
theorem dX10_status_1 : decode cX10_status 1 = .ok (.i2l, 1) := by decide +kernel
theorem dX10_status_2 : decode cX10_status 2 = .ok (.ldc2_w 350, 3) := by decide +kernel
theorem dX10_status_5 : decode cX10_status 5 = .ok (.ldc2_w 352, 3) := by decide +kernel
theorem dX10_status_8 : decode cX10_status 8 = .ok (.invokestatic 164, 3) := by decide +kernel
theorem dX10_status_11 : decode cX10_status 11 = .ok (.ifCond .eq 13, 3) := by decide +kernel
theorem dX10_status_14 : decode cX10_status 14 = .ok (.aload_n 0, 1) := by decide +kernel
theorem dX10_status_15 : decode cX10_status 15 = .ok (.getfield 29, 3) := by decide +kernel
theorem dX10_status_18 : decode cX10_status 18 = .ok (.iload_n 1, 1) := by decide +kernel
theorem dX10_status_19 : decode cX10_status 19 = .ok (.ineg, 1) := by decide +kernel
theorem dX10_status_20 : decode cX10_status 20 = .ok (.iaload, 1) := by decide +kernel
theorem dX10_status_21 : decode cX10_status 21 = .ok (.goto 9, 3) := by decide +kernel
theorem dX10_status_24 : decode cX10_status 24 = .ok (.aload_n 0, 1) := by decide +kernel
theorem dX10_status_25 : decode cX10_status 25 = .ok (.bipush (-7), 2) := by decide +kernel
theorem dX10_status_27 : decode cX10_status 27 = .ok (.invokevirtual 151, 3) := by decide +kernel
theorem dX10_status_30 : decode cX10_status 30 = .ok (.ireturn, 1) := by decide +kernel
set_option maxHeartbeats 4000000 in
set_option maxRecDepth 100000 in
theorem cX10_status_ (l : Launch) (bs : Nat) (D : va_G) (y : Y3) (hcb : 76 ≤ y.2.2.2) (n : Nat) (x1 : Int32) (I : MI) (J : MJ) (r : Int32 × M2) (h : fX10_status n x1 I J = some r) : Met l yX10_status (.code yX10_status cX10_status 2 (some .int) :: gtb) (rmm 1 25) (va_Pc [.ref (bs + 44), .int x1] (HB bs D y I J)) (QcI bs D y r) 0 0 (FA bs) := by
  refine Met.ofW (cc := cX10_status) (maxL := 2) (ret := (some .int)) (by decide) rfl ?_
  intro p e s m args below meth c s₁ B hml hv
  obtain ⟨rfl, hP, hK, hN, hL⟩ := hv
  have hx := B.exec
  have hb := B.bytes
  have hr := B.returns
  have hts0 := atoms_spec (ws := .code yX10_status cX10_status 2 (some .int) :: gtb) B.pre
  have hts : ∀ w ∈ gtb, w.before [.ref (bs + 44), .int x1].toArray s = true := fun w hw => hts0 w (List.mem_cons_of_mem _ hw)
  have hown : s.vm.findClass RX10 = some m.cls := findClass_of_methodNamed B.named
  have hlocks := B.notSynchronized
  have hS : va_S (FA bs) s.heap s.heap [] := va_S.rf
  have Gc : Gx p s m [.ref (bs + 44), .int x1].toArray meth c cX10_status 2 RX10 bs D y (some .int) 76 := ⟨hx, hb, hml, hown, hts, hK, hN, hL, hr, hlocks, hcb⟩
  have hl := lv_entry [.ref (bs + 44), .int x1] (n := 2) (Nat.le_of_ble_eq_true rfl)
  rw [lg_entry_eq]
  generalize (lg_sl [.ref (bs + 44), .int x1] ++ List.replicate (2 - (lg_sl [.ref (bs + 44), .int x1]).length) Slot.unset).toArray = ls at hl ⊢
  have hl : lv_has ls 2 [(0, .ref (bs + 44)), (1, .int x1)] := hl
  change W p l e (rmm 1 25) s m [.ref (bs + 44), .int x1].toArray below meth c s.heap [] 0 0 (QI below [.ref (bs + 44), .int x1].toArray s bs D y r) (F0 m 0 ls [])
  unfold fX10_status at h
  refine lv_iload_n hx hb dX10_status_0 rfl (lv_at hl 1 rfl) ?_
  refine lv_i2l (v := (x1).toInt64) hx hb dX10_status_1 rfl ?_
  refine lv_ldc2 hx hb hown (hts _ cl_19) dX10_status_2 ?_
  refine lv_ldc2 hx hb hown (hts _ cl_20) dX10_status_5 ?_
  obtain ⟨r8, er8, h⟩ := bd_s1 h
  refine c_SI (As := [.long (x1).toInt64, .long (-8 : Int64), .long (-2 : Int64)]) (rest := []) hx hb hml hown hts hK hN hL hP hS (cX10_isIn_ l bs D y hcb n (x1).toInt64 (-8 : Int64) (-2 : Int64) I J r8 er8) ok_X10_isIn ov_X10_isIn ml_120 ⟨Nat.le_of_ble_eq_true rfl, Nat.le_of_ble_eq_true rfl⟩ hl.1 rfl rfl (Nat.le_of_ble_eq_true rfl) ⟨Nat.zero_le _, Nat.zero_le _⟩ dX10_status_8 (fun H locs hP hS => ?_)
  refine lv_if_eq (tgt := 24) hx hb dX10_status_11 (by decide) (fun c11 => ?_) (fun c11 => ?_)
  · replace h := if_t c11 h
    refine lv_aload_n hx hb dX10_status_24 rfl (lv_at hl 0 rfl) ?_
    refine lv_bipush (v := (-7 : Int32)) hx hb dX10_status_25 (by decide) ?_
    obtain ⟨r27, er27, h⟩ := bd_s1 h
    refine c_VI (k := 44) (ci := 10) (As := [.int (-7 : Int32)]) (rest := []) hx hb hml hown hts hK hN hL hP hS (cX10_no_ l bs D y hcb n (-7 : Int32) r8.2.1 r8.2.2 r27 er27) ok_X10_no ov_X10_no ml_118 ⟨Nat.le_of_ble_eq_true rfl, Nat.le_of_ble_eq_true rfl⟩ rfl hcb kd_44 hl.1 rfl rfl (Nat.le_of_ble_eq_true rfl) ⟨Nat.zero_le _, Nat.zero_le _⟩ dX10_status_27 (fun H locs hP hS => ?_)
    exact r_I hx hb hr hlocks hP hK hN hL hS h dX10_status_30
  · replace h := if_f c11 h
    refine lv_aload_n hx hb dX10_status_14 rfl (lv_at hl 0 rfl) ?_
    refine g_R (C := RX10) (T := TX10) (N := 49) (ci := 10) 44 10 51 hx hb hts hown hK hP in_X10 rfl hcb okF_44_10 rfc_44_10 fl_140 dX10_status_15 ?_
    refine lv_iload_n hx hb dX10_status_18 rfl (lv_at hl 1 rfl) ?_
    refine lv_ineg hx hb dX10_status_19 ?_
    obtain ⟨hi20, h⟩ := if_s1 h
    refine a_I 51 hx hb hK hP hcb aln_51 hi20 dX10_status_20 ?_
    refine lv_goto (tgt := 30) hx hb dX10_status_21 (by decide) ?_
    exact r_I hx hb hr hlocks hP hK hN hL hS h dX10_status_30
