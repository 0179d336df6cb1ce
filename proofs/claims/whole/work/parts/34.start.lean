/-! from the entry of the law to its loop -/
theorem dL_law_0 : decode cL_law 0 = .ok (.new 7, 3) := by decide +kernel
theorem dL_law_3 : decode cL_law 3 = .ok (.dup, 1) := by decide +kernel
theorem dL_law_4 : decode cL_law 4 = .ok (.invokespecial 9, 3) := by decide +kernel
theorem dL_law_7 : decode cL_law 7 = .ok (.astore_n 1, 1) := by decide +kernel
theorem dL_law_8 : decode cL_law 8 = .ok (.new 10, 3) := by decide +kernel
theorem dL_law_11 : decode cL_law 11 = .ok (.dup, 1) := by decide +kernel
theorem dL_law_12 : decode cL_law 12 = .ok (.invokespecial 12, 3) := by decide +kernel
theorem dL_law_15 : decode cL_law 15 = .ok (.astore_n 2, 1) := by decide +kernel
theorem dL_law_16 : decode cL_law 16 = .ok (.iconst 0, 1) := by decide +kernel
theorem dL_law_17 : decode cL_law 17 = .ok (.istore_n 3, 1) := by decide +kernel
theorem ml_255 : Cond.methodLink RL 9 yX9_init ∈ gtb := gtb_mem (List.mem_append_right _ (List.mem_of_getElem? (i := 18) (by decide +kernel))) rfl
theorem ml_256 : Cond.methodLink RL 12 yX10_init ∈ gtb := gtb_mem (List.mem_append_right _ (List.mem_of_getElem? (i := 919) (by decide +kernel))) rfl
theorem lay_lb : Cond.laysStatic "ClothMaker$Tables" "LETTER_BITS" "[I" ∈ lw_tbl := List.mem_append_right _ (List.mem_of_getElem? (i := 535) (by decide +kernel))
def finM (I : MI) : MI := fun a => if a < 44 then I a else iniM a
set_option maxHeartbeats 4000000 in
set_option maxRecDepth 100000 in
theorem start_of {p : Program} {e : Env} {s : State} {m : MethodId} {below : List Frame} {meth : Method} {c : Code} (l : Launch) {b L : Nat} {xs : Nat → Int32} (C0 : lw_At p s m meth c b L xs) (n : Nat) (r : M2) (h1 : fX9_init n = some r) (h2 : lL_law_18 n L xs n (0 : Int32) (finM r.1) r.2 = some ()) : W p l e room_1 s m #[Value.ref b] below meth c s.heap [] 0 0 (lw_Z below #[Value.ref b] s) (entryFrame m ([Value.ref b] : List Value).toArray 4) := by
  obtain ⟨hx, hb, hr, hml, hown, hts0, hX, hbl, hlocks, hgv⟩ := id C0
  have hown : s.vm.findClass RL = some m.cls := hown
  have hts : ∀ w ∈ gtb, w.before #[Value.ref b] s = true := fun w hw => hts0 w (List.mem_filter.mp hw).1
  obtain ⟨c0, i0, k0⟩ := u_known (C := RX0) (T := TX0) (N := 3) (n := 3) hts in_X0 (hts _ ins_X0)
  obtain ⟨c1, i1, k1⟩ := u_known (C := RX1) (T := TX1) (N := 5) (n := 5) hts in_X1 (hts _ ins_X1)
  obtain ⟨c2, i2, k2⟩ := u_known (C := RX2) (T := TX2) (N := 10) (n := 10) hts in_X2 (hts _ ins_X2)
  obtain ⟨c3, i3, k3⟩ := u_known (C := RX3) (T := TX3) (N := 11) (n := 11) hts in_X3 (hts _ ins_X3)
  obtain ⟨c4, i4, k4⟩ := u_known (C := RX4) (T := TX4) (N := 3) (n := 3) hts in_X4 (hts _ ins_X4)
  obtain ⟨c5, i5, k5⟩ := u_known (C := RX5) (T := TX5) (N := 7) (n := 7) hts in_X5 (hts _ ins_X5)
  obtain ⟨c6, i6, k6⟩ := u_known (C := RX6) (T := TX6) (N := 6) (n := 6) hts in_X6 (hts _ ins_X6)
  obtain ⟨c7, i7, k7⟩ := u_known (C := RX7) (T := TX7) (N := 7) (n := 7) hts in_X7 (hts _ ins_X7)
  obtain ⟨c8, i8, k8⟩ := u_known (C := RX8) (T := TX8) (N := 6) (n := 6) hts in_X8 (hts _ ins_X8)
  obtain ⟨c9, i9, k9⟩ := u_known (C := RX9) (T := TX9) (N := 10) (n := 10) hts in_X9 (hts _ ins_X9)
  obtain ⟨c10, i10, k10⟩ := u_known (C := RX10) (T := TX10) (N := 49) (n := 49) hts in_X10 (hts _ ins_X10)
  obtain ⟨D, hKc⟩ : ∃ D : va_G, ∀ (k : Nat) (q : vw_C), vwCl[k]? = some q → u_Kn s q.1 q.2.1 q.2.2 (D.1 k) (D.2 k) := by
    refine ⟨(fun k => match k with | 0 => c0 | 1 => c1 | 2 => c2 | 3 => c3 | 4 => c4 | 5 => c5 | 6 => c6 | 7 => c7 | 8 => c8 | 9 => c9 | _ => c10, fun k => match k with | 0 => i0 | 1 => i1 | 2 => i2 | 3 => i3 | 4 => i4 | 5 => i5 | 6 => i6 | 7 => i7 | 8 => i8 | 9 => i9 | _ => i10), ?_⟩
    intro k q hq
    match k, hq with
    | 0, hq => cases hq; exact k0
    | 1, hq => cases hq; exact k1
    | 2, hq => cases hq; exact k2
    | 3, hq => cases hq; exact k3
    | 4, hq => cases hq; exact k4
    | 5, hq => cases hq; exact k5
    | 6, hq => cases hq; exact k6
    | 7, hq => cases hq; exact k7
    | 8, hq => cases hq; exact k8
    | 9, hq => cases hq; exact k9
    | 10, hq => cases hq; exact k10
    | k + 11, hq => simp [vwCl] at hq
  obtain ⟨cI, kI, pI, fI, gI, jI⟩ := Cond.arrayClass_spec (hts _ ac_int)
  obtain ⟨cJ, kJ, pJ, fJ, gJ, jJ⟩ := Cond.arrayClass_spec (hts _ ac_long)
  obtain ⟨cZ, kZ, pZ, fZ, gZ, jZ⟩ := Cond.arrayClass_spec (hts _ ac_boolean)
  have hK0 : ∀ q : Nat, va_K D vwCl (tyl (cI, cJ, cZ, q)) s := by
    intro q
    refine ⟨hKc, fun k x hk => ?_⟩
    match k, hk with
    | 0, hk => cases hk; exact ⟨fun N z => ⟨fun k h => (by cases h), kI, gI, pI, jI⟩, fI⟩
    | 1, hk => cases hk; exact ⟨fun N z => ⟨fun k h => (by cases h), kJ, gJ, pJ, jJ⟩, fJ⟩
    | 2, hk => cases hk; exact ⟨fun N z => ⟨fun k h => (by cases h), kZ, gZ, pZ, jZ⟩, fZ⟩
    | k + 3, hk => simp [tyl] at hk
  have hN : HN s := fun a i x h hm => va_Nw.of rfl (hts0 _ (List.mem_append_right _ hm))
  have hL : LB s.heap.size s s.heap := by
    have hs := flat_of_before _ hgv
    have hA : ∀ a : Nat, a < s.heap.size → ¬ (s.heap.size ≤ a) := fun a h => Nat.not_le.mpr h
    have e0 := va_eqt (hs (Cond.eq (.elem (.static "ClothMaker$Tables" "LETTER_BITS" "[I") (.int 0)) (.int 43690)) (by decide +kernel))
    have e1 := va_eqt (hs (Cond.eq (.elem (.static "ClothMaker$Tables" "LETTER_BITS" "[I") (.int 1)) (.int 52428)) (by decide +kernel))
    have e2 := va_eqt (hs (Cond.eq (.elem (.static "ClothMaker$Tables" "LETTER_BITS" "[I") (.int 2)) (.int 61680)) (by decide +kernel))
    have e3 := va_eqt (hs (Cond.eq (.elem (.static "ClothMaker$Tables" "LETTER_BITS" "[I") (.int 3)) (.int 65280)) (by decide +kernel))
    have el := va_eqt (hs (Cond.eq (.length (.static "ClothMaker$Tables" "LETTER_BITS" "[I")) (.int 4)) (by decide +kernel))
    obtain ⟨t, ht, hT⟩ := va_Tof (tm := .static "ClothMaker$Tables" "LETTER_BITS" "[I") (ty := .int) (N := 4) (f := fun j => .int (lbf j)) (A := fun q => s.heap.size ≤ q) (by decide) (hs (Cond.arrayOf (.static "ClothMaker$Tables" "LETTER_BITS" "[I") .int) (by decide +kernel)) el (fun j hj => by
      match j, hj with
      | 0, _ => exact e0
      | 1, _ => exact e1
      | 2, _ => exact e2
      | 3, _ => exact e3) hA
    exact ⟨t, va_Zof (hts0 _ lay_lb) (hts _ ini_X7) ht hA, hT⟩
  have Gc : GL p s m meth c b L xs s.heap.size D (cI, cJ, cZ, 76) := ⟨hx, hb, hml, hown, hts, hK0 76, hN, hL, hr, hlocks, Nat.le_refl 76, hX, hbl, rfl⟩
  have hS : va_S (FA s.heap.size) s.heap s.heap [] := va_S.rf
  have hP : va_P D vwCl (wc s.heap.size 0 (fun _ => .inr (0, []))) s.heap := fun k q h => by simp [wc] at h
  have hz : s.heap.size = s.heap.size + 0 := rfl
  have hl := lv_entry ([.ref b]) (n := 4) (Nat.le_of_ble_eq_true rfl)
  rw [lg_entry_eq]
  generalize (lg_sl ([.ref b]) ++ List.replicate (4 - (lg_sl ([.ref b])).length) Slot.unset).toArray = ls at hl ⊢
  have hl : lv_has ls 4 [(0, .ref b)] := hl
  have hK := hK0 44
  refine n_O (y := (cI, cJ, cZ, 44)) (K := RX9) (T := TX9) (N := 10) (ci := 9) tyX9 [.null, .null, .null, .null, .null, .null, .null, .null, .null, .null] hx hb hts hown hK hP hz hS in_X9 tyX9_ok kl_L_7 ins_X9 ini_X9 rfl (by decide) (Nat.le_of_ble_eq_true rfl) (Nat.le_of_ble_eq_true rfl) dL_law_0 (fun H hP hz hS => ?_)
  refine W.eq (g2 := F0 m 3 ls [.ref (s.heap.size + 0)]) rfl ?_
  refine W.widen (k := 1) (n := 10) (by omega) (by omega) ?_
  refine lv_dup hx hb dL_law_3 rfl ?_
  refine va_callv (va_runI (As := []) (rest := [.ref (s.heap.size + 0)]) (Ts := gtb) ⟨hx, hb, hml, hown, hts⟩ (iX9_init_ l s.heap.size D (cI, cJ, cZ, 44) rfl n _ cset_eq r h1) ⟨callB_of 0 hts (gtb_good ok_X9_init.1) rfl rfl rfl (hts _ ok_X9_init.2.1) (hts _ ml_255) ok_X9_init.2.2 ⟨Nat.le_of_ble_eq_true rfl, Nat.le_of_ble_eq_true rfl⟩, rfl, hts _ oi_X9_init⟩ ⟨HC.blind, fun U hU hW => ⟨rfl, HC.at hz hP hK hN hL hS hU hW⟩⟩ rfl rfl hl.1 rfl (lv_room (Nat.le_of_ble_eq_true rfl)) dL_law_4 ⟨Nat.le_of_ble_eq_true rfl, Nat.le_of_ble_eq_true rfl⟩) hS (fun _ _ h => h) (fun _ h => h) (fun _ t H locs ht hvm _ hB _ _ hS => ?_)
  refine W.eq (g2 := F0 m 7 ls [.ref (s.heap.size + 0)]) rfl ?_
  refine W.widen (k := 44) (n := 3021) (by omega) (by omega) ?_
  refine W.sized (fun hle => ?_)
  have hP : va_P D vwCl (wc s.heap.size 44 (cE s.heap.size (cI, cJ, cZ, 44) r.1 r.2)) H := by rw [← ht]; exact hB.1
  have hz : H.size = s.heap.size + 44 := by
    have h9 : s.heap.size + 43 < H.size := (hP 43 _ (wc_at (by decide))).lt
    omega
  refine lv_astore_n (lv' := [(1, .ref (s.heap.size + 0)), (0, .ref b)]) hx hb dL_law_7 rfl hl (by decide) rfl (fun ls hl => ?_)
  refine n_O (y := (cI, cJ, cZ, 44)) (K := RX10) (T := TX10) (N := 49) (ci := 10) tyX10 [.null, .null, .null, .null, .null, .null, .int 0, .int 0, .int 0, .int 0, .null, .int 0, .int 0, .int 0, .int 0, .int 0, .null, .null, .null, .null, .null, .null, .null, .null, .int 0, .int 0, .int 0, .int 0, .null, .null, .null, .null, .null, .null, .null, .null, .null, .null, .null, .null, .null, .null, .int 0, .int 0, .int 0, .int 0, .null, .null, .int 0] hx hb hts hown hK hP hz hS in_X10 tyX10_ok kl_L_10 ins_X10 ini_X10 rfl (by decide) (Nat.le_of_ble_eq_true rfl) (Nat.le_of_ble_eq_true rfl) dL_law_8 (fun H hP hz hS => ?_)
  refine W.eq (g2 := F0 m 11 ls [.ref (s.heap.size + 44)]) rfl ?_
  refine W.widen (k := 45) (n := 3070) (by omega) (by omega) ?_
  refine lv_dup hx hb dL_law_11 rfl ?_
  refine va_callv (va_runI (As := []) (rest := [.ref (s.heap.size + 44)]) (Ts := gtb) ⟨hx, hb, hml, hown, hts⟩ (iX10_init_ l s.heap.size D (cI, cJ, cZ, 44) r.2 _ cset_eq) ⟨callB_of 0 hts (gtb_good ok_X10_init.1) rfl rfl rfl (hts _ ok_X10_init.2.1) (hts _ ml_256) ok_X10_init.2.2 ⟨Nat.le_of_ble_eq_true rfl, Nat.le_of_ble_eq_true rfl⟩, rfl, hts _ oi_X10_init⟩ ⟨HC.blind, fun U hU hW => ⟨rfl, HC.at hz hP hK hN hL hS hU hW⟩⟩ rfl rfl hl.1 rfl (lv_room (Nat.le_of_ble_eq_true rfl)) dL_law_12 ⟨Nat.le_of_ble_eq_true rfl, Nat.le_of_ble_eq_true rfl⟩) hS (fun _ _ h => h) (fun _ h => h) (fun C1 t H locs ht hvm hw hB _ _ hS => ?_)
  obtain ⟨-, hP, -, -, -⟩ := hB
  rw [ht] at hP
  have hP : va_P D vwCl (wl s.heap.size (cI, cJ, cZ, 76) (finM r.1) r.2) H := by
    have h9 : wc s.heap.size 76 C1 = wc s.heap.size 76 (cE s.heap.size (cI, cJ, cZ, 76) (finM r.1) r.2) := wc_congr (fun a ha => by
      by_cases h3 : a < 44
      · rw [hw.1 a (by omega) (by omega), cset_ne (by omega)]
        have h4 : cE s.heap.size (cI, cJ, cZ, 76) (finM r.1) r.2 a = cE s.heap.size (cI, cJ, cZ, 76) r.1 r.2 a := cE_congr (if_pos h3) rfl
        rw [h4]
        rfl
      · rw [hw.2 a (by omega)]
        have h4 : cE s.heap.size (cI, cJ, cZ, 76) (finM r.1) r.2 a = cE s.heap.size (cI, cJ, cZ, 76) iniM r.2 a := cE_congr (if_neg h3) rfl
        rw [h4]
        rfl)
    have h8 : wl s.heap.size (cI, cJ, cZ, 76) (finM r.1) r.2 = wc s.heap.size 76 (cE s.heap.size (cI, cJ, cZ, 76) (finM r.1) r.2) := rfl
    rw [h8, ← h9]
    exact hP
  refine W.eq (g2 := F0 m 15 ls [.ref (s.heap.size + 44)]) rfl ?_
  refine W.widen (k := 76) (n := 8771) (by omega) (by omega) ?_
  refine lv_astore_n (lv' := [(2, .ref (s.heap.size + 44)), (1, .ref (s.heap.size + 0)), (0, .ref b)]) hx hb dL_law_15 rfl hl (by decide) rfl (fun ls hl => ?_)
  refine lv_iconst (v := (0 : Int32)) hx hb dL_law_16 (by decide) ?_
  refine lv_istore_n (lv' := [(3, .int (0 : Int32)), (2, .ref (s.heap.size + 44)), (1, .ref (s.heap.size + 0)), (0, .ref b)]) hx hb dL_law_17 rfl hl (by decide) rfl (fun ls hl => ?_)
  exact vL_law_18 s.heap.size D (cI, cJ, cZ, 76) n L xs () Gc n (0 : Int32) (finM r.1) r.2 _ _ _ hP hS (lv_sub hl [3, 2, 1, 0] rfl) h2
