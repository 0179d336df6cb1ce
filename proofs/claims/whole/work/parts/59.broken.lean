/-! broken -/
theorem bl_or (x y : Int64) (i : Nat) : bl (x ||| y) i = (bl x i || bl y i) := by unfold bl; rw [Int64.toBitVec_or, BitVec.getLsbD_or]
theorem bl_and (x y : Int64) (i : Nat) : bl (x &&& y) i = (bl x i && bl y i) := by unfold bl; rw [Int64.toBitVec_and, BitVec.getLsbD_and]
theorem bl_xor (x y : Int64) (i : Nat) : bl (x ^^^ y) i = (bl x i ^^ bl y i) := by unfold bl; rw [Int64.toBitVec_xor, BitVec.getLsbD_xor]
theorem bl_m1 {i : Nat} (hi : i < 64) : bl (-1) i = true := by
  have : ∀ i, i < 64 → bl (-1) i = true := by decide +kernel
  exact this i hi
theorem bl_sh {t i : Nat} (ht : t < 64) (hi : i < 64) : bl (shlL 1 (nI t)) i = decide (i = t) := by
  have : ∀ t, t < 64 → ∀ i, i < 64 → bl (shlL 1 (nI t)) i = decide (i = t) := by decide +kernel
  exact this t ht i hi
theorem tile_no {n T : Nat} {x : Int32} {I : MI} {J : MJ} (hT : T < 2 ^ 31) (h : I 16 1 = nI T) (hx : ¬ ∃ o, o < T ∧ x = nI o) : fX2_hasTile n x I J = some (0, I, J) := by
  rw [hasTile_eq, h, b2_f (fun q => hx ((inP hT).mp q))]
theorem tile_yes {n T o : Nat} {I : MI} {J : MJ} (hT : T < 2 ^ 31) (h : I 16 1 = nI T) (ho : o < T) : fX2_hasTile n (nI o) I J = some (1, I, J) := by
  rw [hasTile_eq, h, b2_t ((inP hT).mpr ⟨o, ho, rfl⟩)]
theorem isTile_no {n w h : Nat} {x : Int32} {I : MI} {J : MJ} (hT : w * h < 2 ^ 31) (hw : I 44 24 = nI w) (hh : I 44 25 = nI h) (hx : ¬ ∃ o, o < w * h ∧ x = nI o) : fX10_isTile n x I J = some (0, I, J) := by
  rw [isTile_eq, hw, hh, pk_mul, b2_f (fun q => hx ((inP hT).mp q))]
theorem isTile_yes {n w h o : Nat} {I : MI} {J : MJ} (hT : w * h < 2 ^ 31) (hw : I 44 24 = nI w) (hh : I 44 25 = nI h) (ho : o < w * h) : fX10_isTile n (nI o) I J = some (1, I, J) := by
  rw [isTile_eq, hw, hh, pk_mul, b2_t ((inP hT).mpr ⟨o, ho, rfl⟩)]
theorem B_broken_ok (n : Nat) : B_broken Inv n := by
  intro x z hz01 m I J hI
  obtain ⟨pr, pq, pf, c, ni, nk, no, pn, ⟨pu, pg, pz⟩⟩ := id hI
  obtain ⟨w, h, r, k, ⟨w1, w2, g1, g2, o1, o2, c1, c2⟩, ⟨e24, e25, e26, e27⟩, hgr, hb01, hbz, hbl⟩ := pg
  have hwh := wh_le w2 g2
  unfold fX9_broken
  by_cases hx : ∃ o, o < w * h ∧ x = nI o
  case neg =>
    rw [tile_no (T := w * h) (by omega) hgr.2.1 hx]
    simp only [Option.bind_some, if_true]
    rw [ref_3]
    refine rr (j := 1) (f := fX10_broken n x z) (by decide) hI ?_
    unfold fX10_broken
    rw [isTile_no (w := w) (h := h) (by omega) (by rw [up43 (by decide)]; exact e24) (by rw [up43 (by decide)]; exact e25) hx]
    simp only [Option.bind_some, if_true]
    rw [no_3]
    rfl
  obtain ⟨t, ht, rfl⟩ := hx
  rw [tile_yes (T := w * h) (by omega) hgr.2.1 ht]
  simp only [Option.bind_some]
  rw [if_neg (by decide), isBroken_eq n (by omega)]
  simp only [Option.bind_some]
  have hbr : bl (J 16 9) t = true ↔ I 60 t = 1 := by
    rw [hbl t (by omega)]
    simp [show t < 36 by omega]
  -- what the class leaves
  have hA : ∃ N : Int64, (∀ i, i < 64 → bl N i = if i = t then decide (z = 1) else bl (J 16 9) i) ∧ fX2_breakTile n (nI t) z I J = some (I, upN J 16 9 N) := by
    unfold fX2_breakTile fX2_breakTile_28
    simp only [lt]
    rcases hz01 with rfl | rfl
    · refine ⟨J 16 9 &&& (shlL 1 (nI t) ^^^ -1), fun i hi => ?_, by rw [if_pos rfl]⟩
      rw [bl_and, bl_xor, bl_sh (by omega) hi, bl_m1 hi]
      by_cases hit : i = t
      · simp [hit]
      · simp [hit]
    · refine ⟨J 16 9 ||| shlL 1 (nI t), fun i hi => ?_, by rw [if_neg (by decide)]⟩
      rw [bl_or, bl_sh (by omega) hi]
      by_cases hit : i = t
      · simp [hit]
      · simp [hit]
  obtain ⟨N, hN, hA⟩ := hA
  have h34 : ∀ s : Int32, fX9_broken_34 n (nI t) z s I J = some (s, upM (upM (upM I 22 0 0) 28 0 0) 34 0 0, upN J 16 9 N) := by
    intro s
    unfold fX9_broken_34
    rw [hA]
    simp only [Option.bind_some]
    rw [forgetPlaces_eq]
    rfl
  have hbzz : bz z = z := by rcases hz01 with rfl | rfl <;> decide
  have hM : ∀ s : Int32, (if I 60 t = 0 then (0 : Int32) else 1) = s → fX10_broken n (nI t) z (upM (upM (upM I 22 0 0) 28 0 0) 34 0 0) (upN J 16 9 N) = some (s, upM (upM (upM (upM (upM (upM (upM I 22 0 0) 28 0 0) 34 0 0) 60 t z) 44 12 0) 44 13 0) 44 14 0, upN J 16 9 N) := by
    intro s hs
    unfold fX10_broken fX10_broken_29
    rw [isTile_yes (w := w) (h := h) (by omega) (by rw [upM_ne 44 (by decide), upM_ne 44 (by decide), upM_ne 44 (by decide)]; exact e24) (by rw [upM_ne 44 (by decide), upM_ne 44 (by decide), upM_ne 44 (by decide)]; exact e25) ht]
    simp only [Option.bind_some, lt, inb_nI (show t < 36 by omega) (by decide), if_true, clampI (show t < 2 ^ 31 by omega), upM_ne 60 (show (60 : Nat) ≠ 34 by decide), upM_ne 60 (show (60 : Nat) ≠ 28 by decide), upM_ne 60 (show (60 : Nat) ≠ 22 by decide), hbzz]
    rw [if_neg (by decide)]
    by_cases q : I 60 t = 0
    · rw [if_pos q, unset_eq]
      rw [if_pos q] at hs
      subst hs
      rfl
    · rw [if_neg q, unset_eq]
      rw [if_neg q] at hs
      subst hs
      rfl
  have hfin : Inv m (upM (upM (upM (upM (upM (upM (upM I 22 0 0) 28 0 0) 34 0 0) 60 t z) 44 12 0) 44 13 0) 44 14 0) (upN J 16 9 N) := by
    refine Inv_unset (J := J) (fun a q0 q1 q2 q3 q4 q5 => ?_) ?_ ?_ ?_ (fun j q1 q2 q3 q4 => ?_) ⟨?_, ?_, ?_⟩ rfl ?_ hI
    · rw [upM_ne a q5, upM_ne a q5, upM_ne a q5, upM_ne a q1, upM_ne a q4, upM_ne a q3, upM_ne a q2]
    · simp [upM_get]
    · simp [upM_get]
    · simp [upM_get]
    · simp [upM_get, q1, q2, q3]
    · simp [upM_get]
    · simp [upM_get]
    · simp [upM_get]
    · have hXc : ∀ a, 16 ≤ a → a ≤ 21 → upM (upM (upM (upM (upM (upM (upM I 22 0 0) 28 0 0) 34 0 0) 60 t z) 44 12 0) 44 13 0) 44 14 0 a = I a := by
        intro a p1 p2
        rw [upM_ne a (by omega), upM_ne a (by omega), upM_ne a (by omega), upM_ne a (by omega), upM_ne a (by omega), upM_ne a (by omega), upM_ne a (by omega)]
      have h60 : ∀ s, upM (upM (upM (upM (upM (upM (upM I 22 0 0) 28 0 0) 34 0 0) 60 t z) 44 12 0) 44 13 0) 44 14 0 60 s = if s = t then z else I 60 s := by
        intro s
        simp [upM_get]
      refine ⟨w, h, r, k, ⟨w1, w2, g1, g2, o1, o2, c1, c2⟩, ⟨?_, ?_, ?_, ?_⟩, ?_, fun s hs => ?_, fun s hs1 hs => ?_, fun s hs => ?_⟩
      · simp [upM_get, e24]
      · simp [upM_get, e25]
      · simp [upM_get, e26]
      · simp [upM_get, e27]
      · unfold grOk colOk dnOk
        rw [hXc 16 (by decide) (by decide), hXc 17 (by decide) (by decide), hXc 18 (by decide) (by decide), hXc 19 (by decide) (by decide), hXc 20 (by decide) (by decide), hXc 21 (by decide) (by decide)]
        exact hgr
      · rw [h60]
        by_cases q : s = t
        · rw [if_pos q]; exact hz01
        · rw [if_neg q]; exact hb01 s hs
      · rw [h60, if_neg (by omega)]
        exact hbz s hs1 hs
      · rw [upN_get, if_pos rfl, if_pos rfl, hN s hs, h60]
        by_cases q : s = t
        · subst q
          simp [show s < 36 by omega]
        · simp only [if_neg q]
          exact hbl s hs
  by_cases q : bl (J 16 9) t = true
  · have e1 : I 60 t = 1 := hbr.mp q
    rw [b2_t q, if_neg (by decide), h34]
    refine tot_some.mpr ?_
    dsimp only
    rw [hM 1 (by rw [e1]; decide)]
    exact tot_some.mpr ⟨rfl, hfin⟩
  · have e0 : I 60 t = 0 := (hb01 t (by omega)).resolve_right (fun e => q (hbr.mpr e))
    rw [b2_f q, if_pos rfl, h34]
    refine tot_some.mpr ?_
    dsimp only
    rw [hM 0 (by rw [e0]; decide)]
    exact tot_some.mpr ⟨rfl, hfin⟩
