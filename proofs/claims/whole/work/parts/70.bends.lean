/-! bend -/
theorem B_bend_ok (n : Nat) (hn : 2400 < n) : B_bend Inv n := by
  intro x i y m I J hI
  obtain ⟨v, hC, hM, hv⟩ := byte_why n hI x i
  unfold fX9_bend
  rw [hC]
  simp only [Option.bind_some, lt]
  rcases hv with rfl | rfl | ⟨rfl, t, st, fs, j, rfl, rfl, ht, hj, f2, f3, s1, s4, s3, T, hT, eT, htT, hf1⟩
  · rw [if_neg (by decide)]
    unfold fX9_bend_28
    rw [if_neg (by decide), ref_3]
    refine rr (j := 1) (f := fX10_bend n x i y) (by decide) hI ?_
    unfold fX10_bend fX10_bend_29
    rw [hM _ (up43 (by decide)) (up43 (by decide))]
    simp only [Option.bind_some, lt]
    rw [if_neg (by decide), if_neg (by decide), no_3]
    rfl
  · rw [if_neg (by decide)]
    unfold fX9_bend_28
    rw [if_neg (by decide), ref_2]
    refine rr (j := 0) (f := fX10_bend n x i y) (by decide) hI ?_
    unfold fX10_bend fX10_bend_29
    rw [hM _ (up43 (by decide)) (up43 (by decide))]
    simp only [Option.bind_some, lt]
    rw [if_neg (by decide), if_neg (by decide), no_2]
    rfl
  · rw [if_pos rfl, within_i]
    simp only [Option.bind_some, Int32.reduceToInt]
    by_cases hy : (1 : Int) ≤ y.toInt ∧ y.toInt ≤ 255
    case neg =>
      rw [if_pos (b2_f hy)]
      unfold fX9_bend_28
      rw [if_neg (by decide), ref_7]
      refine rr (j := 5) (f := fX10_bend n (nI t) (nI j) y) (by decide) hI ?_
      unfold fX10_bend fX10_bend_29
      rw [hM _ (up43 (by decide)) (up43 (by decide))]
      simp only [Option.bind_some, lt, if_true]
      rw [isIn_i]
      simp only [Option.bind_some, Int64.reduceToInt]
      rw [if_pos (b2_f hy), if_neg (by decide), no_7]
      rfl
    rw [if_neg (fun q => b2_0.mp q hy)]
    have pfr := hI.2.2.2
    obtain ⟨c, ni, nk, no, -, ⟨-, -, -, -, pfr, -⟩⟩ := pfr
    obtain ⟨T2, hT2, eT2, hall⟩ := pfr hf1
    have eTT : T2 = T := (nI_eq (by omega) (by omega)).mp (eT2.symm.trans eT)
    subst eTT
    have hall' : ∀ t, t < T2 → ∃ st fs, fOk I t st fs := hall
    obtain ⟨st2, fs2, g⟩ := hall' t htT
    have est : st2 = st := (nI_eq (by have := g.2.2.1; omega) (by omega)).mp (g.2.2.2.1.symm.trans s1)
    have efs : fs2 = fs := (nI_eq (by have := g.2.1; omega) (by omega)).mp (g.2.2.2.2.2.1.symm.trans s3)
    subst est
    subst efs
    obtain ⟨e35, b, hb, e68⟩ := g.2.2.2.2.2.2 j hj
    obtain ⟨k, k1, k2, rfl⟩ := nI_rng (a := 1) (b := 255) (by decide) hy
    have ex : ∃ v, v < 256 ∧ nI b ^^^ nI k = nI v := ⟨b ^^^ k, Nat.xor_lt_two_pow (n := 8) (by omega) (by omega), nx_xor b k⟩
    have e40 : (40 : Int32) * nI t + nI j = nI (40 * t + j) := by
      rw [show (40 : Int32) = nI 40 from rfl, pk_mul, nI_add]
    unfold fX9_bend_28
    simp only [lt, if_true, inb_nI (show t < 37 by omega) (by decide), clampI (show t < 2 ^ 31 by omega), s1, nI_add, inb_nI (show st2 + j < 324 by omega) (by decide), clampI (show st2 + j < 2 ^ 31 by omega), e35, e68]
    refine tot_some.mpr ?_
    dsimp only
    unfold fX10_bend fX10_bend_29
    rw [hM _ (upM_ne 44 (by decide)) (upM_ne 69 (by decide))]
    simp only [Option.bind_some, lt, if_true]
    rw [isIn_i]
    simp only [Option.bind_some, Int64.reduceToInt]
    rw [if_neg (fun q => b2_0.mp q hy), e40]
    simp only [inb_nI (show 40 * t + j < 1440 by omega) (by decide), if_true, clampI (show 40 * t + j < 2 ^ 31 by omega), upM_ne 68 (show (68 : Nat) ≠ 35 by decide), e68]
    refine tot_some.mpr ⟨?_, ?_⟩
    · dsimp only
      rw [upM_get, if_pos rfl, if_pos rfl, upM_get, if_pos rfl, if_pos rfl]
    · dsimp only
      exact Inv_byte (fun a p1 p2 => by rw [upM_ne a p2, upM_ne a p1]) (PF_bend hT2 eT2 hall' htT g hj ex) hI
