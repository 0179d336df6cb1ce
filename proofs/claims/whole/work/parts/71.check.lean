/-! check -/
theorem sum_both (n : Nat) {t st L : Nat} (ht : t < 36) (hL : L ≤ 36) (hst : st + L ≤ 323) (I I' : MI) (J J' : MJ) (h : ∀ j, j < L → I 35 (st + j) = I' 68 (40 * t + j)) (h69 : I' 69 t = nI (L + 1)) : ∀ d j (s : Int32), j + d = L → ∀ q q', d < q → d < q' → ∃ v, lX1_sumOf_5 n q (nI (st + L)) s (nI (st + j)) I J = some (v, I, J) ∧ lX10_sumOf_6 n q' (nI t) (255 - s) (nI j) I' J' = some (v, I', J') := by
  have eL : nI (L + 1) - 1 = nI L := pk_sub (a := L + 1) (b := 1) (by omega)
  intro d
  induction d with
  | zero =>
    intro j s hj q q' hq hq'
    obtain ⟨q, rfl⟩ : ∃ k, q = k + 1 := ⟨q - 1, by omega⟩
    obtain ⟨q', rfl⟩ : ∃ k, q' = k + 1 := ⟨q' - 1, by omega⟩
    refine ⟨(255 - s) &&& 255, ?_, ?_⟩
    · show fX1_sumOf_5 n (lX1_sumOf_5 n q) _ _ _ _ _ = _
      unfold fX1_sumOf_5
      rw [if_pos (nI_le (by omega) (by omega))]
    · show fX10_sumOf_6 n (lX10_sumOf_6 n q') _ _ _ _ _ = _
      unfold fX10_sumOf_6
      rw [if_pos (inb_nI ht (by decide)), clampI (by omega), h69, eL, if_pos (nI_le (by omega) (by omega))]
  | succ d ih =>
    intro j s hj q q' hq hq'
    obtain ⟨q, rfl⟩ : ∃ k, q = k + 1 := ⟨q - 1, by omega⟩
    obtain ⟨q', rfl⟩ : ∃ k, q' = k + 1 := ⟨q' - 1, by omega⟩
    obtain ⟨v, h1, h2⟩ := ih (j + 1) (s + I 35 (st + j)) (by omega) q q' (by omega) (by omega)
    refine ⟨v, ?_, ?_⟩
    · show fX1_sumOf_5 n (lX1_sumOf_5 n q) _ _ _ _ _ = _
      unfold fX1_sumOf_5
      rw [if_neg (nI_ge (by omega) (by omega)), if_pos (inb_nI (by omega) (by decide)), clampI (by omega), nI_1]
      exact h1
    · show fX10_sumOf_6 n (lX10_sumOf_6 n q') _ _ _ _ _ = _
      unfold fX10_sumOf_6
      have e40 : (40 : Int32) * nI t + nI j = nI (40 * t + j) := by rw [show (40 : Int32) = nI 40 from rfl, pk_mul, nI_add]
      rw [if_pos (inb_nI ht (by decide)), clampI (by omega), h69, eL, if_neg (nI_ge (by omega) (by omega)), e40, if_pos (inb_nI (by omega) (by decide)), clampI (by omega), nI_1, ← h j (by omega), Int32.sub_sub]
      exact h2
theorem chk_both (n : Nat) (hn : 2400 < n) {T : Nat} (hT : T ≤ 36) (I : MI) (J : MJ) (h16 : I 16 1 = nI T) (h44 : I 44 24 * I 44 25 = nI T) (hall : ∀ t, t < T → ∃ st fs, 1 ≤ fs ∧ fs ≤ 37 ∧ st + fs ≤ 324 ∧ I 36 t = nI st ∧ I 36 (t + 1) = nI (st + fs) ∧ I 69 t = nI fs ∧ ∀ j, j < fs → I 35 (st + j) = I 68 (40 * t + j)) : ∀ d t, t + d = T → ∀ q q', d < q → d < q' → ∃ v, lX1_firstWrongSum_2 n q (nI t) I J = some (v, I, J) ∧ lX10_check_16 n q' (nI t) I J = some (v, I, J) := by
  intro d
  induction d with
  | zero =>
    intro t htd q q' hq hq'
    obtain ⟨q, rfl⟩ : ∃ k, q = k + 1 := ⟨q - 1, by omega⟩
    obtain ⟨q', rfl⟩ : ∃ k, q' = k + 1 := ⟨q' - 1, by omega⟩
    refine ⟨-1, ?_, ?_⟩
    · show fX1_firstWrongSum_2 n (lX1_firstWrongSum_2 n q) _ _ _ = _
      unfold fX1_firstWrongSum_2
      rw [h16, if_pos (nI_le (by omega) (by omega))]
    · show fX10_check_16 n (lX10_check_16 n q') _ _ _ = _
      unfold fX10_check_16
      rw [tiles_eq]
      simp only [Option.bind_some, h44]
      rw [if_pos (nI_le (by omega) (by omega))]
  | succ d ih =>
    intro t htd q q' hq hq'
    obtain ⟨q, rfl⟩ : ∃ k, q = k + 1 := ⟨q - 1, by omega⟩
    obtain ⟨q', rfl⟩ : ∃ k, q' = k + 1 := ⟨q' - 1, by omega⟩
    obtain ⟨v, h1, h2⟩ := ih (t + 1) (by omega) q q' (by omega) (by omega)
    obtain ⟨st, fs, f1, f2, f3, s1, s2, s3, s4⟩ := hall t (by omega)
    obtain ⟨L, rfl⟩ : ∃ L, fs = L + 1 := ⟨fs - 1, by omega⟩
    obtain ⟨u, u1, u2⟩ := sum_both n (t := t) (st := st) (L := L) (by omega) (by omega) (by omega) I I J J (fun j hj => s4 j (by omega)) s3 L 0 0 (by omega) n n (by omega) (by omega)
    have e1 : nI (st + (L + 1)) - 1 = nI (st + L) := pk_sub (a := st + (L + 1)) (b := 1) (by omega)
    have e2 : (40 : Int32) * nI t + nI (L + 1) - 1 = nI (40 * t + L) := by
      rw [show (40 : Int32) = nI 40 from rfl, pk_mul, nI_add]
      exact pk_sub (a := 40 * t + (L + 1)) (b := 1) (by omega)
    have hA : fX1_sumOf n (nI st) (nI (st + L)) I J = some (u, I, J) := u1
    have hB : fX10_sumOf n (nI t) I J = some (u, I, J) := u2
    by_cases hv : I 35 (st + L) = u
    · refine ⟨v, ?_, ?_⟩
      · show fX1_firstWrongSum_2 n (lX1_firstWrongSum_2 n q) _ _ _ = _
        unfold fX1_firstWrongSum_2
        rw [h16, if_neg (nI_ge (by omega) (by omega)), nI_1, if_pos (inb_nI (by omega) (by decide)), clampI (by omega), s2, e1]
        simp only [lt]
        rw [if_pos (inb_nI (by omega) (by decide)), if_pos (inb_nI (by omega) (by decide)), clampI (by omega), clampI (by omega), s1, hA]
        simp only [Option.bind_some]
        rw [if_pos hv]
        exact h1
      · show fX10_check_16 n (lX10_check_16 n q') _ _ _ = _
        unfold fX10_check_16
        rw [tiles_eq]
        simp only [Option.bind_some, h44]
        rw [if_neg (nI_ge (by omega) (by omega)), if_pos (inb_nI (by omega) (by decide)), clampI (by omega)]
        simp only [s3, e2]
        rw [if_pos (inb_nI (by omega) (by decide)), clampI (by omega), hB]
        simp only [Option.bind_some]
        rw [if_pos (by rw [← s4 L (by omega)]; exact hv), nI_1]
        exact h2
    · refine ⟨nI t, ?_, ?_⟩
      · show fX1_firstWrongSum_2 n (lX1_firstWrongSum_2 n q) _ _ _ = _
        unfold fX1_firstWrongSum_2
        rw [h16, if_neg (nI_ge (by omega) (by omega)), nI_1, if_pos (inb_nI (by omega) (by decide)), clampI (by omega), s2, e1]
        simp only [lt]
        rw [if_pos (inb_nI (by omega) (by decide)), if_pos (inb_nI (by omega) (by decide)), clampI (by omega), clampI (by omega), s1, hA]
        simp only [Option.bind_some]
        rw [if_neg hv]
      · show fX10_check_16 n (lX10_check_16 n q') _ _ _ = _
        unfold fX10_check_16
        rw [tiles_eq]
        simp only [Option.bind_some, h44]
        rw [if_neg (nI_ge (by omega) (by omega)), if_pos (inb_nI (by omega) (by decide)), clampI (by omega)]
        simp only [s3, e2]
        rw [if_pos (inb_nI (by omega) (by decide)), clampI (by omega), hB]
        simp only [Option.bind_some]
        rw [if_neg (by rw [← s4 L (by omega)]; exact hv)]
theorem B_check_ok (n : Nat) (hn : 2400 < n) : B_check Inv n := by
  intro m I J hI
  obtain ⟨pr, pq, pf, c, ni, nk, no, pn, ⟨pu, pg, pw, pp, pfr, pe⟩⟩ := id hI
  obtain ⟨w, h, r, k, ⟨w1, w2, g1, g2, o1, o2, c1, c2⟩, ⟨e24, e25, e26, e27⟩, hgr, -, -, -⟩ := pg
  have hwh := wh_le w2 g2
  have f34 := pf.1.2.2.2
  unfold fX9_check
  by_cases hf : I 34 0 = 0
  · rw [if_pos hf, ref_2]
    simp only [Option.bind_some]
    refine rr (j := 0) (f := fX10_check n) (by decide) hI ?_
    unfold fX10_check
    rw [up43 (show (44 : Nat) ≠ 43 by decide), if_pos (by rw [← f34]; exact hf), no_2]
    rfl
  have hf1 : I 44 14 = 1 := pf.2.1.2.2.2.resolve_left (by rw [← f34]; exact hf)
  obtain ⟨T, hT, eT, hall⟩ := pfr hf1
  have hTT : T = w * h := (nI_eq (by omega) (by omega)).mp (eT.symm.trans hgr.2.1)
  obtain ⟨v, v1, v2⟩ := chk_both n hn hT I J eT (by rw [e24, e25, pk_mul, hTT]) (fun t ht => by
    obtain ⟨st, fs, f1, f2, f3, s1, s2, s3, s4⟩ := hall t ht
    exact ⟨st, fs, f1, f2, f3, s1, s2, s3, fun j hj => (s4 j hj).1⟩) T 0 (by omega) n n (by omega) (by omega)
  have hA : fX1_firstWrongSum n I J = some (v, I, J) := v1
  rw [if_neg hf, hA]
  simp only [Option.bind_some]
  refine tot_some.mpr ?_
  show tot (fX10_check n I J) _
  have hB : fX10_check n I J = some (v, I, J) := by
    unfold fX10_check
    rw [if_neg (by rw [hf1]; decide)]
    exact v2
  rw [hB]
  exact tot_some.mpr ⟨rfl, Inv_dec m I J hI⟩
