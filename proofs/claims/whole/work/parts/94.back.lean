/-! back -/
/-- where a thing's bytes lie, on both sides -/
theorem fr_at {m c : Nat} {I : MI} {J : MJ} (hI : Inv m I J) (hc : c ≤ 32) (h6 : I 44 6 = nI c) (h14 : I 44 14 = 1) {i : Nat} (hi : i < c) (hth : thg I i) (hs12 : I 45 i = 1 ∨ I 45 i = 2) : ∃ p q L, p + L ≤ 324 ∧ q + L ≤ 1440 ∧ I 37 i = nI p ∧ I 70 i + 3 = nI q ∧ (∀ j, j < L → I 35 (p + j) = I 68 (q + j) ∧ ∃ v, v < 256 ∧ I 68 (q + j) = nI v) ∧ (I 45 i = 1 → 1 ≤ L) ∧ (I 45 i = 2 → ∃ k, k ≤ 4 ∧ I 57 i = nI k ∧ k + 2 ≤ L) := by
  obtain ⟨pr, pq, pf, c', ni, nk, no, pn, ⟨pu, pg, pw, pp, pfr, pe⟩⟩ := id hI
  have hc'' := pn.1.1
  obtain rfl : c' = c := (nI_eq (by omega) (by omega)).mp (pn.2.1.2.1.symm.trans h6)
  have h12 := pf.2.2.2.2 h14
  obtain ⟨T, hT, eT, hall⟩ := pfr h14
  obtain ⟨t, st, fs, o, q1, ⟨q0, q0'⟩, q2, q3, q4, q5, q6, q7, q8⟩ := pe.2.2.2.1.1 h14 i hi hth
  obtain ⟨s1, s2, s3, s4, s5, s6⟩ := pe.2.2.1 h12
  obtain ⟨t', y1, y2, y3⟩ := s3 i hi hth
  obtain rfl : t' = t := (nI_eq (by omega) (by omega)).mp (y2.symm.trans q2)
  rw [eT] at y3
  have htT := (nI_ltI (by omega) (by omega)).mp y3
  obtain ⟨st', fs', f1, f2, f3, z1, z2, z3, z4⟩ := hall t' htT
  obtain rfl : st' = st := (nI_eq (by omega) (by omega)).mp (z1.symm.trans q3)
  obtain rfl : fs' = fs := (nI_eq (by omega) (by omega)).mp (z3.symm.trans q4)
  have ho : o + 3 ≤ fs' := by
    rcases hs12 with hs | hs
    · have := q7 hs; omega
    · obtain ⟨k, k1, k2, k3⟩ := q8 hs
      omega
  refine ⟨st' + o + 3, 40 * t' + o + 3, fs' - (o + 3), by omega, by omega, q5, ?_, fun j hj => ?_, fun hs => ?_, fun hs => ?_⟩
  · rw [q6, show (3 : Int32) = nI 3 from rfl, nI_add]
  · have := z4 (o + 3 + j) (by omega)
    rw [show st' + o + 3 + j = st' + (o + 3 + j) by omega, show 40 * t' + o + 3 + j = 40 * t' + (o + 3 + j) by omega]
    exact this
  · have := q7 hs; omega
  · obtain ⟨k, k1, k2, k3⟩ := q8 hs
    exact ⟨k, k1, k2, by omega⟩
/-- a table's bits there, on both sides -/
theorem bits_both (n : Nat) {m c : Nat} {I : MI} {J : MJ} (hI : Inv m I J) (hc : c ≤ 32) (h6 : I 44 6 = nI c) (h14 : I 44 14 = 1) {i : Nat} (hi : i < c) (hs : I 45 i = 2) (h55 : ¬ I 55 i = 0) (h12 : I 12 i = I 57 i) (K L : MI) (hK : K 12 = I 12 ∧ K 35 = I 35 ∧ K 37 = I 37) (hL : L 57 = I 57 ∧ L 68 = I 68 ∧ L 70 = I 70) : ∃ b : Int32, fX1_bitsThere n (nI i) K J = some (b, K, J) ∧ fX10_bitsThere n (nI i) L J = some (b, L, J) := by
  obtain ⟨p, q, N, l1, l2, e37, e70, hby, -, h2⟩ := fr_at hI hc h6 h14 hi (Or.inr h55) (Or.inr hs)
  obtain ⟨k, k1, k2, k3⟩ := h2 hs
  refine ⟨I 35 (p + k) ||| I 35 (p + (k + 1)) <<< ((8 : Int32) &&& 31), ?_, ?_⟩
  · unfold fX1_bitsThere
    rw [if_pos (inb_nI (by omega) (by decide)), if_pos (inb_nI (by omega) (by decide)), clampI (by omega), hK.1, hK.2.1, hK.2.2, e37, h12, k2, nI_add]
    simp only [lt]
    rw [if_pos (inb_nI (by omega) (by decide)), nI_1, if_pos (inb_nI (by omega) (by decide)), clampI (by omega), clampI (by omega), Nat.add_assoc]
  · unfold fX10_bitsThere
    rw [if_pos (inb_nI (by omega) (by decide)), if_pos (inb_nI (by omega) (by decide)), clampI (by omega), hL.1, hL.2.1, hL.2.2, e70, k2, nI_add]
    simp only [lt]
    rw [if_pos (inb_nI (by omega) (by decide)), nI_1, if_pos (inb_nI (by omega) (by decide)), clampI (by omega), clampI (by omega), Nat.add_assoc, (hby k (by omega)).1, (hby (k + 1) (by omega)).1]
theorem B_back_ok (n : Nat) (hn : 2400 < n) : B_back Inv n := by
  intro m I J hI
  obtain ⟨pr, pq, pf, c, ni, nk, no, pn, ⟨pu, pg, pw, pp, pfr, pe⟩⟩ := id hI
  have hc := pn.1.1
  have h5 := pn.2.1.1
  have h6 := pn.2.1.2.1
  have f34 := pf.1.2.2.2
  unfold fX9_back
  by_cases hf : I 34 0 = 0
  · rw [if_pos hf, ref_2]
    simp only [Option.bind_some]
    refine rr (j := 0) (f := fX10_back n) (by decide) hI ?_
    unfold fX10_back
    rw [up43 (show (44 : Nat) ≠ 43 by decide), if_pos (by rw [← f34]; exact hf), no_2]
    rfl
  have h14 : I 44 14 = 1 := pf.2.1.2.2.2.resolve_left (by rw [← f34]; exact hf)
  have h12 := pf.2.2.2.2 h14
  have h11 := pf.2.2.1 h12
  obtain ⟨no', K, D, W, t1, t2, k1, hW, t3, t4, t5, t6⟩ := pe.2.1 h11
  have hwf := kOk_wf hc k1
  have hK : ∀ g, g < c → I 2 g = 2 → (K g).2 0 < 2 ^ g := fun g hg hs => ((hwf g hg).1.2.2 0 ((hwf g hg).2.2 hs)).1
  have both : ∀ d k s, k + d = c → ∀ q q', d < q → d < q' → ∃ v, lX1_strangeTables_5 n q s (nI k) I J = some (v, I, J) ∧ lX10_back_18 n q' s (nI k) I J = some (v, I, J) := by
    intro d
    induction d with
    | zero =>
      intro k s hk q q' hq hq'
      obtain ⟨q, rfl⟩ : ∃ z, q = z + 1 := ⟨q - 1, by omega⟩
      obtain ⟨q', rfl⟩ : ∃ z, q' = z + 1 := ⟨q' - 1, by omega⟩
      refine ⟨s, ?_, ?_⟩
      · show fX1_strangeTables_5 n (lX1_strangeTables_5 n q) _ _ _ _ = _
        unfold fX1_strangeTables_5
        rw [h5, if_pos (nI_le (by omega) (by omega))]
      · show fX10_back_18 n (lX10_back_18 n q') _ _ _ _ = _
        unfold fX10_back_18
        rw [h6, if_pos (nI_le (by omega) (by omega))]
    | succ d ih =>
      intro k s hk q q' hq hq'
      obtain ⟨q, rfl⟩ : ∃ z, q = z + 1 := ⟨q - 1, by omega⟩
      obtain ⟨q', rfl⟩ : ∃ z, q' = z + 1 := ⟨q' - 1, by omega⟩
      have hk' : k < c := by omega
      have e1 : lX1_strangeTables_5 n (q + 1) s (nI k) I J = fX1_strangeTables_5 n (lX1_strangeTables_5 n q) s (nI k) I J := rfl
      have e2 : lX10_back_18 n (q' + 1) s (nI k) I J = fX10_back_18 n (lX10_back_18 n q') s (nI k) I J := rfl
      rw [e1, e2]
      unfold fX1_strangeTables_5 fX1_strangeTables_43 fX10_back_18 fX10_back_64 fX10_back_65
      rw [h5, h6, if_neg (nI_ge (by omega) (by omega)), if_neg (nI_ge (by omega) (by omega)), isTable_eq n (by omega), t3 k (by omega), if_pos (inb_nI (by omega) (by decide)), clampI (by omega), nI_1]
      simp only [Option.bind_some, lt]
      obtain ⟨v0, a1, a2⟩ := ih (k + 1) s (by omega) q q' (by omega) (by omega)
      obtain ⟨v1, b1, b2'⟩ := ih (k + 1) (s + 1) (by omega) q q' (by omega) (by omega)
      have hs0 : s + 0 = s := Int32.add_zero s
      by_cases hw : W k = true
      · have hs2 := (tw_lt hK c (Nat.le_refl _) k ((hW k).mp hw)).2
        have h45 : I 45 k = 2 := by rw [(pn.2.2.1 k hk').1]; exact hs2
        have h55 : ¬ I 55 k = 0 := by rw [t4 k hk', if_pos hw]; decide
        obtain ⟨y1, y2, y3, b, y4, y5, y6⟩ := t6 k hk' hw
        obtain ⟨B, B1, B2⟩ := bits_both n hI hc h6 h14 hk' h45 h55 (by rw [y1, y2]) I I ⟨rfl, rfl, rfl⟩ ⟨rfl, rfl, rfl⟩
        rw [b2_t hw, if_neg (by decide), B1, if_pos h45, if_pos (inb_nI (by omega) (by decide)), if_neg h55, B2]
        simp only [Option.bind_some]
        rw [if_pos (inb_nI (by omega) (by decide)), if_pos (inb_nI (by omega) (by decide)), y5, y6, hs0]
        by_cases hB : B = nI b
        · rw [if_pos hB, if_pos hB]
          exact ⟨v0, a1, a2⟩
        · rw [if_neg hB, if_neg hB]
          exact ⟨v1, b1, b2'⟩
      · have h55 : I 55 k = 0 := by rw [t4 k hk', if_neg hw]
        rw [b2_f hw, if_pos rfl, hs0]
        refine ⟨v0, a1, ?_⟩
        by_cases h45 : I 45 k = 2
        · rw [if_pos h45, if_pos (inb_nI (by omega) (by decide)), if_pos h55]
          exact a2
        · rw [if_neg h45]
          exact a2
  obtain ⟨v, v1, v2⟩ := both c 0 0 (by omega) n n (by omega) (by omega)
  have hA : fX1_strangeTables n I J = some (v, I, J) := v1
  rw [if_neg hf, hA]
  simp only [Option.bind_some]
  refine tot_some.mpr ?_
  show tot (fX10_back n I J) _
  have hB : fX10_back n I J = some (v, I, J) := by
    unfold fX10_back
    rw [if_neg (by rw [h14]; decide)]
    exact v2
  rw [hB]
  exact tot_some.mpr ⟨rfl, Inv_dec m I J hI⟩
