/-! octet -/
theorem byte_why (n : Nat) {m : Nat} {I : MI} {J : MJ} (hI : Inv m I J) (x i : Int32) : ∃ v : Int32, fX9_wrongByte n x i I J = some (v, I, J) ∧ (∀ I' : MI, I' 44 = I 44 → I' 69 = I 69 → fX10_whyNoByte n x i I' J = some (v, I', J)) ∧ (v = -3 ∨ v = -2 ∨ (v = 0 ∧ ∃ t st fs j, x = nI t ∧ i = nI j ∧ t < 36 ∧ j < fs ∧ fs ≤ 37 ∧ st + fs ≤ 324 ∧ I 36 t = nI st ∧ I 35 (st + j) = I 68 (40 * t + j) ∧ I 69 t = nI fs ∧ ∃ T, T ≤ 36 ∧ I 16 1 = nI T ∧ t < T ∧ I 44 14 = 1)) := by
  obtain ⟨pr, pq, pf, c, ni, nk, no, pn, ⟨pu, pg, pw, pp, pfr, pe⟩⟩ := id hI
  obtain ⟨w, h, r, k, ⟨w1, w2, g1, g2, o1, o2, c1, c2⟩, ⟨e24, e25, e26, e27⟩, hgr, -, -, -⟩ := pg
  have hwh := wh_le w2 g2
  have f34 := pf.1.2.2.2
  unfold fX9_wrongByte fX9_wrongByte_43
  by_cases hx : ∃ o, o < w * h ∧ x = nI o
  case neg =>
    refine ⟨-3, ?_, fun I' a1 a2 => ?_, Or.inl rfl⟩
    · rw [tile_no (T := w * h) (by omega) hgr.2.1 hx]
      rfl
    · unfold fX10_whyNoByte
      rw [isTile_no (w := w) (h := h) (by omega) (by rw [a1]; exact e24) (by rw [a1]; exact e25) hx]
      rfl
  obtain ⟨t, ht, rfl⟩ := hx
  rw [tile_yes (T := w * h) (by omega) hgr.2.1 ht]
  simp only [Option.bind_some]
  rw [if_neg (by decide)]
  by_cases hf : I 34 0 = 0
  · rw [if_pos hf]
    refine ⟨-2, rfl, fun I' a1 a2 => ?_, Or.inr (Or.inl rfl)⟩
    unfold fX10_whyNoByte
    rw [isTile_yes (w := w) (h := h) (by omega) (by rw [a1]; exact e24) (by rw [a1]; exact e25) ht]
    simp only [Option.bind_some, a1]
    rw [if_neg (by decide), if_pos (by rw [← f34]; exact hf)]
  have hf1 : I 44 14 = 1 := pf.2.1.2.2.2.resolve_left (by rw [← f34]; exact hf)
  obtain ⟨T, hT, eT, hall⟩ := pfr hf1
  have hTT : T = w * h := (nI_eq (by omega) (by omega)).mp (eT.symm.trans hgr.2.1)
  obtain ⟨st, fs, f1, f2, f3, s1, s2, s3, s4⟩ := hall t (by omega)
  have hM : ∀ I' : MI, I' 44 = I 44 → I' 69 = I 69 → fX10_whyNoByte n (nI t) i I' J = some (if 0 ≤ i.toInt ∧ i.toInt < fs then 0 else -3, I', J) := by
    intro I' a1 a2
    unfold fX10_whyNoByte
    rw [isTile_yes (w := w) (h := h) (by omega) (by rw [a1]; exact e24) (by rw [a1]; exact e25) ht]
    simp only [Option.bind_some, a1, a2]
    rw [if_neg (by decide), if_neg (by rw [hf1]; decide), if_pos (inb_nI (by omega) (by decide)), clampI (by omega), s3, isIn_i]
    simp only [Option.bind_some, Int64.reduceToInt]
    have e1 : (nI fs - 1).toInt64.toInt = (fs : Int) - 1 := by
      rw [Int32.toInt_toInt64]
      exact pk_sub_toInt (a := fs) (b := 1) (by omega) (by decide)
    rw [e1]
    by_cases q : 0 ≤ i.toInt ∧ i.toInt < fs
    · rw [if_neg (fun z => b2_0.mp z ⟨q.1, by omega⟩), if_pos q]
    · rw [if_pos (b2_f (fun z => q ⟨z.1, by omega⟩)), if_neg q]
  have hlen : fX1_lengthOf n (nI t) I J = some (nI fs, I, J) := by
    unfold fX1_lengthOf
    rw [nI_1, if_pos (inb_nI (by omega) (by decide)), if_pos (inb_nI (by omega) (by decide)), clampI (by omega), clampI (by omega), s1, s2, pk_sub (by omega), Nat.add_sub_cancel_left]
  rw [if_neg hf, hlen]
  simp only [Option.bind_some]
  by_cases q : 0 ≤ i.toInt ∧ i.toInt < fs
  · rw [if_neg (fun z => by have := lt0.mp z; omega), if_pos ((lt_n (by omega)).mpr q.2)]
    obtain ⟨j, hj, rfl⟩ := nI_of (x := i) (by rw [lt0]; omega)
    have hjf : j < fs := by have := q.2; rw [nI_toInt hj] at this; omega
    refine ⟨0, rfl, fun I' a1 a2 => by rw [hM I' a1 a2, if_pos q], Or.inr (Or.inr ⟨rfl, t, st, fs, j, rfl, rfl, by omega, hjf, f2, f3, s1, (s4 j hjf).1, s3, T, hT, eT, by omega, hf1⟩)⟩
  · refine ⟨-3, ?_, fun I' a1 a2 => by rw [hM I' a1 a2, if_neg q], Or.inl rfl⟩
    by_cases z : i < 0
    · rw [if_pos z]
    · rw [if_neg z, if_neg (fun p => q ⟨by have := mt lt0.mpr z; omega, (lt_n (by omega)).mp p⟩)]
theorem B_octet_ok (n : Nat) (hn : 2400 < n) : B_octet Inv n := by
  intro x i m I J hI
  obtain ⟨v, hC, hM, hv⟩ := byte_why n hI x i
  unfold fX9_octet
  rw [hC]
  simp only [Option.bind_some, lt]
  rcases hv with rfl | rfl | ⟨rfl, t, st, fs, j, rfl, rfl, ht, hj, f2, f3, s1, s4, -⟩
  · rw [if_neg (by decide), ref_3]
    refine rr (j := 1) (f := fX10_octet n x i) (by decide) hI ?_
    unfold fX10_octet
    rw [hM _ (up43 (by decide)) (up43 (by decide))]
    simp only [Option.bind_some, lt]
    rw [if_neg (by decide), no_3]
    rfl
  · rw [if_neg (by decide), ref_2]
    refine rr (j := 0) (f := fX10_octet n x i) (by decide) hI ?_
    unfold fX10_octet
    rw [hM _ (up43 (by decide)) (up43 (by decide))]
    simp only [Option.bind_some, lt]
    rw [if_neg (by decide), no_2]
    rfl
  · have e40 : (40 : Int32) * nI t + nI j = nI (40 * t + j) := by
      rw [show (40 : Int32) = nI 40 from rfl, pk_mul, nI_add]
    rw [if_pos rfl, if_pos (inb_nI (by omega) (by decide)), clampI (by omega), s1, nI_add, if_pos (inb_nI (by omega) (by decide)), clampI (by omega)]
    refine tot_some.mpr ?_
    dsimp only
    unfold fX10_octet
    rw [hM I rfl rfl]
    simp only [Option.bind_some, lt, if_true]
    rw [e40, if_pos (inb_nI (by omega) (by decide)), clampI (by omega)]
    exact tot_some.mpr ⟨s4, Inv_dec m I J hI⟩
