/-! cuts, cut, depth -/
theorem nI_mod (a : Nat) : nI a = nI (a % 4294967296) := by
  apply Int32.toBitVec_inj.mp
  show BitVec.ofNat 32 a = BitVec.ofNat 32 (a % 4294967296)
  apply BitVec.eq_of_toNat_eq
  rw [BitVec.toNat_ofNat, BitVec.toNat_ofNat]
  omega
/-- the reference finds its cuts in a state that is held -/
theorem Inv_fc (n : Nat) (hn : 2400 < n) {m c : Nat} {I : MI} {J : MJ} (hI : Inv m I J) (hc : c ≤ 32) (h6 : I 44 6 = nI c) : ∃ I', fX10_findCuts n I J = some (I', J) ∧ Inv m I' J ∧ (∀ a, a ≠ 52 → a ≠ 53 → a ≠ 54 → a ≠ 44 → I' a = I a) ∧ (∀ j, j ≠ 15 → I' 44 j = I 44 j) ∧ ∃ K D, (∀ g, g < c → kOk K D I' g) ∧ (∀ g, g < c → kcOk K D I' J g) ∧ (∀ g, g < c → krOk K D I' g) := by
  obtain ⟨pr, pq, pf, c1, ni, nk, no, pn, ⟨pu, pg, pw, pp, pfr, pe⟩⟩ := id hI
  have hc1 := pn.1.1
  obtain rfl : c1 = c := (nI_eq (by omega) (by omega)).mp (pn.2.1.2.1.symm.trans h6)
  obtain ⟨I', j1, j2, j3, K, D, j4, j5, j6, j7⟩ := findCuts_ok n hn pn.1.1 pn.2.1.2.1 (fun g hg => ⟨(pn.2.2.1 g hg).1, (pn.2.2.1 g hg).2.1, (pn.2.2.1 g hg).2.2.1⟩) pe.1
  refine ⟨I', j1, Inv_cut j2 j3 (fun c' hc' _ e => ?_) hI, j2, j3, K, D, j4, j5, j6⟩
  obtain rfl : c' = c1 := (nI_eq (by omega) (by omega)).mp (e.symm.trans h6)
  exact j7
theorem fc_ref (n : Nat) (hn : 2400 < n) {m j c : Nat} {I : MI} {J : MJ} (hj : j < 7) (hI : Inv (m + 1) I J) (hc : c ≤ 32) (h6 : I 44 6 = nI c) : ∃ I2, fX10_findCuts n (upM I 43 j (I 43 j + 1)) J = some (I2, J) ∧ Inv m (upM I2 51 (j + 2) (I2 51 (j + 2) + 1)) J ∧ (∀ a, a ≠ 43 → a ≠ 52 → a ≠ 53 → a ≠ 54 → a ≠ 44 → I2 a = I a) ∧ ∃ K D, (∀ g, g < c → kOk K D I2 g) ∧ (∀ g, g < c → kcOk K D I2 J g) ∧ (∀ g, g < c → krOk K D I2 g) := by
  obtain ⟨pr, pq, pf, c1, ni, nk, no, pn, ⟨pu, pg, pw, pp, pfr, pe⟩⟩ := id hI
  have hc1 := pn.1.1
  obtain rfl : c1 = c := (nI_eq (by omega) (by omega)).mp (pn.2.1.2.1.symm.trans h6)
  have u : ∀ a, a ≠ 43 → upM I 43 j (I 43 j + 1) a = I a := fun a h => up43 h
  have hpk : PK c1 (upM I 43 j (I 43 j + 1)) J := PK_fr (fun a ha => u a (by simp only [List.mem_cons, List.not_mem_nil, or_false] at ha; omega)) (by rw [u 44 (by decide)]) rfl pe.1
  obtain ⟨I2, j1, j2, j3, K, D, j4, j5, j6, j7⟩ := findCuts_ok n hn (I := upM I 43 j (I 43 j + 1)) hc1 (by rw [u 44 (by decide)]; exact h6) (fun g hg => by rw [u 45 (by decide), u 46 (by decide), u 47 (by decide), u 2 (by decide), u 3 (by decide), u 4 (by decide)]; exact ⟨(pn.2.2.1 g hg).1, (pn.2.2.1 g hg).2.1, (pn.2.2.1 g hg).2.2.1⟩) hpk
  refine ⟨I2, j1, ?_, fun a q0 q1 q2 q3 q4 => by rw [j2 a q1 q2 q3 q4, u a q0], K, D, j4, j5, j6⟩
  have e51 : I2 51 = I 51 := by rw [j2 51 (by decide) (by decide) (by decide) (by decide), u 51 (by decide)]
  refine Inv_cut (I := refI j I) (fun a q1 q2 q3 q4 => ?_) (fun z hz => ?_) (fun c' hc' _ e => ?_) (Inv_ref hj hI)
  · unfold refI
    rw [e51]
    by_cases h51 : a = 51
    · subst h51
      rw [upM_eq, upM_eq, e51, u 51 (by decide)]
    · rw [upM_ne a h51, upM_ne a h51, j2 a q1 q2 q3 q4]
  · unfold refI
    rw [upM_ne 44 (by decide), upM_ne 44 (by decide), j3 z hz]
  · have e6 : refI j I 44 6 = nI c1 := by
      unfold refI
      rw [upM_ne 44 (by decide), u 44 (by decide)]
      exact h6
    obtain rfl : c' = c1 := (nI_eq (by omega) (by omega)).mp (e.symm.trans e6)
    exact PK_fr (fun a ha => upM_ne a (by simp only [List.mem_cons, List.not_mem_nil, or_false] at ha; omega)) (by rw [upM_ne 44 (by decide)]) rfl j7
theorem wrongGate_eq (n : Nat) {c g : Nat} {I : MI} {J : MJ} (hc : c ≤ 32) (h5 : I 1 5 = nI c) (hg : g < c) : fX9_wrongGate n (nI g) I J = some (if I 2 g = 2 then 0 else -5, I, J) := by
  unfold fX9_wrongGate
  rw [has_yes (c := c) (by omega) h5 hg]
  simp only [Option.bind_some]
  rw [if_neg (by decide), if_pos (inb_nI (by omega) (by decide)), clampI (by omega)]
  by_cases h : I 2 g = 2
  · rw [if_pos h, if_pos h]
  · rw [if_neg h, if_neg h]
theorem wrongGate_no (n : Nat) {c : Nat} {x : Int32} {I : MI} {J : MJ} (hc : c ≤ 32) (h5 : I 1 5 = nI c) (hx : ¬ ∃ o, o < c ∧ x = nI o) : fX9_wrongGate n x I J = some (-3, I, J) := by
  unfold fX9_wrongGate
  rw [has_no (c := c) (by omega) h5 hx]
  rfl
theorem B_cuts_ok (n : Nat) (hn : 2400 < n) : B_cuts Inv n := by
  intro x m I J hI
  obtain ⟨pr, pq, pf, c, ni, nk, no, pn, px⟩ := id hI
  have hc := pn.1.1
  have h5 := pn.2.1.1
  have h6 := pn.2.1.2.1
  unfold fX9_cuts
  by_cases hx : ∃ o, o < c ∧ x = nI o
  case neg =>
    rw [wrongGate_no n hc h5 hx]
    simp only [Option.bind_some, lt]
    rw [if_neg (by decide), ref_3]
    refine rr (j := 1) (f := fX10_cuts n x) (by decide) hI ?_
    unfold fX10_cuts
    rw [isCell_no (c := c) (by omega) (by rw [up43 (by decide)]; exact h6) hx]
    simp only [Option.bind_some, if_true]
    rw [no_3]
    rfl
  obtain ⟨g, hg, rfl⟩ := hx
  have h45 := (pn.2.2.1 g hg).1
  rw [wrongGate_eq n hc h5 hg]
  simp only [Option.bind_some, lt]
  by_cases hs : I 2 g = 2
  case neg =>
    rw [if_neg hs, if_neg (by decide), ref_5]
    refine rr (j := 3) (f := fX10_cuts n (nI g)) (by decide) hI ?_
    unfold fX10_cuts
    rw [isCell_yes (c := c) (by omega) (by rw [up43 (by decide)]; exact h6) hg]
    simp only [Option.bind_some]
    rw [if_neg (by decide), if_pos (inb_nI (by omega) (by decide)), clampI (by omega), up43 (by decide), if_neg (by rw [h45]; exact hs), no_5]
    rfl
  rw [if_pos hs, if_pos rfl, if_pos (inb_nI (by omega) (by decide)), clampI (by omega)]
  refine tot_some.mpr ?_
  show tot (fX10_cuts n (nI g) I J) _
  obtain ⟨I', j1, j2, j3, j4, K, D, j5, j6, j7⟩ := Inv_fc n hn hI hc h6
  unfold fX10_cuts
  rw [isCell_yes (c := c) (by omega) h6 hg]
  simp only [Option.bind_some]
  rw [if_neg (by decide), if_pos (inb_nI (by omega) (by decide)), clampI (by omega), if_pos (by rw [h45]; exact hs), j1]
  simp only [Option.bind_some]
  rw [if_pos (inb_nI (by omega) (by decide))]
  refine tot_some.mpr ⟨?_, Inv_dec m _ _ j2⟩
  show I 8 g = I' 53 g
  rw [(j7 g hg).1, ← (j6 g hg).1, j3 8 (by decide) (by decide) (by decide) (by decide)]
theorem B_depth_ok (n : Nat) (hn : 2400 < n) : B_depth Inv n := by
  intro x m I J hI
  obtain ⟨pr, pq, pf, c, ni, nk, no, pn, px⟩ := id hI
  have hc := pn.1.1
  have h5 := pn.2.1.1
  have h6 := pn.2.1.2.1
  unfold fX9_depth
  by_cases hx : ∃ o, o < c ∧ x = nI o
  case neg =>
    rw [has_no (c := c) (by omega) h5 hx]
    simp only [Option.bind_some, if_true]
    rw [ref_3]
    refine rr (j := 1) (f := fX10_depth n x) (by decide) hI ?_
    unfold fX10_depth
    rw [isCell_no (c := c) (by omega) (by rw [up43 (by decide)]; exact h6) hx]
    simp only [Option.bind_some, if_true]
    rw [no_3]
    rfl
  obtain ⟨g, hg, rfl⟩ := hx
  rw [has_yes (c := c) (by omega) h5 hg]
  simp only [Option.bind_some]
  rw [if_neg (by decide), if_pos (inb_nI (by omega) (by decide)), clampI (by omega)]
  refine tot_some.mpr ?_
  show tot (fX10_depth n (nI g) I J) _
  obtain ⟨I', j1, j2, j3, j4, K, D, j5, j6, j7⟩ := Inv_fc n hn hI hc h6
  unfold fX10_depth
  rw [isCell_yes (c := c) (by omega) h6 hg]
  simp only [Option.bind_some]
  rw [if_neg (by decide), j1]
  simp only [Option.bind_some]
  rw [if_pos (inb_nI (by omega) (by decide)), clampI (by omega)]
  refine tot_some.mpr ⟨?_, Inv_dec m _ _ j2⟩
  show I 9 g = I' 54 g
  rw [(j7 g hg).2.1, ← (j6 g hg).2.1, j3 9 (by decide) (by decide) (by decide) (by decide)]
theorem B_cut_ok (n : Nat) (hn : 2400 < n) : B_cut Inv n := by
  intro x i m I J hI
  obtain ⟨pr, pq, pf, c, ni, nk, no, pn, px⟩ := id hI
  have hc := pn.1.1
  have h5 := pn.2.1.1
  have h6 := pn.2.1.2.1
  unfold fX9_cut
  by_cases hx : ∃ o, o < c ∧ x = nI o
  case neg =>
    rw [wrongGate_no n hc h5 hx]
    simp only [Option.bind_some, lt]
    unfold fX9_cut_30
    rw [if_neg (by decide), if_neg (by decide), ref_3]
    simp only [Option.bind_some]
    refine tot_some.mpr ?_
    show tot (fX10_cut n x i (upM I 43 1 (I 43 1 + 1)) J) _
    obtain ⟨I2, j1, j2, -, -⟩ := fc_ref n hn (j := 1) (by decide) hI hc h6
    unfold fX10_cut fX10_cut_29 fX10_cut_59
    rw [isCell_no (c := c) (by omega) (by rw [up43 (by decide)]; exact h6) hx]
    simp only [Option.bind_some, if_true]
    rw [j1]
    simp only [Option.bind_some]
    rw [if_neg (by decide), if_neg (by decide), no_3]
    exact tot_some.mpr ⟨rfl, j2⟩
  obtain ⟨g, hg, rfl⟩ := hx
  have h45 := (pn.2.2.1 g hg).1
  rw [wrongGate_eq n hc h5 hg]
  simp only [Option.bind_some, lt]
  by_cases hs : I 2 g = 2
  case neg =>
    unfold fX9_cut_30
    rw [if_neg hs, if_neg (by decide), if_neg (by decide), ref_5]
    simp only [Option.bind_some]
    refine tot_some.mpr ?_
    show tot (fX10_cut n (nI g) i (upM I 43 3 (I 43 3 + 1)) J) _
    obtain ⟨I2, j1, j2, -, -⟩ := fc_ref n hn (j := 3) (by decide) hI hc h6
    unfold fX10_cut fX10_cut_29 fX10_cut_59
    rw [isCell_yes (c := c) (by omega) (by rw [up43 (by decide)]; exact h6) hg]
    simp only [Option.bind_some]
    rw [if_neg (by decide), if_pos (inb_nI (by omega) (by decide)), clampI (by omega), up43 (by decide), if_neg (by rw [h45]; exact hs), j1]
    simp only [Option.bind_some]
    rw [if_neg (by decide), if_neg (by decide), no_5]
    exact tot_some.mpr ⟨rfl, j2⟩
  rw [if_pos hs, if_pos rfl]
  have pk := px.2.2.2.2.2.1
  obtain ⟨-, K0, D0, k1, k2, -⟩ := id pk
  have hwf := kOk_wf hc k1 g hg
  have h8 := (k2 g hg).1
  have hw40 := hwf.1.1
  have e1 : ∀ z, z ≤ 40 → (nI z - 1).toInt64.toInt = (z : Int) - 1 := by
    intro z hz
    rw [Int32.toInt_toInt64]
    exact pk_sub_toInt (a := z) (b := 1) (by omega) (by decide)
  by_cases hi : ∃ k, k < (K0 g).1 ∧ i = nI k
  case neg =>
    have hbad : tot (fX9_cut_27 n (nI g) i I J) (fun r => tot (fX10_cut n (nI g) i r.2.1 r.2.2) (fun q => r.1 = q.1 ∧ Inv m q.2.1 q.2.2)) := by
      unfold fX9_cut_27 fX9_cut_30
      rw [if_neg (by decide), ref_3]
      simp only [Option.bind_some]
      refine tot_some.mpr ?_
      show tot (fX10_cut n (nI g) i (upM I 43 1 (I 43 1 + 1)) J) _
      obtain ⟨I2, j1, j2, j3, K, D, j4, j5, j6⟩ := fc_ref n hn (j := 1) (by decide) hI hc h6
      have hKK : (K g).1 = (K0 g).1 := by
        have q1 := (j5 g hg).1
        rw [j3 8 (by decide) (by decide) (by decide) (by decide) (by decide), h8] at q1
        have := (kOk_wf hc j4 g hg).1.1
        exact ((nI_eq (by omega) (by omega)).mp q1).symm
      unfold fX10_cut fX10_cut_29 fX10_cut_59
      rw [isCell_yes (c := c) (by omega) (by rw [up43 (by decide)]; exact h6) hg]
      simp only [Option.bind_some]
      rw [if_neg (by decide), if_pos (inb_nI (by omega) (by decide)), clampI (by omega), up43 (by decide), if_pos (by rw [h45]; exact hs), j1]
      simp only [Option.bind_some, if_true]
      rw [if_pos (inb_nI (by omega) (by decide)), (j6 g hg).1, hKK, isIn_i, e1 _ hw40]
      simp only [Option.bind_some, Int64.reduceToInt]
      rw [if_pos (b2_f (fun q => hi ?_)), if_neg (by decide), no_3]
      · exact tot_some.mpr ⟨rfl, j2⟩
      · obtain ⟨k, hk, rfl⟩ := nI_of (x := i) (by rw [lt0]; omega)
        rw [nI_toInt hk] at q
        exact ⟨k, by omega, rfl⟩
    by_cases h0 : i < 0
    · rw [if_pos h0]; exact hbad
    · rw [if_neg h0, if_pos (inb_nI (by omega) (by decide)), clampI (by omega), h8, if_neg (fun q => hi (by
        obtain ⟨k, hk, rfl⟩ := nI_of h0
        exact ⟨k, (nI_ltI hk (by omega)).mp q, rfl⟩))]
      exact hbad
  obtain ⟨k, hk, rfl⟩ := hi
  rw [if_neg (nI_pos (by omega)), if_pos (inb_nI (by omega) (by decide)), clampI (by omega), h8, if_pos (nI_lt hk (by omega))]
  unfold fX9_cut_30 fX0_members
  have e40 : nI g * 40 + nI k = nI (40 * g + k) := by rw [show (40 : Int32) = nI 40 from rfl, pk_mul, nI_add, Nat.mul_comm]
  have e40' : (40 : Int32) * nI g + nI k = nI (40 * g + k) := by rw [show (40 : Int32) = nI 40 from rfl, pk_mul, nI_add]
  rw [if_pos rfl, e40, if_pos (inb_nI (by omega) (by decide)), clampI (by omega)]
  simp only [Option.bind_some]
  refine tot_some.mpr ?_
  show tot (fX10_cut n (nI g) (nI k) I J) _
  obtain ⟨I', j1, j2, j3, j4, K, D, j5, j6, j7⟩ := Inv_fc n hn hI hc h6
  have wf := kOk_wf hc j5 g hg
  have hKK : (K g).1 = (K0 g).1 := by
    have q1 := (j6 g hg).1
    rw [j3 8 (by decide) (by decide) (by decide) (by decide), h8] at q1
    have := wf.1.1
    exact ((nI_eq (by omega) (by omega)).mp q1).symm
  unfold fX10_cut fX10_cut_29 fX10_cut_59
  rw [isCell_yes (c := c) (by omega) h6 hg]
  simp only [Option.bind_some]
  rw [if_neg (by decide), if_pos (inb_nI (by omega) (by decide)), clampI (by omega), if_pos (by rw [h45]; exact hs), j1]
  simp only [Option.bind_some, if_true]
  rw [if_pos (inb_nI (by omega) (by decide)), (j7 g hg).1, hKK, isIn_i, e1 _ hw40, nI_toInt (by omega)]
  simp only [Option.bind_some, Int64.reduceToInt]
  rw [if_neg (fun q => b2_0.mp q ⟨by omega, by omega⟩), e40', if_pos (inb_nI (by omega) (by decide)), clampI (by omega)]
  refine tot_some.mpr ⟨?_, Inv_dec m _ _ j2⟩
  show (J 10 (40 * g + k)).toInt32 = I' 52 (40 * g + k)
  rw [(j6 g hg).2.2 k (by omega), (j7 g hg).2.2 k (by omega), lN_i, nI_mod]
  congr 1
  have := ct_lt32 (show g ≤ 32 by omega) (wf.1.2.2 k (by omega)).1
  unfold ct_rk
  omega
