/-! joint -/
theorem jnt_eq {w h : Nat} {I : MI} (w1 : 1 ≤ w) (g1 : 1 ≤ h) (hw : I 44 24 = nI w) (hh : I 44 25 = nI h) : jnt I = nI (jn w h) := by
  unfold jnt jn
  rw [hw, hh]
  have e1 : nI w - 1 = nI (w - 1) := pk_sub (a := w) (b := 1) w1
  have e2 : nI h - 1 = nI (h - 1) := pk_sub (a := h) (b := 1) g1
  rw [e1, e2, pk_mul, pk_mul, nI_add]
  congr 1
  rw [Nat.mul_sub_one, Nat.mul_sub_one]
theorem jn_le {w h : Nat} (w1 : 1 ≤ w) (w2 : w ≤ 6) (g2 : h ≤ 6) : jn w h ≤ 60 := by
  have := hw_le w2 g2
  have := dn_le w1 w2 g2
  unfold jn
  omega
theorem hasJoint_no {n N : Nat} {x : Int32} {I : MI} {J : MJ} (hT : N < 2 ^ 31) (h : I 16 2 = nI N) (hx : ¬ ∃ o, o < N ∧ x = nI o) : fX2_hasJoint n x I J = some (0, I, J) := by
  rw [hasJoint_eq, h, b2_f (fun q => hx ((inP hT).mp q))]
theorem hasJoint_yes {n N o : Nat} {I : MI} {J : MJ} (hT : N < 2 ^ 31) (h : I 16 2 = nI N) (ho : o < N) : fX2_hasJoint n (nI o) I J = some (1, I, J) := by
  rw [hasJoint_eq, h, b2_t ((inP hT).mpr ⟨o, ho, rfl⟩)]
theorem isJoint_no {n N : Nat} {x : Int32} {I : MI} {J : MJ} (hT : N < 2 ^ 31) (h : jnt I = nI N) (hx : ¬ ∃ o, o < N ∧ x = nI o) : fX10_isJoint n x I J = some (0, I, J) := by
  rw [isJoint_eq, h, b2_f (fun q => hx ((inP hT).mp q))]
theorem isJoint_yes {n N o : Nat} {I : MI} {J : MJ} (hT : N < 2 ^ 31) (h : jnt I = nI N) (ho : o < N) : fX10_isJoint n (nI o) I J = some (1, I, J) := by
  rw [isJoint_eq, h, b2_t ((inP hT).mpr ⟨o, ho, rfl⟩)]
theorem B_joint_ok (n : Nat) (hn : 2400 < n) : B_joint Inv n := by
  intro x m I J hI
  obtain ⟨pr, pq, pf, c, ni, nk, no, pn, ⟨pu, pg, pw, pp, pfr, pe⟩⟩ := id hI
  obtain ⟨w, h, r, k, ⟨w1, w2, g1, g2, o1, o2, c1, c2⟩, ⟨e24, e25, e26, e27⟩, hgr, -, -, -⟩ := pg
  have hj60 := jn_le w1 w2 g2
  have ej : I 16 2 = nI (jn w h) := hgr.2.2.2.2.1
  have em : ∀ j : Nat, ∀ v : Int32, jnt (upM I 43 j v) = nI (jn w h) := fun j v => jnt_eq w1 g1 (by rw [up43 (by decide)]; exact e24) (by rw [up43 (by decide)]; exact e25)
  have em0 : jnt I = nI (jn w h) := jnt_eq w1 g1 e24 e25
  have f28 := pf.1.2.2.1
  unfold fX9_joint
  by_cases hx : ∃ o, o < jn w h ∧ x = nI o
  case neg =>
    rw [hasJoint_no (by omega) ej hx]
    simp only [Option.bind_some, if_true]
    rw [ref_3]
    refine rr (j := 1) (f := fX10_joint n x) (by decide) hI ?_
    unfold fX10_joint
    rw [isJoint_no (by omega) (em _ _) hx]
    simp only [Option.bind_some, if_true]
    rw [no_3]
    rfl
  obtain ⟨o, ho, rfl⟩ := hx
  rw [hasJoint_yes (by omega) ej ho]
  simp only [Option.bind_some]
  rw [if_neg (by decide)]
  by_cases hf : I 28 0 = 0
  · rw [if_pos hf, ref_2]
    refine rr (j := 0) (f := fX10_joint n (nI o)) (by decide) hI ?_
    unfold fX10_joint
    rw [isJoint_yes (by omega) (em _ _) ho]
    simp only [Option.bind_some, up43 (show (44 : Nat) ≠ 43 by decide)]
    rw [if_neg (by decide), if_pos (by rw [← f28]; exact hf), no_2]
    rfl
  · rw [if_neg hf, if_pos (inb_nI (by omega) (by decide)), clampI (by omega)]
    have hf1 : I 44 13 = 1 := pf.2.1.2.2.1.resolve_left (by rw [← f28]; exact hf)
    refine tot_some.mpr ?_
    dsimp only
    unfold fX10_joint
    rw [isJoint_yes (by omega) em0 ho]
    simp only [Option.bind_some]
    rw [if_neg (by decide), if_neg (by rw [← f28]; exact hf), if_pos (inb_nI (by omega) (by decide)), clampI (by omega)]
    exact tot_some.mpr ⟨((pw hf1).1 o (by omega)).1.symm, Inv_dec m I J hI⟩
/-- a joint's lesser tile, as the reference has it -/
theorem lesser_row {w h t : Nat} (n : Nat) {I : MI} {J : MJ} (w1 : 1 ≤ w) (w2 : w ≤ 6) (g1 : 1 ≤ h) (g2 : h ≤ 6) (hw : I 44 24 = nI w) (hh : I 44 25 = nI h) (ht : t < w * h) (hm : t % w < w - 1) : fX10_lesser n (nI (jr w t)) I J = some (nI t, I, J) := by
  have hlt := jr_lt w1 w2 ht hm
  have h30 := hw_le w2 g2
  have hwh := wh_le w2 g2
  unfold fX10_lesser
  have e1 : nI w - 1 = nI (w - 1) := pk_sub (a := w) (b := 1) w1
  simp only [lt]
  rw [hw, hh, e1, pk_mul, if_neg (nI_ge hlt (by omega))]
  have hz : nz (nI (w - 1)) = true := decide_eq_true (nI_ne0 (by omega) (by omega))
  rw [if_pos hz, if_pos hz, pk_rem (by omega) (by omega) (by omega), pk_div (by omega) (by omega) (by omega), pk_mul, nI_add]
  have e : jr w t / (w - 1) * w + jr w t % (w - 1) = t := by
    unfold jr
    rcases wcs w1 w2 with rfl | rfl | rfl | rfl | rfl | rfl <;> omega
  rw [e]
theorem lesser_dn {w h t : Nat} (n : Nat) {I : MI} {J : MJ} (w1 : 1 ≤ w) (w2 : w ≤ 6) (g2 : h ≤ 6) (hw : I 44 24 = nI w) (hh : I 44 25 = nI h) (ht : t < w * h - w) : fX10_lesser n (nI (h * (w - 1) + t)) I J = some (nI t, I, J) := by
  have h30 := hw_le w2 g2
  have hd := dn_le w1 w2 g2
  unfold fX10_lesser
  have e1 : nI w - 1 = nI (w - 1) := pk_sub (a := w) (b := 1) w1
  simp only [lt]
  rw [hw, hh, e1, pk_mul, if_pos (nI_le (by omega) (by omega)), pk_sub (by omega), Nat.add_sub_cancel_left]
theorem greater_row {w h t : Nat} (n : Nat) {I : MI} {J : MJ} (w1 : 1 ≤ w) (w2 : w ≤ 6) (g1 : 1 ≤ h) (g2 : h ≤ 6) (hw : I 44 24 = nI w) (hh : I 44 25 = nI h) (ht : t < w * h) (hm : t % w < w - 1) : fX10_greater n (nI (jr w t)) I J = some (nI (t + 1), I, J) := by
  have hlt := jr_lt w1 w2 ht hm
  have h30 := hw_le w2 g2
  unfold fX10_greater
  have e1 : nI w - 1 = nI (w - 1) := pk_sub (a := w) (b := 1) w1
  rw [lesser_row n w1 w2 g1 g2 hw hh ht hm, hw, hh, e1, pk_mul, if_neg (nI_ge hlt (by omega))]
  simp only [Option.bind_some, nI_1]
theorem greater_dn {w h t : Nat} (n : Nat) {I : MI} {J : MJ} (w1 : 1 ≤ w) (w2 : w ≤ 6) (g2 : h ≤ 6) (hw : I 44 24 = nI w) (hh : I 44 25 = nI h) (ht : t < w * h - w) : fX10_greater n (nI (h * (w - 1) + t)) I J = some (nI (t + w), I, J) := by
  have h30 := hw_le w2 g2
  have hd := dn_le w1 w2 g2
  unfold fX10_greater
  have e1 : nI w - 1 = nI (w - 1) := pk_sub (a := w) (b := 1) w1
  rw [lesser_dn n w1 w2 g2 hw hh ht, hw, hh, e1, pk_mul, if_pos (nI_le (by omega) (by omega))]
  simp only [Option.bind_some, hw, nI_add]
/-- every joint lies in a line, or between two -/
theorem jn_cases {w h j : Nat} (w1 : 1 ≤ w) (w2 : w ≤ 6) (hj : j < jn w h) : (∃ t, t < w * h ∧ t % w < w - 1 ∧ j = jr w t) ∨ ∃ t, t < w * h - w ∧ j = h * (w - 1) + t := by
  unfold jn at hj
  by_cases h1 : j < h * (w - 1)
  · left
    refine ⟨j / (w - 1) * w + j % (w - 1), ?_⟩
    unfold jr
    rcases wcs w1 w2 with rfl | rfl | rfl | rfl | rfl | rfl <;> omega
  · exact Or.inr ⟨j - h * (w - 1), by omega, by omega⟩
