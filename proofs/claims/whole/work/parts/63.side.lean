/-! side -/
theorem B_side_ok (n : Nat) (hn : 2400 < n) : B_side Inv n := by
  intro x z m I J hI
  obtain ⟨pr, pq, pf, c, ni, nk, no, pn, ⟨pu, pg, pw, pp, pfr, pe⟩⟩ := id hI
  obtain ⟨w, h, r, k, ⟨w1, w2, g1, g2, o1, o2, c1, c2⟩, ⟨e24, e25, e26, e27⟩, hgr, -, -, -⟩ := pg
  have hj60 := jn_le w1 w2 g2
  have ej : I 16 2 = nI (jn w h) := hgr.2.2.2.2.1
  have em : ∀ j : Nat, ∀ v : Int32, jnt (upM I 43 j v) = nI (jn w h) := fun j v => jnt_eq w1 g1 (by rw [up43 (by decide)]; exact e24) (by rw [up43 (by decide)]; exact e25)
  have em0 : jnt I = nI (jn w h) := jnt_eq w1 g1 e24 e25
  have f28 := pf.1.2.2.1
  unfold fX9_side
  by_cases hx : ∃ o, o < jn w h ∧ x = nI o
  case neg =>
    rw [hasJoint_no (by omega) ej hx]
    simp only [Option.bind_some, if_true]
    rw [ref_3]
    refine rr (j := 1) (f := fX10_side n x z) (by decide) hI ?_
    unfold fX10_side
    rw [isJoint_no (by omega) (em _ _) hx]
    simp only [Option.bind_some, if_true]
    rw [no_3]
    rfl
  obtain ⟨o, ho, rfl⟩ := hx
  have hles : fX10_lesser n (nI o) I J = some (I 19 o, I, J) ∧ fX10_greater n (nI o) I J = some (I 20 o, I, J) := by
    obtain ⟨-, r2, r4, -⟩ := hgr.2.2.2.2
    rcases jn_cases w1 w2 ho with ⟨t, ht, hm, e⟩ | ⟨t, ht, e⟩
    · rw [e, lesser_row n w1 w2 g1 g2 e24 e25 ht hm, greater_row n w1 w2 g1 g2 e24 e25 ht hm, (r2 t ht hm).1, (r2 t ht hm).2]
      exact ⟨rfl, rfl⟩
    · rw [e, lesser_dn n w1 w2 g2 e24 e25 ht, greater_dn n w1 w2 g2 e24 e25 ht, (r4 t ht).1, (r4 t ht).2]
      exact ⟨rfl, rfl⟩
  rw [hasJoint_yes (by omega) ej ho]
  simp only [Option.bind_some, inb_nI (show o < 60 by omega) (by decide), if_true, clampI (show o < 2 ^ 31 by omega)]
  rw [if_neg (by decide)]
  have hM : fX10_side n (nI o) z I J = (if 0 ≤ z.toInt ∧ z.toInt ≤ 2 then (if z = 0 then some (I 19 o, I, J) else if z = 1 then some (I 20 o, I, J) else if I 44 13 = 0 then some (0, I, J) else some (I 64 o, I, J)) else fX10_no n (-7) I J) := by
    unfold fX10_side
    rw [isJoint_yes (by omega) em0 ho]
    simp only [Option.bind_some, inb_nI (show o < 60 by omega) (by decide), if_true, clampI (show o < 2 ^ 31 by omega)]
    rw [if_neg (by decide), isIn_i]
    simp only [Option.bind_some, Int64.reduceToInt]
    by_cases q : 0 ≤ z.toInt ∧ z.toInt ≤ 2
    · rw [if_neg (fun p => b2_0.mp p q), if_pos q, hles.1, hles.2]
      rfl
    · rw [if_pos (b2_f q), if_neg q]
      exact bind_e3
  have hdec := Inv_dec m I J hI
  by_cases z0 : z = 0
  · subst z0
    rw [if_pos rfl]
    refine tot_some.mpr ?_
    dsimp only
    rw [hM, if_pos (by decide), if_pos rfl]
    exact tot_some.mpr ⟨rfl, hdec⟩
  rw [if_neg z0]
  by_cases z1 : z = 1
  · subst z1
    rw [if_pos rfl]
    refine tot_some.mpr ?_
    dsimp only
    rw [hM, if_pos (by decide), if_neg (by decide), if_pos rfl]
    exact tot_some.mpr ⟨rfl, hdec⟩
  rw [if_neg z1]
  by_cases z2 : z = 2
  · subst z2
    rw [if_pos rfl]
    by_cases hf : I 28 0 = 0
    · rw [if_pos hf]
      refine tot_some.mpr ?_
      dsimp only
      rw [hM, if_pos (by decide), if_neg (by decide), if_neg (by decide), if_pos (by rw [← f28]; exact hf)]
      exact tot_some.mpr ⟨rfl, hdec⟩
    · have hf1 : I 44 13 = 1 := pf.2.1.2.2.1.resolve_left (by rw [← f28]; exact hf)
      rw [if_neg hf]
      refine tot_some.mpr ?_
      dsimp only
      rw [hM, if_pos (by decide), if_neg (by decide), if_neg (by decide), if_neg (by rw [← f28]; exact hf)]
      exact tot_some.mpr ⟨((pw hf1).1 o (by omega)).2.symm, hdec⟩
  rw [if_neg z2, ref_7]
  have hz : ¬ (0 ≤ z.toInt ∧ z.toInt ≤ 2) := by
    intro q
    have h3 : z.toInt = 0 ∨ z.toInt = 1 ∨ z.toInt = 2 := by omega
    rcases h3 with h3 | h3 | h3
    · exact z0 (i32_of_toInt (by decide) h3)
    · exact z1 (i32_of_toInt (by decide) h3)
    · exact z2 (i32_of_toInt (by decide) h3)
  refine rr (j := 5) (f := fX10_side n (nI o) z) (by decide) hI ?_
  unfold fX10_side
  rw [isJoint_yes (by omega) (em _ _) ho]
  simp only [Option.bind_some]
  rw [if_neg (by decide), isIn_i]
  simp only [Option.bind_some, Int64.reduceToInt]
  rw [if_pos (b2_f hz), no_7]
  rfl
