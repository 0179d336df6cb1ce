/-! told -/
theorem told_c0 (n : Nat) (I : MI) (J : MJ) : fX9_told n 0 I J = (if I 38 0 = 0 then fX9_told_71 n I J else some (I 38 1, I, J)) := by rfl
theorem told_c1 (n : Nat) (I : MI) (J : MJ) : fX9_told n 1 I J = (if I 38 0 = 0 then fX9_told_71 n I J else if I 34 0 = 0 then fX9_told_71 n I J else some (I 38 2, I, J)) := by rfl
theorem told_c2 (n : Nat) (I : MI) (J : MJ) : fX9_told n 2 I J = some (I 38 0, I, J) := by rfl
theorem told_c3 (n : Nat) (I : MI) (J : MJ) : fX9_told n 3 I J = (if I 34 0 = 0 then fX9_told_71 n I J else some (I 38 3, I, J)) := by rfl
theorem told_m0 (n : Nat) (I : MI) (J : MJ) : fX10_told n 0 I J = (if I 44 42 = 0 then fX10_told_45 n I J else some (I 44 43, I, J)) := by rfl
theorem told_m1 (n : Nat) (I : MI) (J : MJ) : fX10_told n 1 I J = (if I 44 42 = 0 then fX10_told_45 n I J else if I 44 14 = 0 then fX10_told_45 n I J else some (I 44 44, I, J)) := by rfl
theorem told_m2 (n : Nat) (I : MI) (J : MJ) : fX10_told n 2 I J = some (I 44 42, I, J) := by rfl
theorem told_m3 (n : Nat) (I : MI) (J : MJ) : fX10_told n 3 I J = (if I 44 14 = 0 then fX10_told_45 n I J else some (I 44 45, I, J)) := by rfl
/-- both refuse by the same word: the class now, the reference on what it left -/
theorem rr2 {m : Nat} {I : MI} {J : MJ} {f : MI → MJ → Option (Int32 × M2)} (hI : Inv (m + 1) I J) (h : f (upM I 43 0 (I 43 0 + 1)) J = some (-2, upM (upM I 43 0 (I 43 0 + 1)) 51 2 ((upM I 43 0 (I 43 0 + 1)) 51 2 + 1), J)) : tot (some ((-2 : Int32), upM I 43 0 (I 43 0 + 1), J)) (fun r => tot (f r.2.1 r.2.2) (fun q => r.1 = q.1 ∧ Inv m q.2.1 q.2.2)) := by
  refine tot_some.mpr ?_
  show tot (f (upM I 43 0 (I 43 0 + 1)) J) _
  rw [h]
  exact tot_some.mpr ⟨rfl, ref2 (j := 0) (by decide) hI⟩
theorem up43 {I : MI} {j : Nat} {v : Int32} {a : Nat} (h : a ≠ 43) : upM I 43 j v a = I a := upM_ne a h
theorem B_told_ok (n : Nat) : B_told Inv n := by
  intro x m I J hI
  obtain ⟨-, -, pf, c, ni, nk, no, pn, ⟨pu, py⟩⟩ := id hI
  obtain ⟨-, u1, u2, u3, u4, -, -⟩ := pu
  obtain ⟨⟨-, -, -, f34⟩, ⟨-, -, -, f01⟩, -⟩ := pf
  have m45 : ∀ I' : MI, fX10_told_45 n I' J = some (-2, upM I' 51 2 (I' 51 2 + 1), J) := fun I' => rfl
  have c71 : fX9_told_71 n I J = some (-2, upM I 43 0 (I 43 0 + 1), J) := rfl
  by_cases hc : 0 ≤ x.toInt ∧ x.toInt ≤ 3
  · have h3 : x.toInt = 0 ∨ x.toInt = 1 ∨ x.toInt = 2 ∨ x.toInt = 3 := by omega
    rcases h3 with h3 | h3 | h3 | h3
    · have hx : x = (0 : Int32) := i32_of_toInt (by decide) h3
      subst hx
      rw [told_c0]
      by_cases h : I 38 0 = 0
      · rw [if_pos h, c71]
        refine rr2 (f := fX10_told n 0) hI ?_
        rw [told_m0]
        simp only [up43 (show (44 : Nat) ≠ 43 by decide)]
        rw [if_pos (by rw [u1, h]), m45]
      · rw [if_neg h]
        refine tot_some.mpr ?_
        show tot (fX10_told n 0 I J) _
        rw [told_m0, if_neg (by rw [u1]; exact h)]
        exact tot_some.mpr ⟨(u2 h).symm, Inv_dec m I J hI⟩
    · have hx : x = (1 : Int32) := i32_of_toInt (by decide) h3
      subst hx
      rw [told_c1]
      by_cases h : I 38 0 = 0
      · rw [if_pos h, c71]
        refine rr2 (f := fX10_told n 1) hI ?_
        rw [told_m1]
        simp only [up43 (show (44 : Nat) ≠ 43 by decide)]
        rw [if_pos (by rw [u1, h]), m45]
      · rw [if_neg h]
        by_cases h5 : I 34 0 = 0
        · rw [if_pos h5, c71]
          refine rr2 (f := fX10_told n 1) hI ?_
          rw [told_m1]
          simp only [up43 (show (44 : Nat) ≠ 43 by decide)]
          rw [if_neg (by rw [u1]; exact h), if_pos (by rw [← f34]; exact h5), m45]
        · rw [if_neg h5]
          refine tot_some.mpr ?_
          show tot (fX10_told n 1 I J) _
          rw [told_m1, if_neg (by rw [u1]; exact h), if_neg (by rw [← f34]; exact h5)]
          refine tot_some.mpr ⟨(u3 h ?_).symm, Inv_dec m I J hI⟩
          rw [f34] at h5 ⊢
          exact f01.resolve_left h5
    · have hx : x = (2 : Int32) := i32_of_toInt (by decide) h3
      subst hx
      rw [told_c2]
      refine tot_some.mpr ?_
      show tot (fX10_told n 2 I J) _
      rw [told_m2]
      exact tot_some.mpr ⟨u1.symm, Inv_dec m I J hI⟩
    · have hx : x = (3 : Int32) := i32_of_toInt (by decide) h3
      subst hx
      rw [told_c3]
      by_cases h5 : I 34 0 = 0
      · rw [if_pos h5, c71]
        refine rr2 (f := fX10_told n 3) hI ?_
        rw [told_m3]
        simp only [up43 (show (44 : Nat) ≠ 43 by decide)]
        rw [if_pos (by rw [← f34]; exact h5), m45]
      · rw [if_neg h5]
        refine tot_some.mpr ?_
        show tot (fX10_told n 3 I J) _
        rw [told_m3, if_neg (by rw [← f34]; exact h5)]
        exact tot_some.mpr ⟨u4.symm, Inv_dec m I J hI⟩
  · have hcl : fX9_told n x I J = some (-7, upM I 43 5 (I 43 5 + 1), J) := by
      unfold fX9_told
      by_cases h0 : x < 0
      · rw [if_pos h0]; rfl
      · rw [if_neg h0, if_neg (fun h => hc ⟨by have := mt lt0.mpr h0; omega, by have := Int32.le_iff_toInt_le.mp h; rw [show (3 : Int32).toInt = 3 from by decide] at this; exact this⟩)]; rfl
    rw [hcl]
    refine tot_some.mpr ?_
    show tot (fX10_told n x (upM I 43 5 (I 43 5 + 1)) J) _
    unfold fX10_told
    rw [isIn_i]
    simp only [Option.bind_some, Int64.reduceToInt]
    rw [if_pos (b2_f hc), no_7]
    exact tot_some.mpr ⟨rfl, ref2 (j := 5) (by decide) hI⟩
