/-! the row: tear, row -/
theorem B_tear_ok (n : Nat) : B_tear Inv n := by
  intro m I J hI
  have go : ∀ (z : Int32), (if I 44 48 < 0 then (0 : Int32) else 1) = z → tot (some (z, upM I 41 0 0, J)) (fun r => tot (fX10_tear n r.2.1 r.2.2) (fun q => r.1 = q.1 ∧ Inv m q.2.1 q.2.2)) := by
    intro z hz
    refine tot_some.mpr ?_
    unfold fX10_tear fX10_tear_12
    simp only [lt]
    simp only [upM_ne 44 (show (44 : Nat) ≠ 41 by decide)]
    have hfin : Inv m (upM (upM I 41 0 0) 44 48 (-1)) J := by
      refine Inv_row (fun a h1 _ _ _ _ _ h7 => by rw [upM_ne a h7, upM_ne a h1]) (fun j hj => by rw [upM_get, if_pos rfl, if_neg hj, upM_ne 44 (by decide)]) (PR_fr (fun a ha => ?_) hI.1) (Or.inl ⟨?_, ?_⟩) hI
      · simp only [List.mem_cons, List.not_mem_nil, or_false] at ha
        rw [upM_ne a (by omega), upM_ne a (by omega)]
      · simp [upM_get]
      · simp [upM_get]
    by_cases h : I 44 48 < 0
    · rw [if_pos h] at hz ⊢
      exact tot_some.mpr ⟨hz.symm, hfin⟩
    · rw [if_neg h] at hz ⊢
      exact tot_some.mpr ⟨hz.symm, hfin⟩
  unfold fX9_tear fX9_tear_15
  simp only [lt]
  rcases hI.2.1 with ⟨h1, h2⟩ | ⟨h1, s, hs, h2, h3, h4⟩
  · rw [if_pos h1]
    exact go 0 (by rw [h2]; decide)
  · rw [if_neg (by rw [h1]; decide)]
    exact go 1 (by rw [h3, if_neg (nI_pos (by omega))])
theorem B_row_ok (n : Nat) : B_row Inv n := by
  intro x m I J hI
  unfold fX9_row fX9_row_32
  rcases hI.2.1 with ⟨h1, h2⟩ | ⟨h1, s, hs, h2, h3, h4⟩
  · rw [if_pos h1, ref_2]
    refine tot_some.mpr ?_
    unfold fX10_row
    rw [show ((-2 : Int32), upM I 43 0 (I 43 0 + 1), J).2.1 = upM I 43 0 (I 43 0 + 1) from rfl, show (upM I 43 0 (I 43 0 + 1)) 44 48 = I 44 48 from by rw [upM_ne 44 (by decide)], h2, if_neg (by decide), no_2]
    exact tot_some.mpr ⟨rfl, ref2 (j := 0) (by decide) hI⟩
  · rw [if_neg (by rw [h1]; decide), h2]
    have hm : ∀ (I' : MI), I' 44 48 = nI s → fX10_row n x I' J = (if 0 ≤ x.toInt ∧ x.toInt < s then (if inb x 40 = true then some (I' 74 x.toNatClampNeg, I', J) else none) else fX10_no n (-3) I' J) := by
      intro I' hI'
      unfold fX10_row
      rw [hI', if_pos (nI_pos' (by omega)), isIn_i]
      simp only [Option.bind_some, Int64.reduceToInt]
      have e1 : (nI s - 1).toInt64.toInt = (s : Int) - 1 := by
        rw [Int32.toInt_toInt64]
        exact pk_sub_toInt (a := s) (b := 1) (by omega) (by decide)
      rw [e1]
      by_cases hc : 0 ≤ x.toInt ∧ x.toInt < s
      · rw [if_neg (fun h => b2_0.mp h ⟨hc.1, by omega⟩), if_pos hc]
      · rw [if_pos (b2_f (fun h => hc ⟨h.1, by omega⟩)), if_neg hc]
        exact bind_e3
    by_cases hc : 0 ≤ x.toInt ∧ x.toInt < s
    · rw [if_neg (fun h => by have := lt0.mp h; omega), if_pos ((lt_n (by omega)).mpr hc.2), if_pos (inb_of hc.1 (by omega))]
      refine tot_some.mpr ?_
      show tot (fX10_row n x I J) _
      rw [hm I h3, if_pos hc, if_pos (inb_of hc.1 (by omega))]
      refine tot_some.mpr ⟨?_, Inv_dec m I J hI⟩
      have hx : x.toNatClampNeg < s := by
        show x.toInt.toNat < s
        omega
      exact (h4 _ hx).symm
    · have href : tot (Option.bind (fX9_refuse n (-3 : Int32) I J) (fun r35 => some (r35.1, r35.2.1, r35.2.2))) (fun r => tot (fX10_row n x r.2.1 r.2.2) (fun q => r.1 = q.1 ∧ Inv m q.2.1 q.2.2)) := by
        rw [ref_3]
        refine tot_some.mpr ?_
        show tot (fX10_row n x (upM I 43 1 (I 43 1 + 1)) J) _
        rw [hm _ (by rw [upM_ne 44 (by decide)]; exact h3), if_neg hc, no_3]
        exact tot_some.mpr ⟨rfl, ref2 (j := 1) (by decide) hI⟩
      by_cases hx : x < 0
      · rw [if_pos hx]; exact href
      · rw [if_neg hx, if_neg (fun h => hc ⟨by have := mt lt0.mpr hx; omega, (lt_n (by omega)).mp h⟩)]
        exact href
