/-! input, keeper -/
theorem B_input_ok (n : Nat) (hn : 32 < n) : B_input Inv n := by
  intro m I J hI
  have hm := Inv_m hI
  obtain ⟨pr, pq, pf, c, ni, nk, no, pn, ⟨pu, py⟩⟩ := id hI
  obtain ⟨⟨hc, hni, hnk, hno⟩, ⟨e5, e6, e1, e2, e3, e4, e7, e8⟩, pcell, pouts, pg, pfi, p49, p49'⟩ := id pn
  have hfull : (c = 32 ∨ ni = 6) → tot (fX9_input_24 n I J) (fun r => tot (fX10_input n r.2.1 r.2.2) (fun q => r.1 = q.1 ∧ Inv m q.2.1 q.2.2)) := by
    intro hh
    unfold fX9_input_24
    rw [ref_8]
    refine rr (j := 6) (f := fX10_input n) (by decide) hI ?_
    unfold fX10_input fX10_input_18
    simp only [up43 (show (44 : Nat) ≠ 43 by decide), e6, e2]
    by_cases h : c = 32
    · rw [if_pos (by rw [h]; rfl), no_8]; rfl
    · rw [if_neg (show ¬ nI c = (32 : Int32) from fun q => h ((nI_eq (b := 32) (by omega) (by decide)).mp q)), if_pos (by rw [hh.resolve_left h]; rfl), no_8]; rfl
  unfold fX9_input
  rw [e5, e1]
  by_cases hc32 : c = 32
  · rw [if_pos (show (32 : Int32) ≤ nI c by rw [hc32]; decide)]
    exact hfull (Or.inl hc32)
  rw [if_neg (show ¬ (32 : Int32) ≤ nI c from nI_ge (a := c) (b := 32) (by omega) (by decide))]
  by_cases hi6 : ni = 6
  · rw [if_neg (show ¬ nI ni < (6 : Int32) by rw [hi6]; decide)]
    exact hfull (Or.inr hi6)
  rw [if_pos (show nI ni < (6 : Int32) from nI_lt (b := 6) (by omega) (by decide))]
  have hA : fX3_addInput n I J = some (nI c, upM (upM (upM (upM (upM (upM I 1 6 (nI (ni + 1))) 2 c 0) 3 c (-1)) 4 c (-1)) 5 c (-1)) 1 5 (nI (c + 1)), J) := by
    unfold fX3_addInput
    simp only [lt, e1, nI_1]
    rw [add_eq n c 0 (-1) (-1) (-1) _ J (by omega) (by rw [upM_get, if_pos rfl, if_neg (by decide)]; exact e5)]
    rfl
  rw [hA]
  simp only [Option.bind_some, lt]
  rw [addPlain_eq n c _ J (by omega)]
  simp only [Option.bind_some]
  rw [forgetTables_eq n hn]
  simp only [Option.bind_some]
  generalize hC : upM (upM (upM (upM (upM (upM (upM (upM I 1 6 (nI (ni + 1))) 2 c 0) 3 c (-1)) 4 c (-1)) 5 c (-1)) 1 5 (nI (c + 1))) 8 c 0) 9 c 0 = C
  refine tot_some.mpr ?_
  show tot (fX10_input n (begF (clrC C)) J) _
  have h44 : begF (clrC C) 44 = I 44 := by
    rw [begF_at 44 (by decide) (by decide) (by decide), ← hC]
    simp [clrC, upM]
  unfold fX10_input
  simp only [h44, e6, e2]
  rw [if_neg (show ¬ nI c = (32 : Int32) from fun q => hc32 ((nI_eq (b := 32) (by omega) (by decide)).mp q)), if_neg (show ¬ nI ni = (6 : Int32) from fun q => hi6 ((nI_eq (b := 6) (by omega) (by decide)).mp q))]
  simp only [lt, nI_1]
  rw [adds_eq n c hn 0 (-1) (-1) _ J (by omega) (by rw [upM_get, if_pos rfl, if_neg (by decide), h44]; exact e6)]
  simp only [Option.bind_some]
  have hY0 : addMd c 0 (-1) (-1) (upM (begF (clrC C)) 44 7 (nI (ni + 1))) = begF (addMd c 0 (-1) (-1) (upM (clrC C) 44 7 (nI (ni + 1)))) := by
    unfold addMd
    rw [begF_up (by decide) (by decide) (by decide) (by decide), begF_up (by decide) (by decide) (by decide) (by decide), begF_up (by decide) (by decide) (by decide) (by decide), begF_up (by decide) (by decide) (by decide) (by decide), begF_up (by decide) (by decide) (by decide) (by decide)]
  rw [hY0, clrM_beg]
  generalize hY : addMd c 0 (-1) (-1) (upM (clrC C) 44 7 (nI (ni + 1))) = Y
  have hYz : Y 11 0 = 0 ∧ Y 22 0 = 0 ∧ Y 28 0 = 0 ∧ Y 34 0 = 0 := by
    rw [← hY]
    refine ⟨?_, ?_, ?_, ?_⟩ <;> simp [addMd, clrC, upM_get]
  have hPN : PN (c + 1) (ni + 1) nk no Y := by
    refine PN_add pn (by omega) (by omega) (by omega) 0 (-1) (-1) ⟨?_, ?_, ?_, ?_, ?_, ?_, ?_, ?_⟩ ?_ ?_ ?_ ?_ ?_ ?_ (fun i hi => ?_) (fun i hi => ?_) ?_ ?_ (fun i hi => ?_) ?_ (fun i hi => ?_) (fun i hi => ?_) (Or.inl ⟨rfl, rfl, rfl, ?_⟩)
    · rw [← hY, ← hC]; simp [addMd, clrC, upM_get]
    · rw [← hY, ← hC]; simp [addMd, clrC, upM_get]
    · rw [← hY, ← hC]; simp [addMd, clrC, upM_get]
    · rw [← hY, ← hC]; simp [addMd, clrC, upM_get]
    · rw [← hY, ← hC]; simp [addMd, clrC, upM_get, e3]
    · rw [← hY, ← hC]; simp [addMd, clrC, upM_get, e4]
    · rw [← hY, ← hC]; simp [addMd, clrC, upM_get]
    · rw [← hY, ← hC]; simp [addMd, clrC, upM_get]
    · rw [← hY, ← hC]; simp [addMd, clrC, upM]
    · rw [← hY, ← hC]; simp [addMd, clrC, upM]
    · rw [← hY, ← hC]; simp [addMd, clrC, upM]
    · rw [← hY, ← hC]; simp [addMd, clrC, upM]
    · rw [← hY, ← hC]; simp [addMd, clrC, upM]
    · rw [← hY, ← hC]; simp [addMd, clrC, upM]
    · rw [← hY, ← hC]; simp [addMd, clrC, upM_get, hi]
    · rw [← hY, ← hC]; simp [addMd, clrC, upM_get]
    · rw [← hY, ← hC]; simp [addMd, clrC, upM]
    · rw [← hY, ← hC]; simp [addMd, clrC, upM]
    · rw [← hY, ← hC]; simp [addMd, clrC, upM_get]
    · left
      rw [← hY, ← hC]
      simp only [addMd, clrC, upM_get]
      simp
      exact p49' c (Nat.le_refl _) (by omega)
    · rw [← hY, ← hC]; simp [addMd, clrC, upM_get]
    · rw [← hY, ← hC]; simp [addMd, clrC, upM_get]
    · rw [← hY, ← hC]; simp [addMd, clrC, upM_get]
  refine tot_some.mpr ⟨rfl, Inv_chg (by omega) (PR_fr (fun a ha => ?_) pr) (PQ_fr (fun a ha => ?_) (by rw [← hY, ← hC]; simp [addMd, clrC, upM_get]) pq) hYz hPN (PY_chg (fun a ha => by rw [← hY, ← hC]; simp only [addMd, clrC]; repeat rw [upM_ne a (by omega)]) (fun j h1 h2 => by rw [← hY, ← hC]; simp only [addMd, clrC, upM_get]; simp [show ¬ j = 6 by omega, show ¬ j = 7 by omega, show ¬ j = 8 by omega]) rfl (PK_plain py.2.2.2.2.1 (by omega) (fun a ha g hg => by simp only [List.mem_cons, List.not_mem_nil, or_false] at ha; rw [clrM_at (by omega), ← hY, ← hC]; rcases ha with rfl | rfl | rfl | rfl | rfl <;> simp [addMd, clrC, upM_get, show ¬ g = c by omega]) (by simp [clrM, upM_get]) (fun i _ => rfl) ⟨by rw [clrM_at (by decide), ← hY, ← hC]; simp [addMd, clrC, upM_get], by rw [clrM_at (by decide), ← hY, ← hC]; simp [addMd, clrC, upM_get], by rw [clrM_at (by decide), ← hY, ← hC]; simp [addMd, clrC, upM_get]⟩) (PC_add (I := I) (by rw [clrM_at (by decide), clrM_at (by decide), ← hY, ← hC]; simp [addMd, clrC, upM_get, e1, nI_1]) (by rw [clrM_at (by decide), clrM_at (by decide), ← hY, ← hC]; simp [addMd, clrC, upM_get]) (fun i hi => by rw [clrM_at (by decide), ← hY, ← hC]; simp [addMd, clrC, upM_get, show ¬ i = c by omega]) py.2.2.2.2.2.2.2.2) py)⟩
  · simp only [List.mem_cons, List.not_mem_nil, or_false] at ha
    rw [← hY, ← hC]
    rcases ha with rfl | rfl <;> simp [addMd, clrC, upM]
  · simp only [List.mem_cons, List.not_mem_nil, or_false] at ha
    rw [← hY, ← hC]
    rcases ha with rfl | rfl | rfl <;> simp [addMd, clrC, upM]
