/-! keeper -/
theorem bt_1 {i : Nat} (hi : i < 32) : bt 1 i = decide (i = 0) := by
  have : ∀ i, i < 32 → bt 1 i = decide (i = 0) := by decide +kernel
  exact this i hi
theorem bt_sh {c i : Nat} (hc : c < 32) (hi : i < 32) : bt ((1 : Int32) <<< (nI c &&& 31)) i = decide (i = c) := by
  rw [b_shl c hc 1 hi]
  by_cases h : c ≤ i
  · rw [bt_1 (by omega)]
    have : (i - c = 0) ↔ i = c := by omega
    simp [h, this]
  · have : ¬ i = c := by omega
    simp [h, this]
theorem B_keeper_ok (n : Nat) (hn : 32 < n) : B_keeper Inv n := by
  intro x hx01 m I J hI
  have hm := Inv_m hI
  obtain ⟨pr, pq, pf, c, ni, nk, no, pn, ⟨pu, py⟩⟩ := id hI
  obtain ⟨⟨hc, hni, hnk, hno⟩, ⟨e5, e6, e1, e2, e3, e4, e7, e8⟩, pcell, pouts, pg, pfi, p49, p49'⟩ := id pn
  have hfull : (c = 32 ∨ nk = 6) → tot (fX9_keeper_24 n I J) (fun r => tot (fX10_keeper n x r.2.1 r.2.2) (fun q => r.1 = q.1 ∧ Inv m q.2.1 q.2.2)) := by
    intro hh
    unfold fX9_keeper_24
    rw [ref_8]
    refine rr (j := 6) (f := fX10_keeper n x) (by decide) hI ?_
    unfold fX10_keeper fX10_keeper_18
    simp only [up43 (show (44 : Nat) ≠ 43 by decide), e6, e4]
    by_cases h : c = 32
    · rw [if_pos (by rw [h]; rfl), no_8]; rfl
    · rw [if_neg (show ¬ nI c = (32 : Int32) from fun q => h ((nI_eq (b := 32) (by omega) (by decide)).mp q)), if_pos (by rw [hh.resolve_left h]; rfl), no_8]; rfl
  unfold fX9_keeper
  rw [e5, e3]
  by_cases hc32 : c = 32
  · rw [if_pos (show (32 : Int32) ≤ nI c by rw [hc32]; decide)]
    exact hfull (Or.inl hc32)
  rw [if_neg (show ¬ (32 : Int32) ≤ nI c from nI_ge (a := c) (b := 32) (by omega) (by decide))]
  by_cases hi6 : nk = 6
  · rw [if_neg (show ¬ nI nk < (6 : Int32) by rw [hi6]; decide)]
    exact hfull (Or.inr hi6)
  rw [if_pos (show nI nk < (6 : Int32) from nI_lt (b := 6) (by omega) (by decide))]
  have hA : ∃ F : Int32, (∀ i, i < 32 → bt F i = (bt (I 1 10) i || decide (i = c ∧ x = 1))) ∧ fX3_addKeeper n x I J = some (nI c, upM (upM (upM (upM (upM (upM (upM I 1 7 (nI (nk + 1))) 1 10 F) 2 c 1) 3 c (nI c)) 4 c (-1)) 5 c (-1)) 1 5 (nI (c + 1)), J) := by
    unfold fX3_addKeeper fX3_addKeeper_29
    simp only [lt, e3, nI_1]
    rcases hx01 with rfl | rfl
    · refine ⟨I 1 10, fun i hi => by simp, ?_⟩
      rw [if_pos rfl, add_eq n c _ _ _ _ _ J (by omega) (by rw [upM_get, if_pos rfl, if_neg (by decide)]; exact e5)]
      have e : upM (upM I 1 7 (nI (nk + 1))) 1 10 (I 1 10) = upM I 1 7 (nI (nk + 1)) := by
        funext a b
        rw [upM_get]
        by_cases h1 : a = 1
        · by_cases h2 : b = 10
          · rw [if_pos h1, if_pos h2, h1, h2, upM_get, if_pos rfl, if_neg (by decide)]
          · rw [if_pos h1, if_neg h2]
        · rw [if_neg h1]
      rw [e, show upM I 1 7 (nI (nk + 1)) 1 5 = nI c from by rw [upM_get, if_pos rfl, if_neg (by decide)]; exact e5]
      rfl
    · refine ⟨I 1 10 ||| ((1 : Int32) <<< (nI c &&& 31)), fun i hi => by rw [b_or, bt_sh (by omega) hi]; simp, ?_⟩
      have q5 : upM I 1 7 (nI (nk + 1)) 1 5 = nI c := by rw [upM_get, if_pos rfl, if_neg (by decide)]; exact e5
      have q10 : upM I 1 7 (nI (nk + 1)) 1 10 = I 1 10 := by rw [upM_get, if_pos rfl, if_neg (by decide)]
      rw [if_neg (by decide), q5, q10]
      have q5' : upM (upM I 1 7 (nI (nk + 1))) 1 10 (I 1 10 ||| ((1 : Int32) <<< (nI c &&& 31))) 1 5 = nI c := by rw [upM_get, if_pos rfl, if_neg (by decide)]; exact q5
      rw [q5', add_eq n c _ _ _ _ _ J (by omega) q5']
      rfl
  obtain ⟨F, hF, hA⟩ := hA
  rw [hA]
  simp only [Option.bind_some, lt]
  rw [addPlain_eq n c _ J (by omega)]
  simp only [Option.bind_some]
  rw [forgetTables_eq n hn]
  simp only [Option.bind_some]
  generalize hC : upM (upM (upM (upM (upM (upM (upM (upM (upM I 1 7 (nI (nk + 1))) 1 10 F) 2 c 1) 3 c (nI c)) 4 c (-1)) 5 c (-1)) 1 5 (nI (c + 1))) 8 c 0) 9 c 0 = C
  refine tot_some.mpr ?_
  show tot (fX10_keeper n x (begF (clrC C)) J) _
  have h44 : begF (clrC C) 44 = I 44 := by
    rw [begF_at 44 (by decide) (by decide) (by decide), ← hC]
    simp [clrC, upM]
  have hbz : bz x = x := by rcases hx01 with rfl | rfl <;> decide
  unfold fX10_keeper
  simp only [h44, e6, e4]
  rw [if_neg (show ¬ nI c = (32 : Int32) from fun q => hc32 ((nI_eq (b := 32) (by omega) (by decide)).mp q)), if_neg (show ¬ nI nk = (6 : Int32) from fun q => hi6 ((nI_eq (b := 6) (by omega) (by decide)).mp q))]
  simp only [lt, nI_1, hbz]
  have q6 : upM (begF (clrC C)) 44 8 (nI (nk + 1)) 44 6 = nI c := by rw [upM_get, if_pos rfl, if_neg (by decide), h44]; exact e6
  rw [q6, if_pos (inb_nI (by omega) (by decide)), clampI (by omega)]
  have q6' : upM (upM (begF (clrC C)) 44 8 (nI (nk + 1))) 49 c x 44 6 = nI c := by rw [upM_ne 44 (by decide)]; exact q6
  rw [q6', adds_eq n c hn 1 (nI c) (-1) _ J (by omega) q6']
  simp only [Option.bind_some]
  have hY0 : addMd c 1 (nI c) (-1) (upM (upM (begF (clrC C)) 44 8 (nI (nk + 1))) 49 c x) = begF (addMd c 1 (nI c) (-1) (upM (upM (clrC C) 44 8 (nI (nk + 1))) 49 c x)) := by
    unfold addMd
    rw [begF_up (by decide) (by decide) (by decide) (by decide), begF_up (by decide) (by decide) (by decide) (by decide), begF_up (by decide) (by decide) (by decide) (by decide), begF_up (by decide) (by decide) (by decide) (by decide), begF_up (by decide) (by decide) (by decide) (by decide), begF_up (by decide) (by decide) (by decide) (by decide)]
  rw [hY0, clrM_beg]
  generalize hY : addMd c 1 (nI c) (-1) (upM (upM (clrC C) 44 8 (nI (nk + 1))) 49 c x) = Y
  have hYz : Y 11 0 = 0 ∧ Y 22 0 = 0 ∧ Y 28 0 = 0 ∧ Y 34 0 = 0 := by
    rw [← hY]
    refine ⟨?_, ?_, ?_, ?_⟩ <;> simp [addMd, clrC, upM_get]
  have h49c : Y 49 c = x := by rw [← hY]; simp [addMd, clrC, upM_get]
  have hPN : PN (c + 1) ni (nk + 1) no Y := by
    refine PN_add pn (by omega) (by omega) (by omega) 1 (nI c) (-1) ⟨?_, ?_, ?_, ?_, ?_, ?_, ?_, ?_⟩ ?_ ?_ ?_ ?_ ?_ ?_ (fun i hi => ?_) (fun i hi => ?_) ?_ ?_ (fun i hi => ?_) ?_ (fun i hi => ?_) (fun i hi => ?_) (Or.inr (Or.inl ⟨rfl, ⟨c, by omega, rfl⟩, rfl, ?_⟩))
    · rw [← hY, ← hC]; simp [addMd, clrC, upM_get]
    · rw [← hY, ← hC]; simp [addMd, clrC, upM_get]
    · rw [← hY, ← hC]; simp [addMd, clrC, upM_get, e1]
    · rw [← hY, ← hC]; simp [addMd, clrC, upM_get, e2]
    · rw [← hY, ← hC]; simp [addMd, clrC, upM_get]
    · rw [← hY, ← hC]; simp [addMd, clrC, upM_get]
    · rw [← hY, ← hC]; simp [addMd, clrC, upM_get]
    · rw [← hY, ← hC]; simp [addMd, clrC, upM_get]
    · rw [← hY, ← hC]; simp [addMd, clrC, upM]
    · rw [← hY, ← hC]; simp [addMd, clrC, upM]
    · rw [← hY, ← hC]; simp [addMd, clrC, upM]
    · rw [← hY, ← hC]; simp [addMd, clrC, upM]
    · rw [← hY, ← hC]; simp [addMd, clrC, upM]
    · rw [← hY, ← hC]; simp [addMd, clrC, upM]
    · rw [← hY, ← hC]; simp [addMd, clrC, upM_get, hi]
    · rw [← hY, ← hC]; simp [addMd, clrC, upM_get]
    · rw [← hY, ← hC]; simp [addMd, clrC, upM]
    · rw [← hY, ← hC]; simp [addMd, clrC, upM]
    · rw [← hY, ← hC]; simp [addMd, clrC, upM_get, hi]
    · rw [h49c]; exact hx01
    · rw [← hY, ← hC]; simp [addMd, clrC, upM_get]
    · rw [h49c]
      have : Y 1 10 = F := by rw [← hY, ← hC]; simp [addMd, clrC, upM_get]
      rw [this, hF i hi]
      simp
    · rw [← hY, ← hC]; simp [addMd, clrC, upM_get]
  refine tot_some.mpr ⟨rfl, Inv_chg (by omega) (PR_fr (fun a ha => ?_) pr) (PQ_fr (fun a ha => ?_) (by rw [← hY, ← hC]; simp [addMd, clrC, upM_get]) pq) hYz hPN (PY_chg (fun a ha => by rw [← hY, ← hC]; simp only [addMd, clrC]; repeat rw [upM_ne a (by omega)]) (fun j h1 h2 => by rw [← hY, ← hC]; simp only [addMd, clrC, upM_get]; simp [show ¬ j = 6 by omega, show ¬ j = 7 by omega, show ¬ j = 8 by omega]) rfl (PK_plain py.2.2.2.2.1 (by omega) (fun a ha g hg => by simp only [List.mem_cons, List.not_mem_nil, or_false] at ha; rw [clrM_at (by omega), ← hY, ← hC]; rcases ha with rfl | rfl | rfl | rfl | rfl <;> simp [addMd, clrC, upM_get, show ¬ g = c by omega]) (by simp [clrM, upM_get]) (fun i _ => rfl) ⟨by rw [clrM_at (by decide), ← hY, ← hC]; simp [addMd, clrC, upM_get], by rw [clrM_at (by decide), ← hY, ← hC]; simp [addMd, clrC, upM_get], by rw [clrM_at (by decide), ← hY, ← hC]; simp [addMd, clrC, upM_get]⟩) (PC_add (I := I) (by rw [clrM_at (by decide), clrM_at (by decide), ← hY, ← hC]; simp [addMd, clrC, upM_get]) (by rw [clrM_at (by decide), clrM_at (by decide), ← hY, ← hC]; simp [addMd, clrC, upM_get, e3, nI_1]) (fun i hi => by rw [clrM_at (by decide), ← hY, ← hC]; simp [addMd, clrC, upM_get, show ¬ i = c by omega]) py.2.2.2.2.2.2.2.2) py)⟩
  · simp only [List.mem_cons, List.not_mem_nil, or_false] at ha
    rw [← hY, ← hC]
    rcases ha with rfl | rfl <;> simp [addMd, clrC, upM]
  · simp only [List.mem_cons, List.not_mem_nil, or_false] at ha
    rw [← hY, ← hC]
    rcases ha with rfl | rfl | rfl <;> simp [addMd, clrC, upM]
