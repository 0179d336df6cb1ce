/-! source, cell -/
theorem B_source_ok (n : Nat) (hn : 32 < n) : B_source Inv n := by
  intro x z m I J hI
  have hm := Inv_m hI
  obtain ⟨pr, pq, pf, c, ni, nk, no, pn, ⟨pu, py⟩⟩ := id hI
  obtain ⟨⟨hc, hni, hnk, hno⟩, ⟨e5, e6, e1, e2, e3, e4, e7, e8⟩, pcell, pouts, pg, pfi, p49, p49'⟩ := id pn
  have e6' : upM I 43 1 (I 43 1 + 1) 44 6 = nI c := by rw [up43 (by decide)]; exact e6
  unfold fX9_source fX9_source_22
  by_cases hx : ∃ o, o < c ∧ x = nI o
  case neg =>
    rw [has_no (by omega) e5 hx]
    simp only [Option.bind_some, if_true]
    rw [ref_3]
    refine rr (j := 1) (f := fX10_source n x z) (by decide) hI ?_
    unfold fX10_source fX10_source_16
    rw [isCell_no (c := c) (by omega) e6' hx]
    simp only [Option.bind_some, if_true]
    rw [no_3]
    rfl
  obtain ⟨k, hk, rfl⟩ := hx
  rw [has_yes (by omega) e5 hk]
  simp only [Option.bind_some]
  rw [if_neg (by decide)]
  by_cases hz : ∃ o, o < c ∧ z = nI o
  case neg =>
    rw [has_no (by omega) e5 hz]
    simp only [Option.bind_some, if_true]
    rw [ref_3]
    refine rr (j := 1) (f := fX10_source n (nI k) z) (by decide) hI ?_
    unfold fX10_source fX10_source_16
    rw [isCell_yes (c := c) (by omega) e6' hk]
    simp only [Option.bind_some]
    rw [if_neg (by decide), isCell_no (c := c) (by omega) e6' hz]
    simp only [Option.bind_some, if_true]
    rw [no_3]
    rfl
  obtain ⟨o, ho, rfl⟩ := hz
  rw [has_yes (by omega) e5 ho]
  simp only [Option.bind_some]
  rw [if_neg (by decide), if_pos (inb_nI (by omega) (by decide)), clampI (by omega)]
  have hk0 := pcell k hk
  have hk45 : I 45 k = I 2 k := hk0.1
  have hk46 : I 46 k = I 3 k := hk0.2.1
  by_cases hs : I 2 k = 1
  case neg =>
    rw [if_neg hs, ref_5]
    refine rr (j := 3) (f := fX10_source n (nI k) (nI o)) (by decide) hI ?_
    have e6'' : upM I 43 3 (I 43 3 + 1) 44 6 = nI c := by rw [up43 (by decide)]; exact e6
    unfold fX10_source
    rw [isCell_yes (c := c) (by omega) e6'' hk]
    simp only [Option.bind_some]
    rw [if_neg (by decide), isCell_yes (c := c) (by omega) e6'' ho]
    simp only [Option.bind_some, up43 (show (45 : Nat) ≠ 43 by decide)]
    rw [if_neg (by decide), if_pos (inb_nI (by omega) (by decide)), clampI (by omega), if_neg (by rw [hk45]; exact hs), no_5]
    rfl
  rw [if_pos hs]
  simp only [lt, inb_nI (show k < 32 by omega) (by decide), if_true]
  rw [forgetTables_eq n hn]
  simp only [Option.bind_some]
  generalize hC : upM I 3 k (nI o) = C
  refine tot_some.mpr ?_
  show tot (fX10_source n (nI k) (nI o) (begF (clrC C)) J) _
  have hb : ∀ a, a ≠ 3 → a ≠ 11 → a ≠ 22 → a ≠ 28 → a ≠ 34 → a ≠ 38 → a ≠ 39 → a ≠ 40 → begF (clrC C) a = I a := by
    intro a h1 h2 h3 h4 h5 h6 h7 h8
    rw [begF_at a h6 h7 h8, clrC_at h2 h3 h4 h5, ← hC, upM_ne a h1]
  have h44 : begF (clrC C) 44 = I 44 := hb 44 (by decide) (by decide) (by decide) (by decide) (by decide) (by decide) (by decide) (by decide)
  have h45 : begF (clrC C) 45 = I 45 := hb 45 (by decide) (by decide) (by decide) (by decide) (by decide) (by decide) (by decide) (by decide)
  have h46 : begF (clrC C) 46 = I 46 := hb 46 (by decide) (by decide) (by decide) (by decide) (by decide) (by decide) (by decide) (by decide)
  unfold fX10_source
  rw [isCell_yes (c := c) (by omega) (by rw [h44]; exact e6) hk]
  simp only [Option.bind_some]
  rw [if_neg (by decide), isCell_yes (c := c) (by omega) (by rw [h44]; exact e6) ho]
  simp only [Option.bind_some, lt, inb_nI (show k < 32 by omega) (by decide), if_true, h45, h46, clampI (show k < 2 ^ 31 by omega)]
  rw [if_neg (by decide), if_pos (by rw [hk45]; exact hs), begF_up (by decide) (by decide) (by decide) (by decide)]
  generalize hY : upM (clrC C) 46 k (nI o) = Y
  have hYc : ∀ a, a ≠ 3 → a ≠ 46 → a ≠ 11 → a ≠ 22 → a ≠ 28 → a ≠ 34 → Y a = I a := by
    intro a h1 h2 h3 h4 h5 h6
    rw [← hY, upM_ne a h2, clrC_at h3 h4 h5 h6, ← hC, upM_ne a h1]
  have y6 : begF Y 44 6 = nI c := by
    rw [begF_at 44 (by decide) (by decide) (by decide), hYc 44 (by decide) (by decide) (by decide) (by decide) (by decide) (by decide)]
    exact e6
  rw [changes_eq n c hn hc (begF Y) J y6, clrM_beg]
  simp only [Option.bind_some]
  have hYz : Y 11 0 = 0 ∧ Y 22 0 = 0 ∧ Y 28 0 = 0 ∧ Y 34 0 = 0 := by
    have h : ∀ a, a ≠ 46 → Y a = clrC C a := fun a h1 => by rw [← hY, upM_ne a h1]
    rw [h 11 (by decide), h 22 (by decide), h 28 (by decide), h 34 (by decide)]
    exact clrC_z
  have hY3 : ∀ j, Y 3 j = if j = k then nI o else I 3 j := by
    intro j
    rw [← hY, upM_ne 3 (by decide), clrC_at (by decide) (by decide) (by decide) (by decide), ← hC, upM_get, if_pos rfl]
  have hY46 : ∀ j, Y 46 j = if j = k then nI o else I 46 j := by
    intro j
    rw [← hY, upM_get, if_pos rfl, clrC_at (by decide) (by decide) (by decide) (by decide), ← hC, upM_ne 46 (by decide)]
  have q1 := hYc 1 (by decide) (by decide) (by decide) (by decide) (by decide) (by decide)
  have q2 := hYc 2 (by decide) (by decide) (by decide) (by decide) (by decide) (by decide)
  have q4 := hYc 4 (by decide) (by decide) (by decide) (by decide) (by decide) (by decide)
  have q5 := hYc 5 (by decide) (by decide) (by decide) (by decide) (by decide) (by decide)
  have q6 := hYc 6 (by decide) (by decide) (by decide) (by decide) (by decide) (by decide)
  have q44 := hYc 44 (by decide) (by decide) (by decide) (by decide) (by decide) (by decide)
  have q45 := hYc 45 (by decide) (by decide) (by decide) (by decide) (by decide) (by decide)
  have q47 := hYc 47 (by decide) (by decide) (by decide) (by decide) (by decide) (by decide)
  have q48 := hYc 48 (by decide) (by decide) (by decide) (by decide) (by decide) (by decide)
  have q49 := hYc 49 (by decide) (by decide) (by decide) (by decide) (by decide) (by decide)
  have q50 := hYc 50 (by decide) (by decide) (by decide) (by decide) (by decide) (by decide)
  have hPN : PN c ni nk no Y := by
    unfold PN
    rw [q1, q2, q6, q44, q49, q50]
    refine ⟨⟨hc, hni, hnk, hno⟩, ⟨e5, e6, e1, e2, e3, e4, e7, e8⟩, fun i hi => ?_, pouts, pg, pfi, p49, p49'⟩
    have h := pcell i hi
    unfold cellOk at h ⊢
    rw [q2, q4, q5, q45, q47, q48, hY3, hY46]
    by_cases hik : i = k
    · subst hik
      rw [if_pos rfl, if_pos rfl]
      refine ⟨h.1, rfl, h.2.2.1, Or.inr (Or.inl ⟨hs, ⟨o, ho, rfl⟩, ?_⟩)⟩
      rcases h.2.2.2 with g | g | g
      · exact absurd (g.1.symm.trans hs) (by decide)
      · exact g.2.2
      · exact absurd (g.1.symm.trans hs) (by decide)
    · rw [if_neg hik, if_neg hik]
      exact h
  refine tot_some.mpr ⟨hk46.symm, Inv_chg (by omega) (PR_fr (fun a ha => ?_) pr) (PQ_fr (fun a ha => ?_) (by rw [q44]) pq) hYz hPN (PY_chg (fun a ha => hYc a (by omega) (by omega) (by omega) (by omega) (by omega) (by omega)) (fun j h1 h2 => by rw [q44]) rfl (PK_chg (fun a ha g _ => by simp only [List.mem_cons, List.not_mem_nil, or_false] at ha; rw [clrM_at (by omega), hYc a (by omega) (by omega) (by omega) (by omega) (by omega) (by omega)]) (fun g _ h2 => ⟨by rw [clrM_at (by decide), hY3, if_neg (fun e => by rw [e, hs] at h2; exact absurd h2 (by decide))], by rw [clrM_at (by decide), hYc 4 (by decide) (by decide) (by decide) (by decide) (by decide) (by decide)]⟩) (by simp [clrM, upM_get]) rfl py.2.2.2.2.1) (PC_fr (by rw [clrM_at (by decide), q1]) (by rw [clrM_at (by decide), q2]) py.2.2.2.2.2.2.2.2) py)⟩
  · simp only [List.mem_cons, List.not_mem_nil, or_false] at ha
    exact hYc a (by omega) (by omega) (by omega) (by omega) (by omega) (by omega)
  · simp only [List.mem_cons, List.not_mem_nil, or_false] at ha
    exact hYc a (by omega) (by omega) (by omega) (by omega) (by omega) (by omega)
