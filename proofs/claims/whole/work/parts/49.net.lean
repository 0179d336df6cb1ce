/-! the net: what a change leaves; start -/
theorem begF_v {I : MI} {a : Nat} (ha : a = 39 ∨ a = 40) (b : Nat) : begF I a b = if b < 32 then begV I b else I a b := by
  unfold begF begS
  have hv : begV (upM (upM (upM (upM I 38 0 0) 38 1 0) 38 2 0) 38 3 (-1)) b = begV I b := by
    unfold begV
    simp only [upM_ne 1 (show (1 : Nat) ≠ 38 by decide)]
  by_cases hb : b < 32
  · rw [if_pos ⟨ha, hb⟩, if_pos hb, hv]
  · rw [if_neg (fun h => hb h.2), if_neg hb, upM_ne a (by omega), upM_ne a (by omega), upM_ne a (by omega), upM_ne a (by omega)]
theorem begF_up {I : MI} {a j : Nat} {v : Int32} (h1 : a ≠ 1) (h2 : a ≠ 38) (h3 : a ≠ 39) (h4 : a ≠ 40) : upM (begF I) a j v = begF (upM I a j v) := by
  funext x b
  by_cases e1 : x = 38
  · subst e1
    rw [upM_ne 38 (Ne.symm h2), begF_38, begF_38, upM_ne 38 (Ne.symm h2)]
  · by_cases e2 : x = 39 ∨ x = 40
    · rw [upM_ne x (by omega), begF_v e2, begF_v e2, upM_ne x (by omega)]
      unfold begV
      rw [upM_ne 1 (Ne.symm h1)]
    · rw [begF_at x e1 (by omega) (by omega), upM_get, upM_get, begF_at x e1 (by omega) (by omega)]
/-- what the parts that aren't said yet don't look at: runs -/
theorem PY_run {c : Nat} {I I' : MI} {J : MJ} (h : ∀ a, a ≠ 38 → a ≠ 39 → a ≠ 40 → a ≠ 71 → a ≠ 72 → a ≠ 73 → a ≠ 44 → I' a = I a) (h4 : ∀ j, j ≠ 42 → j ≠ 43 → j ≠ 44 → j ≠ 45 → I' 44 j = I 44 j) (hp : PY c I J) : PY c I' J := by
  refine ⟨PG_fr (fun a ha => ?_) (fun j hj => ?_) rfl hp.1, PW_fr (fun a ha => ?_) (h4 13 (by decide) (by decide) (by decide) (by decide)) rfl hp.2.1, PP_fr (fun a ha => ?_) (h4 12 (by decide) (by decide) (by decide) (by decide)) hp.2.2.1, PF_fr (fun a ha => ?_) (by rw [h 16 (by decide) (by decide) (by decide) (by decide) (by decide) (by decide) (by decide)]) (h4 14 (by decide) (by decide) (by decide) (by decide)) hp.2.2.2.1, PE_fr (fun a ha => h a (by omega) (by omega) (by omega) (by omega) (by omega) (by omega) (by omega)) (fun j hj => h4 j (by omega) (by omega) (by omega) (by omega)) hp.2.2.2.2⟩
  rotate_left 3
  · simp only [List.mem_cons, List.not_mem_nil, or_false] at ha
    exact h a (by omega) (by omega) (by omega) (by omega) (by omega) (by omega) (by omega)
  · simp only [List.mem_cons, List.not_mem_nil, or_false] at ha
    exact h a (by omega) (by omega) (by omega) (by omega) (by omega) (by omega) (by omega)
  · simp only [List.mem_cons, List.not_mem_nil, or_false] at ha
    exact h a (by omega) (by omega) (by omega) (by omega) (by omega) (by omega) (by omega)
  · simp only [List.mem_cons, List.not_mem_nil, or_false] at hj
    exact h4 j (by omega) (by omega) (by omega) (by omega)
  · simp only [List.mem_cons, List.not_mem_nil, or_false] at ha
    exact h a (by omega) (by omega) (by omega) (by omega) (by omega) (by omega) (by omega)
theorem bb_at {I : MI} {c : Nat} (a : Nat) (h1 : a ≠ 38) (h2 : a ≠ 39) (h3 : a ≠ 40) (h4 : a ≠ 44) (h5 : a ≠ 71) (h6 : a ≠ 72) : bgnF (begF I) c a = I a := by
  rw [bgnF_at a h4 h5 h6, begF_at a h1 h2 h3]
theorem bb_44 {I : MI} {c : Nat} (j : Nat) (h1 : j ≠ 45) (h2 : j ≠ 42) : bgnF (begF I) c 44 j = I 44 j := by
  rw [bgnF_44, if_neg h1, if_neg h2, begF_at 44 (by decide) (by decide) (by decide)]
/-- begin and begins over a state that has all but its runs -/
theorem Inv_beg {m c ni nk no : Nat} {I : MI} {J : MJ} (hm : m ≤ 3000) (hr : PR I) (hq : PQ I) (hf : Pf I) (hn : PN c ni nk no I) (hy : PY c I J) : Inv m (bgnF (begF I) c) J := by
  refine ⟨PR_fr ?_ hr, PQ_fr ?_ (bb_44 48 (by decide) (by decide)) hq, Pf_fr ?_ ?_ ?_ ?_ ?_ hf, c, ni, nk, no, PN_fr ?_ ?_ hn, PU_beg hm hn, PY_run ?_ ?_ hy⟩
  · intro a ha
    simp only [List.mem_cons, List.not_mem_nil, or_false] at ha
    exact bb_at a (by omega) (by omega) (by omega) (by omega) (by omega) (by omega)
  · intro a ha
    simp only [List.mem_cons, List.not_mem_nil, or_false] at ha
    exact bb_at a (by omega) (by omega) (by omega) (by omega) (by omega) (by omega)
  · rw [bb_at 11 (by decide) (by decide) (by decide) (by decide) (by decide) (by decide)]
  · rw [bb_at 22 (by decide) (by decide) (by decide) (by decide) (by decide) (by decide)]
  · rw [bb_at 28 (by decide) (by decide) (by decide) (by decide) (by decide) (by decide)]
  · rw [bb_at 34 (by decide) (by decide) (by decide) (by decide) (by decide) (by decide)]
  · intro j hj
    simp only [List.mem_cons, List.not_mem_nil, or_false] at hj
    exact bb_44 j (by omega) (by omega)
  · intro a ha
    simp only [List.mem_cons, List.not_mem_nil, or_false] at ha
    exact bb_at a (by omega) (by omega) (by omega) (by omega) (by omega) (by omega)
  · intro j hj
    simp only [List.mem_cons, List.not_mem_nil, or_false] at hj
    exact bb_44 j (by omega) (by omega)
  · intro a h1 h2 h3 h4 h5 h6 h7
    exact bb_at a h1 h2 h3 h7 h4 h5
  · intro j h1 h2 h3 h4
    exact bb_44 j h4 h1
theorem Inv_m {m : Nat} {I : MI} {J : MJ} (h : Inv m I J) : m ≤ 3000 := by
  obtain ⟨-, -, -, c, ni, nk, no, -, ⟨⟨k, -, hk⟩, -⟩, -⟩ := h
  omega
theorem B_start_ok (n : Nat) (hn : 32 < n) : B_start Inv n := by
  intro m I J hI
  have hm := Inv_m hI
  obtain ⟨pr, pq, pf, c, ni, nk, no, pn, ⟨pu, py⟩⟩ := id hI
  have hf := pf.1.2.2.2
  unfold fX9_start
  rw [begin_eq n hn]
  have h44 : begF I 44 = I 44 := begF_at 44 (by decide) (by decide) (by decide)
  have h34 : begF I 34 = I 34 := begF_at 34 (by decide) (by decide) (by decide)
  have hB := begins_eq n c hn pn.1.1 (begF I) J (by rw [h44]; exact pn.2.1.2.1)
  have hfin : Inv m (bgnF (begF I) c) J := Inv_beg (by omega) pr pq pf pn py
  have h14 : bgnF (begF I) c 44 14 = I 44 14 := bb_44 14 (by decide) (by decide)
  simp only [Option.bind_some, h34]
  by_cases h : I 34 0 = 0
  · rw [if_pos h]
    refine tot_some.mpr ?_
    show tot (fX10_start n (begF I) J) _
    unfold fX10_start
    rw [hB]
    simp only [Option.bind_some, h14]
    rw [if_pos (by rw [← hf]; exact h)]
    exact tot_some.mpr ⟨rfl, hfin⟩
  · rw [if_neg h]
    refine tot_some.mpr ?_
    show tot (fX10_start n (begF I) J) _
    unfold fX10_start
    rw [hB]
    simp only [Option.bind_some, h14]
    rw [if_neg (by rw [← hf]; exact h)]
    exact tot_some.mpr ⟨rfl, hfin⟩
