/-! out, source, cell -/
theorem rr {m j : Nat} {v : Int32} (hj : j < 7) {I : MI} {J : MJ} {f : MI → MJ → Option (Int32 × M2)} (hI : Inv (m + 1) I J) (h : f (upM I 43 j (I 43 j + 1)) J = some (v, upM (upM I 43 j (I 43 j + 1)) 51 (j + 2) ((upM I 43 j (I 43 j + 1)) 51 (j + 2) + 1), J)) : tot (some (v, upM I 43 j (I 43 j + 1), J)) (fun r => tot (f r.2.1 r.2.2) (fun q => r.1 = q.1 ∧ Inv m q.2.1 q.2.2)) := by
  refine tot_some.mpr ?_
  show tot (f (upM I 43 j (I 43 j + 1)) J) _
  rw [h]
  exact tot_some.mpr ⟨rfl, ref2 hj hI⟩
theorem inP {x : Int32} {c : Nat} (hc : c < 2 ^ 31) : (0 ≤ x ∧ x < nI c) ↔ ∃ o, o < c ∧ x = nI o := by
  constructor
  · intro ⟨h1, h2⟩
    obtain ⟨j, hj, rfl⟩ := nI_of (Int32.not_lt.mpr h1)
    exact ⟨j, (nI_ltI hj hc).mp h2, rfl⟩
  · intro ⟨o, ho, e⟩
    subst e
    exact ⟨nI_pos' (by omega), nI_lt ho hc⟩
/-- both sides hold a number for no CELL, or for the same -/
theorem has_no {n c : Nat} {x : Int32} {I : MI} {J : MJ} (hc : c < 2 ^ 31) (h : I 1 5 = nI c) (hx : ¬ ∃ o, o < c ∧ x = nI o) : fX3_has n x I J = some (0, I, J) := by
  rw [has_eq, h, b2_f (fun q => hx ((inP hc).mp q))]
theorem has_yes {n c o : Nat} {I : MI} {J : MJ} (hc : c < 2 ^ 31) (h : I 1 5 = nI c) (ho : o < c) : fX3_has n (nI o) I J = some (1, I, J) := by
  rw [has_eq, h, b2_t ((inP hc).mpr ⟨o, ho, rfl⟩)]
theorem isCell_no {n c : Nat} {x : Int32} {I : MI} {J : MJ} (hc : c < 2 ^ 31) (h : I 44 6 = nI c) (hx : ¬ ∃ o, o < c ∧ x = nI o) : fX10_isCell n x I J = some (0, I, J) := by
  rw [isCell_eq, h, b2_f (fun q => hx ((inP hc).mp q))]
theorem isCell_yes {n c o : Nat} {I : MI} {J : MJ} (hc : c < 2 ^ 31) (h : I 44 6 = nI c) (ho : o < c) : fX10_isCell n (nI o) I J = some (1, I, J) := by
  rw [isCell_eq, h, b2_t ((inP hc).mpr ⟨o, ho, rfl⟩)]
/-- what the parts that aren't said yet keep when the net changes -/
theorem PY_chg {c c' : Nat} {I Y : MI} {J J' : MJ} (h : ∀ a, ((16 ≤ a ∧ a ≤ 21) ∨ a = 60) → Y a = I a) (h4 : ∀ j, 24 ≤ j → j ≤ 27 → Y 44 j = I 44 j) (hJ : J' 16 = J 16) (hk : PK c' (clrM Y) J') (hcn : PC c' (clrM Y)) (hp : PY c I J) : PY c' (clrM Y) J' := by
  refine ⟨PG_fr (fun a ha => ?_) (fun j hj => ?_) (by rw [hJ]) hp.1, PW_0 (by simp [clrM, upM_get]), PP_0 (by simp [clrM, upM_get]), PF_0 (by simp [clrM, upM_get]), PE_chg hk hcn ⟨by simp [clrM, upM_get], by simp [clrM, upM_get], by simp [clrM, upM_get], by simp [clrM, upM_get]⟩⟩
  · simp only [List.mem_cons, List.not_mem_nil, or_false] at ha
    rw [clrM_at (by omega)]
    exact h a (by omega)
  · simp only [List.mem_cons, List.not_mem_nil, or_false] at hj
    rw [clrM_44 (by omega) (by omega) (by omega) (by omega) (by omega)]
    exact h4 j (by omega) (by omega)
theorem B_out_ok (n : Nat) (hn : 32 < n) : B_out Inv n := by
  intro x m I J hI
  have hm := Inv_m hI
  obtain ⟨pr, pq, pf, c, ni, nk, no, pn, ⟨pu, py⟩⟩ := id hI
  obtain ⟨⟨hc, hni, hnk, hno⟩, ⟨e5, e6, e1, e2, e3, e4, e7, e8⟩, pcell, pouts, pg, pfi, p49, p49'⟩ := id pn
  unfold fX9_out
  by_cases hx : ∃ o, o < c ∧ x = nI o
  case neg =>
    rw [has_no (by omega) e5 hx]
    simp only [Option.bind_some, if_true]
    rw [ref_3]
    refine rr (j := 1) (f := fX10_out n x) (by decide) hI ?_
    unfold fX10_out
    rw [isCell_no (c := c) (by omega) (by rw [up43 (by decide)]; exact e6) hx]
    simp only [Option.bind_some, if_true]
    rw [no_3]
    rfl
  obtain ⟨o, ho, rfl⟩ := hx
  rw [has_yes (by omega) e5 ho]
  simp only [Option.bind_some]
  rw [if_neg (by decide), e7]
  by_cases h8 : no = 8
  · subst h8
    rw [if_neg (by decide), ref_8]
    refine rr (j := 6) (f := fX10_out n (nI o)) (by decide) hI ?_
    unfold fX10_out
    rw [isCell_yes (c := c) (by omega) (by rw [up43 (by decide)]; exact e6) ho]
    simp only [Option.bind_some, up43 (show (44 : Nat) ≠ 43 by decide), e8]
    rw [if_neg (by decide), if_pos (by decide), no_8]
    rfl
  · rw [if_pos (show nI no < (8 : Int32) from nI_lt (b := 8) (by omega) (by decide))]
    have hA : fX3_addOut n (nI o) I J = some (upM (upM I 6 no (nI o)) 1 8 (nI (no + 1)), J) := by
      unfold fX3_addOut
      rw [e7, if_pos (inb_nI (by omega) (by decide)), clampI (by omega)]
      simp only [lt, upM_ne 1 (show (1 : Nat) ≠ 6 by decide), e7, nI_1]
    rw [hA]
    simp only [Option.bind_some]
    rw [forgetTables_eq n hn]
    simp only [Option.bind_some]
    generalize hC : upM (upM I 6 no (nI o)) 1 8 (nI (no + 1)) = C
    have hC8 : begF (clrC C) 1 8 = nI (no + 1) := by
      rw [begF_at 1 (by decide) (by decide) (by decide), clrC_at (by decide) (by decide) (by decide) (by decide), ← hC]
      simp [upM_get]
    rw [hC8]
    refine tot_some.mpr ?_
    show tot (fX10_out n (nI o) (begF (clrC C)) J) _
    have h44 : begF (clrC C) 44 = I 44 := by
      rw [begF_at 44 (by decide) (by decide) (by decide), clrC_at (by decide) (by decide) (by decide) (by decide), ← hC]
      simp [upM]
    unfold fX10_out
    rw [isCell_yes (c := c) (by omega) (by rw [h44]; exact e6) ho]
    simp only [Option.bind_some, h44, e8]
    rw [if_neg (by decide), if_neg (show ¬ nI no = (8 : Int32) from fun h => h8 ((nI_eq (b := 8) (by omega) (by decide)).mp h)), if_pos (inb_nI (by omega) (by decide)), clampI (by omega)]
    simp only [lt, upM_ne 44 (show (44 : Nat) ≠ 50 by decide), h44, e8, nI_1]
    rw [begF_up (by decide) (by decide) (by decide) (by decide), begF_up (by decide) (by decide) (by decide) (by decide)]
    generalize hY : upM (upM (clrC C) 50 no (nI o)) 44 9 (nI (no + 1)) = Y
    have y6 : begF Y 44 6 = nI c := by
      rw [begF_at 44 (by decide) (by decide) (by decide), ← hY, upM_get, if_pos rfl, if_neg (by decide), upM_ne 44 (by decide), clrC_at (by decide) (by decide) (by decide) (by decide), ← hC, upM_ne 44 (by decide), upM_ne 44 (by decide)]
      exact e6
    rw [changes_eq n c hn hc (begF Y) J y6, clrM_beg]
    simp only [Option.bind_some]
    have hYc : ∀ a, a ≠ 1 → a ≠ 6 → a ≠ 50 → a ≠ 44 → a ≠ 11 → a ≠ 22 → a ≠ 28 → a ≠ 34 → Y a = I a := by
      intro a h1 h2 h3 h4 h5 h6 h7 h9
      rw [← hY, upM_ne a h4, upM_ne a h3, clrC_at h5 h6 h7 h9, ← hC, upM_ne a h1, upM_ne a h2]
    have hY44 : ∀ j, j ≠ 9 → Y 44 j = I 44 j := by
      intro j hj
      rw [← hY, upM_get, if_pos rfl, if_neg hj, upM_ne 44 (by decide), clrC_at (by decide) (by decide) (by decide) (by decide), ← hC, upM_ne 44 (by decide), upM_ne 44 (by decide)]
    have hY1 : ∀ j, j ≠ 8 → Y 1 j = I 1 j := by
      intro j hj
      rw [← hY, upM_ne 1 (by decide), upM_ne 1 (by decide), clrC_at (by decide) (by decide) (by decide) (by decide), ← hC, upM_get, if_pos rfl, if_neg hj, upM_ne 1 (by decide)]
    have hY6 : ∀ j, Y 6 j = if j = no then nI o else I 6 j := by
      intro j
      rw [← hY, upM_ne 6 (by decide), upM_ne 6 (by decide), clrC_at (by decide) (by decide) (by decide) (by decide), ← hC, upM_ne 6 (by decide), upM_get, if_pos rfl]
    have hY50 : ∀ j, Y 50 j = if j = no then nI o else I 50 j := by
      intro j
      rw [← hY, upM_ne 50 (by decide), upM_get, if_pos rfl, clrC_at (by decide) (by decide) (by decide) (by decide), ← hC, upM_ne 50 (by decide), upM_ne 50 (by decide)]
    have hYz : Y 11 0 = 0 ∧ Y 22 0 = 0 ∧ Y 28 0 = 0 ∧ Y 34 0 = 0 := by
      have h : ∀ a, a ≠ 44 → a ≠ 50 → Y a = clrC C a := fun a h1 h2 => by rw [← hY, upM_ne a h1, upM_ne a h2]
      rw [h 11 (by decide) (by decide), h 22 (by decide) (by decide), h 28 (by decide) (by decide), h 34 (by decide) (by decide)]
      exact clrC_z
    have hPN : PN c ni nk (no + 1) Y := by
      refine ⟨⟨hc, hni, hnk, by omega⟩, ⟨?_, ?_, ?_, ?_, ?_, ?_, ?_, ?_⟩, ?_, ?_, ?_, ?_, ?_, ?_⟩
      · rw [hY1 5 (by decide)]; exact e5
      · rw [hY44 6 (by decide)]; exact e6
      · rw [hY1 6 (by decide)]; exact e1
      · rw [hY44 7 (by decide)]; exact e2
      · rw [hY1 7 (by decide)]; exact e3
      · rw [hY44 8 (by decide)]; exact e4
      · rw [← hY, upM_ne 1 (by decide), upM_ne 1 (by decide), clrC_at (by decide) (by decide) (by decide) (by decide), ← hC, upM_get, if_pos rfl, if_pos rfl]
      · rw [← hY, upM_get, if_pos rfl, if_pos rfl]
      · intro i hi
        have h := pcell i hi
        unfold cellOk at h ⊢
        rw [hYc 45 (by decide) (by decide) (by decide) (by decide) (by decide) (by decide) (by decide) (by decide), hYc 46 (by decide) (by decide) (by decide) (by decide) (by decide) (by decide) (by decide) (by decide), hYc 47 (by decide) (by decide) (by decide) (by decide) (by decide) (by decide) (by decide) (by decide), hYc 48 (by decide) (by decide) (by decide) (by decide) (by decide) (by decide) (by decide) (by decide), hYc 2 (by decide) (by decide) (by decide) (by decide) (by decide) (by decide) (by decide) (by decide), hYc 3 (by decide) (by decide) (by decide) (by decide) (by decide) (by decide) (by decide) (by decide), hYc 4 (by decide) (by decide) (by decide) (by decide) (by decide) (by decide) (by decide) (by decide), hYc 5 (by decide) (by decide) (by decide) (by decide) (by decide) (by decide) (by decide) (by decide)]
        exact h
      · intro k hk
        rw [hY6, hY50]
        by_cases h : k = no
        · rw [if_pos h, if_pos h]
          exact ⟨rfl, o, ho, rfl⟩
        · rw [if_neg h, if_neg h]
          exact pouts k (by omega)
      · rw [hY1 9 (by decide), hYc 2 (by decide) (by decide) (by decide) (by decide) (by decide) (by decide) (by decide) (by decide)]; exact pg
      · rw [hY1 10 (by decide), hYc 2 (by decide) (by decide) (by decide) (by decide) (by decide) (by decide) (by decide) (by decide), hYc 49 (by decide) (by decide) (by decide) (by decide) (by decide) (by decide) (by decide) (by decide)]; exact pfi
      · rw [hYc 49 (by decide) (by decide) (by decide) (by decide) (by decide) (by decide) (by decide) (by decide)]; exact p49
      · rw [hYc 49 (by decide) (by decide) (by decide) (by decide) (by decide) (by decide) (by decide) (by decide)]; exact p49'
    refine tot_some.mpr ⟨?_, Inv_chg (by omega) (PR_fr (fun a ha => ?_) pr) (PQ_fr (fun a ha => ?_) (hY44 48 (by decide)) pq) hYz hPN (PY_chg (fun a ha => hYc a (by omega) (by omega) (by omega) (by omega) (by omega) (by omega) (by omega) (by omega)) (fun j h1 h2 => hY44 j (by omega)) rfl (PK_chg (fun a ha g _ => by simp only [List.mem_cons, List.not_mem_nil, or_false] at ha; rw [clrM_at (by omega), hYc a (by omega) (by omega) (by omega) (by omega) (by omega) (by omega) (by omega) (by omega)]) (fun g _ _ => ⟨by rw [clrM_at (by decide), hYc 3 (by decide) (by decide) (by decide) (by decide) (by decide) (by decide) (by decide) (by decide)], by rw [clrM_at (by decide), hYc 4 (by decide) (by decide) (by decide) (by decide) (by decide) (by decide) (by decide) (by decide)]⟩) (by simp [clrM, upM_get]) rfl py.2.2.2.2.1) (PC_cg (by rw [clrM_at (by decide), hY1 6 (by decide)]) (by rw [clrM_at (by decide), hY1 7 (by decide)]) (fun i _ => by rw [clrM_at (by decide), hYc 2 (by decide) (by decide) (by decide) (by decide) (by decide) (by decide) (by decide) (by decide)]) py.2.2.2.2.2.2.2.2) py)⟩
    · rw [bgnF_44, if_neg (by decide), if_neg (by decide), begF_at 44 (by decide) (by decide) (by decide), clrM_44 (by decide) (by decide) (by decide) (by decide) (by decide), ← hY, upM_get, if_pos rfl, if_pos rfl]
    · simp only [List.mem_cons, List.not_mem_nil, or_false] at ha
      exact hYc a (by omega) (by omega) (by omega) (by omega) (by omega) (by omega) (by omega) (by omega)
    · simp only [List.mem_cons, List.not_mem_nil, or_false] at ha
      exact hYc a (by omega) (by omega) (by omega) (by omega) (by omega) (by omega) (by omega) (by omega)
