/-! swap -/
theorem whyNo_eq (n : Nat) {c i : Nat} (hc : c ≤ 32) (hi : i < c) (I : MI) (J : MJ) (h6 : I 44 6 = nI c) (h01 : I 44 12 = 0 ∨ I 44 12 = 1) : fX10_whyNo n (nI i) I J = some (if I 44 12 = 1 ∧ thg I i then 0 else -2, I, J) := by
  unfold fX10_whyNo fX10_whyNo_28
  rw [isCell_yes (c := c) (by omega) h6 hi]
  simp only [Option.bind_some]
  rw [if_neg (by decide)]
  rcases h01 with h | h
  · rw [if_pos h, if_neg (fun q => absurd (h.symm.trans q.1) (by decide))]
  · rw [if_neg (by rw [h]; decide), isThing_eq n (by omega)]
    simp only [Option.bind_some]
    by_cases ht : thg I i
    · rw [b2_t ht, if_neg (by decide), if_pos ⟨h, ht⟩]
    · rw [b2_f ht, if_pos rfl, if_neg (fun q => ht q.2)]
theorem B_swap_ok (n : Nat) (hn : 2400 < n) : B_swap Inv n := by
  intro x y m I J hI
  obtain ⟨pr, pq, pf, c, ni, nk, no, pn, ⟨pu, pg, pw, pp, pfr, pe⟩⟩ := id hI
  have hc := pn.1.1
  have h5 := pn.2.1.1
  have h6 := pn.2.1.2.1
  have h01 := pf.2.1.2.1
  have u44 : ∀ (j : Nat) (v : Int32), upM I 43 j v 44 = I 44 := fun j v => up43 (by decide)
  have uth : ∀ (j : Nat) (v : Int32) (i : Nat), thg (upM I 43 j v) i ↔ thg I i := fun j v i => by unfold thg; rw [up43 (show (45 : Nat) ≠ 43 by decide), up43 (show (55 : Nat) ≠ 43 by decide)]
  have bad : (¬ (∃ o, o < c ∧ x = nI o) ∨ ¬ (∃ o, o < c ∧ y = nI o)) → tot (fX9_swap_22 n I J) (fun r => tot (fX10_swap n x y r.2.1 r.2.2) (fun q => r.1 = q.1 ∧ Inv m q.2.1 q.2.2)) := by
    intro hh
    unfold fX9_swap_22
    rw [ref_3]
    refine rr (j := 1) (f := fX10_swap n x y) (by decide) hI ?_
    unfold fX10_swap fX10_swap_16 fX10_swap_26 fX10_swap_37
    by_cases hx : ∃ o, o < c ∧ x = nI o
    · obtain ⟨a, ha, rfl⟩ := hx
      rw [isCell_yes (c := c) (by omega) (by rw [u44]; exact h6) ha]
      simp only [Option.bind_some]
      rw [if_neg (by decide), isCell_no (c := c) (by omega) (by rw [u44]; exact h6) (hh.resolve_left (fun q => q ⟨a, ha, rfl⟩))]
      simp only [Option.bind_some, if_true]
      rw [if_neg (by decide), if_neg (by decide), no_3]
      rfl
    · rw [isCell_no (c := c) (by omega) (by rw [u44]; exact h6) hx]
      simp only [Option.bind_some, if_true]
      rw [if_neg (by decide), if_neg (by decide), no_3]
      rfl
  unfold fX9_swap
  by_cases hx : ∃ o, o < c ∧ x = nI o
  case neg =>
    rw [has_no (c := c) (by omega) h5 hx]
    simp only [Option.bind_some, if_true]
    exact bad (Or.inl hx)
  obtain ⟨a, ha, rfl⟩ := hx
  rw [has_yes (c := c) (by omega) h5 ha]
  simp only [Option.bind_some]
  rw [if_neg (by decide)]
  by_cases hy : ∃ o, o < c ∧ y = nI o
  case neg =>
    rw [has_no (c := c) (by omega) h5 hy]
    simp only [Option.bind_some, if_true]
    exact bad (Or.inr hy)
  obtain ⟨b, hb, rfl⟩ := hy
  rw [has_yes (c := c) (by omega) h5 hb]
  simp only [Option.bind_some]
  have miss : (¬ (I 44 12 = 1 ∧ thg I a) ∨ ¬ (I 44 12 = 1 ∧ thg I b)) → tot (fX9_swap_51 n I J) (fun r => tot (fX10_swap n (nI a) (nI b) r.2.1 r.2.2) (fun q => r.1 = q.1 ∧ Inv m q.2.1 q.2.2)) := by
    intro hh
    unfold fX9_swap_51
    rw [ref_2]
    refine rr (j := 0) (f := fX10_swap n (nI a) (nI b)) (by decide) hI ?_
    unfold fX10_swap fX10_swap_26 fX10_swap_37
    rw [isCell_yes (c := c) (by omega) (by rw [u44]; exact h6) ha]
    simp only [Option.bind_some]
    rw [if_neg (by decide), isCell_yes (c := c) (by omega) (by rw [u44]; exact h6) hb]
    simp only [Option.bind_some]
    rw [if_neg (by decide), whyNo_eq n hc ha _ J (by rw [u44]; exact h6) (by rw [u44]; exact h01)]
    simp only [Option.bind_some]
    by_cases qa : I 44 12 = 1 ∧ thg I a
    · rw [if_pos (show upM I 43 0 (I 43 0 + 1) 44 12 = 1 ∧ thg (upM I 43 0 (I 43 0 + 1)) a from ⟨by rw [u44]; exact qa.1, (uth _ _ _).mpr qa.2⟩), if_pos rfl, whyNo_eq n hc hb _ J (by rw [u44]; exact h6) (by rw [u44]; exact h01)]
      simp only [Option.bind_some, lt]
      have qb := hh.resolve_left (fun q => q qa)
      rw [if_neg (show ¬ (upM I 43 0 (I 43 0 + 1) 44 12 = 1 ∧ thg (upM I 43 0 (I 43 0 + 1)) b) from fun q => qb ⟨by rw [← u44 0 (I 43 0 + 1)]; exact q.1, (uth _ _ _).mp q.2⟩), if_neg (by decide), no_2]
      rfl
    · rw [if_neg (show ¬ (upM I 43 0 (I 43 0 + 1) 44 12 = 1 ∧ thg (upM I 43 0 (I 43 0 + 1)) a) from fun q => qa ⟨by rw [← u44 0 (I 43 0 + 1)]; exact q.1, (uth _ _ _).mp q.2⟩), if_neg (by decide), if_neg (by decide), no_2]
      rfl
  rw [if_neg (by decide), holds_thg ha hc pf pp]
  simp only [Option.bind_some]
  by_cases qa : I 44 12 = 1 ∧ thg I a
  case neg =>
    rw [b2_f qa, if_pos rfl]
    exact miss (Or.inl qa)
  rw [b2_t qa, if_neg (by decide), holds_thg hb hc pf pp]
  simp only [Option.bind_some]
  by_cases qb : I 44 12 = 1 ∧ thg I b
  case neg =>
    rw [b2_f qb, if_pos rfl]
    exact miss (Or.inr qb)
  rw [b2_t qb, if_neg (by decide), exchange_eq n (by omega) (by omega)]
  simp only [Option.bind_some]
  rw [forgetWays_eq]
  simp only [Option.bind_some]
  have h12 := qa.1
  obtain ⟨τ, t1, t2, t3, t4⟩ := sctx pn pf pp pe h12
  obtain ⟨c', w, h, τ', hc', w1, w2, g1, g2, e5, e6, e24, e25, ⟨l1, l2, l3, l4, l5⟩, ho, hf, -, ht'⟩ := sctx2 hI h12
  have hcc : c = c' := (nI_eq (by omega) (by omega)).mp (h6.symm.trans e6)
  subst hcc
  have hwh := wh_le w2 g2
  have htt : ∀ u, u < c → thg I u → τ' u = τ u := by
    intro u hu hth
    have q1 := (t1 u hu hth)
    have q2 := (ht' u hu hth)
    exact (nI_eq (by omega) (by omega)).mp (q2.1.symm.trans q1.1)
  generalize hC : upM (upM (upM (upM I 24 a (I 24 b)) 24 b (I 24 a)) 28 0 0) 34 0 0 = C
  have C24 : ∀ u, C 24 u = if u = b then I 24 a else if u = a then I 24 b else I 24 u := by
    intro u
    rw [← hC, upM_ne 24 (by decide), upM_ne 24 (by decide), upM_get, if_pos rfl, upM_get, if_pos rfl]
  have Cx : ∀ z, z ≠ 24 → z ≠ 28 → z ≠ 34 → C z = I z := by
    intro z q1 q2 q3
    rw [← hC, upM_ne z q3, upM_ne z q2, upM_ne z q1, upM_ne z q1]
  have hclC : clP c w (w * h) (thB I) (feeds I) (swp τ a b) C := by
    refine ⟨by rw [Cx 22 (by decide) (by decide) (by decide)]; exact l1, by rw [Cx 23 (by decide) (by decide) (by decide)]; exact l2, by rw [Cx 27 (by decide) (by decide) (by decide)]; exact l3, fun u hu hP => ?_, ?_⟩
    · have tl : ∀ z, z < c → thg I z → I 24 z = nI (τ z) ∧ τ z < w * h := fun z hz hth => ⟨(t1 z hz hth).2.1, by rw [← htt z hz hth]; exact (ht' z hz hth).2⟩
      rw [C24]
      unfold swp
      by_cases q1 : u = b
      · rw [if_pos q1, if_pos q1]; exact tl a ha qa.2
      · by_cases q2 : u = a
        · rw [if_neg q1, if_neg q1, if_pos q2, if_pos q2]; exact tl b hb qb.2
        · rw [if_neg q1, if_neg q1, if_neg q2, if_neg q2]; exact tl u hu (of_decide_eq_true hP)
    · unfold colOk
      rw [Cx 17 (by decide) (by decide) (by decide), Cx 18 (by decide) (by decide) (by decide)]
      exact l5
  have hF : ∀ u i, u < c → feeds I u i → thB I u = true := fun u i hu hff => decide_eq_true (hf u i hu hff)
  obtain ⟨v, hv⟩ := cost_ex n hn hc hwh J hclC hF
  rw [costC_all n hn hc hwh hclC hF hv]
  simp only [Option.bind_some]
  refine tot_some.mpr ?_
  show tot (fX10_swap n (nI a) (nI b) C J) _
  have C44 := Cx 44 (by decide) (by decide) (by decide)
  have Cth : ∀ i, thg C i ↔ thg I i := fun i => by unfold thg; rw [Cx 45 (by decide) (by decide) (by decide), Cx 55 (by decide) (by decide) (by decide)]
  unfold fX10_swap fX10_swap_26 fX10_swap_37
  rw [isCell_yes (c := c) (by omega) (by rw [C44]; exact h6) ha]
  simp only [Option.bind_some]
  rw [if_neg (by decide), isCell_yes (c := c) (by omega) (by rw [C44]; exact h6) hb]
  simp only [Option.bind_some]
  rw [if_neg (by decide), whyNo_eq n hc ha _ J (by rw [C44]; exact h6) (by rw [C44]; exact h01)]
  simp only [Option.bind_some]
  rw [if_pos (show C 44 12 = 1 ∧ thg C a from ⟨by rw [C44]; exact h12, (Cth a).mpr qa.2⟩), if_pos rfl, whyNo_eq n hc hb _ J (by rw [C44]; exact h6) (by rw [C44]; exact h01)]
  simp only [Option.bind_some, lt]
  rw [if_pos (show C 44 12 = 1 ∧ thg C b from ⟨by rw [C44]; exact h12, (Cth b).mpr qb.2⟩), if_pos rfl, swaps_eq n (by omega) (by omega)]
  simp only [Option.bind_some]
  rw [moved_eq]
  simp only [Option.bind_some]
  generalize hM : upM (upM (upM (upM C 61 a (C 61 b)) 61 b (C 61 a)) 44 13 0) 44 14 0 = M
  have M61 : ∀ u, M 61 u = if u = b then I 61 a else if u = a then I 61 b else I 61 u := by
    intro u
    rw [← hM, upM_ne 61 (by decide), upM_ne 61 (by decide), upM_get, if_pos rfl, upM_get, if_pos rfl, Cx 61 (by decide) (by decide) (by decide)]
  have Mx : ∀ z, z ≠ 44 → z ≠ 61 → M z = C z := by
    intro z q1 q2
    rw [← hM, upM_ne z q1, upM_ne z q1, upM_ne z q2, upM_ne z q2]
  have M44 : ∀ j, j ≠ 13 → j ≠ 14 → M 44 j = I 44 j := by
    intro j q1 q2
    rw [← hM, upM_get, if_pos rfl, if_neg q2, upM_get, if_pos rfl, if_neg q1, upM_ne 44 (by decide), upM_ne 44 (by decide), C44]
  have My : ∀ z, z ≠ 24 → z ≠ 28 → z ≠ 34 → z ≠ 44 → z ≠ 61 → M z = I z := fun z q1 q2 q3 q4 q5 => by rw [Mx z q4 q5, Cx z q1 q2 q3]
  have Mth : ∀ i, thg M i ↔ thg I i := fun i => by unfold thg; rw [My 45 (by decide) (by decide) (by decide) (by decide) (by decide), My 55 (by decide) (by decide) (by decide) (by decide) (by decide)]
  have MthB : thB M = thB I := by funext i; exact decide_eq_decide.mpr (Mth i)
  have Mf : feeds M = feeds I := by
    funext u f
    unfold feeds
    rw [My 45 (by decide) (by decide) (by decide) (by decide) (by decide), My 46 (by decide) (by decide) (by decide) (by decide) (by decide), My 55 (by decide) (by decide) (by decide) (by decide) (by decide), My 56 (by decide) (by decide) (by decide) (by decide) (by decide), My 57 (by decide) (by decide) (by decide) (by decide) (by decide)]
  have hR : fX10_costs n M J = some (nI (ct_sum (thB M) v c), M, J) := by
    refine costR_all n hn hc w1 w2 g1 g2 (τ := swp τ a b) (by rw [M44 6 (by decide) (by decide)]; exact h6) (by rw [M44 24 (by decide) (by decide)]; exact e24) (by rw [M44 25 (by decide) (by decide)]; exact e25) (fun u hu => ?_) (fun u f hu hff => ?_) (fun u hu hth => ?_) ?_
    · have := ho u hu
      unfold uOk at this ⊢
      rw [My 45 (by decide) (by decide) (by decide) (by decide) (by decide), My 46 (by decide) (by decide) (by decide) (by decide) (by decide), My 55 (by decide) (by decide) (by decide) (by decide) (by decide), My 57 (by decide) (by decide) (by decide) (by decide) (by decide)]
      exact this
    · rw [Mf] at hff
      exact (Mth u).mpr (hf u f hu hff)
    · have tl : ∀ z, z < c → thg I z → I 61 z = nI (τ z) ∧ τ z < w * h := fun z hz hth => ⟨(t1 z hz hth).1, by rw [← htt z hz hth]; exact (ht' z hz hth).2⟩
      rw [M61]
      unfold swp
      by_cases q1 : u = b
      · rw [if_pos q1, if_pos q1]; exact tl a ha qa.2
      · by_cases q2 : u = a
        · rw [if_neg q1, if_neg q1, if_pos q2, if_pos q2]; exact tl b hb qb.2
        · rw [if_neg q1, if_neg q1, if_neg q2, if_neg q2]; exact tl u hu ((Mth u).mp hth)
    · rw [MthB, Mf]; exact hv
  have hfin : Inv m M J := by
    refine Inv_swp (τ := τ) (a := a) (b := b) hc h6 ha hb qa.2 qb.2 t1 My (fun u => by rw [Mx 24 (by decide) (by decide), C24]) M61 ?_ ?_ M44 ⟨?_, ?_⟩ h12 hI
    · rw [Mx 28 (by decide) (by decide), ← hC, upM_ne 28 (by decide), upM_get, if_pos rfl, if_pos rfl]
    · rw [Mx 34 (by decide) (by decide), ← hC, upM_get, if_pos rfl, if_pos rfl]
    · rw [← hM, upM_get, if_pos rfl, if_neg (by decide), upM_get, if_pos rfl, if_pos rfl]
    · rw [← hM, upM_get, if_pos rfl, if_pos rfl]
  rw [hR, MthB]
  exact tot_some.mpr ⟨rfl, hfin⟩
