/-! tile -/
theorem B_tile_ok (n : Nat) (hn : 2400 < n) : B_tile Inv n := by
  intro x m I J hI
  obtain ⟨pr, pq, pf, c, ni, nk, no, pn, ⟨pu, pg, pw, pp, pfr, pe⟩⟩ := id hI
  obtain ⟨⟨hc, hni, hnk, hno⟩, ⟨e5, e6, -⟩, -⟩ := id pn
  have f22 := pf.1.2.1
  have f01 := pf.2.1.2.1
  have hw : ∀ I' : MI, I' 44 = I 44 → I' 45 = I 45 → I' 55 = I 55 → ∀ i, i < c → fX10_whyNo n (nI i) I' J = some (if I 44 12 = 1 ∧ thg I i then 0 else -2, I', J) := by
    intro I' a1 a2 a3 i hi
    unfold fX10_whyNo fX10_whyNo_28
    rw [isCell_yes (c := c) (by omega) (by rw [a1]; exact e6) hi]
    simp only [Option.bind_some, a1]
    rw [if_neg (by decide), isThing_eq n (by omega), a2, a3]
    simp only [Option.bind_some]
    rcases f01 with q | q
    · rw [if_pos q, if_neg (fun z => absurd (q.symm.trans z.1) (by decide))]
    · rw [if_neg (by rw [q]; decide)]
      by_cases ht : ¬ I 45 i = 2 ∨ ¬ I 55 i = 0
      · rw [if_neg (fun z => b2_0.mp z ht), if_pos ⟨q, ht⟩]
      · rw [if_pos (b2_f ht), if_neg (fun z => ht z.2)]
  unfold fX9_tile
  by_cases hx : ∃ o, o < c ∧ x = nI o
  case neg =>
    rw [has_no (by omega) e5 hx]
    simp only [Option.bind_some, if_true]
    rw [ref_3]
    refine rr (j := 1) (f := fX10_tile n x) (by decide) hI ?_
    unfold fX10_tile fX10_whyNo
    rw [isCell_no (c := c) (by omega) (by rw [up43 (by decide)]; exact e6) hx]
    simp only [Option.bind_some, if_true, lt]
    rw [if_neg (by decide), no_3]
    rfl
  obtain ⟨i, hi, rfl⟩ := hx
  rw [has_yes (by omega) e5 hi]
  simp only [Option.bind_some]
  rw [if_neg (by decide), holds_eq n (by omega)]
  simp only [Option.bind_some]
  have hiff : (¬ I 22 0 = 0 ∧ ¬ I 24 i = -1) ↔ (I 44 12 = 1 ∧ thg I i) := by
    rw [f22]
    constructor
    · intro ⟨q1, q2⟩
      have q3 : I 44 12 = 1 := f01.resolve_left q1
      refine ⟨q3, ?_⟩
      by_cases ht : thg I i
      · exact ht
      · exact absurd ((pp q3 i hi).2 ht) q2
    · intro ⟨q1, q2⟩
      refine ⟨by rw [q1]; decide, ?_⟩
      obtain ⟨a, t, ht, b⟩ := (pp q1 i hi).1 q2
      rw [a, b]
      intro z
      have := congrArg Int32.toInt z
      rw [nI_toInt (by omega), show (-1 : Int32).toInt = -1 from by decide] at this
      omega
  by_cases hq : I 44 12 = 1 ∧ thg I i
  · rw [if_neg (fun z => b2_0.mp z (hiff.mpr hq)), if_pos (inb_nI (by omega) (by decide)), clampI (by omega)]
    refine tot_some.mpr ?_
    dsimp only
    unfold fX10_tile
    rw [hw I rfl rfl rfl i hi, if_pos hq]
    simp only [Option.bind_some, lt, if_true]
    rw [if_pos (inb_nI (by omega) (by decide)), clampI (by omega)]
    exact tot_some.mpr ⟨((pp hq.1 i hi).1 hq.2).1, Inv_dec m I J hI⟩
  · rw [if_pos (b2_f (fun z => hq (hiff.mp z))), ref_2]
    refine rr (j := 0) (f := fX10_tile n (nI i)) (by decide) hI ?_
    unfold fX10_tile
    rw [hw _ (up43 (by decide)) (up43 (by decide)) (up43 (by decide)) i hi, if_neg hq]
    simp only [Option.bind_some, lt]
    rw [if_neg (by decide), no_2]
    rfl
