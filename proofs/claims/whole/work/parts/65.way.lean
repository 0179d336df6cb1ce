/-! way -/
theorem way_loop (n : Nat) {N i : Nat} (hN : N ≤ 60) (hi : i < 32) (I : MI) (J : MJ) (ej : I 16 2 = nI N) (em : jnt I = nI N) (hb : ∀ j, j < 60 → (I 62 (60 * i + j) = 0 ∨ I 62 (60 * i + j) = 1) ∧ bl (J 31 i) j = decide (I 62 (60 * i + j) = 1)) : ∀ q t v, t ≤ N → N < q + t → ∃ a, lX8_jointOf_6 n q (nI i) v (nI t) I J = some (a, I, J) ∧ lX10_way_53 n q (nI i) v (nI t) I J = some (a, I, J) := by
  intro q
  induction q with
  | zero => intro t v h1 h2; omega
  | succ q ih =>
    intro t v h1 h2
    have u1 : lX8_jointOf_6 n (q + 1) (nI i) v (nI t) I J = fX8_jointOf_6 n (lX8_jointOf_6 n q) (nI i) v (nI t) I J := rfl
    have u2 : lX10_way_53 n (q + 1) (nI i) v (nI t) I J = fX10_way_53 n (lX10_way_53 n q) (nI i) v (nI t) I J := rfl
    rw [u1, u2]
    unfold fX8_jointOf_6 fX10_way_53 fX8_jointOf_40 fX10_way_90
    rw [joints_eq, em, ej]
    simp only [Option.bind_some]
    by_cases h : t = N
    · subst h
      rw [if_pos (Int32.le_refl _), if_pos (Int32.le_refl _)]
      exact ⟨-1, rfl, rfl⟩
    · have hge : ¬ nI N ≤ nI t := nI_ge (by omega) (by omega)
      have e60 : (60 : Int32) * nI i + nI t = nI (60 * i + t) := by
        rw [show (60 : Int32) = nI 60 from rfl, pk_mul, nI_add]
      rw [if_neg hge, if_neg hge, if_pos (inb_nI hi (by decide)), clampI (by omega), hasBit_eq n _ (show t < 64 by omega), e60, if_pos (inb_nI (by omega) (by decide)), clampI (by omega), nI_1]
      simp only [Option.bind_some]
      obtain ⟨g01, gb⟩ := hb t (by omega)
      by_cases hz : I 62 (60 * i + t) = 0
      · have hbf : ¬ bl (J 31 i) t = true := by rw [gb, hz]; decide
        rw [if_pos (b2_f hbf), if_pos hz]
        exact ih (t + 1) v (by omega) (by omega)
      · have hb1 : I 62 (60 * i + t) = 1 := g01.resolve_left hz
        have hbt : bl (J 31 i) t = true := by rw [gb, hb1]; decide
        rw [if_neg (fun z => b2_0.mp z hbt), if_neg hz]
        by_cases hv : v = 0
        · rw [if_pos hv, if_pos hv]
          exact ⟨nI t, rfl, rfl⟩
        · rw [if_neg hv, if_neg hv]
          exact ih (t + 1) _ (by omega) (by omega)
theorem holds_thg {n c i : Nat} {I : MI} {J : MJ} (hi : i < c) (hc : c ≤ 32) (pf : Pf I) (pp : PP c I) : fX5_holds n (nI i) I J = some (b2 (I 44 12 = 1 ∧ thg I i), I, J) := by
  have f22 := pf.1.2.1
  have f01 := pf.2.1.2.1
  rw [holds_eq n (by omega)]
  have hiff : (¬ I 22 0 = 0 ∧ ¬ I 24 i = -1) ↔ (I 44 12 = 1 ∧ thg I i) := by
    rw [f22]
    constructor
    · intro ⟨q1, q2⟩
      have q3 : I 44 12 = 1 := f01.resolve_left q1
      refine ⟨q3, ?_⟩
      by_cases ht : thg I i
      · exact ht
      · exact absurd ((pp q3 i hi).2 ht) q2
    · intro ⟨q1, q2⟩
      refine ⟨by rw [q1]; decide, ?_⟩
      obtain ⟨a, t, ht, b⟩ := (pp q1 i hi).1 q2
      rw [a, b]
      intro z
      have := congrArg Int32.toInt z
      rw [nI_toInt (by omega), show (-1 : Int32).toInt = -1 from by decide] at this
      omega
  by_cases q : I 44 12 = 1 ∧ thg I i
  · rw [b2_t q, b2_t (hiff.mpr q)]
  · rw [b2_f q, b2_f (fun z => q (hiff.mp z))]
theorem B_way_ok (n : Nat) (hn : 2400 < n) : B_way Inv n := by
  intro x v m I J hI
  obtain ⟨pr, pq, pf, c, ni, nk, no, pn, ⟨pu, pg, pw, pp, pfr, pe⟩⟩ := id hI
  obtain ⟨⟨hc, hni, hnk, hno⟩, ⟨e5, e6, -⟩, -⟩ := id pn
  obtain ⟨w, h, r, k, ⟨w1, w2, g1, g2, o1, o2, c1, c2⟩, ⟨e24, e25, e26, e27⟩, hgr, -, -, -⟩ := pg
  have hj60 := jn_le w1 w2 g2
  have f28 := pf.1.2.2.1
  have e6' : ∀ j : Nat, ∀ z : Int32, upM I 43 j z 44 6 = nI c := fun j z => by rw [up43 (by decide)]; exact e6
  unfold fX9_way
  by_cases hx : ∃ o, o < c ∧ x = nI o
  case neg =>
    rw [has_no (by omega) e5 hx]
    simp only [Option.bind_some, if_true]
    rw [ref_3]
    refine rr (j := 1) (f := fX10_way n x v) (by decide) hI ?_
    unfold fX10_way
    rw [isCell_no (c := c) (by omega) (e6' _ _) hx]
    simp only [Option.bind_some, if_true]
    rw [no_3]
    rfl
  obtain ⟨i, hi, rfl⟩ := hx
  rw [has_yes (by omega) e5 hi]
  simp only [Option.bind_some]
  rw [if_neg (by decide)]
  by_cases hv : 0 ≤ v
  case neg =>
    rw [if_neg hv, ref_4]
    refine rr (j := 2) (f := fX10_way n (nI i) v) (by decide) hI ?_
    unfold fX10_way
    rw [isCell_yes (c := c) (by omega) (e6' _ _) hi]
    simp only [Option.bind_some]
    rw [if_neg (by decide), if_neg hv, no_4]
    rfl
  rw [if_pos hv]
  have c50 : fX9_way_50 n I J = some (-2, upM I 43 0 (I 43 0 + 1), J) := rfl
  by_cases hf : I 28 0 = 0
  · rw [if_pos hf, c50]
    refine rr (j := 0) (f := fX10_way n (nI i) v) (by decide) hI ?_
    unfold fX10_way
    rw [isCell_yes (c := c) (by omega) (e6' _ _) hi]
    simp only [Option.bind_some, up43 (show (44 : Nat) ≠ 43 by decide)]
    rw [if_neg (by decide), if_pos hv, if_pos (by rw [← f28]; exact hf)]
    rfl
  have hf1 : I 44 13 = 1 := pf.2.1.2.2.1.resolve_left (by rw [← f28]; exact hf)
  have hset : I 44 12 = 1 := pf.2.2.2.1 hf1
  rw [if_neg hf, holds_thg hi hc pf pp]
  simp only [Option.bind_some]
  by_cases ht : thg I i
  · rw [if_neg (fun z => b2_0.mp z ⟨hset, ht⟩)]
    obtain ⟨a, l1, l2⟩ := way_loop n hj60 (show i < 32 by omega) I J hgr.2.2.2.2.1 (jnt_eq w1 g1 e24 e25) ((pw hf1).2 i (by omega)) n 0 v (Nat.zero_le _) (by omega)
    unfold fX8_jointOf
    rw [show lX8_jointOf_6 n n (nI i) v (0 : Int32) I J = lX8_jointOf_6 n n (nI i) v (nI 0) I J from rfl, l1]
    refine tot_some.mpr ?_
    dsimp only
    unfold fX10_way
    rw [isCell_yes (c := c) (by omega) e6 hi]
    simp only [Option.bind_some]
    rw [if_neg (by decide), if_pos hv, if_neg (by rw [hf1]; decide), isThing_eq n (by omega)]
    simp only [Option.bind_some]
    rw [if_neg (fun z => b2_0.mp z ht), show lX10_way_53 n n (nI i) v (0 : Int32) I J = lX10_way_53 n n (nI i) v (nI 0) I J from rfl, l2]
    exact tot_some.mpr ⟨rfl, Inv_dec m I J hI⟩
  · rw [if_pos (b2_f (fun z => ht z.2)), c50]
    refine rr (j := 0) (f := fX10_way n (nI i) v) (by decide) hI ?_
    unfold fX10_way
    rw [isCell_yes (c := c) (by omega) (e6' _ _) hi]
    simp only [Option.bind_some, up43 (show (44 : Nat) ≠ 43 by decide)]
    rw [if_neg (by decide), if_pos hv, if_neg (by rw [hf1]; decide), isThing_eq n (by omega)]
    simp only [Option.bind_some, up43 (show (45 : Nat) ≠ 43 by decide), up43 (show (55 : Nat) ≠ 43 by decide)]
    rw [if_pos (b2_f ht)]
    rfl
