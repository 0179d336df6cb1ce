/-! cell -/
theorem B_cell_ok (n : Nat) : B_cell Inv n := by
  intro x z m I J hI
  obtain ⟨pr, pq, pf, c, ni, nk, no, pn, ⟨pu, py⟩⟩ := id hI
  obtain ⟨⟨hc, hni, hnk, hno⟩, ⟨e5, e6, e1, e2, e3, e4, e7, e8⟩, pcell, pouts, pg, pfi, p49, p49'⟩ := id pn
  unfold fX9_cell
  by_cases hx : ∃ o, o < c ∧ x = nI o
  case neg =>
    rw [has_no (by omega) e5 hx]
    simp only [Option.bind_some, if_true]
    rw [ref_3]
    refine rr (j := 1) (f := fX10_cell n x z) (by decide) hI ?_
    unfold fX10_cell
    rw [isCell_no (c := c) (by omega) (by rw [up43 (by decide)]; exact e6) hx]
    simp only [Option.bind_some, if_true]
    rw [no_3]
    rfl
  obtain ⟨i, hi, rfl⟩ := hx
  rw [has_yes (by omega) e5 hi]
  simp only [Option.bind_some, inb_nI (show i < 32 by omega) (by decide), if_true, clampI (show i < 2 ^ 31 by omega)]
  rw [if_neg (by decide)]
  obtain ⟨h45, h46, h47, hcs⟩ := pcell i hi
  have hM : fX10_cell n (nI i) z I J = (if 0 ≤ z.toInt ∧ z.toInt ≤ 3 then (if z = 0 then some (I 45 i, I, J) else if z = 1 then some (I 46 i, I, J) else if z = 2 then some (I 47 i, I, J) else if I 45 i = 2 then some (I 48 i, I, J) else some (-1, I, J)) else fX10_no n (-7) I J) := by
    unfold fX10_cell
    rw [isCell_yes (c := c) (by omega) e6 hi]
    simp only [Option.bind_some, inb_nI (show i < 32 by omega) (by decide), if_true, clampI (show i < 2 ^ 31 by omega)]
    rw [if_neg (by decide), isIn_i]
    simp only [Option.bind_some, Int64.reduceToInt]
    by_cases h : 0 ≤ z.toInt ∧ z.toInt ≤ 3
    · rw [if_neg (fun q => b2_0.mp q h), if_pos h]
    · rw [if_pos (b2_f h), if_neg h]
      exact bind_e3
  have hdec := Inv_dec m I J hI
  by_cases z0 : z = 0
  · subst z0
    rw [if_pos rfl]
    refine tot_some.mpr ?_
    show tot (fX10_cell n (nI i) 0 I J) _
    rw [hM, if_pos (by decide), if_pos rfl]
    exact tot_some.mpr ⟨h45.symm, hdec⟩
  rw [if_neg z0]
  by_cases z1 : z = 1
  · subst z1
    rw [if_pos rfl]
    refine tot_some.mpr ?_
    show tot (fX10_cell n (nI i) 1 I J) _
    rw [hM, if_pos (by decide), if_neg (by decide), if_pos rfl]
    exact tot_some.mpr ⟨h46.symm, hdec⟩
  rw [if_neg z1]
  by_cases z2 : z = 2
  · subst z2
    rw [if_pos rfl]
    refine tot_some.mpr ?_
    show tot (fX10_cell n (nI i) 2 I J) _
    rw [hM, if_pos (by decide), if_neg (by decide), if_neg (by decide), if_pos rfl]
    exact tot_some.mpr ⟨h47.symm, hdec⟩
  rw [if_neg z2]
  by_cases z3 : z = 3
  · subst z3
    rw [if_pos rfl]
    refine tot_some.mpr ?_
    show tot (fX10_cell n (nI i) 3 I J) _
    rw [hM, if_pos (by decide), if_neg (by decide), if_neg (by decide), if_neg (by decide), h45]
    rcases hcs with g | g | g
    · rw [if_neg (by rw [g.1]; decide)]
      exact tot_some.mpr ⟨g.2.2.2, hdec⟩
    · rw [if_neg (by rw [g.1]; decide)]
      exact tot_some.mpr ⟨g.2.2.2, hdec⟩
    · rw [if_pos g.1]
      obtain ⟨o, -, g5, g6⟩ := g.2.2.2
      exact tot_some.mpr ⟨by rw [g5, g6], hdec⟩
  rw [if_neg z3, ref_7]
  have hz : ¬ (0 ≤ z.toInt ∧ z.toInt ≤ 3) := by
    intro h
    have h3 : z.toInt = 0 ∨ z.toInt = 1 ∨ z.toInt = 2 ∨ z.toInt = 3 := by omega
    rcases h3 with h3 | h3 | h3 | h3
    · exact z0 (i32_of_toInt (by decide) h3)
    · exact z1 (i32_of_toInt (by decide) h3)
    · exact z2 (i32_of_toInt (by decide) h3)
    · exact z3 (i32_of_toInt (by decide) h3)
  refine rr (j := 5) (f := fX10_cell n (nI i) z) (by decide) hI ?_
  unfold fX10_cell
  rw [isCell_yes (c := c) (by omega) (by rw [up43 (by decide)]; exact e6) hi]
  simp only [Option.bind_some]
  rw [if_neg (by decide), isIn_i]
  simp only [Option.bind_some, Int64.reduceToInt]
  rw [if_pos (b2_f hz), no_7]
  rfl
/-! a new cell -/
theorem add_eq (n c : Nat) (k l r o : Int32) (I : MI) (J : MJ) (hc : c < 32) (h : I 1 5 = nI c) : fX3_add n k l r o I J = some (nI c, upM (upM (upM (upM (upM I 2 c k) 3 c l) 4 c r) 5 c o) 1 5 (nI (c + 1)), J) := by
  unfold fX3_add
  simp only [lt, h, inb_nI hc (by decide), if_true, clampI (show c < 2 ^ 31 by omega), upM_ne 1 (show (1 : Nat) ≠ 5 by decide), upM_ne 1 (show (1 : Nat) ≠ 4 by decide), upM_ne 1 (show (1 : Nat) ≠ 3 by decide), upM_ne 1 (show (1 : Nat) ≠ 2 by decide), nI_1]
theorem addPlain_eq (n c : Nat) (I : MI) (J : MJ) (hc : c < 32) : fX0_addPlain n (nI c) I J = some (upM (upM I 8 c 0) 9 c 0, J) := by
  unfold fX0_addPlain
  simp only [lt, inb_nI hc (by decide), if_true, clampI (show c < 2 ^ 31 by omega)]
def addMd (c : Nat) (k a b : Int32) (I : MI) : MI := upM (upM (upM (upM I 45 c k) 46 c a) 47 c b) 44 6 (nI (c + 1))
theorem adds_eq (n c : Nat) (hn : 32 < n) (k a b : Int32) (I : MI) (J : MJ) (hc : c < 32) (h : I 44 6 = nI c) : fX10_adds n k a b I J = some (nI c, bgnF (clrM (addMd c k a b I)) (c + 1), J) := by
  unfold fX10_adds
  simp only [lt, h, inb_nI hc (by decide), if_true, clampI (show c < 2 ^ 31 by omega), upM_ne 44 (show (44 : Nat) ≠ 45 by decide), upM_ne 44 (show (44 : Nat) ≠ 46 by decide), upM_ne 44 (show (44 : Nat) ≠ 47 by decide), nI_1]
  have h6 : addMd c k a b I 44 6 = nI (c + 1) := by simp [addMd, upM_get]
  have h1 := changes_eq n (c + 1) hn (by omega) (addMd c k a b I) J h6
  unfold addMd at h1
  rw [h1]
  rfl
/-- the net with one cell more: from what the cells hold then -/
theorem PN_add {c ni nk no ni' nk' : Nat} {I Y : MI} (hn : PN c ni nk no I) (hc : c < 32) (hni : ni' ≤ 6) (hnk : nk' ≤ 6) (k l r : Int32)
    (hv : Y 1 5 = nI (c + 1) ∧ Y 44 6 = nI (c + 1) ∧ Y 1 6 = nI ni' ∧ Y 44 7 = nI ni' ∧ Y 1 7 = nI nk' ∧ Y 44 8 = nI nk' ∧ Y 1 8 = I 1 8 ∧ Y 44 9 = I 44 9)
    (h2 : Y 2 = upd (I 2) c k) (h45 : Y 45 = upd (I 45) c k) (h3 : Y 3 = upd (I 3) c l) (h46 : Y 46 = upd (I 46) c l) (h4 : Y 4 = upd (I 4) c r) (h47 : Y 47 = upd (I 47) c r)
    (h5 : ∀ i, i ≠ c → Y 5 i = I 5 i) (h48 : ∀ i, i ≠ c → Y 48 i = I 48 i) (h6 : Y 6 = I 6) (h50 : Y 50 = I 50) (h49 : ∀ i, i ≠ c → Y 49 i = I 49 i) (h49c : Y 49 c = 0 ∨ Y 49 c = 1)
    (hg : ∀ i, i < 32 → bt (Y 1 9) i = (bt (I 1 9) i || decide (i = c ∧ k = 2))) (hf : ∀ i, i < 32 → bt (Y 1 10) i = (bt (I 1 10) i || decide (i = c ∧ k = 1 ∧ Y 49 c = 1)))
    (hnew : (k = 0 ∧ l = -1 ∧ r = -1 ∧ Y 5 c = -1) ∨ (k = 1 ∧ (∃ s, s < c + 1 ∧ l = nI s) ∧ r = -1 ∧ Y 5 c = -1) ∨ (k = 2 ∧ (∃ s, s < 2 * c ∧ l = nI s) ∧ (∃ s, s < 2 * c ∧ r = nI s) ∧ ∃ o, o < 3 ∧ Y 5 c = nI o ∧ Y 48 c = nI o)) : PN (c + 1) ni' nk' no Y := by
  obtain ⟨⟨-, -, -, hno⟩, ⟨e5, e6, e1, e2, e3, e4, e7, e8⟩, pcell, pouts, pg, pfi, p49, p49'⟩ := hn
  obtain ⟨v1, v2, v3, v4, v5, v6, v7, v8⟩ := hv
  have un : ∀ (f : Nat → Int32) (v : Int32) (i : Nat), i ≠ c → upd f c v i = f i := fun f v i h => if_neg h
  have us : ∀ (f : Nat → Int32) (v : Int32), upd f c v c = v := fun f v => if_pos rfl
  refine ⟨⟨by omega, hni, hnk, hno⟩, ⟨v1, v2, v3, v4, v5, v6, by rw [v7]; exact e7, by rw [v8]; exact e8⟩, fun i hi => ?_, fun q hq => ?_, fun i hi => ?_, fun i hi => ?_, fun i hi => ?_, fun i h1 h2 => ?_⟩
  · unfold cellOk
    rw [h2, h45, h3, h46, h4, h47]
    by_cases hic : i = c
    · subst hic
      rw [us, us, us, us, us, us]
      exact ⟨rfl, rfl, rfl, hnew⟩
    · rw [un _ _ _ hic, un _ _ _ hic, un _ _ _ hic, un _ _ _ hic, un _ _ _ hic, un _ _ _ hic, h5 i hic, h48 i hic]
      obtain ⟨g1, g2, g3, g4⟩ := pcell i (by omega)
      refine ⟨g1, g2, g3, ?_⟩
      rcases g4 with g | ⟨a1, ⟨s, hs, a2⟩, a3⟩ | g
      · exact Or.inl g
      · exact Or.inr (Or.inl ⟨a1, ⟨s, by omega, a2⟩, a3⟩)
      · exact Or.inr (Or.inr g)
  · rw [h6, h50]
    obtain ⟨g1, o, ho, g2⟩ := pouts q hq
    exact ⟨g1, o, by omega, g2⟩
  · rw [hg i hi, pg i hi, h2]
    by_cases hic : i = c
    · subst hic
      rw [us]
      simp
    · rw [un _ _ _ hic]
      have : (i < c ↔ i < c + 1) := by omega
      simp [hic, this]
  · rw [hf i hi, pfi i hi, h2]
    by_cases hic : i = c
    · subst hic
      rw [us]
      simp
    · rw [un _ _ _ hic, h49 i hic]
      have : (i < c ↔ i < c + 1) := by omega
      simp [hic, this]
  · by_cases hic : i = c
    · rw [hic]; exact h49c
    · rw [h49 i hic]; exact p49 i hi
  · rw [h49 i (by omega)]
    exact p49' i (by omega) h2
