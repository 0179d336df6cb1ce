/-! runs: told, start -/
theorem and1_bt (z : Int32) : z &&& 1 = if bt z 0 = true then 1 else 0 := by
  apply b_ext
  intro i hi
  rw [b_and]
  have h1 : bt 1 i = decide (i = 0) := by
    have : ∀ i, i < 32 → bt 1 i = decide (i = 0) := by decide +kernel
    exact this i hi
  rw [h1]
  by_cases h0 : i = 0
  · subst h0
    cases hz : bt z 0
    · simp [b_0]
    · simp; decide
  · have h2 : decide (i = 0) = false := decide_eq_false h0
    rw [h2, Bool.and_false]
    cases hz : bt z 0
    · simp [b_0]
    · simp only [if_true]
      rw [h1, h2]
theorem ushrI_bt (x : Int32) {i : Nat} (hi : i < 32) : ushrI x (nI i) &&& 1 = if bt x i = true then 1 else 0 := by
  rw [and1_bt]
  unfold ushrI
  rw [b_ushr i hi x 0, Nat.add_zero]
theorem begF_at {I : MI} (a : Nat) (h1 : a ≠ 38) (h2 : a ≠ 39) (h3 : a ≠ 40) : begF I a = I a := by
  unfold begF
  rw [begS_at _ _ _ h2 h3, upM_ne a h1, upM_ne a h1, upM_ne a h1, upM_ne a h1]
theorem begF_38 {I : MI} (j : Nat) : begF I 38 j = if j = 3 then -1 else if j = 2 then 0 else if j = 1 then 0 else if j = 0 then 0 else I 38 j := by
  unfold begF
  rw [begS_at _ _ _ (by decide) (by decide)]
  simp [upM_get]
theorem begF_39 {I : MI} {i : Nat} (hi : i < 32) : begF I 39 i = if bt (I 1 10) i = true then 1 else 0 := by
  unfold begF begS begV
  rw [if_pos ⟨Or.inl rfl, hi⟩]
  simp only [upM_ne 1 (show (1 : Nat) ≠ 38 by decide)]
  exact ushrI_bt _ hi
theorem begF_40 {I : MI} {i : Nat} (hi : i < 32) : begF I 40 i = if bt (I 1 10) i = true then 1 else 0 := by
  unfold begF begS begV
  rw [if_pos ⟨Or.inr rfl, hi⟩]
  simp only [upM_ne 1 (show (1 : Nat) ≠ 38 by decide)]
  exact ushrI_bt _ hi
theorem bgnF_at {I : MI} {c : Nat} (a : Nat) (h1 : a ≠ 44) (h2 : a ≠ 71) (h3 : a ≠ 72) : bgnF I c a = I a := by
  unfold bgnF
  rw [upM_ne a h1, upM_ne a h1, bgnS_at _ _ _ h2 h3]
theorem bgnF_44 {I : MI} {c : Nat} (j : Nat) : bgnF I c 44 j = if j = 45 then -1 else if j = 42 then 0 else I 44 j := by
  unfold bgnF
  rw [upM_get, if_pos rfl, upM_get, if_pos rfl, bgnS_at _ _ _ (by decide) (by decide)]
theorem bgnF_v {I : MI} {c a : Nat} (ha : a = 71 ∨ a = 72) {i : Nat} (hi : i < c) : bgnF I c a i = bgnV I i := by
  unfold bgnF
  rw [upM_ne a (by omega), upM_ne a (by omega)]
  exact if_pos ⟨ha, hi⟩
/-- behind begin and begins -/
theorem PU_beg {m c ni nk no : Nat} {I : MI} (hm : m ≤ 3000) (hn : PN c ni nk no I) : PU m c (bgnF (begF I) c) := by
  obtain ⟨⟨hc, -⟩, -, hcell, -, -, hfirst, h49, -⟩ := hn
  have e38 : ∀ j, bgnF (begF I) c 38 j = begF I 38 j := fun j => by rw [bgnF_at 38 (by decide) (by decide) (by decide)]
  refine ⟨⟨0, ?_, by omega⟩, ?_, fun h => absurd ?_ h, fun h => absurd ?_ h, ?_, Or.inl ?_, fun i hi hs => ?_⟩
  · rw [e38, begF_38]; rfl
  · rw [e38, begF_38, bgnF_44]; rfl
  · rw [e38, begF_38]; rfl
  · rw [e38, begF_38]; rfl
  · rw [e38, begF_38, bgnF_44]; rfl
  · rw [e38, begF_38]; rfl
  · have e2 : bgnF (begF I) c 2 = I 2 := by rw [bgnF_at 2 (by decide) (by decide) (by decide), begF_at 2 (by decide) (by decide) (by decide)]
    rw [e2] at hs
    have e45 : begF I 45 = I 45 := begF_at 45 (by decide) (by decide) (by decide)
    have e49 : begF I 49 = I 49 := begF_at 49 (by decide) (by decide) (by decide)
    rw [bgnF_v (Or.inl rfl) hi, bgnF_v (Or.inr rfl) hi, bgnF_at 39 (by decide) (by decide) (by decide), bgnF_at 40 (by decide) (by decide) (by decide), begF_39 (by omega), begF_40 (by omega), hfirst i (by omega)]
    have h45 : I 45 i = 1 := by rw [(hcell i hi).1, hs]
    unfold bgnV
    rw [e45, e49]
    rcases h49 i (by omega) with h | h
    · rw [if_neg (fun q => q.2 h), if_neg (by simp [h])]
      decide
    · rw [if_pos ⟨h45, by rw [h]; decide⟩, if_pos (by simp [h, hi, hs])]
      decide
