/-- runs: m calls may still come, so that clocks never wrap -/
def PU (m c : Nat) (I : MI) : Prop := (∃ k, I 38 0 = nI k ∧ k + m ≤ 3000) ∧ I 44 42 = I 38 0 ∧ (¬ I 38 0 = 0 → I 44 43 = I 38 1) ∧ (¬ I 38 0 = 0 → I 34 0 = 1 → I 44 44 = I 38 2) ∧ I 44 45 = I 38 3 ∧ (I 38 3 = -1 ∨ ∃ k, k ≤ 3000 ∧ I 38 3 = nI k) ∧ ∀ i, i < c → I 2 i = 1 → I 71 i = I 39 i &&& 1 ∧ I 72 i = I 40 i &&& 1
theorem PU_dec {m c : Nat} {I : MI} (h : PU (m + 1) c I) : PU m c I := by
  obtain ⟨⟨k, h1, h2⟩, h3⟩ := h
  exact ⟨⟨k, h1, by omega⟩, h3⟩
theorem PU_fr {m c : Nat} {I I' : MI} (h : ∀ a ∈ [2, 38, 39, 40, 71, 72], I' a = I a) (h3 : I' 34 0 = I 34 0) (h4 : ∀ j ∈ [42, 43, 44, 45], I' 44 j = I 44 j) (hp : PU m c I) : PU m c I' := by
  unfold PU
  rw [h3, h4 42 (by decide), h4 43 (by decide), h4 44 (by decide), h4 45 (by decide), h 2 (by decide), h 38 (by decide), h 39 (by decide), h 40 (by decide), h 71 (by decide), h 72 (by decide)]
  exact hp
/-! the parts that came later stand in PE (44d) -/
def PZ (c : Nat) (I : MI) (J : MJ) : Prop := PW I J ∧ PP c I ∧ PF I ∧ PE c I J
def PY (c : Nat) (I : MI) (J : MJ) : Prop := PG I J ∧ PZ c I J
def PX (m c : Nat) (I : MI) (J : MJ) : Prop := PU m c I ∧ PY c I J
def Inv (m : Nat) (I : MI) (J : MJ) : Prop := PR I ∧ PQ I ∧ Pf I ∧ ∃ c ni nk no, PN c ni nk no I ∧ PX m c I J
theorem Inv_dec (m : Nat) (I : MI) (J : MJ) (h : Inv (m + 1) I J) : Inv m I J := by
  obtain ⟨h1, h2, h3, c, ni, nk, no, h4, h5, h6⟩ := h
  exact ⟨h1, h2, h3, c, ni, nk, no, h4, PU_dec h5, h6⟩
theorem PX_row {m c : Nat} {I I' : MI} {J : MJ} (h : ∀ a, a ≠ 41 → a ≠ 42 → a ≠ 43 → a ≠ 51 → a ≠ 74 → a ≠ 75 → a ≠ 44 → I' a = I a) (h4 : ∀ j, j ≠ 48 → I' 44 j = I 44 j) (hp : PX (m + 1) c I J) : PX m c I' J := by
  refine ⟨PU_fr (fun a ha => ?_) (by rw [h 34 (by decide) (by decide) (by decide) (by decide) (by decide) (by decide) (by decide)]) (fun j hj => ?_) (PU_dec hp.1), PG_fr (fun a ha => ?_) (fun j hj => ?_) rfl hp.2.1, PW_fr (fun a ha => ?_) (h4 13 (by decide)) rfl hp.2.2.1, PP_fr (fun a ha => ?_) (h4 12 (by decide)) hp.2.2.2.1, PF_fr (fun a ha => ?_) (by rw [h 16 (by decide) (by decide) (by decide) (by decide) (by decide) (by decide) (by decide)]) (h4 14 (by decide)) hp.2.2.2.2.1, PE_fr (fun a ha => h a (by omega) (by omega) (by omega) (by omega) (by omega) (by omega) (by omega)) (fun j hj => h4 j (by omega)) hp.2.2.2.2.2⟩
  · simp only [List.mem_cons, List.not_mem_nil, or_false] at ha
    exact h a (by omega) (by omega) (by omega) (by omega) (by omega) (by omega) (by omega)
  · simp only [List.mem_cons, List.not_mem_nil, or_false] at hj
    exact h4 j (by omega)
  · simp only [List.mem_cons, List.not_mem_nil, or_false] at ha
    exact h a (by omega) (by omega) (by omega) (by omega) (by omega) (by omega) (by omega)
  · simp only [List.mem_cons, List.not_mem_nil, or_false] at hj
    exact h4 j (by omega)
  · simp only [List.mem_cons, List.not_mem_nil, or_false] at ha
    exact h a (by omega) (by omega) (by omega) (by omega) (by omega) (by omega) (by omega)
  · simp only [List.mem_cons, List.not_mem_nil, or_false] at ha
    exact h a (by omega) (by omega) (by omega) (by omega) (by omega) (by omega) (by omega)
  · simp only [List.mem_cons, List.not_mem_nil, or_false] at ha
    exact h a (by omega) (by omega) (by omega) (by omega) (by omega) (by omega) (by omega)
/-- what touches refusals and the row alone -/
theorem Inv_row {m : Nat} {I I' : MI} {J : MJ} (h : ∀ a, a ≠ 41 → a ≠ 42 → a ≠ 43 → a ≠ 51 → a ≠ 74 → a ≠ 75 → a ≠ 44 → I' a = I a) (h4 : ∀ j, j ≠ 48 → I' 44 j = I 44 j) (hr : PR I') (hq : PQ I') (hp : Inv (m + 1) I J) : Inv m I' J := by
  obtain ⟨-, -, pf, c, ni, nk, no, pn, px⟩ := hp
  refine ⟨hr, hq, Pf_fr ?_ ?_ ?_ ?_ ?_ pf, c, ni, nk, no, PN_fr ?_ ?_ pn, PX_row h h4 px⟩
  · rw [h 11 (by decide) (by decide) (by decide) (by decide) (by decide) (by decide) (by decide)]
  · rw [h 22 (by decide) (by decide) (by decide) (by decide) (by decide) (by decide) (by decide)]
  · rw [h 28 (by decide) (by decide) (by decide) (by decide) (by decide) (by decide) (by decide)]
  · rw [h 34 (by decide) (by decide) (by decide) (by decide) (by decide) (by decide) (by decide)]
  · intro j hj
    simp only [List.mem_cons, List.not_mem_nil, or_false] at hj
    exact h4 j (by omega)
  · intro a ha
    simp only [List.mem_cons, List.not_mem_nil, or_false] at ha
    exact h a (by omega) (by omega) (by omega) (by omega) (by omega) (by omega) (by omega)
  · intro j hj
    simp only [List.mem_cons, List.not_mem_nil, or_false] at hj
    exact h4 j (by omega)
theorem Inv_ref {m j : Nat} {I : MI} {J : MJ} (hj : j < 7) (hp : Inv (m + 1) I J) : Inv m (refI j I) J := by
  have h : ∀ a, a ≠ 43 → a ≠ 51 → refI j I a = I a := fun a h1 h2 => refI_at h1 h2
  refine Inv_row (fun a _ _ h3 h4 _ _ _ => h a h3 h4) (fun q _ => by rw [h 44 (by decide) (by decide)]) (PR_ref hj hp.1) (PQ_fr (fun a ha => ?_) (by rw [h 44 (by decide) (by decide)]) hp.2.1) hp
  simp only [List.mem_cons, List.not_mem_nil, or_false] at ha
  exact h a (by omega) (by omega)
/-- both refuse: class first, then the reference -/
theorem ref2 {m j : Nat} {I : MI} {J : MJ} (hj : j < 7) (hp : Inv (m + 1) I J) : Inv m (upM (upM I 43 j (I 43 j + 1)) 51 (j + 2) ((upM I 43 j (I 43 j + 1)) 51 (j + 2) + 1)) J := by
  have h := Inv_ref hj hp
  unfold refI at h
  rw [show (upM I 43 j (I 43 j + 1)) 51 (j + 2) = I 51 (j + 2) from by rw [upM_ne 51 (by decide)]]
  exact h
theorem i32_of_toInt {x : Int32} {k : Int} {y : Int32} (hy : y.toInt = k) (h : x.toInt = k) : x = y := Int32.toInt_inj.mp (h.trans hy.symm)
theorem B_status_ok (n : Nat) : B_status Inv n := by
  intro a m I J hI
  unfold fX9_status
  rw [within_i]
  simp only [Option.bind_some, Int32.reduceToInt]
  by_cases hc : (-8 : Int) ≤ a.toInt ∧ a.toInt ≤ -2
  · have hb : ¬ b2 ((-8 : Int) ≤ a.toInt ∧ a.toInt ≤ -2) = 0 := fun h => b2_0.mp h hc
    have key : ∀ k : Nat, k < 7 → -2 - a = nI k → -a = nI (k + 2) → tot (if inb (-2 - a) 7 = true then some (I 43 (-2 - a).toNatClampNeg, I, J) else none) (fun r => tot (fX10_status n a r.2.1 r.2.2) (fun q => r.1 = q.1 ∧ Inv m q.2.1 q.2.2)) := by
      intro k hk h1 h2
      rw [h1, if_pos (inb_nI hk (by decide)), clampI (by omega)]
      refine tot_some.mpr ?_
      unfold fX10_status
      rw [isIn_i]
      simp only [Option.bind_some, Int64.reduceToInt]
      rw [if_neg hb, h2, if_pos (inb_nI (by omega) (by decide)), clampI (by omega)]
      exact tot_some.mpr ⟨(hI.1 k hk).symm, Inv_dec m I J hI⟩
    rw [if_neg hb]
    obtain ⟨h1, h2⟩ := hc
    have h3 : a.toInt = -2 ∨ a.toInt = -3 ∨ a.toInt = -4 ∨ a.toInt = -5 ∨ a.toInt = -6 ∨ a.toInt = -7 ∨ a.toInt = -8 := by omega
    rcases h3 with h3 | h3 | h3 | h3 | h3 | h3 | h3
    · have ha : a = (-2 : Int32) := i32_of_toInt (by decide) h3
      exact key 0 (by decide) (by rw [ha]; decide) (by rw [ha]; decide)
    · have ha : a = (-3 : Int32) := i32_of_toInt (by decide) h3
      exact key 1 (by decide) (by rw [ha]; decide) (by rw [ha]; decide)
    · have ha : a = (-4 : Int32) := i32_of_toInt (by decide) h3
      exact key 2 (by decide) (by rw [ha]; decide) (by rw [ha]; decide)
    · have ha : a = (-5 : Int32) := i32_of_toInt (by decide) h3
      exact key 3 (by decide) (by rw [ha]; decide) (by rw [ha]; decide)
    · have ha : a = (-6 : Int32) := i32_of_toInt (by decide) h3
      exact key 4 (by decide) (by rw [ha]; decide) (by rw [ha]; decide)
    · have ha : a = (-7 : Int32) := i32_of_toInt (by decide) h3
      exact key 5 (by decide) (by rw [ha]; decide) (by rw [ha]; decide)
    · have ha : a = (-8 : Int32) := i32_of_toInt (by decide) h3
      exact key 6 (by decide) (by rw [ha]; decide) (by rw [ha]; decide)
  · have hb : b2 ((-8 : Int) ≤ a.toInt ∧ a.toInt ≤ -2) = 0 := b2_f hc
    rw [if_pos hb, ref_7]
    refine tot_some.mpr ?_
    unfold fX10_status
    rw [isIn_i]
    simp only [Option.bind_some, Int64.reduceToInt]
    rw [if_pos hb, no_7]
    exact tot_some.mpr ⟨rfl, ref2 (j := 5) (by decide) hI⟩
