/-! changes of the net: out, source -/
def clrC (C : MI) : MI := upM (upM (upM (upM C 11 0 0) 22 0 0) 28 0 0) 34 0 0
def clrM (Y : MI) : MI := upM (upM (upM (upM (upM Y 44 11 0) 44 12 0) 44 13 0) 44 14 0) 44 15 0
theorem forgetTables_eq (n : Nat) (hn : 32 < n) (I : MI) (J : MJ) : fX9_forgetTables n I J = some (begF (clrC I), J) := by
  unfold fX9_forgetTables
  simp only [lt]
  rw [forgetPlaces_eq]
  simp only [Option.bind_some]
  rw [begin_eq n hn]
  rfl
theorem changes_eq (n c : Nat) (hn : 32 < n) (hc : c ≤ 32) (I : MI) (J : MJ) (hI : I 44 6 = nI c) : fX10_changes n I J = some (bgnF (clrM I) c, J) := by
  unfold fX10_changes
  simp only [lt]
  have h : clrM I 44 6 = nI c := by rw [← hI]; simp [clrM, upM_get]
  have h1 := begins_eq n c hn hc (clrM I) J h
  unfold clrM at h1
  rw [h1]
  rfl
theorem clrM_at {Y : MI} {a : Nat} (h : a ≠ 44) : clrM Y a = Y a := by
  unfold clrM
  rw [upM_ne a h, upM_ne a h, upM_ne a h, upM_ne a h, upM_ne a h]
theorem clrM_44 {Y : MI} {j : Nat} (h1 : j ≠ 11) (h2 : j ≠ 12) (h3 : j ≠ 13) (h4 : j ≠ 14) (h5 : j ≠ 15) : clrM Y 44 j = Y 44 j := by
  simp [clrM, upM_get, h1, h2, h3, h4, h5]
theorem clrC_at {C : MI} {a : Nat} (h1 : a ≠ 11) (h2 : a ≠ 22) (h3 : a ≠ 28) (h4 : a ≠ 34) : clrC C a = C a := by
  unfold clrC
  rw [upM_ne a h4, upM_ne a h3, upM_ne a h2, upM_ne a h1]
theorem clrM_beg {I : MI} : clrM (begF I) = begF (clrM I) := by
  unfold clrM
  rw [begF_up (by decide) (by decide) (by decide) (by decide), begF_up (by decide) (by decide) (by decide) (by decide), begF_up (by decide) (by decide) (by decide) (by decide), begF_up (by decide) (by decide) (by decide) (by decide), begF_up (by decide) (by decide) (by decide) (by decide)]
theorem clrC_z {C : MI} : clrC C 11 0 = 0 ∧ clrC C 22 0 = 0 ∧ clrC C 28 0 = 0 ∧ clrC C 34 0 = 0 := by
  refine ⟨?_, ?_, ?_, ?_⟩ <;> simp [clrC, upM_get]
/-- a change of the net: all that hangs on it is taken away -/
theorem Inv_chg {m c ni nk no : Nat} {Y : MI} {J : MJ} (hm : m ≤ 3000) (hr : PR Y) (hq : PQ Y) (hz : Y 11 0 = 0 ∧ Y 22 0 = 0 ∧ Y 28 0 = 0 ∧ Y 34 0 = 0) (hn : PN c ni nk no Y) (hy : PY c (clrM Y) J) : Inv m (bgnF (begF (clrM Y)) c) J := by
  refine Inv_beg hm (PR_fr (fun a ha => ?_) hr) (PQ_fr (fun a ha => ?_) ?_ hq) ?_ (PN_fr (fun a ha => ?_) (fun j hj => ?_) hn) hy
  · simp only [List.mem_cons, List.not_mem_nil, or_false] at ha
    exact clrM_at (by omega)
  · simp only [List.mem_cons, List.not_mem_nil, or_false] at ha
    exact clrM_at (by omega)
  · exact clrM_44 (by decide) (by decide) (by decide) (by decide) (by decide)
  · obtain ⟨z1, z2, z3, z4⟩ := hz
    have e11 : clrM Y 44 11 = 0 := by simp [clrM, upM_get]
    have e12 : clrM Y 44 12 = 0 := by simp [clrM, upM_get]
    have e13 : clrM Y 44 13 = 0 := by simp [clrM, upM_get]
    have e14 : clrM Y 44 14 = 0 := by simp [clrM, upM_get]
    unfold Pf
    rw [e11, e12, e13, e14, clrM_at (show (11 : Nat) ≠ 44 by decide), clrM_at (show (22 : Nat) ≠ 44 by decide), clrM_at (show (28 : Nat) ≠ 44 by decide), clrM_at (show (34 : Nat) ≠ 44 by decide), z1, z2, z3, z4]
    exact ⟨⟨rfl, rfl, rfl, rfl⟩, ⟨Or.inl rfl, Or.inl rfl, Or.inl rfl, Or.inl rfl⟩, fun h => absurd h (by decide), fun h => absurd h (by decide), fun h => absurd h (by decide)⟩
  · simp only [List.mem_cons, List.not_mem_nil, or_false] at ha
    exact clrM_at (by omega)
  · simp only [List.mem_cons, List.not_mem_nil, or_false] at hj
    exact clrM_44 (by omega) (by omega) (by omega) (by omega) (by omega)
