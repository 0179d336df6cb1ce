/-! gate -/
theorem half64 : ∀ s, s < 64 → nI s >>> ((1 : Int32) &&& 31) = nI (s / 2) := by decide +kernel
theorem B_gate_ok (n : Nat) (hn : 2400 < n) : B_gate Inv n := by
  intro x y z m I J hI
  have hm := Inv_m hI
  obtain ⟨pr, pq, pf, c, ni, nk, no, pn, ⟨pu, py⟩⟩ := id hI
  obtain ⟨⟨hc, hni, hnk, hno⟩, ⟨e5, e6, e1, e2, e3, e4, e7, e8⟩, pcell, pouts, pg, pfi, p49, p49'⟩ := id pn
  have e2c : (2 : Int32) * nI c = nI (2 * c) := pk_mul 2 c
  unfold fX9_gate
  by_cases hx : ∃ o, o < 3 ∧ x = nI o
  case neg =>
    have h9 : tot (fX9_gate_9 n I J) (fun r => tot (fX10_gate n x y z r.2.1 r.2.2) (fun q => r.1 = q.1 ∧ Inv m q.2.1 q.2.2)) := by
      unfold fX9_gate_9
      rw [ref_7]
      refine rr (j := 5) (f := fX10_gate n x y z) (by decide) hI ?_
      unfold fX10_gate
      rw [isIn_i]
      simp only [Option.bind_some, Int64.reduceToInt]
      rw [if_pos (b2_f (fun q => hx (by obtain ⟨k, -, k2, e⟩ := nI_rng (a := 0) (b := 2) (by decide) q; exact ⟨k, by omega, e⟩))), no_7]
      rfl
    by_cases h0 : x < 0
    · rw [if_pos h0]; exact h9
    · rw [if_neg h0, if_neg (fun q => hx (by
        obtain ⟨j, hj, rfl⟩ := nI_of h0
        exact ⟨j, by have := (nI_leI (b := 2) hj (by decide)).mp q; omega, rfl⟩))]
      exact h9
  obtain ⟨o, ho, rfl⟩ := hx
  rw [if_neg (nI_pos (by omega)), if_pos (show nI o ≤ (2 : Int32) from nI_le (b := 2) (by omega) (by decide))]
  have hin : ∀ I' : MI, ∀ J' : MJ, fX10_isIn n (nI o).toInt64 0 2 I' J' = some (1, I', J') := by
    intro I' J'
    rw [isIn_i, b2_t (by rw [nI_toInt (by omega)]; simp only [Int64.reduceToInt]; omega)]
  have h38 : (¬ (∃ s, s < 2 * c ∧ y = nI s) ∨ ¬ (∃ s, s < 2 * c ∧ z = nI s)) → tot (fX9_gate_38 n I J) (fun r => tot (fX10_gate n (nI o) y z r.2.1 r.2.2) (fun q => r.1 = q.1 ∧ Inv m q.2.1 q.2.2)) := by
    intro hh
    unfold fX9_gate_38
    rw [ref_3]
    refine rr (j := 1) (f := fX10_gate n (nI o) y z) (by decide) hI ?_
    unfold fX10_gate fX10_gate_35
    rw [hin]
    simp only [Option.bind_some]
    rw [if_neg (by decide), isSign_eq]
    simp only [Option.bind_some, up43 (show (44 : Nat) ≠ 43 by decide), e6, e2c]
    by_cases hy : ∃ s, s < 2 * c ∧ y = nI s
    · rw [if_neg (fun q => b2_0.mp q ((inP (by omega)).mpr hy)), isSign_eq]
      simp only [Option.bind_some, up43 (show (44 : Nat) ≠ 43 by decide), e6, e2c]
      rw [if_pos (b2_f (fun q => (hh.resolve_left (fun w => w hy)) ((inP (by omega)).mp q))), no_3]
      rfl
    · rw [if_pos (b2_f (fun q => hy ((inP (by omega)).mp q))), no_3]
      rfl
  rw [hasSign_eq, e5, e2c]
  simp only [Option.bind_some]
  by_cases hy : ∃ s, s < 2 * c ∧ y = nI s
  case neg =>
    rw [if_pos (b2_f (fun q => hy ((inP (by omega)).mp q)))]
    exact h38 (Or.inl hy)
  rw [if_neg (fun q => b2_0.mp q ((inP (by omega)).mpr hy)), hasSign_eq, e5, e2c]
  simp only [Option.bind_some]
  by_cases hz : ∃ s, s < 2 * c ∧ z = nI s
  case neg =>
    rw [if_pos (b2_f (fun q => hz ((inP (by omega)).mp q)))]
    exact h38 (Or.inr hz)
  rw [if_neg (fun q => b2_0.mp q ((inP (by omega)).mpr hz)), e5]
  by_cases hc32 : c = 32
  · rw [if_neg (show ¬ nI c < (32 : Int32) by rw [hc32]; decide), ref_8]
    simp only [Option.bind_some]
    refine rr (j := 6) (f := fX10_gate n (nI o) y z) (by decide) hI ?_
    unfold fX10_gate
    rw [hin]
    simp only [Option.bind_some]
    rw [if_neg (by decide), isSign_eq]
    simp only [Option.bind_some, up43 (show (44 : Nat) ≠ 43 by decide), e6, e2c]
    rw [if_neg (fun q => b2_0.mp q ((inP (by omega)).mpr hy)), isSign_eq]
    simp only [Option.bind_some, up43 (show (44 : Nat) ≠ 43 by decide), e6, e2c]
    rw [if_neg (fun q => b2_0.mp q ((inP (by omega)).mpr hz)), if_pos (by rw [hc32]; rfl), no_8]
    rfl
  rw [if_pos (show nI c < (32 : Int32) from nI_lt (b := 32) (by omega) (by decide))]
  obtain ⟨sy, hsy, rfl⟩ := hy
  obtain ⟨sz, hsz, rfl⟩ := hz
  have hA : fX3_addGate n (nI o) (nI sy) (nI sz) I J = some (nI c, upM (upM (upM (upM (upM (upM I 1 9 (I 1 9 ||| ((1 : Int32) <<< (nI c &&& 31)))) 2 c 2) 3 c (nI sy)) 4 c (nI sz)) 5 c (nI o)) 1 5 (nI (c + 1)), J) := by
    unfold fX3_addGate
    simp only [lt, e5]
    rw [add_eq n c _ _ _ _ _ J (by omega) (by rw [upM_get, if_pos rfl, if_neg (by decide)]; exact e5)]
    rfl
  rw [hA]
  simp only [Option.bind_some, lt]
  rw [half64 sy (by omega), half64 sz (by omega)]
  generalize hC0 : upM (upM (upM (upM (upM (upM I 1 9 (I 1 9 ||| ((1 : Int32) <<< (nI c &&& 31)))) 2 c 2) 3 c (nI sy)) 4 c (nI sz)) 5 c (nI o)) 1 5 (nI (c + 1)) = C0
  have pk := py.2.2.2.2.1
  obtain ⟨-, K, D, k1, k2, -⟩ := id pk
  have hwf := kOk_wf hc k1
  have c8 : C0 8 = I 8 := by rw [← hC0]; simp [upM]
  have c9 : C0 9 = I 9 := by rw [← hC0]; simp [upM]
  have hkc : ∀ a, a < c → kcOk K D C0 J a := by
    intro a ha
    unfold kcOk
    rw [c8, c9]
    exact k2 a ha
  obtain ⟨J', j1, j2⟩ := addGate_ok n hn (K := K) (D := D) (I := C0) (J := J) (g := c) (a := sy / 2) (b := sz / 2) (by omega) (by omega) (by omega) (fun i hi => (hwf i hi).2.1) (hkc _ (by omega)) (hwf _ (by omega)).1 (hkc _ (by omega)) (hwf _ (by omega)).1
  generalize hL : ct_gl (ct_rk c D) (K (sy / 2)) (sy / 2) (K (sz / 2)) (sz / 2) = L at *
  rw [j1]
  simp only [Option.bind_some]
  rw [forgetTables_eq n (by omega)]
  simp only [Option.bind_some]
  generalize hC : upM (upM C0 8 c (nI L.1)) 9 c (nI (1 + ct_md D c (L.2 0))) = C
  refine tot_some.mpr ?_
  show tot (fX10_gate n (nI o) (nI sy) (nI sz) (begF (clrC C)) J') _
  have h44 : begF (clrC C) 44 = I 44 := by
    rw [begF_at 44 (by decide) (by decide) (by decide), ← hC, ← hC0]
    simp [clrC, upM]
  unfold fX10_gate
  rw [hin]
  simp only [Option.bind_some]
  rw [if_neg (by decide), isSign_eq]
  simp only [Option.bind_some, h44, e6, e2c]
  rw [if_neg (fun q => b2_0.mp q ((inP (by omega)).mpr ⟨sy, hsy, rfl⟩)), isSign_eq]
  simp only [Option.bind_some, h44, e6, e2c]
  rw [if_neg (fun q => b2_0.mp q ((inP (by omega)).mpr ⟨sz, hsz, rfl⟩)), if_neg (show ¬ nI c = (32 : Int32) from fun q => hc32 ((nI_eq (b := 32) (by omega) (by decide)).mp q)), if_pos (inb_nI (by omega) (by decide)), clampI (by omega)]
  simp only [lt]
  rw [adds_eq n c (by omega) 2 (nI sy) (nI sz) _ J' (by omega) (by rw [upM_ne 44 (by decide), h44]; exact e6)]
  simp only [Option.bind_some]
  have hY0 : addMd c 2 (nI sy) (nI sz) (upM (begF (clrC C)) 48 c (nI o)) = begF (addMd c 2 (nI sy) (nI sz) (upM (clrC C) 48 c (nI o))) := by
    unfold addMd
    rw [begF_up (by decide) (by decide) (by decide) (by decide), begF_up (by decide) (by decide) (by decide) (by decide), begF_up (by decide) (by decide) (by decide) (by decide), begF_up (by decide) (by decide) (by decide) (by decide), begF_up (by decide) (by decide) (by decide) (by decide)]
  rw [hY0, clrM_beg]
  generalize hY : addMd c 2 (nI sy) (nI sz) (upM (clrC C) 48 c (nI o)) = Y
  have hYz : Y 11 0 = 0 ∧ Y 22 0 = 0 ∧ Y 28 0 = 0 ∧ Y 34 0 = 0 := by
    rw [← hY]
    refine ⟨?_, ?_, ?_, ?_⟩ <;> simp [addMd, clrC, upM_get]
  have hPN : PN (c + 1) ni nk no Y := by
    refine PN_add pn (by omega) (by omega) (by omega) 2 (nI sy) (nI sz) ⟨?_, ?_, ?_, ?_, ?_, ?_, ?_, ?_⟩ ?_ ?_ ?_ ?_ ?_ ?_ (fun i hi => ?_) (fun i hi => ?_) ?_ ?_ (fun i hi => ?_) ?_ (fun i hi => ?_) (fun i hi => ?_) (Or.inr (Or.inr ⟨rfl, ⟨sy, hsy, rfl⟩, ⟨sz, hsz, rfl⟩, o, ho, ?_, ?_⟩))
    · rw [← hY, ← hC, ← hC0]; simp [addMd, clrC, upM_get]
    · rw [← hY, ← hC, ← hC0]; simp [addMd, clrC, upM_get]
    · rw [← hY, ← hC, ← hC0]; simp [addMd, clrC, upM_get, e1]
    · rw [← hY, ← hC, ← hC0]; simp [addMd, clrC, upM_get, e2]
    · rw [← hY, ← hC, ← hC0]; simp [addMd, clrC, upM_get, e3]
    · rw [← hY, ← hC, ← hC0]; simp [addMd, clrC, upM_get, e4]
    · rw [← hY, ← hC, ← hC0]; simp [addMd, clrC, upM_get]
    · rw [← hY, ← hC, ← hC0]; simp [addMd, clrC, upM_get]
    · rw [← hY, ← hC, ← hC0]; simp [addMd, clrC, upM]
    · rw [← hY, ← hC, ← hC0]; simp [addMd, clrC, upM]
    · rw [← hY, ← hC, ← hC0]; simp [addMd, clrC, upM]
    · rw [← hY, ← hC, ← hC0]; simp [addMd, clrC, upM]
    · rw [← hY, ← hC, ← hC0]; simp [addMd, clrC, upM]
    · rw [← hY, ← hC, ← hC0]; simp [addMd, clrC, upM]
    · rw [← hY, ← hC, ← hC0]; simp [addMd, clrC, upM_get, hi]
    · rw [← hY, ← hC, ← hC0]; simp [addMd, clrC, upM_get, hi]
    · rw [← hY, ← hC, ← hC0]; simp [addMd, clrC, upM]
    · rw [← hY, ← hC, ← hC0]; simp [addMd, clrC, upM]
    · rw [← hY, ← hC, ← hC0]; simp [addMd, clrC, upM_get]
    · left
      rw [← hY, ← hC, ← hC0]
      simp only [addMd, clrC, upM_get]
      simp
      exact p49' c (Nat.le_refl _) (by omega)
    · have : Y 1 9 = I 1 9 ||| ((1 : Int32) <<< (nI c &&& 31)) := by rw [← hY, ← hC, ← hC0]; simp [addMd, clrC, upM_get]
      rw [this, b_or, bt_sh (by omega) hi]
      simp
    · have : Y 1 10 = I 1 10 := by rw [← hY, ← hC, ← hC0]; simp [addMd, clrC, upM_get]
      rw [this]
      simp
    · rw [← hY, ← hC, ← hC0]; simp [addMd, clrC, upM_get]
    · rw [← hY, ← hC, ← hC0]; simp [addMd, clrC, upM_get]
  have hPK : PK (c + 1) (clrM Y) J' := by
    refine PK_add k1 k2 (by omega) (fun a ha g hg => ?_) (by simp [clrM, upM_get]) (fun i hi => j2.2 10 i (by omega)) (Or.inr ⟨?_, sy, sz, hsy, hsz, ?_, ?_, L, hL.symm, ?_, ?_, j2.1⟩)
    · simp only [List.mem_cons, List.not_mem_nil, or_false] at ha
      rw [clrM_at (by omega), ← hY, ← hC, ← hC0]
      rcases ha with rfl | rfl | rfl | rfl | rfl <;> simp [addMd, clrC, upM_get, show ¬ g = c by omega]
    · rw [clrM_at (by decide), ← hY, ← hC, ← hC0]; simp [addMd, clrC, upM_get]
    · rw [clrM_at (by decide), ← hY, ← hC, ← hC0]; simp [addMd, clrC, upM_get]
    · rw [clrM_at (by decide), ← hY, ← hC, ← hC0]; simp [addMd, clrC, upM_get]
    · rw [clrM_at (by decide), ← hY, ← hC]; simp [addMd, clrC, upM_get]
    · rw [clrM_at (by decide), ← hY, ← hC]; simp [addMd, clrC, upM_get]
  refine tot_some.mpr ⟨rfl, Inv_chg (by omega) (PR_fr (fun a ha => ?_) pr) (PQ_fr (fun a ha => ?_) (by rw [← hY, ← hC, ← hC0]; simp [addMd, clrC, upM_get]) pq) hYz hPN (PY_chg (fun a ha => by rw [← hY, ← hC, ← hC0]; simp only [addMd, clrC]; repeat rw [upM_ne a (by omega)]) (fun j h1 h2 => by rw [← hY, ← hC, ← hC0]; simp only [addMd, clrC, upM_get]; simp [show ¬ j = 6 by omega, show ¬ j = 7 by omega, show ¬ j = 8 by omega]) (funext fun b => j2.2 16 b (Or.inl (by decide))) hPK (PC_add (I := I) (by rw [clrM_at (by decide), clrM_at (by decide), ← hY, ← hC, ← hC0]; simp [addMd, clrC, upM_get]) (by rw [clrM_at (by decide), clrM_at (by decide), ← hY, ← hC, ← hC0]; simp [addMd, clrC, upM_get]) (fun i hi => by rw [clrM_at (by decide), ← hY, ← hC, ← hC0]; simp [addMd, clrC, upM_get, show ¬ i = c by omega]) py.2.2.2.2.2.2.2.2) py)⟩
  · simp only [List.mem_cons, List.not_mem_nil, or_false] at ha
    rw [← hY, ← hC, ← hC0]
    rcases ha with rfl | rfl <;> simp [addMd, clrC, upM]
  · simp only [List.mem_cons, List.not_mem_nil, or_false] at ha
    rw [← hY, ← hC, ← hC0]
    rcases ha with rfl | rfl | rfl <;> simp [addMd, clrC, upM]
