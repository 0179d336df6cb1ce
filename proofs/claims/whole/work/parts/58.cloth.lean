/-! cloth, broken -/
theorem Inv_unset {m : Nat} {I I' : MI} {J J' : MJ} (h : ∀ a, (a < 16 ∨ 21 < a) → a ≠ 60 → a ≠ 22 → a ≠ 28 → a ≠ 34 → a ≠ 44 → I' a = I a) (h22 : I' 22 0 = 0) (h28 : I' 28 0 = 0) (h34 : I' 34 0 = 0) (h44 : ∀ j, j ≠ 12 → j ≠ 13 → j ≠ 14 → (j < 24 ∨ 27 < j) → I' 44 j = I 44 j) (z : I' 44 12 = 0 ∧ I' 44 13 = 0 ∧ I' 44 14 = 0) (hJ : J' 10 = J 10) (hg : PG I' J') (hI : Inv (m + 1) I J) : Inv m I' J' := by
  obtain ⟨pr, pq, pf, c, ni, nk, no, pn, ⟨pu, -, pz⟩⟩ := hI
  obtain ⟨z1, z2, z3⟩ := z
  have e : ∀ a, (a < 16 ∨ 21 < a) → a ≠ 60 → a ≠ 22 → a ≠ 28 → a ≠ 34 → a ≠ 44 → I' a = I a := h
  refine ⟨PR_fr (fun a ha => ?_) pr, PQ_fr (fun a ha => ?_) (h44 48 (by decide) (by decide) (by decide) (by decide)) pq, ?_, c, ni, nk, no, PN_fr (fun a ha => ?_) (fun j hj => ?_) pn, ?_, hg, PW_0 z2, PP_0 z1, PF_0 z3, PE_unset h h44 ⟨z1, z2, z3⟩ hJ pz.2.2.2⟩
  · simp only [List.mem_cons, List.not_mem_nil, or_false] at ha
    exact h a (by omega) (by omega) (by omega) (by omega) (by omega) (by omega)
  · simp only [List.mem_cons, List.not_mem_nil, or_false] at ha
    exact h a (by omega) (by omega) (by omega) (by omega) (by omega) (by omega)
  · unfold Pf
    rw [z1, z2, z3, h22, h28, h34, h 11 (by decide) (by decide) (by decide) (by decide) (by decide) (by decide), h44 11 (by decide) (by decide) (by decide) (by decide)]
    exact ⟨⟨pf.1.1, rfl, rfl, rfl⟩, ⟨pf.2.1.1, Or.inl rfl, Or.inl rfl, Or.inl rfl⟩, fun q => absurd q (by decide), fun q => absurd q (by decide), fun q => absurd q (by decide)⟩
  · simp only [List.mem_cons, List.not_mem_nil, or_false] at ha
    exact h a (by omega) (by omega) (by omega) (by omega) (by omega) (by omega)
  · simp only [List.mem_cons, List.not_mem_nil, or_false] at hj
    exact h44 j (by omega) (by omega) (by omega) (by omega)
  · obtain ⟨u1, u2, u3, u4, u5, u6, u7⟩ := PU_dec pu
    unfold PU
    rw [h34, h44 42 (by decide) (by decide) (by decide) (by decide), h44 43 (by decide) (by decide) (by decide) (by decide), h44 45 (by decide) (by decide) (by decide) (by decide), h 2 (by decide) (by decide) (by decide) (by decide) (by decide) (by decide), h 38 (by decide) (by decide) (by decide) (by decide) (by decide) (by decide), h 39 (by decide) (by decide) (by decide) (by decide) (by decide) (by decide), h 40 (by decide) (by decide) (by decide) (by decide) (by decide) (by decide), h 71 (by decide) (by decide) (by decide) (by decide) (by decide) (by decide), h 72 (by decide) (by decide) (by decide) (by decide) (by decide) (by decide)]
    exact ⟨u1, u2, u3, fun _ q => absurd q (by decide), u5, u6, u7⟩
theorem cl_loop (n : Nat) (I : MI) (J : MJ) : ∀ q i, i ≤ 36 → 36 < q + i → lX10_cloth_80 n q (nI i) (fillc I 60 i 0) J = some (jnt I, upM (upM (upM (fillc I 60 36 0) 44 12 0) 44 13 0) 44 14 0, J) := by
  intro q
  induction q with
  | zero => intro i h1 h2; omega
  | succ q ih =>
    intro i h1 h2
    show fX10_cloth_80 n (lX10_cloth_80 n q) (nI i) (fillc I 60 i 0) J = _
    unfold fX10_cloth_80
    by_cases h : i = 36
    · subst h
      rw [if_pos (by decide), unset_eq]
      simp only [Option.bind_some]
      rw [joints_eq]
      simp only [Option.bind_some]
      have e : jnt (upM (upM (upM (fillc I 60 36 0) 44 12 0) 44 13 0) 44 14 0) = jnt I := by
        unfold jnt
        simp [upM_get, fillc]
      rw [e]
    · rw [if_neg (show ¬ (36 : Int32) ≤ nI i from nI_ge (a := i) (b := 36) (by omega) (by decide)), if_pos (inb_nI (by omega) (by decide)), clampI (by omega)]
      simp only [lt]
      rw [show bz 0 = 0 from by decide, fill_step, nI_1]
      exact ih (i + 1) (by omega) (by omega)
theorem bl_0 (i : Nat) : bl 0 i = false := BitVec.getLsbD_zero
theorem nI_rng {x : Int32} {a b : Nat} (hb : b < 2 ^ 31) (h : (a : Int) ≤ x.toInt ∧ x.toInt ≤ b) : ∃ k, a ≤ k ∧ k ≤ b ∧ x = nI k := by
  obtain ⟨j, hj, rfl⟩ := nI_of (x := x) (by rw [lt0]; omega)
  rw [nI_toInt hj] at h
  exact ⟨j, by omega, by omega, rfl⟩
theorem B_cloth_ok (n : Nat) (hn : 144 < n) : B_cloth Inv n := by
  intro a b r k m I J hI
  have bad : (¬ ((1 : Int) ≤ a.toInt ∧ a.toInt ≤ 6) ∨ ¬ ((1 : Int) ≤ b.toInt ∧ b.toInt ≤ 6) ∨ ¬ ((1 : Int) ≤ r.toInt ∧ r.toInt ≤ 4) ∨ ¬ ((1 : Int) ≤ k.toInt ∧ k.toInt ≤ 4)) → tot (fX9_cloth_39 n I J) (fun q => tot (fX10_cloth n a b r k q.2.1 q.2.2) (fun z => q.1 = z.1 ∧ Inv m z.2.1 z.2.2)) := by
    intro hb
    unfold fX9_cloth_39
    rw [ref_7]
    refine rr (j := 5) (f := fX10_cloth n a b r k) (by decide) hI ?_
    unfold fX10_cloth fX10_cloth_49
    rw [isIn_i]
    simp only [Option.bind_some, Int64.reduceToInt]
    by_cases h1 : (1 : Int) ≤ a.toInt ∧ a.toInt ≤ 6
    · rw [if_neg (fun q => b2_0.mp q h1), isIn_i]
      simp only [Option.bind_some, Int64.reduceToInt]
      by_cases h2 : (1 : Int) ≤ b.toInt ∧ b.toInt ≤ 6
      · rw [if_neg (fun q => b2_0.mp q h2), isIn_i]
        simp only [Option.bind_some, Int64.reduceToInt]
        by_cases h3 : (1 : Int) ≤ r.toInt ∧ r.toInt ≤ 4
        · rw [if_neg (fun q => b2_0.mp q h3), isIn_i]
          simp only [Option.bind_some, Int64.reduceToInt]
          have h4 : ¬ ((1 : Int) ≤ k.toInt ∧ k.toInt ≤ 4) := by
            rcases hb with q | q | q | q
            · exact absurd h1 q
            · exact absurd h2 q
            · exact absurd h3 q
            · exact q
          rw [if_pos (b2_f h4), no_7]; rfl
        · rw [if_pos (b2_f h3), no_7]; rfl
      · rw [if_pos (b2_f h2), no_7]; rfl
    · rw [if_pos (b2_f h1), no_7]; rfl
  unfold fX9_cloth
  rw [within_i]
  simp only [Option.bind_some, Int32.reduceToInt]
  by_cases h1 : (1 : Int) ≤ a.toInt ∧ a.toInt ≤ 6
  case neg => rw [if_pos (b2_f h1)]; exact bad (Or.inl h1)
  rw [if_neg (fun q => b2_0.mp q h1), within_i]
  simp only [Option.bind_some, Int32.reduceToInt]
  by_cases h2 : (1 : Int) ≤ b.toInt ∧ b.toInt ≤ 6
  case neg => rw [if_pos (b2_f h2)]; exact bad (Or.inr (Or.inl h2))
  rw [if_neg (fun q => b2_0.mp q h2), within_i]
  simp only [Option.bind_some, Int32.reduceToInt]
  by_cases h3 : (1 : Int) ≤ r.toInt ∧ r.toInt ≤ 4
  case neg => rw [if_pos (b2_f h3)]; exact bad (Or.inr (Or.inr (Or.inl h3)))
  rw [if_neg (fun q => b2_0.mp q h3), within_i]
  simp only [Option.bind_some, Int32.reduceToInt]
  by_cases h4 : (1 : Int) ≤ k.toInt ∧ k.toInt ≤ 4
  case neg => rw [if_pos (b2_f h4)]; exact bad (Or.inr (Or.inr (Or.inr h4)))
  rw [if_neg (fun q => b2_0.mp q h4)]
  have hM : ∀ I' : MI, ∀ J' : MJ, fX10_cloth n a b r k I' J' = lX10_cloth_80 n n 0 (upM (upM (upM (upM I' 44 24 a) 44 25 b) 44 26 r) 44 27 k) J' := by
    intro I' J'
    unfold fX10_cloth
    rw [isIn_i]
    simp only [Option.bind_some, Int64.reduceToInt]
    rw [if_neg (fun q => b2_0.mp q h1), isIn_i]
    simp only [Option.bind_some, Int64.reduceToInt]
    rw [if_neg (fun q => b2_0.mp q h2), isIn_i]
    simp only [Option.bind_some, Int64.reduceToInt]
    rw [if_neg (fun q => b2_0.mp q h3), isIn_i]
    simp only [Option.bind_some, Int64.reduceToInt]
    rw [if_neg (fun q => b2_0.mp q h4)]
    rfl
  obtain ⟨w, w1, w2, rfl⟩ := nI_rng (a := 1) (b := 6) (by decide) h1
  obtain ⟨h, g1, g2, rfl⟩ := nI_rng (a := 1) (b := 6) (by decide) h2
  obtain ⟨ro, o1, o2, rfl⟩ := nI_rng (a := 1) (b := 4) (by decide) h3
  obtain ⟨ca, c1, c2, rfl⟩ := nI_rng (a := 1) (b := 4) (by decide) h4
  obtain ⟨⟨I1, J1⟩, hs, hJ1, hgr, hfr⟩ := shape_ok n hn (r := ro) (k := ca) w1 w2 g1 g2 I J
  dsimp only at hJ1 hgr hfr
  subst hJ1
  refine tot_to hs ?_
  rw [forgetPlaces_eq]
  refine tot_to rfl ?_
  refine tot_some.mpr ?_
  dsimp only
  rw [hM]
  have hc := cl_loop n (upM (upM (upM (upM (upM (upM (upM I1 22 0 0) 28 0 0) 34 0 0) 44 24 (nI w)) 44 25 (nI h)) 44 26 (nI ro)) 44 27 (nI ca)) (upN J 16 9 0) n 0 (Nat.zero_le _) (by omega)
  rw [show fillc (upM (upM (upM (upM (upM (upM (upM I1 22 0 0) 28 0 0) 34 0 0) 44 24 (nI w)) 44 25 (nI h)) 44 26 (nI ro)) 44 27 (nI ca)) 60 0 0 = upM (upM (upM (upM (upM (upM (upM I1 22 0 0) 28 0 0) 34 0 0) 44 24 (nI w)) 44 25 (nI h)) 44 26 (nI ro)) 44 27 (nI ca) from by funext x y; exact if_neg (fun q => by omega)] at hc
  rw [show lX10_cloth_80 n n (0 : Int32) = lX10_cloth_80 n n (nI 0) from rfl, hc]
  refine tot_some.mpr ⟨?_, ?_⟩
  · dsimp only
    unfold jnt
    simp [upM_get]
    rw [hgr.2.2.2.2.1]
    have e1 : nI w - 1 = nI (w - 1) := pk_sub (a := w) (b := 1) w1
    have e2 : nI h - 1 = nI (h - 1) := pk_sub (a := h) (b := 1) g1
    rw [e1, e2, pk_mul, pk_mul, nI_add]
    congr 1
    rw [Nat.mul_sub_one, Nat.mul_sub_one]
  · dsimp only
    have hX : ∀ a b, (a ≠ 22 ∨ b ≠ 0) → (a ≠ 28 ∨ b ≠ 0) → (a ≠ 34 ∨ b ≠ 0) → a ≠ 60 → a ≠ 44 → upM (upM (upM (fillc (upM (upM (upM (upM (upM (upM (upM I1 22 0 0) 28 0 0) 34 0 0) 44 24 (nI w)) 44 25 (nI h)) 44 26 (nI ro)) 44 27 (nI ca)) 60 36 0) 44 12 0) 44 13 0) 44 14 0 a b = I1 a b := by
      intro a b q1 q2 q3 q4 q5
      simp only [upM_get, fillc]
      simp [q4, q5]
      by_cases z1 : a = 34
      · have : b ≠ 0 := q3.resolve_left (fun q => q z1)
        subst z1
        simp [this]
      · by_cases z2 : a = 28
        · have : b ≠ 0 := q2.resolve_left (fun q => q z2)
          subst z2
          simp [this]
        · by_cases z3 : a = 22
          · have : b ≠ 0 := q1.resolve_left (fun q => q z3)
            subst z3
            simp [this]
          · simp [z1, z2, z3]
    refine Inv_unset (J := J) (fun a q0 q1 q2 q3 q4 q5 => ?_) ?_ ?_ ?_ (fun j q1 q2 q3 q4 => ?_) ⟨?_, ?_, ?_⟩ rfl ?_ hI
    · funext b
      rw [hX a b (Or.inl q2) (Or.inl q3) (Or.inl q4) q1 q5, hfr a q0]
    · simp [upM_get, fillc]
    · simp [upM_get, fillc]
    · simp [upM_get, fillc]
    · have : j ≠ 24 ∧ j ≠ 25 ∧ j ≠ 26 ∧ j ≠ 27 := by omega
      simp [upM_get, fillc, q1, q2, q3, this]
      rw [hfr 44 (by decide)]
    · simp [upM_get, fillc]
    · simp [upM_get, fillc]
    · simp [upM_get, fillc]
    · have hXc : ∀ a, 16 ≤ a → a ≤ 21 → upM (upM (upM (fillc (upM (upM (upM (upM (upM (upM (upM I1 22 0 0) 28 0 0) 34 0 0) 44 24 (nI w)) 44 25 (nI h)) 44 26 (nI ro)) 44 27 (nI ca)) 60 36 0) 44 12 0) 44 13 0) 44 14 0 a = I1 a := by
        intro a p1 p2
        funext b
        exact hX a b (Or.inl (by omega)) (Or.inl (by omega)) (Or.inl (by omega)) (by omega) (by omega)
      refine ⟨w, h, ro, ca, ⟨w1, w2, g1, g2, o1, o2, c1, c2⟩, ⟨?_, ?_, ?_, ?_⟩, ?_, fun t ht => Or.inl ?_, fun t _ ht => ?_, fun t ht => ?_⟩
      · simp [upM_get, fillc]
      · simp [upM_get, fillc]
      · simp [upM_get, fillc]
      · simp [upM_get, fillc]
      · unfold grOk colOk dnOk
        rw [hXc 16 (by decide) (by decide), hXc 17 (by decide) (by decide), hXc 18 (by decide) (by decide), hXc 19 (by decide) (by decide), hXc 20 (by decide) (by decide), hXc 21 (by decide) (by decide)]
        exact hgr
      · simp [upM_get, fillc, ht]
      · simp [upM_get, fillc, ht]
      · rw [upN_get, if_pos rfl, if_pos rfl, bl_0]
        by_cases h36 : t < 36
        · simp [upM_get, fillc, h36]
        · simp [h36]
