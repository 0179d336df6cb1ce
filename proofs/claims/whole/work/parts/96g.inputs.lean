/-! clock: the class takes its inputs -/
theorem low64 : ∀ y, y < 64 → nI y &&& 1 = nI (y % 2) ∧ ushrI (nI y) 1 = nI (y / 2) := by decide +kernel
theorem tb_div (x k : Nat) : x.testBit k = decide (x / 2 ^ k % 2 = 1) := by
  rw [Nat.testBit_eq_decide_div_mod_eq]
theorem takeIn_ok (n : Nat) (hn : 2400 < n) {c k0 X : Nat} (hc : c ≤ 32) (hk : alb 44 k0 = 32) (h1 : k0 ≠ 1) (h2 : k0 ≠ 2) (hX : X < 64) (I : MI) (J : MJ) (h5 : I 1 5 = nI c) (hs : ∀ i, i < c → I 2 i = 0 ∨ I 2 i = 1 ∨ I 2 i = 2) : ∃ I', fX6_takeInputs n k0 (nI X) I J = some (I', J) ∧ (∀ a, a ≠ k0 → I' a = I a) ∧ (∀ i, i < c → I 2 i = 0 → I' k0 i = bi (X.testBit (ct_cnt (fun z => decide (I 2 z = 0)) i))) ∧ (∀ i, i < c → I 2 i = 2 → I' k0 i = 0) ∧ ∀ i, (i < c → I 2 i = 1) → I' k0 i = I k0 i := by
  have l : ∀ q k I1, k ≤ c → c < q + k → (∀ a, a ≠ k0 → I1 a = I a) → (∀ i, i < k → I 2 i = 0 → I1 k0 i = bi (X.testBit (ct_cnt (fun z => decide (I 2 z = 0)) i))) → (∀ i, i < k → I 2 i = 2 → I1 k0 i = 0) → (∀ i, (i < k → I 2 i = 1) → I1 k0 i = I k0 i) → ∃ I', lX6_takeInputs_5 n q k0 (nI (X / 2 ^ ct_cnt (fun z => decide (I 2 z = 0)) k)) (nI k) I1 J = some (I', J) ∧ (∀ a, a ≠ k0 → I' a = I a) ∧ (∀ i, i < c → I 2 i = 0 → I' k0 i = bi (X.testBit (ct_cnt (fun z => decide (I 2 z = 0)) i))) ∧ (∀ i, i < c → I 2 i = 2 → I' k0 i = 0) ∧ ∀ i, (i < c → I 2 i = 1) → I' k0 i = I k0 i := by
    intro q
    induction q with
    | zero => intro k I1 h3 h4; omega
    | succ q ih =>
      intro k I1 h3 h4 f1 f2 f3 f4
      have e : ∀ a b, lX6_takeInputs_5 n (q + 1) k0 a b I1 J = fX6_takeInputs_5 n (lX6_takeInputs_5 n q) k0 a b I1 J := fun _ _ => rfl
      rw [e]
      unfold fX6_takeInputs_5 fX6_takeInputs_54
      rw [f1 1 (Ne.symm h1), h5]
      by_cases hkc : k = c
      · subst hkc
        rw [if_pos (Int32.le_refl _)]
        exact ⟨I1, rfl, f1, f2, f3, f4⟩
      have hk' : k < c := by omega
      have hY : X / 2 ^ ct_cnt (fun z => decide (I 2 z = 0)) k < 64 := Nat.lt_of_le_of_lt (Nat.div_le_self _ _) hX
      obtain ⟨y1, y2⟩ := low64 _ hY
      have e2 : ct_cnt (fun z => decide (I 2 z = 0)) (k + 1) = if decide (I 2 k = 0) = true then ct_cnt (fun z => decide (I 2 z = 0)) k + 1 else ct_cnt (fun z => decide (I 2 z = 0)) k := rfl
      rw [if_neg (nI_ge (by omega) (by omega)), if_pos (inb_nI (by omega) (by decide)), clampI (by omega), f1 2 (Ne.symm h2), nI_1]
      by_cases hs0 : I 2 k = 0
      · rw [if_pos (decide_eq_true hs0)] at e2
        rw [if_pos hs0, hk, if_pos (inb_nI (by omega) (by decide)), y1, y2]
        simp only [lt]
        have ed : X / 2 ^ ct_cnt (fun z => decide (I 2 z = 0)) k / 2 = X / 2 ^ ct_cnt (fun z => decide (I 2 z = 0)) (k + 1) := by
          rw [e2, Nat.pow_succ, Nat.div_div_eq_div_mul]
        rw [ed]
        refine ih (k + 1) _ (by omega) (by omega) (fun a ha => by rw [upM_ne a ha]; exact f1 a ha) (fun i hi hi0 => ?_) (fun i hi hi2 => ?_) (fun i hi => ?_)
        · rw [upM_get, if_pos rfl]
          by_cases hik : i = k
          · rw [if_pos hik, hik, tb_div]
            rcases Nat.mod_two_eq_zero_or_one (X / 2 ^ ct_cnt (fun z => decide (I 2 z = 0)) k) with q | q
            · rw [q]; rfl
            · rw [q]; rfl
          · rw [if_neg hik]; exact f2 i (by omega) hi0
        · rw [upM_get, if_pos rfl, if_neg (fun z => by rw [z, hs0] at hi2; exact absurd hi2 (by decide))]
          refine f3 i ?_ hi2
          by_cases hik : i = k
          · rw [hik, hs0] at hi2; exact absurd hi2 (by decide)
          · omega
        · rw [upM_get, if_pos rfl, if_neg (fun z => by rw [z] at hi; exact absurd (hs0.symm.trans (hi (by omega))) (by decide))]
          exact f4 i (fun z => hi (by omega))
      · rw [if_neg (fun z => hs0 (of_decide_eq_true z))] at e2
        rw [if_neg hs0, if_pos (inb_nI (by omega) (by decide))]
        by_cases hs2 : I 2 k = 2
        · rw [if_pos hs2, hk, if_pos (inb_nI (by omega) (by decide)), ← e2]
          simp only [lt]
          refine ih (k + 1) _ (by omega) (by omega) (fun a ha => by rw [upM_ne a ha]; exact f1 a ha) (fun i hi hi0 => ?_) (fun i hi hi2 => ?_) (fun i hi => ?_)
          · rw [upM_get, if_pos rfl, if_neg (fun z => by rw [z] at hi0; exact hs0 hi0)]
            refine f2 i ?_ hi0
            by_cases hik : i = k
            · rw [hik] at hi0; exact absurd hi0 hs0
            · omega
          · rw [upM_get, if_pos rfl]
            by_cases hik : i = k
            · rw [if_pos hik]
            · rw [if_neg hik]; exact f3 i (by omega) hi2
          · rw [upM_get, if_pos rfl, if_neg (fun z => by rw [z] at hi; exact absurd (hs2.symm.trans (hi (by omega))) (by decide))]
            exact f4 i (fun z => hi (by omega))
        · rw [if_neg hs2, ← e2]
          have hs1 : I 2 k = 1 := by
            rcases hs k hk' with z | z | z
            · exact absurd z hs0
            · exact z
            · exact absurd z hs2
          refine ih (k + 1) I1 (by omega) (by omega) f1 (fun i hi hi0 => ?_) (fun i hi hi2 => ?_) (fun i hi => ?_)
          · by_cases hik : i = k
            · rw [hik] at hi0; exact absurd hi0 hs0
            · exact f2 i (by omega) hi0
          · by_cases hik : i = k
            · rw [hik] at hi2; exact absurd hi2 hs2
            · exact f3 i (by omega) hi2
          · exact f4 i (fun z => hi (by omega))
  have := l n 0 I (Nat.zero_le _) (by omega) (fun _ _ => rfl) (fun i hi => absurd hi (Nat.not_lt_zero _)) (fun i hi => absurd hi (Nat.not_lt_zero _)) (fun _ _ => rfl)
  rw [show ct_cnt (fun z => decide (I 2 z = 0)) 0 = 0 from rfl, Nat.pow_zero, Nat.div_one] at this
  exact this
