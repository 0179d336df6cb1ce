/-! wires: where they end -/
theorem ushrI_z {x : Int32} {k : Nat} (hk : k < 32) (h : ushrI x (nI k) = 0) : ∀ j, k ≤ j → j < 32 → bt x j = false := by
  intro j h1 h2
  have := b_ushr k hk x (j - k)
  unfold ushrI at h
  rw [h, b_0, Nat.add_sub_cancel' h1] at this
  exact this.symm
theorem bl_put {x : Int64} {t s : Nat} (ht : t < 64) (hs : s < 64) : bl (x ||| shlL 1 (nI t)) s = true ↔ bl x s = true ∨ s = t := by
  rw [bl_or, bl_sh ht hs]
  simp
theorem bl_off {x : Int64} {t s : Nat} (ht : t < 64) (hs : s < 64) : bl (x &&& (shlL 1 (nI t) ^^^ -1)) s = true ↔ bl x s = true ∧ s ≠ t := by
  rw [bl_and, bl_xor, bl_sh ht hs, bl_m1 hs]
  by_cases h : s = t
  · simp [h]
  · simp [h]
theorem bl_ext {x y : Int64} (h : ∀ t, t < 64 → (bl x t = true ↔ bl y t = true)) : x = y := by
  apply wb_inj
  apply BitVec.eq_of_getLsbD_eq
  intro i hi
  have := h i hi
  show bl x i = bl y i
  cases q1 : bl x i <;> cases q2 : bl y i <;> simp_all
/-- the class: tiles of a thing's users, but its own -/
theorem endsC_ok (n : Nat) (hn : 2400 < n) {c i : Nat} (hc : c ≤ 32) (hi : i < 32) {F : Nat → Nat → Prop} {τ : Nat → Nat} {I : MI} {J : MJ} (hu : ∀ u, u < 32 → (bt (I 27 i) u = true ↔ u < c ∧ F u i)) (ht : ∀ u, u < c → F u i → I 24 u = nI (τ u) ∧ τ u < 36) (hti : I 24 i = nI (τ i) ∧ τ i < 36) : ∃ v, fX5_endsOf n (nI i) I J = some (v, I, J) ∧ ∀ t, t < 64 → (bl v t = true ↔ (∃ u, u < c ∧ F u i ∧ τ u = t) ∧ t ≠ τ i) := by
  have fin : ∀ x : Int64, (∀ t, t < 64 → (bl x t = true ↔ ∃ u, u < c ∧ F u i ∧ τ u = t)) → ∃ v, fX5_endsOf_57 n (nI i) x I J = some (v, I, J) ∧ ∀ t, t < 64 → (bl v t = true ↔ (∃ u, u < c ∧ F u i ∧ τ u = t) ∧ t ≠ τ i) := by
    intro x hx
    unfold fX5_endsOf_57
    rw [if_pos (inb_nI (by omega) (by decide)), clampI (by omega), hti.1]
    refine ⟨_, rfl, fun t h => ?_⟩
    rw [bl_off (by omega) h, hx t h]
  have l : ∀ q u x, u ≤ 32 → 32 < q + u → (∀ t, t < 64 → (bl x t = true ↔ ∃ z, z < u ∧ z < c ∧ F z i ∧ τ z = t)) → ∃ v, lX5_endsOf_13 n q (nI i) x (I 27 i) (nI u) I J = some (v, I, J) ∧ ∀ t, t < 64 → (bl v t = true ↔ (∃ u, u < c ∧ F u i ∧ τ u = t) ∧ t ≠ τ i) := by
    intro q
    induction q with
    | zero => intro u x h1 h2; omega
    | succ q ih =>
      intro u x h1 h2 hx
      have e : lX5_endsOf_13 n (q + 1) (nI i) x (I 27 i) (nI u) I J = fX5_endsOf_13 n (lX5_endsOf_13 n q) (nI i) x (I 27 i) (nI u) I J := rfl
      rw [e]
      unfold fX5_endsOf_13 fX5_endsOf_51
      by_cases h32 : u = 32
      · rw [if_pos (by rw [h32]; decide)]
        refine fin x (fun t h => (hx t h).trans ⟨?_, ?_⟩)
        · rintro ⟨z, -, q1⟩; exact ⟨z, q1⟩
        · rintro ⟨z, q1, q2⟩; exact ⟨z, by omega, q1, q2⟩
      rw [if_neg (show ¬ (32 : Int32) ≤ nI u from nI_ge (b := 32) (by omega) (by decide))]
      by_cases hz : ushrI (I 27 i) (nI u) = 0
      · rw [if_pos hz]
        refine fin x (fun t h => (hx t h).trans ⟨?_, ?_⟩)
        · rintro ⟨z, -, q1⟩; exact ⟨z, q1⟩
        · rintro ⟨z, q1, q2, q3⟩
          refine ⟨z, ?_, q1, q2, q3⟩
          by_cases hzu : z < u
          · exact hzu
          · have := ushrI_z (by omega) hz z (by omega) (by omega)
            rw [(hu z (by omega)).mpr ⟨q1, q2⟩] at this
            cases this
      rw [if_neg hz, hasBit_eq n _ (by omega), bl_wide _ (by omega), nI_1]
      simp only [Option.bind_some]
      by_cases hb : bt (I 27 i) u = true
      · obtain ⟨b1, b2'⟩ := (hu u (by omega)).mp hb
        obtain ⟨t1, t2⟩ := ht u b1 b2'
        rw [b2_t hb, if_neg (by decide), if_pos (inb_nI (by omega) (by decide)), clampI (by omega), t1]
        simp only [lt]
        refine ih (u + 1) _ (by omega) (by omega) (fun t h => ?_)
        rw [bl_put (by omega) h, hx t h]
        constructor
        · rintro (⟨z, q1, q2⟩ | q)
          · exact ⟨z, by omega, q2⟩
          · exact ⟨u, by omega, b1, b2', q.symm⟩
        · rintro ⟨z, q1, q2, q3, q4⟩
          by_cases hzu : z = u
          · subst hzu; exact Or.inr q4.symm
          · exact Or.inl ⟨z, by omega, q2, q3, q4⟩
      · rw [b2_f hb, if_pos rfl]
        refine ih (u + 1) x (by omega) (by omega) (fun t h => (hx t h).trans ⟨?_, ?_⟩)
        · rintro ⟨z, q1, q2⟩; exact ⟨z, by omega, q2⟩
        · rintro ⟨z, q1, q2, q3, q4⟩
          refine ⟨z, ?_, q2, q3, q4⟩
          by_cases hzu : z = u
          · subst hzu; exact absurd ((hu z (by omega)).mpr ⟨q2, q3⟩) hb
          · omega
  unfold fX5_endsOf
  rw [if_pos (inb_nI (by omega) (by decide)), clampI (by omega)]
  exact l n 0 0 (Nat.zero_le _) (by omega) (fun t h => by
    rw [bl_0]
    exact ⟨fun q => absurd q (by decide), fun ⟨z, q, _⟩ => absurd q (Nat.not_lt_zero _)⟩)
/-- the reference: the letters of one cell -/
theorem fe_in (n : Nat) {k5 : Int32 → Int64 → Int32 → MI → MJ → Option (Int64 × M2)} {u i k tu ti : Nat} {ℓ : Nat → Int32} {I : MI} {J : MJ} {A : Nat → Prop} (hu : u < 32) (hi : i < 32) (hk : k ≤ 4) (hL : fX10_lettersOf n (nI u) I J = some (nI k, I, J)) (hT : fX10_isThing n (nI u) I J = some (1, I, J)) (hl : ∀ j, j < k → fX10_letter n (nI u) (nI j) I J = some (ℓ j, I, J)) (h1 : I 61 u = nI tu) (h1' : tu < 36) (h2 : I 61 i = nI ti) (h2' : ti < 36) : ∀ q j x, j ≤ k → k < q + j → (∀ t, t < 64 → (bl x t = true ↔ A t ∨ ((∃ z, z < j ∧ ℓ z = nI i) ∧ t = tu ∧ t ≠ ti))) → ∃ x', lX10_endsOf_17 n k5 q (nI i) x (nI u) (nI j) I J = k5 (nI i) x' (nI (u + 1)) I J ∧ ∀ t, t < 64 → (bl x' t = true ↔ A t ∨ ((∃ z, z < k ∧ ℓ z = nI i) ∧ t = tu ∧ t ≠ ti)) := by
  intro q
  induction q with
  | zero => intro j x h3 h4; omega
  | succ q ih =>
    intro j x h3 h4 hx
    have e : lX10_endsOf_17 n k5 (q + 1) (nI i) x (nI u) (nI j) I J = fX10_endsOf_17 n k5 (lX10_endsOf_17 n k5 q) (nI i) x (nI u) (nI j) I J := rfl
    rw [e]
    unfold fX10_endsOf_17 fX10_endsOf_83 fX10_endsOf_77
    rw [hL]
    simp only [Option.bind_some]
    rw [nI_1, nI_1]
    by_cases hj : j = k
    · subst hj
      rw [if_pos (Int32.le_refl _)]
      exact ⟨x, rfl, hx⟩
    rw [if_neg (nI_ge (by omega) (by omega)), hT]
    simp only [Option.bind_some]
    rw [if_neg (by decide), hl j (by omega)]
    simp only [Option.bind_some]
    have mono : (¬ ℓ j = nI i ∨ tu = ti) → ∀ t, t < 64 → (bl x t = true ↔ A t ∨ ((∃ z, z < j + 1 ∧ ℓ z = nI i) ∧ t = tu ∧ t ≠ ti)) := by
      intro hh t h
      refine (hx t h).trans ⟨?_, ?_⟩
      · rintro (p | ⟨⟨z, q1, q2⟩, q3⟩)
        · exact Or.inl p
        · exact Or.inr ⟨⟨z, by omega, q2⟩, q3⟩
      · rintro (p | ⟨⟨z, q1, q2⟩, q3, q4⟩)
        · exact Or.inl p
        · by_cases hzj : z = j
          · subst hzj
            rcases hh with hh | hh
            · exact absurd q2 hh
            · exact absurd (q3.trans hh) q4
          · exact Or.inr ⟨⟨z, by omega, q2⟩, q3, q4⟩
    by_cases hq : ℓ j = nI i
    · rw [if_pos hq, if_pos (inb_nI (by omega) (by decide)), if_pos (inb_nI (by omega) (by decide)), clampI (by omega), clampI (by omega), h1, h2]
      by_cases htt : tu = ti
      · rw [if_pos (by rw [htt])]
        exact ih (j + 1) x (by omega) (by omega) (mono (Or.inr htt))
      · rw [if_neg (fun z => htt ((nI_eq (by omega) (by omega)).mp z)), if_pos (inb_nI (by omega) (by decide))]
        simp only [lt]
        refine ih (j + 1) _ (by omega) (by omega) (fun t h => ?_)
        rw [bl_put (by omega) h, hx t h]
        constructor
        · rintro ((p | ⟨⟨z, q1, q2⟩, q3⟩) | p)
          · exact Or.inl p
          · exact Or.inr ⟨⟨z, by omega, q2⟩, q3⟩
          · exact Or.inr ⟨⟨j, by omega, hq⟩, p, by rw [p]; exact htt⟩
        · rintro (p | ⟨⟨z, q1, q2⟩, q3, q4⟩)
          · exact Or.inl (Or.inl p)
          · exact Or.inr q3
    · rw [if_neg hq]
      exact ih (j + 1) x (by omega) (by omega) (mono (Or.inl hq))
/-- what the reference asks of a cell for wires -/
def uOk (I : MI) (u : Nat) : Prop := I 45 u = 0 ∨ (I 45 u = 1 ∧ ∃ s, s < 32 ∧ I 46 u = nI s) ∨ (I 45 u = 2 ∧ (I 55 u = 0 ∨ (¬ I 55 u = 0 ∧ ∃ k, k ≤ 4 ∧ I 57 u = nI k)))
theorem fe_cell (n : Nat) (hn : 2400 < n) {k5 : Int32 → Int64 → Int32 → MI → MJ → Option (Int64 × M2)} {u i : Nat} {τ : Nat → Nat} {I : MI} {J : MJ} {A : Nat → Prop} (hu : u < 32) (hi : i < 32) (ho : uOk I u) (h1 : thg I u → I 61 u = nI (τ u) ∧ τ u < 36) (h2 : I 61 i = nI (τ i) ∧ τ i < 36) {x : Int64} (hx : ∀ t, t < 64 → (bl x t = true ↔ A t)) : ∃ x', lX10_endsOf_17 n k5 n (nI i) x (nI u) 0 I J = k5 (nI i) x' (nI (u + 1)) I J ∧ ∀ t, t < 64 → (bl x' t = true ↔ A t ∨ (feeds I u i ∧ t = τ u ∧ t ≠ τ i)) := by
  obtain ⟨n', rfl⟩ : ∃ k, n = k + 1 := ⟨n - 1, by omega⟩
  have skip : ¬ feeds I u i → (∃ L : Int32, fX10_lettersOf (n' + 1) (nI u) I J = some (L, I, J) ∧ (L ≤ 0 ∨ fX10_isThing (n' + 1) (nI u) I J = some (0, I, J))) → ∃ x', lX10_endsOf_17 (n' + 1) k5 (n' + 1) (nI i) x (nI u) 0 I J = k5 (nI i) x' (nI (u + 1)) I J ∧ ∀ t, t < 64 → (bl x' t = true ↔ A t ∨ (feeds I u i ∧ t = τ u ∧ t ≠ τ i)) := by
    intro hnf ⟨L, q1, q2⟩
    refine ⟨x, ?_, fun t h => (hx t h).trans ⟨fun p => Or.inl p, fun p => p.elim id (fun z => absurd z.1 hnf)⟩⟩
    have e : lX10_endsOf_17 (n' + 1) k5 (n' + 1) (nI i) x (nI u) 0 I J = fX10_endsOf_17 (n' + 1) k5 (lX10_endsOf_17 (n' + 1) k5 n') (nI i) x (nI u) 0 I J := rfl
    rw [e]
    unfold fX10_endsOf_17 fX10_endsOf_83
    rw [q1]
    simp only [Option.bind_some]
    rw [nI_1]
    by_cases hk : L ≤ 0
    · rw [if_pos hk]
    · rw [if_neg hk, q2.resolve_left hk]
      simp only [Option.bind_some, if_true]
  have e1 : ∀ (k : Nat) (ℓ : Nat → Int32), k ≤ 4 → thg I u → fX10_lettersOf (n' + 1) (nI u) I J = some (nI k, I, J) → (∀ j, j < k → fX10_letter (n' + 1) (nI u) (nI j) I J = some (ℓ j, I, J)) → ((∃ z, z < k ∧ ℓ z = nI i) ↔ feeds I u i) → ∃ x', lX10_endsOf_17 (n' + 1) k5 (n' + 1) (nI i) x (nI u) 0 I J = k5 (nI i) x' (nI (u + 1)) I J ∧ ∀ t, t < 64 → (bl x' t = true ↔ A t ∨ (feeds I u i ∧ t = τ u ∧ t ≠ τ i)) := by
    intro k ℓ hk ht hL hl hf
    obtain ⟨h61, h36⟩ := h1 ht
    have hT : fX10_isThing (n' + 1) (nI u) I J = some (1, I, J) := by rw [isThing_eq (n' + 1) hu, b2_t ht]
    obtain ⟨x', j1, j2⟩ := fe_in (n' + 1) (k5 := k5) (A := A) hu hi hk hL hT hl h61 h36 h2.1 h2.2 (n' + 1) 0 x (Nat.zero_le _) (by omega) (fun t h => (hx t h).trans ⟨fun p => Or.inl p, fun p => p.elim id (fun z => by obtain ⟨⟨y, hy, _⟩, _⟩ := z; exact absurd hy (Nat.not_lt_zero _))⟩)
    exact ⟨x', j1, fun t h => by rw [j2 t h, hf]⟩
  rcases ho with h0 | ⟨hk, s, hs, h46⟩ | ⟨hg, h55 | ⟨h55, k, hk4, h57⟩⟩
  · refine skip ?_ ⟨0, ?_, Or.inl (by decide)⟩
    · rintro (⟨q, -⟩ | ⟨q, -⟩)
      · exact absurd (h0.symm.trans q) (by decide)
      · exact absurd (h0.symm.trans q) (by decide)
    · unfold fX10_lettersOf
      rw [if_pos (inb_nI (by omega) (by decide)), clampI (by omega), if_neg (by rw [h0]; decide), if_pos (inb_nI (by omega) (by decide)), if_neg (by rw [h0]; decide)]
  · refine e1 1 (fun _ => nI s) (by decide) (Or.inl (by rw [hk]; decide)) ?_ (fun j hj => ?_) ?_
    · unfold fX10_lettersOf
      rw [if_pos (inb_nI (by omega) (by decide)), clampI (by omega), if_pos hk]
      rfl
    · unfold fX10_letter
      rw [if_pos (inb_nI (by omega) (by decide)), clampI (by omega), if_pos hk, if_pos (inb_nI (by omega) (by decide)), h46]
    · constructor
      · rintro ⟨z, -, q⟩
        exact Or.inl ⟨hk, by rw [h46]; exact q⟩
      · rintro (⟨-, q⟩ | ⟨q, -⟩)
        · exact ⟨0, by decide, by rw [← h46]; exact q⟩
        · exact absurd (hk.symm.trans q) (by decide)
  · refine skip ?_ ?_
    · rintro (⟨q, -⟩ | ⟨-, q, -⟩)
      · exact absurd (hg.symm.trans q) (by decide)
      · exact q h55
    · have hL : fX10_lettersOf (n' + 1) (nI u) I J = some (I 57 u, I, J) := by
        unfold fX10_lettersOf
        rw [if_pos (inb_nI (by omega) (by decide)), clampI (by omega), if_neg (by rw [hg]; decide), if_pos (inb_nI (by omega) (by decide)), if_pos hg, if_pos (inb_nI (by omega) (by decide))]
      have hT : fX10_isThing (n' + 1) (nI u) I J = some (0, I, J) := by
        rw [isThing_eq (n' + 1) hu, b2_f (fun q => q.elim (fun z => z hg) (fun z => z h55))]
      exact ⟨_, hL, Or.inr hT⟩
  · refine e1 k (fun j => I 56 (4 * u + j)) hk4 (Or.inr h55) ?_ (fun j hj => ?_) ?_
    · unfold fX10_lettersOf
      rw [if_pos (inb_nI (by omega) (by decide)), clampI (by omega), if_neg (by rw [hg]; decide), if_pos (inb_nI (by omega) (by decide)), if_pos hg, if_pos (inb_nI (by omega) (by decide)), h57]
    · have e4 : (4 : Int32) * nI u + nI j = nI (4 * u + j) := by rw [show (4 : Int32) = nI 4 from rfl, pk_mul, nI_add]
      unfold fX10_letter
      rw [if_pos (inb_nI (by omega) (by decide)), clampI (by omega), if_neg (by rw [hg]; decide), e4, if_pos (inb_nI (by omega) (by decide)), clampI (by omega)]
    · constructor
      · rintro ⟨z, q1, q2⟩
        exact Or.inr ⟨hg, h55, z, by omega, by rw [h57]; exact nI_lt q1 (by omega), q2⟩
      · rintro (⟨q, -⟩ | ⟨-, -, z, q1, q2, q3⟩)
        · exact absurd (hg.symm.trans q) (by decide)
        · rw [h57] at q2
          exact ⟨z, (nI_ltI (by omega) (by omega)).mp q2, q3⟩
theorem endsR_ok (n : Nat) (hn : 2400 < n) {c i : Nat} (hc : c ≤ 32) (hi : i < 32) {τ : Nat → Nat} {I : MI} {J : MJ} (h6 : I 44 6 = nI c) (ho : ∀ u, u < c → uOk I u) (ht : ∀ u, u < c → thg I u → I 61 u = nI (τ u) ∧ τ u < 36) (hti : I 61 i = nI (τ i) ∧ τ i < 36) : ∃ v, fX10_endsOf n (nI i) I J = some (v, I, J) ∧ ∀ t, t < 64 → (bl v t = true ↔ (∃ u, u < c ∧ feeds I u i ∧ τ u = t) ∧ t ≠ τ i) := by
  have l : ∀ q u x, u ≤ c → c < q + u → (∀ t, t < 64 → (bl x t = true ↔ ∃ z, z < u ∧ feeds I z i ∧ t = τ z ∧ t ≠ τ i)) → ∃ v, lX10_endsOf_5 n q (nI i) x (nI u) I J = some (v, I, J) ∧ ∀ t, t < 64 → (bl v t = true ↔ (∃ u, u < c ∧ feeds I u i ∧ τ u = t) ∧ t ≠ τ i) := by
    intro q
    induction q with
    | zero => intro u x h1 h2; omega
    | succ q ih =>
      intro u x h1 h2 hx
      have e : lX10_endsOf_5 n (q + 1) (nI i) x (nI u) I J = fX10_endsOf_5 n (lX10_endsOf_5 n q) (nI i) x (nI u) I J := rfl
      rw [e]
      unfold fX10_endsOf_5
      rw [h6]
      by_cases hu : u = c
      · subst hu
        rw [if_pos (Int32.le_refl _)]
        refine ⟨x, rfl, fun t h => (hx t h).trans ⟨?_, ?_⟩⟩
        · rintro ⟨z, q1, q2, q3, q4⟩; exact ⟨⟨z, q1, q2, q3.symm⟩, q4⟩
        · rintro ⟨⟨z, q1, q2, q3⟩, q4⟩; exact ⟨z, q1, q2, q3.symm, q4⟩
      · rw [if_neg (nI_ge (by omega) (by omega))]
        obtain ⟨x', j1, j2⟩ := fe_cell n hn (k5 := lX10_endsOf_5 n q) (u := u) (i := i) (τ := τ) (I := I) (J := J) (by omega) hi (ho u (by omega)) (ht u (by omega)) hti hx
        rw [j1]
        refine ih (u + 1) x' (by omega) (by omega) (fun t h => (j2 t h).trans ⟨?_, ?_⟩)
        · rintro (⟨z, q1, q2⟩ | ⟨q1, q2, q3⟩)
          · exact ⟨z, by omega, q2⟩
          · exact ⟨u, by omega, q1, q2, q3⟩
        · rintro ⟨z, q1, q2, q3, q4⟩
          by_cases hzu : z = u
          · subst hzu; exact Or.inr ⟨q2, q3, q4⟩
          · exact Or.inl ⟨z, by omega, q2, q3, q4⟩
  exact l n 0 0 (Nat.zero_le _) (by omega) (fun t h => by
    rw [bl_0]
    exact ⟨fun q => absurd q (by decide), fun ⟨z, q, _⟩ => absurd q (Nat.not_lt_zero _)⟩)
