/-! cost -/
theorem s_lL : ∀ k, k < 64 → (((nI k).toInt64 &&& 63).toBitVec.smod 64).toNat = k := by decide +kernel
theorem bl_shr (x : Int64) {k i : Nat} (hk : k < 64) (hi : i < 64) (h : k + i < 64) : bl (shrL x (nI k)) i = bl x (k + i) := by
  unfold bl shrL
  rw [Int64.toBitVec_shiftRight]
  show (x.toBitVec.sshiftRight (((nI k).toInt64 &&& 63).toBitVec.smod 64).toNat).getLsbD i = _
  rw [s_lL k hk, BitVec.getLsbD_sshiftRight]
  simp [hi, h]
theorem bl_1 : ∀ i, i < 64 → bl 1 i = decide (i = 0) := by decide +kernel
theorem and1L (x : Int64) : x &&& 1 = if bl x 0 = true then 1 else 0 := by
  apply bl_ext
  intro t ht
  rw [bl_and, bl_1 t ht]
  cases hb : bl x 0 with
  | true =>
    rw [if_pos rfl, bl_1 t ht]
    by_cases h : t = 0
    · simp [h, hb]
    · simp [h]
  | false =>
    rw [if_neg (by decide), bl_0]
    by_cases h : t = 0
    · simp [h, hb]
    · simp [h]
theorem shr_and (x : Int64) {k : Nat} (hk : k < 64) : shrL x (nI k) &&& 1 = if bl x k = true then 1 else 0 := by
  rw [and1L, bl_shr x hk (by decide) (by omega), Nat.add_zero]
theorem shr_z (x : Int64) {k : Nat} (hk : k < 64) : lg_cmp (shrL x (nI k) &&& 1) 0 = 0 ↔ ¬ bl x k = true := by
  rw [lg_cmp_eq, shr_and x hk]
  by_cases h : bl x k = true
  · rw [if_pos h]; exact ⟨fun q => absurd q (by decide), fun q => absurd h q⟩
  · rw [if_neg h]; exact ⟨fun _ => h, fun _ => rfl⟩
def isMn (P : Nat → Prop) (f : Nat → Nat) (v : Nat) : Prop := (∃ t, P t ∧ f t = v) ∧ ∀ t, P t → v ≤ f t
def isMx (P : Nat → Prop) (f : Nat → Nat) (v : Nat) : Prop := (∃ t, P t ∧ f t = v) ∧ ∀ t, P t → f t ≤ v
def isCo (P : Nat → Prop) (w v : Nat) : Prop := ∃ L R T B, isMn P (fun t => t % w) L ∧ isMx P (fun t => t % w) R ∧ isMn P (fun t => t / w) T ∧ isMx P (fun t => t / w) B ∧ v = (R - L) + (B - T)
theorem isMn_u {P Q : Nat → Prop} {f : Nat → Nat} {v w : Nat} (h : ∀ t, P t ↔ Q t) (hv : isMn P f v) (hw : isMn Q f w) : v = w := by
  obtain ⟨⟨t, h1, h2⟩, h3⟩ := hv
  obtain ⟨⟨s, g1, g2⟩, g3⟩ := hw
  have a := h3 s ((h s).mpr g1)
  have b := g3 t ((h t).mp h1)
  omega
theorem isMx_u {P Q : Nat → Prop} {f : Nat → Nat} {v w : Nat} (h : ∀ t, P t ↔ Q t) (hv : isMx P f v) (hw : isMx Q f w) : v = w := by
  obtain ⟨⟨t, h1, h2⟩, h3⟩ := hv
  obtain ⟨⟨s, g1, g2⟩, g3⟩ := hw
  have a := h3 s ((h s).mpr g1)
  have b := g3 t ((h t).mp h1)
  omega
theorem isCo_u {P Q : Nat → Prop} {w v v' : Nat} (h : ∀ t, P t ↔ Q t) (hv : isCo P w v) (hw : isCo Q w v') : v = v' := by
  obtain ⟨L, R, T, B, a1, a2, a3, a4, a5⟩ := hv
  obtain ⟨L', R', T', B', b1, b2, b3, b4, b5⟩ := hw
  rw [a5, b5, isMn_u h a1 b1, isMx_u h a2 b2, isMn_u h a3 b3, isMx_u h a4 b4]
theorem isMn_add {P : Nat → Prop} {f : Nat → Nat} {v s : Nat} (hv : isMn P f v) : isMn (fun t => P t ∨ t = s) f (min (f s) v) := by
  obtain ⟨⟨t, h1, h2⟩, h3⟩ := hv
  refine ⟨?_, ?_⟩
  · by_cases h : f s ≤ v
    · exact ⟨s, Or.inr rfl, by rw [Nat.min_eq_left h]⟩
    · exact ⟨t, Or.inl h1, by rw [Nat.min_eq_right (by omega)]; exact h2⟩
  · rintro z (q | q)
    · have := h3 z q; omega
    · rw [q]; omega
theorem isMx_add {P : Nat → Prop} {f : Nat → Nat} {v s : Nat} (hv : isMx P f v) : isMx (fun t => P t ∨ t = s) f (max v (f s)) := by
  obtain ⟨⟨t, h1, h2⟩, h3⟩ := hv
  refine ⟨?_, ?_⟩
  · by_cases h : f s ≤ v
    · exact ⟨t, Or.inl h1, by rw [Nat.max_eq_left h]; exact h2⟩
    · exact ⟨s, Or.inr rfl, by rw [Nat.max_eq_right (by omega)]⟩
  · rintro z (q | q)
    · have := h3 z q; omega
    · rw [q]; omega
theorem isMn_cg {P Q : Nat → Prop} {f : Nat → Nat} {v : Nat} (h : ∀ t, P t ↔ Q t) (hv : isMn P f v) : isMn Q f v := by
  obtain ⟨⟨t, h1, h2⟩, h3⟩ := hv
  exact ⟨⟨t, (h t).mp h1, h2⟩, fun z hz => h3 z ((h z).mpr hz)⟩
theorem isMx_cg {P Q : Nat → Prop} {f : Nat → Nat} {v : Nat} (h : ∀ t, P t ↔ Q t) (hv : isMx P f v) : isMx Q f v := by
  obtain ⟨⟨t, h1, h2⟩, h3⟩ := hv
  exact ⟨⟨t, (h t).mp h1, h2⟩, fun z hz => h3 z ((h z).mpr hz)⟩
theorem nI_min {a b : Nat} (ha : a < 2 ^ 31) (hb : b < 2 ^ 31) : (if nI a < nI b then nI a else nI b) = nI (min a b) := by
  by_cases h : a < b
  · rw [if_pos ((nI_ltI ha hb).mpr h), Nat.min_eq_left (by omega)]
  · rw [if_neg (fun q => h ((nI_ltI ha hb).mp q)), Nat.min_eq_right (by omega)]
theorem nI_max {a b : Nat} (ha : a < 2 ^ 31) (hb : b < 2 ^ 31) : (if nI b < nI a then nI a else nI b) = nI (max b a) := by
  by_cases h : b < a
  · rw [if_pos ((nI_ltI hb ha).mpr h), Nat.max_eq_right (by omega)]
  · rw [if_neg (fun q => h ((nI_ltI hb ha).mp q)), Nat.max_eq_left (by omega)]
theorem nI_span {L R T B : Nat} (h1 : L ≤ R) (h2 : T ≤ B) : nI R - nI L + nI B - nI T = nI ((R - L) + (B - T)) := by
  rw [pk_sub h1, nI_add, pk_sub (by omega)]
  congr 1
  omega
/-- the tiles of a wire -/
def wt (c : Nat) (F : Nat → Nat → Prop) (τ : Nat → Nat) (i t : Nat) : Prop := t = τ i ∨ ∃ u, u < c ∧ F u i ∧ τ u = t
theorem spanC_ok (n : Nat) (hn : 2400 < n) {c i w N : Nat} (hc : c ≤ 32) (hi : i < 32) (hN : N ≤ 36) {F : Nat → Nat → Prop} {τ : Nat → Nat} {I : MI} {J : MJ} (hcol : colOk w N I) (hu : ∀ u, u < 32 → (bt (I 27 i) u = true ↔ u < c ∧ F u i)) (ht : ∀ u, u < c → F u i → I 24 u = nI (τ u) ∧ τ u < N) (hti : I 24 i = nI (τ i) ∧ τ i < N) : ∃ v, fX5_spanOf n (nI i) I J = some (nI v, I, J) ∧ isCo (wt c F τ i) w v := by
  have cb : ∀ t, t < N → t % w ≤ 36 ∧ t / w ≤ 36 := fun t h => ⟨by have := Nat.mod_le t w; omega, by have := Nat.div_le_self t w; omega⟩
  have fin : ∀ (P : Nat → Prop) (L R T B : Nat), (∀ t, P t ↔ wt c F τ i t) → isMn P (fun t => t % w) L → isMx P (fun t => t % w) R → isMn P (fun t => t / w) T → isMx P (fun t => t / w) B → ∃ v, fX5_spanOf_138 n (nI L) (nI R) (nI T) (nI B) I J = some (nI v, I, J) ∧ isCo (wt c F τ i) w v := by
    intro P L R T B hP a1 a2 a3 a4
    have hLR : L ≤ R := by
      obtain ⟨t, h1, h2⟩ := a1.1
      have := a2.2 t h1
      dsimp only at h2 this
      omega
    have hTB : T ≤ B := by
      obtain ⟨t, h1, h2⟩ := a3.1
      have := a4.2 t h1
      dsimp only at h2 this
      omega
    unfold fX5_spanOf_138
    rw [nI_span hLR hTB]
    exact ⟨_, rfl, L, R, T, B, isMn_cg hP a1, isMx_cg hP a2, isMn_cg hP a3, isMx_cg hP a4, rfl⟩
  have l : ∀ q u L R T B, u ≤ 32 → 32 < q + u → L ≤ 36 → R ≤ 36 → T ≤ 36 → B ≤ 36 → isMn (fun t => t = τ i ∨ ∃ z, z < u ∧ z < c ∧ F z i ∧ τ z = t) (fun t => t % w) L → isMx (fun t => t = τ i ∨ ∃ z, z < u ∧ z < c ∧ F z i ∧ τ z = t) (fun t => t % w) R → isMn (fun t => t = τ i ∨ ∃ z, z < u ∧ z < c ∧ F z i ∧ τ z = t) (fun t => t / w) T → isMx (fun t => t = τ i ∨ ∃ z, z < u ∧ z < c ∧ F z i ∧ τ z = t) (fun t => t / w) B → ∃ v, lX5_spanOf_44 n q (I 27 i) (nI L) (nI R) (nI T) (nI B) (nI u) I J = some (nI v, I, J) ∧ isCo (wt c F τ i) w v := by
    intro q
    induction q with
    | zero => intro u L R T B h1 h2; omega
    | succ q ih =>
      intro u L R T B h1 h2 l1 l2 l3 l4 a1 a2 a3 a4
      have e : lX5_spanOf_44 n (q + 1) (I 27 i) (nI L) (nI R) (nI T) (nI B) (nI u) I J = fX5_spanOf_44 n (lX5_spanOf_44 n q) (I 27 i) (nI L) (nI R) (nI T) (nI B) (nI u) I J := rfl
      rw [e]
      unfold fX5_spanOf_44 fX5_spanOf_132
      by_cases h32 : u = 32
      · rw [if_pos (by rw [h32]; decide)]
        refine fin _ L R T B (fun t => ?_) a1 a2 a3 a4
        constructor
        · rintro (p | ⟨z, -, q1⟩)
          · exact Or.inl p
          · exact Or.inr ⟨z, q1⟩
        · rintro (p | ⟨z, q1, q2⟩)
          · exact Or.inl p
          · exact Or.inr ⟨z, by omega, q1, q2⟩
      rw [if_neg (show ¬ (32 : Int32) ≤ nI u from nI_ge (b := 32) (by omega) (by decide))]
      by_cases hz : ushrI (I 27 i) (nI u) = 0
      · rw [if_pos hz]
        refine fin _ L R T B (fun t => ?_) a1 a2 a3 a4
        constructor
        · rintro (p | ⟨z, -, q1⟩)
          · exact Or.inl p
          · exact Or.inr ⟨z, q1⟩
        · rintro (p | ⟨z, q1, q2, q3⟩)
          · exact Or.inl p
          · refine Or.inr ⟨z, ?_, q1, q2, q3⟩
            by_cases hzu : z < u
            · exact hzu
            · have := ushrI_z (by omega) hz z (by omega) (by omega)
              rw [(hu z (by omega)).mpr ⟨q1, q2⟩] at this
              cases this
      rw [if_neg hz, hasBit_eq n _ (by omega), bl_wide _ (by omega), nI_1]
      simp only [Option.bind_some]
      by_cases hb : bt (I 27 i) u = true
      · obtain ⟨b1, b2'⟩ := (hu u (by omega)).mp hb
        obtain ⟨t1, t2⟩ := ht u b1 b2'
        obtain ⟨c1, c2⟩ := hcol (τ u) t2
        obtain ⟨d1, d2⟩ := cb (τ u) t2
        rw [b2_t hb, if_neg (by decide), if_pos (inb_nI (by omega) (by decide)), clampI (by omega), t1, if_pos (inb_nI (by omega) (by decide)), clampI (by omega), c1, c2]
        simp only [lt]
        rw [if_pos (inb_nI (by omega) (by decide)), if_pos (inb_nI (by omega) (by decide)), nI_min (by omega) (by omega), nI_max (by omega) (by omega), nI_min (by omega) (by omega), nI_max (by omega) (by omega)]
        have hP : ∀ t, ((t = τ i ∨ ∃ z, z < u ∧ z < c ∧ F z i ∧ τ z = t) ∨ t = τ u) ↔ (t = τ i ∨ ∃ z, z < u + 1 ∧ z < c ∧ F z i ∧ τ z = t) := by
          intro t
          constructor
          · rintro ((p | ⟨z, q1, q2⟩) | p)
            · exact Or.inl p
            · exact Or.inr ⟨z, by omega, q2⟩
            · exact Or.inr ⟨u, by omega, b1, b2', p.symm⟩
          · rintro (p | ⟨z, q1, q2, q3, q4⟩)
            · exact Or.inl (Or.inl p)
            · by_cases hzu : z = u
              · subst hzu; exact Or.inr q4.symm
              · exact Or.inl (Or.inr ⟨z, by omega, q2, q3, q4⟩)
        exact ih (u + 1) _ _ _ _ (by omega) (by omega) (by omega) (by omega) (by omega) (by omega) (isMn_cg hP (isMn_add a1)) (isMx_cg hP (isMx_add a2)) (isMn_cg hP (isMn_add a3)) (isMx_cg hP (isMx_add a4))
      · have hP : ∀ t, (t = τ i ∨ ∃ z, z < u ∧ z < c ∧ F z i ∧ τ z = t) ↔ (t = τ i ∨ ∃ z, z < u + 1 ∧ z < c ∧ F z i ∧ τ z = t) := by
          intro t
          constructor
          · rintro (p | ⟨z, q1, q2⟩)
            · exact Or.inl p
            · exact Or.inr ⟨z, by omega, q2⟩
          · rintro (p | ⟨z, q1, q2, q3, q4⟩)
            · exact Or.inl p
            · refine Or.inr ⟨z, ?_, q2, q3, q4⟩
              by_cases hzu : z = u
              · subst hzu; exact absurd ((hu z (by omega)).mpr ⟨q2, q3⟩) hb
              · omega
        rw [b2_f hb, if_pos rfl]
        exact ih (u + 1) _ _ _ _ (by omega) (by omega) l1 l2 l3 l4 (isMn_cg hP a1) (isMx_cg hP a2) (isMn_cg hP a3) (isMx_cg hP a4)
  obtain ⟨t1, t2⟩ := hti
  obtain ⟨c1, c2⟩ := hcol (τ i) t2
  obtain ⟨d1, d2⟩ := cb (τ i) t2
  unfold fX5_spanOf
  rw [if_pos (inb_nI (by omega) (by decide)), clampI (by omega)]
  simp only [lt]
  rw [if_pos (inb_nI (by omega) (by decide)), t1, if_pos (inb_nI (by omega) (by decide)), clampI (by omega), c1, c2, if_pos (inb_nI (by omega) (by decide)), if_pos (inb_nI (by omega) (by decide))]
  have mn : ∀ f : Nat → Nat, isMn (fun t => t = τ i ∨ ∃ z, z < 0 ∧ z < c ∧ F z i ∧ τ z = t) f (f (τ i)) := fun f => ⟨⟨τ i, Or.inl rfl, rfl⟩, fun t h => by
    rcases h with h | ⟨z, h, -⟩
    · rw [h]; exact Nat.le_refl _
    · exact absurd h (Nat.not_lt_zero _)⟩
  have mx : ∀ f : Nat → Nat, isMx (fun t => t = τ i ∨ ∃ z, z < 0 ∧ z < c ∧ F z i ∧ τ z = t) f (f (τ i)) := fun f => ⟨⟨τ i, Or.inl rfl, rfl⟩, fun t h => by
    rcases h with h | ⟨z, h, -⟩
    · rw [h]; exact Nat.le_refl _
    · exact absurd h (Nat.not_lt_zero _)⟩
  exact l n 0 _ _ _ _ (Nat.zero_le _) (by omega) d1 d1 d2 d2 (mn _) (mx _) (mn _) (mx _)
