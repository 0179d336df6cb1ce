/-! the grid: what shape lays -/
def jr (w t : Nat) : Nat := t / w * (w - 1) + t % w
theorem wcs {w : Nat} (h1 : 1 ≤ w) (h2 : w ≤ 6) : w = 1 ∨ w = 2 ∨ w = 3 ∨ w = 4 ∨ w = 5 ∨ w = 6 := by omega
theorem md_y {w t : Nat} (h1 : 1 ≤ w) (h2 : w ≤ 6) (ht : 1 ≤ t) (h : (t - 1) % w = w - 1) : t % w = 0 ∧ t / w = (t - 1) / w + 1 := by
  rcases wcs h1 h2 with rfl | rfl | rfl | rfl | rfl | rfl <;> omega
theorem md_n {w t : Nat} (h1 : 1 ≤ w) (h2 : w ≤ 6) (ht : 1 ≤ t) (h : ¬ (t - 1) % w = w - 1) : t % w = (t - 1) % w + 1 ∧ t / w = (t - 1) / w := by
  rcases wcs h1 h2 with rfl | rfl | rfl | rfl | rfl | rfl <;> omega
theorem jr_y {w t : Nat} (h1 : 1 ≤ w) (h2 : w ≤ 6) (h : t % w < w - 1) : jr w (t + 1) = jr w t + 1 := by
  unfold jr
  rcases wcs h1 h2 with rfl | rfl | rfl | rfl | rfl | rfl <;> omega
theorem jr_n {w t : Nat} (h1 : 1 ≤ w) (h2 : w ≤ 6) (h : ¬ t % w < w - 1) : jr w (t + 1) = jr w t := by
  unfold jr
  rcases wcs h1 h2 with rfl | rfl | rfl | rfl | rfl | rfl <;> omega
theorem jr_lt {w h t : Nat} (h1 : 1 ≤ w) (h2 : w ≤ 6) (ht : t < w * h) (hm : t % w < w - 1) : jr w t < h * (w - 1) := by
  unfold jr
  rcases wcs h1 h2 with rfl | rfl | rfl | rfl | rfl | rfl <;> omega
theorem jr_inj {w s t : Nat} (h1 : 1 ≤ w) (h2 : w ≤ 6) (hs : s % w < w - 1) (ht : t % w < w - 1) (h : jr w s = jr w t) : s = t := by
  unfold jr at h
  rcases wcs h1 h2 with rfl | rfl | rfl | rfl | rfl | rfl <;> omega
theorem jr_end {w h : Nat} (h1 : 1 ≤ w) (h2 : w ≤ 6) : jr w (w * h) = h * (w - 1) := by
  unfold jr
  rcases wcs h1 h2 with rfl | rfl | rfl | rfl | rfl | rfl <;> omega
theorem wh_le {w h : Nat} (h2 : w ≤ 6) (h4 : h ≤ 6) : w * h ≤ 36 := Nat.mul_le_mul h2 h4
theorem hw_le {w h : Nat} (h2 : w ≤ 6) (h4 : h ≤ 6) : h * (w - 1) ≤ 30 := Nat.le_trans (Nat.mul_le_mul h4 (Nat.sub_le_sub_right h2 1)) (by decide)
/-- columns and lines, filled for the first tiles -/
def colOk (w t : Nat) (I : MI) : Prop := ∀ b, b < t → I 17 b = nI (b % w) ∧ I 18 b = nI (b / w)
theorem col_step (n : Nat) {w h t : Nat} (h1 : 1 ≤ w) (h2 : w ≤ 6) (h4 : h ≤ 6) (ht : t < w * h) (k : Int32 → Int32 → MI → MJ → Option M2) (I : MI) (J : MJ) (hI : colOk w t I) (hT : I 16 1 = nI (w * h)) : fX2_shape_39 n k (nI w) (nI t) I J = k (nI w) (nI (t + 1)) (upM (upM I 17 t (nI (t % w))) 18 t (nI (t / w))) J := by
  have hwh := wh_le h2 h4
  have hin : inb (nI t) 36 = true := inb_nI (by omega) (by decide)
  have hcl : (nI t).toNatClampNeg = t := clampI (by omega)
  unfold fX2_shape_39
  rw [hT, if_neg (nI_ge ht (by omega))]
  by_cases h0 : t = 0
  · subst h0
    rw [if_pos (show nI 0 ≤ 0 by decide)]
    unfold fX2_shape_72 fX2_shape_73 fX2_shape_91 fX2_shape_106 fX2_shape_142
    rw [if_pos (show nI 0 = 0 from rfl), if_pos hin]
    simp only [lt]
    rw [if_pos (show nI 0 = 0 from rfl), if_pos hin, hcl, nI_1, Nat.zero_mod, Nat.zero_div]
    rfl
  · have hle : ¬ nI t ≤ 0 := nI_nle (by omega) (by omega)
    have hne : ¬ nI t = 0 := nI_ne0 (by omega) (by omega)
    have hm1 : nI t - 1 = nI (t - 1) := by
      have := nI_pred (t - 1)
      rw [show t - 1 + 1 = t by omega] at this
      exact this
    have hin1 : inb (nI (t - 1)) 36 = true := inb_nI (by omega) (by decide)
    have hcl1 : (nI (t - 1)).toNatClampNeg = t - 1 := clampI (by omega)
    have hw1 : nI w - 1 = nI (w - 1) := by
      have := nI_pred (w - 1)
      rw [show w - 1 + 1 = w by omega] at this
      exact this
    obtain ⟨hp17, hp18⟩ := hI (t - 1) (by omega)
    have hmod : (t - 1) % w < w := Nat.mod_lt _ (by omega)
    rw [if_neg hle, hm1, if_pos hin1, hcl1, hp17, hw1]
    by_cases hnl : (t - 1) % w = w - 1
    · obtain ⟨g1, g2⟩ := md_y h1 h2 (by omega) hnl
      rw [if_pos (by rw [hnl])]
      unfold fX2_shape_73 fX2_shape_91 fX2_shape_106 fX2_shape_141 fX2_shape_142
      rw [if_neg hne, if_neg (by decide), if_pos hin]
      simp only [lt]
      rw [if_neg hne, hm1, if_pos hin1, if_neg (by decide), if_pos hin, hcl, hcl1, nI_1, g1, g2, upM_ne 18 (by decide), hp18, nI_1]
      rfl
    · obtain ⟨g1, g2⟩ := md_n h1 h2 (by omega) hnl
      have : (t - 1) / w ≤ t := Nat.le_trans (Nat.div_le_self _ _) (by omega)
      rw [if_neg (fun q => hnl ((nI_eq (by omega) (by omega)).mp q))]
      unfold fX2_shape_72 fX2_shape_73 fX2_shape_106 fX2_shape_141 fX2_shape_142
      rw [if_neg hne, if_pos rfl, hm1, if_pos hin1, if_pos hin]
      simp only [lt, if_true]
      rw [if_neg hne, if_pos hin1, if_pos hin, hcl, hcl1, hp17, nI_1, nI_1, g1, g2, upM_ne 18 (by decide), hp18, Int32.add_zero]
theorem colOk_up {w t : Nat} {I : MI} (hI : colOk w t I) : colOk w (t + 1) (upM (upM I 17 t (nI (t % w))) 18 t (nI (t / w))) := by
  intro b hb
  simp only [upM_get]
  by_cases h : b = t
  · subst h
    simp
  · obtain ⟨g1, g2⟩ := hI b (by omega)
    simp [h, g1, g2]
theorem addJoint_eq (n : Nat) {a b d1 d2 j : Nat} (I : MI) (J : MJ) (hj : j < 60) (h : I 16 2 = nI j) (ha : a * 4 + d1 < 144) (hb : b * 4 + d2 < 144) : fX2_addJoint n (nI a) (nI b) (nI d1) (nI d2) I J = some (upM (upM (upM (upM (upM I 19 j (nI a)) 20 j (nI b)) 21 (a * 4 + d1) (nI j)) 21 (b * 4 + d2) (nI j)) 16 2 (nI (j + 1)), J) := by
  unfold fX2_addJoint
  have e1 : nI a * (4 : Int32) + nI d1 = nI (a * 4 + d1) := by
    rw [show (4 : Int32) = nI 4 from rfl, pk_mul, nI_add]
  have e2 : nI b * (4 : Int32) + nI d2 = nI (b * 4 + d2) := by
    rw [show (4 : Int32) = nI 4 from rfl, pk_mul, nI_add]
  simp only [lt, h, inb_nI hj (by decide), if_true, clampI (show j < 2 ^ 31 by omega), upM_ne 16 (show (16 : Nat) ≠ 19 by decide), upM_ne 16 (show (16 : Nat) ≠ 20 by decide), upM_ne 16 (show (16 : Nat) ≠ 21 by decide), e1, e2, inb_nI ha (by decide), inb_nI hb (by decide), clampI (show a * 4 + d1 < 2 ^ 31 by omega), clampI (show b * 4 + d2 < 2 ^ 31 by omega), nI_1]
theorem col_loop (n : Nat) {w h : Nat} (h1 : 1 ≤ w) (h2 : w ≤ 6) (h4 : h ≤ 6) (I0 : MI) (J : MJ) (P : M2 → Prop) (hx : ∀ I, colOk w (w * h) I → I 16 1 = nI (w * h) → (∀ a, a ≠ 17 → a ≠ 18 → I a = I0 a) → tot (lX2_shape_152 n n (nI w) 0 I J) P) : ∀ q t I, t ≤ w * h → w * h < q + t → colOk w t I → I 16 1 = nI (w * h) → (∀ a, a ≠ 17 → a ≠ 18 → I a = I0 a) → tot (lX2_shape_39 n q (nI w) (nI t) I J) P := by
  intro q
  induction q with
  | zero => intro t I a b; omega
  | succ q ih =>
    intro t I ht hq hc hT hf
    show tot (fX2_shape_39 n (lX2_shape_39 n q) (nI w) (nI t) I J) P
    by_cases he : t = w * h
    · unfold fX2_shape_39
      rw [hT, he, if_pos (Int32.le_refl _)]
      rw [he] at hc
      exact hx I hc hT hf
    · rw [col_step n h1 h2 h4 (by omega) _ I J hc hT]
      refine ih (t + 1) _ (by omega) (by omega) (colOk_up hc) ?_ (fun a g1 g2 => ?_)
      · rw [upM_ne 16 (by decide), upM_ne 16 (by decide)]; exact hT
      · rw [upM_ne a g2, upM_ne a g1]; exact hf a g1 g2
/-- joints in the lines, for the first tiles; around: by tile and side -/
def rowA (w t : Nat) (I : MI) : Prop := ∀ s, s < 36 → I 21 (s * 4 + 2) = (if s < t ∧ s % w < w - 1 then nI (jr w s) else -1) ∧ I 21 (s * 4 + 1) = (if 1 ≤ s ∧ s - 1 < t ∧ (s - 1) % w < w - 1 then nI (jr w (s - 1)) else -1) ∧ I 21 (s * 4) = -1 ∧ I 21 (s * 4 + 3) = -1
def rowOk (w t : Nat) (I : MI) : Prop := I 16 2 = nI (jr w t) ∧ (∀ s, s < t → s % w < w - 1 → I 19 (jr w s) = nI s ∧ I 20 (jr w s) = nI (s + 1)) ∧ rowA w t I
theorem if_eq {p q : Prop} [Decidable p] [Decidable q] {x y : Int32} (h : p ↔ q) : (if p then x else y) = (if q then x else y) := by
  by_cases hp : p
  · rw [if_pos hp, if_pos (h.mp hp)]
  · rw [if_neg hp, if_neg (fun hq => hp (h.mpr hq))]
theorem row_up {w h t : Nat} (h1 : 1 ≤ w) (h2 : w ≤ 6) (h4 : h ≤ 6) (ht : t < w * h) (hm : t % w < w - 1) {I : MI} (hI : rowOk w t I) : rowOk w (t + 1) (upM (upM (upM (upM (upM I 19 (jr w t) (nI t)) 20 (jr w t) (nI (t + 1))) 21 (t * 4 + 2) (nI (jr w t))) 21 ((t + 1) * 4 + 1) (nI (jr w t))) 16 2 (nI (jr w t + 1))) := by
  obtain ⟨r1, r2, r3⟩ := hI
  refine ⟨?_, fun s hs hsm => ?_, fun s hs => ?_⟩
  · rw [jr_y h1 h2 hm]; simp [upM_get]
  · simp only [upM_get]
    by_cases h : s = t
    · subst h
      simp
    · obtain ⟨g1, g2⟩ := r2 s (by omega) hsm
      have hne : ¬ jr w s = jr w t := fun q => h (jr_inj h1 h2 hsm hm q)
      simp [hne, g1, g2]
  · obtain ⟨a1, a2, a3, a4⟩ := r3 s hs
    have key : ∀ p, p ≠ t * 4 + 2 → p ≠ (t + 1) * 4 + 1 → upM (upM (upM (upM (upM I 19 (jr w t) (nI t)) 20 (jr w t) (nI (t + 1))) 21 (t * 4 + 2) (nI (jr w t))) 21 ((t + 1) * 4 + 1) (nI (jr w t))) 16 2 (nI (jr w t + 1)) 21 p = I 21 p := by
      intro p e1 e2
      rw [upM_ne 21 (by decide), upM_get, if_pos rfl, if_neg e2, upM_get, if_pos rfl, if_neg e1, upM_ne 21 (by decide), upM_ne 21 (by decide)]
    refine ⟨?_, ?_, by rw [key _ (by omega) (by omega)]; exact a3, by rw [key _ (by omega) (by omega)]; exact a4⟩
    · by_cases h : s = t
      · subst h
        rw [if_pos ⟨by omega, hm⟩, upM_ne 21 (by decide), upM_get, if_pos rfl, if_neg (by omega), upM_get, if_pos rfl, if_pos rfl]
      · rw [key _ (by omega) (by omega), a1]
        exact if_eq ⟨fun q => ⟨by omega, q.2⟩, fun q => ⟨by omega, q.2⟩⟩
    · by_cases h : s = t + 1
      · subst h
        rw [if_pos ⟨by omega, by omega, by rw [Nat.add_sub_cancel]; exact hm⟩, upM_ne 21 (by decide), upM_get, if_pos rfl, if_pos rfl, Nat.add_sub_cancel]
      · rw [key _ (by omega) (by omega), a2]
        exact if_eq ⟨fun q => ⟨q.1, by omega, q.2.2⟩, fun q => ⟨q.1, by omega, q.2.2⟩⟩
theorem row_skip {w t : Nat} (h1 : 1 ≤ w) (h2 : w ≤ 6) (hm : ¬ t % w < w - 1) {I : MI} (hI : rowOk w t I) : rowOk w (t + 1) I := by
  obtain ⟨r1, r2, r3⟩ := hI
  refine ⟨by rw [jr_n h1 h2 hm]; exact r1, fun s hs hsm => r2 s ?_ hsm, fun s hs => ?_⟩
  · by_cases h : s = t
    · subst h; exact absurd hsm hm
    · omega
  · obtain ⟨a1, a2, a3, a4⟩ := r3 s hs
    refine ⟨?_, ?_, a3, a4⟩
    · rw [a1]
      refine if_eq ⟨fun q => ⟨by omega, q.2⟩, fun q => ⟨?_, q.2⟩⟩
      by_cases h : s = t
      · subst h; exact absurd q.2 hm
      · omega
    · rw [a2]
      refine if_eq ⟨fun q => ⟨q.1, by omega, q.2.2⟩, fun q => ⟨q.1, ?_, q.2.2⟩⟩
      by_cases h : s - 1 = t
      · rw [h] at q; exact absurd q.2.2 hm
      · omega
theorem row_loop (n : Nat) {w h : Nat} (h1 : 1 ≤ w) (h2 : w ≤ 6) (h4 : h ≤ 6) (I0 : MI) (J : MJ) (P : M2 → Prop) (hc : colOk w (w * h) I0) (hx : ∀ I, rowOk w (w * h) I → (∀ a, a ≠ 19 → a ≠ 20 → a ≠ 21 → a ≠ 16 → I a = I0 a) → (∀ j, j ≠ 2 → I 16 j = I0 16 j) → tot (lX2_shape_195 n n (nI w) 0 I J) P) : ∀ q t I, t ≤ w * h → w * h < q + t → rowOk w t I → (∀ a, a ≠ 19 → a ≠ 20 → a ≠ 21 → a ≠ 16 → I a = I0 a) → (∀ j, j ≠ 2 → I 16 j = I0 16 j) → I0 16 1 = nI (w * h) → tot (lX2_shape_152 n q (nI w) (nI t) I J) P := by
  intro q
  have hwh := wh_le h2 h4
  induction q with
  | zero => intro t I a b; omega
  | succ q ih =>
    intro t I ht hq hr hf hf16 hT
    show tot (fX2_shape_152 n (lX2_shape_152 n q) (nI w) (nI t) I J) P
    have hw1 : nI w - 1 = nI (w - 1) := by
      have := nI_pred (w - 1)
      rw [show w - 1 + 1 = w by omega] at this
      exact this
    unfold fX2_shape_152 fX2_shape_186
    rw [hf16 1 (by decide), hT]
    by_cases he : t = w * h
    · rw [he, if_pos (Int32.le_refl _)]
      rw [he] at hr
      exact hx I hr hf hf16
    · rw [if_neg (nI_ge (by omega) (by omega)), if_pos (inb_nI (by omega) (by decide)), clampI (by omega), hf 17 (by decide) (by decide) (by decide) (by decide), (hc t (by omega)).1, hw1]
      have hmod : t % w < w := Nat.mod_lt _ (by omega)
      by_cases hm : t % w < w - 1
      · rw [if_neg (nI_ge hm (by omega))]
        have hj := jr_lt h1 h2 (show t < w * h by omega) hm
        have hj30 := hw_le h2 h4
        have ht1 : t + 1 < w * h := by
          rcases wcs h1 h2 with rfl | rfl | rfl | rfl | rfl | rfl <;> omega
        rw [nI_1, show (2 : Int32) = nI 2 from rfl, show (1 : Int32) = nI 1 from rfl, addJoint_eq n (d1 := 2) (d2 := 1) I J (show jr w t < 60 by omega) hr.1 (by omega) (by omega)]
        refine tot_to rfl ?_
        refine ih (t + 1) _ (by omega) (by omega) (row_up h1 h2 h4 (by omega) hm hr) (fun a g1 g2 g3 g4 => ?_) (fun j hj => ?_) hT
        · dsimp only; rw [upM_ne a g4, upM_ne a g3, upM_ne a g3, upM_ne a g2, upM_ne a g1]; exact hf a g1 g2 g3 g4
        · dsimp only; rw [upM_get, if_pos rfl, if_neg hj, upM_ne 16 (by decide), upM_ne 16 (by decide), upM_ne 16 (by decide), upM_ne 16 (by decide)]; exact hf16 j hj
      · rw [if_pos (nI_le (by omega) (by omega)), nI_1]
        exact ih (t + 1) I (by omega) (by omega) (row_skip h1 h2 hm hr) hf hf16 hT
