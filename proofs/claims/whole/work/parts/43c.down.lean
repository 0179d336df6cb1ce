/-! the joints between lines; shape as a whole -/
def jn (w h : Nat) : Nat := h * (w - 1) + (w * h - w)
def dnOk (w h t : Nat) (I : MI) : Prop := I 16 2 = nI (h * (w - 1) + t) ∧ (∀ s, s < w * h → s % w < w - 1 → I 19 (jr w s) = nI s ∧ I 20 (jr w s) = nI (s + 1)) ∧ (∀ s, s < t → I 19 (h * (w - 1) + s) = nI s ∧ I 20 (h * (w - 1) + s) = nI (s + w)) ∧
  ∀ s, s < 36 → I 21 (s * 4 + 2) = (if s < w * h ∧ s % w < w - 1 then nI (jr w s) else -1) ∧ I 21 (s * 4 + 1) = (if 1 ≤ s ∧ s - 1 < w * h ∧ (s - 1) % w < w - 1 then nI (jr w (s - 1)) else -1) ∧ I 21 (s * 4) = (if w ≤ s ∧ s - w < t then nI (h * (w - 1) + (s - w)) else -1) ∧ I 21 (s * 4 + 3) = (if s < t then nI (h * (w - 1) + s) else -1)
theorem dn_0 {w h : Nat} (h1 : 1 ≤ w) (h2 : w ≤ 6) {I : MI} (hI : rowOk w (w * h) I) : dnOk w h 0 I := by
  obtain ⟨r1, r2, r3⟩ := hI
  refine ⟨by rw [r1, jr_end h1 h2]; rfl, r2, fun s hs => by omega, fun s hs => ?_⟩
  obtain ⟨a1, a2, a3, a4⟩ := r3 s hs
  refine ⟨a1, a2, ?_, ?_⟩
  · rw [a3, if_neg (by omega)]
  · rw [a4, if_neg (by omega)]
theorem dn_up {w h t : Nat} (h1 : 1 ≤ w) (h2 : w ≤ 6) (h4 : h ≤ 6) (ht : t < w * h - w) {I : MI} (hI : dnOk w h t I) : dnOk w h (t + 1) (upM (upM (upM (upM (upM I 19 (h * (w - 1) + t) (nI t)) 20 (h * (w - 1) + t) (nI (t + w))) 21 (t * 4 + 3) (nI (h * (w - 1) + t))) 21 ((t + w) * 4 + 0) (nI (h * (w - 1) + t))) 16 2 (nI (h * (w - 1) + t + 1))) := by
  obtain ⟨r1, r2, r4, r3⟩ := hI
  refine ⟨?_, fun s hs hsm => ?_, fun s hs => ?_, fun s hs => ?_⟩
  · simp [upM_get, Nat.add_assoc]
  · obtain ⟨g1, g2⟩ := r2 s hs hsm
    have hlt := jr_lt h1 h2 hs hsm
    have hne : ¬ jr w s = h * (w - 1) + t := by omega
    simp [upM_get, hne, g1, g2]
  · by_cases h : s = t
    · subst h
      simp [upM_get]
    · obtain ⟨g1, g2⟩ := r4 s (by omega)
      simp [upM_get, h, g1, g2]
  · obtain ⟨a1, a2, a3, a4⟩ := r3 s hs
    have key : ∀ p, p ≠ t * 4 + 3 → p ≠ (t + w) * 4 + 0 → upM (upM (upM (upM (upM I 19 (h * (w - 1) + t) (nI t)) 20 (h * (w - 1) + t) (nI (t + w))) 21 (t * 4 + 3) (nI (h * (w - 1) + t))) 21 ((t + w) * 4 + 0) (nI (h * (w - 1) + t))) 16 2 (nI (h * (w - 1) + t + 1)) 21 p = I 21 p := by
      intro p e1 e2
      rw [upM_ne 21 (by decide), upM_get, if_pos rfl, if_neg e2, upM_get, if_pos rfl, if_neg e1, upM_ne 21 (by decide), upM_ne 21 (by decide)]
    refine ⟨by rw [key _ (by omega) (by omega)]; exact a1, by rw [key _ (by omega) (by omega)]; exact a2, ?_, ?_⟩
    · by_cases h : s = t + w
      · subst h
        rw [if_pos ⟨by omega, by omega⟩, upM_ne 21 (by decide), upM_get, if_pos rfl, if_pos (by omega), Nat.add_sub_cancel]
      · rw [key _ (by omega) (by omega), a3]
        exact if_eq ⟨fun q => ⟨q.1, by omega⟩, fun q => ⟨q.1, by omega⟩⟩
    · by_cases h : s = t
      · subst h
        rw [if_pos (by omega), upM_ne 21 (by decide), upM_get, if_pos rfl, if_neg (by omega), upM_get, if_pos rfl, if_pos rfl]
      · rw [key _ (by omega) (by omega), a4]
        exact if_eq ⟨fun q => by omega, fun q => by omega⟩
theorem dn_le {w h : Nat} (h1 : 1 ≤ w) (h2 : w ≤ 6) (h4 : h ≤ 6) : w * h - w ≤ 30 := by
  rcases wcs h1 h2 with rfl | rfl | rfl | rfl | rfl | rfl <;> omega
theorem wh_w {w h : Nat} (h3 : 1 ≤ h) : w ≤ w * h := Nat.le_mul_of_pos_right w (by omega)
theorem dn_loop (n : Nat) {w h : Nat} (h1 : 1 ≤ w) (h2 : w ≤ 6) (h3 : 1 ≤ h) (h4 : h ≤ 6) (I0 : MI) (J : MJ) : ∀ q t I, t ≤ w * h - w → w * h - w < q + t → dnOk w h t I → (∀ a, a ≠ 19 → a ≠ 20 → a ≠ 21 → a ≠ 16 → I a = I0 a) → (∀ j, j ≠ 2 → I 16 j = I0 16 j) → I0 16 1 = nI (w * h) → tot (lX2_shape_195 n q (nI w) (nI t) I J) (fun r => r.2 = J ∧ dnOk w h (w * h - w) r.1 ∧ (∀ a, a ≠ 19 → a ≠ 20 → a ≠ 21 → a ≠ 16 → r.1 a = I0 a) ∧ (∀ j, j ≠ 2 → r.1 16 j = I0 16 j)) := by
  intro q
  have hwh := wh_le h2 h4
  have hww := wh_w (w := w) h3
  have hd30 := dn_le h1 h2 h4
  have hj30 := hw_le h2 h4
  induction q with
  | zero => intro t I a b; omega
  | succ q ih =>
    intro t I ht hq hr hf hf16 hT
    show tot (fX2_shape_195 n (lX2_shape_195 n q) (nI w) (nI t) I J) _
    unfold fX2_shape_195
    rw [hf16 1 (by decide), hT, pk_sub hww]
    by_cases he : t = w * h - w
    · rw [he, if_pos (Int32.le_refl _)]
      rw [he] at hr
      exact tot_some.mpr ⟨rfl, hr, hf, hf16⟩
    · rw [if_neg (nI_ge (by omega) (by omega)), nI_add, show (3 : Int32) = nI 3 from rfl, show (0 : Int32) = nI 0 from rfl, addJoint_eq n (d1 := 3) (d2 := 0) I J (show h * (w - 1) + t < 60 by omega) hr.1 (by omega) (by omega), nI_1]
      refine tot_to rfl ?_
      refine ih (t + 1) _ (by omega) (by omega) (dn_up h1 h2 h4 (by omega) hr) (fun a g1 g2 g3 g4 => ?_) (fun j hj => ?_) hT
      · dsimp only; rw [upM_ne a g4, upM_ne a g3, upM_ne a g3, upM_ne a g2, upM_ne a g1]; exact hf a g1 g2 g3 g4
      · dsimp only; rw [upM_get, if_pos rfl, if_neg hj, upM_ne 16 (by decide), upM_ne 16 (by decide), upM_ne 16 (by decide), upM_ne 16 (by decide)]; exact hf16 j hj
/-- the grid as shape leaves it -/
def grOk (w h r k : Nat) (I : MI) : Prop := I 16 0 = nI k ∧ I 16 1 = nI (w * h) ∧ I 16 8 = nI r ∧ colOk w (w * h) I ∧ dnOk w h (w * h - w) I
theorem shape_ok (n : Nat) (hn : 144 < n) {w h r k : Nat} (h1 : 1 ≤ w) (h2 : w ≤ 6) (h3 : 1 ≤ h) (h4 : h ≤ 6) (I : MI) (J : MJ) : tot (fX2_shape n (nI w) (nI h) (nI r) (nI k) I J) (fun q => q.2 = upN J 16 9 0 ∧ grOk w h r k q.1 ∧ ∀ a, (a < 16 ∨ 21 < a) → q.1 a = I a) := by
  have hwh := wh_le h2 h4
  unfold fX2_shape
  simp only [lt]
  rw [pk_mul, fill_eq n 21 144 (-1) _ _ (by decide) (by decide) (by decide +kernel) hn]
  refine tot_to rfl ?_
  generalize hI1 : upM (upM (upM (upM I 16 8 (nI r)) 16 0 (nI k)) 16 1 (nI (w * h))) 16 2 0 = I1
  have f21 : ∀ p, p < 144 → fillc I1 21 144 (-1) 21 p = -1 := fun p hp => if_pos ⟨rfl, hp⟩
  have fa : ∀ a, a ≠ 21 → fillc I1 21 144 (-1) a = I1 a := fun a ha => by funext b; exact if_neg (fun q => ha q.1)
  have g1 : ∀ j, fillc I1 21 144 (-1) 16 j = if j = 2 then 0 else if j = 1 then nI (w * h) else if j = 0 then nI k else if j = 8 then nI r else I 16 j := by
    intro j
    rw [fa 16 (by decide), ← hI1]
    simp [upM_get]
  refine col_loop n h1 h2 h4 (fillc I1 21 144 (-1)) _ _ (fun I2 c2 t2 f2 => ?_) n 0 _ (Nat.zero_le _) (by omega) (fun b hb => by omega) (by dsimp only; rw [g1]; rfl) (fun a _ _ => rfl)
  refine row_loop n h1 h2 h4 I2 _ _ c2 (fun I3 r3 f3 f16 => ?_) n 0 I2 (Nat.zero_le _) (by omega) ⟨?_, fun s hs => by omega, fun s hs => ?_⟩ (fun a _ _ _ _ => rfl) (fun j _ => rfl) t2
  · refine tot_mono (dn_loop n h1 h2 h3 h4 I3 _ n 0 I3 (Nat.zero_le _) (by omega) (dn_0 h1 h2 r3) (fun a _ _ _ _ => rfl) (fun j _ => rfl) (by rw [f16 1 (by decide)]; exact t2)) ?_
    intro q ⟨q1, q2, q3, q4⟩
    have e16 : ∀ j, j ≠ 2 → q.1 16 j = fillc I1 21 144 (-1) 16 j := by
      intro j hj
      rw [q4 j hj, f16 j hj, f2 16 (by decide) (by decide)]
    refine ⟨q1, ⟨?_, ?_, ?_, fun b hb => ?_, q2⟩, fun a ha => ?_⟩
    · rw [e16 0 (by decide), g1]; rfl
    · rw [e16 1 (by decide), g1]; rfl
    · rw [e16 8 (by decide), g1]; rfl
    · rw [q3 17 (by decide) (by decide) (by decide) (by decide), q3 18 (by decide) (by decide) (by decide) (by decide), f3 17 (by decide) (by decide) (by decide) (by decide), f3 18 (by decide) (by decide) (by decide) (by decide)]
      exact c2 b hb
    · rw [q3 a (by omega) (by omega) (by omega) (by omega), f3 a (by omega) (by omega) (by omega) (by omega), f2 a (by omega) (by omega), fa a (by omega), ← hI1, upM_ne a (by omega), upM_ne a (by omega), upM_ne a (by omega), upM_ne a (by omega)]
  · rw [f2 16 (by decide) (by decide), g1]
    unfold jr
    rw [Nat.zero_div, Nat.zero_mod, if_pos rfl, Nat.zero_mul]
    rfl
  · rw [f2 21 (by decide) (by decide)]
    refine ⟨?_, ?_, f21 _ (by omega), f21 _ (by omega)⟩
    · rw [f21 _ (by omega), if_neg (by omega)]
    · rw [f21 _ (by omega), if_neg (by omega)]
