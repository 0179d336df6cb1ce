/-! bend: the bytes of two TILES lie apart -/
def fOk (I : MI) (t st fs : Nat) : Prop := 1 ≤ fs ∧ fs ≤ 37 ∧ st + fs ≤ 324 ∧ I 36 t = nI st ∧ I 36 (t + 1) = nI (st + fs) ∧ I 69 t = nI fs ∧ ∀ j, j < fs → I 35 (st + j) = I 68 (40 * t + j) ∧ ∃ v, v < 256 ∧ I 68 (40 * t + j) = nI v
theorem f_mono {I : MI} {T : Nat} (hall : ∀ t, t < T → ∃ st fs, fOk I t st fs) : ∀ (d t st fs st2 fs2 : Nat), t + 1 + d < T → fOk I t st fs → fOk I (t + 1 + d) st2 fs2 → st + fs ≤ st2 := by
  intro d
  induction d with
  | zero =>
    intro t st fs st2 fs2 h a b
    have e : nI (st + fs) = nI st2 := a.2.2.2.2.1.symm.trans b.2.2.2.1
    have := (nI_eq (a := st + fs) (b := st2) (by have := a.2.2.1; omega) (by have := b.2.2.1; omega)).mp e
    omega
  | succ d ih =>
    intro t st fs st2 fs2 h a b
    obtain ⟨st3, fs3, g⟩ := hall (t + 1 + d) (by omega)
    have h1 := ih t st fs st3 fs3 (by omega) a g
    have e : nI (st3 + fs3) = nI st2 := g.2.2.2.2.1.symm.trans (by rw [show t + 1 + d + 1 = t + 1 + (d + 1) by omega]; exact b.2.2.2.1)
    have := (nI_eq (a := st3 + fs3) (b := st2) (by have := g.2.2.1; omega) (by have := b.2.2.1; omega)).mp e
    omega
theorem f_apart {I : MI} {T : Nat} (hall : ∀ t, t < T → ∃ st fs, fOk I t st fs) {t t2 st fs st2 fs2 j j2 : Nat} (h1 : t < T) (h2 : t2 < T) (a : fOk I t st fs) (b : fOk I t2 st2 fs2) (hj : j < fs) (hj2 : j2 < fs2) (hne : t ≠ t2) : st + j ≠ st2 + j2 := by
  rcases Nat.lt_or_gt_of_ne hne with h | h
  · have := f_mono hall (t2 - t - 1) t st fs st2 fs2 (by omega) a (by rw [show t + 1 + (t2 - t - 1) = t2 by omega]; exact b)
    omega
  · have := f_mono hall (t - t2 - 1) t2 st2 fs2 st fs (by omega) b (by rw [show t2 + 1 + (t - t2 - 1) = t by omega]; exact a)
    omega
theorem PF_bend {I : MI} {T t st fs j : Nat} {x : Int32} (hT : T ≤ 36) (eT : I 16 1 = nI T) (hall : ∀ t, t < T → ∃ st fs, fOk I t st fs) (ht : t < T) (ho : fOk I t st fs) (hj : j < fs) (hx : ∃ v, v < 256 ∧ x = nI v) : PF (upM (upM I 35 (st + j) x) 68 (40 * t + j) x) := by
  intro _
  have k36 : ∀ a, a ≠ 35 → a ≠ 68 → upM (upM I 35 (st + j) x) 68 (40 * t + j) x a = I a := fun a p1 p2 => by rw [upM_ne a p2, upM_ne a p1]
  have k35 : ∀ p, upM (upM I 35 (st + j) x) 68 (40 * t + j) x 35 p = if p = st + j then x else I 35 p := fun p => by rw [upM_ne 35 (by decide), upM_get, if_pos rfl]
  have k68 : ∀ p, upM (upM I 35 (st + j) x) 68 (40 * t + j) x 68 p = if p = 40 * t + j then x else I 68 p := fun p => by rw [upM_get, if_pos rfl, upM_ne 68 (by decide)]
  refine ⟨T, hT, by rw [k36 16 (by decide) (by decide)]; exact eT, fun t2 h2 => ?_⟩
  obtain ⟨st2, fs2, g⟩ := hall t2 h2
  obtain ⟨a1, a2, a3, a4, a5, a6, a7⟩ := id g
  refine ⟨st2, fs2, a1, a2, a3, by rw [k36 36 (by decide) (by decide)]; exact a4, by rw [k36 36 (by decide) (by decide)]; exact a5, by rw [k36 69 (by decide) (by decide)]; exact a6, fun i hi => ?_⟩
  rw [k35, k68]
  by_cases htt : t2 = t
  · subst htt
    have est : st2 = st := (nI_eq (by omega) (by have := ho.2.2.1; omega)).mp (a4.symm.trans ho.2.2.2.1)
    subst est
    by_cases hij : i = j
    · subst hij
      rw [if_pos rfl, if_pos rfl]
      exact ⟨rfl, hx⟩
    · rw [if_neg (by omega), if_neg (by omega)]
      exact a7 i hi
  · have hne := f_apart hall h2 ht g ho hi hj htt
    have hfs := ho.2.1
    rw [if_neg hne, if_neg (by omega)]
    exact a7 i hi
