/-! bend: the bytes of two TILES lie apart -/
def fOk (I : MI) (t st fs : Nat) : Prop := 1 ≤ fs ∧ fs ≤ 37 ∧ st + fs ≤ 324 ∧ I 36 t = nI st ∧ I 36 (t + 1) = nI (st + fs) ∧ I 69 t = nI fs ∧ ∀ j, j < fs → I 35 (st + j) = I 68 (40 * t + j) ∧ ∃ v, v < 256 ∧ I 68 (40 * t + j) = nI v
theorem f_mono {I : MI} {T : Nat} (hall : ∀ t, t < T → ∃ st fs, fOk I t st fs) : ∀ (d t st fs st2 fs2 : Nat), t + 1 + d < T → fOk I t st fs → fOk I (t + 1 + d) st2 fs2 → st + fs ≤ st2 := by
  intro d
  induction d with
  | zero =>
    intro t st fs st2 fs2 h a b
    have e : nI (st + fs) = nI st2 := a.2.2.2.2.1.symm.trans b.2.2.2.1
    have := (nI_eq (a := st + fs) (b := st2) (by have := a.2.2.1; omega) (by have := b.2.2.1; omega)).mp e
    omega
  | succ d ih =>
    intro t st fs st2 fs2 h a b
    obtain ⟨st3, fs3, g⟩ := hall (t + 1 + d) (by omega)
    have h1 := ih t st fs st3 fs3 (by omega) a g
    have e : nI (st3 + fs3) = nI st2 := g.2.2.2.2.1.symm.trans (by rw [show t + 1 + d + 1 = t + 1 + (d + 1) by omega]; exact b.2.2.2.1)
    have := (nI_eq (a := st3 + fs3) (b := st2) (by have := g.2.2.1; omega) (by have := b.2.2.1; omega)).mp e
    omega
theorem f_apart {I : MI} {T : Nat} (hall : ∀ t, t < T → ∃ st fs, fOk I t st fs) {t t2 st fs st2 fs2 j j2 : Nat} (h1 : t < T) (h2 : t2 < T) (a : fOk I t st fs) (b : fOk I t2 st2 fs2) (hj : j < fs) (hj2 : j2 < fs2) (hne : t ≠ t2) : st + j ≠ st2 + j2 := by
  rcases Nat.lt_or_gt_of_ne hne with h | h
  · have := f_mono hall (t2 - t - 1) t st fs st2 fs2 (by omega) a (by rw [show t + 1 + (t2 - t - 1) = t2 by omega]; exact b)
    omega
  · have := f_mono hall (t - t2 - 1) t2 st2 fs2 st fs (by omega) b (by rw [show t2 + 1 + (t - t2 - 1) = t by omega]; exact a)
    omega
